/-! a ray taken back -/
def backS (k : Nat) (s : Bool) (t : Nat) : Bool := if k = 1 then !s else if k = 5 ∧ t = 0 then !s else s
def backT (k m t : Nat) : Nat := if k = 5 then (if t = 0 then 1 + m % 3 else t - 1) else t
def nextF {A : Type} (R C w r c : Nat) (F : Nat → Nat → A) (G : Nat → A) : A :=
  if w = 0 then (if r = 0 then G c else F (r - 1) c) else if w = 1 then (if c + 1 = C then G (C + r) else F r (c + 1)) else if w = 2 then (if r + 1 = R then G (C + R + c) else F (r + 1) c) else (if c = 0 then G (2 * C + R + r) else F r (c - 1))
abbrev BES : Type := Nat × (Nat → Bool) × (Nat → Nat) × (Nat → Nat)
def bayF (R C : Nat) (K M : Nat → Nat) : Nat → Nat → Nat → Nat → (Nat → Bool) → (Nat → Nat) → (Nat → Nat) → BES
  | 0, _, _, _, S, T, L => (100, S, T, L)
  | f + 1, r, c, w, S, T, L =>
    if stp (K (r * C + c)) then (100, S, T, L)
    else
      nextF R C (if thr (K (r * C + c)) then bend w (backS (K (r * C + c)) (S (r * C + c)) (T (r * C + c))) else w) r c
        (fun r' c' => bayF R C K M f r' c' (if thr (K (r * C + c)) then bend w (backS (K (r * C + c)) (S (r * C + c)) (T (r * C + c))) else w) (if thr (K (r * C + c)) then upB S (r * C + c) (backS (K (r * C + c)) (S (r * C + c)) (T (r * C + c))) else S) (if thr (K (r * C + c)) then upN T (r * C + c) (backT (K (r * C + c)) (M (r * C + c)) (T (r * C + c))) else T) (upN L (r * C + c) (L (r * C + c) - 1)))
        (fun out => (out, (if thr (K (r * C + c)) then upB S (r * C + c) (backS (K (r * C + c)) (S (r * C + c)) (T (r * C + c))) else S), (if thr (K (r * C + c)) then upN T (r * C + c) (backT (K (r * C + c)) (M (r * C + c)) (T (r * C + c))) else T), (upN L (r * C + c) (L (r * C + c) - 1))))
def bay (R C : Nat) (K M : Nat → Nat) (win : Nat) (S : Nat → Bool) (T L : Nat → Nat) : BES :=
  bayF R C K M 5000 (entR R C win) (entC R C win) (entW R C win) S T L
section BLEAF
variable {h : Mem} {a q t R C : Nat} {K M T L : Nat → Nat} {S : Nat → Bool}
theorem h_lightDown (hl : gI h (a + 3) q = iI (L q)) (hL : L q ≤ 9999) (hq : q < 25) : f_X3_lightDown h a (iI q) = some (sI h (a + 3) q (iI (L q - 1 : Nat))) := by
  unfold f_X3_lightDown
  simp (disch := omega) only [iI_add, iI_sub, iI_mul, iI_neg, ald_i, ast_i, aldL_i, astL_i, tld_i, rng_i, acp_i, nz_i, rZ0, rZ1, cal_some, cal2_some, join_eq, nm_eq, gI_same, gI_ne, gL_same, gL_ne, gI_sL, gL_sI, iI_lt, iI_le, iI_eq, iI_zero, mnI_i, mxI_i, if_pos, if_neg, ifT, ifF, not_true_eq_false, not_false_eq_true, Int.toNat_natCast, hl]
  congr 3
  omega
theorem h_turnBack (hk : gI h (a + 1) q = iI (K q)) (hm : gI h (a + 2) q = iI (M q)) (hs : gI h a 5 = slW S) (ht : gL h a 6 = tmW T) (hK : K q ≤ 6) (hM : M q ≤ 9) (hT : ∀ p, T p < 2 + M p % 3) (hq : q < 25) :
    ∃ h2, f_X3_turnBack h a (iI q) = some h2 ∧ gI h2 a 5 = slW (upB S q (backS (K q) (S q) (T q))) ∧ gL h2 a 6 = tmW (upN T q (backT (K q) (M q) (T q))) ∧ (∀ b k, b ≠ a ∨ k ≠ 5 → gI h2 b k = gI h b k) ∧ (∀ b k, b ≠ a ∨ k ≠ 6 → gL h2 b k = gL h b k) := by
  have hT4 : ∀ p, T p < 4 := fun p => by have := hT p; omega
  unfold f_X3_turnBack
  rw [ald_i (by omega) (by omega), ald_i (by omega) (by omega), Int.toNat_natCast, hk]
  have hTq := hT q
  by_cases h1 : K q = 1
  · simp (disch := omega) only [iI_add, iI_sub, iI_mul, iI_neg, ald_i, ast_i, aldL_i, astL_i, tld_i, rng_i, acp_i, nz_i, rZ0, rZ1, cal_some, cal2_some, join_eq, nm_eq, gI_same, gI_ne, gL_same, gL_ne, gI_sL, gL_sI, iI_lt, iI_le, iI_eq, iI_zero, mnI_i, mxI_i, if_pos, if_neg, ifT, ifF, not_true_eq_false, not_false_eq_true, Int.toNat_natCast]
    refine ⟨_, by rw [h_flip hs hq]; rfl, ?_⟩
    refine ⟨?_, ?_, fun b k hb => gI_ne hb, fun b k _ => rfl⟩
    · rw [gI_same]; unfold backS; rw [if_pos h1]
    · rw [gL_sI, ht]; unfold backT; rw [if_neg (by omega), upN_self]
  · by_cases h5 : K q = 5
    · rw [h_timeOf ht hT4 hq, h_slowness hm hM hq]
      by_cases h2 : T q = 0
      · simp (disch := omega) only [iI_add, iI_sub, iI_mul, iI_neg, ald_i, ast_i, aldL_i, astL_i, tld_i, rng_i, acp_i, nz_i, rZ0, rZ1, cal_some, cal2_some, join_eq, nm_eq, gI_same, gI_ne, gL_same, gL_ne, gI_sL, gL_sI, iI_lt, iI_le, iI_eq, iI_zero, mnI_i, mxI_i, if_pos, if_neg, ifT, ifF, not_true_eq_false, not_false_eq_true, Int.toNat_natCast]
        rw [show ((2 + M q % 3 : Nat) : Int) - 1 = ((1 + M q % 3 : Nat) : Int) by omega, h_putTime ht hT4 hq (by omega)]
        simp (disch := omega) only [iI_add, iI_sub, iI_mul, iI_neg, ald_i, ast_i, aldL_i, astL_i, tld_i, rng_i, acp_i, nz_i, rZ0, rZ1, cal_some, cal2_some, join_eq, nm_eq, gI_same, gI_ne, gL_same, gL_ne, gI_sL, gL_sI, iI_lt, iI_le, iI_eq, iI_zero, mnI_i, mxI_i, if_pos, if_neg, ifT, ifF, not_true_eq_false, not_false_eq_true, Int.toNat_natCast]
        rw [h_flip (S := S) (by rw [gI_sL]; exact hs) hq]
        refine ⟨_, rfl, ?_, ?_, fun b k hb => ?_, fun b k hb => ?_⟩
        · rw [gI_same]; unfold backS; rw [if_neg h1, if_pos ⟨h5, h2⟩]
        · rw [gL_sI, gL_same]; unfold backT; rw [if_pos h5, if_pos h2]
        · rw [gI_ne hb, gI_sL]
        · rw [gL_sI, gL_ne hb]
      · simp (disch := omega) only [iI_add, iI_sub, iI_mul, iI_neg, ald_i, ast_i, aldL_i, astL_i, tld_i, rng_i, acp_i, nz_i, rZ0, rZ1, cal_some, cal2_some, join_eq, nm_eq, gI_same, gI_ne, gL_same, gL_ne, gI_sL, gL_sI, iI_lt, iI_le, iI_eq, iI_zero, mnI_i, mxI_i, if_pos, if_neg, ifT, ifF, not_true_eq_false, not_false_eq_true, Int.toNat_natCast]
        rw [show (T q : Int) - 1 = ((T q - 1 : Nat) : Int) by omega, h_putTime ht hT4 hq (by omega)]
        simp (disch := omega) only [iI_add, iI_sub, iI_mul, iI_neg, ald_i, ast_i, aldL_i, astL_i, tld_i, rng_i, acp_i, nz_i, rZ0, rZ1, cal_some, cal2_some, join_eq, nm_eq, gI_same, gI_ne, gL_same, gL_ne, gI_sL, gL_sI, iI_lt, iI_le, iI_eq, iI_zero, mnI_i, mxI_i, if_pos, if_neg, ifT, ifF, not_true_eq_false, not_false_eq_true, Int.toNat_natCast]
        refine ⟨_, rfl, ?_, ?_, fun b k hb => ?_, fun b k hb => ?_⟩
        · rw [gI_sL, hs]; unfold backS; rw [if_neg h1, if_neg (fun z => h2 z.2), upB_self]
        · rw [gL_same]; unfold backT; rw [if_pos h5, if_neg h2]
        · rw [gI_sL]
        · rw [gL_ne hb]
    · simp (disch := omega) only [iI_add, iI_sub, iI_mul, iI_neg, ald_i, ast_i, aldL_i, astL_i, tld_i, rng_i, acp_i, nz_i, rZ0, rZ1, cal_some, cal2_some, join_eq, nm_eq, gI_same, gI_ne, gL_same, gL_ne, gI_sL, gL_sI, iI_lt, iI_le, iI_eq, iI_zero, mnI_i, mxI_i, if_pos, if_neg, ifT, ifF, not_true_eq_false, not_false_eq_true, Int.toNat_natCast]
      refine ⟨_, rfl, ?_, ?_, fun b k hb => rfl, fun b k hb => rfl⟩
      · rw [hs]; unfold backS; rw [if_neg h1, if_neg (fun z => h5 z.1), upB_self]
      · rw [ht]; unfold backT; rw [if_neg h5, upN_self]
theorem backT_lt {k m t : Nat} (h : t < 2 + m % 3) : backT k m t < 2 + m % 3 := by
  unfold backT
  split
  · split
    · omega
    · omega
  · exact h
theorem VD.back {q l k : Nat} {s x : Bool} (hD : VD R C M S T L) (hq : q < R * C) (hl : l ≤ 9999) : VD R C M (if x then upB S q s else S) (if x then upN T q (backT k (M q) (T q)) else T) (upN L q l) := by
  cases x
  · exact hD.lit hl
  · refine ⟨fun p => ?_, fun p => ?_, fun p hp => ?_⟩
    · show upN T q (backT k (M q) (T q)) p < _
      unfold upN; split
      · next h => rw [h]; exact backT_lt (hD.1 q)
      · exact hD.1 p
    · unfold upN; split
      · exact hl
      · exact hD.2.1 p
    · have hn : p ≠ q := by omega
      show upB S q s p = false ∧ upN T q (backT k (M q) (T q)) p = 0
      unfold upB upN
      rw [if_neg hn, if_neg hn]
      exact hD.2.2 p hp
end BLEAF
section BACK
variable {h0 : Mem} {a b R C : Nat} {K M : Nat → Nat}
theorem w_go2 (hV : VS R C K M) (hab : b < a ∨ a + 3 < b) {h : Mem} {S : Nat → Bool} {T L : Nat → Nat} {r c w n : Nat} {Kc : Int32 → Mem → Option (Int32 × Mem)} (hh : HC h a R C K M S T L) (h0' : gI h b 0 = iI r) (h1' : gI h b 1 = iI c) (h2' : gI h b 2 = iI w) (hr : r < R) (hc : c < C) (hw : w < 4) (hn : n < 5000) :
    (∃ h', f_X0_runBack_k11 b a (iI n) Kc h = Kc (iI (n + 1 : Nat)) h' ∧ ∃ r' c', r' < R ∧ c' < C ∧ gI h' b 0 = iI (r' : Nat) ∧ gI h' b 1 = iI (c' : Nat) ∧ (∀ x k, (x ≠ b ∨ 2 ≤ k) → gI h' x k = gI h x k) ∧ (∀ x k, gL h' x k = gL h x k) ∧
      (∀ (F : Nat → Nat → BES) G, nextF R C w r c F G = F r' c')) ∨
    (∃ h' out, f_X0_runBack_k11 b a (iI n) Kc h = some (iI (out : Nat), h') ∧ (∀ x k, (x ≠ b ∨ 2 ≤ k) → gI h' x k = gI h x k) ∧ (∀ x k, gL h' x k = gL h x k) ∧
      (∀ (F : Nat → Nat → BES) G, nextF R C w r c F G = G out) ∧ out ≠ 100 ∧ out < 100) := by
  obtain ⟨v1, v2, v3, v4, -, -⟩ := hV
  have hR := hh.1
  have hC := hh.2.1
  unfold f_X0_runBack_k11 nextF
  rw [w_goOn (r := r) (c := c) h0' h1' h2' hw, cal_some]
  rcases (show w = 0 ∨ w = 1 ∨ w = 2 ∨ w = 3 by omega) with rfl | rfl | rfl | rfl
  · simp only [if_true]
    rw [w_isOut (R := R) (C := C) (r := r - 1) (c := c) (a := a) gI_same (by rw [gI_ne (by omega)]; exact h1') (by rw [gI_ne (by omega)]; exact hR) (by rw [gI_ne (by omega)]; exact hC) (by omega) (by omega) v2 v4, cal_some]
    by_cases e : r = 0
    · right
      refine ⟨(sI h b 0 (iI ((r : Int) - 1))), c, ?_, fun x k hx => gI_ne (by omega), fun x k => rfl, fun F G => if_pos e, by omega, by omega⟩
      rw [show decide ((r : Int) - 1 < 0 ∨ (R : Int) ≤ r - 1 ∨ (c : Int) < 0 ∨ (C : Int) ≤ c) = true from decide_eq_true (by omega), if_neg (by decide), w_window (R := R) (C := C) (r := r - 1) (c := c) (a := a) gI_same (by rw [gI_ne (by omega)]; exact h1') (by rw [gI_ne (by omega)]; exact hR) (by rw [gI_ne (by omega)]; exact hC) (by omega) (by omega) v2 v4, cal_some, if_pos (by omega)]
    · left
      refine ⟨(sI h b 0 (iI ((r : Int) - 1))), ?_, r - 1, c, by omega, hc, ?_, ?_, fun x k hx => gI_ne (by omega), fun x k => rfl, fun F G => if_neg e⟩
      · rw [show decide ((r : Int) - 1 < 0 ∨ (R : Int) ≤ r - 1 ∨ (c : Int) < 0 ∨ (C : Int) ≤ c) = false from decide_eq_false (by omega), if_pos (by decide), nm_eq, iI_add]
        rfl
      · rw [gI_same]; congr 1; omega
      · rw [gI_ne (by omega)]; exact h1'
  · simp only [if_true, show ¬ (1 = 0) by omega, if_false]
    rw [w_isOut (R := R) (C := C) (r := r) (c := c + 1) (a := a) (by rw [gI_ne (by omega)]; exact h0') gI_same (by rw [gI_ne (by omega)]; exact hR) (by rw [gI_ne (by omega)]; exact hC) (by omega) (by omega) v2 v4, cal_some]
    by_cases e : c + 1 = C
    · right
      refine ⟨(sI h b 1 (iI ((c : Int) + 1))), C + r, ?_, fun x k hx => gI_ne (by omega), fun x k => rfl, fun F G => if_pos e, by omega, by omega⟩
      rw [show decide ((r : Int) < 0 ∨ (R : Int) ≤ r ∨ (c : Int) + 1 < 0 ∨ (C : Int) ≤ c + 1) = true from decide_eq_true (by omega), if_neg (by decide), w_window (R := R) (C := C) (r := r) (c := c + 1) (a := a) (by rw [gI_ne (by omega)]; exact h0') gI_same (by rw [gI_ne (by omega)]; exact hR) (by rw [gI_ne (by omega)]; exact hC) (by omega) (by omega) v2 v4, cal_some, if_neg (by omega), if_pos (by omega)]
      rfl
    · left
      refine ⟨(sI h b 1 (iI ((c : Int) + 1))), ?_, r, c + 1, hr, by omega, ?_, ?_, fun x k hx => gI_ne (by omega), fun x k => rfl, fun F G => if_neg e⟩
      · rw [show decide ((r : Int) < 0 ∨ (R : Int) ≤ r ∨ (c : Int) + 1 < 0 ∨ (C : Int) ≤ c + 1) = false from decide_eq_false (by omega), if_pos (by decide), nm_eq, iI_add]
        rfl
      · rw [gI_ne (by omega)]; exact h0'
      · rw [gI_same]; rfl
  · simp only [if_true, show ¬ (2 = 0) by omega, show ¬ (2 = 1) by omega, if_false]
    rw [w_isOut (R := R) (C := C) (r := r + 1) (c := c) (a := a) gI_same (by rw [gI_ne (by omega)]; exact h1') (by rw [gI_ne (by omega)]; exact hR) (by rw [gI_ne (by omega)]; exact hC) (by omega) (by omega) v2 v4, cal_some]
    by_cases e : r + 1 = R
    · right
      refine ⟨(sI h b 0 (iI ((r : Int) + 1))), C + R + c, ?_, fun x k hx => gI_ne (by omega), fun x k => rfl, fun F G => if_pos e, by omega, by omega⟩
      rw [show decide ((r : Int) + 1 < 0 ∨ (R : Int) ≤ r + 1 ∨ (c : Int) < 0 ∨ (C : Int) ≤ c) = true from decide_eq_true (by omega), if_neg (by decide), w_window (R := R) (C := C) (r := r + 1) (c := c) (a := a) gI_same (by rw [gI_ne (by omega)]; exact h1') (by rw [gI_ne (by omega)]; exact hR) (by rw [gI_ne (by omega)]; exact hC) (by omega) (by omega) v2 v4, cal_some, if_neg (by omega), if_neg (by omega), if_pos (by omega)]
      rfl
    · left
      refine ⟨(sI h b 0 (iI ((r : Int) + 1))), ?_, r + 1, c, by omega, hc, ?_, ?_, fun x k hx => gI_ne (by omega), fun x k => rfl, fun F G => if_neg e⟩
      · rw [show decide ((r : Int) + 1 < 0 ∨ (R : Int) ≤ r + 1 ∨ (c : Int) < 0 ∨ (C : Int) ≤ c) = false from decide_eq_false (by omega), if_pos (by decide), nm_eq, iI_add]
        rfl
      · rw [gI_same]; rfl
      · rw [gI_ne (by omega)]; exact h1'
  · simp only [show ¬ (3 = 0) by omega, show ¬ (3 = 1) by omega, show ¬ (3 = 2) by omega, if_false]
    rw [w_isOut (R := R) (C := C) (r := r) (c := c - 1) (a := a) (by rw [gI_ne (by omega)]; exact h0') gI_same (by rw [gI_ne (by omega)]; exact hR) (by rw [gI_ne (by omega)]; exact hC) (by omega) (by omega) v2 v4, cal_some]
    by_cases e : c = 0
    · right
      refine ⟨(sI h b 1 (iI ((c : Int) - 1))), 2 * C + R + r, ?_, fun x k hx => gI_ne (by omega), fun x k => rfl, fun F G => if_pos e, by omega, by omega⟩
      rw [show decide ((r : Int) < 0 ∨ (R : Int) ≤ r ∨ (c : Int) - 1 < 0 ∨ (C : Int) ≤ c - 1) = true from decide_eq_true (by omega), if_neg (by decide), w_window (R := R) (C := C) (r := r) (c := c - 1) (a := a) (by rw [gI_ne (by omega)]; exact h0') gI_same (by rw [gI_ne (by omega)]; exact hR) (by rw [gI_ne (by omega)]; exact hC) (by omega) (by omega) v2 v4, cal_some, if_neg (by omega), if_neg (by omega), if_neg (by omega)]
      rfl
    · left
      refine ⟨(sI h b 1 (iI ((c : Int) - 1))), ?_, r, c - 1, hr, by omega, ?_, ?_, fun x k hx => gI_ne (by omega), fun x k => rfl, fun F G => if_neg e⟩
      · rw [show decide ((r : Int) < 0 ∨ (R : Int) ≤ r ∨ (c : Int) - 1 < 0 ∨ (C : Int) ≤ c - 1) = false from decide_eq_false (by omega), if_pos (by decide), nm_eq, iI_add]
        rfl
      · rw [gI_ne (by omega)]; exact h0'
      · rw [gI_same]; congr 1; omega
end BACK
