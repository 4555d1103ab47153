theorem ifT {α : Sort _} {a b : α} : (if True then a else b) = a := if_pos trivial
theorem ifF {α : Sort _} {a b : α} : (if False then a else b) = b := if_neg id
theorem gI_same {h : Mem} {a k : Nat} {v : Int32} : gI (sI h a k v) a k = v := by rw [gI_sI, if_pos ⟨rfl, rfl⟩]
theorem gI_ne {h : Mem} {a k b j : Nat} {v : Int32} (hn : b ≠ a ∨ j ≠ k) : gI (sI h a k v) b j = gI h b j := by rw [gI_sI, if_neg (fun z => by omega)]
theorem gL_same {h : Mem} {a k : Nat} {v : Int64} : gL (sL h a k v) a k = v := by rw [gL_sL, if_pos ⟨rfl, rfl⟩]
theorem gL_ne {h : Mem} {a k b j : Nat} {v : Int64} (hn : b ≠ a ∨ j ≠ k) : gL (sL h a k v) b j = gL h b j := by rw [gL_sL, if_neg (fun z => by omega)]
theorem tm_get2 {T : Nat → Nat} (hT : ∀ q, T q < 4) {q : Nat} (hq : q < 25) : Int64.toInt32 (ushL (tmW T) (iI (2 * (q : Int))) &&& iL 3) = iI (T q) := by
  rw [show (2 * (q : Int)) = ((2 * q : Nat) : Int) by omega]; exact tm_get hT hq
theorem tm_put2 {T : Nat → Nat} (hT : ∀ q, T q < 4) {q t : Nat} (hq : q < 25) (ht : t < 4) : (tmW T &&& (shlL (iL 3) (iI (2 * (q : Int))) ^^^ iL (-1))) ||| shlL (Int32.toInt64 (iI t)) (iI (2 * (q : Int))) = tmW (upN T q t) := by
  rw [show (2 * (q : Int)) = ((2 * q : Nat) : Int) by omega]; exact tm_put hT hq ht
theorem upB_self {S : Nat → Bool} {q : Nat} : upB S q (S q) = S := by funext i; unfold upB; split <;> simp_all
theorem upN_self {T : Nat → Nat} {q : Nat} : upN T q (T q) = T := by funext i; unfold upN; split <;> simp_all
theorem upN_upN {T : Nat → Nat} {q a b : Nat} : upN (upN T q a) q b = upN T q b := by funext i; unfold upN; split <;> simp_all
theorem upB_same {S : Nat → Bool} {q : Nat} {b : Bool} : upB S q b q = b := if_pos rfl
theorem upN_same {T : Nat → Nat} {q t : Nat} : upN T q t q = t := if_pos rfl
/-! what a ray does: R rows, C columns, K kinds, M numbers, S slants, T times, L lit -/
def thr (k : Nat) : Bool := k == 1 || k == 4 || k == 5
def stp (k : Nat) : Bool := k == 3 || k == 6
def turnS (k m : Nat) (s : Bool) (t : Nat) : Bool := if k = 1 then !s else if k = 5 ∧ t + 1 = 2 + m % 3 then !s else s
def turnT (k m t : Nat) : Nat := if k = 5 then (if t + 1 = 2 + m % 3 then 0 else t + 1) else t
def bend (w : Nat) (s : Bool) : Nat := if s then 3 - w else if w = 0 then 1 else if w = 1 then 0 else if w = 2 then 3 else 2
abbrev RES : Type := Nat × (Nat → Bool) × (Nat → Nat) × (Nat → Nat) × Nat × (Nat → Bool) × Nat × Int
def rayF (R C : Nat) (K M : Nat → Nat) (wt : Int) : Nat → Nat → Nat → Nat → (Nat → Bool) → (Nat → Nat) → (Nat → Nat) → Nat → (Nat → Bool) → Nat → Int → RES
  | 0, _, _, _, S, T, L, th, se, n, sw => (100, S, T, L, th, se, n, sw)
  | f + 1, r, c, w, S, T, L, th, se, n, sw =>
    let q := r * C + c
    let sw1 : Int := if (n : Int) = wt then (q : Int) else sw
    let L1 := upN L q (min 9999 (L q + 1))
    let se1 := upB se q true
    if stp (K q) then (100, S, T, L1, th, se1, n + 1, sw1)
    else
      let w1 := if thr (K q) then bend w (S q) else w
      let th1 := if thr (K q) then th + 1 else th
      let S1 := if thr (K q) then upB S q (turnS (K q) (M q) (S q) (T q)) else S
      let T1 := if thr (K q) then upN T q (turnT (K q) (M q) (T q)) else T
      if w1 = 0 then (if r = 0 then (c, S1, T1, L1, th1, se1, n + 1, sw1) else rayF R C K M wt f (r - 1) c w1 S1 T1 L1 th1 se1 (n + 1) sw1)
      else if w1 = 1 then (if c + 1 = C then (C + r, S1, T1, L1, th1, se1, n + 1, sw1) else rayF R C K M wt f r (c + 1) w1 S1 T1 L1 th1 se1 (n + 1) sw1)
      else if w1 = 2 then (if r + 1 = R then (C + R + c, S1, T1, L1, th1, se1, n + 1, sw1) else rayF R C K M wt f (r + 1) c w1 S1 T1 L1 th1 se1 (n + 1) sw1)
      else (if c = 0 then (2 * C + R + r, S1, T1, L1, th1, se1, n + 1, sw1) else rayF R C K M wt f r (c - 1) w1 S1 T1 L1 th1 se1 (n + 1) sw1)
/-- the square behind a window, and the way -/
def entR (R C w : Nat) : Nat := if w < C then 0 else if w < C + R then w - C else if w < 2 * C + R then R - 1 else w - 2 * C - R
def entC (R C w : Nat) : Nat := if w < C then w else if w < C + R then C - 1 else if w < 2 * C + R then w - C - R else 0
def entW (R C w : Nat) : Nat := if w < C then 2 else if w < C + R then 3 else if w < 2 * C + R then 0 else 1
def ray (R C : Nat) (K M : Nat → Nat) (wt : Int) (win : Nat) (S : Nat → Bool) (T L : Nat → Nat) (sw : Int) : RES :=
  rayF R C K M wt 5000 (entR R C win) (entC R C win) (entW R C win) S T L 0 (fun _ => false) 0 sw
/-! the class's squares -/
section LEAF
variable {h : Mem} {a q t : Nat} {K M T : Nat → Nat} {S : Nat → Bool}
theorem h_stops {k : Nat} (hk : k ≤ 6) : f_X3_stopsRays h (iI k) = some (bn (stp k)) := by
  unfold f_X3_stopsRays
  rcases (show k = 0 ∨ k = 1 ∨ k = 2 ∨ k = 3 ∨ k = 4 ∨ k = 5 ∨ k = 6 by omega) with rfl | rfl | rfl | rfl | rfl | rfl | rfl <;> rfl
theorem h_throws {k : Nat} (hk : k ≤ 6) : f_X3_throwsRays h (iI k) = some (bn (thr k)) := by
  unfold f_X3_throwsRays
  rcases (show k = 0 ∨ k = 1 ∨ k = 2 ∨ k = 3 ∨ k = 4 ∨ k = 5 ∨ k = 6 by omega) with rfl | rfl | rfl | rfl | rfl | rfl | rfl <;> rfl
theorem h_slantOf (hs : gI h a 5 = slW S) (hq : q < 25) : f_X3_slantOf h a (iI q) = some (bn (S q)) := by
  unfold f_X3_slantOf
  rw [hs, sl_get hq]
theorem h_timeOf (ht : gL h a 6 = tmW T) (hT : ∀ q, T q < 4) (hq : q < 25) : f_X3_timeOf h a (iI q) = some (iI (T q)) := by
  unfold f_X3_timeOf
  rw [ht, iI_mul, tm_get2 hT hq]
theorem h_putTime (ht : gL h a 6 = tmW T) (hT : ∀ q, T q < 4) (hq : q < 25) (h4 : t < 4) : f_X3_putTime h a (iI q) (iI t) = some (sL h a 6 (tmW (upN T q t))) := by
  unfold f_X3_putTime
  rw [ht, iI_mul, tm_put2 hT hq h4]
  rfl
theorem h_flip (hs : gI h a 5 = slW S) (hq : q < 25) : f_X3_flip h a (iI q) = some (sI h a 5 (slW (upB S q (!S q)))) := by
  unfold f_X3_flip
  rw [hs, sl_flip hq]
  rfl
theorem h_slowness (hm : gI h (a + 2) q = iI (M q)) (hM : M q ≤ 9) (hq : q < 25) : f_X3_slowness h a (iI q) = some (iI (2 + M q % 3 : Nat)) := by
  unfold f_X3_slowness
  rw [ald_i (by omega) (by omega), Int.toNat_natCast, hm, nz_i (by omega), iI_rem (by omega) (by omega), iI_add]
  congr 2
theorem h_turn (hk : gI h (a + 1) q = iI (K q)) (hm : gI h (a + 2) q = iI (M q)) (hs : gI h a 5 = slW S) (ht : gL h a 6 = tmW T) (hK : K q ≤ 6) (hM : M q ≤ 9) (hT : ∀ p, T p < 2 + M p % 3) (hq : q < 25) :
    ∃ h2, f_X3_turnByRay h a (iI q) = some h2 ∧ gI h2 a 5 = slW (upB S q (turnS (K q) (M q) (S q) (T q))) ∧ gL h2 a 6 = tmW (upN T q (turnT (K q) (M q) (T q))) ∧ (∀ b k, b ≠ a ∨ k ≠ 5 → gI h2 b k = gI h b k) ∧ (∀ b k, b ≠ a ∨ k ≠ 6 → gL h2 b k = gL h b k) := by
  have hT4 : ∀ p, T p < 4 := fun p => by have := hT p; omega
  unfold f_X3_turnByRay
  rw [ald_i (by omega) (by omega), ald_i (by omega) (by omega), Int.toNat_natCast, hk]
  have hTq := hT q
  by_cases h1 : K q = 1
  · simp (disch := omega) only [iI_add, iI_sub, iI_mul, iI_neg, ald_i, ast_i, aldL_i, astL_i, tld_i, rng_i, acp_i, nz_i, rZ0, rZ1, cal_some, cal2_some, join_eq, nm_eq, gI_same, gI_ne, gL_same, gL_ne, gI_sL, gL_sI, iI_lt, iI_le, iI_eq, iI_zero, mnI_i, mxI_i, if_pos, if_neg, ifT, ifF, not_true_eq_false, not_false_eq_true, Int.toNat_natCast]
    refine ⟨_, by rw [h_flip hs hq]; rfl, ?_⟩
    refine ⟨?_, ?_, fun b k hb => gI_ne hb, fun b k _ => rfl⟩
    · rw [gI_same]; unfold turnS; rw [if_pos h1]
    · rw [gL_sI, ht]; unfold turnT; rw [if_neg (by omega), upN_self]
  · by_cases h5 : K q = 5
    · rw [h_timeOf ht hT4 hq, h_slowness hm hM hq]
      by_cases h2 : T q + 1 = 2 + M q % 3
      · simp (disch := omega) only [iI_add, iI_sub, iI_mul, iI_neg, ald_i, ast_i, aldL_i, astL_i, tld_i, rng_i, acp_i, nz_i, rZ0, rZ1, cal_some, cal2_some, join_eq, nm_eq, gI_same, gI_ne, gL_same, gL_ne, gI_sL, gL_sI, iI_lt, iI_le, iI_eq, iI_zero, mnI_i, mxI_i, if_pos, if_neg, ifT, ifF, not_true_eq_false, not_false_eq_true, Int.toNat_natCast, f_X3_turnByRay_k7]
        rw [show f_X3_putTime h a (iI q) (iI 0) = _ from h_putTime (t := 0) ht hT4 hq (by omega)]
        simp (disch := omega) only [iI_add, iI_sub, iI_mul, iI_neg, ald_i, ast_i, aldL_i, astL_i, tld_i, rng_i, acp_i, nz_i, rZ0, rZ1, cal_some, cal2_some, join_eq, nm_eq, gI_same, gI_ne, gL_same, gL_ne, gI_sL, gL_sI, iI_lt, iI_le, iI_eq, iI_zero, mnI_i, mxI_i, if_pos, if_neg, ifT, ifF, not_true_eq_false, not_false_eq_true, Int.toNat_natCast]
        rw [h_flip (S := S) (by rw [gI_sL]; exact hs) hq]
        refine ⟨_, rfl, ?_, ?_, fun b k hb => ?_, fun b k hb => ?_⟩
        · rw [gI_same]; unfold turnS; rw [if_neg h1, if_pos ⟨h5, h2⟩]
        · rw [gL_sI, gL_same]; unfold turnT; rw [if_pos h5, if_pos h2]
        · rw [gI_ne hb, gI_sL]
        · rw [gL_sI, gL_ne hb]
      · simp (disch := omega) only [iI_add, iI_sub, iI_mul, iI_neg, ald_i, ast_i, aldL_i, astL_i, tld_i, rng_i, acp_i, nz_i, rZ0, rZ1, cal_some, cal2_some, join_eq, nm_eq, gI_same, gI_ne, gL_same, gL_ne, gI_sL, gL_sI, iI_lt, iI_le, iI_eq, iI_zero, mnI_i, mxI_i, if_pos, if_neg, ifT, ifF, not_true_eq_false, not_false_eq_true, Int.toNat_natCast, f_X3_turnByRay_k7]
        have e : (T q : Int) + 1 = ((T q + 1 : Nat) : Int) := by omega
        rw [e, h_putTime ht hT4 hq (by omega)]
        simp (disch := omega) only [iI_add, iI_sub, iI_mul, iI_neg, ald_i, ast_i, aldL_i, astL_i, tld_i, rng_i, acp_i, nz_i, rZ0, rZ1, cal_some, cal2_some, join_eq, nm_eq, gI_same, gI_ne, gL_same, gL_ne, gI_sL, gL_sI, iI_lt, iI_le, iI_eq, iI_zero, mnI_i, mxI_i, if_pos, if_neg, ifT, ifF, not_true_eq_false, not_false_eq_true, Int.toNat_natCast]
        refine ⟨_, rfl, ?_, ?_, fun b k hb => ?_, fun b k hb => ?_⟩
        · rw [gI_sL, hs]; unfold turnS; rw [if_neg h1, if_neg (fun z => h2 z.2), upB_self]
        · rw [gL_same]; unfold turnT; rw [if_pos h5, if_neg h2]
        · rw [gI_sL]
        · rw [gL_ne hb]
    · simp (disch := omega) only [iI_add, iI_sub, iI_mul, iI_neg, ald_i, ast_i, aldL_i, astL_i, tld_i, rng_i, acp_i, nz_i, rZ0, rZ1, cal_some, cal2_some, join_eq, nm_eq, gI_same, gI_ne, gL_same, gL_ne, gI_sL, gL_sI, iI_lt, iI_le, iI_eq, iI_zero, mnI_i, mxI_i, if_pos, if_neg, ifT, ifF, not_true_eq_false, not_false_eq_true, Int.toNat_natCast]
      refine ⟨_, rfl, ?_, ?_, fun b k hb => rfl, fun b k hb => rfl⟩
      · rw [hs]; unfold turnS; rw [if_neg h1, if_neg (fun z => h5 z.1), upB_self]
      · rw [ht]; unfold turnT; rw [if_neg h5, upN_self]
theorem h_lightUp {L : Nat → Nat} (hl : gI h (a + 3) q = iI (L q)) (hL : L q ≤ 9999) (hq : q < 25) : f_X3_lightUp h a (iI q) = some (sI h (a + 3) q (iI (min 9999 (L q + 1) : Nat))) := by
  unfold f_X3_lightUp
  simp (disch := omega) only [iI_add, iI_sub, iI_mul, iI_neg, ald_i, ast_i, aldL_i, astL_i, tld_i, rng_i, acp_i, nz_i, rZ0, rZ1, cal_some, cal2_some, join_eq, nm_eq, gI_same, gI_ne, gL_same, gL_ne, gI_sL, gL_sI, iI_lt, iI_le, iI_eq, iI_zero, mnI_i, mxI_i, if_pos, if_neg, ifT, ifF, not_true_eq_false, not_false_eq_true, Int.toNat_natCast, hl]
  congr 3
  omega
end LEAF
