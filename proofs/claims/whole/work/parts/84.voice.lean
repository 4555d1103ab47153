section VOICEOP
variable {h : Mem} {g : GS} {k0 q n : Nat}
/-- the voice's values and the bodies that ran; k0 the square's own kind, q the square, n its number -/
def caV (q : Nat) (k : Nat) (v : Int32) : Int32 := if k = 2 ∨ k = 6 then (v + iI q) * iI 3 else v + iI q
def caL (k : Nat) : List Int32 := if k = 2 ∨ k = 6 then [iI 30, iI 10] else [iI 10]
def liV (q n : Nat) (k : Nat) (v : Int32) : Int32 := if k = 3 then -(v - iI n) else if k = 6 then (v - iI n) ^^^ iI q else v - iI n
def liL (k : Nat) : List Int32 := if k = 3 then [iI 40, iI 12] else if k = 6 then [iI 70, iI 12] else [iI 12]
def t0V (q k0 : Nat) (v : Int32) : Int32 := caV q k0 v * iI 2
def t0L (k0 : Nat) : List Int32 := iI 11 :: caL k0
def t2V (q n k0 : Nat) (v : Int32) : Int32 := t0V q k0 v - liV q n k0 (iI 1)
def t2L (k0 : Nat) : List Int32 := iI 20 :: (t0L k0 ++ liL k0)
def tuV (q n k0 k : Nat) (v : Int32) : Int32 := if k = 1 ∨ k = 5 then t2V q n k0 v else if k = 4 then t2V q n k0 (v + iI 1) else t0V q k0 v
def tuL (k0 k : Nat) : List Int32 := if k = 1 ∨ k = 5 then t2L k0 else if k = 4 then iI 50 :: t2L k0 else t0L k0
def e0V (q n k0 : Nat) (v : Int32) : Int32 := tuV q n k0 k0 v ^^^ liV q n k0 v
def e0L (k0 : Nat) : List Int32 := iI 13 :: (tuL k0 k0 ++ liL k0)
def teV (q n k0 k : Nat) (v : Int32) : Int32 := if k = 5 then e0V q n k0 v - caV q k0 (iI 2) else if k = 6 then tuV q n k0 k0 v - e0V q n k0 v else e0V q n k0 v
def teL (k0 k : Nat) : List Int32 := if k = 5 then iI 60 :: (e0L k0 ++ caL k0) else if k = 6 then iI 71 :: (tuL k0 k0 ++ e0L k0) else e0L k0
theorem vL_len : ∀ k0, k0 < 7 → ∀ k, k < 7 → (caL k).length ≤ 2 ∧ (liL k).length ≤ 2 ∧ (tuL k0 k).length ≤ 8 ∧ (teL k0 k).length ≤ 25 := by decide +kernel
/-! what a speech does: the count at (x, b), the list at y, the kind, the square, the number behind the count -/
def VcX (x y b : Nat) (h : Mem) (k0 q n : Nat) (tr : List Int32) : Prop := gI h x b = iI tr.length ∧ LSt h y 0 tr ∧ gI h x (b + 1) = iI k0 ∧ gI h x (b + 2) = iI q ∧ gI h x (b + 3) = iI n
def FvX (x y b : Nat) (h h2 : Mem) : Prop := (∀ a k, a ≠ y → (a ≠ x ∨ k ≠ b) → gI h2 a k = gI h a k) ∧ (∀ a k, gL h2 a k = gL h a k)
theorem FvX.tr {x y b : Nat} {h h1 h2 : Mem} (p : FvX x y b h h1) (r : FvX x y b h1 h2) : FvX x y b h h2 := ⟨fun a k p1 p2 => (r.1 a k p1 p2).trans (p.1 a k p1 p2), fun a k => (r.2 a k).trans (p.2 a k)⟩
def SPK (x y b k0 q n : Nat) (o : Mem → Option (Int32 × Mem)) (v : Int32) (l : List Int32) : Prop := ∀ h tr, VcX x y b h k0 q n tr → tr.length + l.length ≤ 40 → ∃ h2, o h = some (v, h2) ∧ VcX x y b h2 k0 q n (tr ++ l) ∧ FvX x y b h h2
variable {x y b : Nat}
theorem VcX.push {tr : List Int32} {w : Int32} (hV : VcX x y b h k0 q n tr) (hxy : x ≠ y) : VcX x y b (sI (sI h y tr.length w) x b (iI ((tr.length : Int) + 1))) k0 q n (tr ++ [w]) ∧ FvX x y b h (sI (sI h y tr.length w) x b (iI ((tr.length : Int) + 1))) := by
  obtain ⟨c1, c2, c3, c4, c5⟩ := hV
  refine ⟨⟨by rw [gI_same, List.length_append]; rfl, c2.snoc (fun k hk => ?_) ?_, ?_, ?_, ?_⟩, ⟨fun a j p1 p2 => by rw [gI_ne (by omega), gI_ne (by omega)], fun _ _ => rfl⟩⟩
  · rw [gI_ne (by omega), gI_ne (by omega)]
  · rw [gI_ne (by omega), Nat.zero_add, gI_same]
  · rw [gI_ne (by omega), gI_ne (by omega)]; exact c3
  · rw [gI_ne (by omega), gI_ne (by omega)]; exact c4
  · rw [gI_ne (by omega), gI_ne (by omega)]; exact c5
theorem spk_nil {o : Mem → Option (Int32 × Mem)} {v : Int32} (e : ∀ h tr, VcX x y b h k0 q n tr → o h = some (v, h)) : SPK x y b k0 q n o v [] := fun h tr hV _ =>
  ⟨h, e h tr hV, by rw [List.append_nil]; exact hV, fun _ _ _ _ => rfl, fun _ _ => rfl⟩
theorem spk_one {o o1 : Mem → Option (Int32 × Mem)} {f : Int32 → Int32} {v : Int32} {l : List Int32} (h1 : SPK x y b k0 q n o1 v l) (e : ∀ h h2 tr, VcX x y b h2 k0 q n tr → o1 h = some (v, h2) → o h = some (f v, h2)) : SPK x y b k0 q n o (f v) l := fun h tr hV hl => by
  obtain ⟨h2, w1, w2, w3⟩ := h1 h tr hV hl
  exact ⟨h2, e h h2 _ w2 w1, w2, w3⟩
theorem spk_two {o o1 o2 : Mem → Option (Int32 × Mem)} {f : Int32 → Int32 → Int32} {v w : Int32} {l m : List Int32} (h1 : SPK x y b k0 q n o1 v l) (h2 : SPK x y b k0 q n o2 w m) (e : ∀ h, o h = cal2 (o1 h) fun a h2 => cal2 (o2 h2) fun b h4 => some (f a b, h4)) : SPK x y b k0 q n o (f v w) (l ++ m) := fun h tr hV hl => by
  rw [List.length_append] at hl
  obtain ⟨m1, w1, w2, w3⟩ := h1 h tr hV (by omega)
  obtain ⟨m2, u1, u2, u3⟩ := h2 m1 (tr ++ l) w2 (by rw [List.length_append]; omega)
  rw [e, w1, cal2_some, u1, cal2_some]
  exact ⟨m2, rfl, by rw [← List.append_assoc]; exact u2, w3.tr u3⟩
/-! the class -/
def tbN (j : Nat) : Nat := [10, 11, 12, 13, 0, 20, 0, 0, 30, 0, 0, 0, 0, 0, 40, 0, 0, 50, 0, 0, 0, 0, 0, 60, 0, 0, 70, 71].getD j 0
theorem tabB_n : ∀ j, j < 28 → tabB j = iI (tbN j) ∧ tbN j < 100 := by decide +kernel
theorem bod_s {N j k m : Nat} (hk : k ≤ 6) (hm : m ≤ 3) (hj : j < 7) : lo2 (f_X8_bodyOf_k3 (iI m) h) (N + 1) (iI k) (iI j) = if tbN (4 * k + m) = 0 then lo2 (f_X8_bodyOf_k3 (iI m) h) N (iI (abv k)) (iI (j + 1 : Nat)) else some (iI (tbN (4 * k + m))) := by
  rw [lo2_s]
  unfold f_X8_bodyOf_k3
  obtain ⟨t1, t2⟩ := tabB_n (4 * k + m) (by omega)
  have e1 : (iI 7 ≤ iI j) = ((7 : Int) ≤ j) := iI_le ⟨by omega, by omega⟩
  have e2 : (iI k < 0) = ((k : Int) < 0) := by rw [iI_zero]; exact iI_lt ⟨by omega, by omega⟩
  have e3 : (iI (tbN (4 * k + m)) = 0) = ((tbN (4 * k + m) : Int) = 0) := by rw [iI_zero]; exact iI_eq ⟨by omega, by omega⟩
  rw [if_neg (by rw [e1]; omega), if_neg (by rw [e2]; omega), iI_mul, iI_add, nm_eq, iI_nat, iI_sub, w_within (by omega) (by omega) (by omega), cal_some, decide_eq_true (by omega), bn_true, join_eq, if_neg (by decide), tld_i (by omega) (by omega), show ((k : Int) * 4 + (m : Int)).toNat = 4 * k + m by omega, t1]
  by_cases h0 : tbN (4 * k + m) = 0
  · rw [if_pos (by rw [e3]; omega), if_pos h0, w_above hk, cal_some, nm_eq, iI_add]; rfl
  · rw [if_neg (by rw [e3]; omega), if_neg h0, tld_i (by omega) (by omega), show ((k : Int) * 4 + (m : Int)).toNat = 4 * k + m by omega, t1]
/-- the body that answers -/
def bodV (k m : Nat) : Nat := if tbN (4 * k + m) ≠ 0 then tbN (4 * k + m) else if tbN (4 * (abv k).toNat + m) ≠ 0 then tbN (4 * (abv k).toNat + m) else tbN (4 * (abv (abv k).toNat).toNat + m)
theorem abv_n : ∀ k, k < 7 → k ≠ 0 → abv k = ((abv k).toNat : Nat) ∧ (abv k).toNat ≤ 6 := by decide +kernel
theorem tbN_0 : ∀ m, m < 4 → tbN (4 * 0 + m) ≠ 0 := by decide +kernel
theorem tbN_2 : ∀ k, k < 7 → ∀ m, m < 4 → tbN (4 * k + m) ≠ 0 ∨ tbN (4 * (abv k).toNat + m) ≠ 0 ∨ tbN (4 * (abv (abv k).toNat).toNat + m) ≠ 0 := by decide +kernel
theorem abv_up {k m : Nat} (hk : k ≤ 6) (hm : m ≤ 3) (h : tbN (4 * k + m) = 0) : abv k = ((abv k).toNat : Nat) ∧ (abv k).toNat ≤ 6 := abv_n k (by omega) fun e => by subst e; exact tbN_0 m (by omega) h
theorem w_bodyOf {k m : Nat} (hk : k ≤ 6) (hm : m ≤ 3) : f_X8_bodyOf h (iI k) (iI m) = some (iI (bodV k m)) := by
  unfold f_X8_bodyOf bodV
  rw [show (1000000 : Nat) = 999997 + 1 + 1 + 1 from rfl, show (iI 0) = iI ((0 : Nat) : Int) from rfl, bod_s hk hm (by omega)]
  by_cases h1 : tbN (4 * k + m) = 0
  · obtain ⟨a1, a2⟩ := abv_up hk hm h1
    rw [if_pos h1, if_neg (fun z => z h1), a1, bod_s a2 hm (by omega), Int.toNat_natCast]
    by_cases h2 : tbN (4 * (abv k).toNat + m) = 0
    · obtain ⟨b1, b2⟩ := abv_up a2 hm h2
      have b3 : tbN (4 * (abv (abv k).toNat).toNat + m) ≠ 0 := by
        rcases tbN_2 k (by omega) m (by omega) with t | t | t
        · exact absurd h1 t
        · exact absurd h2 t
        · exact t
      rw [if_pos h2, if_neg (fun z => z h2), b1, bod_s b2 hm (by omega), if_neg b3, Int.toNat_natCast]
    · rw [if_neg h2, if_pos h2]
  · rw [if_neg h1, if_pos h1]
/-- a body spoken -/
theorem spk_spoken {F k m d p : Nat} {v r : Int32} {l : List Int32} (hF : 0 < F) (hk : k ≤ 6) (hm : m ≤ 3) (hd : d ≤ 40) (hp : bodV k m = p) (hb : p ≠ 0 ∧ p < 100) (hw : SPK 37 38 1 k0 q n (g_VOICE (F - 1) 1 (iI p) v (iI (d + 1 : Nat)) (iI 0)) r l) : SPK 37 38 1 k0 q n (g_VOICE F 0 (iI k) (iI m) v (iI d)) r (iI p :: l) := by
  obtain ⟨N, rfl⟩ : ∃ N, F = N + 1 := ⟨F - 1, by omega⟩
  rw [Nat.add_sub_cancel] at hw
  intro h tr hV hl
  show ∃ h2, b_X8_spoken (g_VOICE N) (iI k) (iI m) v (iI d) h = some (r, h2) ∧ _
  unfold b_X8_spoken
  have c1 : gI h 37 1 = iI tr.length := hV.1
  have hl' : tr.length + (l.length + 1) ≤ 40 := hl
  have ed : (iI d ≤ iI 40) = ((d : Int) ≤ 40) := iI_le ⟨by omega, by omega⟩
  have e1 : (iI 40 ≤ iI tr.length) = ((40 : Int) ≤ tr.length) := iI_le ⟨by omega, by omega⟩
  rw [w_bodyOf hk hm, cal_some, hp, if_neg (by rw [iI_zero]; exact iI_ne (by omega) (by omega) (by omega)), if_pos (by rw [ed]; omega), join_eq, c1, if_neg (by rw [e1]; omega), ast_i (by omega) (by omega), Int.toNat_natCast]
  rw [nm_eq, gI_ne (by omega), c1, iI_add]
  obtain ⟨hV2, hF2⟩ := hV.push (w := iI p) (by omega)
  obtain ⟨h2, w1, w2, w3⟩ := hw _ _ hV2 (by rw [List.length_append]; show tr.length + 1 + l.length ≤ 40; omega)
  dsimp only
  rw [show iI tr.length + iI 1 = iI ((tr.length : Int) + 1) from iI_add _ _, show iI ((d : Int) + 1) = iI ((d + 1 : Nat) : Int) from rfl, w1, cal2_some]
  exact ⟨h2, rfl, by rw [show tr ++ iI p :: l = tr ++ [iI p] ++ l by simp]; exact w2, hF2.tr w3⟩
theorem spk_own {F m d : Nat} {v r : Int32} {l : List Int32} (hF : 0 < F) (hw : SPK 37 38 1 k0 q n (g_VOICE (F - 1) 0 (iI k0) (iI m) v (iI d)) r l) : SPK 37 38 1 k0 q n (g_VOICE F 2 (iI m) v (iI d) (iI 0)) r l := by
  obtain ⟨N, rfl⟩ : ∃ N, F = N + 1 := ⟨F - 1, by omega⟩
  rw [Nat.add_sub_cancel] at hw
  intro h tr hV hl
  show ∃ h2, b_X8_own (g_VOICE N) (iI m) v (iI d) h = some (r, h2) ∧ _
  unfold b_X8_own
  obtain ⟨h2, w1, w2⟩ := hw h tr hV hl
  rw [show gI h 37 2 = iI k0 from hV.2.2.1, w1, cal2_some]
  exact ⟨h2, rfl, w2⟩
theorem spk_above {F k p m d : Nat} {v r : Int32} {l : List Int32} (hF : 0 < F) (hk : k ≤ 6) (hp : abv k = p) (hw : SPK 37 38 1 k0 q n (g_VOICE (F - 1) 0 (iI p) (iI m) v (iI d)) r l) : SPK 37 38 1 k0 q n (g_VOICE F 3 (iI k) (iI m) v (iI d)) r l := by
  obtain ⟨N, rfl⟩ : ∃ N, F = N + 1 := ⟨F - 1, by omega⟩
  rw [Nat.add_sub_cancel] at hw
  intro h tr hV hl
  show ∃ h2, b_X8_above (g_VOICE N) (iI k) (iI m) v (iI d) h = some (r, h2) ∧ _
  unfold b_X8_above
  obtain ⟨h2, w1, w2⟩ := hw h tr hV hl
  rw [w_above hk, cal_some, hp, w1, cal2_some]
  exact ⟨h2, rfl, w2⟩
end VOICEOP
