section PARSE2
/-- the class's code worked off -/
def evC (a b c : Int32) : List Int32 → List Int32 → Int32
  | [], st => st.headD (iI 0)
  | v :: cs, st =>
    if iI 10000 ≤ v then
      (if v = iI 10033 then (match st with | [] => iI 0 | x :: s => evC a b c cs ((if x = 0 then iI 1 else iI 0) :: s))
      else (match st with | y :: x :: s => evC a b c cs (jnV (v - iI 10000) x y :: s) | _ => iI 0))
    else evC a b c cs ((if v < 0 then (if v = iI (-1) then a else if v = iI (-2) then b else c) else v) :: st)
theorem jnA_cases {lv : Nat} {v : Int32} (h : jnA lv v = true) : ∃ z : Int, v = iI z ∧ (z = 37 ∨ z = 38 ∨ z = 42 ∨ z = 43 ∨ z = 45 ∨ z = 47 ∨ z = 60 ∨ z = 61 ∨ z = 62 ∨ z = 124) := by
  unfold jnA at h
  simp only [Bool.or_eq_true, Bool.and_eq_true, beq_iff_eq] at h
  rcases h with ((((h | h) | h) | h) | h)
  · exact ⟨124, h.2, by omega⟩
  · exact ⟨38, h.2, by omega⟩
  · rcases h.2 with (q | q) | q
    · exact ⟨60, q, by omega⟩
    · exact ⟨61, q, by omega⟩
    · exact ⟨62, q, by omega⟩
  · rcases h.2 with q | q
    · exact ⟨43, q, by omega⟩
    · exact ⟨45, q, by omega⟩
  · rcases h.2 with (q | q) | q
    · exact ⟨42, q, by omega⟩
    · exact ⟨47, q, by omega⟩
    · exact ⟨37, q, by omega⟩
theorem byA_lt {l : List Int32} {p : Nat} (h : byA l p ≠ iI (-1)) : p < l.length := by
  unfold byA at h
  by_cases e : p < l.length
  · exact e
  · rw [if_neg e] at h; exact absurd rfl h
theorem byA_get {l : List Int32} {p : Nat} (h : p < l.length) : byA l p = l[p] := by
  unfold byA
  rw [if_pos h, ← List.getElem_eq_getD (h := h) 0]
theorem jnA_lt {l : List Int32} {lv p : Nat} (h : jnA lv (byA l p) = true) : p < l.length := by
  obtain ⟨z, e, hz⟩ := jnA_cases h
  refine byA_lt fun q => ?_
  rw [e] at q
  exact iI_ne (by omega) (by omega) (by omega) q
theorem isDg_of {v : Int32} (h : isDg v = true) : ∃ d : Nat, v = iI d ∧ 48 ≤ d ∧ d ≤ 57 := by
  unfold isDg at h
  have h2 := of_decide_eq_true h
  obtain ⟨z, rfl, z1, z2⟩ := iI_of v
  rw [iI_le ⟨by omega, ⟨z1, z2⟩⟩, iI_le ⟨⟨z1, z2⟩, by omega⟩] at h2
  exact ⟨z.toNat, by rw [show ((z.toNat : Nat) : Int) = z by omega], by omega, by omega⟩
theorem isDg_lt {l : List Int32} {p : Nat} (h : isDg (byA l p) = true) : p < l.length := by
  obtain ⟨d, e, h1, h2⟩ := isDg_of h
  refine byA_lt fun q => ?_
  rw [e] at q
  exact iI_ne (by omega) (by omega) (by omega) q
theorem isDg_iff {z : Int} (hz : -2147483648 ≤ z ∧ z < 2147483648) : isDg (iI z) = decide (48 ≤ z ∧ z ≤ 57) := by
  unfold isDg
  apply decide_eq_decide.mpr
  rw [iI_le ⟨by omega, hz⟩, iI_le ⟨hz, by omega⟩]
theorem nuA_ok {l : List Int32} : ∀ (n p k B : Nat), k < B → B * 10 ^ n ≤ 10000 → ∃ k' : Nat, (nuA l n p (iI k)).2 = iI k' ∧ k' < B * 10 ^ n ∧ p ≤ (nuA l n p (iI k)).1 ∧ (nuA l n p (iI k)).1 ≤ max p l.length
  | 0, p, k, B, hk, hB => ⟨k, rfl, by rw [Nat.pow_zero, Nat.mul_one]; exact hk, Nat.le_refl p, Nat.le_max_left _ _⟩
  | n + 1, p, k, B, hk, hB => by
    unfold nuA
    by_cases hd : isDg (byA l p) = true
    · rw [if_pos hd]
      obtain ⟨d, e, h1, h2⟩ := isDg_of hd
      have hp := isDg_lt hd
      rw [Nat.pow_succ, Nat.mul_comm (10 ^ n) 10, ← Nat.mul_assoc] at hB ⊢
      rw [e, iI_mul, iI_add, iI_sub, show (k : Int) * 10 + (d : Int) - 48 = ((k * 10 + (d - 48) : Nat) : Int) by omega]
      obtain ⟨k', a1, a2, a3, a4⟩ := nuA_ok (l := l) n (p + 1) (k * 10 + (d - 48)) (B * 10) (by omega) hB
      exact ⟨k', a1, a2, by omega, by omega⟩
    · rw [if_neg hd]
      refine ⟨k, rfl, ?_, Nat.le_refl _, Nat.le_max_left _ _⟩
      have : 1 ≤ 10 ^ (n + 1) := Nat.one_le_pow _ _ (by omega)
      exact Nat.lt_of_lt_of_le hk (Nat.le_mul_of_pos_right B this)
theorem nuA_pos {l : List Int32} {p : Nat} {x : Int32} (hd : isDg (byA l p) = true) {n : Nat} : p + 1 ≤ (nuA l (n + 1) p x).1 := by
  have mono : ∀ (n p : Nat) (x : Int32), p ≤ (nuA l n p x).1 := by
    intro n
    induction n with
    | zero => intro p x; exact Nat.le_refl _
    | succ n ih =>
      intro p x
      unfold nuA
      split
      · exact Nat.le_trans (Nat.le_succ p) (ih _ _)
      · exact Nat.le_refl _
  unfold nuA
  rw [if_pos hd]
  exact mono _ _ _
/-- what a reading keeps to -/
def OKR (l : List Int32) (p : Nat) (r : RPS) : Prop := p ≤ r.2.1 ∧ r.2.1 ≤ max p l.length ∧ (r.1 = false → 1 ≤ r.2.2.1.length ∧ p + r.2.2.1.length ≤ r.2.1 ∧ ∀ a b c rest st, evC a b c (r.2.2.1 ++ rest) st = evC a b c rest (r.2.2.2 a b c :: st))
theorem evC_op {a b c v x y : Int32} {rest st : List Int32} {lv : Nat} (h : jnA lv v = true) : evC a b c ((iI 10000 + v) :: rest) (y :: x :: st) = evC a b c rest (jnV v x y :: st) := by
  obtain ⟨z, rfl, hz⟩ := jnA_cases h
  rw [iI_add]
  have e1 : (iI 10000 ≤ iI (10000 + z)) = ((10000 : Int) ≤ 10000 + z) := iI_le ⟨by omega, by omega⟩
  have e2 : (iI (10000 + z) = iI 10033) = ((10000 : Int) + z = 10033) := iI_eq ⟨by omega, by omega⟩
  show (if iI 10000 ≤ iI (10000 + z) then _ else _) = _
  rw [if_pos (by rw [e1]; omega), if_neg (by rw [e2]; omega), iI_sub, show (10000 : Int) + z - 10000 = z by omega]
theorem OKR.jn {l : List Int32} {p lv : Nat} {r r2 : RPS} (h : OKR l p r) (hb : r.1 = false) (hj : jnA lv (byA l r.2.1) = true) (h2 : OKR l (r.2.1 + 1) r2) : OKR l p (jnR (byA l r.2.1) r r2) := by
  obtain ⟨h1, h3, h4⟩ := h
  obtain ⟨k1, k3, k4⟩ := h2
  have hlt := jnA_lt hj
  refine ⟨by show p ≤ r2.2.1; omega, by show r2.2.1 ≤ _; omega, fun hb2 => ?_⟩
  obtain ⟨c1, c2, c3⟩ := h4 hb
  obtain ⟨d1, d2, d3⟩ := k4 hb2
  refine ⟨?_, ?_, fun a b c rest st => ?_⟩
  · show 1 ≤ (r.2.2.1 ++ r2.2.2.1 ++ [iI 10000 + byA l r.2.1]).length
    rw [List.length_append, List.length_append]
    omega
  · show p + (r.2.2.1 ++ r2.2.2.1 ++ [iI 10000 + byA l r.2.1]).length ≤ r2.2.1
    rw [List.length_append, List.length_append]
    show p + (r.2.2.1.length + r2.2.2.1.length + 1) ≤ _
    omega
  · show evC a b c (r.2.2.1 ++ r2.2.2.1 ++ [iI 10000 + byA l r.2.1] ++ rest) st = evC a b c rest (jnV (byA l r.2.1) (r.2.2.2 a b c) (r2.2.2.2 a b c) :: st)
    rw [List.append_assoc, List.append_assoc, c3, d3]
    exact evC_op hj
theorem OKR.lp {l : List Int32} {p lv : Nat} {part : Nat → RPS} (hp : ∀ q, OKR l q (part q)) : ∀ (n : Nat) (r : RPS), OKR l p r → OKR l p (lpA l part lv n r)
  | 0, r, h => h
  | n + 1, r, h => by
    unfold lpA
    by_cases hb : r.1 = true
    · rw [if_pos hb]; exact h
    · rw [if_neg hb]
      have hb' : r.1 = false := by simpa using hb
      by_cases hj : jnA lv (byA l r.2.1) = true
      · rw [if_pos hj]
        have := h.jn hb' hj (hp (r.2.1 + 1))
        by_cases h2 : lv = 2
        · rw [if_pos h2]; exact this
        · rw [if_neg h2]; exact OKR.lp hp n _ this
      · rw [if_neg hj]; exact h
theorem OKR.lv {l : List Int32} {leaf : Nat → RPS} (hp : ∀ q, OKR l q (leaf q)) : ∀ (k q : Nat), OKR l q (lvA l leaf k q)
  | 0, q => hp q
  | k + 1, q => OKR.lp (OKR.lv hp k) 60 _ (OKR.lv hp k q)
theorem evC_nm {a b c : Int32} {z : Int} {rest st : List Int32} (hz : z = -1 ∨ z = -2 ∨ z = -3) : evC a b c (iI z :: rest) st = evC a b c rest ((if z = -1 then a else if z = -2 then b else c) :: st) := by
  have e1 : (iI 10000 ≤ iI z) = ((10000 : Int) ≤ z) := iI_le ⟨by omega, by omega⟩
  have e2 : (iI z < 0) = (z < 0) := by rw [iI_zero]; exact iI_lt ⟨by omega, by omega⟩
  show (if iI 10000 ≤ iI z then _ else _) = _
  rw [if_neg (by rw [e1]; omega), if_pos (by rw [e2]; omega)]
  rcases hz with rfl | rfl | rfl
  · rw [if_pos rfl, if_pos rfl]
  · rw [if_neg (by decide), if_pos rfl, if_neg (by decide), if_pos rfl]
  · rw [if_neg (by decide), if_neg (by decide), if_neg (by decide), if_neg (by decide)]
theorem evC_num {a b c : Int32} {k : Nat} {rest st : List Int32} (hk : k < 10000) : evC a b c (iI k :: rest) st = evC a b c rest (iI k :: st) := by
  have e1 : (iI 10000 ≤ iI k) = ((10000 : Int) ≤ k) := iI_le ⟨by omega, by omega⟩
  have e2 : (iI k < 0) = ((k : Int) < 0) := by rw [iI_zero]; exact iI_lt ⟨by omega, by omega⟩
  show (if iI 10000 ≤ iI k then _ else _) = _
  rw [if_neg (by rw [e1]; omega), if_neg (by rw [e2]; omega)]
theorem evC_not {a b c x : Int32} {rest st : List Int32} : evC a b c (iI 10033 :: rest) (x :: st) = evC a b c rest ((if x = 0 then iI 1 else iI 0) :: st) := by
  show (if iI 10000 ≤ iI 10033 then _ else _) = _
  rw [if_pos (by decide), if_pos rfl]
theorem nmA_ne {u j : Nat} : nmA u j ≠ iI (-1) := by
  unfold nmA
  by_cases hu : u = 0
  · rw [if_pos hu]
    by_cases h0 : j = 0
    · rw [if_pos h0]; decide
    · rw [if_neg h0]; split <;> decide
  · rw [if_neg hu]
    by_cases h0 : j = 0
    · rw [if_pos h0]; decide
    · rw [if_neg h0]; split <;> decide
theorem OKR.leaf {u : Nat} {l : List Int32} : ∀ (D p : Nat), OKR l p (lfA u l D p) := by
  intro D
  induction D with
  | zero =>
    intro p
    unfold lfA
    by_cases hd : isDg (byA l p) = true
    · rw [if_pos hd]
      obtain ⟨k', a1, a2, a3, a4⟩ := nuA_ok (l := l) 4 p 0 1 (by omega) (by omega)
      have h1 := nuA_pos (x := iI 0) hd (n := 3)
      exact ⟨a3, a4, fun _ => ⟨Nat.le_refl 1, h1, fun a b c rest st => by
        show evC a b c ((nuA l 4 p (iI 0)).2 :: rest) st = _
        rw [show (nuA l 4 p (iI 0)).2 = iI k' from a1]; exact evC_num (by omega)⟩⟩
    · rw [if_neg hd]
      by_cases ho : byA l p = iI 33 ∨ byA l p = iI 40
      · rw [if_pos ho]
        exact ⟨Nat.le_refl _, Nat.le_max_left _ _, fun q => absurd (show true = false from q) (by decide)⟩
      · rw [if_neg ho]
        by_cases n0 : byA l p = nmA u 0
        · have hlt : p < l.length := byA_lt (by rw [n0]; exact nmA_ne)
          rw [if_pos n0]
          exact ⟨Nat.le_succ p, by show p + 1 ≤ _; omega, fun _ => ⟨Nat.le_refl 1, Nat.le_refl _, fun a b c rest st => evC_nm (Or.inl rfl)⟩⟩
        rw [if_neg n0]
        by_cases n1 : byA l p = nmA u 1
        · have hlt : p < l.length := byA_lt (by rw [n1]; exact nmA_ne)
          rw [if_pos n1]
          exact ⟨Nat.le_succ p, by show p + 1 ≤ _; omega, fun _ => ⟨Nat.le_refl 1, Nat.le_refl _, fun a b c rest st => evC_nm (Or.inr (Or.inl rfl))⟩⟩
        rw [if_neg n1]
        by_cases n2 : byA l p = nmA u 2
        · have hlt : p < l.length := byA_lt (by rw [n2]; exact nmA_ne)
          rw [if_pos n2]
          exact ⟨Nat.le_succ p, by show p + 1 ≤ _; omega, fun _ => ⟨Nat.le_refl 1, Nat.le_refl _, fun a b c rest st => evC_nm (Or.inr (Or.inr rfl))⟩⟩
        rw [if_neg n2]
        exact ⟨Nat.le_refl _, Nat.le_max_left _ _, fun q => absurd (show true = false from q) (by decide)⟩
  | succ D ih =>
    intro p
    unfold lfA
    by_cases hd : isDg (byA l p) = true
    · rw [if_pos hd]
      obtain ⟨k', a1, a2, a3, a4⟩ := nuA_ok (l := l) 4 p 0 1 (by omega) (by omega)
      have h1 := nuA_pos (x := iI 0) hd (n := 3)
      exact ⟨a3, a4, fun _ => ⟨Nat.le_refl 1, h1, fun a b c rest st => by
        show evC a b c ((nuA l 4 p (iI 0)).2 :: rest) st = _
        rw [show (nuA l 4 p (iI 0)).2 = iI k' from a1]; exact evC_num (by omega)⟩⟩
    · rw [if_neg hd]
      by_cases ho : byA l p = iI 33 ∨ byA l p = iI 40
      · have hlt : p < l.length := byA_lt (by rcases ho with q | q <;> (rw [q]; decide))
        rw [if_pos ho]
        dsimp only
        by_cases h33 : byA l p = iI 33
        · rw [if_pos h33]
          obtain ⟨i1, i2, i3⟩ := ih (p + 1)
          refine ⟨by show p ≤ (lfA u l D (p + 1)).2.1; omega, by show (lfA u l D (p + 1)).2.1 ≤ _; omega, fun hb => ?_⟩
          obtain ⟨c1, c2, c3⟩ := i3 hb
          refine ⟨?_, ?_, fun a b c rest st => ?_⟩
          · show 1 ≤ ((lfA u l D (p + 1)).2.2.1 ++ [iI 10033]).length
            rw [List.length_append]; omega
          · show p + ((lfA u l D (p + 1)).2.2.1 ++ [iI 10033]).length ≤ (lfA u l D (p + 1)).2.1
            rw [List.length_append]
            show p + ((lfA u l D (p + 1)).2.2.1.length + 1) ≤ _
            omega
          · show evC a b c ((lfA u l D (p + 1)).2.2.1 ++ [iI 10033] ++ rest) st = _
            rw [List.append_assoc, c3]
            exact evC_not
        · rw [if_neg h33]
          obtain ⟨i1, i2, i3⟩ := OKR.lv (l := l) ih 5 (p + 1)
          generalize lvA l (lfA u l D) 5 (p + 1) = r at *
          by_cases hb : r.1 = true
          · rw [if_pos hb]
            exact ⟨by show p ≤ r.2.1; omega, by show r.2.1 ≤ _; omega, fun q => absurd (show true = false from q) (by decide)⟩
          · rw [if_neg hb]
            by_cases h41 : byA l r.2.1 = iI 41
            · have hlt2 : r.2.1 < l.length := byA_lt (by rw [h41]; decide)
              rw [if_pos h41]
              obtain ⟨c1, c2, c3⟩ := i3 (by simpa using hb)
              exact ⟨by show p ≤ r.2.1 + 1; omega, by show r.2.1 + 1 ≤ _; omega, fun _ => ⟨c1, by show p + r.2.2.1.length ≤ r.2.1 + 1; omega, c3⟩⟩
            · rw [if_neg h41]
              exact ⟨by show p ≤ r.2.1; omega, by show r.2.1 ≤ _; omega, fun q => absurd (show true = false from q) (by decide)⟩
      · rw [if_neg ho]
        by_cases n0 : byA l p = nmA u 0
        · have hlt : p < l.length := byA_lt (by rw [n0]; exact nmA_ne)
          rw [if_pos n0]
          exact ⟨Nat.le_succ p, by show p + 1 ≤ _; omega, fun _ => ⟨Nat.le_refl 1, Nat.le_refl _, fun a b c rest st => evC_nm (Or.inl rfl)⟩⟩
        rw [if_neg n0]
        by_cases n1 : byA l p = nmA u 1
        · have hlt : p < l.length := byA_lt (by rw [n1]; exact nmA_ne)
          rw [if_pos n1]
          exact ⟨Nat.le_succ p, by show p + 1 ≤ _; omega, fun _ => ⟨Nat.le_refl 1, Nat.le_refl _, fun a b c rest st => evC_nm (Or.inr (Or.inl rfl))⟩⟩
        rw [if_neg n1]
        by_cases n2 : byA l p = nmA u 2
        · have hlt : p < l.length := byA_lt (by rw [n2]; exact nmA_ne)
          rw [if_pos n2]
          exact ⟨Nat.le_succ p, by show p + 1 ≤ _; omega, fun _ => ⟨Nat.le_refl 1, Nat.le_refl _, fun a b c rest st => evC_nm (Or.inr (Or.inr rfl))⟩⟩
        rw [if_neg n2]
        exact ⟨Nat.le_refl _, Nat.le_max_left _ _, fun q => absurd (show true = false from q) (by decide)⟩
/-- a text that was read whole: the code's value -/
theorem tie_val {u : Nat} {code l : List Int32} (h : LTie u code (some l)) (a b c : Int32) : evC a b c code [] = (txA u l).2.2.2 a b c := by
  obtain ⟨h1, h2, h3, h4⟩ := h
  obtain ⟨i1, i2, i3⟩ := OKR.lv (l := l) (leaf := lfA u l 5) (OKR.leaf (u := u) (l := l) 5) 5 0
  obtain ⟨c1, c2, c3⟩ := i3 h2
  have := c3 a b c [] []
  rw [List.append_nil] at this
  rw [← h4]
  exact this
end PARSE2
