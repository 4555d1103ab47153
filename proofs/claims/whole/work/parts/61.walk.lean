section WALKM
/-- the model's walk over a text -/
def WkM (h : Mem) (u : Nat) (l : List Int32) (p D : Nat) (a b c : Int32) (ok : Bool) : Prop := gI h 72 16 = iI u ∧ gI h 72 18 = iI l.length ∧ gI h 72 17 = iI p ∧ gI h 72 19 = iI (5 - (D : Int)) ∧ gI h 72 23 = bn ok ∧ gI h 72 20 = a ∧ gI h 72 21 = b ∧ gI h 72 22 = c ∧ LSt h 73 (205 + 50 * u) l ∧ p ≤ l.length ∧ l.length ≤ 50 ∧ D ≤ 5 ∧ u < 2
def FrW (h h2 : Mem) : Prop := (∀ x k, x ≠ 72 → gI h2 x k = gI h x k) ∧ (∀ k, k ≠ 17 → k ≠ 19 → k ≠ 23 → gI h2 72 k = gI h 72 k) ∧ (∀ x k, gL h2 x k = gL h x k)
theorem FrW.rf {h : Mem} : FrW h h := ⟨fun _ _ _ => rfl, fun _ _ _ _ => rfl, fun _ _ => rfl⟩
theorem FrW.tr {h h1 h2 : Mem} (x : FrW h h1) (y : FrW h1 h2) : FrW h h2 := ⟨fun a k q => (y.1 a k q).trans (x.1 a k q), fun k q1 q2 q3 => (y.2.1 k q1 q2 q3).trans (x.2.1 k q1 q2 q3), fun a k => (y.2.2 a k).trans (x.2.2 a k)⟩
theorem FrW.fld {h : Mem} {k : Nat} {v : Int32} (hk : k = 17 ∨ k = 19 ∨ k = 23) : FrW h (sI h 72 k v) := ⟨fun x j q => gI_ne (by omega), fun j q1 q2 q3 => gI_ne (by omega), fun _ _ => rfl⟩
variable {h : Mem} {u p D : Nat} {l : List Int32} {a b c : Int32} {ok : Bool}
theorem m_byteAt (hW : WkM h u l p D a b c ok) : f_X11_byteAt h (gI h 72 17) = some (byA l p) := by
  obtain ⟨w1, w2, w3, w4, w5, w6, w7, w8, w9, w10, w11, w12, w13⟩ := hW
  unfold f_X11_byteAt
  have e2 : (iI l.length ≤ iI p) = ((l.length : Int) ≤ p) := iI_le ⟨by omega, by omega⟩
  rw [w1, w2, w3]
  by_cases e : p < l.length
  · rw [if_neg (by rw [e2]; omega), iI_mul, iI_add, iI_add, ald_i (by omega) (by omega), show ((205 : Int) + 50 * (u : Int) + (p : Int)).toNat = 205 + 50 * u + p by omega, byA_get e, w9 p e]
  · rw [if_pos (by rw [e2]; omega)]
    unfold byA
    rw [if_neg e]
theorem m_isDigit {v : Int32} : f_X11_isDigit h v = some (bn (isDg v)) := by
  obtain ⟨z, rfl, z1, z2⟩ := iI_of v
  unfold f_X11_isDigit
  rw [m_in ⟨z1, z2⟩ (by omega) (by omega), cal_some, rZbn, isDg_iff ⟨z1, z2⟩]
theorem m_fails : f_X11_fails h = some (iI 0, sI h 72 23 (iI 0)) := by
  unfold f_X11_fails
  rw [rZ0, nm_eq]
theorem WkM.fl (hW : WkM h u l p D a b c ok) : WkM (sI h 72 23 (iI 0)) u l p D a b c false := by
  obtain ⟨w1, w2, w3, w4, w5, w6, w7, w8, w9, w10, w11, w12, w13⟩ := hW
  exact ⟨(gI_ne (by omega)).trans w1, (gI_ne (by omega)).trans w2, (gI_ne (by omega)).trans w3, (gI_ne (by omega)).trans w4, gI_same, (gI_ne (by omega)).trans w6, (gI_ne (by omega)).trans w7, (gI_ne (by omega)).trans w8, fun k hk => (gI_ne (by omega)).trans (w9 k hk), w10, w11, w12, w13⟩
theorem WkM.on (hW : WkM h u l p D a b c ok) (hp : p < l.length) : WkM (sI h 72 17 (iI (p + 1 : Nat))) u l (p + 1) D a b c ok := by
  obtain ⟨w1, w2, w3, w4, w5, w6, w7, w8, w9, w10, w11, w12, w13⟩ := hW
  exact ⟨(gI_ne (by omega)).trans w1, (gI_ne (by omega)).trans w2, gI_same, (gI_ne (by omega)).trans w4, (gI_ne (by omega)).trans w5, (gI_ne (by omega)).trans w6, (gI_ne (by omega)).trans w7, (gI_ne (by omega)).trans w8, fun k hk => (gI_ne (by omega)).trans (w9 k hk), hp, w11, w12, w13⟩
theorem WkM.dp {D2 : Nat} (hW : WkM h u l p D a b c ok) (hD : D2 ≤ 5) : WkM (sI h 72 19 (iI (5 - (D2 : Int)))) u l p D2 a b c ok := by
  obtain ⟨w1, w2, w3, w4, w5, w6, w7, w8, w9, w10, w11, w12, w13⟩ := hW
  exact ⟨(gI_ne (by omega)).trans w1, (gI_ne (by omega)).trans w2, (gI_ne (by omega)).trans w3, gI_same, (gI_ne (by omega)).trans w5, (gI_ne (by omega)).trans w6, (gI_ne (by omega)).trans w7, (gI_ne (by omega)).trans w8, fun k hk => (gI_ne (by omega)).trans (w9 k hk), w10, w11, hD, w13⟩
def REM (h : Mem) (u : Nat) (l : List Int32) (D : Nat) (a b c : Int32) (o : Option (Int32 × Mem)) (r : RPS) : Prop := ∃ v h2, o = some (v, h2) ∧ WkM h2 u l r.2.1 D a b c (!r.1) ∧ FrW h h2 ∧ (r.1 = false → v = r.2.2.2 a b c)
def MPT (u : Nat) (l : List Int32) (D : Nat) (a b c : Int32) (o : Mem → Option (Int32 × Mem)) (P : Nat → RPS) : Prop := ∀ h p, WkM h u l p D a b c true → REM h u l D a b c (o h) (P p)
theorem mpt_loop {F : Int32 → Mem → (Int32 → Mem → Option (Int32 × Mem)) → Option (Int32 × Mem)} {rec0 : Mem → Option (Int32 × Mem)} {P : Nat → RPS} {lv : Nat} (hlv : lv ≠ 2) (hp : MPT u l D a b c rec0 P) (hok : ∀ q, OKR l q (P q))
    (hF1 : ∀ x m p ok K, WkM m u l p D a b c ok → (ok = false ∨ jnA lv (byA l p) = false) → F x m K = some (x, m))
    (hF2 : ∀ x m p K, WkM m u l p D a b c true → jnA lv (byA l p) = true → F x m K = cal2 (rec0 (sI m 72 17 (iI (p + 1 : Nat)))) fun v h2 => K (jnV (byA l p) x v) h2) :
    MPT u l D a b c (fun h => cal2 (rec0 h) fun v1 h2 => lo2 F 1000000 v1 h2) (fun p => lpA l P lv 60 (P p)) := by
  intro h p hW
  obtain ⟨v1, m1, e1, e2, e3, e4⟩ := hp h p hW
  show REM h u l D a b c (cal2 (rec0 h) fun v1 h2 => lo2 F 1000000 v1 h2) (lpA l P lv 60 (P p))
  rw [e1, cal2_some]
  obtain ⟨X, hX⟩ : ∃ X, X = lpA l P lv 60 (P p) := ⟨_, rfl⟩
  rw [← hX]
  obtain ⟨N', hN⟩ : ∃ N' : Nat, N' = 1000000 := ⟨_, rfl⟩
  rw [← hN]
  have hl50 : l.length ≤ 50 := hW.2.2.2.2.2.2.2.2.2.2.1
  refine lo2_t (fun f x m => ∃ (r : RPS), lpA l P lv f r = X ∧ l.length < r.2.1 + f ∧ OKR l p r ∧ WkM m u l r.2.1 D a b c (!r.1) ∧ FrW h m ∧ (r.1 = false → x = r.2.2.2 a b c)) (fun o => REM h u l D a b c o X) ?_ N' 60 _ _ (by omega) ⟨P p, hX.symm, by omega, hok p, e2, e3, e4⟩
  rintro f x m ⟨r, hL, hf, hO, hM, hFr, hv⟩ Kc
  have hpos : r.2.1 ≤ l.length := hM.2.2.2.2.2.2.2.2.2.1
  obtain ⟨f', rfl⟩ : ∃ f', f = f' + 1 := ⟨f - 1, by omega⟩
  unfold lpA at hL
  by_cases hstop : r.1 = true ∨ jnA lv (byA l r.2.1) = false
  · left
    have hXr : X = r := by
      rw [← hL]
      by_cases hb : r.1 = true
      · rw [if_pos hb]
      · rw [if_neg hb, if_neg (by rcases hstop with q | q; exact absurd q hb; rw [q]; decide)]
    rw [hXr]
    refine ⟨_, hF1 x m r.2.1 _ Kc hM ?_, x, m, rfl, hM, hFr, hv⟩
    rcases hstop with q | q
    · left; rw [q]; rfl
    · exact Or.inr q
  · right
    have hb : r.1 = false := by
      cases q : r.1
      · rfl
      · exact absurd (Or.inl q) hstop
    have hj : jnA lv (byA l r.2.1) = true := by
      cases q : jnA lv (byA l r.2.1)
      · exact absurd (Or.inr q) hstop
      · rfl
    have hlt := jnA_lt hj
    rw [if_neg (show ¬ r.bad = true from fun q => by rw [show r.bad = false from hb] at q; exact absurd q (by decide)), if_pos hj, if_neg hlv] at hL
    rw [hb] at hM
    rw [hF2 x m r.2.1 Kc hM hj]
    obtain ⟨v2, m2, s1, s2, s3, s4⟩ := hp _ (r.2.1 + 1) (hM.on hlt)
    have hpp : r.2.1 + 1 ≤ (P (r.2.1 + 1)).2.1 := (hok (r.2.1 + 1)).1
    rw [s1, cal2_some]
    refine ⟨f', _, _, Nat.lt_succ_self f', ⟨jnR (byA l r.2.1) r (P (r.2.1 + 1)), hL, by show l.length < (P (r.2.1 + 1)).2.1 + f'; omega, hO.jn hb hj (hok (r.2.1 + 1)), s2, (hFr.tr (FrW.fld (by omega))).tr s3, fun hb2 => ?_⟩, rfl⟩
    show jnV (byA l r.2.1) x v2 = jnV (byA l r.2.1) (r.2.2.2 a b c) ((P (r.2.1 + 1)).2.2.2 a b c)
    rw [hv hb, s4 hb2]
theorem jnV38 {x y : Int32} : jnV (iI 38) x y = if x = 0 then iI 0 else if y = 0 then iI 0 else iI 1 := by
  unfold jnV; rw [if_pos rfl]
theorem jnV42 {x y : Int32} : jnV (iI 42) x y = x * y := by
  unfold jnV; rw [if_neg (by decide), if_pos rfl]
theorem jnV43 {x y : Int32} : jnV (iI 43) x y = x + y := by
  unfold jnV; rw [if_neg (by decide), if_neg (by decide), if_pos rfl]
theorem jnV45 {x y : Int32} : jnV (iI 45) x y = x - y := by
  unfold jnV; rw [if_neg (by decide), if_neg (by decide), if_neg (by decide), if_pos rfl]
theorem jnV47 {x y : Int32} : jnV (iI 47) x y = if y = 0 then iI 0 else x / y := by
  unfold jnV; rw [if_neg (by decide), if_neg (by decide), if_neg (by decide), if_neg (by decide), if_pos rfl]
theorem jnV60 {x y : Int32} : jnV (iI 60) x y = if y ≤ x then iI 0 else iI 1 := by
  unfold jnV; rw [if_neg (by decide), if_neg (by decide), if_neg (by decide), if_neg (by decide), if_neg (by decide), if_pos rfl]
theorem jnV61 {x y : Int32} : jnV (iI 61) x y = if x = y then iI 1 else iI 0 := by
  unfold jnV; rw [if_neg (by decide), if_neg (by decide), if_neg (by decide), if_neg (by decide), if_neg (by decide), if_neg (by decide), if_pos rfl]
theorem jnV62 {x y : Int32} : jnV (iI 62) x y = if x ≤ y then iI 0 else iI 1 := by
  unfold jnV; rw [if_neg (by decide), if_neg (by decide), if_neg (by decide), if_neg (by decide), if_neg (by decide), if_neg (by decide), if_neg (by decide), if_pos rfl]
theorem jnV124 {x y : Int32} : jnV (iI 124) x y = if x = 0 then (if y = 0 then iI 0 else iI 1) else iI 1 := by
  unfold jnV; rw [if_neg (by decide), if_neg (by decide), if_neg (by decide), if_neg (by decide), if_neg (by decide), if_neg (by decide), if_neg (by decide), if_neg (by decide), if_pos rfl]
theorem jnV37 {x y : Int32} : jnV (iI 37) x y = if y = 0 then iI 0 else rmI x y := by
  unfold jnV; rw [if_neg (by decide), if_neg (by decide), if_neg (by decide), if_neg (by decide), if_neg (by decide), if_neg (by decide), if_neg (by decide), if_neg (by decide), if_neg (by decide)]
theorem mpt_product {N : Nat} {P : Nat → RPS} (hp : MPT u l D a b c (g_WALK N 0) P) (hok : ∀ q, OKR l q (P q)) : MPT u l D a b c (g_WALK (N + 1) 1) (fun p => lpA l P 4 60 (P p)) := by
  refine mpt_loop (F := b_X11_product_k5 (g_WALK N)) (rec0 := g_WALK N 0) (by omega) hp hok (fun x m p ok K hM hs => ?_) (fun x m p K hM hj => ?_)
  · unfold b_X11_product_k5
    rw [hM.2.2.2.2.1]
    cases ok
    · rw [bn_false, if_pos (by decide)]
    · have hj : jnA 4 (byA l p) = false := by rcases hs with q | q; exact absurd q (by decide); exact q
      have n1 : ¬ byA l p = iI 42 := fun q => by rw [q] at hj; exact absurd hj (by decide)
      have n2 : ¬ byA l p = iI 47 := fun q => by rw [q] at hj; exact absurd hj (by decide)
      have n3 : ¬ byA l p = iI 37 := fun q => by rw [q] at hj; exact absurd hj (by decide)
      rw [bn_true, if_neg (by decide), m_byteAt hM, cal_some, join_eq, if_neg n1, cal_some, if_neg n2, cal_some, if_pos n3]
  · have hb : byA l p = iI 42 ∨ byA l p = iI 47 ∨ byA l p = iI 37 := by
      have hj2 := hj
      unfold jnA at hj2
      simp at hj2
      rcases hj2 with (q | q) | q
      · exact Or.inl q
      · exact Or.inr (Or.inl q)
      · exact Or.inr (Or.inr q)
    have e7 : b_X11_product_k5 (g_WALK N) x m K = b_X11_product_k7 m (g_WALK N) K x := by
      unfold b_X11_product_k5
      rw [hM.2.2.2.2.1, bn_true, if_neg (by decide), m_byteAt hM, cal_some, join_eq]
      rcases hb with q | q | q
      · rw [if_pos q]
      · rw [if_neg (by rw [q]; decide), cal_some, if_pos q]
      · rw [if_neg (by rw [q]; decide), cal_some, if_neg (by rw [q]; decide), cal_some, if_neg (fun z => z q)]
    rw [e7]
    unfold b_X11_product_k7
    rw [m_byteAt hM, cal_some, nm_eq, hM.2.2.1, show iI (p : Int) + iI 1 = iI ((p + 1 : Nat) : Int) from iI_add _ _]
    congr 1
    funext v h2
    rw [join_eq]
    rcases hb with q | q | q
    · rw [q, jnV42, if_neg (by decide)]
    · rw [q, jnV47, if_pos (by decide)]
      by_cases v0 : v = 0
      · rw [if_neg (fun z => z v0), if_pos v0]
      · rw [if_pos v0, if_neg (by decide), if_neg v0]; unfold nz; rw [if_neg v0]
    · rw [q, jnV37, if_pos (by decide)]
      by_cases v0 : v = 0
      · rw [if_neg (fun z => z v0), if_pos v0]
      · rw [if_pos v0, if_pos (by decide), if_neg v0]; unfold nz; rw [if_neg v0]
theorem mpt_sum {N : Nat} {P : Nat → RPS} (hp : MPT u l D a b c (g_WALK N 1) P) (hok : ∀ q, OKR l q (P q)) : MPT u l D a b c (g_WALK (N + 1) 2) (fun p => lpA l P 3 60 (P p)) := by
  refine mpt_loop (F := b_X11_sum_k5 (g_WALK N)) (rec0 := g_WALK N 1) (by omega) hp hok (fun x m p ok K hM hs => ?_) (fun x m p K hM hj => ?_)
  · unfold b_X11_sum_k5
    rw [hM.2.2.2.2.1]
    cases ok
    · rw [bn_false, if_pos (by decide)]
    · have hj : jnA 3 (byA l p) = false := by rcases hs with q | q; exact absurd q (by decide); exact q
      have n1 : ¬ byA l p = iI 43 := fun q => by rw [q] at hj; exact absurd hj (by decide)
      have n2 : ¬ byA l p = iI 45 := fun q => by rw [q] at hj; exact absurd hj (by decide)
      rw [bn_true, if_neg (by decide), m_byteAt hM, cal_some, join_eq, if_neg n1, cal_some, if_pos n2]
  · have hb : byA l p = iI 43 ∨ byA l p = iI 45 := by
      have hj2 := hj
      unfold jnA at hj2
      simpa using hj2
    have e7 : b_X11_sum_k5 (g_WALK N) x m K = b_X11_sum_k7 m (g_WALK N) K x := by
      unfold b_X11_sum_k5
      rw [hM.2.2.2.2.1, bn_true, if_neg (by decide), m_byteAt hM, cal_some, join_eq]
      rcases hb with q | q
      · rw [if_pos q]
      · rw [if_neg (by rw [q]; decide), cal_some, if_neg (fun z => z q)]
    rw [e7]
    unfold b_X11_sum_k7
    rw [m_byteAt hM, cal_some, nm_eq, hM.2.2.1, show iI (p : Int) + iI 1 = iI ((p + 1 : Nat) : Int) from iI_add _ _]
    congr 1
    funext v h2
    rw [join_eq]
    rcases hb with q | q
    · rw [q, jnV43, if_neg (by decide)]
    · rw [q, jnV45, if_pos (by decide)]
theorem mpt_both {N : Nat} {P : Nat → RPS} (hp : MPT u l D a b c (g_WALK N 3) P) (hok : ∀ q, OKR l q (P q)) : MPT u l D a b c (g_WALK (N + 1) 4) (fun p => lpA l P 1 60 (P p)) := by
  refine mpt_loop (F := b_X11_both_k5 (g_WALK N)) (rec0 := g_WALK N 3) (by omega) hp hok (fun x m p ok K hM hs => ?_) (fun x m p K hM hj => ?_)
  · unfold b_X11_both_k5
    rw [hM.2.2.2.2.1]
    cases ok
    · rw [bn_false, if_pos (by decide)]
    · have hj : jnA 1 (byA l p) = false := by rcases hs with q | q; exact absurd q (by decide); exact q
      have n1 : ¬ byA l p = iI 38 := fun q => by rw [q] at hj; exact absurd hj (by decide)
      rw [bn_true, if_neg (by decide), m_byteAt hM, cal_some, if_pos n1]
  · have hb : byA l p = iI 38 := by
      have hj2 := hj
      unfold jnA at hj2
      simpa using hj2
    unfold b_X11_both_k5
    rw [hM.2.2.2.2.1, bn_true, if_neg (by decide), m_byteAt hM, cal_some, if_neg (fun z => z hb), nm_eq, hM.2.2.1, show iI (p : Int) + iI 1 = iI ((p + 1 : Nat) : Int) from iI_add _ _]
    congr 1
    funext v h2
    rw [join_eq, join_eq, hb, jnV38]
    by_cases x0 : x = 0
    · rw [if_pos x0, if_pos x0]
    · rw [if_neg x0, if_neg x0]
      by_cases v0 : v = 0
      · rw [if_pos v0, if_pos v0]
      · rw [if_neg v0, if_neg v0]
theorem mpt_whole {N : Nat} {P : Nat → RPS} (hp : MPT u l D a b c (g_WALK N 4) P) (hok : ∀ q, OKR l q (P q)) : MPT u l D a b c (g_WALK (N + 1) 5) (fun p => lpA l P 0 60 (P p)) := by
  refine mpt_loop (F := b_X11_whole_k5 (g_WALK N)) (rec0 := g_WALK N 4) (by omega) hp hok (fun x m p ok K hM hs => ?_) (fun x m p K hM hj => ?_)
  · unfold b_X11_whole_k5
    rw [hM.2.2.2.2.1]
    cases ok
    · rw [bn_false, if_pos (by decide)]
    · have hj : jnA 0 (byA l p) = false := by rcases hs with q | q; exact absurd q (by decide); exact q
      have n1 : ¬ byA l p = iI 124 := fun q => by rw [q] at hj; exact absurd hj (by decide)
      rw [bn_true, if_neg (by decide), m_byteAt hM, cal_some, if_pos n1]
  · have hb : byA l p = iI 124 := by
      have hj2 := hj
      unfold jnA at hj2
      simpa using hj2
    unfold b_X11_whole_k5
    rw [hM.2.2.2.2.1, bn_true, if_neg (by decide), m_byteAt hM, cal_some, if_neg (fun z => z hb), nm_eq, hM.2.2.1, show iI (p : Int) + iI 1 = iI ((p + 1 : Nat) : Int) from iI_add _ _]
    congr 1
    funext v h2
    rw [join_eq, join_eq, hb, jnV124]
    by_cases x0 : x = 0
    · rw [if_neg (fun z => z x0), if_pos x0]
      by_cases v0 : v = 0
      · rw [if_pos v0, if_pos v0]
      · rw [if_neg v0, if_neg v0]
    · rw [if_pos x0, if_neg x0]
theorem mpt_compared {N : Nat} {P : Nat → RPS} (hp : MPT u l D a b c (g_WALK N 2) P) (hok : ∀ q, OKR l q (P q)) : MPT u l D a b c (g_WALK (N + 1) 3) (fun p => lpA l P 2 60 (P p)) := by
  intro h p hW
  show REM h u l D a b c (b_X11_compared (g_WALK N) h) (lpA l P 2 60 (P p))
  unfold b_X11_compared
  obtain ⟨v1, m, e1, e2, e3, e4⟩ := hp h p hW
  rw [e1, cal2_some, join_eq, e2.2.2.2.2.1]
  unfold lpA
  have n4 : ∀ {x3 : Int32} {v : Int32} {m : Mem}, ¬ x3 = iI 60 → ¬ x3 = iI 61 → ¬ x3 = iI 62 → b_X11_compared_k4 m (g_WALK N) v x3 = some (v, m) := fun a1 a2 a3 => by
    unfold b_X11_compared_k4
    rw [join_eq, if_neg a1, if_neg a2, if_neg a3]
  by_cases hb : (P p).1 = true
  · rw [if_pos hb, hb, show bn (!true) = iI 0 from rfl, if_pos (by decide), n4 (by decide) (by decide) (by decide)]
    exact ⟨v1, m, rfl, e2, e3, e4⟩
  · have hb' : (P p).1 = false := by simpa using hb
    rw [if_neg hb]
    have e2' := e2
    rw [hb'] at e2'
    rw [hb', show bn (!false) = iI 1 from rfl, if_neg (by decide), m_byteAt e2', cal_some]
    by_cases hj : jnA 2 (byA l (P p).2.1) = true
    · have hlt := jnA_lt hj
      have hbb : byA l (P p).2.1 = iI 60 ∨ byA l (P p).2.1 = iI 61 ∨ byA l (P p).2.1 = iI 62 := by
        have hj2 := hj
        unfold jnA at hj2
        simp at hj2
        rcases hj2 with (q | q) | q
        · exact Or.inl q
        · exact Or.inr (Or.inl q)
        · exact Or.inr (Or.inr q)
      rw [if_pos hj, if_pos rfl]
      have e5 : b_X11_compared_k4 m (g_WALK N) v1 (byA l (P p).2.1) = b_X11_compared_k5 m (g_WALK N) (byA l (P p).2.1) v1 := by
        unfold b_X11_compared_k4
        rw [join_eq]
        rcases hbb with q | q | q
        · rw [if_pos q]
        · rw [if_neg (by rw [q]; decide), if_pos q]
        · rw [if_neg (by rw [q]; decide), if_neg (by rw [q]; decide), if_pos q]
      rw [e5]
      unfold b_X11_compared_k5
      obtain ⟨v2, m2, s1, s2, s3, s4⟩ := hp _ ((P p).2.1 + 1) (e2'.on hlt)
      rw [nm_eq, e2'.2.2.1, show iI ((P p).2.1 : Int) + iI 1 = iI (((P p).2.1 + 1 : Nat) : Int) from iI_add _ _, s1, cal2_some, join_eq]
      have z0 : iI 0 = (0 : Int32) := rfl
      have z1 : ¬ iI 1 = (0 : Int32) := by decide
      have hval : (if ¬ byA l (P p).2.1 = iI 60 then (if ¬ byA l (P p).2.1 = iI 61 then (if v1 ≤ v2 then (fun x9 : Int32 => if x9 = 0 then some (iI 0, m2) else some (iI 1, m2)) (iI 0) else (fun x9 : Int32 => if x9 = 0 then some (iI 0, m2) else some (iI 1, m2)) (iI 1)) else (if ¬ v1 = v2 then (fun x9 : Int32 => if x9 = 0 then some (iI 0, m2) else some (iI 1, m2)) (iI 0) else (fun x9 : Int32 => if x9 = 0 then some (iI 0, m2) else some (iI 1, m2)) (iI 1))) else (if v2 ≤ v1 then (fun x9 : Int32 => if x9 = 0 then some (iI 0, m2) else some (iI 1, m2)) (iI 0) else (fun x9 : Int32 => if x9 = 0 then some (iI 0, m2) else some (iI 1, m2)) (iI 1))) = some (jnV (byA l (P p).2.1) v1 v2, m2) := by
        rcases hbb with q | q | q
        · rw [q, jnV60, if_neg (fun z => z rfl)]
          by_cases d : v2 ≤ v1
          · rw [if_pos d, if_pos d]; exact if_pos z0
          · rw [if_neg d, if_neg d]; exact if_neg z1
        · rw [q, jnV61, if_pos (by decide), if_neg (fun z => z rfl)]
          by_cases d : v1 = v2
          · rw [if_neg (fun z => z d), if_pos d]; exact if_neg z1
          · rw [if_pos d, if_neg d]; exact if_pos z0
        · rw [q, jnV62, if_pos (by decide), if_pos (by decide)]
          by_cases d : v1 ≤ v2
          · rw [if_pos d, if_pos d]; exact if_pos z0
          · rw [if_neg d, if_neg d]; exact if_neg z1
      refine ⟨_, m2, hval, s2, (e3.tr (FrW.fld (by omega))).tr s3, fun hb2 => ?_⟩
      show jnV _ v1 v2 = jnV (byA l (P p).2.1) ((P p).2.2.2 a b c) ((P ((P p).2.1 + 1)).2.2.2 a b c)
      rw [e4 hb', s4 hb2]
    · have hj' : jnA 2 (byA l (P p).2.1) = false := by simpa using hj
      rw [if_neg hj, n4 (fun q => by rw [q] at hj'; exact absurd hj' (by decide)) (fun q => by rw [q] at hj'; exact absurd hj' (by decide)) (fun q => by rw [q] at hj'; exact absurd hj' (by decide))]
      exact ⟨v1, m, rfl, e2, e3, e4⟩
end WALKM
