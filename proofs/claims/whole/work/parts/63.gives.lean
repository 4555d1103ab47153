section GIVES
theorem w_joined {h : Mem} {v x y : Int32} : f_X5_joined h v x y = some (jnV v x y) := by
  unfold f_X5_joined jnV
  by_cases e : v = iI 38
  · rw [if_pos e, if_pos e, join_eq]
    by_cases x0 : x = 0
    · rw [if_pos x0, if_pos x0]
    · rw [if_neg x0, if_neg x0]
      by_cases y0 : y = 0
      · rw [if_pos y0, if_pos y0]
      · rw [if_neg y0, if_neg y0]
  rw [if_neg e, if_neg e]; clear e
  by_cases e : v = iI 42
  · rw [if_pos e, if_pos e]
  rw [if_neg e, if_neg e]; clear e
  by_cases e : v = iI 43
  · rw [if_pos e, if_pos e]
  rw [if_neg e, if_neg e]; clear e
  by_cases e : v = iI 45
  · rw [if_pos e, if_pos e]
  rw [if_neg e, if_neg e]; clear e
  by_cases e : v = iI 47
  · rw [if_pos e, if_pos e]
    by_cases y0 : y = 0
    · rw [if_neg (fun z => z y0), if_pos y0]
    · rw [if_pos y0, if_neg y0]; unfold nz; rw [if_neg y0]
  rw [if_neg e, if_neg e]; clear e
  by_cases e : v = iI 60
  · rw [if_pos e, if_pos e]
    by_cases d : y ≤ x
    · rw [if_pos d, if_pos d]
    · rw [if_neg d, if_neg d]
  rw [if_neg e, if_neg e]; clear e
  by_cases e : v = iI 61
  · rw [if_pos e, if_pos e]
    by_cases d : x = y
    · rw [if_neg (fun z => z d), if_pos d]
    · rw [if_pos d, if_neg d]
  rw [if_neg e, if_neg e]; clear e
  by_cases e : v = iI 62
  · rw [if_pos e, if_pos e]
    by_cases d : x ≤ y
    · rw [if_pos d, if_pos d]
    · rw [if_neg d, if_neg d]
  rw [if_neg e, if_neg e]; clear e
  by_cases e : v = iI 124
  · rw [if_pos e, if_pos e, join_eq]
    by_cases x0 : x = 0
    · rw [if_neg (fun z => z x0), if_pos x0]
      by_cases y0 : y = 0
      · rw [if_pos y0, if_pos y0]
      · rw [if_neg y0, if_neg y0]
    · rw [if_pos x0, if_neg x0]
  rw [if_neg e, if_neg e]; clear e
  by_cases y0 : y = 0
  · rw [if_neg (fun z => z y0), if_pos y0]
  · rw [if_pos y0, if_neg y0]; unfold nz; rw [if_neg y0]
/-- the stack, its top first -/
def STK (m : Mem) (q : Nat) (st : List Int32) : Prop := ∀ j (hj : j < st.length), gI m q (st.length - 1 - j) = st[j]
theorem STK.push {m m2 : Mem} {q : Nat} {st : List Int32} {v : Int32} (hs : STK m q st) (e : ∀ k, k < st.length → gI m2 q k = gI m q k) (e2 : gI m2 q st.length = v) : STK m2 q (v :: st) := fun j hj => by
  have hj2 : j < st.length + 1 := hj
  show gI m2 q (st.length + 1 - 1 - j) = _
  cases j with
  | zero => exact e2
  | succ j =>
    have := hs j (by omega)
    rw [show st.length + 1 - 1 - (j + 1) = st.length - 1 - j by omega, e _ (by omega)]
    exact this
theorem STK.pop {m : Mem} {q : Nat} {st : List Int32} {v : Int32} (hs : STK m q (v :: st)) : STK m q st ∧ gI m q st.length = v := by
  refine ⟨fun j hj => ?_, ?_⟩
  · have := hs (j + 1) (by show j + 1 < st.length + 1; omega)
    rw [show (v :: st).length - 1 - (j + 1) = st.length - 1 - j by show st.length + 1 - 1 - (j + 1) = _; omega] at this
    exact this
  · have := hs 0 (by show 0 < st.length + 1; omega)
    rw [show (v :: st).length - 1 - 0 = st.length from rfl] at this
    exact this
theorem w_worked {h : Mem} {q : Nat} {code : List Int32} {a b c : Int32} (hn : gI h q 2 = iI code.length) (hc : LSt h (q + 1) 0 code) (h50 : code.length ≤ 50) :
    ∃ h2, f_X5_worked h q a b c = some (evC a b c code [], h2) ∧ (∀ x k, x ≠ q + 2 → gI h2 x k = gI h x k) ∧ (∀ x k, gL h2 x k = gL h x k) := by
  unfold f_X5_worked
  rw [nm_eq]
  obtain ⟨V, hV⟩ : ∃ V, V = evC a b c code [] := ⟨_, rfl⟩
  rw [← hV]
  obtain ⟨N', hN⟩ : ∃ N' : Nat, N' = 1000000 := ⟨_, rfl⟩
  rw [← hN]
  refine lo3_t (fun f x2 x3 m => ∃ (i : Nat) (st : List Int32), x3 = iI i ∧ x2 = iI ((st.length : Int) - 1) ∧ i + f = code.length ∧ st.length ≤ i ∧ evC a b c (code.drop i) st = V ∧ STK m (q + 2) st ∧ (∀ x k, x ≠ q + 2 → gI m x k = gI h x k) ∧ (∀ x k, gL m x k = gL h x k)) (fun o => ∃ h2, o = some (V, h2) ∧ (∀ x k, x ≠ q + 2 → gI h2 x k = gI h x k) ∧ (∀ x k, gL h2 x k = gL h x k)) ?_ N' code.length _ _ _ (by omega) ⟨0, [], rfl, rfl, by omega, Nat.le_refl _, hV.symm, fun j hj => absurd hj (Nat.not_lt_zero j), fun _ _ _ => rfl, fun _ _ => rfl⟩
  rintro f x2 x3 m ⟨i, st, rfl, rfl, hf, hst, hE, hS, e1, e2⟩ Kc
  unfold f_X5_worked_k5
  have eN : (iI code.length ≤ iI i) = ((code.length : Int) ≤ i) := iI_le ⟨by omega, by omega⟩
  have e0 : (0 ≤ iI ((st.length : Int) - 1)) = ((0 : Int) ≤ (st.length : Int) - 1) := by rw [iI_zero]; exact iI_le ⟨by omega, by omega⟩
  have e1' : (iI 1 ≤ iI ((st.length : Int) - 1)) = ((1 : Int) ≤ (st.length : Int) - 1) := iI_le ⟨by omega, by omega⟩
  rw [e1 _ _ (by omega), hn]
  by_cases hi : i = code.length
  · left
    rw [hi, List.drop_length] at hE
    rw [if_pos (by rw [eN]; omega)]
    cases st with
    | nil =>
      rw [if_neg (by rw [e0]; show ¬ ((0 : Int) ≤ ((0 : Nat) : Int) - 1); omega), ← hE]
      exact ⟨_, rfl, m, rfl, e1, e2⟩
    | cons x s =>
      obtain ⟨-, htop⟩ := hS.pop
      have hl : (x :: s).length = s.length + 1 := rfl
      rw [if_pos (by rw [e0]; omega), ald_i (by omega) (by omega), show (((x :: s).length : Int) - 1).toNat = s.length by omega, htop, ← hE]
      exact ⟨_, rfl, m, rfl, e1, e2⟩
  · have hic : i < code.length := by omega
    have hv : gI m (q + 1) i = code[i] := by
      rw [e1 _ _ (by omega)]
      have := hc i hic
      rw [Nat.zero_add] at this
      exact this
    rw [List.drop_eq_getElem_cons hic] at hE
    rw [if_neg (by rw [eN]; omega), ald_i (by omega) (by omega), Int.toNat_natCast, hv, join_eq]
    generalize code[i] = v at *
    obtain ⟨f', rfl⟩ : ∃ f', f = f' + 1 := ⟨f - 1, by omega⟩
    unfold evC at hE
    by_cases hop : iI 10000 ≤ v
    · rw [if_pos hop] at hE
      rw [if_pos hop]
      by_cases h33 : v = iI 10033
      · rw [if_pos h33] at hE
        rw [if_neg (fun z => z h33)]
        cases st with
        | nil =>
          left
          rw [if_neg (by rw [e0]; show ¬ ((0 : Int) ≤ ((0 : Nat) : Int) - 1); omega)]
          exact ⟨_, rfl, m, by rw [← hE], e1, e2⟩
        | cons x s =>
          right
          obtain ⟨hS2, htop⟩ := hS.pop
          have hl : (x :: s).length = s.length + 1 := rfl
          rw [if_pos (by rw [e0]; omega), ald_i (by omega) (by omega), show (((x :: s).length : Int) - 1).toNat = s.length by omega, htop, join_eq]
          have stp : ∀ w : Int32, (fun x18 : Int32 => ast m (q + 2) 50 (iI (((x :: s).length : Int) - 1)) x18 fun h20 => (fun (x8 : Int32) (h9 : Mem) => nm (iI (i : Int) + iI 1) fun x11 => Kc x8 x11 h9) (iI (((x :: s).length : Int) - 1)) h20) w = Kc (iI (((x :: s).length : Int) - 1)) (iI (i + 1 : Nat)) (sI m (q + 2) s.length w) := fun w => by
            dsimp only
            rw [ast_i (by omega) (by omega), show (((x :: s).length : Int) - 1).toNat = s.length by omega, nm_eq, iI_add]; rfl
          by_cases x0 : x = 0
          · rw [if_neg (fun z => z x0)]
            dsimp only at hE
            rw [if_pos x0] at hE
            refine ⟨f', _, _, _, Nat.lt_succ_self f', ⟨i + 1, iI 1 :: s, rfl, rfl, by omega, by show s.length + 1 ≤ _; omega, hE, ?_, fun y k q1 => ?_, ?_⟩, stp _⟩
            · exact hS2.push (fun k hk => gI_ne (by omega)) gI_same
            · rw [gI_ne (by omega)]; exact e1 y k q1
            · exact e2
          · rw [if_pos x0]
            dsimp only at hE
            rw [if_neg x0] at hE
            refine ⟨f', _, _, _, Nat.lt_succ_self f', ⟨i + 1, iI 0 :: s, rfl, rfl, by omega, by show s.length + 1 ≤ _; omega, hE, ?_, fun y k q1 => ?_, ?_⟩, stp _⟩
            · exact hS2.push (fun k hk => gI_ne (by omega)) gI_same
            · rw [gI_ne (by omega)]; exact e1 y k q1
            · exact e2
      · rw [if_neg h33] at hE
        rw [if_pos h33]
        cases st with
        | nil =>
          left
          rw [if_neg (by rw [e1']; show ¬ ((1 : Int) ≤ ((0 : Nat) : Int) - 1); omega)]
          exact ⟨_, rfl, m, by rw [← hE], e1, e2⟩
        | cons y s0 =>
          cases s0 with
          | nil =>
            left
            rw [if_neg (by rw [e1']; show ¬ ((1 : Int) ≤ ((1 : Nat) : Int) - 1); omega)]
            exact ⟨_, rfl, m, by rw [← hE], e1, e2⟩
          | cons x s =>
            right
            obtain ⟨hS2, htop⟩ := hS.pop
            obtain ⟨hS3, htop2⟩ := hS2.pop
            have hl : (y :: x :: s).length = s.length + 2 := rfl
            have hl1 : (x :: s).length = s.length + 1 := rfl
            rw [hl1] at htop
            rw [if_pos (by rw [e1']; omega), hl, iI_add, nm_eq, ald_i (by omega) (by omega), iI_add, ald_i (by omega) (by omega), show (((s.length + 2 : Nat) : Int) - 1 + -1).toNat = s.length by omega, show (((s.length + 2 : Nat) : Int) - 1 + -1 + 1).toNat = s.length + 1 by omega, htop, htop2, w_joined, cal_some, ast_i (by omega) (by omega), show (((s.length + 2 : Nat) : Int) - 1 + -1).toNat = s.length by omega]
            refine ⟨f', _, _, _, Nat.lt_succ_self f', ⟨i + 1, jnV (v - iI 10000) x y :: s, rfl, ?_, by omega, by show s.length + 1 ≤ _; omega, hE, ?_, fun y' k q1 => ?_, ?_⟩, by dsimp only; rw [nm_eq, iI_add]; rfl⟩
            · congr 1; show ((s.length + 2 : Nat) : Int) - 1 + -1 = ((s.length + 1 : Nat) : Int) - 1; omega
            · exact hS3.push (fun k hk => gI_ne (by omega)) gI_same
            · rw [gI_ne (by omega)]; exact e1 y' k q1
            · exact e2
    · right
      rw [if_neg hop] at hE
      have e50 : (iI (st.length : Int) < Int32.ofNat 50) = ((st.length : Int) < 50) := by rw [iI_nat]; exact iI_lt ⟨by omega, by omega⟩
      rw [if_neg hop, iI_add, show ((st.length : Int) - 1 + 1) = (st.length : Int) by omega, nm_eq, if_pos (by rw [e50]; omega), join_eq]
      have hpush : ∀ (w : Int32), evC a b c (code.drop (i + 1)) (w :: st) = V → ∃ f'' a' b' c', f'' < f' + 1 ∧ (∃ (i : Nat) (st : List Int32), b' = iI i ∧ a' = iI ((st.length : Int) - 1) ∧ i + f'' = code.length ∧ st.length ≤ i ∧ evC a b c (code.drop i) st = V ∧ STK c' (q + 2) st ∧ (∀ x k, x ≠ q + 2 → gI c' x k = gI h x k) ∧ (∀ x k, gL c' x k = gL h x k)) ∧ (fun x22 : Int32 => ast m (q + 2) 50 (iI (st.length : Int)) x22 fun h24 => (fun (x8 : Int32) (h9 : Mem) => nm (iI (i : Int) + iI 1) fun x11 => Kc x8 x11 h9) (iI (st.length : Int)) h24) w = Kc a' b' c' := fun w hw => by
        refine ⟨f', iI (st.length : Int), iI (i + 1 : Nat), sI m (q + 2) st.length w, Nat.lt_succ_self f', ⟨i + 1, w :: st, rfl, ?_, by omega, by show st.length + 1 ≤ _; omega, hw, ?_, fun y' k q1 => ?_, ?_⟩, ?_⟩
        · congr 1; show (st.length : Int) = ((st.length + 1 : Nat) : Int) - 1; omega
        · exact hS.push (fun k hk => gI_ne (by omega)) gI_same
        · rw [gI_ne (by omega)]; exact e1 y' k q1
        · exact e2
        · dsimp only
          rw [ast_i (by omega) (by omega), Int.toNat_natCast, nm_eq, iI_add]; rfl
      by_cases v0 : v < 0
      · rw [if_pos v0] at hE
        rw [if_pos v0]
        by_cases v1 : v = iI (-1)
        · rw [if_pos v1] at hE
          rw [if_neg (fun z => z v1)]
          exact hpush a hE
        · rw [if_neg v1] at hE
          rw [if_pos v1]
          by_cases v2 : v = iI (-2)
          · rw [if_pos v2] at hE
            rw [if_neg (fun z => z v2)]
            exact hpush b hE
          · rw [if_neg v2] at hE
            rw [if_pos v2]
            exact hpush c hE
      · rw [if_neg v0] at hE
        rw [if_neg v0]
        exact hpush v hE
end GIVES
