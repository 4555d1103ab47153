section FEEDOP
/-- byte j of a long -/
def byt (x : Int64) (j : Nat) : Int32 := Int64.toInt32 (ushL x (iI (8 * j : Nat)) &&& iL 255)
theorem l_255 : ∀ i, i < 64 → bl (iL 255) i = decide (i < 8) := by decide +kernel
theorem byt_s {x : Int64} {j : Nat} (hj : j < 8) : Int64.toInt32 (shrL x (iI (8 * j : Nat)) &&& iL 255) = byt x j := by
  unfold byt
  congr 1
  apply l_ext
  intro i hi
  rw [l_and, l_and, l_255 i hi, l_shr (by omega) _ hi, l_ush (by omega)]
  by_cases h : i < 8
  · rw [if_pos (by omega)]
  · simp [h]
def byts (x : Int64) (n : Nat) : List Int32 := (List.range n).map (byt x)
theorem byts_len {x : Int64} {n : Nat} : (byts x n).length = n := by unfold byts; rw [List.length_map, List.length_range]
theorem byts_succ {x : Int64} {n : Nat} : byts x (n + 1) = byts x n ++ [byt x n] := by unfold byts; rw [List.range_succ, List.map_append]; rfl
variable {h : Mem} {g : GS}
def spFeed (g : GS) (x : Int64) (y : Int) : Int32 × GS := if 1 ≤ y ∧ y ≤ 8 then (if g.now.tape.length + y.toNat ≤ 50 then (iI (g.now.tape.length + y.toNat : Nat), g.put (g.now.tap (g.now.tape ++ byts x y.toNat))) else (iI (-1000000004), g.fail 4)) else (iI (-1000000001), g.fail 1)
theorem w_feedBytes {x : Int64} {n : Nat} {l : List Int32} (hl : l.length + n ≤ 50) (hn : n ≤ 8) (h4 : gI h 2 4 = iI l.length) (h11 : LSt h 13 0 l) :
    ∃ h2, f_X9_feedBytes h 2 x (iI n) = some (iI 1, h2) ∧ gI h2 2 4 = iI (l.length + n : Nat) ∧ LSt h2 13 0 (l ++ byts x n) ∧ (∀ y k, y ≠ 13 → (y ≠ 2 ∨ k ≠ 4) → gI h2 y k = gI h y k) ∧ (∀ y k, gL h2 y k = gL h y k) := by
  unfold f_X9_feedBytes
  have e : (iI n ≤ iI (50 - (l.length : Int))) = ((n : Int) ≤ 50 - (l.length : Int)) := iI_le ⟨by omega, by omega⟩
  rw [h4, iI_sub, if_pos (by rw [e]; omega)]
  obtain ⟨N, hN⟩ : ∃ N : Nat, N = 1000000 := ⟨_, rfl⟩
  rw [← hN]
  refine lo2_t (fun f x1 m => ∃ i : Nat, x1 = iI i ∧ i + f = n ∧ gI m 2 4 = iI (l.length + i : Nat) ∧ LSt m 13 0 (l ++ byts x i) ∧ (∀ y k, y ≠ 13 → (y ≠ 2 ∨ k ≠ 4) → gI m y k = gI h y k) ∧ (∀ y k, gL m y k = gL h y k)) (fun o => ∃ h2, o = some (iI 1, h2) ∧ gI h2 2 4 = iI (l.length + n : Nat) ∧ LSt h2 13 0 (l ++ byts x n) ∧ (∀ y k, y ≠ 13 → (y ≠ 2 ∨ k ≠ 4) → gI h2 y k = gI h y k) ∧ (∀ y k, gL h2 y k = gL h y k)) ?_ N n _ _ (by omega) ⟨0, rfl, by omega, h4, ?_, fun _ _ _ _ => rfl, fun _ _ => rfl⟩
  · rintro f x1 m ⟨i, rfl, hf, e1, e2, e3, e4⟩ Kc
    unfold f_X9_feedBytes_k3
    have e : (iI n ≤ iI i) = ((n : Int) ≤ i) := iI_le ⟨by omega, by omega⟩
    by_cases hi : i = n
    · left
      subst hi
      rw [if_pos (by rw [e]; omega), rZ1]
      exact ⟨_, rfl, m, rfl, e1, e2, e3, e4⟩
    · right
      rw [if_neg (by rw [e]; omega), e1, ast_i (by omega) (by omega), Int.toNat_natCast, iI_mul, nm_eq, nm_eq, gI_ne (by omega), e1, iI_add, iI_add, show (8 * (i : Int)) = ((8 * i : Nat) : Int) by omega]
      refine ⟨f - 1, _, _, by omega, ⟨i + 1, rfl, by omega, ?_, ?_, fun y k q1 q2 => ?_, ?_⟩, rfl⟩
      · exact gI_same
      · rw [byts_succ, ← List.append_assoc]
        refine e2.snoc (fun k hk => ?_) ?_
        · rw [List.length_append, byts_len] at hk
          rw [gI_ne (by omega), gI_ne (by omega)]
        · rw [List.length_append, byts_len, gI_ne (by omega), Nat.zero_add, gI_same]; rfl
      · rw [gI_ne (by omega), gI_ne (by omega)]; exact e3 y k q1 q2
      · exact e4
  · show LSt h 13 0 (l ++ [])
    rw [List.append_nil]; exact h11
theorem c_feed {x : Int64} {y : Int} (hc : CSt h g) (hg : GV g) (hy : -2147483648 ≤ y ∧ y < 2147483648) : OPC h (f_X10_feed h x (iI y)) (spFeed g x y).1 (spFeed g x y).2 := by
  unfold f_X10_feed spFeed
  have h50 : g.now.tape.length ≤ 50 := hg.1.2.2.2.2.1
  rw [w_within hy (by omega) (by omega), cal_some]
  by_cases e1 : 1 ≤ y ∧ y ≤ 8
  · obtain ⟨n, rfl⟩ : ∃ n : Nat, y = n := ⟨y.toNat, by omega⟩
    rw [decide_eq_true e1, bn_true, if_pos (by decide), if_pos e1, Int.toNat_natCast]
    by_cases e2 : g.now.tape.length + n ≤ 50
    · obtain ⟨h2, p1, p2, p3, p4, p5⟩ := w_feedBytes (x := x) e2 (by omega) hc.1.2.1 hc.1.2.2.1
      rw [p1, cal2_some, if_neg (by decide), if_pos e2, p2]
      exact ⟨h2, rfl, hc.now (hc.1.tap (fun x k q1 q2 q3 q4 => p4 x k q3 (by omega)) (p5 _ _) (by rw [p2, List.length_append, byts_len]) p3) (fun x k q => p4 x k (by omega) (by omega)) (p5 _ _), fun x k q => ⟨p4 x k (by omega) (by omega), p5 x k⟩⟩
    · rw [if_neg e2]
      have e : (iI n ≤ iI (50 - (g.now.tape.length : Int))) = ((n : Int) ≤ 50 - (g.now.tape.length : Int)) := iI_le ⟨by omega, by omega⟩
      unfold f_X9_feedBytes
      rw [hc.1.2.1, iI_sub, if_neg (by rw [e]; omega), rZ0, cal2_some, if_pos (by decide), cal2_id]
      exact c_fail hc (e := 4) (by omega)
  · rw [decide_eq_false e1, bn_false, if_neg (by decide), if_neg e1, cal2_id]
    exact c_fail hc (e := 1) (by omega)
theorem m_feed {x : Int64} {y : Int} (hm : MSt h g) (hg : GV g) (hy : -2147483648 ≤ y ∧ y < 2147483648) : OPM h (f_X11_feed h x (iI y)) (spFeed g x y).1 (spFeed g x y).2 := by
  unfold f_X11_feed spFeed
  have h50 : g.now.tape.length ≤ 50 := hg.1.2.2.2.2.1
  rw [m_in hy (by omega) (by omega), cal_some]
  by_cases e1 : 1 ≤ y ∧ y ≤ 8
  · obtain ⟨n, rfl⟩ : ∃ n : Nat, y = n := ⟨y.toNat, by omega⟩
    have h5 : gI h 73 5 = iI g.now.tape.length := hm.1.2.2.2.2.1
    have h6 : LSt h 73 135 g.now.tape := hm.1.2.2.2.2.2.1
    have e : (iI (g.now.tape.length + n) ≤ iI 50) = (((g.now.tape.length : Int) + n) ≤ 50) := iI_le ⟨by omega, by omega⟩
    rw [decide_eq_true e1, bn_true, if_pos (by decide), if_pos e1, Int.toNat_natCast, ald_i (by omega) (by omega), show (5 : Int).toNat = 5 from rfl, h5, iI_add]
    by_cases e2 : g.now.tape.length + n ≤ 50
    · rw [if_pos (by rw [e]; omega), if_pos e2]
      obtain ⟨N, hN⟩ : ∃ N : Nat, N = 1000000 := ⟨_, rfl⟩
      rw [← hN]
      refine lo2_t (fun f x1 m => ∃ i : Nat, x1 = iI i ∧ i + f = n ∧ gI m 73 5 = iI (g.now.tape.length + i : Nat) ∧ LSt m 73 135 (g.now.tape ++ byts x i) ∧ (∀ y k, y ≠ 73 ∨ (k ≠ 5 ∧ (k < 135 ∨ 185 ≤ k)) → gI m y k = gI h y k) ∧ (∀ y k, gL m y k = gL h y k)) (fun o => OPM h o (iI (g.now.tape.length + n : Nat)) (g.put (g.now.tap (g.now.tape ++ byts x n)))) ?_ N n _ _ (by omega) ⟨0, rfl, by omega, h5, ?_, fun _ _ _ => rfl, fun _ _ => rfl⟩
      · rintro f x1 m ⟨i, rfl, hf, p1, p2, p3, p4⟩ Kc
        unfold f_X11_feed_k5
        have e : (iI n ≤ iI i) = ((n : Int) ≤ i) := iI_le ⟨by omega, by omega⟩
        by_cases hi : i = n
        · left
          subst hi
          rw [if_pos (by rw [e]; omega), ald_i (by omega) (by omega), show (5 : Int).toNat = 5 from rfl, p1]
          exact ⟨_, rfl, m, rfl, hm.now hg (hm.1.tap hg.1 (fun k q1 q2 q3 => p3 _ _ (by omega)) (by rw [p1, List.length_append, byts_len]) p2) (fun x k q => p3 _ _ (by omega)), fun x k q => ⟨p3 _ _ (by omega), p4 _ _⟩⟩
        · right
          rw [if_neg (by rw [e]; omega), ald_i (by omega) (by omega), show (5 : Int).toNat = 5 from rfl, p1, iI_add, ast_i (by omega) (by omega), ald_i (by omega) (by omega), ast_i (by omega) (by omega), show (5 : Int).toNat = 5 from rfl, gI_ne (by omega), p1, iI_add, iI_mul, nm_eq, iI_add, show ((135 : Int) + ((g.now.tape.length + i : Nat) : Int)).toNat = 135 + (g.now.tape.length + i) by omega, show (8 * (i : Int)) = ((8 * i : Nat) : Int) by omega, byt_s (by omega)]
          refine ⟨f - 1, _, _, by omega, ⟨i + 1, rfl, by omega, ?_, ?_, fun y k q1 => ?_, ?_⟩, rfl⟩
          · exact gI_same
          · rw [byts_succ, ← List.append_assoc]
            refine p2.snoc (fun k hk => ?_) ?_
            · rw [List.length_append, byts_len] at hk
              rw [gI_ne (by omega), gI_ne (by omega)]
            · rw [List.length_append, byts_len, gI_ne (by omega), gI_same]
          · rw [gI_ne (by omega), gI_ne (by omega)]; exact p3 y k q1
          · exact p4
      · show LSt h 73 135 (g.now.tape ++ [])
        rw [List.append_nil]; exact h6
    · rw [if_neg (by rw [e]; omega), if_neg e2, cal2_id]
      exact c_errs hm hg (e := 4) (by omega)
  · rw [decide_eq_false e1, bn_false, if_neg (by decide), if_neg e1, cal2_id]
    exact c_errs hm hg (e := 1) (by omega)
theorem GV.feed {x : Int64} {y : Int} (hg : GV g) : GV (spFeed g x y).2 := by
  unfold spFeed
  split
  · split
    · exact hg.tap (by rw [List.length_append, byts_len]; show g.now.tape.length + y.toNat ≤ 50; omega)
    · exact hg.fail 4
  · exact hg.fail 1
end FEEDOP
