section ASOP
/-- what a kind is, too -/
def abv (k : Nat) : Int := if k = 0 then -1 else if k = 4 ∨ k = 5 then 1 else if k = 6 then 2 else 0
def isA (k t : Nat) : Bool := decide (k = t ∨ t = 0 ∨ ((k = 4 ∨ k = 5) ∧ t = 1) ∨ (k = 6 ∧ t = 2))
theorem lo1_s {ρ A : Type} {F : A → (A → Option ρ) → Option ρ} {N : Nat} {a : A} : lo1 F (N + 1) a = F a (lo1 F N) := (rfl)
theorem lo2_s {ρ A B : Type} {F : A → B → (A → B → Option ρ) → Option ρ} {N : Nat} {a : A} {b : B} : lo2 F (N + 1) a b = F a b (lo2 F N) := (rfl)
theorem lo3_s {ρ A B C : Type} {F : A → B → C → (A → B → C → Option ρ) → Option ρ} {N : Nat} {a : A} {b : B} {c : C} : lo3 F (N + 1) a b c = F a b c (lo3 F N) := (rfl)
variable {h : Mem} {g : GS}
theorem w_above {k : Nat} (hk : k ≤ 6) : f_X3_above h (iI k) = some (iI (abv k)) := by
  unfold f_X3_above
  rw [iI_nat, iI_sub, w_within (by omega) (by omega) (by omega), cal_some, decide_eq_true (by omega), bn_true, if_neg (by decide), tld_i (by omega) (by omega)]
  rcases (show k = 0 ∨ k = 1 ∨ k = 2 ∨ k = 3 ∨ k = 4 ∨ k = 5 ∨ k = 6 by omega) with rfl | rfl | rfl | rfl | rfl | rfl | rfl <;> rfl
theorem m_above {k : Nat} (hk : k ≤ 6) : f_X11_above h (iI k) = some (iI (abv k)) := by
  unfold f_X11_above
  rcases (show k = 0 ∨ k = 1 ∨ k = 2 ∨ k = 3 ∨ k = 4 ∨ k = 5 ∨ k = 6 by omega) with rfl | rfl | rfl | rfl | rfl | rfl | rfl <;> rfl
theorem w_isOf_s {N k t j : Nat} (hk : k ≤ 6) (ht : t ≤ 6) (hj : j < 7) : lo2 (f_X3_isOf_k3 (iI t) h) (N + 1) (iI k) (iI j) = if k = t then some (bn true) else lo2 (f_X3_isOf_k3 (iI t) h) N (iI (abv k)) (iI (j + 1 : Nat)) := by
  rw [lo2_s]
  unfold f_X3_isOf_k3
  have e1 : (iI 7 ≤ iI j) = ((7 : Int) ≤ j) := iI_le ⟨by omega, by omega⟩
  have e2 : (iI k < 0) = ((k : Int) < 0) := by rw [iI_zero]; exact iI_lt ⟨by omega, by omega⟩
  have e3 : (iI k = iI t) = ((k : Int) = t) := iI_eq ⟨by omega, by omega⟩
  rw [if_neg (by rw [e1]; omega), if_neg (by rw [e2]; omega)]
  by_cases e : k = t
  · rw [if_neg (by rw [e3]; omega), if_pos e, rZ1]; rfl
  · rw [if_pos (by rw [e3]; omega), if_neg e, w_above hk, cal_some, nm_eq, iI_add]; rfl
theorem w_isOf_n {N t j : Nat} (hj : j ≤ 7) : lo2 (f_X3_isOf_k3 (iI t) h) (N + 1) (iI (-1)) (iI j) = some (bn false) := by
  rw [lo2_s]
  unfold f_X3_isOf_k3
  have e1 : (iI 7 ≤ iI j) = ((7 : Int) ≤ j) := iI_le ⟨by omega, by omega⟩
  by_cases e : j = 7
  · rw [if_pos (by rw [e1]; omega), rZ0]; rfl
  · rw [if_neg (by rw [e1]; omega), if_pos (by decide), rZ0]; rfl
theorem isA_up {k t : Nat} (hk : k ≤ 6) (ht : t ≤ 6) : isA k t = if k = t then true else if abv k < 0 then false else isA (abv k).toNat t := by
  have h7 : ∀ k, k < 7 → ∀ t, t < 7 → isA k t = if k = t then true else if abv k < 0 then false else isA (abv k).toNat t := by decide
  exact h7 k (by omega) t (by omega)
theorem w_isOf_g {t : Nat} (ht : t ≤ 6) : ∀ (n N k j : Nat), k ≤ 6 → j + n ≤ 7 → n ≤ N → (if k = 0 then 2 else if k ≤ 3 then 3 else 4) ≤ n → lo2 (f_X3_isOf_k3 (iI t) h) N (iI k) (iI j) = some (bn (isA k t))
  | 0, N, k, j, hk, hj, hN, hn => by split at hn <;> first | omega | (split at hn <;> omega)
  | n + 1, 0, k, j, hk, hj, hN, hn => by omega
  | n + 1, N + 1, k, j, hk, hj, hN, hn => by
    rw [w_isOf_s hk ht (by omega), isA_up hk ht]
    by_cases e : k = t
    · rw [if_pos e, if_pos e]
    · rw [if_neg e, if_neg e]
      by_cases e0 : k = 0
      · subst e0
        rw [if_pos rfl] at hn
        obtain ⟨N', rfl⟩ : ∃ N', N = N' + 1 := ⟨N - 1, by omega⟩
        rw [show abv 0 = -1 from rfl, w_isOf_n (by omega), if_pos (by decide)]
      · rw [if_neg e0] at hn
        obtain ⟨p, ep, hp, hp2⟩ : ∃ p : Nat, abv k = p ∧ p ≤ 6 ∧ (if p = 0 then 2 else if p ≤ 3 then 3 else 4) ≤ n := by
          rcases (show k = 1 ∨ k = 2 ∨ k = 3 ∨ k = 4 ∨ k = 5 ∨ k = 6 by omega) with rfl | rfl | rfl | rfl | rfl | rfl
          · exact ⟨0, rfl, by omega, by rw [if_pos (by omega)] at hn; rw [if_pos rfl]; omega⟩
          · exact ⟨0, rfl, by omega, by rw [if_pos (by omega)] at hn; rw [if_pos rfl]; omega⟩
          · exact ⟨0, rfl, by omega, by rw [if_pos (by omega)] at hn; rw [if_pos rfl]; omega⟩
          · exact ⟨1, rfl, by omega, by rw [if_neg (by omega)] at hn; rw [if_neg (by omega), if_pos (by omega)]; omega⟩
          · exact ⟨1, rfl, by omega, by rw [if_neg (by omega)] at hn; rw [if_neg (by omega), if_pos (by omega)]; omega⟩
          · exact ⟨2, rfl, by omega, by rw [if_neg (by omega)] at hn; rw [if_neg (by omega), if_pos (by omega)]; omega⟩
        rw [ep, if_neg (by omega), Int.toNat_natCast]
        exact w_isOf_g ht n N p (j + 1) hp (by omega) (by omega) hp2
theorem w_isOf {k t : Nat} (hk : k ≤ 6) (ht : t ≤ 6) : f_X3_isOf h (iI k) (iI t) = some (bn (isA k t)) :=
  w_isOf_g (h := h) ht 7 1000000 k 0 hk (by omega) (by omega) (by split; omega; split <;> omega)
def spAs (g : GS) (x y : Int) : Int32 × GS := if 0 ≤ x ∧ x < (g.now.R * g.now.C : Nat) then (if 0 ≤ y ∧ y ≤ 6 then (if isA (g.now.K x.toNat) y.toNat then (iI (g.now.M x.toNat), g) else (iI (-1000000005), g.fail 5)) else (iI (-1000000001), g.fail 1)) else (iI (-1000000001), g.fail 1)
theorem c_as {x y : Int} (hc : CSt h g) (hg : GV g) (hx : -2147483648 ≤ x ∧ x < 2147483648) (hy : -2147483648 ≤ y ∧ y < 2147483648) : OPC h (f_X10_as h (iI x) (iI y)) (spAs g x y).1 (spAs g x y).2 := by
  have hh := hc.1.1
  have hV := hg.1.1
  have h25 := sq_25 hV.2.1 hV.2.2.2.1
  unfold f_X10_as spAs
  rw [w_hasSquare hh hV hx, cal_some, join_eq, cal2_id]
  by_cases e1 : 0 ≤ x ∧ x < (g.now.R * g.now.C : Nat)
  · obtain ⟨q, rfl⟩ : ∃ q : Nat, x = q := ⟨x.toNat, by omega⟩
    have hq : q < 25 := by omega
    rw [decide_eq_true e1, bn_true, if_neg (by decide), if_pos e1, w_within hy (by omega) (by omega), cal_some, Int.toNat_natCast]
    by_cases e2 : 0 ≤ y ∧ y ≤ 6
    · obtain ⟨t, rfl⟩ : ∃ t : Nat, y = t := ⟨y.toNat, by omega⟩
      rw [decide_eq_true e2, bn_true, if_pos (by decide), if_pos e2, ald_i (by omega) (by omega), Int.toNat_natCast, Int.toNat_natCast, show gI h 4 q = iI (g.now.K q) from hh.2.2.1 q hq, w_isOf (hV.2.2.2.2.1 q) (by omega), cal_some]
      cases isA (g.now.K q) t
      · rw [bn_false, if_pos (by decide), if_neg (by decide), cal2_id]
        exact c_fail hc (e := 5) (by omega)
      · rw [bn_true, if_neg (by decide), if_pos rfl, ald_i (by omega) (by omega), Int.toNat_natCast, show gI h 5 q = iI (g.now.M q) from hh.2.2.2.1 q hq]
        exact OPC.same hc
    · rw [decide_eq_false e2, bn_false, if_neg (by decide), if_neg e2]
      exact c_fail hc (e := 1) (by omega)
  · rw [decide_eq_false e1, bn_false, if_pos (by decide), if_neg e1]
    exact c_fail hc (e := 1) (by omega)
theorem m_as_g {q t : Nat} (hm : MSt h g) (hg : GV g) (hq : q < 25) (ht : t ≤ 6) : ∀ (n N k : Nat), k ≤ 6 → n ≤ N → (if k = 0 then 2 else if k ≤ 3 then 3 else 4) ≤ n → OPM h (lo1 (f_X11_as_k8 h (iI q) (iI t)) N (iI k)) (if isA k t then iI (g.now.M q) else iI (-1000000005)) (if isA k t then g else g.fail 5)
  | 0, N, k, hk, hN, hn => by split at hn <;> first | omega | (split at hn <;> omega)
  | n + 1, 0, k, hk, hN, hn => by omega
  | n + 1, N + 1, k, hk, hN, hn => by
    rw [lo1_s, isA_up hk ht]
    unfold f_X11_as_k8
    have e2 : (iI k < 0) = ((k : Int) < 0) := by rw [iI_zero]; exact iI_lt ⟨by omega, by omega⟩
    have e3 : (iI k = iI t) = ((k : Int) = t) := iI_eq ⟨by omega, by omega⟩
    have e4 : (0 ≤ iI k) = ((0 : Int) ≤ k) := by rw [iI_zero]; exact iI_le ⟨by omega, by omega⟩
    rw [join_eq, if_neg (by rw [e2]; omega)]
    by_cases e : k = t
    · rw [if_pos (by rw [e3]; omega), if_pos e, if_pos rfl, if_pos rfl, if_pos (by rw [e4]; omega), m_its1 hq, (hm.1.1.2.2 q hq).2.1, cal_some]
      exact OPM.same hm
    · rw [if_neg (by rw [e3]; omega), if_neg e, m_above hk, cal_some]
      by_cases e0 : k = 0
      · subst e0
        rw [if_pos rfl] at hn
        obtain ⟨N', rfl⟩ : ∃ N', N = N' + 1 := ⟨N - 1, by omega⟩
        rw [show abv 0 = -1 from rfl, if_pos (show (-1 : Int) < 0 by decide), if_neg Bool.false_ne_true, if_neg Bool.false_ne_true, lo1_s, join_eq, if_pos (by decide), if_neg (by decide), cal2_id]
        exact c_errs hm hg (e := 5) (by omega)
      · rw [if_neg e0] at hn
        obtain ⟨p, ep, hp, hp2⟩ : ∃ p : Nat, abv k = p ∧ p ≤ 6 ∧ (if p = 0 then 2 else if p ≤ 3 then 3 else 4) ≤ n := by
          rcases (show k = 1 ∨ k = 2 ∨ k = 3 ∨ k = 4 ∨ k = 5 ∨ k = 6 by omega) with rfl | rfl | rfl | rfl | rfl | rfl
          · exact ⟨0, rfl, by omega, by rw [if_pos (by omega)] at hn; rw [if_pos rfl]; omega⟩
          · exact ⟨0, rfl, by omega, by rw [if_pos (by omega)] at hn; rw [if_pos rfl]; omega⟩
          · exact ⟨0, rfl, by omega, by rw [if_pos (by omega)] at hn; rw [if_pos rfl]; omega⟩
          · exact ⟨1, rfl, by omega, by rw [if_neg (by omega)] at hn; rw [if_neg (by omega), if_pos (by omega)]; omega⟩
          · exact ⟨1, rfl, by omega, by rw [if_neg (by omega)] at hn; rw [if_neg (by omega), if_pos (by omega)]; omega⟩
          · exact ⟨2, rfl, by omega, by rw [if_neg (by omega)] at hn; rw [if_neg (by omega), if_pos (by omega)]; omega⟩
        rw [ep, if_neg (show ¬ ((p : Int) < 0) by omega), Int.toNat_natCast]
        exact m_as_g hm hg hq ht n N p hp (by omega) hp2
theorem m_as {x y : Int} (hm : MSt h g) (hg : GV g) (hx : -2147483648 ≤ x ∧ x < 2147483648) (hy : -2147483648 ≤ y ∧ y < 2147483648) : OPM h (f_X11_as h (iI x) (iI y)) (spAs g x y).1 (spAs g x y).2 := by
  have hh := hm.1.1
  have hV := hg.1.1
  have h25 := sq_25 hV.2.1 hV.2.2.2.1
  unfold f_X11_as spAs
  rw [m_isSquare hh hV hx, cal_some, join_eq, cal2_id]
  by_cases e1 : 0 ≤ x ∧ x < (g.now.R * g.now.C : Nat)
  · obtain ⟨q, rfl⟩ : ∃ q : Nat, x = q := ⟨x.toNat, by omega⟩
    have hq : q < 25 := by omega
    rw [decide_eq_true e1, bn_true, if_neg (by decide), if_pos e1, m_in hy (by omega) (by omega), cal_some, Int.toNat_natCast]
    by_cases e2 : 0 ≤ y ∧ y ≤ 6
    · obtain ⟨t, rfl⟩ : ∃ t : Nat, y = t := ⟨y.toNat, by omega⟩
      rw [decide_eq_true e2, bn_true, if_pos (by decide), if_pos e2, Int.toNat_natCast, m_its0 hq, (hh.2.2 q hq).1, cal_some]
      have := m_as_g (t := t) hm hg hq (by omega) 7 1000000 (g.now.K q) (hV.2.2.2.2.1 q) (by omega) (by split; omega; split <;> omega)
      cases e3 : isA (g.now.K q) t <;> rw [e3] at this <;> exact this
    · rw [decide_eq_false e2, bn_false, if_neg (by decide), if_neg e2]
      exact c_errs hm hg (e := 1) (by omega)
  · rw [decide_eq_false e1, bn_false, if_pos (by decide), if_neg e1]
    exact c_errs hm hg (e := 1) (by omega)
theorem GV.as {x y : Int} (hg : GV g) : GV (spAs g x y).2 := by
  unfold spAs
  repeat' split
  all_goals first | exact hg | exact hg.fail 1 | exact hg.fail 5
end ASOP
