/-- the model's row in the array cell r: the same hall -/
def RM (h : Mem) (r R C : Nat) (K M : Nat → Nat) (S : Nat → Bool) (T L : Nat → Nat) : Prop :=
  gI h r 0 = iI R ∧ gI h r 1 = iI C ∧ ∀ q, q < 25 → gI h r (10 + 5 * q) = iI (K q) ∧ gI h r (10 + 5 * q + 1) = iI (M q) ∧ gI h r (10 + 5 * q + 2) = bn (S q) ∧ gI h r (10 + 5 * q + 3) = iI (T q) ∧ gI h r (10 + 5 * q + 4) = iI (L q)
theorem upB_ok {S : Nat → Bool} {q x : Nat} {v : Bool} {P : Int32} (h : x = q → P = bn v) (h2 : x ≠ q → P = bn (S x)) : P = bn (upB S q v x) := by
  unfold upB
  by_cases e : x = q
  · rw [if_pos e]; exact h e
  · rw [if_neg e]; exact h2 e
section MROW
variable {h : Mem} {r R C q v : Nat} {K M T L : Nat → Nat} {S : Nat → Bool}
theorem rm_lit (hh : RM h r R C K M S T L) : RM (sI h r (10 + 5 * q + 4) (iI v)) r R C K M S T (upN L q v) := by
  obtain ⟨h1, h2, h3⟩ := hh
  refine ⟨by rw [gI_ne (by omega)]; exact h1, by rw [gI_ne (by omega)]; exact h2, fun p hp => ?_⟩
  obtain ⟨a1, a2, a3, a4, a5⟩ := h3 p hp
  refine ⟨by rw [gI_ne (by omega)]; exact a1, by rw [gI_ne (by omega)]; exact a2, by rw [gI_ne (by omega)]; exact a3, by rw [gI_ne (by omega)]; exact a4, upN_ok (fun e => ?_) (fun e => ?_)⟩
  · rw [e, gI_same]
  · rw [gI_ne (by omega)]; exact a5
theorem rm_time (hh : RM h r R C K M S T L) : RM (sI h r (10 + 5 * q + 3) (iI v)) r R C K M S (upN T q v) L := by
  obtain ⟨h1, h2, h3⟩ := hh
  refine ⟨by rw [gI_ne (by omega)]; exact h1, by rw [gI_ne (by omega)]; exact h2, fun p hp => ?_⟩
  obtain ⟨a1, a2, a3, a4, a5⟩ := h3 p hp
  refine ⟨by rw [gI_ne (by omega)]; exact a1, by rw [gI_ne (by omega)]; exact a2, by rw [gI_ne (by omega)]; exact a3, upN_ok (fun e => ?_) (fun e => ?_), by rw [gI_ne (by omega)]; exact a5⟩
  · rw [e, gI_same]
  · rw [gI_ne (by omega)]; exact a4
theorem rm_slant {b : Bool} (hh : RM h r R C K M S T L) : RM (sI h r (10 + 5 * q + 2) (bn b)) r R C K M (upB S q b) T L := by
  obtain ⟨h1, h2, h3⟩ := hh
  refine ⟨by rw [gI_ne (by omega)]; exact h1, by rw [gI_ne (by omega)]; exact h2, fun p hp => ?_⟩
  obtain ⟨a1, a2, a3, a4, a5⟩ := h3 p hp
  refine ⟨by rw [gI_ne (by omega)]; exact a1, by rw [gI_ne (by omega)]; exact a2, upB_ok (fun e => ?_) (fun e => ?_), by rw [gI_ne (by omega)]; exact a4, by rw [gI_ne (by omega)]; exact a5⟩
  · rw [e, gI_same]
  · rw [gI_ne (by omega)]; exact a3
theorem rm_kind (hh : RM h r R C K M S T L) : RM (sI h r (10 + 5 * q) (iI v)) r R C (upN K q v) M S T L := by
  obtain ⟨h1, h2, h3⟩ := hh
  refine ⟨by rw [gI_ne (by omega)]; exact h1, by rw [gI_ne (by omega)]; exact h2, fun p hp => ?_⟩
  obtain ⟨a1, a2, a3, a4, a5⟩ := h3 p hp
  refine ⟨upN_ok (fun e => ?_) (fun e => ?_), by rw [gI_ne (by omega)]; exact a2, by rw [gI_ne (by omega)]; exact a3, by rw [gI_ne (by omega)]; exact a4, by rw [gI_ne (by omega)]; exact a5⟩
  · rw [e, gI_same]
  · rw [gI_ne (by omega)]; exact a1
theorem rm_num (hh : RM h r R C K M S T L) : RM (sI h r (10 + 5 * q + 1) (iI v)) r R C K (upN M q v) S T L := by
  obtain ⟨h1, h2, h3⟩ := hh
  refine ⟨by rw [gI_ne (by omega)]; exact h1, by rw [gI_ne (by omega)]; exact h2, fun p hp => ?_⟩
  obtain ⟨a1, a2, a3, a4, a5⟩ := h3 p hp
  refine ⟨by rw [gI_ne (by omega)]; exact a1, upN_ok (fun e => ?_) (fun e => ?_), by rw [gI_ne (by omega)]; exact a3, by rw [gI_ne (by omega)]; exact a4, by rw [gI_ne (by omega)]; exact a5⟩
  · rw [e, gI_same]
  · rw [gI_ne (by omega)]; exact a2
theorem rm_far {b k : Nat} {x : Int32} (hh : RM h r R C K M S T L) (hb : b ≠ r ∨ (2 ≤ k ∧ k < 10) ∨ 135 ≤ k) : RM (sI h b k x) r R C K M S T L := by
  obtain ⟨h1, h2, h3⟩ := hh
  refine ⟨by rw [gI_ne (by omega)]; exact h1, by rw [gI_ne (by omega)]; exact h2, fun p hp => ?_⟩
  obtain ⟨a1, a2, a3, a4, a5⟩ := h3 p hp
  exact ⟨by rw [gI_ne (by omega)]; exact a1, by rw [gI_ne (by omega)]; exact a2, by rw [gI_ne (by omega)]; exact a3, by rw [gI_ne (by omega)]; exact a4, by rw [gI_ne (by omega)]; exact a5⟩
theorem m_its {j : Nat} (hq : q < 25) (hj : j < 5) : f_X11_its h (iI q) (iI j) = some (gI h 73 (10 + 5 * q + j)) := by
  unfold f_X11_its
  rw [iI_mul, iI_add, iI_add, ald_i (by omega) (by omega), show ((10 : Int) + 5 * (q : Int) + (j : Int)).toNat = 10 + 5 * q + j by omega]
theorem m_puts {j : Nat} {x : Int32} (hq : q < 25) (hj : j < 5) : f_X11_puts h (iI q) (iI j) x = some (sI h 73 (10 + 5 * q + j) x) := by
  unfold f_X11_puts
  rw [iI_mul, iI_add, iI_add, ast_i (by omega) (by omega), show ((10 : Int) + 5 * (q : Int) + (j : Int)).toNat = 10 + 5 * q + j by omega]
theorem m_its0 (hq : q < 25) : f_X11_its h (iI q) (iI 0) = some (gI h 73 (10 + 5 * q)) := m_its (j := 0) hq (by omega)
theorem m_its1 (hq : q < 25) : f_X11_its h (iI q) (iI 1) = some (gI h 73 (10 + 5 * q + 1)) := m_its (j := 1) hq (by omega)
theorem m_its2 (hq : q < 25) : f_X11_its h (iI q) (iI 2) = some (gI h 73 (10 + 5 * q + 2)) := m_its (j := 2) hq (by omega)
theorem m_its3 (hq : q < 25) : f_X11_its h (iI q) (iI 3) = some (gI h 73 (10 + 5 * q + 3)) := m_its (j := 3) hq (by omega)
theorem m_its4 (hq : q < 25) : f_X11_its h (iI q) (iI 4) = some (gI h 73 (10 + 5 * q + 4)) := m_its (j := 4) hq (by omega)
theorem m_puts0 {x : Int32} (hq : q < 25) : f_X11_puts h (iI q) (iI 0) x = some (sI h 73 (10 + 5 * q) x) := m_puts (j := 0) hq (by omega)
theorem m_puts1 {x : Int32} (hq : q < 25) : f_X11_puts h (iI q) (iI 1) x = some (sI h 73 (10 + 5 * q + 1) x) := m_puts (j := 1) hq (by omega)
theorem m_puts2 {x : Int32} (hq : q < 25) : f_X11_puts h (iI q) (iI 2) x = some (sI h 73 (10 + 5 * q + 2) x) := m_puts (j := 2) hq (by omega)
theorem m_puts3 {x : Int32} (hq : q < 25) : f_X11_puts h (iI q) (iI 3) x = some (sI h 73 (10 + 5 * q + 3) x) := m_puts (j := 3) hq (by omega)
theorem m_puts4 {x : Int32} (hq : q < 25) : f_X11_puts h (iI q) (iI 4) x = some (sI h 73 (10 + 5 * q + 4) x) := m_puts (j := 4) hq (by omega)
theorem k_throws {k : Nat} (hk : k ≤ 6) : (join (rZ (iI 1) (some (iI 1))) fun (K2 : Option Int32) => if iI k = iI 1 then K2 else (if iI k = iI 4 then K2 else (if ¬ iI k = iI 5 then rZ (iI 0) (some (iI 0)) else K2))) = some (bn (thr k)) := by
  rcases (show k = 0 ∨ k = 1 ∨ k = 2 ∨ k = 3 ∨ k = 4 ∨ k = 5 ∨ k = 6 by omega) with rfl | rfl | rfl | rfl | rfl | rfl | rfl <;> rfl
theorem k_stops {k : Nat} (hk : k ≤ 6) : (join (rZ (iI 1) (some (iI 1))) fun (K2 : Option Int32) => if iI k = iI 3 then K2 else (if ¬ iI k = iI 6 then rZ (iI 0) (some (iI 0)) else K2)) = some (bn (stp k)) := by
  rcases (show k = 0 ∨ k = 1 ∨ k = 2 ∨ k = 3 ∨ k = 4 ∨ k = 5 ∨ k = 6 by omega) with rfl | rfl | rfl | rfl | rfl | rfl | rfl <;> rfl
theorem m_throws (hh : RM h 73 R C K M S T L) (hq : q < 25) (hk : K q ≤ 6) : f_X11_doesThrow h (iI q) = some (bn (thr (K q))) := by
  unfold f_X11_doesThrow
  rw [m_its0 hq, cal_some, (hh.2.2 q hq).1]
  exact k_throws hk
theorem m_stops (hh : RM h 73 R C K M S T L) (hq : q < 25) (hk : K q ≤ 6) : f_X11_doesStop h (iI q) = some (bn (stp (K q))) := by
  unfold f_X11_doesStop
  rw [m_its0 hq, cal_some, (hh.2.2 q hq).1]
  exact k_stops hk
theorem bn_not (b : Bool) : iI 1 - bn b = bn (!b) := by cases b <;> decide
theorem m_flips (hh : RM h 73 R C K M S T L) (hq : q < 25) : f_X11_flips h (iI q) = some (sI h 73 (10 + 5 * q + 2) (bn (!S q))) := by
  unfold f_X11_flips
  rw [m_its2 hq, cal_some, (hh.2.2 q hq).2.2.1, bn_not, m_puts2 hq, cal_some]
/-- h' is as h but for time, slant, lit of the row's squares and some fields of the model's own -/
def FrM (h h' : Mem) : Prop := (∀ x k, x ≠ 72 → x ≠ 73 → gI h' x k = gI h x k ∧ gL h' x k = gL h x k) ∧ (∀ k, k ≠ 7 → k ≠ 8 → k ≠ 9 → k ≠ 10 → k ≠ 11 → k ≠ 14 → k ≠ 15 → gI h' 72 k = gI h 72 k) ∧ (∀ k, k < 10 ∨ 135 ≤ k → gI h' 73 k = gI h 73 k)
theorem FrM.rf : FrM h h := ⟨fun _ _ _ _ => ⟨rfl, rfl⟩, fun _ _ _ _ _ _ _ _ => rfl, fun _ _ => rfl⟩
theorem FrM.tr {h1 h2 : Mem} (x : FrM h h1) (y : FrM h1 h2) : FrM h h2 :=
  ⟨fun a k q1 q2 => ⟨(y.1 a k q1 q2).1.trans (x.1 a k q1 q2).1, (y.1 a k q1 q2).2.trans (x.1 a k q1 q2).2⟩, fun k a b c d e f g => (y.2.1 k a b c d e f g).trans (x.2.1 k a b c d e f g), fun k hk => (y.2.2 k hk).trans (x.2.2 k hk)⟩
theorem FrM.row {k : Nat} {x : Int32} (hk : 10 ≤ k ∧ k < 135) : FrM h (sI h 73 k x) :=
  ⟨fun a j q1 q2 => ⟨gI_ne (by omega), rfl⟩, fun j _ _ _ _ _ _ _ => gI_ne (by omega), fun j hj => gI_ne (by omega)⟩
theorem FrM.fld {k : Nat} {x : Int32} (hk : k = 7 ∨ k = 8 ∨ k = 9 ∨ k = 10 ∨ k = 11 ∨ k = 14 ∨ k = 15) : FrM h (sI h 72 k x) :=
  ⟨fun a j q1 q2 => ⟨gI_ne (by omega), rfl⟩, fun j a1 a2 a3 a4 a5 a6 a7 => gI_ne (by omega), fun j hj => gI_ne (by omega)⟩
theorem m_turns (hh : RM h 73 R C K M S T L) (hq : q < 25) (hk : K q ≤ 6) (hM : M q ≤ 9) (hT : T q < 2 + M q % 3) :
    ∃ h2, f_X11_turns h (iI q) = some h2 ∧ RM h2 73 R C K M (upB S q (turnS (K q) (M q) (S q) (T q))) (upN T q (turnT (K q) (M q) (T q))) L ∧ FrM h h2 ∧ (∀ k, gI h2 72 k = gI h 72 k) := by
  unfold f_X11_turns
  rw [m_its0 hq, cal_some, (hh.2.2 q hq).1]
  by_cases h5 : K q = 5
  · have e1 : ¬ ¬ iI (K q) = iI 5 := fun z => z (by rw [h5]; rfl)
    rw [if_neg e1, m_its3 hq, cal_some, (hh.2.2 q hq).2.2.2.1, iI_add, m_puts3 hq, cal_some]
    have hA := rm_time (q := q) (v := T q + 1) hh
    rw [show ((T q : Int) + 1) = ((T q + 1 : Nat) : Int) by omega]
    rw [m_its3 hq, cal_some, m_its1 hq, cal_some, (hA.2.2 q hq).2.1, (hA.2.2 q hq).2.2.2.1, upN_same, nz_i (by omega), iI_rem (by omega) (by omega), iI_add]
    have e3 : (iI (T q + 1 : Nat) = iI (2 + (M q : Int) % 3)) = (((T q + 1 : Nat) : Int) = 2 + (M q : Int) % 3) := iI_eq ⟨by omega, by omega⟩
    by_cases h2 : T q + 1 = 2 + M q % 3
    · rw [if_neg (fun z => z (by rw [e3]; omega)), m_puts3 hq, cal_some]
      have hB := rm_time (q := q) (v := 0) hA
      rw [show (iI 0) = iI ((0 : Nat) : Int) from rfl, m_flips hB hq, cal_some]
      refine ⟨_, rfl, ?_, (FrM.row (by omega)).tr ((FrM.row (by omega)).tr (FrM.row (by omega))), fun k => by rw [gI_ne (by omega), gI_ne (by omega), gI_ne (by omega)]⟩
      have hC := rm_slant (q := q) (b := !S q) hB
      rw [upN_upN] at hC
      unfold turnS turnT
      rw [if_neg (by omega), if_pos ⟨h5, h2⟩, if_pos h5, if_pos h2]
      exact hC
    · rw [if_pos (fun z => h2 (by rw [e3] at z; omega))]
      refine ⟨_, rfl, ?_, FrM.row (by omega), fun k => gI_ne (by omega)⟩
      unfold turnS turnT
      rw [if_neg (by omega), if_neg (fun z => h2 z.2), if_pos h5, if_neg h2, upB_self]
      exact hA
  · have e1 : ¬ iI (K q) = iI 5 := fun z => h5 (by
      have e : (iI (K q) = iI 5) = ((K q : Int) = 5) := iI_eq ⟨by omega, by omega⟩
      rw [e] at z; omega)
    rw [if_pos e1]
    have e2 : (iI (K q) = iI 1) = ((K q : Int) = 1) := iI_eq ⟨by omega, by omega⟩
    by_cases h1 : K q = 1
    · rw [if_neg (fun z => z (by rw [e2]; omega)), m_flips hh hq, cal_some]
      refine ⟨_, rfl, ?_, FrM.row (by omega), fun k => gI_ne (by omega)⟩
      unfold turnS turnT
      rw [if_pos h1, if_neg h5, upN_self]
      exact rm_slant hh
    · rw [if_pos (fun z => h1 (by rw [e2] at z; omega))]
      refine ⟨_, rfl, ?_, FrM.rf, fun k => rfl⟩
      unfold turnS turnT
      rw [if_neg h1, if_neg (fun z => h5 z.1), if_neg h5, upB_self, upN_self]
      exact hh
end MROW
theorem m_thrown {h : Mem} {w : Nat} {s : Bool} (hw : w < 4) : f_X11_thrown h (iI w) (bn s) = some (iI (bend w s)) := by
  unfold f_X11_thrown
  rcases (show w = 0 ∨ w = 1 ∨ w = 2 ∨ w = 3 by omega) with rfl | rfl | rfl | rfl <;> cases s <;> rfl
