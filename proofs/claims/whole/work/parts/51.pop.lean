section POPC
theorem b_nat {n : Nat} (i : Nat) : bt (iI n) i = (decide (i < 32) && n.testBit i) := by
  rw [← iI_nat]
  show (BitVec.ofNat 32 n).getLsbD i = _
  rw [BitVec.getLsbD_ofNat]
theorem iI_and (a b : Nat) : iI a &&& iI b = iI ((a &&& b : Nat) : Int) := by
  apply b_ext
  intro i hi
  rw [b_and, b_nat, b_nat, b_nat, Nat.testBit_and]
  simp [hi]
theorem iI_ush {a s : Nat} (ha : a < 2147483648) (hs : s < 32) : ushI (iI a) (iI s) = iI ((a >>> s : Nat) : Int) := by
  apply b_ext
  intro i hi
  rw [b_ush hs, b_nat, b_nat, Nat.testBit_shiftRight]
  by_cases h : s + i < 32
  · simp [h, hi]
  · have : a.testBit (s + i) = false := Nat.testBit_lt_two_pow (Nat.lt_of_lt_of_le (show a < 2 ^ 31 by omega) (Nat.pow_le_pow_right (by omega) (by omega)))
    simp [h, this]
/-- a number by its bits -/
def nOf (X : Nat → Bool) : Nat → Nat
  | 0 => 0
  | n + 1 => 2 ^ n * (X n).toNat + nOf X n
def cntB (X : Nat → Bool) : Nat → Nat
  | 0 => 0
  | n + 1 => cntB X n + (X n).toNat
theorem nOf_lt {X : Nat → Bool} : ∀ n, nOf X n < 2 ^ n
  | 0 => Nat.zero_lt_one
  | n + 1 => by
    have h := nOf_lt (X := X) n
    show 2 ^ n * (X n).toNat + nOf X n < 2 ^ (n + 1)
    rw [Nat.pow_succ]
    cases X n
    · show 2 ^ n * 0 + nOf X n < _; omega
    · show 2 ^ n * 1 + nOf X n < _; omega
theorem nOf_bit {X : Nat → Bool} : ∀ n i, (nOf X n).testBit i = (decide (i < n) && X i)
  | 0, i => by show (0 : Nat).testBit i = _; rw [Nat.zero_testBit]; simp
  | n + 1, i => by
    show (2 ^ n * (X n).toNat + nOf X n).testBit i = _
    rw [Nat.testBit_two_pow_mul_add _ (nOf_lt n), nOf_bit n i]
    by_cases h1 : i < n
    · simp [h1, Nat.lt_succ_of_lt h1]
    · rw [if_neg h1]
      by_cases h2 : i = n
      · subst h2; cases X i <;> simp
      · have h3 : ¬ i < n + 1 := by omega
        obtain ⟨j, hj⟩ : ∃ j, i - n = j + 1 := ⟨i - n - 1, by omega⟩
        rw [hj]
        cases X n <;> simp [h3, Nat.testBit_succ]
theorem sl_nOf {X : Nat → Bool} {n : Nat} (hn : n ≤ 32) : slN X n = iI (nOf X n) := by
  apply b_ext
  intro i hi
  rw [b_slN _ _ hn i hi, b_nat, nOf_bit]
  simp [hi]
theorem s_and {b m c d : Nat} (hb : b < 256) (hc : c < 256) : (256 * m + b) &&& (256 * d + c) = 256 * (m &&& d) + (b &&& c) := by
  apply Nat.eq_of_testBit_eq
  intro i
  have e : (256 : Nat) = 2 ^ 8 := by decide
  have hbc : b &&& c < 2 ^ 8 := Nat.lt_of_le_of_lt Nat.and_le_left (by omega)
  rw [Nat.testBit_and, e, Nat.testBit_two_pow_mul_add _ (by omega), Nat.testBit_two_pow_mul_add _ (by omega), Nat.testBit_two_pow_mul_add _ hbc]
  by_cases h : i < 8
  · rw [if_pos h, if_pos h, if_pos h, Nat.testBit_and]
  · rw [if_neg h, if_neg h, if_neg h, Nat.testBit_and]
theorem s_ush {b m c d s : Nat} (hb : b < 256) (hs : s ≤ 8) (hc : c < 2 ^ (8 - s)) : ((256 * m + b) >>> s) &&& (256 * d + c) = 256 * ((m >>> s) &&& d) + ((b >>> s) &&& c) := by
  have hc2 : c < 2 ^ 8 := Nat.lt_of_lt_of_le hc (Nat.pow_le_pow_right (by omega) (by omega))
  have hbc : (b >>> s) &&& c < 2 ^ 8 := Nat.lt_of_le_of_lt Nat.and_le_right hc2
  apply Nat.eq_of_testBit_eq
  intro i
  have e : (256 : Nat) = 2 ^ 8 := by decide
  rw [Nat.testBit_and, Nat.testBit_shiftRight, e, Nat.testBit_two_pow_mul_add _ (by omega), Nat.testBit_two_pow_mul_add _ hc2, Nat.testBit_two_pow_mul_add _ hbc]
  by_cases h : i < 8
  · rw [if_pos h, if_pos h, Nat.testBit_and, Nat.testBit_shiftRight]
    by_cases h2 : s + i < 8
    · rw [if_pos h2]
    · rw [if_neg h2, Nat.testBit_lt_two_pow (Nat.lt_of_lt_of_le hc (Nat.pow_le_pow_right (by omega) (show 8 - s ≤ i by omega)))]
      simp
  · rw [if_neg h, if_neg (by omega), if_neg h, Nat.testBit_and, Nat.testBit_shiftRight, show s + i - 8 = s + (i - 8) by omega]
/-- the three steps in one byte -/
def st1 (b : Nat) : Nat := b - ((b >>> 1) &&& 85)
def st2 (b : Nat) : Nat := (st1 b &&& 51) + ((st1 b >>> 2) &&& 51)
def pb (b : Nat) : Nat := st2 b % 16 + st2 b / 16
theorem pb_8 : ∀ x0 x1 x2 x3 x4 x5 x6 x7 : Bool, pb (128 * x7.toNat + (64 * x6.toNat + (32 * x5.toNat + (16 * x4.toNat + (8 * x3.toNat + (4 * x2.toNat + (2 * x1.toNat + x0.toNat))))))) = x0.toNat + x1.toNat + x2.toNat + x3.toNat + x4.toNat + x5.toNat + x6.toNat + x7.toNat := by decide +kernel
theorem pb_1 : ∀ b, b < 256 → ((b >>> 1) &&& 85 ≤ b) ∧ st1 b < 256 ∧ st1 b &&& 51 < 103 ∧ (st1 b >>> 2) &&& 51 < 103 ∧ st2 b < 103 ∧ st2 b % 16 ≤ 4 ∧ st2 b / 16 ≤ 4 := by decide +kernel
theorem pop_i {h : Mem} {b0 b1 b2 b3 : Nat} (h0 : b0 < 256) (h1 : b1 < 256) (h2 : b2 < 256) (h3 : b3 < 128) : f_J6_bitCount_0f7a4 h (iI ((256 * (256 * (256 * b3 + b2) + b1) + b0 : Nat) : Int)) = some (iI (pb b0 + pb b1 + pb b2 + pb b3 : Nat)) := by
  unfold f_J6_bitCount_0f7a4
  obtain ⟨p1, p2, p3, p4, p5, p6, p7⟩ := pb_1 b0 h0
  obtain ⟨q1, q2, q3, q4, q5, q6, q7⟩ := pb_1 b1 h1
  obtain ⟨r1, r2, r3, r4, r5, r6, r7⟩ := pb_1 b2 h2
  obtain ⟨t1, t2, t3, t4, t5, t6, t7⟩ := pb_1 b3 (by omega)
  have a0 : b0 - ((b0 >>> 1) &&& 85) = st1 b0 := rfl
  have a1 : b1 - ((b1 >>> 1) &&& 85) = st1 b1 := rfl
  have a2 : b2 - ((b2 >>> 1) &&& 85) = st1 b2 := rfl
  have a3 : b3 - ((b3 >>> 1) &&& 85) = st1 b3 := rfl
  have c0 : (st1 b0 &&& 51) + ((st1 b0 >>> 2) &&& 51) = st2 b0 := rfl
  have c1 : (st1 b1 &&& 51) + ((st1 b1 >>> 2) &&& 51) = st2 b1 := rfl
  have c2 : (st1 b2 &&& 51) + ((st1 b2 >>> 2) &&& 51) = st2 b2 := rfl
  have c3 : (st1 b3 &&& 51) + ((st1 b3 >>> 2) &&& 51) = st2 b3 := rfl
  have e1 : iI ((256 * (256 * (256 * b3 + b2) + b1) + b0 : Nat) : Int) - (ushI (iI ((256 * (256 * (256 * b3 + b2) + b1) + b0 : Nat) : Int)) (iI 1) &&& iI 1431655765) = iI ((256 * (256 * (256 * st1 b3 + st1 b2) + st1 b1) + st1 b0 : Nat) : Int) := by
    rw [show (iI 1) = iI ((1 : Nat) : Int) from rfl, iI_ush (by omega) (by omega), show (iI 1431655765) = iI ((256 * (256 * (256 * 85 + 85) + 85) + 85 : Nat) : Int) from rfl, iI_and, s_ush h0 (by omega) (by decide), s_ush h1 (by omega) (by decide), s_ush h2 (by omega) (by decide), iI_sub]
    congr 1
    omega
  rw [nm_eq, e1]
  have e2 : (iI ((256 * (256 * (256 * st1 b3 + st1 b2) + st1 b1) + st1 b0 : Nat) : Int) &&& iI 858993459) + (ushI (iI ((256 * (256 * (256 * st1 b3 + st1 b2) + st1 b1) + st1 b0 : Nat) : Int)) (iI 2) &&& iI 858993459) = iI ((256 * (256 * (256 * st2 b3 + st2 b2) + st2 b1) + st2 b0 : Nat) : Int) := by
    rw [show (iI 2) = iI ((2 : Nat) : Int) from rfl, iI_ush (by omega) (by omega), show (iI 858993459) = iI ((256 * (256 * (256 * 51 + 51) + 51) + 51 : Nat) : Int) from rfl, iI_and, iI_and, s_ush p2 (by omega) (by decide), s_ush q2 (by omega) (by decide), s_ush r2 (by omega) (by decide), s_and p2 (by omega), s_and q2 (by omega), s_and r2 (by omega), iI_add]
    congr 1
    omega
  rw [nm_eq, e2]
  have e3 : (iI ((256 * (256 * (256 * st2 b3 + st2 b2) + st2 b1) + st2 b0 : Nat) : Int) + ushI (iI ((256 * (256 * (256 * st2 b3 + st2 b2) + st2 b1) + st2 b0 : Nat) : Int)) (iI 4)) &&& iI 252645135 = iI ((256 * (256 * (256 * pb b3 + pb b2) + pb b1) + pb b0 : Nat) : Int) := by
    rw [show (iI 4) = iI ((4 : Nat) : Int) from rfl, iI_ush (by omega) (by omega), iI_add, show (iI 252645135) = iI ((256 * (256 * (256 * 15 + 15) + 15) + 15 : Nat) : Int) from rfl]
    have e : ((256 * (256 * (256 * st2 b3 + st2 b2) + st2 b1) + st2 b0 : Nat) : Int) + (((256 * (256 * (256 * st2 b3 + st2 b2) + st2 b1) + st2 b0) >>> 4 : Nat) : Int) = ((256 * (256 * (256 * (st2 b3 + st2 b3 / 16) + (st2 b2 + st2 b2 / 16 + 16 * (st2 b3 % 16))) + (st2 b1 + st2 b1 / 16 + 16 * (st2 b2 % 16))) + (st2 b0 + st2 b0 / 16 + 16 * (st2 b1 % 16)) : Nat) : Int) := by
      rw [Nat.shiftRight_eq_div_pow]
      omega
    rw [e, iI_and, s_and (by omega) (by omega), s_and (by omega) (by omega), s_and (by omega) (by omega)]
    have f15 : ∀ x : Nat, x &&& 15 = x % 16 := fun x => Nat.and_two_pow_sub_one_eq_mod x 4
    have m16 : ∀ c x : Nat, c % 16 ≤ 4 → c / 16 ≤ 4 → (c + c / 16 + 16 * x) % 16 = c % 16 + c / 16 := by intro c x u v; omega
    have m0 : (st2 b3 + st2 b3 / 16) % 16 = st2 b3 % 16 + st2 b3 / 16 := by omega
    rw [f15, f15, f15, f15, m16 _ _ p6 p7, m16 _ _ q6 q7, m16 _ _ r6 r7, m0]
    rfl
  rw [nm_eq, e3]
  have pl : ∀ b, st2 b % 16 ≤ 4 → st2 b / 16 ≤ 4 → pb b ≤ 8 := fun b x y => by unfold pb; omega
  have l0 := pl b0 p6 p7
  have l1 := pl b1 q6 q7
  have l2 := pl b2 r6 r7
  have l3 := pl b3 t6 t7
  rw [show (iI 8) = iI ((8 : Nat) : Int) from rfl, iI_ush (by omega) (by omega), nm_eq, iI_add]
  have e4 : ((256 * (256 * (256 * pb b3 + pb b2) + pb b1) + pb b0 : Nat) : Int) + (((256 * (256 * (256 * pb b3 + pb b2) + pb b1) + pb b0) >>> 8 : Nat) : Int) = ((256 * (256 * (256 * pb b3 + (pb b2 + pb b3)) + (pb b1 + pb b2)) + (pb b0 + pb b1) : Nat) : Int) := by
    rw [Nat.shiftRight_eq_div_pow]
    omega
  rw [e4, nm_eq, show (iI 16) = iI ((16 : Nat) : Int) from rfl, iI_ush (by omega) (by omega), iI_add]
  have e5 : ((256 * (256 * (256 * pb b3 + (pb b2 + pb b3)) + (pb b1 + pb b2)) + (pb b0 + pb b1) : Nat) : Int) + (((256 * (256 * (256 * pb b3 + (pb b2 + pb b3)) + (pb b1 + pb b2)) + (pb b0 + pb b1)) >>> 16 : Nat) : Int) = ((64 * (4 * (256 * (256 * pb b3 + (pb b2 + pb b3)) + (pb b1 + pb b2 + pb b3))) + (pb b0 + pb b1 + pb b2 + pb b3) : Nat) : Int) := by
    rw [Nat.shiftRight_eq_div_pow]
    omega
  rw [e5, show (iI 63) = iI ((63 : Nat) : Int) from rfl, iI_and]
  have f63 : ∀ x : Nat, x &&& 63 = x % 64 := fun x => Nat.and_two_pow_sub_one_eq_mod x 6
  rw [f63]
  congr 2
  omega
theorem bn_nat (b : Bool) : bn b = iI (b.toNat : Nat) := by cases b <;> rfl
theorem nOf_25 {X : Nat → Bool} : nOf X 25 = 256 * (256 * (256 * (128 * false.toNat + (64 * false.toNat + (32 * false.toNat + (16 * false.toNat + (8 * false.toNat + (4 * false.toNat + (2 * false.toNat + ((X 24).toNat)))))))) + (128 * (X 23).toNat + (64 * (X 22).toNat + (32 * (X 21).toNat + (16 * (X 20).toNat + (8 * (X 19).toNat + (4 * (X 18).toNat + (2 * (X 17).toNat + ((X 16).toNat))))))))) + (128 * (X 15).toNat + (64 * (X 14).toNat + (32 * (X 13).toNat + (16 * (X 12).toNat + (8 * (X 11).toNat + (4 * (X 10).toNat + (2 * (X 9).toNat + ((X 8).toNat))))))))) + (128 * (X 7).toNat + (64 * (X 6).toNat + (32 * (X 5).toNat + (16 * (X 4).toNat + (8 * (X 3).toNat + (4 * (X 2).toNat + (2 * (X 1).toNat + ((X 0).toNat)))))))) := by
  simp only [nOf, Nat.reducePow, Nat.mul_add, ← Nat.mul_assoc, Nat.reduceMul, Nat.add_assoc, Bool.toNat_false, Nat.mul_zero, Nat.zero_add, Nat.add_zero, Nat.one_mul]
theorem cntB_25 {X : Nat → Bool} : cntB X 25 = ((X 0).toNat + (X 1).toNat + (X 2).toNat + (X 3).toNat + (X 4).toNat + (X 5).toNat + (X 6).toNat + (X 7).toNat) + ((X 8).toNat + (X 9).toNat + (X 10).toNat + (X 11).toNat + (X 12).toNat + (X 13).toNat + (X 14).toNat + (X 15).toNat) + ((X 16).toNat + (X 17).toNat + (X 18).toNat + (X 19).toNat + (X 20).toNat + (X 21).toNat + (X 22).toNat + (X 23).toNat) + ((X 24).toNat + false.toNat + false.toNat + false.toNat + false.toNat + false.toNat + false.toNat + false.toNat) := by
  simp only [cntB, Nat.add_assoc, Bool.toNat_false, Nat.zero_add, Nat.add_zero]
theorem byte_lt : ∀ x0 x1 x2 x3 x4 x5 x6 x7 : Bool, 128 * x7.toNat + (64 * x6.toNat + (32 * x5.toNat + (16 * x4.toNat + (8 * x3.toNat + (4 * x2.toNat + (2 * x1.toNat + x0.toNat)))))) < 256 := by decide +kernel
theorem byte_l1 : ∀ x0 : Bool, 128 * false.toNat + (64 * false.toNat + (32 * false.toNat + (16 * false.toNat + (8 * false.toNat + (4 * false.toNat + (2 * false.toNat + x0.toNat)))))) < 128 := by decide +kernel
theorem pop_sl {h : Mem} {X : Nat → Bool} : f_J6_bitCount_0f7a4 h (slW X) = some (iI (cntB X 25)) := by
  rw [show slW X = iI (nOf X 25) from sl_nOf (by omega), nOf_25, cntB_25]
  have c0 := pb_8 (X 0) (X 1) (X 2) (X 3) (X 4) (X 5) (X 6) (X 7)
  have l0 := byte_lt (X 0) (X 1) (X 2) (X 3) (X 4) (X 5) (X 6) (X 7)
  have c1 := pb_8 (X 8) (X 9) (X 10) (X 11) (X 12) (X 13) (X 14) (X 15)
  have l1 := byte_lt (X 8) (X 9) (X 10) (X 11) (X 12) (X 13) (X 14) (X 15)
  have c2 := pb_8 (X 16) (X 17) (X 18) (X 19) (X 20) (X 21) (X 22) (X 23)
  have l2 := byte_lt (X 16) (X 17) (X 18) (X 19) (X 20) (X 21) (X 22) (X 23)
  have c3 := pb_8 (X 24) false false false false false false false
  have l3 := byte_l1 (X 24)
  generalize 128 * (X 7).toNat + (64 * (X 6).toNat + (32 * (X 5).toNat + (16 * (X 4).toNat + (8 * (X 3).toNat + (4 * (X 2).toNat + (2 * (X 1).toNat + ((X 0).toNat))))))) = B0 at *
  generalize 128 * (X 15).toNat + (64 * (X 14).toNat + (32 * (X 13).toNat + (16 * (X 12).toNat + (8 * (X 11).toNat + (4 * (X 10).toNat + (2 * (X 9).toNat + ((X 8).toNat))))))) = B1 at *
  generalize 128 * (X 23).toNat + (64 * (X 22).toNat + (32 * (X 21).toNat + (16 * (X 20).toNat + (8 * (X 19).toNat + (4 * (X 18).toNat + (2 * (X 17).toNat + ((X 16).toNat))))))) = B2 at *
  generalize 128 * false.toNat + (64 * false.toNat + (32 * false.toNat + (16 * false.toNat + (8 * false.toNat + (4 * false.toNat + (2 * false.toNat + ((X 24).toNat))))))) = B3 at *
  rw [← c0, ← c1, ← c2, ← c3]
  exact pop_i l0 l1 l2 l3
theorem bits_sl {h : Mem} {X : Nat → Bool} : f_X11_bits h (slW X) = some (iI (cntB X 25)) := by
  unfold f_X11_bits
  obtain ⟨N, hN⟩ : ∃ N : Nat, N = 1000000 := ⟨_, rfl⟩
  rw [← hN]
  refine lo2_t (fun f x1 x2 => ∃ i : Nat, x2 = iI i ∧ i + f = 25 ∧ x1 = iI (cntB X i)) (fun o => o = some (iI (cntB X 25))) ?_ N 25 _ _ (by omega) ⟨0, rfl, by omega, rfl⟩
  rintro f x1 x2 ⟨i, rfl, hf, rfl⟩ Kc
  unfold f_X11_bits_k3
  have e : (iI 25 ≤ iI i) = ((25 : Int) ≤ i) := iI_le ⟨by omega, by omega⟩
  by_cases hi : i = 25
  · left
    subst hi
    rw [if_pos (by rw [e]; omega)]
    exact ⟨_, rfl, rfl⟩
  · right
    rw [if_neg (by rw [e]; omega), sl_getS (by omega), bn_nat, nm_eq, nm_eq, iI_add, iI_add]
    exact ⟨f - 1, iI (cntB X (i + 1)), iI (i + 1 : Nat), by omega, ⟨i + 1, rfl, by omega, rfl⟩, rfl⟩
theorem sl_xor {S S' : Nat → Bool} : slW S ^^^ slW S' = slW (fun q => S q ^^ S' q) := by
  apply b_ext
  intro i hi
  rw [b_xor, b_slN _ _ (by omega) i hi, b_slN _ _ (by omega) i hi, b_slN _ _ (by omega) i hi]
  by_cases h : i < 25 <;> simp [h]
end POPC
