/-! numbers: iI of integers -/
theorem iI_add (a b : Int) : iI a + iI b = iI (a + b) := (Int32.ofInt_add a b).symm
theorem iI_sub (a b : Int) : iI a - iI b = iI (a - b) := (Int32.ofInt_sub a b).symm
theorem iI_mul (a b : Int) : iI a * iI b = iI (a * b) := (Int32.ofInt_mul a b).symm
theorem iI_neg (a : Int) : -iI a = iI (-a) := (Int32.ofInt_neg a).symm
theorem iI_toInt {a : Int} (h : -2147483648 ≤ a ∧ a < 2147483648) : (iI a).toInt = a := Int32.toInt_ofInt_of_le h.1 h.2
theorem iI_lt {a b : Int} (h : (-2147483648 ≤ a ∧ a < 2147483648) ∧ (-2147483648 ≤ b ∧ b < 2147483648)) : (iI a < iI b) = (a < b) := by
  rw [Int32.lt_iff_toInt_lt, iI_toInt h.1, iI_toInt h.2]
theorem iI_le {a b : Int} (h : (-2147483648 ≤ a ∧ a < 2147483648) ∧ (-2147483648 ≤ b ∧ b < 2147483648)) : (iI a ≤ iI b) = (a ≤ b) := by
  rw [Int32.le_iff_toInt_le, iI_toInt h.1, iI_toInt h.2]
theorem iI_eq {a b : Int} (h : (-2147483648 ≤ a ∧ a < 2147483648) ∧ (-2147483648 ≤ b ∧ b < 2147483648)) : (iI a = iI b) = (a = b) := by
  rw [← Int32.toInt_inj, iI_toInt h.1, iI_toInt h.2]
theorem iI_clamp {a : Int} (h : 0 ≤ a ∧ a < 2147483648) : (iI a).toNatClampNeg = a.toNat := by
  show (iI a).toInt.toNat = _
  rw [iI_toInt ⟨by omega, h.2⟩]
theorem iI_of (x : Int32) : ∃ z : Int, x = iI z ∧ -2147483648 ≤ z ∧ z < 2147483648 := ⟨x.toInt, (Int32.ofInt_toInt x).symm, Int32.le_toInt x, Int32.toInt_lt x⟩
theorem iI_nat (n : Nat) : Int32.ofNat n = iI n := Int32.ofInt_eq_ofNat.symm
theorem iI_zero : (0 : Int32) = iI 0 := by decide
theorem iI_div {a b : Int} (ha : 0 ≤ a ∧ a < 2147483648) (hb : 0 < b ∧ b < 2147483648) : iI a / iI b = iI (a / b) := by
  apply Int32.toInt_inj.mp
  have e : a / b ≤ a := Int.ediv_le_self _ ha.1
  have e0 : 0 ≤ a / b := Int.ediv_nonneg ha.1 (by omega)
  rw [Int32.toInt_div_of_ne_left _ _ (fun q => by
      have h1 := congrArg Int32.toInt q
      rw [iI_toInt ⟨by omega, ha.2⟩, Int32.toInt_minValue] at h1
      omega), iI_toInt ⟨by omega, ha.2⟩, iI_toInt ⟨by omega, hb.2⟩, iI_toInt ⟨by omega, by omega⟩]
  exact Int.tdiv_eq_ediv_of_nonneg ha.1
theorem iI_rem {a b : Int} (ha : 0 ≤ a ∧ a < 2147483648) (hb : 0 < b ∧ b < 2147483648) : rmI (iI a) (iI b) = iI (a % b) := by
  unfold rmI
  rw [iI_div ha hb, iI_mul, iI_sub]
  congr 1
  have := Int.emod_add_mul_ediv a b
  have e : b * (a / b) = a / b * b := Int.mul_comm _ _
  omega
section
variable {ρ : Type}
theorem ald_i {h : Mem} {q n : Nat} {z : Int} {K : Int32 → Option ρ} (hz : 0 ≤ z ∧ z < n) (hn : n < 2147483648) : ald h q n (iI z) K = K (gI h q z.toNat) := by
  unfold ald
  rw [iI_toInt ⟨by omega, by omega⟩, if_pos hz, iI_clamp ⟨hz.1, by omega⟩]
theorem aldL_i {h : Mem} {q n : Nat} {z : Int} {K : Int64 → Option ρ} (hz : 0 ≤ z ∧ z < n) (hn : n < 2147483648) : aldL h q n (iI z) K = K (gL h q z.toNat) := by
  unfold aldL
  rw [iI_toInt ⟨by omega, by omega⟩, if_pos hz, iI_clamp ⟨hz.1, by omega⟩]
theorem ast_i {h : Mem} {q n : Nat} {z : Int} {v : Int32} {K : Mem → Option ρ} (hz : 0 ≤ z ∧ z < n) (hn : n < 2147483648) : ast h q n (iI z) v K = K (sI h q z.toNat v) := by
  unfold ast
  rw [iI_toInt ⟨by omega, by omega⟩, if_pos hz, iI_clamp ⟨hz.1, by omega⟩]
theorem astL_i {h : Mem} {q n : Nat} {z : Int} {v : Int64} {K : Mem → Option ρ} (hz : 0 ≤ z ∧ z < n) (hn : n < 2147483648) : astL h q n (iI z) v K = K (sL h q z.toNat v) := by
  unfold astL
  rw [iI_toInt ⟨by omega, by omega⟩, if_pos hz, iI_clamp ⟨hz.1, by omega⟩]
theorem tld_i {f : Nat → Int32} {n : Nat} {z : Int} {K : Int32 → Option ρ} (hz : 0 ≤ z ∧ z < n) (hn : n < 2147483648) : tld f n (iI z) K = K (f z.toNat) := by
  unfold tld
  rw [iI_toInt ⟨by omega, by omega⟩, if_pos hz, iI_clamp ⟨hz.1, by omega⟩]
theorem rng_i {n : Nat} {z : Int} {K : Nat → Option ρ} (hz : 0 ≤ z ∧ z < n) (hn : n < 2147483648) : rng (iI z) n K = K z.toNat := by
  unfold rng
  rw [iI_toInt ⟨by omega, by omega⟩, if_pos hz, iI_clamp ⟨hz.1, by omega⟩]
theorem nz_i {z : Int} {K : Option ρ} (hz : (-2147483648 ≤ z ∧ z < 2147483648) ∧ z ≠ 0) : nz (iI z) K = K := by
  unfold nz
  rw [iI_zero, if_neg (fun q => ?_)]
  rw [iI_eq ⟨hz.1, by omega⟩] at q
  exact hz.2 q
theorem rZ0 {K : Option ρ} : rZ (iI 0) K = K := if_pos (Or.inl (by decide))
theorem rZ1 {K : Option ρ} : rZ (iI 1) K = K := if_pos (Or.inr (by decide))
theorem acp_i {h : Mem} {a an b bn : Nat} {i j n : Int} {K : Mem → Option ρ} (hz : 0 ≤ i ∧ 0 ≤ j ∧ 0 ≤ n ∧ i + n ≤ an ∧ j + n ≤ bn) (hn : an < 2147483648 ∧ bn < 2147483648) : acp h a an (iI i) b bn (iI j) (iI n) K = K (cpI h a i.toNat b j.toNat n.toNat) := by
  unfold acp
  rw [iI_toInt ⟨by omega, by omega⟩, iI_toInt ⟨by omega, by omega⟩, iI_toInt ⟨by omega, by omega⟩, if_pos hz, iI_clamp ⟨hz.1, by omega⟩, iI_clamp ⟨hz.2.1, by omega⟩, iI_clamp ⟨hz.2.2.1, by omega⟩]
theorem cal_some {A : Type} {v : A} {K : A → Option ρ} : cal (some v) K = K v := (rfl)
theorem nm_eq {A : Type} {v : A} {K : A → Option ρ} : nm v K = K v := (rfl)
theorem join_eq {β : Type} {k : β} {f : β → Option ρ} : join k f = f k := (rfl)
theorem cal2_some {A : Type} {v : A} {h : Mem} {K : A → Mem → Option ρ} : cal2 (some (v, h)) K = K v h := (rfl)
end
theorem mnI_i {a b : Int} (h : (-2147483648 ≤ a ∧ a < 2147483648) ∧ (-2147483648 ≤ b ∧ b < 2147483648)) : mnI (iI a) (iI b) = iI (min a b) := by
  unfold mnI
  simp only [iI_lt ⟨h.2, h.1⟩]
  by_cases hc : b < a
  · rw [if_pos hc, Int.min_eq_right (by omega)]
  · rw [if_neg hc, Int.min_eq_left (by omega)]
theorem mxI_i {a b : Int} (h : (-2147483648 ≤ a ∧ a < 2147483648) ∧ (-2147483648 ≤ b ∧ b < 2147483648)) : mxI (iI a) (iI b) = iI (max a b) := by
  unfold mxI
  simp only [iI_lt ⟨h.1, h.2⟩]
  by_cases hc : a < b
  · rw [if_pos hc, Int.max_eq_right (by omega)]
  · rw [if_neg hc, Int.max_eq_left (by omega)]
/-! Int32 by its bits -/
def bt (x : Int32) (i : Nat) : Bool := x.toBitVec.getLsbD i
theorem b_ext {x y : Int32} (h : ∀ i, i < 32 → bt x i = bt y i) : x = y := Int32.toBitVec_inj.mp (BitVec.eq_of_getLsbD_eq (fun i hi => h i hi))
theorem b_or (x y : Int32) (i : Nat) : bt (x ||| y) i = (bt x i || bt y i) := by unfold bt; rw [Int32.toBitVec_or, BitVec.getLsbD_or]
theorem b_and (x y : Int32) (i : Nat) : bt (x &&& y) i = (bt x i && bt y i) := by unfold bt; rw [Int32.toBitVec_and, BitVec.getLsbD_and]
theorem b_xor (x y : Int32) (i : Nat) : bt (x ^^^ y) i = (bt x i ^^ bt y i) := by unfold bt; rw [Int32.toBitVec_xor, BitVec.getLsbD_xor]
theorem b_big {x : Int32} {i : Nat} (h : 32 ≤ i) : bt x i = false := BitVec.getLsbD_of_ge _ _ h
theorem b_m1 : ∀ i, i < 32 → bt (iI (-1)) i = true := by decide +kernel
theorem b_0 (i : Nat) : bt (iI 0) i = false := by
  rcases Nat.lt_or_ge i 32 with h | h
  · exact (by decide +kernel : ∀ i, i < 32 → bt (iI 0) i = false) i h
  · exact b_big h
theorem b_1 (i : Nat) : bt (iI 1) i = decide (i = 0) := by
  rcases Nat.lt_or_ge i 32 with h | h
  · exact (by decide +kernel : ∀ i, i < 32 → bt (iI 1) i = decide (i = 0)) i h
  · rw [b_big h, decide_eq_false (by omega)]
theorem s_l : ∀ n : Nat, n < 32 → ((iI n &&& 31).toBitVec.smod 32).toNat = n := by decide +kernel
theorem s_u : ∀ n : Nat, n < 32 → (((iI n).toUInt32 &&& Int32.toUInt32 31).toBitVec % 32).toNat = n := by decide +kernel
theorem b_shl {n : Nat} (hn : n < 32) (x : Int32) {i : Nat} (hi : i < 32) : bt (shlI x (iI n)) i = (decide (n ≤ i) && bt x (i - n)) := by
  unfold bt shlI
  rw [Int32.toBitVec_shiftLeft]
  show (x.toBitVec <<< ((iI n &&& 31).toBitVec.smod 32).toNat).getLsbD i = _
  rw [s_l n hn, BitVec.getLsbD_shiftLeft]
  rcases Nat.lt_or_ge i n with h | h
  · simp [h, Nat.not_le.mpr h]
  · simp [hi, h, Nat.not_lt.mpr h]
theorem b_ush {n : Nat} (hn : n < 32) (x : Int32) (i : Nat) : bt (ushI x (iI n)) i = bt x (n + i) := by
  show (x.toUInt32 >>> ((iI n).toUInt32 &&& Int32.toUInt32 31)).toBitVec.getLsbD i = x.toUInt32.toBitVec.getLsbD (n + i)
  rw [UInt32.toBitVec_shiftRight]
  show (x.toUInt32.toBitVec >>> (((iI n).toUInt32 &&& Int32.toUInt32 31).toBitVec % 32).toNat).getLsbD i = _
  rw [s_u n hn, BitVec.getLsbD_ushiftRight]
theorem b_shr {n : Nat} (hn : n < 32) (x : Int32) {i : Nat} (hi : i < 32) : bt (shrI x (iI n)) i = if n + i < 32 then bt x (n + i) else bt x 31 := by
  unfold bt shrI
  rw [Int32.toBitVec_shiftRight]
  show (x.toBitVec.sshiftRight ((iI n &&& 31).toBitVec.smod 32).toNat).getLsbD i = _
  rw [s_l n hn, BitVec.getLsbD_sshiftRight, BitVec.msb_eq_getLsbD_last]
  simp [hi]
/-- one bit as a number -/
def bn (b : Bool) : Int32 := iI (if b then 1 else 0)
theorem b_bn (b : Bool) (i : Nat) : bt (bn b) i = (decide (i = 0) && b) := by
  cases b
  · show bt (iI 0) i = _; rw [b_0, Bool.and_false]
  · show bt (iI 1) i = _; rw [b_1, Bool.and_true]
theorem b_one {n : Nat} (hn : n < 32) (x : Int32) : ushI x (iI n) &&& iI 1 = bn (bt x n) := by
  apply b_ext
  intro i hi
  rw [b_and, b_ush hn, b_1, b_bn]
  by_cases h : i = 0
  · subst h; simp
  · simp [h]
theorem b_oneS {n : Nat} (hn : n < 32) (x : Int32) : shrI x (iI n) &&& iI 1 = bn (bt x n) := by
  apply b_ext
  intro i hi
  rw [b_and, b_shr hn _ hi, b_1, b_bn]
  by_cases h : i = 0
  · subst h; simp [hn]
  · simp [h]
/-! Int64 by its bits -/
def bl (x : Int64) (i : Nat) : Bool := x.toBitVec.getLsbD i
theorem l_ext {x y : Int64} (h : ∀ i, i < 64 → bl x i = bl y i) : x = y := Int64.toBitVec_inj.mp (BitVec.eq_of_getLsbD_eq (fun i hi => h i hi))
theorem l_or (x y : Int64) (i : Nat) : bl (x ||| y) i = (bl x i || bl y i) := by unfold bl; rw [Int64.toBitVec_or, BitVec.getLsbD_or]
theorem l_and (x y : Int64) (i : Nat) : bl (x &&& y) i = (bl x i && bl y i) := by unfold bl; rw [Int64.toBitVec_and, BitVec.getLsbD_and]
theorem l_xor (x y : Int64) (i : Nat) : bl (x ^^^ y) i = (bl x i ^^ bl y i) := by unfold bl; rw [Int64.toBitVec_xor, BitVec.getLsbD_xor]
theorem l_m1 : ∀ i, i < 64 → bl (iL (-1)) i = true := by decide +kernel
theorem l_0 : ∀ i, i < 64 → bl (iL 0) i = false := by decide +kernel
theorem l_3 : ∀ i, i < 64 → bl (iL 3) i = decide (i < 2) := by decide +kernel
theorem s_lL : ∀ n : Nat, n < 64 → (((iI n).toInt64 &&& 63).toBitVec.smod 64).toNat = n := by decide +kernel
theorem s_uL : ∀ n : Nat, n < 64 → (((iI n).toInt64.toUInt64 &&& Int64.toUInt64 63).toBitVec % 64).toNat = n := by decide +kernel
theorem l_shl {n : Nat} (hn : n < 64) (x : Int64) {i : Nat} (hi : i < 64) : bl (shlL x (iI n)) i = (decide (n ≤ i) && bl x (i - n)) := by
  unfold bl shlL
  rw [Int64.toBitVec_shiftLeft]
  show (x.toBitVec <<< (((iI n).toInt64 &&& 63).toBitVec.smod 64).toNat).getLsbD i = _
  rw [s_lL n hn, BitVec.getLsbD_shiftLeft]
  rcases Nat.lt_or_ge i n with h | h
  · simp [h, Nat.not_le.mpr h]
  · simp [hi, h, Nat.not_lt.mpr h]
theorem l_ush {n : Nat} (hn : n < 64) (x : Int64) (i : Nat) : bl (ushL x (iI n)) i = bl x (n + i) := by
  show (x.toUInt64 >>> ((iI n).toInt64.toUInt64 &&& Int64.toUInt64 63)).toBitVec.getLsbD i = x.toUInt64.toBitVec.getLsbD (n + i)
  rw [UInt64.toBitVec_shiftRight]
  show (x.toUInt64.toBitVec >>> (((iI n).toInt64.toUInt64 &&& Int64.toUInt64 63).toBitVec % 64).toNat).getLsbD i = _
  rw [s_uL n hn, BitVec.getLsbD_ushiftRight]
theorem l_shr {n : Nat} (hn : n < 64) (x : Int64) {i : Nat} (hi : i < 64) : bl (shrL x (iI n)) i = if n + i < 64 then bl x (n + i) else bl x 63 := by
  unfold bl shrL
  rw [Int64.toBitVec_shiftRight]
  show (x.toBitVec.sshiftRight (((iI n).toInt64 &&& 63).toBitVec.smod 64).toNat).getLsbD i = _
  rw [s_lL n hn, BitVec.getLsbD_sshiftRight, BitVec.msb_eq_getLsbD_last]
  simp [hi]
/-! standings: slants and times as bits -/
def slN (S : Nat → Bool) : Nat → Int32
  | 0 => iI 0
  | n + 1 => slN S n ||| shlI (bn (S n)) (iI n)
theorem b_slN (S : Nat → Bool) : ∀ (n : Nat), n ≤ 32 → ∀ i, i < 32 → bt (slN S n) i = (decide (i < n) && S i)
  | 0, _, i, hi => by show bt (iI 0) i = _; rw [b_0]; simp
  | n + 1, hn, i, hi => by
    show bt (slN S n ||| shlI (bn (S n)) (iI n)) i = _
    rw [b_or, b_slN S n (by omega) i hi, b_shl (by omega) _ hi, b_bn]
    by_cases h1 : i < n
    · simp [h1, Nat.not_le.mpr h1, Nat.lt_succ_of_lt h1]
    · by_cases h2 : i = n
      · subst h2; simp
      · have h3 : ¬ i < n + 1 := by omega
        have h4 : i - n ≠ 0 := by omega
        simp [h1, h3, h4]
abbrev slW (S : Nat → Bool) : Int32 := slN S 25
def upB (S : Nat → Bool) (q : Nat) (b : Bool) : Nat → Bool := fun i => if i = q then b else S i
theorem sl_get {S : Nat → Bool} {q : Nat} (hq : q < 25) : ushI (slW S) (iI q) &&& iI 1 = bn (S q) := by
  rw [b_one (by omega), b_slN S 25 (by omega) q (by omega), decide_eq_true hq, Bool.true_and]
theorem sl_getS {S : Nat → Bool} {q : Nat} (hq : q < 25) : shrI (slW S) (iI q) &&& iI 1 = bn (S q) := by
  rw [b_oneS (by omega), b_slN S 25 (by omega) q (by omega), decide_eq_true hq, Bool.true_and]
theorem b_bit {q i : Nat} (hq : q < 32) (hi : i < 32) : bt (shlI (iI 1) (iI q)) i = decide (i = q) := by
  rw [b_shl hq _ hi, b_1]
  by_cases h1 : q ≤ i
  · by_cases h2 : i = q
    · subst h2; simp
    · simp [h1, h2]; omega
  · have : i ≠ q := by omega
    simp [h1, this]
theorem sl_flip {S : Nat → Bool} {q : Nat} (hq : q < 25) : slW S ^^^ shlI (iI 1) (iI q) = slW (upB S q (!S q)) := by
  apply b_ext
  intro i hi
  rw [b_xor, b_slN _ _ (by omega) i hi, b_slN _ _ (by omega) i hi, b_bit (by omega) hi]
  unfold upB
  by_cases h : i = q
  · subst h; simp [hq]
  · simp [h]
theorem sl_set {S : Nat → Bool} {q : Nat} {b : Bool} (hq : q < 25) : (slW S &&& (shlI (iI 1) (iI q) ^^^ iI (-1))) ||| shlI (bn b) (iI q) = slW (upB S q b) := by
  apply b_ext
  intro i hi
  rw [b_or, b_and, b_xor, b_slN _ _ (by omega) i hi, b_slN _ _ (by omega) i hi, b_bit (by omega) hi, b_m1 i hi, b_shl (by omega) _ hi, b_bn]
  unfold upB
  by_cases h : i = q
  · subst h; simp [hq]
  · by_cases h1 : q ≤ i
    · have : i - q ≠ 0 := by omega
      simp [h, this]
    · simp [h, h1]
theorem sl_inj {S S' : Nat → Bool} (h : slW S = slW S') {q : Nat} (hq : q < 25) : S q = S' q := by
  have h1 := congrArg (fun x => bt x q) h
  simp only [b_slN _ _ (show 25 ≤ 32 by omega) q (by omega)] at h1
  simpa [hq] using h1
theorem sl_congr {S S' : Nat → Bool} (h : ∀ q, q < 25 → S q = S' q) : slW S = slW S' := by
  apply b_ext
  intro i hi
  rw [b_slN _ _ (by omega) i hi, b_slN _ _ (by omega) i hi]
  by_cases hq : i < 25
  · rw [h i hq]
  · simp [hq]
def tmN (T : Nat → Nat) : Nat → Int64
  | 0 => iL 0
  | n + 1 => tmN T n ||| shlL (Int32.toInt64 (iI (T n))) (iI (2 * n : Nat))
theorem l_small : ∀ t : Nat, t < 4 → ∀ i, i < 64 → bl (Int32.toInt64 (iI t)) i = (decide (i < 2) && t.testBit i) := by decide +kernel
theorem l_tmN {T : Nat → Nat} (hT : ∀ q, T q < 4) : ∀ (n : Nat), n ≤ 32 → ∀ i, i < 64 → bl (tmN T n) i = (decide (i / 2 < n) && (T (i / 2)).testBit (i % 2))
  | 0, _, i, hi => by show bl (iL 0) i = _; rw [l_0 i hi]; simp
  | n + 1, hn, i, hi => by
    show bl (tmN T n ||| shlL (Int32.toInt64 (iI (T n))) (iI (2 * n : Nat))) i = _
    rw [l_or, l_tmN hT n (by omega) i hi, l_shl (by omega) _ hi, l_small _ (hT n) _ (by omega)]
    by_cases h1 : i / 2 < n
    · have h2 : ¬ 2 * n ≤ i := by omega
      have h3 : i / 2 < n + 1 := by omega
      simp [h1, h2, h3]
    · by_cases h2 : i / 2 = n
      · have h3 : 2 * n ≤ i := by omega
        have h4 : i - 2 * n < 2 := by omega
        have h5 : i - 2 * n = i % 2 := by omega
        have h6 : i % 2 < 2 := by omega
        rw [h2, h5]
        simp [h3, h6]
      · have h3 : ¬ i / 2 < n + 1 := by omega
        have h4 : ¬ i - 2 * n < 2 := by omega
        simp [h1, h3, h4]
abbrev tmW (T : Nat → Nat) : Int64 := tmN T 25
def upN (T : Nat → Nat) (q t : Nat) : Nat → Nat := fun i => if i = q then t else T i
theorem l_in (x : Int64) (t : Nat) (ht : t < 4) (h : ∀ i, i < 64 → bl x i = (decide (i < 2) && t.testBit i)) : Int64.toInt32 x = iI t := by
  have e : x = Int32.toInt64 (iI t) := l_ext fun i hi => by rw [h i hi, l_small t ht i hi]
  rw [e]
  exact Int32.toInt_inj.mp (by rw [Int32.toInt32_toInt64])
theorem tm_get {T : Nat → Nat} (hT : ∀ q, T q < 4) {q : Nat} (hq : q < 25) : Int64.toInt32 (ushL (tmW T) (iI (2 * q : Nat)) &&& iL 3) = iI (T q) := by
  refine l_in _ _ (hT q) fun i hi => ?_
  rw [l_and, l_ush (by omega), l_3 i hi]
  by_cases h : i < 2
  · rw [l_tmN hT 25 (by omega) _ (by omega)]
    have h1 : (2 * q + i) / 2 = q := by omega
    have h2 : (2 * q + i) % 2 = i := by omega
    rw [h1, h2]
    simp [hq, h]
  · simp [h]
theorem tm_getS {T : Nat → Nat} (hT : ∀ q, T q < 4) {q : Nat} (hq : q < 25) : Int64.toInt32 (shrL (tmW T) (iI (2 * q : Nat)) &&& iL 3) = iI (T q) := by
  refine l_in _ _ (hT q) fun i hi => ?_
  rw [l_and, l_shr (by omega) _ hi, l_3 i hi]
  by_cases h : i < 2
  · have h0 : 2 * q + i < 64 := by omega
    rw [if_pos h0, l_tmN hT 25 (by omega) _ (by omega)]
    have h1 : (2 * q + i) / 2 = q := by omega
    have h2 : (2 * q + i) % 2 = i := by omega
    rw [h1, h2]
    simp [hq, h]
  · simp [h]
theorem tm_put {T : Nat → Nat} (hT : ∀ q, T q < 4) {q t : Nat} (hq : q < 25) (ht : t < 4) : (tmW T &&& (shlL (iL 3) (iI (2 * q : Nat)) ^^^ iL (-1))) ||| shlL (Int32.toInt64 (iI t)) (iI (2 * q : Nat)) = tmW (upN T q t) := by
  have hT' : ∀ p, upN T q t p < 4 := fun p => by unfold upN; split; exact ht; exact hT p
  apply l_ext
  intro i hi
  rw [l_or, l_and, l_xor, l_tmN hT 25 (by omega) i hi, l_tmN hT' 25 (by omega) i hi, l_m1 i hi, l_shl (by omega) _ hi, l_shl (by omega) _ hi, l_3 _ (by omega), l_small t ht _ (by omega)]
  unfold upN
  by_cases h : i / 2 = q
  · have h3 : 2 * q ≤ i := by omega
    have h4 : i - 2 * q < 2 := by omega
    have h5 : i - 2 * q = i % 2 := by omega
    have h6 : i % 2 < 2 := by omega
    rw [h5]
    simp [h, h3, h6, hq]
  · by_cases h1 : 2 * q ≤ i
    · have h4 : ¬ i - 2 * q < 2 := by omega
      simp [h, h4]
    · simp [h, h1]
theorem tm_inj {T T' : Nat → Nat} (hT : ∀ q, T q < 4) (hT' : ∀ q, T' q < 4) (h : tmW T = tmW T') {q : Nat} (hq : q < 25) : T q = T' q := by
  have h1 := tm_get hT hq
  rw [h, tm_get hT' hq] at h1
  rw [iI_eq ⟨⟨by have := hT' q; omega, by have := hT' q; omega⟩, ⟨by have := hT q; omega, by have := hT q; omega⟩⟩] at h1
  omega
theorem tm_congr {T T' : Nat → Nat} (hT : ∀ q, T q < 4) (hT' : ∀ q, T' q < 4) (h : ∀ q, q < 25 → T q = T' q) : tmW T = tmW T' := by
  apply l_ext
  intro i hi
  rw [l_tmN hT _ (by omega) i hi, l_tmN hT' _ (by omega) i hi]
  by_cases hq : i / 2 < 25
  · rw [h _ hq]
  · simp [hq]
