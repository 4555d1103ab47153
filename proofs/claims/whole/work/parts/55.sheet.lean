section SHEETOP
theorem b_n8 {x : Int32} {i : Nat} (hi : i < 32) : bt (n8I x) i = if i < 8 then bt x i else bt x 7 := by
  unfold bt n8I
  have inn : ∀ j, j < 8 → (BitVec.signExtend 8 x.toBitVec).getLsbD j = x.toBitVec.getLsbD j := fun j hj => by
    rw [BitVec.signExtend_eq_setWidth_of_le x.toBitVec (by decide), BitVec.getLsbD_setWidth, decide_eq_true hj, Bool.true_and]
  rw [Int8.toBitVec_toInt32, Int32.toBitVec_toInt8, BitVec.getLsbD_signExtend, BitVec.msb_eq_getLsbD_last, decide_eq_true hi, Bool.true_and]
  by_cases h : i < 8
  · rw [if_pos h, if_pos h, inn i h]
  · rw [if_neg h, if_neg h]; exact inn 7 (by omega)
theorem b_n16 {x : Int32} {i : Nat} (hi : i < 32) : bt (n16I x) i = if i < 16 then bt x i else bt x 15 := by
  unfold bt n16I
  have inn : ∀ j, j < 16 → (BitVec.signExtend 16 x.toBitVec).getLsbD j = x.toBitVec.getLsbD j := fun j hj => by
    rw [BitVec.signExtend_eq_setWidth_of_le x.toBitVec (by decide), BitVec.getLsbD_setWidth, decide_eq_true hj, Bool.true_and]
  rw [Int16.toBitVec_toInt32, Int32.toBitVec_toInt16, BitVec.getLsbD_signExtend, BitVec.msb_eq_getLsbD_last, decide_eq_true hi, Bool.true_and]
  by_cases h : i < 16
  · rw [if_pos h, if_pos h, inn i h]
  · rw [if_neg h, if_neg h]; exact inn 15 (by omega)
def msk (b : Nat) (v : Int32) : Int32 := if b = 32 then v else v &&& (shlI (iI 1) (iI b) - iI 1)
theorem b_msk8 : ∀ i, i < 32 → bt (shlI (iI 1) (iI 8) - iI 1) i = decide (i < 8) := by decide +kernel
theorem b_msk16 : ∀ i, i < 32 → bt (shlI (iI 1) (iI 16) - iI 1) i = decide (i < 16) := by decide +kernel
theorem msk_ok {b : Nat} (hb : b = 8 ∨ b = 16 ∨ b = 32) {v : Int32} : ∀ i, b ≤ i → i < 32 → bt (msk b v) i = false := by
  intro i h1 h2
  unfold msk
  rcases hb with rfl | rfl | rfl
  · rw [if_neg (by omega), b_and]; show (_ && bt (shlI (iI 1) (iI 8) - iI 1) i) = _; rw [b_msk8 i h2, decide_eq_false (by omega), Bool.and_false]
  · rw [if_neg (by omega), b_and]; show (_ && bt (shlI (iI 1) (iI 16) - iI 1) i) = _; rw [b_msk16 i h2, decide_eq_false (by omega), Bool.and_false]
  · omega
theorem nrw_msk {b : Nat} (hb : b = 8 ∨ b = 16 ∨ b = 32) {v : Int32} : nrw b (msk b v) = nrw b v := by
  unfold nrw msk
  rcases hb with rfl | rfl | rfl
  · rw [if_pos rfl, if_pos rfl, if_neg (by omega)]
    apply b_ext
    intro i hi
    have e : ∀ i, i < 8 → bt (v &&& (shlI (iI 1) (iI ((8 : Nat) : Int)) - iI 1)) i = bt v i := fun i h => by
      rw [b_and]; show (_ && bt (shlI (iI 1) (iI 8) - iI 1) i) = _; rw [b_msk8 i (by omega), decide_eq_true h, Bool.and_true]
    rw [b_n8 hi, b_n8 hi, e 7 (by omega)]
    by_cases h : i < 8
    · rw [if_pos h, if_pos h, e i h]
    · rw [if_neg h, if_neg h]
  · rw [if_neg (by omega), if_pos rfl, if_neg (by omega), if_pos rfl, if_neg (by omega)]
    apply b_ext
    intro i hi
    have e : ∀ i, i < 16 → bt (v &&& (shlI (iI 1) (iI ((16 : Nat) : Int)) - iI 1)) i = bt v i := fun i h => by
      rw [b_and]; show (_ && bt (shlI (iI 1) (iI 16) - iI 1) i) = _; rw [b_msk16 i (by omega), decide_eq_true h, Bool.and_true]
    rw [b_n16 hi, b_n16 hi, e 15 (by omega)]
    by_cases h : i < 16
    · rw [if_pos h, if_pos h, e i h]
    · rw [if_neg h, if_neg h]
  · rfl
/-- a number below 128 is the same, narrowed or not -/
theorem nrw_small {b w : Nat} {x : Int32} (hb : b = 8 ∨ b = 16 ∨ b = 32) (hx : ∀ i, b ≤ i → i < 32 → bt x i = false) (hw : w < 128) : nrw b x = iI w ↔ x = iI w := by
  have hwb : ∀ i, 7 ≤ i → bt (iI w) i = false := fun i h => by
    rw [b_nat, Nat.testBit_lt_two_pow (Nat.lt_of_lt_of_le (show w < 2 ^ 7 by omega) (Nat.pow_le_pow_right (by omega) h)), Bool.and_false]
  unfold nrw
  rcases hb with rfl | rfl | rfl
  · rw [if_pos rfl]
    refine ⟨fun h => ?_, fun h => ?_⟩
    · apply b_ext
      intro i hi
      by_cases h8 : i < 8
      · rw [← h, b_n8 hi, if_pos h8]
      · rw [hx i (by omega) hi, hwb i (by omega)]
    · apply b_ext
      intro i hi
      rw [h, b_n8 hi]
      by_cases h8 : i < 8
      · rw [if_pos h8]
      · rw [if_neg h8, hwb 7 (by omega), hwb i (by omega)]
  · rw [if_neg (by omega), if_pos rfl]
    refine ⟨fun h => ?_, fun h => ?_⟩
    · apply b_ext
      intro i hi
      by_cases h8 : i < 16
      · rw [← h, b_n16 hi, if_pos h8]
      · rw [hx i (by omega) hi, hwb i (by omega)]
    · apply b_ext
      intro i hi
      rw [h, b_n16 hi]
      by_cases h8 : i < 16
      · rw [if_pos h8]
      · rw [if_neg h8, hwb 15 (by omega), hwb i (by omega)]
  · rw [if_neg (by omega), if_neg (by omega)]
variable {h : Mem} {g : GS}
def GS.shs (g : GS) (u b : Nat) (l : List Int32) : GS := (g.now, g.kept, g.images, g.fl, fun i => if i = u then b else g.bits i, fun i => if i = u then l else g.sheet i, g.trace)
theorem CSt.shs {h2 : Mem} {u b : Nat} {l : List Int32} (hc : CSt h g) (q0 : gI h2 (64 + 2 * u) 0 = iI b) (q1 : gI h2 (64 + 2 * u) 1 = iI l.length) (q2 : LSt h2 (64 + 2 * u + 1) 0 l) (e : ∀ x k, x ≠ 64 + 2 * u → x ≠ 64 + 2 * u + 1 → gI h2 x k = gI h x k) (e2 : ∀ x k, gL h2 x k = gL h x k) : CSt h2 (g.shs u b l) := by
  obtain ⟨h1, h2', h3, h4, h5, h6, h7, h8, h9, h10, h11, h12, h13⟩ := hc
  refine ⟨h1.cong (fun x k p q => e x k (by omega) (by omega)) (e2 _ _), fun s hs => (h2' s hs).cong (fun x k p q => e x k (by omega) (by omega)) (e2 _ _), (e _ _ (by omega) (by omega)).trans h3, fun n p q => (e _ _ (by omega) (by omega)).trans (h4 n p q), fun i hi => ?_, (e _ _ (by omega) (by omega)).trans h6, h7.cong fun k => e _ _ (by omega) (by omega), (e _ _ (by omega) (by omega)).trans h8, (e _ _ (by omega) (by omega)).trans h9, (e _ _ (by omega) (by omega)).trans h10, (e _ _ (by omega) (by omega)).trans h11, (e _ _ (by omega) (by omega)).trans h12, (e _ _ (by omega) (by omega)).trans h13⟩
  show gI h2 (64 + 2 * i) 0 = iI ((if i = u then b else g.bits i : Nat) : Int) ∧ gI h2 (64 + 2 * i) 1 = iI (if i = u then l else g.sheet i).length ∧ LSt h2 (64 + 2 * i + 1) 0 (if i = u then l else g.sheet i)
  by_cases hu : i = u
  · subst hu; rw [if_pos rfl, if_pos rfl]; exact ⟨q0, q1, q2⟩
  · rw [if_neg hu, if_neg hu]
    obtain ⟨a1, a2, a3⟩ := h5 i hi
    exact ⟨(e _ _ (by omega) (by omega)).trans a1, (e _ _ (by omega) (by omega)).trans a2, a3.cong fun k => e _ _ (by omega) (by omega)⟩
theorem MSt.shs {h2 : Mem} {u b : Nat} {l : List Int32} (hm : MSt h g) (hg : GV g) (hu : u < 4) (q0 : gI h2 83 u = iI b) (q1 : gI h2 84 u = iI l.length) (q2 : ∀ k (hk : k < l.length), gI h2 85 (40 * u + k) = nrw b l[k]) (e : ∀ x k, (x ≠ 83 ∨ k ≠ u) → (x ≠ 84 ∨ k ≠ u) → (x ≠ 85 ∨ k < 40 * u ∨ 40 * u + 40 ≤ k) → x ≠ 86 → gI h2 x k = gI h x k) : MSt h2 (g.shs u b l) := by
  obtain ⟨h1, h2', h3, h4, h5, h6, h7, h8, h9, h10⟩ := hm
  have e' : ∀ x k, x < 83 ∨ 87 ≤ x → gI h2 x k = gI h x k := fun x k q => e x k (by omega) (by omega) (by omega) (by omega)
  refine ⟨h1.copy hg.1 fun k hk => e' _ _ (by omega), fun s hs => (h2' s hs).copy (hg.2.1 s hs) fun k hk => e' _ _ (by omega), (e' _ _ (by omega)).trans h3, (e' _ _ (by omega)).trans h4, fun n p q => (e' _ _ (by omega)).trans (h5 n p q), fun i hi => ?_, (e' _ _ (by omega)).trans h7, h8.cong fun k => e' _ _ (by omega), (e' _ _ (by omega)).trans h9, (e' _ _ (by omega)).trans h10⟩
  show gI h2 83 i = iI ((if i = u then b else g.bits i : Nat) : Int) ∧ gI h2 84 i = iI (if i = u then l else g.sheet i).length ∧ ∀ k (hk : k < (if i = u then l else g.sheet i).length), gI h2 85 (40 * i + k) = nrw (if i = u then b else g.bits i) (if i = u then l else g.sheet i)[k]
  by_cases hu' : i = u
  · subst hu'
    refine ⟨by rw [if_pos rfl]; exact q0, by rw [if_pos rfl]; exact q1, fun k hk => ?_⟩
    have hk2 : k < l.length := by rw [if_pos rfl] at hk; exact hk
    simp only [if_pos]
    exact q2 k hk2
  · obtain ⟨a1, a2, a3⟩ := h6 i hi
    refine ⟨by rw [if_neg hu']; exact (e _ _ (by omega) (by omega) (by omega) (by omega)).trans a1, by rw [if_neg hu']; exact (e _ _ (by omega) (by omega) (by omega) (by omega)).trans a2, fun k hk => ?_⟩
    have hk2 : k < (g.sheet i).length := by rw [if_neg hu'] at hk; exact hk
    have := (hg.2.2.1 i hi).1
    simp only [if_neg hu']
    exact (e _ _ (by omega) (by omega) (by omega) (by omega)).trans (a3 k hk2)
theorem GV.shs {u b : Nat} {l : List Int32} (hg : GV g) (hl : SHV b l) : GV (g.shs u b l) := by
  obtain ⟨g1, g2, g3, g4, g5⟩ := hg
  refine ⟨g1, g2, fun i hi => ?_, g4, g5⟩
  show SHV (if i = u then b else g.bits i) (if i = u then l else g.sheet i)
  by_cases e : i = u
  · rw [if_pos e, if_pos e]; exact hl
  · rw [if_neg e, if_neg e]; exact g3 i hi
theorem w_hasSheet {x : Int} (hx : -2147483648 ≤ x ∧ x < 2147483648) : f_X10_hasSheet h (iI x) = some (bn (decide (0 ≤ x ∧ x ≤ 3))) := by
  unfold f_X10_hasSheet
  rw [w_within hx (by omega) (by omega), cal_some, rZbn]
theorem m_isSheet {x : Int} (hx : -2147483648 ≤ x ∧ x < 2147483648) : f_X11_isSheet h (iI x) = some (bn (decide (0 ≤ x ∧ x ≤ 3))) := by
  unfold f_X11_isSheet
  rw [m_in hx (by omega) (by omega), cal_some, rZbn]
theorem w_isMissing {u : Nat} (hc : CSt h g) (hg : GV g) (hu : u < 4) : f_X7_isMissing h (64 + 2 * u) = some (bn (decide (g.bits u = 0))) := by
  unfold f_X7_isMissing
  have hb := (hg.2.2.1 u hu).2.1
  rw [(hc.2.2.2.2.1 u hu).1]
  have e : (iI (g.bits u) = 0) = ((g.bits u : Int) = 0) := by rw [iI_zero]; exact iI_eq ⟨by omega, by omega⟩
  by_cases h0 : g.bits u = 0
  · rw [if_neg (by rw [e]; omega), rZ1, decide_eq_true h0]; rfl
  · rw [if_pos (by rw [e]; omega), rZ0, decide_eq_false h0]; rfl
def spSheet (g : GS) (x y z : Int) : Int32 × GS := if 0 ≤ x ∧ x ≤ 3 then (if y = 0 ∨ y = 8 ∨ y = 16 ∨ y = 32 then (if y = 0 then (iI 1, g.shs x.toNat 0 []) else if 0 ≤ z then (if z ≤ 40 then (iI 1, g.shs x.toNat y.toNat (List.replicate z.toNat (iI 0))) else (iI (-1000000001), g.fail 1)) else (iI (-1000000003), g.fail 3)) else (iI (-1000000001), g.fail 1)) else (iI (-1000000001), g.fail 1)
theorem c_sheet {x y z : Int} (hc : CSt h g) (hx : -2147483648 ≤ x ∧ x < 2147483648) (hy : -2147483648 ≤ y ∧ y < 2147483648) (hz : -2147483648 ≤ z ∧ z < 2147483648) : OPC h (f_X10_sheet h (iI x) (iI y) (iI z)) (spSheet g x y z).1 (spSheet g x y z).2 := by
  unfold f_X10_sheet spSheet
  rw [w_hasSheet hx, cal_some, join_eq, cal2_id]
  by_cases e1 : 0 ≤ x ∧ x ≤ 3
  · obtain ⟨u, rfl⟩ : ∃ u : Nat, x = u := ⟨x.toNat, by omega⟩
    rw [decide_eq_true e1, bn_true, if_neg (by decide), if_pos e1, Int.toNat_natCast]
    have hcan : f_X7_canHave h (iI y) = some (bn (decide (y = 0 ∨ y = 8 ∨ y = 16 ∨ y = 32))) := by
      unfold f_X7_canHave
      rw [join_eq]
      by_cases y0 : y = 0
      · subst y0; rfl
      rw [if_neg (by rw [iI_zero]; exact iI_ne hy (by omega) y0)]
      by_cases y8 : y = 8
      · subst y8; rfl
      rw [if_neg (iI_ne hy (by omega) y8)]
      by_cases y16 : y = 16
      · subst y16; rfl
      rw [if_neg (iI_ne hy (by omega) y16)]
      by_cases y32 : y = 32
      · subst y32; rfl
      rw [if_pos (iI_ne hy (by omega) y32), rZ0, decide_eq_false (by omega)]; rfl
    rw [hcan, cal_some]
    by_cases e2 : y = 0 ∨ y = 8 ∨ y = 16 ∨ y = 32
    · rw [decide_eq_true e2, bn_true, if_pos (by decide), if_pos e2]
      by_cases y0 : y = 0
      · subst y0
        rw [if_neg (by decide), if_pos rfl, rng_i (by omega) (by omega), Int.toNat_natCast]
        unfold f_X7_lose
        simp only [nm_eq, cal_some]
        refine ⟨_, rfl, hc.shs ?_ ?_ (fun k hk => absurd hk (Nat.not_lt_zero k)) (fun a k q1 q2 => ?_) (fun a k => rfl), fun a k q => ⟨?_, rfl⟩⟩
        · rw [gI_ne (by omega), gI_same]; rfl
        · rw [gI_same]; rfl
        · rw [gI_ne (by omega), gI_ne (by omega)]
        · rw [gI_ne (by omega), gI_ne (by omega)]
      · rw [if_pos (by rw [iI_zero]; exact iI_ne hy (by omega) y0), if_neg y0]
        have ez : (0 ≤ iI z) = (0 ≤ z) := by rw [iI_zero]; exact iI_le ⟨by omega, hz⟩
        have ez2 : (iI z ≤ iI 40) = (z ≤ 40) := iI_le ⟨hz, by omega⟩
        by_cases z0 : 0 ≤ z
        · rw [if_pos (by rw [ez]; exact z0), if_pos z0]
          by_cases z1 : z ≤ 40
          · obtain ⟨n, rfl⟩ : ∃ n : Nat, z = n := ⟨z.toNat, by omega⟩
            rw [if_pos (by rw [ez2]; exact z1), if_pos z1, rng_i (by omega) (by omega), Int.toNat_natCast, Int.toNat_natCast]
            unfold f_X7_clear
            rw [nm_eq, nm_eq]
            obtain ⟨m1, p1, p2, p3, p4⟩ := w_fill (h := sI (sI h (64 + 2 * u) 0 (iI y)) (64 + 2 * u) 1 (iI n)) (q := 64 + 2 * u + 1) (n := 40) (v := iI 0) (by omega)
            rw [p1, cal_some, cal_some]
            refine ⟨m1, rfl, hc.shs ?_ ?_ (fun k hk => ?_) (fun a k q1 q2 => ?_) (fun a k => p3 a k), fun a k q => ⟨?_, p3 a k⟩⟩
            · rw [p2 _ _ (by omega), gI_ne (by omega), gI_same, show ((y.toNat : Nat) : Int) = y by omega]
            · rw [p2 _ _ (by omega), gI_same, List.length_replicate]
            · rw [List.length_replicate] at hk
              rw [p4 _ (by omega), List.getElem_replicate]
            · rw [p2 _ _ (by omega), gI_ne (by omega), gI_ne (by omega)]
            · rw [p2 _ _ (by omega), gI_ne (by omega), gI_ne (by omega)]
          · rw [if_neg (by rw [ez2]; exact z1), if_neg z1]
            exact c_fail hc (e := 1) (by omega)
        · rw [if_neg (by rw [ez]; exact z0), if_neg z0, cal2_id]
          exact c_fail hc (e := 3) (by omega)
    · rw [decide_eq_false e2, bn_false, if_neg (by decide), if_neg e2]
      exact c_fail hc (e := 1) (by omega)
  · rw [decide_eq_false e1, bn_false, if_pos (by decide), if_neg e1]
    exact c_fail hc (e := 1) (by omega)
theorem m_shLoop {u : Nat} (hu : u < 4) : ∃ h2, lo2 (f_X11_sheet_k14 (iI u)) 1000000 (iI 0) h = some (iI 1, h2) ∧ (∀ k, k < 40 → gI h2 85 (40 * u + k) = iI 0) ∧ (∀ x k, x ≠ 85 ∨ k < 40 * u ∨ 40 * u + 40 ≤ k → gI h2 x k = gI h x k) ∧ (∀ x k, gL h2 x k = gL h x k) := by
  obtain ⟨N, hN⟩ : ∃ N : Nat, N = 1000000 := ⟨_, rfl⟩
  rw [← hN]
  refine lo2_t (fun f x1 m => ∃ i : Nat, x1 = iI i ∧ i + f = 40 ∧ (∀ k, k < i → gI m 85 (40 * u + k) = iI 0) ∧ (∀ x k, x ≠ 85 ∨ k < 40 * u ∨ 40 * u + 40 ≤ k → gI m x k = gI h x k) ∧ (∀ x k, gL m x k = gL h x k)) (fun o => ∃ h2, o = some (iI 1, h2) ∧ (∀ k, k < 40 → gI h2 85 (40 * u + k) = iI 0) ∧ (∀ x k, x ≠ 85 ∨ k < 40 * u ∨ 40 * u + 40 ≤ k → gI h2 x k = gI h x k) ∧ (∀ x k, gL h2 x k = gL h x k)) ?_ N 40 _ _ (by omega) ⟨0, rfl, by omega, fun k hk => absurd hk (Nat.not_lt_zero k), fun _ _ _ => rfl, fun _ _ => rfl⟩
  rintro f x1 m ⟨i, rfl, hf, e1, e2, e3⟩ Kc
  unfold f_X11_sheet_k14
  have e : (iI 40 ≤ iI i) = ((40 : Int) ≤ i) := iI_le ⟨by omega, by omega⟩
  by_cases hi : i = 40
  · left
    subst hi
    rw [if_pos (by rw [e]; omega)]
    exact ⟨_, rfl, m, rfl, e1, e2, e3⟩
  · right
    rw [if_neg (by rw [e]; omega), iI_mul, iI_add, ast_i (by omega) (by omega), nm_eq, iI_add, show ((40 : Int) * (u : Int) + (i : Int)).toNat = 40 * u + i by omega]
    refine ⟨f - 1, _, _, by omega, ⟨i + 1, rfl, by omega, fun k hk => ?_, fun x k hx => ?_, ?_⟩, rfl⟩
    · by_cases hk2 : k = i
      · rw [hk2, gI_same]
      · rw [gI_ne (by omega)]; exact e1 k (by omega)
    · rw [gI_ne (by omega)]; exact e2 x k hx
    · exact e3
theorem m_sheetSet {u b n : Nat} (hm : MSt h g) (hg : GV g) (hu : u < 4) (hn : n ≤ 40) (hbn : (b = 0 → n = 0) ∧ b < 1000) : OPM h (f_X11_sheet_k7 h (iI u) (iI b) (iI n)) (iI 1) (g.shs u b (List.replicate n (iI 0))) := by
  have key : f_X11_sheet_k7 h (iI u) (iI b) (iI n) = lo2 (f_X11_sheet_k14 (iI u)) 1000000 (iI 0) (sI (sI h 83 u (iI b)) 84 u (iI n)) := by
    unfold f_X11_sheet_k7
    rw [ast_i (by omega) (by omega), Int.toNat_natCast, join_eq]
    by_cases h0 : b = 0
    · rw [hbn.1 h0, h0, if_neg (by decide)]
      dsimp only
      rw [ast_i (by omega) (by omega), Int.toNat_natCast]; rfl
    · rw [if_pos (by rw [iI_zero]; exact iI_ne (by omega) (by omega) (by omega))]
      dsimp only
      rw [ast_i (by omega) (by omega), Int.toNat_natCast]
  rw [key]
  obtain ⟨m1, p1, p2, p3, p4⟩ := m_shLoop (h := sI (sI h 83 u (iI b)) 84 u (iI n)) hu
  rw [p1]
  refine ⟨m1, rfl, hm.shs hg hu ?_ ?_ (fun k hk => ?_) (fun x k q1 q2 q3 q4 => ?_), fun x k q => ⟨?_, p4 x k⟩⟩
  · rw [p3 _ _ (by omega), gI_ne (by omega), gI_same]
  · rw [p3 _ _ (by omega), gI_same, List.length_replicate]
  · rw [List.length_replicate] at hk
    rw [p2 k (by omega), List.getElem_replicate]
    unfold nrw
    split
    · decide
    · split
      · decide
      · rfl
  · rw [p3 _ _ q3, gI_ne (by omega), gI_ne (by omega)]
  · rw [p3 _ _ (by omega), gI_ne (by omega), gI_ne (by omega)]
theorem m_sheet {x y z : Int} (hm : MSt h g) (hg : GV g) (hx : -2147483648 ≤ x ∧ x < 2147483648) (hy : -2147483648 ≤ y ∧ y < 2147483648) (hz : -2147483648 ≤ z ∧ z < 2147483648) : OPM h (f_X11_sheet h (iI x) (iI y) (iI z)) (spSheet g x y z).1 (spSheet g x y z).2 := by
  unfold f_X11_sheet spSheet
  rw [m_isSheet hx, cal_some, join_eq, cal2_id]
  by_cases e1 : 0 ≤ x ∧ x ≤ 3
  · obtain ⟨u, rfl⟩ : ∃ u : Nat, x = u := ⟨x.toNat, by omega⟩
    rw [decide_eq_true e1, bn_true, if_neg (by decide), if_pos e1, Int.toNat_natCast, join_eq]
    by_cases y0 : y = 0
    · subst y0
      have z0 : iI 0 = (0 : Int32) := rfl
      rw [if_pos z0, if_pos (Or.inl rfl), if_pos rfl]
      unfold f_X11_sheet_k5 f_X11_sheet_k6
      rw [join_eq, if_pos z0, join_eq, if_pos z0]
      have : f_X11_sheet_k7 h (iI u) (iI 0) (iI z) = f_X11_sheet_k7 h (iI u) (iI ((0 : Nat) : Int)) (iI ((0 : Nat) : Int)) := by
        unfold f_X11_sheet_k7
        rw [show iI ((0 : Nat) : Int) = iI 0 from rfl]
        simp only [join_eq, show ¬ ¬ (iI 0 = 0) from fun q => q rfl, if_false]
      rw [this]
      exact m_sheetSet hm hg (by omega) (by omega) ⟨fun _ => rfl, by omega⟩
    have n0 : ¬ iI y = 0 := by rw [iI_zero]; exact iI_ne hy (by omega) y0
    have go : (y = 8 ∨ y = 16 ∨ y = 32) → OPM h (f_X11_sheet_k5 h (iI u) (iI y) (iI z)) (if 0 ≤ z then (if z ≤ 40 then (iI 1, g.shs u y.toNat (List.replicate z.toNat (iI 0))) else (iI (-1000000001), g.fail 1)) else (iI (-1000000003), g.fail 3)).1 (if 0 ≤ z then (if z ≤ 40 then (iI 1, g.shs u y.toNat (List.replicate z.toNat (iI 0))) else (iI (-1000000001), g.fail 1)) else (iI (-1000000003), g.fail 3)).2 := fun hy2 => by
      have ez : (0 ≤ iI z) = (0 ≤ z) := by rw [iI_zero]; exact iI_le ⟨by omega, hz⟩
      have ez2 : (iI z ≤ iI 40) = (z ≤ 40) := iI_le ⟨hz, by omega⟩
      unfold f_X11_sheet_k5 f_X11_sheet_k6
      rw [join_eq, if_neg n0]
      by_cases z0 : 0 ≤ z
      · rw [if_pos (by rw [ez]; exact z0), if_pos z0, join_eq, if_neg n0]
        by_cases z1 : z ≤ 40
        · rw [if_pos (by rw [ez2]; exact z1), if_pos z1]
          obtain ⟨n, rfl⟩ : ∃ n : Nat, z = n := ⟨z.toNat, by omega⟩
          obtain ⟨b, rfl⟩ : ∃ b : Nat, y = b := ⟨y.toNat, by omega⟩
          rw [Int.toNat_natCast, Int.toNat_natCast]
          exact m_sheetSet hm hg (by omega) (by omega) ⟨fun q => by omega, by omega⟩
        · rw [if_neg (by rw [ez2]; exact z1), if_neg z1, cal2_id]
          exact c_errs hm hg (e := 1) (by omega)
      · rw [if_neg (by rw [ez]; exact z0), if_neg z0, cal2_id]
        exact c_errs hm hg (e := 3) (by omega)
    rw [if_neg n0]
    by_cases y8 : y = 8
    · rw [if_pos (by rw [y8]), if_pos (by omega), if_neg y0]; exact go (by omega)
    rw [if_neg (iI_ne hy (by omega) y8)]
    by_cases y16 : y = 16
    · rw [if_pos (by rw [y16]), if_pos (by omega), if_neg y0]; exact go (by omega)
    rw [if_neg (iI_ne hy (by omega) y16)]
    by_cases y32 : y = 32
    · rw [if_pos (by rw [y32]), if_pos (by omega), if_neg y0]; exact go (by omega)
    rw [if_neg (iI_ne hy (by omega) y32), if_neg (by omega)]
    exact c_errs hm hg (e := 1) (by omega)
  · rw [decide_eq_false e1, bn_false, if_pos (by decide), if_neg e1]
    exact c_errs hm hg (e := 1) (by omega)
theorem GV.sheet0 {x y z : Int} (hg : GV g) : GV (spSheet g x y z).2 := by
  unfold spSheet
  by_cases e1 : 0 ≤ x ∧ x ≤ 3
  · rw [if_pos e1]
    by_cases e2 : y = 0 ∨ y = 8 ∨ y = 16 ∨ y = 32
    · rw [if_pos e2]
      by_cases y0 : y = 0
      · rw [if_pos y0]
        exact hg.shs ⟨by simp, Or.inl rfl, fun _ => rfl, fun v hv => absurd hv List.not_mem_nil⟩
      · rw [if_neg y0]
        by_cases z0 : 0 ≤ z
        · rw [if_pos z0]
          by_cases z1 : z ≤ 40
          · rw [if_pos z1]
            refine hg.shs ⟨by rw [List.length_replicate]; omega, by omega, fun q => by omega, fun v hv i _ hi => ?_⟩
            rw [List.eq_of_mem_replicate hv, b_0]
          · rw [if_neg z1]; exact hg.fail 1
        · rw [if_neg z0]; exact hg.fail 3
    · rw [if_neg e2]; exact hg.fail 1
  · rw [if_neg e1]; exact hg.fail 1
end SHEETOP
