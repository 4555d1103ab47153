section LOOP
def LI (n : Nat) (h : Mem) : Prop := ∃ g, CSt h g ∧ MSt h g ∧ GV g ∧ g.images ≤ n
theorem law_op {h : Mem} {g g2 : GS} {n : Nat} {oC : Option (Int32 × Mem)} {oM : Mem → Option (Int32 × Mem)} {v : Int32} {F : Int32 → Mem → Option Int32} {K : Mem → Option Int32} (hm : MSt h g) (hg : GV g) (hn : g.images ≤ n) (hC : OPC h oC v g2) (hM : ∀ m, MSt m g → OPM m (oM m) v g2) (hG : GV g2) (hi : g2.images ≤ g.images + 1) (hF : ∀ a m, F a m = cal2 (oM m) fun b m2 => if a = b then K m2 else some (iI 0)) : ∃ h3, cal2 oC F = K h3 ∧ LI (n + 1) h3 := by
  obtain ⟨h1, e1, c1, f1⟩ := hC
  obtain ⟨h2, e2, m2, f2⟩ := hM h1 (hm.far hg.1 hg.2.1 f1)
  rw [e1, cal2_some, hF, e2, cal2_some, if_pos rfl]
  exact ⟨h2, rfl, g2, c1.far f2, m2, hG, by omega⟩
theorem law_op64 {h : Mem} {g g2 : GS} {n : Nat} {oC : Option (Int64 × Mem)} {oM : Mem → Option (Int64 × Mem)} {v : Int64} {F : Int64 → Mem → Option Int32} {K : Mem → Option Int32} (hm : MSt h g) (hg : GV g) (hn : g.images ≤ n) (hC : OPC64 h oC v g2) (hM : ∀ m, MSt m g → OPM64 m (oM m) v g2) (hG : GV g2) (hi : g2.images ≤ g.images + 1) (hF : ∀ a m, F a m = cal2 (oM m) fun b m2 => if lg_cmp a b = 0 then K m2 else some (iI 0)) : ∃ h3, cal2 oC F = K h3 ∧ LI (n + 1) h3 := by
  obtain ⟨h1, e1, c1, f1⟩ := hC
  obtain ⟨h2, e2, m2, f2⟩ := hM h1 (hm.far hg.1 hg.2.1 f1)
  rw [e1, cal2_some, hF, e2, cal2_some, if_pos (by rw [lg_cmp0])]
  exact ⟨h2, rfl, g2, c1.far f2, m2, hG, by omega⟩
theorem gv_sq {g : GS} {x y z : Int} (hg : GV g) : GV (if sqrOk g x y z then sqr0 g x.toNat y.toNat (decide (z = 1)) else g.fail 1) := by
  split
  · rename_i e
    unfold sqrOk at e
    exact hg.sqr0 (by omega) (by omega)
  · exact hg.fail 1
theorem gv_hall {g : GS} {x y : Int} (hg : GV g) : GV (if (1 ≤ x ∧ x ≤ 5) ∧ (1 ≤ y ∧ y ≤ 5) then hall0 g x.toNat y.toNat else g.fail 1) := by
  split
  · exact hg.hall0 (by omega) (by omega)
  · exact hg.fail 1
theorem gv_if {g : GS} {p : Prop} [Decidable p] {e : Nat} (hg : GV g) : GV (if p then g else g.fail e) := by
  split
  · exact hg
  · exact hg.fail e
theorem sld_i {ρ : Type} {xs : Nat → Int32} {L i : Nat} {K : Int32 → Option ρ} (hi : i < L) (hL : L < 100000) : sld xs L (iI i) K = K (xs i) := by
  unfold sld
  rw [iI_toInt ⟨by omega, by omega⟩, if_pos ⟨by omega, by omega⟩, iI_clamp ⟨by omega, by omega⟩, Int.toNat_natCast]
theorem law_join {n : Nat} {J : Mem → Option Int32} {B : (Mem → Option Int32) → Option Int32} (hB : ∀ K, ∃ h3, B K = K h3 ∧ LI (n + 1) h3) : ∃ h3, join J B = J h3 ∧ LI (n + 1) h3 := by
  rw [join_eq]; exact hB J
set_option maxHeartbeats 4000000 in
theorem law_body {xs : Nat → Int32} {L n : Nat} {h : Mem} {J : Mem → Option Int32} (hL : L ≤ 3072) (hn : 6 * n + 6 ≤ L) (hI : LI n h) : ∀ K3 o, f_law_k3 L xs (iI (6 * n : Nat)) h K3 = o → ∃ h3, o = K3 (iI (6 * (n + 1) : Nat)) h3 ∧ LI (n + 1) h3 := by
  intro K3 o ho
  subst ho
  obtain ⟨g, hc, hm, hg, hgn⟩ := hI
  have hI : g.images < 2147483648 := by omega
  unfold f_law_k3
  have e0 : (Int32.ofNat L - iI 6 < iI (6 * n : Nat)) = ((L : Int) - 6 < (6 * n : Nat)) := by
    rw [iI_nat, show iI L - iI 6 = iI ((L : Int) - 6) from iI_sub _ _]
    exact iI_lt ⟨by omega, by omega⟩
  obtain ⟨z1, w1, r1⟩ := iI_of (xs (6 * n + 1))
  have s1 : ∀ K : Int32 → Option Int32, sld xs L (iI (6 * n : Nat) + iI 1) K = K (iI z1) := fun K => by
    rw [show iI (6 * n : Nat) + iI 1 = iI ((6 * n + 1 : Nat) : Int) from iI_add _ _, sld_i (by omega) (by omega), w1]
  obtain ⟨z2, w2, r2⟩ := iI_of (xs (6 * n + 2))
  have s2 : ∀ K : Int32 → Option Int32, sld xs L (iI (6 * n : Nat) + iI 2) K = K (iI z2) := fun K => by
    rw [show iI (6 * n : Nat) + iI 2 = iI ((6 * n + 2 : Nat) : Int) from iI_add _ _, sld_i (by omega) (by omega), w2]
  obtain ⟨z3, w3, r3⟩ := iI_of (xs (6 * n + 3))
  have s3 : ∀ K : Int32 → Option Int32, sld xs L (iI (6 * n : Nat) + iI 3) K = K (iI z3) := fun K => by
    rw [show iI (6 * n : Nat) + iI 3 = iI ((6 * n + 3 : Nat) : Int) from iI_add _ _, sld_i (by omega) (by omega), w3]
  obtain ⟨z4, w4, r4⟩ := iI_of (xs (6 * n + 4))
  have s4 : ∀ K : Int32 → Option Int32, sld xs L (iI (6 * n : Nat) + iI 4) K = K (iI z4) := fun K => by
    rw [show iI (6 * n : Nat) + iI 4 = iI ((6 * n + 4 : Nat) : Int) from iI_add _ _, sld_i (by omega) (by omega), w4]
  obtain ⟨z5, w5, r5⟩ := iI_of (xs (6 * n + 5))
  have s5 : ∀ K : Int32 → Option Int32, sld xs L (iI (6 * n : Nat) + iI 5) K = K (iI z5) := fun K => by
    rw [show iI (6 * n : Nat) + iI 5 = iI ((6 * n + 5 : Nat) : Int) from iI_add _ _, sld_i (by omega) (by omega), w5]
  rw [if_neg (by rw [e0]; omega), sld_i (by omega) (by omega)]
  suffices hs : ∃ h3, _ = (fun h5 => nm (iI (6 * n : Nat) + iI 6) fun x7 => K3 x7 h5) h3 ∧ LI (n + 1) h3 by
    obtain ⟨h3, q1, q2⟩ := hs
    refine ⟨h3, q1.trans ?_, q2⟩
    show (nm (iI (6 * n : Nat) + iI 6) fun x7 => K3 x7 h3) = _
    rw [nm_eq, show iI (6 * n : Nat) + iI 6 = iI ((6 * n : Nat) + 6 : Int) from iI_add _ _, show ((6 * n : Nat) + 6 : Int) = ((6 * (n + 1) : Nat) : Int) by omega]
  refine law_join fun K6 => ?_
  generalize xs (6 * n) &&& iI 63 = cs
  show ∃ h3, (if cs = iI 0 then _ else _) = _ ∧ _
  by_cases q0 : cs = iI 0
  · rw [if_pos q0, s1, s2]
    exact law_op hm hg hgn (c_hall hc r1 r2) (fun _ m1 => m_hall m1 hg r1 r2) ((gv_hall hg)) ((by split <;> exact Nat.le_succ _)) (fun _ _ => by rw [s1, s2])
  rw [if_neg q0]
  by_cases q1 : cs = iI 1
  · rw [if_pos q1, s1, s2, s3]
    exact law_op hm hg hgn (c_square hc hg r1 r2 r3) (fun _ m1 => m_square m1 hg r1 r2 r3) ((gv_sq hg)) ((by split <;> exact Nat.le_succ _)) (fun _ _ => by rw [s1, s2, s3])
  rw [if_neg q1]
  by_cases q2 : cs = iI 2
  · rw [if_pos q2, s1, s2]
    exact law_op hm hg hgn (c_ofSq hc hg  r1 r2) (fun _ m1 => m_ofSq m1 hg r1 r2) (hg.ofSq) (Nat.le_trans (Nat.le_of_eq im_OfSq) (Nat.le_succ _)) (fun _ _ => by rw [s1, s2])
  rw [if_neg q2]
  by_cases q3 : cs = iI 3
  · rw [if_pos q3, s1, s2]
    exact law_op hm hg hgn (c_as hc hg  r1 r2) (fun _ m1 => m_as m1 hg r1 r2) (hg.as) (Nat.le_trans (Nat.le_of_eq im_As) (Nat.le_succ _)) (fun _ _ => by rw [s1, s2])
  rw [if_neg q3]
  by_cases q4 : cs = iI 4
  · rw [if_pos q4, s1]
    exact law_op hm hg hgn (c_hand hc hg  r1) (fun _ m1 => m_hand m1 hg r1) (hg.hand) (Nat.le_trans (Nat.le_of_eq im_Hand) (Nat.le_succ _)) (fun _ _ => by rw [s1])
  rw [if_neg q4]
  by_cases q5 : cs = iI 5
  · rw [if_pos q5]
    rw [c_slants hc, cal_some, m_slants hm hg, cal_some, if_pos rfl]
    exact ⟨h, rfl, g, hc, hm, hg, by omega⟩
  rw [if_neg q5]
  by_cases q6 : cs = iI 6
  · rw [if_pos q6, s1]
    exact law_op hm hg hgn (c_let hc hg  r1) (fun _ m1 => m_let m1 hg r1) (hg.let0) (Nat.le_trans (Nat.le_of_eq im_Let) (Nat.le_succ _)) (fun _ _ => by rw [s1])
  rw [if_neg q6]
  by_cases q7 : cs = iI 7
  · rw [if_pos q7, s1, s2]
    exact law_op hm hg hgn (c_out hc hg  r1 r2) (fun _ m1 => m_out m1 hg r1 r2) (hg.out) (Nat.le_trans (Nat.le_of_eq im_Out) (Nat.le_succ _)) (fun _ _ => by rw [s1, s2])
  rw [if_neg q7]
  by_cases q8 : cs = iI 8
  · rw [if_pos q8, s1, s2]
    exact law_op hm hg hgn (c_way hc hg  r1 r2) (fun _ m1 => m_way m1 hg r1 r2) (hg.way) (Nat.le_trans (Nat.le_of_eq im_Way) (Nat.le_succ _)) (fun _ _ => by rw [s1, s2])
  rw [if_neg q8]
  by_cases q9 : cs = iI 9
  · rw [if_pos q9, s1]
    exact law_op hm hg hgn (c_undo hc hg  r1) (fun _ m1 => m_undo m1 hg r1) ((GV.undo hc hg)) (Nat.le_trans (Nat.le_of_eq im_Undo) (Nat.le_succ _)) (fun _ _ => by rw [s1])
  rw [if_neg q9]
  by_cases q10 : cs = iI 10
  · rw [if_pos q10, s1, s2, s3]
    exact law_op hm hg hgn (c_feed hc hg  r3) (fun _ m1 => m_feed m1 hg r3) (hg.feed) (Nat.le_trans (Nat.le_of_eq im_Feed) (Nat.le_succ _)) (fun _ _ => by rw [s1, s2, s3])
  rw [if_neg q10]
  by_cases q11 : cs = iI 11
  · rw [if_pos q11, s1]
    exact law_op hm hg hgn (c_text hc hg  r1) (fun _ m1 => m_text m1 hg r1) (hg.text) (Nat.le_trans (Nat.le_of_eq im_Text) (Nat.le_succ _)) (fun _ _ => by rw [s1])
  rw [if_neg q11]
  by_cases q12 : cs = iI 12
  · rw [if_pos q12, s1, s2, s3, s4]
    exact law_op hm hg hgn (c_lawO hc hg  r1) (fun _ m1 => m_lawO m1 hg r1) (hg.law) (Nat.le_trans (Nat.le_of_eq im_Law) (Nat.le_succ _)) (fun _ _ => by rw [s1, s2, s3, s4])
  rw [if_neg q12]
  by_cases q13 : cs = iI 13
  · rw [if_pos q13, s1]
    exact law_op hm hg hgn (c_round hc hg  r1) (fun _ m1 => m_round m1 hg r1) (hg.round) (Nat.le_trans (Nat.le_of_eq im_Round) (Nat.le_succ _)) (fun _ _ => by rw [s1])
  rw [if_neg q13]
  by_cases q14 : cs = iI 14
  · rw [if_pos q14, s1]
    exact law_op hm hg hgn (c_back hc hg hI r1) (fun _ m1 => m_backO m1 hg r1) (hg.back) (Nat.le_trans (Nat.le_of_eq im_Back) (Nat.le_succ _)) (fun _ _ => by rw [s1])
  rw [if_neg q14]
  by_cases q15 : cs = iI 15
  · rw [if_pos q15, s1, s2, s3]
    exact law_op hm hg hgn (c_throne hc hg  r1 r2 r3) (fun _ m1 => m_throne m1 hg r1 r2 r3) (hg.throne) (Nat.le_trans (Nat.le_of_eq im_Throne) (Nat.le_succ _)) (fun _ _ => by rw [s1, s2, s3])
  rw [if_neg q15]
  by_cases q16 : cs = iI 16
  · rw [if_pos q16]
    exact law_op hm hg hgn (c_had hc hg  ) (fun _ m1 => m_had m1 hg ) (hg.had) (Nat.le_trans (Nat.le_of_eq im_Had) (Nat.le_succ _)) (fun _ _ => rfl)
  rw [if_neg q16]
  by_cases q17 : cs = iI 17
  · rw [if_pos q17, s1, s2, s3, s4]
    exact law_op64 hm hg hgn (c_odds hc hg r1 r2 r3 r4) (fun _ m1 => m_odds m1 hg r1 r2 r3 r4) (hg.odds) (Nat.le_trans (Nat.le_of_eq im_Odds) (Nat.le_succ _)) (fun _ _ => by rw [s1, s2, s3, s4])
  rw [if_neg q17]
  by_cases q18 : cs = iI 18
  · rw [if_pos q18, s1, s2]
    exact law_op hm hg hgn (c_fits hc hg  r1 r2) (fun _ m1 => m_fits m1 hg r1 r2) (hg.fits) (Nat.le_trans (Nat.le_of_eq im_Fits) (Nat.le_succ _)) (fun _ _ => by rw [s1, s2])
  rw [if_neg q18]
  by_cases q19 : cs = iI 19
  · rw [if_pos q19, s1, s2, s3]
    exact law_op hm hg hgn (c_tells hc hg  r1 r2 r3) (fun _ m1 => m_tells m1 hg r1 r2 r3) (hg.tells) (Nat.le_trans (Nat.le_of_eq im_Tells) (Nat.le_succ _)) (fun _ _ => by rw [s1, s2, s3])
  rw [if_neg q19]
  by_cases q20 : cs = iI 20
  · rw [if_pos q20, s1]
    exact law_op hm hg hgn (c_long hc hg  r1) (fun _ m1 => m_long m1 hg r1) (hg.long) (Nat.le_trans (Nat.le_of_eq im_Long) (Nat.le_succ _)) (fun _ _ => by rw [s1])
  rw [if_neg q20]
  by_cases q21 : cs = iI 21
  · rw [if_pos q21, s1]
    exact law_op hm hg hgn (c_days hc hg  r1) (fun _ m1 => m_days m1 hg r1) (hg.days) (Nat.le_trans (Nat.le_of_eq im_Days) (Nat.le_succ _)) (fun _ _ => by rw [s1])
  rw [if_neg q21]
  by_cases q22 : cs = iI 22
  · rw [if_pos q22, s1]
    exact law_op hm hg hgn (c_seed hc) (fun _ m1 => m_seed m1 hg) (hg.seed) ((Nat.le_succ _)) (fun _ _ => by rw [s1])
  rw [if_neg q22]
  by_cases q23 : cs = iI 23
  · rw [if_pos q23, s1, s2, s3]
    exact law_op hm hg hgn (c_voice hc hg  r1 r2) (fun _ m1 => m_voice m1 hg r1 r2) (hg.voice) (Nat.le_trans (Nat.le_of_eq im_Voice) (Nat.le_succ _)) (fun _ _ => by rw [s1, s2, s3])
  rw [if_neg q23]
  by_cases q24 : cs = iI 24
  · rw [if_pos q24, s1]
    exact law_op hm hg hgn (c_trace hc hg r1) (fun _ m1 => m_trace m1 hg r1) ((gv_if hg)) ((by split <;> exact Nat.le_succ _)) (fun _ _ => by rw [s1])
  rw [if_neg q24]
  by_cases q25 : cs = iI 25
  · rw [if_pos q25, s1, s2, s3]
    exact law_op hm hg hgn (c_sheet hc r1 r2 r3) (fun _ m1 => m_sheet m1 hg r1 r2 r3) (hg.sheet0) (Nat.le_trans (Nat.le_of_eq im_Sheet) (Nat.le_succ _)) (fun _ _ => by rw [s1, s2, s3])
  rw [if_neg q25]
  by_cases q26 : cs = iI 26
  · rw [if_pos q26, s1, s2, s3]
    exact law_op hm hg hgn (c_putS hc hg  r1 r2) (fun _ m1 => m_putS m1 hg r1 r2) (hg.put0) (Nat.le_trans (Nat.le_of_eq im_Put) (Nat.le_succ _)) (fun _ _ => by rw [s1, s2, s3])
  rw [if_neg q26]
  by_cases q27 : cs = iI 27
  · rw [if_pos q27, s1, s2, s3, s4, s5]
    exact law_op hm hg hgn (c_moveS hc hg  r1 r2 r3 r4 r5) (fun _ m1 => m_moveS m1 hg r1 r2 r3 r4 r5) (hg.move) (Nat.le_trans (Nat.le_of_eq im_Move) (Nat.le_succ _)) (fun _ _ => by rw [s1, s2, s3, s4, s5])
  rw [if_neg q27]
  by_cases q28 : cs = iI 28
  · rw [if_pos q28, s1]
    exact law_op hm hg hgn (c_lets hc hg  r1) (fun _ m1 => m_lets m1 hg r1) (hg.lets) (Nat.le_trans (Nat.le_of_eq im_Lets) (Nat.le_succ _)) (fun _ _ => by rw [s1])
  rw [if_neg q28]
  by_cases q29 : cs = iI 29
  · rw [if_pos q29, s1]
    exact law_op hm hg hgn (c_judge hc hg  r1) (fun _ m1 => m_judge m1 hg r1) (hg.judge) (Nat.le_trans (Nat.le_of_eq im_Judge) (Nat.le_succ _)) (fun _ _ => by rw [s1])
  rw [if_neg q29]
  by_cases q30 : cs = iI 30
  · rw [if_pos q30]
    exact law_op hm hg hgn (c_image hc hg) (fun _ m1 => m_image m1 hg) (hg.img) ((Nat.le_refl _)) (fun _ _ => rfl)
  rw [if_neg q30]
  by_cases q31 : cs = iI 31
  · rw [if_pos q31]
    exact law_op hm hg hgn (c_restore hc hg hI) (fun _ m1 => m_restore m1 hg) (hg.rest) (Nat.le_trans (Nat.le_of_eq im_Rest) (Nat.le_succ _)) (fun _ _ => rfl)
  rw [if_neg q31]
  by_cases q32 : cs = iI 32
  · rw [if_pos q32, s1]
    exact law_op hm hg hgn (c_tell hc hg  ) (fun _ m1 => m_tell m1 hg ) (hg.tell) (Nat.le_trans (Nat.le_of_eq im_Tell) (Nat.le_succ _)) (fun _ _ => by rw [s1])
  rw [if_neg q32]
  by_cases q33 : cs = iI 33
  · rw [if_pos q33]
    exact law_op hm hg hgn (c_check hc hg  ) (fun _ m1 => m_check m1 hg ) (hg.check) (Nat.le_trans (Nat.le_of_eq im_Check) (Nat.le_succ _)) (fun _ _ => rfl)
  rw [if_neg q33]
  by_cases q34 : cs = iI 34
  · rw [if_pos q34, s1]
    exact law_op hm hg hgn (c_count hc hg  r1) (fun _ m1 => m_count m1 hg r1) (hg.count) (Nat.le_trans (Nat.le_of_eq im_Count) (Nat.le_succ _)) (fun _ _ => by rw [s1])
  rw [if_neg q34]
  by_cases q35 : cs = iI 35
  · rw [if_pos q35, s1]
    exact law_op hm hg hgn (c_told hc r1) (fun _ m1 => m_told m1 hg r1) ((gv_if hg)) ((by split <;> exact Nat.le_succ _)) (fun _ _ => by rw [s1])
  rw [if_neg q35]
  exact ⟨h, rfl, g, hc, hm, hg, by omega⟩
theorem law_loop {xs : Nat → Int32} {L : Nat} {h : Mem} (hL : L ≤ 3072) (hI : LI 0 h) : f_law xs L h = some (iI 1) := by
  unfold f_law
  obtain ⟨N, hN⟩ : ∃ N : Nat, N = 1000000 := ⟨_, rfl⟩
  rw [← hN]
  refine lo2_t (fun f x1 m => ∃ n : Nat, x1 = iI (6 * n : Nat) ∧ f + n = 600 ∧ 6 * n ≤ L ∧ LI n m) (fun o => o = some (iI 1)) ?_ N 600 (iI 0) h (by omega) ⟨0, rfl, rfl, by omega, hI⟩
  rintro f x1 m ⟨n, rfl, hf, hl, hi⟩ K
  by_cases hn : 6 * n + 6 ≤ L
  · right
    obtain ⟨h3, q1, q2⟩ := law_body (J := fun _ => none) hL hn hi K _ rfl
    exact ⟨f - 1, _, h3, by omega, ⟨n + 1, rfl, by omega, by omega, q2⟩, q1⟩
  · left
    refine ⟨_, rfl, ?_⟩
    unfold f_law_k3
    have e0 : (Int32.ofNat L - iI 6 < iI (6 * n : Nat)) = ((L : Int) - 6 < (6 * n : Nat)) := by
      rw [iI_nat, show iI L - iI 6 = iI ((L : Int) - 6) from iI_sub _ _]
      exact iI_lt ⟨by omega, by omega⟩
    rw [if_pos (by rw [e0]; omega)]
end LOOP
