section IMAGEOP
variable {h : Mem} {g : GS}
theorem GV.undo {x : Int} (hc : CSt h g) (hg : GV g) : GV (spUndo g x).2 := by
  unfold spUndo
  by_cases e1 : 0 ≤ x ∧ x < (2 * (g.now.R + g.now.C) : Nat)
  · rw [if_pos e1]
    split
    · exact hg.fail 3
    · obtain ⟨m1, p1, p2, p3, p4, p5, p6⟩ := c_trial (a := 30) hc (by omega)
      obtain ⟨m2, r1, r2, r3, r4, r5⟩ := w_back (b := 29) hg.1.1 (by omega) p2 hg.1.2.1 (win := x.toNat) (by omega)
      exact hg.row hg.1.1 r3
  · rw [if_neg e1]
    exact hg.fail 1
theorem w_lcopy {a b n : Nat} (hn : n ≤ 50) (hl : gI h b 2 = iI n) (hab : b + 1 < a ∨ a + 1 < b) :
    ∃ h2, f_X5_copyFrom h a b = some h2 ∧ gI h2 a 2 = iI n ∧ (∀ k, k < n → gI h2 (a + 1) k = gI h (b + 1) k) ∧ (∀ x k, x ≠ a + 1 → (x ≠ a ∨ k ≠ 2) → gI h2 x k = gI h x k) ∧ (∀ x k, gL h2 x k = gL h x k) := by
  unfold f_X5_copyFrom f_X5_learn f_X10_held
  have e : mxI (iI 0) (mnI (mnI (Int32.ofNat 50) (Int32.ofNat 50)) (iI n)) = iI n := by
    rw [iI_nat, mnI_i (by omega), mnI_i (by omega), mxI_i (by omega)]
    congr 1
    omega
  rw [hl, e, cal_some, nm_eq, gI_same, acp_i (by omega) (by omega), cal_some]
  refine ⟨_, rfl, ?_, fun k hk => ?_, fun x k q1 q2 => ?_, fun x k => ?_⟩
  · rw [gI_cpI, if_neg (by omega), gI_same]
  · rw [gI_cpI, if_pos (by omega), gI_ne (by omega)]; congr 1; omega
  · rw [gI_cpI, if_neg (by omega), gI_ne (by omega)]
  · rw [gL_cpI]; rfl
theorem w_wcopy {a b : Nat} {s : WH} (hab : (a = 15 ∧ b = 2) ∨ (a = 2 ∧ b = 15)) (hw : WC h b s) (hV : WV s) (hz : gI h (a + 5) 0 = iI 0) (hz1 : gI h (a + 8) 0 = iI 1) :
    ∃ h2, f_X9_copyFrom h a b = some h2 ∧ WC h2 a s ∧ (∀ x k, x < a ∨ a + 12 < x → gI h2 x k = gI h x k) ∧ (∀ x k, x ≠ a + 1 → gL h2 x k = gL h x k) := by
  obtain ⟨h1, h2', h3, h4, h5, h6, h7, h8, h9, h10, h11, h12, h13, h14⟩ := hw
  obtain ⟨-, -, -, -, v5, v6, v7, -⟩ := hV
  unfold f_X9_copyFrom
  obtain ⟨m1, p1, p2, p3, p4, p5, p6, p7, p8⟩ := w_hcopy (h := h) (a := a + 1) (b := b + 1) (by omega)
  have k1 : HC m1 (a + 1) s.R s.C s.K s.M s.S s.T s.L := hc_copy h1 p4 p6 p8
  obtain ⟨m2, q1, q2, q3, q4, q5⟩ := w_lcopy (h := m1) (a := a + 5) (b := b + 5) (v7 0).1 ((p2 _ _ (by omega)).trans h9) (by omega)
  obtain ⟨m3, r1, r2, r3, r4, r5⟩ := w_lcopy (h := m2) (a := a + 8) (b := b + 8) (v7 1).1 ((q4 _ _ (by omega) (by omega)).trans ((p2 _ _ (by omega)).trans h11)) (by omega)
  rw [p1, cal_some, q1, cal_some, r1, cal_some, acp_i (by omega) (by omega), nm_eq, acp_i (by omega) (by omega)]
  simp only [nm_eq]
  have z0 : ((50 : Int)).toNat = 50 := rfl
  have z1 : ((20 : Int)).toNat = 20 := rfl
  have z2 : ((0 : Int)).toNat = 0 := rfl
  have g3 : ∀ x k, (x < a + 1 ∨ a + 4 < x) → x ≠ a + 5 → x ≠ a + 6 → x ≠ a + 8 → x ≠ a + 9 → gI m3 x k = gI h x k := fun x k y1 y2 y3 y4 y5 => by
    rw [r4 x k (by omega) (by omega), q4 x k (by omega) (by omega), p2 x k (by omega)]
  rw [z0, z1, z2]
  refine ⟨_, rfl, ⟨hc_cong k1 (fun x k y1 y2 => ?_) ?_, ?_, fun k hk => ?_, ?_, fun k hk => ?_, ?_, ?_, ?_, ?_, fun k hk => ?_, ?_, fun k hk => ?_, ?_, ?_⟩, fun x k hx => ?_, fun x k hx => ?_⟩
  · simp (disch := omega) only [gI_ne, gI_cpI, if_neg]
    rw [r4 x k (by omega) (by omega), q4 x k (by omega) (by omega)]
  · simp (disch := omega) only [gL_sI, gL_cpI]
    rw [r5, q5]
  · simp (disch := omega) only [gI_ne, gI_same, gI_cpI, if_neg]
    rw [g3 _ _ (by omega) (by omega) (by omega) (by omega) (by omega)]; exact h2'
  · have hk2 : k < s.tape.length := hk
    simp (disch := omega) only [gI_ne, gI_cpI, if_neg, if_pos]
    rw [if_pos ⟨trivial, by omega, by omega⟩, show 0 + (0 + k - 0) = 0 + k by omega, g3 _ _ (by omega) (by omega) (by omega) (by omega) (by omega)]; exact h3 k hk
  · simp (disch := omega) only [gI_ne, gI_same, gI_cpI, if_neg]
    rw [g3 _ _ (by omega) (by omega) (by omega) (by omega) (by omega)]; exact h4
  · have hk2 : k < s.waits.length := hk
    simp (disch := omega) only [gI_ne, gI_cpI, if_neg, if_pos]
    rw [if_pos ⟨trivial, by omega, by omega⟩, show 0 + (0 + k - 0) = 0 + k by omega, g3 _ _ (by omega) (by omega) (by omega) (by omega) (by omega)]; exact h5 k hk
  · simp (disch := omega) only [gI_ne, gI_same, gI_cpI, if_neg]
    rw [g3 _ _ (by omega) (by omega) (by omega) (by omega) (by omega)]; exact h6
  · simp (disch := omega) only [gI_ne, gI_same, gI_cpI, if_neg]
    rw [g3 _ _ (by omega) (by omega) (by omega) (by omega) (by omega)]; exact h7
  · simp (disch := omega) only [gI_ne, gI_same, gI_cpI, if_neg]
    rw [g3 _ _ (by omega) (by omega) (by omega) (by omega) (by omega)]; exact h8
  · simp (disch := omega) only [gI_ne, gI_cpI, if_neg]
    rw [r4 _ _ (by omega) (by omega)]; exact q2
  · have hk2 : k < (s.code 0).length := hk
    have := (v7 0).1
    simp (disch := omega) only [gI_ne, gI_cpI, if_neg]
    rw [r4 _ _ (by omega) (by omega), show a + 6 = a + 5 + 1 by omega, q3 _ (by omega), p2 _ _ (by omega)]; exact h10 k hk
  · simp (disch := omega) only [gI_ne, gI_cpI, if_neg]
    exact r2
  · have hk2 : k < (s.code 1).length := hk
    have := (v7 1).1
    simp (disch := omega) only [gI_ne, gI_cpI, if_neg]
    rw [show a + 9 = a + 8 + 1 by omega, r3 _ (by omega), q4 _ _ (by omega) (by omega), p2 _ _ (by omega)]; exact h12 k hk
  · simp (disch := omega) only [gI_ne, gI_cpI, if_neg]
    rw [r4 _ _ (by omega) (by omega), q4 _ _ (by omega) (by omega), p2 _ _ (by omega)]; exact hz
  · simp (disch := omega) only [gI_ne, gI_cpI, if_neg]
    rw [r4 _ _ (by omega) (by omega), q4 _ _ (by omega) (by omega), p2 _ _ (by omega)]; exact hz1
  · simp (disch := omega) only [gI_ne, gI_cpI, if_neg]
    exact g3 _ _ (by omega) (by omega) (by omega) (by omega) (by omega)
  · simp (disch := omega) only [gL_sI, gL_cpI]
    rw [r5, q5, p3 _ _ hx]
def GS.img (g : GS) : GS := (g.now, some g.now, g.images + 1, g.fl, g.bits, g.sheet, g.trace)
theorem c_image (hc : CSt h g) (hg : GV g) : OPC h (f_X10_image h) (iI (g.images + 1 : Nat)) g.img := by
  unfold f_X10_image
  obtain ⟨c1, c2, c3, c4, c5, c6, c7, c8, c9, c10, c11, c12, c13⟩ := id hc
  obtain ⟨m1, p1, p2, p3, p4⟩ := w_wcopy (Or.inl ⟨rfl, rfl⟩) c1 hg.1 c12 c13
  obtain ⟨-, -, -, -, -, -, -, -, -, -, -, -, w13, w14⟩ := id p2
  rw [p1, cal_some, nm_eq, gI_same, p3 _ _ (by omega), c3, iI_add]
  have e : ∀ x k, x < 15 ∨ 27 < x → (x ≠ 0 ∨ k ≠ 3) → gI (sI m1 0 3 (iI ((g.images : Int) + 1))) x k = gI h x k := fun x k q1 q2 => (gI_ne (by omega)).trans (p3 x k q1)
  refine ⟨_, rfl, ⟨c1.cong (fun x k q1 q2 => e x k (by omega) (by omega)) (p4 _ _ (by omega)), fun s hs => ?_, gI_same, fun n q1 q2 => (e _ _ (by omega) (by omega)).trans (c4 n q1 q2), fun u hu => ?_, (e _ _ (by omega) (by omega)).trans c6, c7.cong fun k => e _ _ (by omega) (by omega), (e _ _ (by omega) (by omega)).trans c8, (e _ _ (by omega) (by omega)).trans c9, (e _ _ (by omega) (by omega)).trans c10, (e _ _ (by omega) (by omega)).trans c11, (gI_ne (by omega)).trans w13, (gI_ne (by omega)).trans w14⟩, fun x k q => ⟨e x k (by omega) (by omega), p4 x k (by omega)⟩⟩
  · obtain rfl : g.now = s := Option.some.inj hs
    exact p2.cong (fun x k q1 q2 => gI_ne (by omega)) rfl
  · obtain ⟨a1, a2, a3⟩ := c5 u hu
    exact ⟨(e _ _ (by omega) (by omega)).trans a1, (e _ _ (by omega) (by omega)).trans a2, a3.cong fun k => e _ _ (by omega) (by omega)⟩
theorem m_image (hm : MSt h g) (hg : GV g) : OPM h (f_X11_image h) (iI (g.images + 1 : Nat)) g.img := by
  unfold f_X11_image
  obtain ⟨m1, e1, e2, e3, e4⟩ := m_copy (q1 := 73) (q2 := 74) (n1 := 305) (n2 := 305) (h := h) (by omega) (by omega) (by omega)
  obtain ⟨h1, h2', h3, h4, h5, h6, h7, h8, h9, h10⟩ := id hm
  have i5 : gI (sI m1 72 4 (iI 1)) 72 5 = iI g.images := (gI_ne (by omega)).trans ((e2 _ _ (by omega)).trans h4)
  rw [e1, cal_some, rZ1, nm_eq, nm_eq, gI_same, i5, iI_add]
  have e : ∀ x k, x ≠ 74 → (x ≠ 72 ∨ (k ≠ 4 ∧ k ≠ 5)) → gI (sI (sI m1 72 4 (iI 1)) 72 5 (iI ((g.images : Int) + 1))) x k = gI h x k := fun x k q1 q2 => (gI_ne (by omega)).trans ((gI_ne (by omega)).trans (e2 x k (by omega)))
  refine ⟨_, rfl, ⟨h1.copy hg.1 fun k hk => e _ _ (by omega) (by omega), fun s hs => ?_, ?_, gI_same, fun n q1 q2 => (e _ _ (by omega) (by omega)).trans (h5 n q1 q2), fun u hu => ?_, (e _ _ (by omega) (by omega)).trans h7, h8.cong fun k => e _ _ (by omega) (by omega), (e _ _ (by omega) (by omega)).trans h9, (e _ _ (by omega) (by omega)).trans h10⟩, fun x k q => ⟨e x k (by omega) (by omega), e3 x k⟩⟩
  · obtain rfl : g.now = s := Option.some.inj hs
    exact h1.copy hg.1 fun k hk => (gI_ne (by omega)).trans ((gI_ne (by omega)).trans (e4 k hk))
  · rw [gI_ne (by omega), gI_same]; rfl
  · obtain ⟨a1, a2, a3⟩ := h6 u hu
    exact ⟨(e _ _ (by omega) (by omega)).trans a1, (e _ _ (by omega) (by omega)).trans a2, fun k hk => (e _ _ (by omega) (by omega)).trans (a3 k hk)⟩
theorem GV.img (hg : GV g) : GV g.img := by
  obtain ⟨g1, g2, g3, g4, g5⟩ := hg
  exact ⟨g1, fun s hs => by obtain rfl : g.now = s := Option.some.inj hs; exact g1, g3, g4, ⟨fun z => absurd z (Nat.succ_ne_zero _), fun z => absurd z (Option.some_ne_none _)⟩⟩
def spRest (g : GS) : Int32 × GS := match g.kept with
  | none => (iI (-1000000002), g.fail 2)
  | some s => (iI s.day, g.put s)
theorem c_restore (hc : CSt h g) (hg : GV g) (hI : g.images < 2147483648) : OPC h (f_X10_restore h) (spRest g).1 (spRest g).2 := by
  unfold f_X10_restore spRest
  obtain ⟨c1, c2, c3, -⟩ := id hc
  have e : (iI g.images = 0) = ((g.images : Int) = 0) := by rw [iI_zero]; exact iI_eq ⟨by omega, by omega⟩
  rw [c3]
  cases hk : g.kept with
  | none =>
    rw [if_neg (by rw [e]; have := hg.2.2.2.2.2 hk; omega), cal2_id]
    exact c_fail hc (e := 2) (by omega)
  | some s =>
    have hn : g.images ≠ 0 := fun z => by rw [hg.2.2.2.2.1 z] at hk; cases hk
    obtain ⟨-, -, -, -, -, -, -, -, -, -, -, -, w13, w14⟩ := id c1
    obtain ⟨m1, p1, p2, p3, p4⟩ := w_wcopy (Or.inr ⟨rfl, rfl⟩) (c2 s hk) (hg.2.1 s hk) w13 w14
    rw [if_pos (by rw [e]; omega), p1, cal_some, show gI m1 2 8 = iI s.day from p2.2.2.2.2.2.2.1]
    exact ⟨_, rfl, hc.now p2 (fun x k q => p3 x k (by omega)) (p4 _ _ (by omega)), fun x k q => ⟨p3 x k (by omega), p4 x k (by omega)⟩⟩
theorem m_restore (hm : MSt h g) (hg : GV g) : OPM h (f_X11_restore h) (spRest g).1 (spRest g).2 := by
  unfold f_X11_restore spRest
  obtain ⟨h1, h2', h3, h4, h5, h6, h7, h8, h9, h10⟩ := id hm
  rw [h3]
  cases hk : g.kept with
  | none =>
    rw [if_neg (by decide), cal2_id]
    exact c_errs hm hg (e := 2) (by omega)
  | some s =>
    obtain ⟨m1, e1, e2, e3, e4⟩ := m_copy (q1 := 74) (q2 := 73) (n1 := 305) (n2 := 305) (h := h) (by omega) (by omega) (by omega)
    have w : WM m1 73 s := (h2' s hk).copy (hg.2.1 s hk) e4
    rw [if_pos (show ¬ bn (some s).isSome = 0 by show ¬ bn true = 0; decide), e1, cal_some, ald_i (by omega) (by omega), show gI m1 73 (3 : Int).toNat = iI s.day from w.2.2.1]
    exact ⟨_, rfl, hm.now hg w fun x k q => e2 _ _ (by omega), fun x k q => ⟨e2 _ _ (by omega), e3 _ _⟩⟩
theorem GV.rest (hg : GV g) : GV (spRest g).2 := by
  unfold spRest
  cases hk : g.kept with
  | none => exact hg.fail 2
  | some s => exact ⟨hg.2.1 s hk, hg.2⟩
end IMAGEOP
