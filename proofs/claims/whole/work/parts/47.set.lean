section SETTERS
def WH.sca (s : WH) (t : Int) (d : Nat) (z : Int32) : WH := (s.R, s.C, s.K, s.M, s.S, s.T, s.L, t, d, z, s.tape, s.waits, s.code, s.text)
def WH.tap (s : WH) (l : List Int32) : WH := (s.R, s.C, s.K, s.M, s.S, s.T, s.L, s.tak, s.day, s.z, l, s.waits, s.code, s.text)
def WH.wai (s : WH) (l : List Int32) : WH := (s.R, s.C, s.K, s.M, s.S, s.T, s.L, s.tak, s.day, s.z, s.tape, l, s.code, s.text)
theorem WC.sca {h h2 : Mem} {a : Nat} {s : WH} {t : Int} {d : Nat} {z : Int32} (hw : WC h a s) (e : ∀ x k, a ≤ x → x ≤ a + 12 → (x ≠ a ∨ k = 4 ∨ k = 6) → gI h2 x k = gI h x k) (e2 : gL h2 (a + 1) 6 = gL h (a + 1) 6) (q7 : gI h2 a 7 = iI t) (q8 : gI h2 a 8 = iI d) (q9 : gI h2 a 9 = z) : WC h2 a (s.sca t d z) := by
  obtain ⟨h1, h2', h3, h4, h5, h6, h7, h8, h9, h10, h11, h12, h13, h14⟩ := hw
  exact ⟨hc_cong h1 (fun x k p q => e x k (by omega) (by omega) (by omega)) e2, (e _ _ (by omega) (by omega) (by omega)).trans h2', h3.cong fun k => e _ k (by omega) (by omega) (by omega), (e _ _ (by omega) (by omega) (by omega)).trans h4, h5.cong fun k => e _ k (by omega) (by omega) (by omega), q7, q8, q9, (e _ _ (by omega) (by omega) (by omega)).trans h9, h10.cong fun k => e _ k (by omega) (by omega) (by omega), (e _ _ (by omega) (by omega) (by omega)).trans h11, h12.cong fun k => e _ k (by omega) (by omega) (by omega), (e _ _ (by omega) (by omega) (by omega)).trans h13, (e _ _ (by omega) (by omega) (by omega)).trans h14⟩
theorem WC.tap {h h2 : Mem} {a : Nat} {s : WH} {l : List Int32} (hw : WC h a s) (e : ∀ x k, a ≤ x → x ≤ a + 12 → x ≠ a + 11 → (x ≠ a ∨ 6 ≤ k) → gI h2 x k = gI h x k) (e2 : gL h2 (a + 1) 6 = gL h (a + 1) 6) (q4 : gI h2 a 4 = iI l.length) (q11 : LSt h2 (a + 11) 0 l) : WC h2 a (s.tap l) := by
  obtain ⟨h1, h2', h3, h4, h5, h6, h7, h8, h9, h10, h11, h12, h13, h14⟩ := hw
  exact ⟨hc_cong h1 (fun x k p q => e x k (by omega) (by omega) (by omega) (by omega)) e2, q4, q11, (e _ _ (by omega) (by omega) (by omega) (by omega)).trans h4, h5.cong fun k => e _ k (by omega) (by omega) (by omega) (by omega), (e _ _ (by omega) (by omega) (by omega) (by omega)).trans h6, (e _ _ (by omega) (by omega) (by omega) (by omega)).trans h7, (e _ _ (by omega) (by omega) (by omega) (by omega)).trans h8, (e _ _ (by omega) (by omega) (by omega) (by omega)).trans h9, h10.cong fun k => e _ k (by omega) (by omega) (by omega) (by omega), (e _ _ (by omega) (by omega) (by omega) (by omega)).trans h11, h12.cong fun k => e _ k (by omega) (by omega) (by omega) (by omega), (e _ _ (by omega) (by omega) (by omega) (by omega)).trans h13, (e _ _ (by omega) (by omega) (by omega) (by omega)).trans h14⟩
theorem WC.wai {h h2 : Mem} {a : Nat} {s : WH} {l : List Int32} (hw : WC h a s) (e : ∀ x k, a ≤ x → x ≤ a + 12 → x ≠ a + 12 → (x ≠ a ∨ k ≠ 6) → gI h2 x k = gI h x k) (e2 : gL h2 (a + 1) 6 = gL h (a + 1) 6) (q4 : gI h2 a 6 = iI l.length) (q11 : LSt h2 (a + 12) 0 l) : WC h2 a (s.wai l) := by
  obtain ⟨h1, h2', h3, h4, h5, h6, h7, h8, h9, h10, h11, h12, h13, h14⟩ := hw
  exact ⟨hc_cong h1 (fun x k p q => e x k (by omega) (by omega) (by omega) (by omega)) e2, (e _ _ (by omega) (by omega) (by omega) (by omega)).trans h2', h3.cong fun k => e _ k (by omega) (by omega) (by omega) (by omega), q4, q11, (e _ _ (by omega) (by omega) (by omega) (by omega)).trans h6, (e _ _ (by omega) (by omega) (by omega) (by omega)).trans h7, (e _ _ (by omega) (by omega) (by omega) (by omega)).trans h8, (e _ _ (by omega) (by omega) (by omega) (by omega)).trans h9, h10.cong fun k => e _ k (by omega) (by omega) (by omega) (by omega), (e _ _ (by omega) (by omega) (by omega) (by omega)).trans h11, h12.cong fun k => e _ k (by omega) (by omega) (by omega) (by omega), (e _ _ (by omega) (by omega) (by omega) (by omega)).trans h13, (e _ _ (by omega) (by omega) (by omega) (by omega)).trans h14⟩
theorem tx_keep {h h2 : Mem} {r u : Nat} {t : Option (List Int32)} (hu : u < 2) (ht : TX h r u t) (h50 : ∀ l, t = some l → l.length ≤ 50) (e : ∀ k, (7 ≤ k ∧ k < 9) ∨ (205 ≤ k ∧ k < 305) → gI h2 r k = gI h r k) : TX h2 r u t := by
  cases t with
  | none => exact (e _ (by omega)).trans ht
  | some l => exact ⟨(e _ (by omega)).trans ht.1, fun k hk => (e _ (by have := h50 l rfl; omega)).trans (ht.2 k hk)⟩
theorem WM.sca {h h2 : Mem} {r : Nat} {s : WH} {t : Int} {d : Nat} {z : Int32} (hw : WM h r s) (hV : WV s) (e : ∀ k, k < 305 → k ≠ 2 → k ≠ 3 → k ≠ 4 → gI h2 r k = gI h r k) (q2 : gI h2 r 2 = iI t) (q3 : gI h2 r 3 = iI d) (q4 : gI h2 r 4 = z) : WM h2 r (s.sca t d z) := by
  obtain ⟨p1, p2, p3, p4, p5, p6, p7, p8, p9, p10⟩ := hw
  obtain ⟨-, -, -, -, v5, v6, -, v8⟩ := hV
  obtain ⟨a1, a2, a3⟩ := p1
  refine ⟨⟨(e _ (by omega) (by omega) (by omega) (by omega)).trans a1, (e _ (by omega) (by omega) (by omega) (by omega)).trans a2, fun q hq => ?_⟩, q2, q3, q4, (e _ (by omega) (by omega) (by omega) (by omega)).trans p5, fun k hk => (e _ (by have : k < s.tape.length := hk; omega) (by omega) (by omega) (by omega)).trans (p6 k hk), (e _ (by omega) (by omega) (by omega) (by omega)).trans p7, fun k hk => (e _ (by have : k < s.waits.length := hk; omega) (by omega) (by omega) (by omega)).trans (p8 k hk), tx_keep (by omega) p9 (v8 0) fun k hk => e k (by omega) (by omega) (by omega) (by omega), tx_keep (by omega) p10 (v8 1) fun k hk => e k (by omega) (by omega) (by omega) (by omega)⟩
  obtain ⟨b1, b2, b3, b4, b5⟩ := a3 q hq
  exact ⟨(e _ (by omega) (by omega) (by omega) (by omega)).trans b1, (e _ (by omega) (by omega) (by omega) (by omega)).trans b2, (e _ (by omega) (by omega) (by omega) (by omega)).trans b3, (e _ (by omega) (by omega) (by omega) (by omega)).trans b4, (e _ (by omega) (by omega) (by omega) (by omega)).trans b5⟩
theorem WM.tap {h h2 : Mem} {r : Nat} {s : WH} {l : List Int32} (hw : WM h r s) (hV : WV s) (e : ∀ k, k < 305 → k ≠ 5 → (k < 135 ∨ 185 ≤ k) → gI h2 r k = gI h r k) (q5 : gI h2 r 5 = iI l.length) (q6 : LSt h2 r 135 l) : WM h2 r (s.tap l) := by
  obtain ⟨p1, p2, p3, p4, p5, p6, p7, p8, p9, p10⟩ := hw
  obtain ⟨-, -, -, -, v5, v6, -, v8⟩ := hV
  obtain ⟨a1, a2, a3⟩ := p1
  refine ⟨⟨(e _ (by omega) (by omega) (by omega)).trans a1, (e _ (by omega) (by omega) (by omega)).trans a2, fun q hq => ?_⟩, (e _ (by omega) (by omega) (by omega)).trans p2, (e _ (by omega) (by omega) (by omega)).trans p3, (e _ (by omega) (by omega) (by omega)).trans p4, q5, q6, (e _ (by omega) (by omega) (by omega)).trans p7, fun k hk => (e _ (by have : k < s.waits.length := hk; omega) (by omega) (by omega)).trans (p8 k hk), tx_keep (by omega) p9 (v8 0) fun k hk => e k (by omega) (by omega) (by omega), tx_keep (by omega) p10 (v8 1) fun k hk => e k (by omega) (by omega) (by omega)⟩
  obtain ⟨b1, b2, b3, b4, b5⟩ := a3 q hq
  exact ⟨(e _ (by omega) (by omega) (by omega)).trans b1, (e _ (by omega) (by omega) (by omega)).trans b2, (e _ (by omega) (by omega) (by omega)).trans b3, (e _ (by omega) (by omega) (by omega)).trans b4, (e _ (by omega) (by omega) (by omega)).trans b5⟩
theorem WM.wai {h h2 : Mem} {r : Nat} {s : WH} {l : List Int32} (hw : WM h r s) (hV : WV s) (e : ∀ k, k < 305 → k ≠ 6 → (k < 185 ∨ 205 ≤ k) → gI h2 r k = gI h r k) (q5 : gI h2 r 6 = iI l.length) (q6 : LSt h2 r 185 l) : WM h2 r (s.wai l) := by
  obtain ⟨p1, p2, p3, p4, p5, p6, p7, p8, p9, p10⟩ := hw
  obtain ⟨-, -, -, -, v5, v6, -, v8⟩ := hV
  obtain ⟨a1, a2, a3⟩ := p1
  refine ⟨⟨(e _ (by omega) (by omega) (by omega)).trans a1, (e _ (by omega) (by omega) (by omega)).trans a2, fun q hq => ?_⟩, (e _ (by omega) (by omega) (by omega)).trans p2, (e _ (by omega) (by omega) (by omega)).trans p3, (e _ (by omega) (by omega) (by omega)).trans p4, (e _ (by omega) (by omega) (by omega)).trans p5, fun k hk => (e _ (by have : k < s.tape.length := hk; omega) (by omega) (by have : k < s.tape.length := hk; omega)).trans (p6 k hk), q5, q6, tx_keep (by omega) p9 (v8 0) fun k hk => e k (by omega) (by omega) (by omega), tx_keep (by omega) p10 (v8 1) fun k hk => e k (by omega) (by omega) (by omega)⟩
  obtain ⟨b1, b2, b3, b4, b5⟩ := a3 q hq
  exact ⟨(e _ (by omega) (by omega) (by omega)).trans b1, (e _ (by omega) (by omega) (by omega)).trans b2, (e _ (by omega) (by omega) (by omega)).trans b3, (e _ (by omega) (by omega) (by omega)).trans b4, (e _ (by omega) (by omega) (by omega)).trans b5⟩
theorem GV.sca {g : GS} {t : Int} {d : Nat} {z : Int32} (hg : GV g) (ht : -99999 ≤ t ∧ t ≤ 99999) (hd : d ≤ 9999) : GV (g.put (g.now.sca t d z)) := by
  obtain ⟨⟨v1, v2, v3, v4, v5, v6, v7, v8⟩, g2, g3, g4, g5⟩ := hg
  exact ⟨⟨v1, v2, ht, hd, v5, v6, v7, v8⟩, g2, g3, g4, g5⟩
theorem GV.tap {g : GS} {l : List Int32} (hg : GV g) (hl : l.length ≤ 50) : GV (g.put (g.now.tap l)) := by
  obtain ⟨⟨v1, v2, v3, v4, v5, v6, v7, v8⟩, g2, g3, g4, g5⟩ := hg
  exact ⟨⟨v1, v2, v3, v4, hl, v6, v7, v8⟩, g2, g3, g4, g5⟩
theorem GV.wai {g : GS} {l : List Int32} (hg : GV g) (hl : l.length ≤ 20) : GV (g.put (g.now.wai l)) := by
  obtain ⟨⟨v1, v2, v3, v4, v5, v6, v7, v8⟩, g2, g3, g4, g5⟩ := hg
  exact ⟨⟨v1, v2, v3, v4, v5, hl, v7, v8⟩, g2, g3, g4, g5⟩
theorem LSt.snoc {h h2 : Mem} {a i : Nat} {l : List Int32} {v : Int32} (hl : LSt h a i l) (e : ∀ k, k < l.length → gI h2 a (i + k) = gI h a (i + k)) (e2 : gI h2 a (i + l.length) = v) : LSt h2 a i (l ++ [v]) := fun k hk => by
  have hk1 : k < l.length + 1 := by rw [List.length_append] at hk; exact hk
  by_cases hk2 : k < l.length
  · rw [List.getElem_append_left hk2, e k hk2]; exact hl k hk2
  · obtain rfl : k = l.length := by omega
    rw [List.getElem_append_right (Nat.le_refl _), e2]; simp
/-! seed, tell -/
variable {h : Mem} {g : GS}
theorem c_seed {z : Int32} (hc : CSt h g) : OPC h (f_X10_seed h z) g.now.z (g.put (g.now.sca g.now.tak g.now.day z)) := by
  unfold f_X10_seed
  rw [nm_eq, nm_eq]
  obtain ⟨-, -, -, -, -, h6, h7, h8, -⟩ := hc.1
  rw [h8]
  exact ⟨_, rfl, hc.now (hc.1.sca (fun x k _ _ q => gI_ne (by omega)) rfl ((gI_ne (by omega)).trans h6) ((gI_ne (by omega)).trans h7) gI_same) (fun x k q => gI_ne (by omega)) rfl, fun x k q => ⟨gI_ne (by omega), rfl⟩⟩
theorem m_seed {z : Int32} (hm : MSt h g) (hg : GV g) : OPM h (f_X11_seed h z) g.now.z (g.put (g.now.sca g.now.tak g.now.day z)) := by
  unfold f_X11_seed
  obtain ⟨-, h2, h3, h4, -⟩ := hm.1
  rw [ald_i (by omega) (by omega), ast_i (by omega) (by omega), show gI h 73 (4 : Int).toNat = g.now.z from h4]
  exact ⟨_, rfl, hm.now hg (hm.1.sca hg.1 (fun k _ q2 q3 q4 => gI_ne (by omega)) ((gI_ne (by omega)).trans h2) ((gI_ne (by omega)).trans h3) gI_same) (fun x k q => gI_ne (by omega)), fun x k q => ⟨gI_ne (by omega), rfl⟩⟩
theorem GV.seed {z : Int32} (hg : GV g) : GV (g.put (g.now.sca g.now.tak g.now.day z)) := hg.sca hg.1.2.2.1 hg.1.2.2.2.1
def spTell (g : GS) (z : Int32) : Int32 × GS := if g.now.waits.length < 20 then (iI (g.now.waits.length + 1 : Nat), g.put (g.now.wai (g.now.waits ++ [z]))) else (iI (-1000000004), g.fail 4)
theorem c_tell {z : Int32} (hc : CSt h g) (hg : GV g) : OPC h (f_X10_tell h z) (spTell g z).1 (spTell g z).2 := by
  unfold f_X10_tell f_X9_addWaiting spTell
  have h6 : gI h 2 6 = iI g.now.waits.length := hc.1.2.2.2.1
  have h20 : g.now.waits.length ≤ 20 := hg.1.2.2.2.2.2.1
  have e : (iI g.now.waits.length < iI 20) = ((g.now.waits.length : Int) < 20) := iI_lt ⟨by omega, by omega⟩
  rw [h6]
  by_cases hl : g.now.waits.length < 20
  · rw [if_pos (by rw [e]; omega), if_pos hl, ast_i (by omega) (by omega), Int.toNat_natCast, nm_eq, rZ1, cal2_some, if_neg (by decide), gI_same, gI_ne (by omega), h6, iI_add]
    refine ⟨_, rfl, hc.now (hc.1.wai (fun x k _ _ q1 q2 => ?_) rfl ?_ ?_) (fun x k q => ?_) rfl, fun x k q => ⟨?_, rfl⟩⟩
    · rw [gI_ne (by omega), gI_ne (by omega)]
    · rw [gI_same, List.length_append]; rfl
    · refine hc.1.2.2.2.2.1.snoc (fun k hk => ?_) ?_
      · rw [gI_ne (by omega), gI_ne (by omega)]
      · rw [gI_ne (by omega), Nat.zero_add, gI_same]
    · rw [gI_ne (by omega), gI_ne (by omega)]
    · rw [gI_ne (by omega), gI_ne (by omega)]
  · rw [if_neg (by rw [e]; omega), if_neg hl, rZ0, cal2_some, if_pos (by decide), cal2_id]
    exact c_fail hc (e := 4) (by omega)
theorem m_tell {z : Int32} (hm : MSt h g) (hg : GV g) : OPM h (f_X11_tell h z) (spTell g z).1 (spTell g z).2 := by
  unfold f_X11_tell spTell
  have h6 : gI h 73 6 = iI g.now.waits.length := hm.1.2.2.2.2.2.2.1
  have h20 : g.now.waits.length ≤ 20 := hg.1.2.2.2.2.2.1
  have e : (iI g.now.waits.length = iI 20) = ((g.now.waits.length : Int) = 20) := iI_eq ⟨by omega, by omega⟩
  rw [ald_i (by omega) (by omega), show (6 : Int).toNat = 6 from rfl, h6]
  by_cases hl : g.now.waits.length < 20
  · rw [if_pos (by rw [e]; omega), if_pos hl, ald_i (by omega) (by omega), show (6 : Int).toNat = 6 from rfl, h6, iI_add, ast_i (by omega) (by omega), ald_i (by omega) (by omega), ast_i (by omega) (by omega), ald_i (by omega) (by omega), show (6 : Int).toNat = 6 from rfl, show ((185 : Int) + (g.now.waits.length : Int)).toNat = 185 + g.now.waits.length by omega, gI_same, gI_ne (by omega), h6, iI_add]
    refine ⟨_, rfl, hm.now hg (hm.1.wai hg.1 (fun k _ q1 q2 => ?_) ?_ ?_) (fun x k q => ?_), fun x k q => ⟨?_, rfl⟩⟩
    · rw [gI_ne (by omega), gI_ne (by omega)]
    · rw [gI_same, List.length_append]; rfl
    · refine hm.1.2.2.2.2.2.2.2.1.snoc (fun k hk => ?_) ?_
      · rw [gI_ne (by omega), gI_ne (by omega)]
      · rw [gI_ne (by omega), gI_same]
    · rw [gI_ne (by omega), gI_ne (by omega)]
    · rw [gI_ne (by omega), gI_ne (by omega)]
  · rw [if_neg (by rw [e]; omega), if_neg hl, cal2_id]
    exact c_errs hm hg (e := 4) (by omega)
theorem GV.tell {z : Int32} (hg : GV g) : GV (spTell g z).2 := by
  unfold spTell
  split
  · exact hg.wai (by rw [List.length_append]; show g.now.waits.length + 1 ≤ 20; omega)
  · exact hg.fail 4
end SETTERS
