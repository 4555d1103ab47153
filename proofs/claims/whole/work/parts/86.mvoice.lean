section MVOICE
variable {h : Mem} {g : GS} {k0 q n : Nat} {F k p : Nat} {v r : Int32} {l : List Int32}
abbrev SPM (k0 q n : Nat) (o : Mem → Option (Int32 × Mem)) (v : Int32) (l : List Int32) : Prop := SPK 72 88 40 k0 q n o v l
theorem spm_ran {o o1 : Mem → Option (Int32 × Mem)} (hp : p < 100) (h1 : SPM k0 q n o1 r l) (e : ∀ h, o h = cal (f_X11_ran h (iI p)) fun h2 => o1 h2) : SPM k0 q n o r (iI p :: l) := fun h tr hV hl => by
  have c1 : gI h 72 40 = iI tr.length := hV.1
  have hl' : tr.length + (l.length + 1) ≤ 40 := hl
  have e1 : (iI 40 ≤ iI tr.length) = ((40 : Int) ≤ tr.length) := iI_le ⟨by omega, by omega⟩
  obtain ⟨hV2, hF2⟩ := hV.push (w := iI p) (by omega)
  obtain ⟨h2, w1, w2, w3⟩ := h1 _ _ hV2 (by rw [List.length_append]; show tr.length + 1 + l.length ≤ 40; omega)
  rw [e]
  unfold f_X11_ran
  rw [c1, if_neg (by rw [e1]; omega), ast_i (by omega) (by omega), Int.toNat_natCast, nm_eq, gI_ne (by omega), c1, show iI tr.length + iI 1 = iI ((tr.length : Int) + 1) from iI_add _ _, cal_some, w1]
  exact ⟨h2, rfl, by rw [show tr ++ iI p :: l = tr ++ [iI p] ++ l by simp]; exact w2, hF2.tr w3⟩
theorem spm_own {o : Int32 → Mem → Option (Int32 × Mem)} (h1 : SPM k0 q n (o (iI k0)) r l) : SPM k0 q n (fun h => o (gI h 72 41) h) r l := fun h tr hV hl => by
  show ∃ h2, o (gI h 72 41) h = some (r, h2) ∧ _
  rw [show gI h 72 41 = iI k0 from hV.2.2.1]
  exact h1 h tr hV hl
theorem iI_nz {k : Nat} (hk : k < 100) : (iI k = 0) = (k = 0) := by
  rw [show (iI k = 0) = ((k : Int) = 0) by rw [iI_zero]; exact iI_eq ⟨by omega, by omega⟩]
  exact propext ⟨fun e => by omega, fun e => by omega⟩
theorem iI_ns {k : Nat} {j : Int} (hk : k < 100) (hj : 0 ≤ j ∧ j < 100) (e : (k : Int) ≠ j) : ¬ iI k = iI j := iI_ne (by omega) (by omega) e
/-! casts -/
theorem mc_0 (hF : 0 < F) : SPM k0 q n (g_CASTS F 0 (iI 0) v) (v + iI q) [iI 10] := by
  obtain ⟨N, rfl⟩ : ∃ N, F = N + 1 := ⟨F - 1, by omega⟩
  refine spm_ran (p := 10) (o1 := fun h7 => some (v + gI h7 72 42, h7)) (by omega) (spk_nil fun h tr hV => ?_) fun h => ?_
  · show some (v + gI h 72 42, h) = _
    rw [show gI h 72 42 = iI q from hV.2.2.2.1]
  · show b_X11_casts (g_CASTS N) (iI 0) v h = _
    unfold b_X11_casts
    rw [if_neg (by decide)]; rfl
theorem mc_2 (hF : 1 < F) : SPM k0 q n (g_CASTS F 0 (iI 2) v) ((v + iI q) * iI 3) [iI 30, iI 10] := by
  obtain ⟨N, rfl⟩ : ∃ N, F = N + 1 := ⟨F - 1, by omega⟩
  refine spm_ran (p := 30) (o1 := fun h => cal2 (g_CASTS N 0 (iI 0) v h) fun v5 h6 => some (v5 * iI 3, h6)) (by omega) (spk_one (f := fun a => a * iI 3) (mc_0 (F := N) (by omega)) fun h h2 tr hV e => ?_) fun h => ?_
  · show cal2 (g_CASTS N 0 (iI 0) v h) _ = _
    rw [e, cal2_some]
  · show b_X11_casts (g_CASTS N) (iI 2) v h = _
    unfold b_X11_casts
    rw [if_pos (by decide), if_neg (by decide)]; rfl
theorem mc_up (hF : 0 < F) (hk : k ≤ 6) (h0 : k ≠ 0) (h2 : k ≠ 2) (hp : abv k = p) (hw : SPM k0 q n (g_CASTS (F - 1) 0 (iI p) v) r l) : SPM k0 q n (g_CASTS F 0 (iI k) v) r l := by
  obtain ⟨N, rfl⟩ : ∃ N, F = N + 1 := ⟨F - 1, by omega⟩
  rw [Nat.add_sub_cancel] at hw
  refine spk_one (f := fun a => a) hw fun h h3 tr hV e => ?_
  show b_X11_casts (g_CASTS N) (iI k) v h = _
  unfold b_X11_casts
  rw [if_pos (by rw [iI_nz (by omega)]; exact h0), if_pos (iI_ns (j := 2) (by omega) (by omega) (by omega)), m_above hk, cal_some, hp, e, cal2_some]
theorem mc (hF : 5 ≤ F) (hk : k ≤ 6) : SPM k0 q n (g_CASTS F 0 (iI k) v) (caV q k v) (caL k) := by
  unfold caV caL
  rcases (show k = 0 ∨ k = 1 ∨ k = 2 ∨ k = 3 ∨ k = 4 ∨ k = 5 ∨ k = 6 by omega) with rfl | rfl | rfl | rfl | rfl | rfl | rfl
  · exact mc_0 (by omega)
  · exact mc_up (p := 0) (by omega) (by omega) (by omega) (by omega) rfl (mc_0 (by omega))
  · exact mc_2 (by omega)
  · exact mc_up (p := 0) (by omega) (by omega) (by omega) (by omega) rfl (mc_0 (by omega))
  · exact mc_up (p := 1) (by omega) (by omega) (by omega) (by omega) rfl (mc_up (p := 0) (by omega) (by omega) (by omega) (by omega) rfl (mc_0 (by omega)))
  · exact mc_up (p := 1) (by omega) (by omega) (by omega) (by omega) rfl (mc_up (p := 0) (by omega) (by omega) (by omega) (by omega) rfl (mc_0 (by omega)))
  · exact mc_up (p := 2) (by omega) (by omega) (by omega) (by omega) rfl (mc_2 (by omega))
/-! light -/
theorem ml_0 (hF : 0 < F) : SPM k0 q n (g_LIGHT F 0 (iI 0) v) (v - iI n) [iI 12] := by
  obtain ⟨N, rfl⟩ : ∃ N, F = N + 1 := ⟨F - 1, by omega⟩
  refine spm_ran (p := 12) (o1 := fun h7 => some (v - gI h7 72 43, h7)) (by omega) (spk_nil fun h tr hV => ?_) fun h => ?_
  · show some (v - gI h 72 43, h) = _
    rw [show gI h 72 43 = iI n from hV.2.2.2.2]
  · show b_X11_lightsBy (g_LIGHT N) (iI 0) v h = _
    unfold b_X11_lightsBy
    rw [if_neg (by decide)]; rfl
theorem ml_up (hF : 0 < F) (hk : k ≤ 6) (h0 : k ≠ 0) (h3 : k ≠ 3) (h6 : k ≠ 6) (hp : abv k = p) (hw : SPM k0 q n (g_LIGHT (F - 1) 0 (iI p) v) r l) : SPM k0 q n (g_LIGHT F 0 (iI k) v) r l := by
  obtain ⟨N, rfl⟩ : ∃ N, F = N + 1 := ⟨F - 1, by omega⟩
  rw [Nat.add_sub_cancel] at hw
  refine spk_one (f := fun a => a) hw fun h h4 tr hV e => ?_
  show b_X11_lightsBy (g_LIGHT N) (iI k) v h = _
  unfold b_X11_lightsBy
  rw [if_pos (by rw [iI_nz (by omega)]; exact h0), if_pos (iI_ns (j := 3) (by omega) (by omega) (by omega)), if_pos (iI_ns (j := 6) (by omega) (by omega) (by omega)), m_above hk, cal_some, hp, e, cal2_some]
theorem ml_3 (hF : 1 < F) : SPM k0 q n (g_LIGHT F 0 (iI 3) v) (-(v - iI n)) [iI 40, iI 12] := by
  obtain ⟨N, rfl⟩ : ∃ N, F = N + 1 := ⟨F - 1, by omega⟩
  refine spm_ran (p := 40) (o1 := fun h => cal2 (g_LIGHT N 0 (iI 0) v h) fun v5 h6 => some (-v5, h6)) (by omega) (spk_one (f := fun a => -a) (ml_0 (F := N) (by omega)) fun h h2 tr hV e => ?_) fun h => ?_
  · show cal2 (g_LIGHT N 0 (iI 0) v h) _ = _
    rw [e, cal2_some]
  · show b_X11_lightsBy (g_LIGHT N) (iI 3) v h = _
    unfold b_X11_lightsBy
    rw [if_pos (by decide), if_neg (by decide)]; rfl
theorem ml_2 (hF : 1 < F) : SPM k0 q n (g_LIGHT F 0 (iI 2) v) (v - iI n) [iI 12] := ml_up (k := 2) (p := 0) (by omega) (by omega) (by omega) (by omega) (by omega) rfl (ml_0 (by omega))
theorem ml_6 (hF : 2 < F) : SPM k0 q n (g_LIGHT F 0 (iI 6) v) ((v - iI n) ^^^ iI q) [iI 70, iI 12] := by
  obtain ⟨N, rfl⟩ : ∃ N, F = N + 1 := ⟨F - 1, by omega⟩
  refine spm_ran (p := 70) (o1 := fun h => cal2 (g_LIGHT N 0 (iI 2) v h) fun v5 h6 => some (v5 ^^^ gI h6 72 42, h6)) (by omega) (spk_one (f := fun a => a ^^^ iI q) (ml_2 (F := N) (by omega)) fun h h2 tr hV e => ?_) fun h => ?_
  · show cal2 (g_LIGHT N 0 (iI 2) v h) _ = _
    rw [e, cal2_some, show gI h2 72 42 = iI q from hV.2.2.2.1]
  · show b_X11_lightsBy (g_LIGHT N) (iI 6) v h = _
    unfold b_X11_lightsBy
    rw [if_pos (by decide), if_pos (by decide), if_neg (by decide)]; rfl
theorem ml (hF : 5 ≤ F) (hk : k ≤ 6) : SPM k0 q n (g_LIGHT F 0 (iI k) v) (liV q n k v) (liL k) := by
  unfold liV liL
  rcases (show k = 0 ∨ k = 1 ∨ k = 2 ∨ k = 3 ∨ k = 4 ∨ k = 5 ∨ k = 6 by omega) with rfl | rfl | rfl | rfl | rfl | rfl | rfl
  · exact ml_0 (by omega)
  · exact ml_up (p := 0) (by omega) (by omega) (by omega) (by omega) (by omega) rfl (ml_0 (by omega))
  · exact ml_2 (by omega)
  · exact ml_3 (by omega)
  · exact ml_up (p := 1) (by omega) (by omega) (by omega) (by omega) (by omega) rfl (ml_up (p := 0) (by omega) (by omega) (by omega) (by omega) (by omega) rfl (ml_0 (by omega)))
  · exact ml_up (p := 1) (by omega) (by omega) (by omega) (by omega) (by omega) rfl (ml_up (p := 0) (by omega) (by omega) (by omega) (by omega) (by omega) rfl (ml_0 (by omega)))
  · exact ml_6 (by omega)
/-! turns -/
theorem mt_0 (hF : 0 < F) (h0 : k0 ≤ 6) : SPM k0 q n (g_TURNS F 0 (iI 0) v) (t0V q k0 v) (t0L k0) := by
  obtain ⟨N, rfl⟩ : ∃ N, F = N + 1 := ⟨F - 1, by omega⟩
  refine spm_ran (p := 11) (o1 := fun h => cal2 (g_CASTS 8 0 (gI h 72 41) v h) fun v13 h14 => some (v13 * iI 2, h14)) (by omega) (spk_one (f := fun a => a * iI 2) (spm_own (o := fun z => g_CASTS 8 0 z v) (mc (F := 8) (by omega) h0)) fun h h2 tr hV e => ?_) fun h => ?_
  · show cal2 (g_CASTS 8 0 (gI h 72 41) v h) _ = _
    rw [show g_CASTS 8 0 (gI h 72 41) v h = some (caV q k0 v, h2) from e, cal2_some]
  · show b_X11_turnsBy (g_TURNS N) (iI 0) v h = _
    unfold b_X11_turnsBy
    rw [if_neg (by decide)]; rfl
theorem mt_1 (hF : 1 < F) (h0 : k0 ≤ 6) : SPM k0 q n (g_TURNS F 0 (iI 1) v) (t2V q n k0 v) (t2L k0) := by
  obtain ⟨N, rfl⟩ : ∃ N, F = N + 1 := ⟨F - 1, by omega⟩
  refine spm_ran (p := 20) (o1 := fun h7 => cal2 (g_TURNS N 0 (iI 0) v h7) fun v8 h9 => cal2 (g_LIGHT 8 0 (gI h9 72 41) (iI 1) h9) fun v10 h11 => some (v8 - v10, h11)) (by omega) (spk_two (f := fun a b => a - b) (mt_0 (F := N) (by omega) h0) (spm_own (o := fun z => g_LIGHT 8 0 z (iI 1)) (ml (F := 8) (by omega) h0)) fun h => rfl) fun h => ?_
  show b_X11_turnsBy (g_TURNS N) (iI 1) v h = _
  unfold b_X11_turnsBy
  rw [if_pos (by decide), if_neg (by decide)]; rfl
theorem mt_4 (hF : 2 < F) (h0 : k0 ≤ 6) : SPM k0 q n (g_TURNS F 0 (iI 4) v) (t2V q n k0 (v + iI 1)) (iI 50 :: t2L k0) := by
  obtain ⟨N, rfl⟩ : ∃ N, F = N + 1 := ⟨F - 1, by omega⟩
  refine spm_ran (p := 50) (o1 := fun h => cal2 (g_TURNS N 0 (iI 1) (v + iI 1) h) fun v5 h6 => some (v5, h6)) (by omega) (spk_one (f := fun a => a) (mt_1 (F := N) (by omega) h0) fun h h2 tr hV e => ?_) fun h => ?_
  · show cal2 (g_TURNS N 0 (iI 1) (v + iI 1) h) _ = _
    rw [e, cal2_some]
  · show b_X11_turnsBy (g_TURNS N) (iI 4) v h = _
    unfold b_X11_turnsBy
    rw [if_pos (by decide), if_pos (by decide), if_neg (by decide)]; rfl
theorem mt_up (hF : 0 < F) (hk : k ≤ 6) (h0 : k ≠ 0) (h3 : k ≠ 1) (h6 : k ≠ 4) (hp : abv k = p) (hw : SPM k0 q n (g_TURNS (F - 1) 0 (iI p) v) r l) : SPM k0 q n (g_TURNS F 0 (iI k) v) r l := by
  obtain ⟨N, rfl⟩ : ∃ N, F = N + 1 := ⟨F - 1, by omega⟩
  rw [Nat.add_sub_cancel] at hw
  refine spk_one (f := fun a => a) hw fun h h4 tr hV e => ?_
  show b_X11_turnsBy (g_TURNS N) (iI k) v h = _
  unfold b_X11_turnsBy
  rw [if_pos (by rw [iI_nz (by omega)]; exact h0), if_pos (iI_ns (j := 1) (by omega) (by omega) (by omega)), if_pos (iI_ns (j := 4) (by omega) (by omega) (by omega)), m_above hk, cal_some, hp, e, cal2_some]
theorem mt_2 (hF : 1 < F) (h0 : k0 ≤ 6) : SPM k0 q n (g_TURNS F 0 (iI 2) v) (t0V q k0 v) (t0L k0) := mt_up (k := 2) (p := 0) (by omega) (by omega) (by omega) (by omega) (by omega) rfl (mt_0 (by omega) h0)
theorem mt (hF : 5 ≤ F) (h0 : k0 ≤ 6) (hk : k ≤ 6) : SPM k0 q n (g_TURNS F 0 (iI k) v) (tuV q n k0 k v) (tuL k0 k) := by
  unfold tuV tuL
  rcases (show k = 0 ∨ k = 1 ∨ k = 2 ∨ k = 3 ∨ k = 4 ∨ k = 5 ∨ k = 6 by omega) with rfl | rfl | rfl | rfl | rfl | rfl | rfl
  · exact mt_0 (by omega) h0
  · exact mt_1 (by omega) h0
  · exact mt_2 (by omega) h0
  · exact mt_up (p := 0) (by omega) (by omega) (by omega) (by omega) (by omega) rfl (mt_0 (by omega) h0)
  · exact mt_4 (by omega) h0
  · exact mt_up (p := 1) (by omega) (by omega) (by omega) (by omega) (by omega) rfl (mt_1 (by omega) h0)
  · exact mt_up (p := 2) (by omega) (by omega) (by omega) (by omega) (by omega) rfl (mt_2 (by omega) h0)
/-! tells -/
theorem me_0 (hF : 0 < F) (h0 : k0 ≤ 6) : SPM k0 q n (g_TELLS F 0 (iI 0) v) (e0V q n k0 v) (e0L k0) := by
  obtain ⟨N, rfl⟩ : ∃ N, F = N + 1 := ⟨F - 1, by omega⟩
  refine spm_ran (p := 13) (o1 := fun h14 => cal2 (g_TURNS 8 0 (gI h14 72 41) v h14) fun v15 h16 => cal2 (g_LIGHT 8 0 (gI h16 72 41) v h16) fun v17 h18 => some (v15 ^^^ v17, h18)) (by omega) (spk_two (f := fun a b => a ^^^ b) (spm_own (o := fun z => g_TURNS 8 0 z v) (mt (F := 8) (by omega) h0 h0)) (spm_own (o := fun z => g_LIGHT 8 0 z v) (ml (F := 8) (by omega) h0)) fun h => rfl) fun h => ?_
  show b_X11_tellsBy (g_TELLS N) (iI 0) v h = _
  unfold b_X11_tellsBy
  rw [if_neg (by decide)]; rfl
theorem me_up (hF : 0 < F) (hk : k ≤ 6) (h0 : k ≠ 0) (h3 : k ≠ 5) (h6 : k ≠ 6) (hp : abv k = p) (hw : SPM k0 q n (g_TELLS (F - 1) 0 (iI p) v) r l) : SPM k0 q n (g_TELLS F 0 (iI k) v) r l := by
  obtain ⟨N, rfl⟩ : ∃ N, F = N + 1 := ⟨F - 1, by omega⟩
  rw [Nat.add_sub_cancel] at hw
  refine spk_one (f := fun a => a) hw fun h h4 tr hV e => ?_
  show b_X11_tellsBy (g_TELLS N) (iI k) v h = _
  unfold b_X11_tellsBy
  rw [if_pos (by rw [iI_nz (by omega)]; exact h0), if_pos (iI_ns (j := 5) (by omega) (by omega) (by omega)), if_pos (iI_ns (j := 6) (by omega) (by omega) (by omega)), m_above hk, cal_some, hp, e, cal2_some]
theorem me_1 (hF : 1 < F) (h0 : k0 ≤ 6) : SPM k0 q n (g_TELLS F 0 (iI 1) v) (e0V q n k0 v) (e0L k0) := me_up (k := 1) (p := 0) (by omega) (by omega) (by omega) (by omega) (by omega) rfl (me_0 (by omega) h0)
theorem me_2 (hF : 1 < F) (h0 : k0 ≤ 6) : SPM k0 q n (g_TELLS F 0 (iI 2) v) (e0V q n k0 v) (e0L k0) := me_up (k := 2) (p := 0) (by omega) (by omega) (by omega) (by omega) (by omega) rfl (me_0 (by omega) h0)
theorem me_5 (hF : 2 < F) (h0 : k0 ≤ 6) : SPM k0 q n (g_TELLS F 0 (iI 5) v) (e0V q n k0 v - caV q k0 (iI 2)) (iI 60 :: (e0L k0 ++ caL k0)) := by
  obtain ⟨N, rfl⟩ : ∃ N, F = N + 1 := ⟨F - 1, by omega⟩
  refine spm_ran (p := 60) (o1 := fun h9 => cal2 (g_TELLS N 0 (iI 1) v h9) fun v10 h11 => cal2 (g_CASTS 8 0 (gI h11 72 41) (iI 2) h11) fun v12 h13 => some (v10 - v12, h13)) (by omega) (spk_two (f := fun a b => a - b) (me_1 (F := N) (by omega) h0) (spm_own (o := fun z => g_CASTS 8 0 z (iI 2)) (mc (F := 8) (by omega) h0)) fun h => rfl) fun h => ?_
  show b_X11_tellsBy (g_TELLS N) (iI 5) v h = _
  unfold b_X11_tellsBy
  rw [if_pos (by decide), if_neg (by decide)]; rfl
theorem me_6 (hF : 2 < F) (h0 : k0 ≤ 6) : SPM k0 q n (g_TELLS F 0 (iI 6) v) (tuV q n k0 k0 v - e0V q n k0 v) (iI 71 :: (tuL k0 k0 ++ e0L k0)) := by
  obtain ⟨N, rfl⟩ : ∃ N, F = N + 1 := ⟨F - 1, by omega⟩
  refine spm_ran (p := 71) (o1 := fun h4 => cal2 (g_TURNS 8 0 (gI h4 72 41) v h4) fun v5 h6 => cal2 (g_TELLS N 0 (iI 2) v h6) fun v7 h8 => some (v5 - v7, h8)) (by omega) (spk_two (f := fun a b => a - b) (spm_own (o := fun z => g_TURNS 8 0 z v) (mt (F := 8) (by omega) h0 h0)) (me_2 (F := N) (by omega) h0) fun h => rfl) fun h => ?_
  show b_X11_tellsBy (g_TELLS N) (iI 6) v h = _
  unfold b_X11_tellsBy
  rw [if_pos (by decide), if_pos (by decide), if_neg (by decide)]; rfl
theorem me (hF : 5 ≤ F) (h0 : k0 ≤ 6) (hk : k ≤ 6) : SPM k0 q n (g_TELLS F 0 (iI k) v) (teV q n k0 k v) (teL k0 k) := by
  unfold teV teL
  rcases (show k = 0 ∨ k = 1 ∨ k = 2 ∨ k = 3 ∨ k = 4 ∨ k = 5 ∨ k = 6 by omega) with rfl | rfl | rfl | rfl | rfl | rfl | rfl
  · exact me_0 (by omega) h0
  · exact me_1 (by omega) h0
  · exact me_2 (by omega) h0
  · exact me_up (p := 0) (by omega) (by omega) (by omega) (by omega) (by omega) rfl (me_0 (by omega) h0)
  · exact me_up (p := 1) (by omega) (by omega) (by omega) (by omega) (by omega) rfl (me_1 (by omega) h0)
  · exact me_5 (by omega) h0
  · exact me_6 (by omega) h0
theorem MSt.trc {h2 : Mem} {l : List Int32} (hm : MSt h g) (hg : GV g) (e : ∀ x k, ((x = 73 ∨ x = 74) ∧ k < 305) ∨ x = 77 ∨ (83 ≤ x ∧ x ≤ 85) ∨ (x = 72 ∧ (k = 4 ∨ k = 5 ∨ k = 12 ∨ k = 13)) → gI h2 x k = gI h x k) (t1 : gI h2 72 40 = iI l.length) (t2 : LSt h2 88 0 l) : MSt h2 (g.trc l) := by
  obtain ⟨h1, h2', h3, h4, h5, h6, h7, h8, h9, h10⟩ := hm
  refine ⟨h1.copy hg.1 fun k hk => e _ _ (by omega), fun s hs => (h2' s hs).copy (hg.2.1 s hs) fun k hk => e _ _ (by omega), (e _ _ (by omega)).trans h3, (e _ _ (by omega)).trans h4, fun n p q => (e _ _ (by omega)).trans (h5 n p q), fun u hu => ?_, t1, t2, (e _ _ (by omega)).trans h9, (e _ _ (by omega)).trans h10⟩
  obtain ⟨a1, a2, a3⟩ := h6 u hu
  exact ⟨(e _ _ (by omega)).trans a1, (e _ _ (by omega)).trans a2, fun k hk => (e _ _ (by omega)).trans (a3 k hk)⟩
def voM (m : Int) (v : Int32) (h : Mem) : Option (Int32 × Mem) :=
  if iI m = iI 0 then g_CASTS 8 0 (gI h 72 41) v h else if iI m = iI 1 then g_TURNS 8 0 (gI h 72 41) v h else if iI m = iI 2 then g_LIGHT 8 0 (gI h 72 41) v h else g_TELLS 8 0 (gI h 72 41) v h
theorem sm_voice {m : Int} (h0 : k0 ≤ 6) (hm : 0 ≤ m ∧ m ≤ 3) : SPM k0 q n (voM m v) (voV q n k0 m v) (voL k0 m) := by
  unfold voV voL voM
  rcases (show m = 0 ∨ m = 1 ∨ m = 2 ∨ m = 3 by omega) with rfl | rfl | rfl | rfl
  · simp only [if_pos]
    exact spm_own (o := fun z => g_CASTS 8 0 z v) (mc (by omega) h0)
  · simp only [show ¬ (iI 1 = iI 0) by decide, show ¬ ((1 : Int) = 0) by decide, if_neg, if_pos, not_false_eq_true]
    exact spm_own (o := fun z => g_TURNS 8 0 z v) (mt (by omega) h0 h0)
  · simp only [show ¬ (iI 2 = iI 0) by decide, show ¬ (iI 2 = iI 1) by decide, show ¬ ((2 : Int) = 0) by decide, show ¬ ((2 : Int) = 1) by decide, if_neg, if_pos, not_false_eq_true]
    exact spm_own (o := fun z => g_LIGHT 8 0 z v) (ml (by omega) h0)
  · simp only [show ¬ (iI 3 = iI 0) by decide, show ¬ (iI 3 = iI 1) by decide, show ¬ (iI 3 = iI 2) by decide, show ¬ ((3 : Int) = 0) by decide, show ¬ ((3 : Int) = 1) by decide, show ¬ ((3 : Int) = 2) by decide, if_neg, not_false_eq_true]
    exact spm_own (o := fun z => g_TELLS 8 0 z v) (me (by omega) h0 h0)
theorem m_speak {x m : Int} (hm' : MSt h g) (hg : GV g) (hx : 0 ≤ x ∧ x < (g.now.R * g.now.C : Nat)) (hm : 0 ≤ m ∧ m ≤ 3) : OPM h (voM m v (sI (sI (sI (sI h 72 40 (iI 0)) 72 41 (iI (g.now.K x.toNat))) 72 42 (iI x)) 72 43 (iI (g.now.M x.toNat)))) (voV x.toNat (g.now.M x.toNat) (g.now.K x.toNat) m v) (g.trc (voL (g.now.K x.toNat) m)) := by
  obtain ⟨v1, v2, v3, v4, vK, vM⟩ := id hg.1.1
  have h0 := vK x.toNat
  obtain ⟨h2, w1, w2, w3⟩ := sm_voice (q := x.toNat) (n := g.now.M x.toNat) (v := v) h0 hm (sI (sI (sI (sI h 72 40 (iI 0)) 72 41 (iI (g.now.K x.toNat))) 72 42 (iI x)) 72 43 (iI (g.now.M x.toNat))) [] ⟨by rw [gI_ne (by omega), gI_ne (by omega), gI_ne (by omega), gI_same]; rfl, fun k hk => absurd hk (by simp), by rw [gI_ne (by omega), gI_ne (by omega), gI_same], by rw [gI_ne (by omega), gI_same, Int.toNat_of_nonneg hx.1], by rw [gI_same]⟩ (by have := voL_len (m := m) h0; rw [List.length_nil]; omega)
  refine ⟨h2, w1, ?_, fun a k ha => ⟨?_, ?_⟩⟩
  · refine hm'.trc hg (fun a k ha => ?_) w2.1 w2.2.1
    rw [w3.1 a k (by omega) (by omega), gI_ne (by omega), gI_ne (by omega), gI_ne (by omega), gI_ne (by omega)]
  · rw [w3.1 a k (by omega) (by omega), gI_ne (by omega), gI_ne (by omega), gI_ne (by omega), gI_ne (by omega)]
  · rw [w3.2 a k]; rfl
theorem m_voice {x m : Int} (hm' : MSt h g) (hg : GV g) (hx : -2147483648 ≤ x ∧ x < 2147483648) (hm : -2147483648 ≤ m ∧ m < 2147483648) : OPM h (f_X11_voice h (iI x) (iI m) v) (spVoice g x m v).1 (spVoice g x m v).2 := by
  obtain ⟨v1, v2, v3, v4, vK, vM⟩ := id hg.1.1
  have hRC : g.now.R * g.now.C ≤ 5 * 5 := Nat.mul_le_mul v2 v4
  unfold f_X11_voice spVoice
  rw [m_isSquare hm'.1.1 hg.1.1 hx, cal_some, join_eq]
  by_cases e : 0 ≤ x ∧ x < (g.now.R * g.now.C : Nat)
  · rw [decide_eq_true e, bn_true, if_neg (by decide), m_in hm (by omega) (by omega), cal_some]
    by_cases e2 : 0 ≤ m ∧ m ≤ 3
    · have hK := (hm'.1.1.2.2 x.toNat (by omega)).1
      have hM := (hm'.1.1.2.2 x.toNat (by omega)).2.1
      have ex : iI x = iI ((x.toNat : Nat) : Int) := by rw [Int.toNat_of_nonneg e.1]
      rw [decide_eq_true e2, bn_true, if_pos (by decide), if_pos ⟨e, e2⟩, nm_eq, ex, m_its0 (by omega), cal_some, gI_ne (by omega), hK, nm_eq, nm_eq, m_its1 (by omega), cal_some, gI_ne (by omega), gI_ne (by omega), gI_ne (by omega), hM, nm_eq]
      simp only [cal2_id]
      rw [← ex]
      exact m_speak hm' hg e e2
    · rw [decide_eq_false e2, bn_false, if_neg (by decide), if_neg (fun z => e2 z.2), cal2_id]
      exact c_errs hm' hg (e := 1) (by omega)
  · rw [decide_eq_false e, bn_false, if_pos (by decide), if_neg (fun z => e z.1), cal2_id]
    exact c_errs hm' hg (e := 1) (by omega)
end MVOICE
