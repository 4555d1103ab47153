section CVOICE
variable {h : Mem} {g : GS} {k0 q n : Nat} {F k d : Nat} {v r : Int32} {l : List Int32}
abbrev SPC (k0 q n : Nat) (o : Mem → Option (Int32 × Mem)) (v : Int32) (l : List Int32) : Prop := SPK 37 38 1 k0 q n o v l
theorem wk10 (hF : 0 < F) : SPC k0 q n (g_VOICE F 1 (iI 10) v (iI d) (iI 0)) (v + iI q) [] := by
  obtain ⟨N, rfl⟩ : ∃ N, F = N + 1 := ⟨F - 1, by omega⟩
  refine spk_nil fun h tr hV => ?_
  show b_X8_worked (g_VOICE N) (iI 10) v (iI d) h = _
  unfold b_X8_worked
  rw [if_pos rfl, show gI h 37 3 = iI q from hV.2.2.2.1]
theorem wk12 (hF : 0 < F) : SPC k0 q n (g_VOICE F 1 (iI 12) v (iI d) (iI 0)) (v - iI n) [] := by
  obtain ⟨N, rfl⟩ : ∃ N, F = N + 1 := ⟨F - 1, by omega⟩
  refine spk_nil fun h tr hV => ?_
  show b_X8_worked (g_VOICE N) (iI 12) v (iI d) h = _
  unfold b_X8_worked
  rw [if_neg (by decide), if_neg (by decide), if_pos rfl, show gI h 37 4 = iI n from hV.2.2.2.2]
theorem wk11 (hF : 0 < F) (hw : SPC k0 q n (g_VOICE (F - 1) 2 (iI 0) v (iI d) (iI 0)) r l) : SPC k0 q n (g_VOICE F 1 (iI 11) v (iI d) (iI 0)) (r * iI 2) l := by
  obtain ⟨N, rfl⟩ : ∃ N, F = N + 1 := ⟨F - 1, by omega⟩
  rw [Nat.add_sub_cancel] at hw
  refine spk_one (f := fun a => a * iI 2) hw fun h h2 tr hV e => ?_
  show b_X8_worked (g_VOICE N) (iI 11) v (iI d) h = _
  unfold b_X8_worked
  rw [if_neg (by decide), if_pos rfl, e, cal2_some]
theorem wk13 {r2 : Int32} {l2 : List Int32} (hF : 0 < F) (hw : SPC k0 q n (g_VOICE (F - 1) 2 (iI 1) v (iI d) (iI 0)) r l) (hw2 : SPC k0 q n (g_VOICE (F - 1) 2 (iI 2) v (iI d) (iI 0)) r2 l2) : SPC k0 q n (g_VOICE F 1 (iI 13) v (iI d) (iI 0)) (r ^^^ r2) (l ++ l2) := by
  obtain ⟨N, rfl⟩ : ∃ N, F = N + 1 := ⟨F - 1, by omega⟩
  rw [Nat.add_sub_cancel] at hw hw2
  refine spk_two (f := fun a b => a ^^^ b) hw hw2 fun h => ?_
  show b_X8_worked (g_VOICE N) (iI 13) v (iI d) h = _
  unfold b_X8_worked
  rw [if_neg (by decide), if_neg (by decide), if_neg (by decide), if_pos rfl]
theorem wk20 {r2 : Int32} {l2 : List Int32} (hF : 0 < F) (hw : SPC k0 q n (g_VOICE (F - 1) 3 (iI 1) (iI 1) v (iI d)) r l) (hw2 : SPC k0 q n (g_VOICE (F - 1) 2 (iI 2) (iI 1) (iI d) (iI 0)) r2 l2) : SPC k0 q n (g_VOICE F 1 (iI 20) v (iI d) (iI 0)) (r - r2) (l ++ l2) := by
  obtain ⟨N, rfl⟩ : ∃ N, F = N + 1 := ⟨F - 1, by omega⟩
  rw [Nat.add_sub_cancel] at hw hw2
  refine spk_two (f := fun a b => a - b) hw hw2 fun h => ?_
  show b_X8_worked (g_VOICE N) (iI 20) v (iI d) h = _
  unfold b_X8_worked
  rw [if_neg (by decide), if_neg (by decide), if_neg (by decide), if_neg (by decide), if_pos rfl]
theorem wk30 (hF : 0 < F) (hw : SPC k0 q n (g_VOICE (F - 1) 3 (iI 2) (iI 0) v (iI d)) r l) : SPC k0 q n (g_VOICE F 1 (iI 30) v (iI d) (iI 0)) (r * iI 3) l := by
  obtain ⟨N, rfl⟩ : ∃ N, F = N + 1 := ⟨F - 1, by omega⟩
  rw [Nat.add_sub_cancel] at hw
  refine spk_one (f := fun a => a * iI 3) hw fun h h2 tr hV e => ?_
  show b_X8_worked (g_VOICE N) (iI 30) v (iI d) h = _
  unfold b_X8_worked
  rw [if_neg (by decide), if_neg (by decide), if_neg (by decide), if_neg (by decide), if_neg (by decide), if_pos rfl, e, cal2_some]
theorem wk40 (hF : 0 < F) (hw : SPC k0 q n (g_VOICE (F - 1) 3 (iI 3) (iI 2) v (iI d)) r l) : SPC k0 q n (g_VOICE F 1 (iI 40) v (iI d) (iI 0)) (-r) l := by
  obtain ⟨N, rfl⟩ : ∃ N, F = N + 1 := ⟨F - 1, by omega⟩
  rw [Nat.add_sub_cancel] at hw
  refine spk_one (f := fun a => -a) hw fun h h2 tr hV e => ?_
  show b_X8_worked (g_VOICE N) (iI 40) v (iI d) h = _
  unfold b_X8_worked
  rw [if_neg (by decide), if_neg (by decide), if_neg (by decide), if_neg (by decide), if_neg (by decide), if_neg (by decide), if_pos rfl, e, cal2_some]
theorem wk50 (hF : 0 < F) (hw : SPC k0 q n (g_VOICE (F - 1) 3 (iI 4) (iI 1) (v + iI 1) (iI d)) r l) : SPC k0 q n (g_VOICE F 1 (iI 50) v (iI d) (iI 0)) r l := by
  obtain ⟨N, rfl⟩ : ∃ N, F = N + 1 := ⟨F - 1, by omega⟩
  rw [Nat.add_sub_cancel] at hw
  refine spk_one (f := fun a => a) hw fun h h2 tr hV e => ?_
  show b_X8_worked (g_VOICE N) (iI 50) v (iI d) h = _
  unfold b_X8_worked
  rw [if_neg (by decide), if_neg (by decide), if_neg (by decide), if_neg (by decide), if_neg (by decide), if_neg (by decide), if_neg (by decide), if_pos rfl, e, cal2_some]
theorem wk60 {r2 : Int32} {l2 : List Int32} (hF : 0 < F) (hw : SPC k0 q n (g_VOICE (F - 1) 3 (iI 5) (iI 3) v (iI d)) r l) (hw2 : SPC k0 q n (g_VOICE (F - 1) 2 (iI 0) (iI 2) (iI d) (iI 0)) r2 l2) : SPC k0 q n (g_VOICE F 1 (iI 60) v (iI d) (iI 0)) (r - r2) (l ++ l2) := by
  obtain ⟨N, rfl⟩ : ∃ N, F = N + 1 := ⟨F - 1, by omega⟩
  rw [Nat.add_sub_cancel] at hw hw2
  refine spk_two (f := fun a b => a - b) hw hw2 fun h => ?_
  show b_X8_worked (g_VOICE N) (iI 60) v (iI d) h = _
  unfold b_X8_worked
  rw [if_neg (by decide), if_neg (by decide), if_neg (by decide), if_neg (by decide), if_neg (by decide), if_neg (by decide), if_neg (by decide), if_neg (by decide), if_pos rfl]
theorem wk70 (hF : 0 < F) (hw : SPC k0 q n (g_VOICE (F - 1) 3 (iI 6) (iI 2) v (iI d)) r l) : SPC k0 q n (g_VOICE F 1 (iI 70) v (iI d) (iI 0)) (r ^^^ iI q) l := by
  obtain ⟨N, rfl⟩ : ∃ N, F = N + 1 := ⟨F - 1, by omega⟩
  rw [Nat.add_sub_cancel] at hw
  refine spk_one (f := fun a => a ^^^ iI q) hw fun h h2 tr hV e => ?_
  show b_X8_worked (g_VOICE N) (iI 70) v (iI d) h = _
  unfold b_X8_worked
  rw [if_neg (by decide), if_neg (by decide), if_neg (by decide), if_neg (by decide), if_neg (by decide), if_neg (by decide), if_neg (by decide), if_neg (by decide), if_neg (by decide), if_pos rfl, e, cal2_some, show gI h2 37 3 = iI q from hV.2.2.2.1]
theorem wk71 {r2 : Int32} {l2 : List Int32} (hF : 0 < F) (hw : SPC k0 q n (g_VOICE (F - 1) 2 (iI 1) v (iI d) (iI 0)) r l) (hw2 : SPC k0 q n (g_VOICE (F - 1) 3 (iI 6) (iI 3) v (iI d)) r2 l2) : SPC k0 q n (g_VOICE F 1 (iI 71) v (iI d) (iI 0)) (r - r2) (l ++ l2) := by
  obtain ⟨N, rfl⟩ : ∃ N, F = N + 1 := ⟨F - 1, by omega⟩
  rw [Nat.add_sub_cancel] at hw hw2
  refine spk_two (f := fun a b => a - b) hw hw2 fun h => ?_
  show b_X8_worked (g_VOICE N) (iI 71) v (iI d) h = _
  unfold b_X8_worked
  rw [if_neg (by decide), if_neg (by decide), if_neg (by decide), if_neg (by decide), if_neg (by decide), if_neg (by decide), if_neg (by decide), if_neg (by decide), if_neg (by decide), if_neg (by decide)]
/-! the four bodies of the plain kinds, then all -/
theorem sp_c0 (hF : 8 ≤ F) (hk : k ≤ 6) (hd : d ≤ 40) (hb : bodV k 0 = 10) : SPC k0 q n (g_VOICE F 0 (iI k) (iI 0) v (iI d)) (v + iI q) [iI 10] :=
  spk_spoken (m := 0) (by omega) hk (by omega) hd hb (by decide) (wk10 (by omega))
theorem bod_tab : ∀ k, k < 7 → bodV k 0 = (if k = 2 ∨ k = 6 then 30 else 10) ∧ bodV k 1 = (if k = 1 ∨ k = 5 then 20 else if k = 4 then 50 else 11) ∧ bodV k 2 = (if k = 3 then 40 else if k = 6 then 70 else 12) ∧ bodV k 3 = (if k = 5 then 60 else if k = 6 then 71 else 13) := by decide +kernel
theorem sp_cast (hF : 12 ≤ F) (hk : k ≤ 6) (hd : d ≤ 38) : SPC k0 q n (g_VOICE F 0 (iI k) (iI 0) v (iI d)) (caV q k v) (caL k) := by
  obtain ⟨b0, b1, b2, b3⟩ := bod_tab k (by omega)
  unfold caV caL
  by_cases e : k = 2 ∨ k = 6
  · rw [if_pos e] at b0
    rw [if_pos e, if_pos e]
    exact spk_spoken (m := 0) (by omega) hk (by omega) (by omega) b0 (by decide) (wk30 (by omega) (spk_above (k := 2) (p := 0) (m := 0) (by omega) (by omega) rfl (sp_c0 (by omega) (by omega) (by omega) rfl)))
  · rw [if_neg e] at b0
    rw [if_neg e, if_neg e]
    exact sp_c0 (by omega) hk (by omega) b0
theorem sp_l0 (hF : 8 ≤ F) (hk : k ≤ 6) (hd : d ≤ 40) (hb : bodV k 2 = 12) : SPC k0 q n (g_VOICE F 0 (iI k) (iI 2) v (iI d)) (v - iI n) [iI 12] :=
  spk_spoken (m := 2) (by omega) hk (by omega) hd hb (by decide) (wk12 (by omega))
theorem sp_light (hF : 12 ≤ F) (hk : k ≤ 6) (hd : d ≤ 38) : SPC k0 q n (g_VOICE F 0 (iI k) (iI 2) v (iI d)) (liV q n k v) (liL k) := by
  obtain ⟨b0, b1, b2, b3⟩ := bod_tab k (by omega)
  unfold liV liL
  by_cases e : k = 3
  · rw [if_pos e] at b2
    rw [if_pos e, if_pos e]
    exact spk_spoken (m := 2) (by omega) hk (by omega) (by omega) b2 (by decide) (wk40 (by omega) (spk_above (k := 3) (p := 0) (m := 2) (by omega) (by omega) rfl (sp_l0 (by omega) (by omega) (by omega) rfl)))
  · rw [if_neg e] at b2
    rw [if_neg e, if_neg e]
    by_cases e6 : k = 6
    · rw [if_pos e6] at b2
      rw [if_pos e6, if_pos e6]
      exact spk_spoken (m := 2) (by omega) hk (by omega) (by omega) b2 (by decide) (wk70 (by omega) (spk_above (k := 6) (p := 2) (m := 2) (by omega) (by omega) rfl (sp_l0 (by omega) (by omega) (by omega) rfl)))
    · rw [if_neg e6] at b2
      rw [if_neg e6, if_neg e6]
      exact sp_l0 (by omega) hk (by omega) b2
theorem sp_t0 (hF : 20 ≤ F) (h0 : k0 ≤ 6) (hk : k ≤ 6) (hd : d ≤ 36) (hb : bodV k 1 = 11) : SPC k0 q n (g_VOICE F 0 (iI k) (iI 1) v (iI d)) (t0V q k0 v) (t0L k0) :=
  spk_spoken (m := 1) (by omega) hk (by omega) (by omega) hb (by decide) (wk11 (by omega) (spk_own (m := 0) (by omega) (sp_cast (by omega) h0 (by omega))))
theorem sp_t2 (hF : 24 ≤ F) (h0 : k0 ≤ 6) (hk : k ≤ 6) (hd : d ≤ 34) (hb : bodV k 1 = 20) : SPC k0 q n (g_VOICE F 0 (iI k) (iI 1) v (iI d)) (t2V q n k0 v) (t2L k0) :=
  spk_spoken (m := 1) (by omega) hk (by omega) (by omega) hb (by decide) (wk20 (by omega) (spk_above (k := 1) (p := 0) (m := 1) (by omega) (by omega) rfl (sp_t0 (by omega) h0 (by omega) (by omega) rfl)) (spk_own (m := 2) (by omega) (sp_light (by omega) h0 (by omega))))
theorem sp_turn (hF : 30 ≤ F) (h0 : k0 ≤ 6) (hk : k ≤ 6) (hd : d ≤ 32) : SPC k0 q n (g_VOICE F 0 (iI k) (iI 1) v (iI d)) (tuV q n k0 k v) (tuL k0 k) := by
  obtain ⟨b0, b1, b2, b3⟩ := bod_tab k (by omega)
  unfold tuV tuL
  by_cases e : k = 1 ∨ k = 5
  · rw [if_pos e] at b1
    rw [if_pos e, if_pos e]
    exact sp_t2 (by omega) h0 hk (by omega) b1
  · rw [if_neg e] at b1
    rw [if_neg e, if_neg e]
    by_cases e4 : k = 4
    · rw [if_pos e4] at b1
      rw [if_pos e4, if_pos e4]
      exact spk_spoken (m := 1) (by omega) hk (by omega) (by omega) b1 (by decide) (wk50 (by omega) (spk_above (k := 4) (p := 1) (m := 1) (by omega) (by omega) rfl (sp_t2 (by omega) h0 (by omega) (by omega) rfl)))
    · rw [if_neg e4] at b1
      rw [if_neg e4, if_neg e4]
      exact sp_t0 (by omega) h0 hk (by omega) b1
theorem sp_e0 (hF : 40 ≤ F) (h0 : k0 ≤ 6) (hk : k ≤ 6) (hd : d ≤ 28) (hb : bodV k 3 = 13) : SPC k0 q n (g_VOICE F 0 (iI k) (iI 3) v (iI d)) (e0V q n k0 v) (e0L k0) :=
  spk_spoken (m := 3) (by omega) hk (by omega) (by omega) hb (by decide) (wk13 (by omega) (spk_own (m := 1) (by omega) (sp_turn (by omega) h0 h0 (by omega))) (spk_own (m := 2) (by omega) (sp_light (by omega) h0 (by omega))))
theorem sp_tell (hF : 50 ≤ F) (h0 : k0 ≤ 6) (hk : k ≤ 6) (hd : d ≤ 20) : SPC k0 q n (g_VOICE F 0 (iI k) (iI 3) v (iI d)) (teV q n k0 k v) (teL k0 k) := by
  obtain ⟨b0, b1, b2, b3⟩ := bod_tab k (by omega)
  unfold teV teL
  by_cases e : k = 5
  · rw [if_pos e] at b3
    rw [if_pos e, if_pos e]
    exact spk_spoken (m := 3) (by omega) hk (by omega) (by omega) b3 (by decide) (wk60 (by omega) (spk_above (k := 5) (p := 1) (m := 3) (by omega) (by omega) rfl (sp_e0 (by omega) h0 (by omega) (by omega) rfl)) (spk_own (m := 0) (by omega) (sp_cast (by omega) h0 (by omega))))
  · rw [if_neg e] at b3
    rw [if_neg e, if_neg e]
    by_cases e6 : k = 6
    · rw [if_pos e6] at b3
      rw [if_pos e6, if_pos e6]
      exact spk_spoken (m := 3) (by omega) hk (by omega) (by omega) b3 (by decide) (wk71 (by omega) (spk_own (m := 1) (by omega) (sp_turn (by omega) h0 h0 (by omega))) (spk_above (k := 6) (p := 2) (m := 3) (by omega) (by omega) rfl (sp_e0 (by omega) h0 (by omega) (by omega) rfl)))
    · rw [if_neg e6] at b3
      rw [if_neg e6, if_neg e6]
      exact sp_e0 (by omega) h0 hk (by omega) b3
def voV (q n k0 : Nat) (m : Int) (v : Int32) : Int32 := if m = 0 then caV q k0 v else if m = 1 then tuV q n k0 k0 v else if m = 2 then liV q n k0 v else teV q n k0 k0 v
def voL (k0 : Nat) (m : Int) : List Int32 := if m = 0 then caL k0 else if m = 1 then tuL k0 k0 else if m = 2 then liL k0 else teL k0 k0
theorem voL_len {m : Int} (h0 : k0 ≤ 6) : (voL k0 m).length ≤ 25 := by
  obtain ⟨a, b, c, e⟩ := vL_len k0 (by omega) k0 (by omega)
  unfold voL
  split
  · omega
  · split
    · omega
    · split <;> omega
theorem sp_voice {m : Int} (h0 : k0 ≤ 6) (hm : 0 ≤ m ∧ m ≤ 3) : SPC k0 q n (g_VOICE 100 0 (iI k0) (iI m) v (iI 0)) (voV q n k0 m v) (voL k0 m) := by
  unfold voV voL
  rcases (show m = 0 ∨ m = 1 ∨ m = 2 ∨ m = 3 by omega) with rfl | rfl | rfl | rfl
  · rw [if_pos rfl, if_pos rfl]
    exact sp_cast (d := 0) (by omega) h0 (by omega)
  · rw [if_neg (by decide), if_pos rfl, if_neg (by decide), if_pos rfl]
    exact sp_turn (d := 0) (by omega) h0 h0 (by omega)
  · rw [if_neg (by decide), if_neg (by decide), if_pos rfl, if_neg (by decide), if_neg (by decide), if_pos rfl]
    exact sp_light (d := 0) (by omega) h0 (by omega)
  · rw [if_neg (by decide), if_neg (by decide), if_neg (by decide), if_neg (by decide), if_neg (by decide), if_neg (by decide)]
    exact sp_tell (d := 0) (by omega) h0 h0 (by omega)
def GS.trc (g : GS) (l : List Int32) : GS := (g.now, g.kept, g.images, g.fl, g.bits, g.sheet, l)
def spVoice (g : GS) (x m : Int) (v : Int32) : Int32 × GS := if (0 ≤ x ∧ x < (g.now.R * g.now.C : Nat)) ∧ 0 ≤ m ∧ m ≤ 3 then (voV x.toNat (g.now.M x.toNat) (g.now.K x.toNat) m v, g.trc (voL (g.now.K x.toNat) m)) else (iI (-1000000001), g.fail 1)
theorem GV.voice {x m : Int} (hg : GV g) : GV (spVoice g x m v).2 := by
  unfold spVoice
  split
  · exact ⟨hg.1, hg.2.1, hg.2.2.1, Nat.le_trans (voL_len (hg.1.1.2.2.2.2.1 _)) (by omega), hg.2.2.2.2⟩
  · exact hg.fail 1
theorem CSt.trc {h2 : Mem} {l : List Int32} (hc : CSt h g) (e : ∀ x k, (1 ≤ x ∧ x ≤ 27) ∨ (64 ≤ x ∧ x ≤ 71) ∨ (x = 0 ∧ k = 3) ∨ ((x = 29 ∨ x = 44 ∨ x = 55 ∨ x = 61) ∧ k = 6) → gI h2 x k = gI h x k) (e2 : ∀ x k, gL h2 x k = gL h x k) (t1 : gI h2 37 1 = iI l.length) (t2 : LSt h2 38 0 l) : CSt h2 (g.trc l) := by
  obtain ⟨h1, h2', h3, h4, h5, h6, h7, h8, h9, h10, h11, h12, h13⟩ := hc
  refine ⟨h1.cong (fun x k p q => e x k (by omega)) (e2 _ _), fun s hs => (h2' s hs).cong (fun x k p q => e x k (by omega)) (e2 _ _), (e _ _ (by omega)).trans h3, fun n p q => (e _ _ (by omega)).trans (h4 n p q), fun u hu => ?_, t1, t2, (e _ _ (by omega)).trans h8, (e _ _ (by omega)).trans h9, (e _ _ (by omega)).trans h10, (e _ _ (by omega)).trans h11, (e _ _ (by omega)).trans h12, (e _ _ (by omega)).trans h13⟩
  obtain ⟨a1, a2, a3⟩ := h5 u hu
  exact ⟨(e _ _ (by omega)).trans a1, (e _ _ (by omega)).trans a2, a3.cong fun k => e _ _ (by omega)⟩
theorem w_speak {x m : Int} (hc : CSt h g) (hg : GV g) (hx : 0 ≤ x ∧ x < (g.now.R * g.now.C : Nat)) (hm : 0 ≤ m ∧ m ≤ 3) : OPC h (f_X8_speakFor h 3 (iI x) (iI m) v) (voV x.toNat (g.now.M x.toNat) (g.now.K x.toNat) m v) (g.trc (voL (g.now.K x.toNat) m)) := by
  obtain ⟨v1, v2, v3, v4, vK, vM⟩ := id hg.1.1
  have hRC : g.now.R * g.now.C ≤ 5 * 5 := Nat.mul_le_mul v2 v4
  have hq : x.toNat < 25 := by omega
  have hK := hc.1.1.2.2.1 x.toNat hq
  have hM := hc.1.1.2.2.2.1 x.toNat hq
  have h0 := vK x.toNat
  unfold f_X8_speakFor
  rw [ald_i (by omega) (by omega), show gI h (3 + 1) x.toNat = iI (g.now.K x.toNat) from hK, nm_eq, nm_eq, ald_i (by omega) (by omega), gI_ne (by omega), gI_ne (by omega), show gI h (3 + 2) x.toNat = iI (g.now.M x.toNat) from hM, nm_eq, nm_eq]
  rw [gI_ne (by omega), gI_ne (by omega), gI_ne (by omega), gI_same]
  obtain ⟨h2, w1, w2, w3⟩ := sp_voice (q := x.toNat) (n := g.now.M x.toNat) (v := v) h0 hm (sI (sI (sI (sI h 37 2 (iI (g.now.K x.toNat))) 37 3 (iI x)) 37 4 (iI (g.now.M x.toNat))) 37 1 (iI 0)) [] ⟨by rw [gI_same]; rfl, fun k hk => absurd hk (by simp), by rw [gI_ne (by omega), gI_ne (by omega), gI_ne (by omega), gI_same], by rw [gI_ne (by omega), gI_ne (by omega), gI_same, Int.toNat_of_nonneg hx.1], by rw [gI_ne (by omega), gI_same]⟩ (by have := voL_len (m := m) h0; rw [List.length_nil]; omega)
  rw [w1, cal2_some]
  refine ⟨h2, rfl, ?_, fun a k ha => ⟨?_, ?_⟩⟩
  · refine hc.trc (fun a k ha => ?_) (fun a k => ?_) w2.1 w2.2.1
    · rw [w3.1 a k (by omega) (by omega), gI_ne (by omega), gI_ne (by omega), gI_ne (by omega), gI_ne (by omega)]
    · rw [w3.2 a k]; rfl
  · rw [w3.1 a k (by omega) (by omega), gI_ne (by omega), gI_ne (by omega), gI_ne (by omega), gI_ne (by omega)]
  · rw [w3.2 a k]; rfl
theorem c_voice {x m : Int} (hc : CSt h g) (hg : GV g) (hx : -2147483648 ≤ x ∧ x < 2147483648) (hm : -2147483648 ≤ m ∧ m < 2147483648) : OPC h (f_X10_voice h (iI x) (iI m) v) (spVoice g x m v).1 (spVoice g x m v).2 := by
  unfold f_X10_voice spVoice
  rw [w_hasSquare hc.1.1 hg.1.1 hx, cal_some, join_eq]
  by_cases e : 0 ≤ x ∧ x < (g.now.R * g.now.C : Nat)
  · rw [decide_eq_true e, bn_true, if_neg (by decide), w_within hm (by omega) (by omega), cal_some]
    by_cases e2 : 0 ≤ m ∧ m ≤ 3
    · rw [decide_eq_true e2, bn_true, if_pos (by decide), if_pos ⟨e, e2⟩, cal2_id]
      exact w_speak hc hg e e2
    · rw [decide_eq_false e2, bn_false, if_neg (by decide), if_neg (fun z => e2 z.2), cal2_id]
      exact c_fail hc (e := 1) (by omega)
  · rw [decide_eq_false e, bn_false, if_pos (by decide), if_neg (fun z => e z.1), cal2_id]
    exact c_fail hc (e := 1) (by omega)
end CVOICE
