section MORE
variable {p : Program} {l : Launch} {e : Env} {R : Room} {s : State} {m : MethodId} {args : Array Value} {below : List Frame} {meth : Method} {c : Code} {H : Heap} {locs : List Loc} {cells slots : Nat} {Q : State → Prop}
variable {cc : ByteArray} {pc : Nat} {ls : Array Slot} {rest : List Value} {x y : Int32}
theorem q_irem (hx : p.tables.exec = Jvm.exec) (hb : c.code = cc) (hdg : decode cc pc = .ok (.irem, 1)) (hne : ¬ y = 0) (k : W p l e R s m args below meth c H locs cells slots Q (F0 m (pc + 1) ls (.int (rmI x y) :: rest))) : W p l e R s m args below meth c H locs cells slots Q (F0 m pc ls (.int y :: .int x :: rest)) := lv_irem hx hb hdg hne k
theorem q_ishl (hx : p.tables.exec = Jvm.exec) (hb : c.code = cc) (hdg : decode cc pc = .ok (.ishl, 1)) (k : W p l e R s m args below meth c H locs cells slots Q (F0 m (pc + 1) ls (.int (shlI x y) :: rest))) : W p l e R s m args below meth c H locs cells slots Q (F0 m pc ls (.int y :: .int x :: rest)) := lv_ishl hx hb hdg k
theorem q_ishr (hx : p.tables.exec = Jvm.exec) (hb : c.code = cc) (hdg : decode cc pc = .ok (.ishr, 1)) (k : W p l e R s m args below meth c H locs cells slots Q (F0 m (pc + 1) ls (.int (shrI x y) :: rest))) : W p l e R s m args below meth c H locs cells slots Q (F0 m pc ls (.int y :: .int x :: rest)) := lv_ishr hx hb hdg k
end MORE
theorem rm_ok {R : Room} {d d' n : Nat} (hR : R = rmd d) (h : d' + 1 ≤ d ∧ n ≤ 40) : d' + 1 ≤ R.frames ∧ 8 + (n + 11) + 64 * d' ≤ R.locals ∧ 0 ≤ R.cells ∧ 0 ≤ R.slots := by
  subst hR
  refine ⟨h.1, ?_, Nat.zero_le _, Nat.zero_le _⟩
  show 8 + (n + 11) + 64 * d' ≤ 64 * d
  omega
theorem rm_mm {R : Room} {d k : Nat} (hR : R = rmd d) (h : 1 ≤ d) (hk : k ≤ 40) : 1 ≤ R.frames ∧ k + 13 ≤ R.locals ∧ 0 ≤ R.cells ∧ 0 ≤ R.slots := by
  subst hR
  refine ⟨h, ?_, Nat.zero_le _, Nat.zero_le _⟩
  show k + 13 ≤ 64 * d
  omega
theorem ac_words : nativeFrameWords "java/lang/System" "arraycopy" 5 ≤ 40 := by decide +kernel
theorem rm_ac {R : Room} {d : Nat} (hR : R = rmd d) (h : 1 ≤ d) : 1 ≤ R.frames ∧ (([] : List Value).map fun v => v.category).sum + (nativeFrameWords "java/lang/System" "arraycopy" 5 + 11) ≤ R.locals := by
  subst hR
  refine ⟨h, ?_⟩
  show 0 + _ ≤ 64 * d
  have := ac_words
  omega
theorem lay_sheet : ∀ j, j < 4 → LAY[64 + 2 * j]? = some (10, 0) := by decide
theorem hret_X9_lawOf {h : Mem} {q v : Nat} {a : Int32} (hq : LAY[q]? = some (12, 0)) (ev : f_X9_lawOf h q a = some v) : LAY[v]? = some (8, 0) := by
  unfold f_X9_lawOf at ev
  split at ev
  · cases ev; exact wt_X9_betLaw _ hq
  · cases ev; exact wt_X9_handLaw _ hq

set_option maxHeartbeats 4000000 in
theorem c_X10_within (l : Launch) (G : GG) (a0 : Int32) (a1 : Int32) (a2 : Int32) (h : Mem) (v : Int32)  (hs : f_X10_within h a0 a1 a2 = some v) : Sat l G yX10_within cX10_within 3 (some .boolean) 0 [.int a0, .int a1, .int a2] h (some (.int v)) h := by
  refine Sat.mkZ (by decide) (Nat.le_of_ble_eq_true rfl) ?_
  intro p e R s m args below meth c Q F hret hw ls hl
  obtain ⟨hx, hb, hml, hown, hts, hK, hSt, hN, hR⟩ := F
  have hl : lv_has ls 3 [(0, .int a0), (1, .int a1), (2, .int a2)] := hl
  unfold f_X10_within at hs
  refine lv_iload_n (pc := 0) hx hb dX10_within_0 rfl (lv_at hl 0 rfl) ?_
  refine lv_iload_n (pc := 1) hx hb dX10_within_1 rfl (lv_at hl 1 rfl) ?_
  refine q_join0 (P0 := ∀ (H : Heap) (locs : List Loc), IW G s h H locs → ∀ ls : Array Slot, lv_has ls 3 [] → W p l e R s m args below meth c H locs 0 0 Q (F0 m 14 ls [])) hs ?_ ?_
  · intro  hs H locs hw ls hl
    refine lv_iconst (pc := 14) (v := (iI 0)) hx hb dX10_within_14 rfl ?_
    exact q_zret hret dX10_within_15 hw hs
  · intro K1 hK1 hs
    refine lv_icmp_lt (pc := 2) (tgt := 14) hx hb dX10_within_2 (by decide) (fun hc => ?_) (fun hc => ?_)
    · replace hs := q_t hc hs
      exact hK1 hs _ _ hw _ (lv_sub hl [] rfl)
    · replace hs := q_f hc hs
      refine lv_iload_n (pc := 5) hx hb dX10_within_5 rfl (lv_at hl 0 rfl) ?_
      refine lv_iload_n (pc := 6) hx hb dX10_within_6 rfl (lv_at hl 2 rfl) ?_
      refine lv_icmp_gt (pc := 7) (tgt := 14) hx hb dX10_within_7 (by decide) (fun hc => ?_) (fun hc => ?_)
      · replace hs := q_t hc hs
        exact hK1 hs _ _ hw _ (lv_sub hl [] rfl)
      · replace hs := q_f hc hs
        refine lv_iconst (pc := 10) (v := (iI 1)) hx hb dX10_within_10 rfl ?_
        refine lv_goto (pc := 11) (tgt := 15) hx hb dX10_within_11 (by decide) ?_
        exact q_zret hret dX10_within_15 hw hs

set_option maxHeartbeats 4000000 in
theorem c_X10_held (l : Launch) (G : GG) (a0 : Int32) (a1 : Int32) (a2 : Int32) (h : Mem) (v : Int32)  (hs : f_X10_held h a0 a1 a2 = some v) : Sat l G yX10_held cX10_held 3 (some .int) 1 [.int a0, .int a1, .int a2] h (some (.int v)) h := by
  refine Sat.mkI (by decide) (Nat.le_of_ble_eq_true rfl) ?_
  intro p e R s m args below meth c Q F hret hw ls hl
  obtain ⟨hx, hb, hml, hown, hts, hK, hSt, hN, hR⟩ := F
  have hl : lv_has ls 3 [(0, .int a0), (1, .int a1), (2, .int a2)] := hl
  unfold f_X10_held at hs
  refine lv_iload_n (pc := 0) hx hb dX10_held_0 rfl (lv_at hl 1 rfl) ?_
  refine lv_iload_n (pc := 1) hx hb dX10_held_1 rfl (lv_at hl 2 rfl) ?_
  refine lv_iload_n (pc := 2) hx hb dX10_held_2 rfl (lv_at hl 0 rfl) ?_
  refine q_min (pc := 3) (rest := [.int a1]) hx hb hml hl.1 hts hown (rm_mm hR (by decide) (Nat.le_of_ble_eq_true rfl)) mt_X10_346 dX10_held_3 ?_
  refine q_max (pc := 6) (rest := []) hx hb hml hl.1 hts hown (rm_mm hR (by decide) (Nat.le_of_ble_eq_true rfl)) mt_X10_380 dX10_held_6 ?_
  exact q_iret hret dX10_held_9 hw hs

set_option maxHeartbeats 4000000 in
theorem c_X10_quotient (l : Launch) (G : GG) (a0 : Int32) (a1 : Int32) (h : Mem) (v : Int32)  (hs : f_X10_quotient h a0 a1 = some v) : Sat l G yX10_quotient cX10_quotient 2 (some .int) 0 [.int a0, .int a1] h (some (.int v)) h := by
  refine Sat.mkI (by decide) (Nat.le_of_ble_eq_true rfl) ?_
  intro p e R s m args below meth c Q F hret hw ls hl
  obtain ⟨hx, hb, hml, hown, hts, hK, hSt, hN, hR⟩ := F
  have hl : lv_has ls 2 [(0, .int a0), (1, .int a1)] := hl
  unfold f_X10_quotient at hs
  refine lv_iload_n (pc := 0) hx hb dX10_quotient_0 rfl (lv_at hl 1 rfl) ?_
  refine lv_if_ne (pc := 1) (tgt := 8) hx hb dX10_quotient_1 (by decide) (fun hc => ?_) (fun hc => ?_)
  · replace hs := q_t hc hs
    refine lv_iload_n (pc := 8) hx hb dX10_quotient_8 rfl (lv_at hl 0 rfl) ?_
    refine lv_iload_n (pc := 9) hx hb dX10_quotient_9 rfl (lv_at hl 1 rfl) ?_
    obtain ⟨hne, hs⟩ := q_nz hs
    refine lv_idiv (pc := 10) hx hb dX10_quotient_10 hne ?_
    exact q_iret hret dX10_quotient_11 hw hs
  · replace hs := q_f (fun z => z hc) hs
    refine lv_iconst (pc := 4) (v := (iI 0)) hx hb dX10_quotient_4 rfl ?_
    refine lv_goto (pc := 5) (tgt := 11) hx hb dX10_quotient_5 (by decide) ?_
    exact q_iret hret dX10_quotient_11 hw hs

set_option maxHeartbeats 4000000 in
theorem c_X10_rest (l : Launch) (G : GG) (a0 : Int32) (a1 : Int32) (h : Mem) (v : Int32)  (hs : f_X10_rest h a0 a1 = some v) : Sat l G yX10_rest cX10_rest 2 (some .int) 0 [.int a0, .int a1] h (some (.int v)) h := by
  refine Sat.mkI (by decide) (Nat.le_of_ble_eq_true rfl) ?_
  intro p e R s m args below meth c Q F hret hw ls hl
  obtain ⟨hx, hb, hml, hown, hts, hK, hSt, hN, hR⟩ := F
  have hl : lv_has ls 2 [(0, .int a0), (1, .int a1)] := hl
  unfold f_X10_rest at hs
  refine lv_iload_n (pc := 0) hx hb dX10_rest_0 rfl (lv_at hl 1 rfl) ?_
  refine lv_if_ne (pc := 1) (tgt := 8) hx hb dX10_rest_1 (by decide) (fun hc => ?_) (fun hc => ?_)
  · replace hs := q_t hc hs
    refine lv_iload_n (pc := 8) hx hb dX10_rest_8 rfl (lv_at hl 0 rfl) ?_
    refine lv_iload_n (pc := 9) hx hb dX10_rest_9 rfl (lv_at hl 1 rfl) ?_
    obtain ⟨hne, hs⟩ := q_nz hs
    refine q_irem (pc := 10) hx hb dX10_rest_10 hne ?_
    exact q_iret hret dX10_rest_11 hw hs
  · replace hs := q_f (fun z => z hc) hs
    refine lv_iconst (pc := 4) (v := (iI 0)) hx hb dX10_rest_4 rfl ?_
    refine lv_goto (pc := 5) (tgt := 11) hx hb dX10_rest_5 (by decide) ?_
    exact q_iret hret dX10_rest_11 hw hs

set_option maxHeartbeats 4000000 in
theorem c_X0_start (l : Launch) (G : GG) (q0 : Nat) (hq0 : LAY[q0]? = some (3, 0)) (a1 : Int32) (a2 : Int32) (a3 : Int32) (h : Mem) (h' : Mem) (hs : f_X0_start h q0 a1 a2 a3 = some h') : Sat l G yX0_start cX0_start 4 none 0 [.ref (G.2.2.1 q0), .int a1, .int a2, .int a3] h none h' := by
  refine Sat.mkV (by decide) (Nat.le_of_ble_eq_true rfl) ?_
  intro p e R s m args below meth c Q F hret hw ls hl
  obtain ⟨hx, hb, hml, hown, hts, hK, hSt, hN, hR⟩ := F
  have hl : lv_has ls 4 [(0, .ref (G.2.2.1 q0)), (1, .int a1), (2, .int a2), (3, .int a3)] := hl
  unfold f_X0_start at hs
  refine lv_aload_n (pc := 0) hx hb dX0_start_0 rfl (lv_at hl 0 rfl) ?_
  refine lv_iload_n (pc := 1) hx hb dX0_start_1 rfl (lv_at hl 1 rfl) ?_
  refine q_putI (pc := 2) (q := q0) hx hb hts hown hK hw hq0 fp_X0_7 dX0_start_2 hs (fun h1 H locs hw hs => ?_)
  refine lv_aload_n (pc := 5) hx hb dX0_start_5 rfl (lv_at hl 0 rfl) ?_
  refine lv_iload_n (pc := 6) hx hb dX0_start_6 rfl (lv_at hl 2 rfl) ?_
  refine q_putI (pc := 7) (q := q0) hx hb hts hown hK hw hq0 fp_X0_13 dX0_start_7 hs (fun h2 H locs hw hs => ?_)
  refine lv_aload_n (pc := 10) hx hb dX0_start_10 rfl (lv_at hl 0 rfl) ?_
  refine lv_iload_n (pc := 11) hx hb dX0_start_11 rfl (lv_at hl 3 rfl) ?_
  refine q_putI (pc := 12) (q := q0) hx hb hts hown hK hw hq0 fp_X0_16 dX0_start_12 hs (fun h3 H locs hw hs => ?_)
  exact q_vret hret dX0_start_15 hw hs

set_option maxHeartbeats 4000000 in
theorem c_X0_bend (l : Launch) (G : GG) (q0 : Nat) (hq0 : LAY[q0]? = some (3, 0)) (a1 : Int32) (h : Mem) (h' : Mem) (hs : f_X0_bend h q0 a1 = some h') : Sat l G yX0_bend cX0_bend 2 none 0 [.ref (G.2.2.1 q0), .int a1] h none h' := by
  refine Sat.mkV (by decide) (Nat.le_of_ble_eq_true rfl) ?_
  intro p e R s m args below meth c Q F hret hw ls hl
  obtain ⟨hx, hb, hml, hown, hts, hK, hSt, hN, hR⟩ := F
  have hl : lv_has ls 2 [(0, .ref (G.2.2.1 q0)), (1, .int a1)] := hl
  unfold f_X0_bend at hs
  refine lv_aload_n (pc := 0) hx hb dX0_bend_0 rfl (lv_at hl 0 rfl) ?_
  refine lv_iload_n (pc := 1) hx hb dX0_bend_1 rfl (lv_at hl 1 rfl) ?_
  refine lv_if_ne (pc := 2) (tgt := 14) hx hb dX0_bend_2 (by decide) (fun hc => ?_) (fun hc => ?_)
  · replace hs := q_t hc hs
    refine lv_iconst (pc := 14) (v := (iI 3)) hx hb dX0_bend_14 rfl ?_
    refine lv_aload_n (pc := 15) hx hb dX0_bend_15 rfl (lv_at hl 0 rfl) ?_
    refine q_getI (pc := 16) (q := q0) hx hb hts hown hK hw hq0 fg_X0_16 dX0_bend_16 ?_
    refine lv_isub (pc := 19) hx hb dX0_bend_19 ?_
    refine q_putI (pc := 20) (q := q0) hx hb hts hown hK hw hq0 fp_X0_16 dX0_bend_20 hs (fun h1 H locs hw hs => ?_)
    exact q_vret hret dX0_bend_23 hw hs
  · replace hs := q_f (fun z => z hc) hs
    refine lv_aload_n (pc := 5) hx hb dX0_bend_5 rfl (lv_at hl 0 rfl) ?_
    refine q_getI (pc := 6) (q := q0) hx hb hts hown hK hw hq0 fg_X0_16 dX0_bend_6 ?_
    refine lv_iconst (pc := 9) (v := (iI 1)) hx hb dX0_bend_9 rfl ?_
    refine lv_ixor (pc := 10) hx hb dX0_bend_10 ?_
    refine lv_goto (pc := 11) (tgt := 20) hx hb dX0_bend_11 (by decide) ?_
    refine q_putI (pc := 20) (q := q0) hx hb hts hown hK hw hq0 fp_X0_16 dX0_bend_20 hs (fun h2 H locs hw hs => ?_)
    exact q_vret hret dX0_bend_23 hw hs

set_option maxHeartbeats 4000000 in
theorem c_X0_goOn (l : Launch) (G : GG) (q0 : Nat) (hq0 : LAY[q0]? = some (3, 0)) (h : Mem) (h' : Mem) (hs : f_X0_goOn h q0 = some h') : Sat l G yX0_goOn cX0_goOn 1 none 0 [.ref (G.2.2.1 q0)] h none h' := by
  refine Sat.mkV (by decide) (Nat.le_of_ble_eq_true rfl) ?_
  intro p e R s m args below meth c Q F hret hw ls hl
  obtain ⟨hx, hb, hml, hown, hts, hK, hSt, hN, hR⟩ := F
  have hl : lv_has ls 1 [(0, .ref (G.2.2.1 q0))] := hl
  unfold f_X0_goOn at hs
  refine lv_aload_n (pc := 0) hx hb dX0_goOn_0 rfl (lv_at hl 0 rfl) ?_
  refine q_getI (pc := 1) (q := q0) hx hb hts hown hK hw hq0 fg_X0_16 dX0_goOn_1 ?_
  by_cases hc0 : (gI h q0 2) = iI 0
  · replace hs := q_t hc0 hs
    refine lv_tableIn (pc := 4) (off := 28) (tgt := 32) hx hb dX0_goOn_4 (by rw [hc0]; decide) (by rw [hc0]; decide) (by rw [hc0]; decide) (by decide) ?_
    refine lv_aload_n (pc := 32) hx hb dX0_goOn_32 rfl (lv_at hl 0 rfl) ?_
    refine lv_dup (pc := 33) hx hb dX0_goOn_33 rfl ?_
    refine q_getI (pc := 34) (q := q0) hx hb hts hown hK hw hq0 fg_X0_7 dX0_goOn_34 ?_
    refine lv_iconst (pc := 37) (v := (iI 1)) hx hb dX0_goOn_37 rfl ?_
    refine lv_isub (pc := 38) hx hb dX0_goOn_38 ?_
    refine q_putI (pc := 39) (q := q0) hx hb hts hown hK hw hq0 fp_X0_7 dX0_goOn_39 hs (fun h1 H locs hw hs => ?_)
    refine lv_goto (pc := 42) (tgt := 81) hx hb dX0_goOn_42 (by decide) ?_
    exact q_vret hret dX0_goOn_81 hw hs
  replace hs := q_f hc0 hs
  by_cases hc1 : (gI h q0 2) = iI 1
  · replace hs := q_t hc1 hs
    refine lv_tableIn (pc := 4) (off := 41) (tgt := 45) hx hb dX0_goOn_4 (by rw [hc1]; decide) (by rw [hc1]; decide) (by rw [hc1]; decide) (by decide) ?_
    refine lv_aload_n (pc := 45) hx hb dX0_goOn_45 rfl (lv_at hl 0 rfl) ?_
    refine lv_dup (pc := 46) hx hb dX0_goOn_46 rfl ?_
    refine q_getI (pc := 47) (q := q0) hx hb hts hown hK hw hq0 fg_X0_13 dX0_goOn_47 ?_
    refine lv_iconst (pc := 50) (v := (iI 1)) hx hb dX0_goOn_50 rfl ?_
    refine lv_iadd (pc := 51) hx hb dX0_goOn_51 ?_
    refine q_putI (pc := 52) (q := q0) hx hb hts hown hK hw hq0 fp_X0_13 dX0_goOn_52 hs (fun h2 H locs hw hs => ?_)
    refine lv_goto (pc := 55) (tgt := 81) hx hb dX0_goOn_55 (by decide) ?_
    exact q_vret hret dX0_goOn_81 hw hs
  replace hs := q_f hc1 hs
  by_cases hc2 : (gI h q0 2) = iI 2
  · replace hs := q_t hc2 hs
    refine lv_tableIn (pc := 4) (off := 54) (tgt := 58) hx hb dX0_goOn_4 (by rw [hc2]; decide) (by rw [hc2]; decide) (by rw [hc2]; decide) (by decide) ?_
    refine lv_aload_n (pc := 58) hx hb dX0_goOn_58 rfl (lv_at hl 0 rfl) ?_
    refine lv_dup (pc := 59) hx hb dX0_goOn_59 rfl ?_
    refine q_getI (pc := 60) (q := q0) hx hb hts hown hK hw hq0 fg_X0_7 dX0_goOn_60 ?_
    refine lv_iconst (pc := 63) (v := (iI 1)) hx hb dX0_goOn_63 rfl ?_
    refine lv_iadd (pc := 64) hx hb dX0_goOn_64 ?_
    refine q_putI (pc := 65) (q := q0) hx hb hts hown hK hw hq0 fp_X0_7 dX0_goOn_65 hs (fun h3 H locs hw hs => ?_)
    refine lv_goto (pc := 68) (tgt := 81) hx hb dX0_goOn_68 (by decide) ?_
    exact q_vret hret dX0_goOn_81 hw hs
  replace hs := q_f hc2 hs
  refine lv_tableOut (pc := 4) (tgt := 71) hx hb dX0_goOn_4 (by have thc0 := toInt_ne hc0; have thc1 := toInt_ne hc1; have thc2 := toInt_ne hc2; omega) (by decide) ?_
  refine lv_aload_n (pc := 71) hx hb dX0_goOn_71 rfl (lv_at hl 0 rfl) ?_
  refine lv_dup (pc := 72) hx hb dX0_goOn_72 rfl ?_
  refine q_getI (pc := 73) (q := q0) hx hb hts hown hK hw hq0 fg_X0_13 dX0_goOn_73 ?_
  refine lv_iconst (pc := 76) (v := (iI 1)) hx hb dX0_goOn_76 rfl ?_
  refine lv_isub (pc := 77) hx hb dX0_goOn_77 ?_
  refine q_putI (pc := 78) (q := q0) hx hb hts hown hK hw hq0 fp_X0_13 dX0_goOn_78 hs (fun h4 H locs hw hs => ?_)
  exact q_vret hret dX0_goOn_81 hw hs

set_option maxHeartbeats 4000000 in
theorem c_X0_isOutside (l : Launch) (G : GG) (q0 : Nat) (hq0 : LAY[q0]? = some (3, 0)) (q1 : Nat) (hq1 : LAY[q1]? = some (6, 0)) (h : Mem) (v : Int32)  (hs : f_X0_isOutside h q0 q1 = some v) : Sat l G yX0_isOutside cX0_isOutside 2 (some .boolean) 0 [.ref (G.2.2.1 q0), .ref (G.2.2.1 q1)] h (some (.int v)) h := by
  refine Sat.mkZ (by decide) (Nat.le_of_ble_eq_true rfl) ?_
  intro p e R s m args below meth c Q F hret hw ls hl
  obtain ⟨hx, hb, hml, hown, hts, hK, hSt, hN, hR⟩ := F
  have hl : lv_has ls 2 [(0, .ref (G.2.2.1 q0)), (1, .ref (G.2.2.1 q1))] := hl
  unfold f_X0_isOutside at hs
  refine lv_aload_n (pc := 0) hx hb dX0_isOutside_0 rfl (lv_at hl 0 rfl) ?_
  refine q_getI (pc := 1) (q := q0) hx hb hts hown hK hw hq0 fg_X0_7 dX0_isOutside_1 ?_
  refine q_join0 (P0 := ∀ (H : Heap) (locs : List Loc), IW G s h H locs → ∀ ls : Array Slot, lv_has ls 2 [] → W p l e R s m args below meth c H locs 0 0 Q (F0 m 36 ls [])) hs ?_ ?_
  · intro  hs H locs hw ls hl
    refine lv_iconst (pc := 36) (v := (iI 1)) hx hb dX0_isOutside_36 rfl ?_
    refine lv_goto (pc := 37) (tgt := 41) hx hb dX0_isOutside_37 (by decide) ?_
    exact q_zret hret dX0_isOutside_41 hw hs
  · intro K1 hK1 hs
    refine lv_if_lt (pc := 4) (tgt := 36) hx hb dX0_isOutside_4 (by decide) (fun hc => ?_) (fun hc => ?_)
    · replace hs := q_t hc hs
      exact hK1 hs _ _ hw _ (lv_sub hl [] rfl)
    · replace hs := q_f hc hs
      refine lv_aload_n (pc := 7) hx hb dX0_isOutside_7 rfl (lv_at hl 0 rfl) ?_
      refine q_getI (pc := 8) (q := q0) hx hb hts hown hK hw hq0 fg_X0_7 dX0_isOutside_8 ?_
      refine lv_aload_n (pc := 11) hx hb dX0_isOutside_11 rfl (lv_at hl 1 rfl) ?_
      refine q_getI (pc := 12) (q := q1) hx hb hts hown hK hw hq1 fg_X0_93 dX0_isOutside_12 ?_
      refine lv_icmp_ge (pc := 15) (tgt := 36) hx hb dX0_isOutside_15 (by decide) (fun hc => ?_) (fun hc => ?_)
      · replace hs := q_t hc hs
        exact hK1 hs _ _ hw _ (lv_sub hl [] rfl)
      · replace hs := q_f hc hs
        refine lv_aload_n (pc := 18) hx hb dX0_isOutside_18 rfl (lv_at hl 0 rfl) ?_
        refine q_getI (pc := 19) (q := q0) hx hb hts hown hK hw hq0 fg_X0_13 dX0_isOutside_19 ?_
        refine lv_if_lt (pc := 22) (tgt := 36) hx hb dX0_isOutside_22 (by decide) (fun hc => ?_) (fun hc => ?_)
        · replace hs := q_t hc hs
          exact hK1 hs _ _ hw _ (lv_sub hl [] rfl)
        · replace hs := q_f hc hs
          refine lv_aload_n (pc := 25) hx hb dX0_isOutside_25 rfl (lv_at hl 0 rfl) ?_
          refine q_getI (pc := 26) (q := q0) hx hb hts hown hK hw hq0 fg_X0_13 dX0_isOutside_26 ?_
          refine lv_aload_n (pc := 29) hx hb dX0_isOutside_29 rfl (lv_at hl 1 rfl) ?_
          refine q_getI (pc := 30) (q := q1) hx hb hts hown hK hw hq1 fg_X0_38 dX0_isOutside_30 ?_
          refine lv_icmp_lt (pc := 33) (tgt := 40) hx hb dX0_isOutside_33 (by decide) (fun hc => ?_) (fun hc => ?_)
          · replace hs := q_t hc hs
            refine lv_iconst (pc := 40) (v := (iI 0)) hx hb dX0_isOutside_40 rfl ?_
            exact q_zret hret dX0_isOutside_41 hw hs
          · replace hs := q_f hc hs
            exact hK1 hs _ _ hw _ (lv_sub hl [] rfl)

set_option maxHeartbeats 4000000 in
theorem c_X0_windowHere (l : Launch) (G : GG) (q0 : Nat) (hq0 : LAY[q0]? = some (3, 0)) (q1 : Nat) (hq1 : LAY[q1]? = some (6, 0)) (h : Mem) (v : Int32)  (hs : f_X0_windowHere h q0 q1 = some v) : Sat l G yX0_windowHere cX0_windowHere 2 (some .int) 0 [.ref (G.2.2.1 q0), .ref (G.2.2.1 q1)] h (some (.int v)) h := by
  refine Sat.mkI (by decide) (Nat.le_of_ble_eq_true rfl) ?_
  intro p e R s m args below meth c Q F hret hw ls hl
  obtain ⟨hx, hb, hml, hown, hts, hK, hSt, hN, hR⟩ := F
  have hl : lv_has ls 2 [(0, .ref (G.2.2.1 q0)), (1, .ref (G.2.2.1 q1))] := hl
  unfold f_X0_windowHere at hs
  refine lv_aload_n (pc := 0) hx hb dX0_windowHere_0 rfl (lv_at hl 0 rfl) ?_
  refine q_getI (pc := 1) (q := q0) hx hb hts hown hK hw hq0 fg_X0_7 dX0_windowHere_1 ?_
  refine lv_if_ge (pc := 4) (tgt := 12) hx hb dX0_windowHere_4 (by decide) (fun hc => ?_) (fun hc => ?_)
  · replace hs := q_t hc hs
    refine lv_aload_n (pc := 12) hx hb dX0_windowHere_12 rfl (lv_at hl 0 rfl) ?_
    refine q_getI (pc := 13) (q := q0) hx hb hts hown hK hw hq0 fg_X0_13 dX0_windowHere_13 ?_
    refine lv_aload_n (pc := 16) hx hb dX0_windowHere_16 rfl (lv_at hl 1 rfl) ?_
    refine q_getI (pc := 17) (q := q1) hx hb hts hown hK hw hq1 fg_X0_38 dX0_windowHere_17 ?_
    refine lv_icmp_lt (pc := 20) (tgt := 33) hx hb dX0_windowHere_20 (by decide) (fun hc => ?_) (fun hc => ?_)
    · replace hs := q_t hc hs
      refine lv_aload_n (pc := 33) hx hb dX0_windowHere_33 rfl (lv_at hl 0 rfl) ?_
      refine q_getI (pc := 34) (q := q0) hx hb hts hown hK hw hq0 fg_X0_7 dX0_windowHere_34 ?_
      refine lv_aload_n (pc := 37) hx hb dX0_windowHere_37 rfl (lv_at hl 1 rfl) ?_
      refine q_getI (pc := 38) (q := q1) hx hb hts hown hK hw hq1 fg_X0_93 dX0_windowHere_38 ?_
      refine lv_icmp_lt (pc := 41) (tgt := 61) hx hb dX0_windowHere_41 (by decide) (fun hc => ?_) (fun hc => ?_)
      · replace hs := q_t hc hs
        refine lv_iconst (pc := 61) (v := (iI 2)) hx hb dX0_windowHere_61 rfl ?_
        refine lv_aload_n (pc := 62) hx hb dX0_windowHere_62 rfl (lv_at hl 1 rfl) ?_
        refine q_getI (pc := 63) (q := q1) hx hb hts hown hK hw hq1 fg_X0_38 dX0_windowHere_63 ?_
        refine lv_imul (pc := 66) hx hb dX0_windowHere_66 ?_
        refine lv_aload_n (pc := 67) hx hb dX0_windowHere_67 rfl (lv_at hl 1 rfl) ?_
        refine q_getI (pc := 68) (q := q1) hx hb hts hown hK hw hq1 fg_X0_93 dX0_windowHere_68 ?_
        refine lv_iadd (pc := 71) hx hb dX0_windowHere_71 ?_
        refine lv_aload_n (pc := 72) hx hb dX0_windowHere_72 rfl (lv_at hl 0 rfl) ?_
        refine q_getI (pc := 73) (q := q0) hx hb hts hown hK hw hq0 fg_X0_7 dX0_windowHere_73 ?_
        refine lv_iadd (pc := 76) hx hb dX0_windowHere_76 ?_
        exact q_iret hret dX0_windowHere_77 hw hs
      · replace hs := q_f hc hs
        refine lv_aload_n (pc := 44) hx hb dX0_windowHere_44 rfl (lv_at hl 1 rfl) ?_
        refine q_getI (pc := 45) (q := q1) hx hb hts hown hK hw hq1 fg_X0_38 dX0_windowHere_45 ?_
        refine lv_aload_n (pc := 48) hx hb dX0_windowHere_48 rfl (lv_at hl 1 rfl) ?_
        refine q_getI (pc := 49) (q := q1) hx hb hts hown hK hw hq1 fg_X0_93 dX0_windowHere_49 ?_
        refine lv_iadd (pc := 52) hx hb dX0_windowHere_52 ?_
        refine lv_aload_n (pc := 53) hx hb dX0_windowHere_53 rfl (lv_at hl 0 rfl) ?_
        refine q_getI (pc := 54) (q := q0) hx hb hts hown hK hw hq0 fg_X0_13 dX0_windowHere_54 ?_
        refine lv_iadd (pc := 57) hx hb dX0_windowHere_57 ?_
        refine lv_goto (pc := 58) (tgt := 77) hx hb dX0_windowHere_58 (by decide) ?_
        exact q_iret hret dX0_windowHere_77 hw hs
    · replace hs := q_f hc hs
      refine lv_aload_n (pc := 23) hx hb dX0_windowHere_23 rfl (lv_at hl 1 rfl) ?_
      refine q_getI (pc := 24) (q := q1) hx hb hts hown hK hw hq1 fg_X0_38 dX0_windowHere_24 ?_
      refine lv_aload_n (pc := 27) hx hb dX0_windowHere_27 rfl (lv_at hl 0 rfl) ?_
      refine q_getI (pc := 28) (q := q0) hx hb hts hown hK hw hq0 fg_X0_7 dX0_windowHere_28 ?_
      refine lv_iadd (pc := 31) hx hb dX0_windowHere_31 ?_
      exact q_iret hret dX0_windowHere_32 hw hs
  · replace hs := q_f hc hs
    refine lv_aload_n (pc := 7) hx hb dX0_windowHere_7 rfl (lv_at hl 0 rfl) ?_
    refine q_getI (pc := 8) (q := q0) hx hb hts hown hK hw hq0 fg_X0_13 dX0_windowHere_8 ?_
    exact q_iret hret dX0_windowHere_11 hw hs

set_option maxHeartbeats 4000000 in
theorem c_X3_above (l : Launch) (G : GG) (a0 : Int32) (h : Mem) (v : Int32)  (hs : f_X3_above h a0 = some v) : Sat l G yX3_above cX3_above 1 (some .int) 1 [.int a0] h (some (.int v)) h := by
  refine Sat.mkI (by decide) (Nat.le_of_ble_eq_true rfl) ?_
  intro p e R s m args below meth c Q F hret hw ls hl
  obtain ⟨hx, hb, hml, hown, hts, hK, hSt, hN, hR⟩ := F
  have hl : lv_has ls 1 [(0, .int a0)] := hl
  unfold f_X3_above at hs
  refine lv_iload_n (pc := 0) hx hb dX3_above_0 rfl (lv_at hl 0 rfl) ?_
  refine lv_iconst (pc := 1) (v := (iI 0)) hx hb dX3_above_1 rfl ?_
  refine q_gets (pc := 2) hx hb hts hown hw hSt.1.1 fs_X3_33 dX3_above_2 ?_
  refine q_tlen (pc := 5) hx hb hw hSt.1.2 dX3_above_5 ?_
  refine lv_iconst (pc := 6) (v := (iI 1)) hx hb dX3_above_6 rfl ?_
  refine lv_isub (pc := 7) hx hb dX3_above_7 ?_
  obtain ⟨v1, ev, hs⟩ := q_cal hs
  refine q_callN (pc := 8) (As := [.int a0, .int (iI 0), .int ((Int32.ofNat 7) - (iI 1))]) (rest := []) (rs := [.int v1]) hx hb hml hl.1 hts hown hK hSt hN hw (c_X10_within l G a0 (iI 0) ((Int32.ofNat 7) - (iI 1)) h v1 ev) cn_X3_36 (rm_ok hR (by decide)) rfl (Nat.le_of_ble_eq_true rfl) rfl rfl dX3_above_8 (fun H locs hw => ?_)
  refine lv_if_eq (pc := 11) (tgt := 22) hx hb dX3_above_11 (by decide) (fun hc => ?_) (fun hc => ?_)
  · replace hs := q_t hc hs
    refine lv_iconst (pc := 22) (v := (iI (-1))) hx hb dX3_above_22 rfl ?_
    exact q_iret hret dX3_above_23 hw hs
  · replace hs := q_f hc hs
    refine q_gets (pc := 14) hx hb hts hown hw hSt.1.1 fs_X3_33 dX3_above_14 ?_
    refine lv_iload_n (pc := 17) hx hb dX3_above_17 rfl (lv_at hl 0 rfl) ?_
    refine q_tldI (pc := 18) hx hb hw hSt.1.2 dX3_above_18 hs (fun v2 hs => ?_)
    refine lv_goto (pc := 19) (tgt := 23) hx hb dX3_above_19 (by decide) ?_
    exact q_iret hret dX3_above_23 hw hs

set_option maxHeartbeats 4000000 in
theorem c_X3_isOf (l : Launch) (G : GG) (a0 : Int32) (a1 : Int32) (h : Mem) (v : Int32)  (hs : f_X3_isOf h a0 a1 = some v) : Sat l G yX3_isOf cX3_isOf 4 (some .boolean) 2 [.int a0, .int a1] h (some (.int v)) h := by
  refine Sat.mkZ (by decide) (Nat.le_of_ble_eq_true rfl) ?_
  intro p e R s m args below meth c Q F hret hw ls hl
  obtain ⟨hx, hb, hml, hown, hts, hK, hSt, hN, hR⟩ := F
  have hl : lv_has ls 4 [(0, .int a0), (1, .int a1)] := hl
  unfold f_X3_isOf at hs
  refine lv_iload_n (pc := 0) hx hb dX3_isOf_0 rfl (lv_at hl 0 rfl) ?_
  refine lv_istore_n (pc := 1) (lv' := [(2, .int a0), (0, .int a0), (1, .int a1)]) hx hb dX3_isOf_1 rfl hl (by decide) rfl (fun ls hl => ?_)
  refine lv_iconst (pc := 2) (v := (iI 0)) hx hb dX3_isOf_2 rfl ?_
  refine lv_istore_n (pc := 3) (lv' := [(3, .int (iI 0)), (2, .int a0), (0, .int a0), (1, .int a1)]) hx hb dX3_isOf_3 rfl hl (by decide) rfl (fun ls hl => ?_)
  refine (q_lo2 (P0 := fun (x1 : Int32) (x2 : Int32) => ∀ (H : Heap) (locs : List Loc), IW G s h H locs → ∀ ls : Array Slot, lv_has ls 4 [(1, .int a1), (2, .int x1), (3, .int x2)] → W p l e R s m args below meth c H locs 0 0 Q (F0 m 4 ls [])) hs ?_) _ _ hw _ (lv_sub hl [3, 1, 0] rfl)
  intro K3 hK3 x1 x2 hs H locs hw ls hl
  unfold f_X3_isOf_k3 at hs
  refine lv_iload_n (pc := 4) hx hb dX3_isOf_4 rfl (lv_at hl 2 rfl) ?_
  refine lv_bipush (pc := 5) (v := (iI 7)) hx hb dX3_isOf_5 (by decide) ?_
  refine lv_icmp_ge (pc := 7) (tgt := 32) hx hb dX3_isOf_7 (by decide) (fun hc => ?_) (fun hc => ?_)
  · replace hs := q_t hc hs
    refine lv_iconst (pc := 32) (v := (iI 0)) hx hb dX3_isOf_32 rfl ?_
    exact q_zret hret dX3_isOf_33 hw hs
  · replace hs := q_f hc hs
    refine lv_iload_n (pc := 10) hx hb dX3_isOf_10 rfl (lv_at hl 1 rfl) ?_
    refine lv_if_lt (pc := 11) (tgt := 32) hx hb dX3_isOf_11 (by decide) (fun hc => ?_) (fun hc => ?_)
    · replace hs := q_t hc hs
      refine lv_iconst (pc := 32) (v := (iI 0)) hx hb dX3_isOf_32 rfl ?_
      exact q_zret hret dX3_isOf_33 hw hs
    · replace hs := q_f hc hs
      refine lv_iload_n (pc := 14) hx hb dX3_isOf_14 rfl (lv_at hl 1 rfl) ?_
      refine lv_iload_n (pc := 15) hx hb dX3_isOf_15 rfl (lv_at hl 0 rfl) ?_
      refine lv_icmp_ne (pc := 16) (tgt := 21) hx hb dX3_isOf_16 (by decide) (fun hc => ?_) (fun hc => ?_)
      · replace hs := q_t hc hs
        refine lv_iload_n (pc := 21) hx hb dX3_isOf_21 rfl (lv_at hl 1 rfl) ?_
        obtain ⟨v4, ev, hs⟩ := q_cal hs
        refine q_callS (pc := 22) (As := [.int x1]) (rest := []) (rs := [.int v4]) hx hb hml hl.1 hts hown hK hSt hN hw (c_X3_above l G x1 h v4 ev) cs_X3_42 (rm_ok hR (by decide)) rfl (Nat.le_of_ble_eq_true rfl) rfl rfl dX3_isOf_22 (fun H locs hw => ?_)
        refine lv_istore_n (pc := 25) (lv' := [(2, .int v4), (1, .int a1), (3, .int x2)]) hx hb dX3_isOf_25 rfl hl (by decide) rfl (fun ls hl => ?_)
        obtain ⟨x5, ex5, hs⟩ := q_nm hs
        refine lv_iinc (pc := 26) (v := x5) (lv' := [(3, .int x5), (2, .int v4), (1, .int a1)]) hx hb dX3_isOf_26 hl (k := 2) rfl ex5 (by decide) rfl (fun ls hl => ?_)
        refine lv_goto (pc := 29) (tgt := 4) hx hb dX3_isOf_29 (by decide) ?_
        exact hK3 _ _ hs _ _ hw _ (lv_sub hl [2, 1, 0] rfl)
      · replace hs := q_f (fun z => z hc) hs
        refine lv_iconst (pc := 19) (v := (iI 1)) hx hb dX3_isOf_19 rfl ?_
        exact q_zret hret dX3_isOf_20 hw hs

set_option maxHeartbeats 4000000 in
theorem c_X3_throwsRays (l : Launch) (G : GG) (a0 : Int32) (h : Mem) (v : Int32)  (hs : f_X3_throwsRays h a0 = some v) : Sat l G yX3_throwsRays cX3_throwsRays 1 (some .boolean) 0 [.int a0] h (some (.int v)) h := by
  refine Sat.mkZ (by decide) (Nat.le_of_ble_eq_true rfl) ?_
  intro p e R s m args below meth c Q F hret hw ls hl
  obtain ⟨hx, hb, hml, hown, hts, hK, hSt, hN, hR⟩ := F
  have hl : lv_has ls 1 [(0, .int a0)] := hl
  unfold f_X3_throwsRays at hs
  refine lv_iload_n (pc := 0) hx hb dX3_throwsRays_0 rfl (lv_at hl 0 rfl) ?_
  refine lv_iconst (pc := 1) (v := (iI 1)) hx hb dX3_throwsRays_1 rfl ?_
  refine q_join0 (P0 := ∀ (H : Heap) (locs : List Loc), IW G s h H locs → ∀ ls : Array Slot, lv_has ls 1 [] → W p l e R s m args below meth c H locs 0 0 Q (F0 m 15 ls [])) hs ?_ ?_
  · intro  hs H locs hw ls hl
    refine lv_iconst (pc := 15) (v := (iI 1)) hx hb dX3_throwsRays_15 rfl ?_
    refine lv_goto (pc := 16) (tgt := 20) hx hb dX3_throwsRays_16 (by decide) ?_
    exact q_zret hret dX3_throwsRays_20 hw hs
  · intro K1 hK1 hs
    refine lv_icmp_eq (pc := 2) (tgt := 15) hx hb dX3_throwsRays_2 (by decide) (fun hc => ?_) (fun hc => ?_)
    · replace hs := q_t hc hs
      exact hK1 hs _ _ hw _ (lv_sub hl [] rfl)
    · replace hs := q_f hc hs
      refine lv_iload_n (pc := 5) hx hb dX3_throwsRays_5 rfl (lv_at hl 0 rfl) ?_
      refine lv_iconst (pc := 6) (v := (iI 4)) hx hb dX3_throwsRays_6 rfl ?_
      refine lv_icmp_eq (pc := 7) (tgt := 15) hx hb dX3_throwsRays_7 (by decide) (fun hc => ?_) (fun hc => ?_)
      · replace hs := q_t hc hs
        exact hK1 hs _ _ hw _ (lv_sub hl [] rfl)
      · replace hs := q_f hc hs
        refine lv_iload_n (pc := 10) hx hb dX3_throwsRays_10 rfl (lv_at hl 0 rfl) ?_
        refine lv_iconst (pc := 11) (v := (iI 5)) hx hb dX3_throwsRays_11 rfl ?_
        refine lv_icmp_ne (pc := 12) (tgt := 19) hx hb dX3_throwsRays_12 (by decide) (fun hc => ?_) (fun hc => ?_)
        · replace hs := q_t hc hs
          refine lv_iconst (pc := 19) (v := (iI 0)) hx hb dX3_throwsRays_19 rfl ?_
          exact q_zret hret dX3_throwsRays_20 hw hs
        · replace hs := q_f (fun z => z hc) hs
          exact hK1 hs _ _ hw _ (lv_sub hl [] rfl)

set_option maxHeartbeats 4000000 in
theorem c_X3_stopsRays (l : Launch) (G : GG) (a0 : Int32) (h : Mem) (v : Int32)  (hs : f_X3_stopsRays h a0 = some v) : Sat l G yX3_stopsRays cX3_stopsRays 1 (some .boolean) 0 [.int a0] h (some (.int v)) h := by
  refine Sat.mkZ (by decide) (Nat.le_of_ble_eq_true rfl) ?_
  intro p e R s m args below meth c Q F hret hw ls hl
  obtain ⟨hx, hb, hml, hown, hts, hK, hSt, hN, hR⟩ := F
  have hl : lv_has ls 1 [(0, .int a0)] := hl
  unfold f_X3_stopsRays at hs
  refine lv_iload_n (pc := 0) hx hb dX3_stopsRays_0 rfl (lv_at hl 0 rfl) ?_
  refine lv_iconst (pc := 1) (v := (iI 3)) hx hb dX3_stopsRays_1 rfl ?_
  refine q_join0 (P0 := ∀ (H : Heap) (locs : List Loc), IW G s h H locs → ∀ ls : Array Slot, lv_has ls 1 [] → W p l e R s m args below meth c H locs 0 0 Q (F0 m 11 ls [])) hs ?_ ?_
  · intro  hs H locs hw ls hl
    refine lv_iconst (pc := 11) (v := (iI 1)) hx hb dX3_stopsRays_11 rfl ?_
    refine lv_goto (pc := 12) (tgt := 16) hx hb dX3_stopsRays_12 (by decide) ?_
    exact q_zret hret dX3_stopsRays_16 hw hs
  · intro K1 hK1 hs
    refine lv_icmp_eq (pc := 2) (tgt := 11) hx hb dX3_stopsRays_2 (by decide) (fun hc => ?_) (fun hc => ?_)
    · replace hs := q_t hc hs
      exact hK1 hs _ _ hw _ (lv_sub hl [] rfl)
    · replace hs := q_f hc hs
      refine lv_iload_n (pc := 5) hx hb dX3_stopsRays_5 rfl (lv_at hl 0 rfl) ?_
      refine lv_bipush (pc := 6) (v := (iI 6)) hx hb dX3_stopsRays_6 (by decide) ?_
      refine lv_icmp_ne (pc := 8) (tgt := 15) hx hb dX3_stopsRays_8 (by decide) (fun hc => ?_) (fun hc => ?_)
      · replace hs := q_t hc hs
        refine lv_iconst (pc := 15) (v := (iI 0)) hx hb dX3_stopsRays_15 rfl ?_
        exact q_zret hret dX3_stopsRays_16 hw hs
      · replace hs := q_f (fun z => z hc) hs
        exact hK1 hs _ _ hw _ (lv_sub hl [] rfl)

set_option maxHeartbeats 4000000 in
theorem c_X3_squares (l : Launch) (G : GG) (q0 : Nat) (hq0 : LAY[q0]? = some (6, 0)) (h : Mem) (v : Int32)  (hs : f_X3_squares h q0 = some v) : Sat l G yX3_squares cX3_squares 1 (some .int) 0 [.ref (G.2.2.1 q0)] h (some (.int v)) h := by
  refine Sat.mkI (by decide) (Nat.le_of_ble_eq_true rfl) ?_
  intro p e R s m args below meth c Q F hret hw ls hl
  obtain ⟨hx, hb, hml, hown, hts, hK, hSt, hN, hR⟩ := F
  have hl : lv_has ls 1 [(0, .ref (G.2.2.1 q0))] := hl
  unfold f_X3_squares at hs
  refine lv_aload_n (pc := 0) hx hb dX3_squares_0 rfl (lv_at hl 0 rfl) ?_
  refine q_getI (pc := 1) (q := q0) hx hb hts hown hK hw hq0 fg_X3_7 dX3_squares_1 ?_
  refine lv_aload_n (pc := 4) hx hb dX3_squares_4 rfl (lv_at hl 0 rfl) ?_
  refine q_getI (pc := 5) (q := q0) hx hb hts hown hK hw hq0 fg_X3_13 dX3_squares_5 ?_
  refine lv_imul (pc := 8) hx hb dX3_squares_8 ?_
  exact q_iret hret dX3_squares_9 hw hs

set_option maxHeartbeats 4000000 in
theorem c_X3_windows (l : Launch) (G : GG) (q0 : Nat) (hq0 : LAY[q0]? = some (6, 0)) (h : Mem) (v : Int32)  (hs : f_X3_windows h q0 = some v) : Sat l G yX3_windows cX3_windows 1 (some .int) 0 [.ref (G.2.2.1 q0)] h (some (.int v)) h := by
  refine Sat.mkI (by decide) (Nat.le_of_ble_eq_true rfl) ?_
  intro p e R s m args below meth c Q F hret hw ls hl
  obtain ⟨hx, hb, hml, hown, hts, hK, hSt, hN, hR⟩ := F
  have hl : lv_has ls 1 [(0, .ref (G.2.2.1 q0))] := hl
  unfold f_X3_windows at hs
  refine lv_iconst (pc := 0) (v := (iI 2)) hx hb dX3_windows_0 rfl ?_
  refine lv_aload_n (pc := 1) hx hb dX3_windows_1 rfl (lv_at hl 0 rfl) ?_
  refine q_getI (pc := 2) (q := q0) hx hb hts hown hK hw hq0 fg_X3_7 dX3_windows_2 ?_
  refine lv_aload_n (pc := 5) hx hb dX3_windows_5 rfl (lv_at hl 0 rfl) ?_
  refine q_getI (pc := 6) (q := q0) hx hb hts hown hK hw hq0 fg_X3_13 dX3_windows_6 ?_
  refine lv_iadd (pc := 9) hx hb dX3_windows_9 ?_
  refine lv_imul (pc := 10) hx hb dX3_windows_10 ?_
  exact q_iret hret dX3_windows_11 hw hs

set_option maxHeartbeats 4000000 in
theorem c_X3_hasSquare (l : Launch) (G : GG) (q0 : Nat) (hq0 : LAY[q0]? = some (6, 0)) (a1 : Int32) (h : Mem) (v : Int32)  (hs : f_X3_hasSquare h q0 a1 = some v) : Sat l G yX3_hasSquare cX3_hasSquare 2 (some .boolean) 1 [.ref (G.2.2.1 q0), .int a1] h (some (.int v)) h := by
  refine Sat.mkZ (by decide) (Nat.le_of_ble_eq_true rfl) ?_
  intro p e R s m args below meth c Q F hret hw ls hl
  obtain ⟨hx, hb, hml, hown, hts, hK, hSt, hN, hR⟩ := F
  have hl : lv_has ls 2 [(0, .ref (G.2.2.1 q0)), (1, .int a1)] := hl
  unfold f_X3_hasSquare at hs
  refine lv_iload_n (pc := 0) hx hb dX3_hasSquare_0 rfl (lv_at hl 1 rfl) ?_
  refine lv_iconst (pc := 1) (v := (iI 0)) hx hb dX3_hasSquare_1 rfl ?_
  refine lv_aload_n (pc := 2) hx hb dX3_hasSquare_2 rfl (lv_at hl 0 rfl) ?_
  obtain ⟨v1, ev, hs⟩ := q_cal hs
  refine q_callV (pc := 3) (q := q0) (As := []) (rest := [.int (iI 0), .int a1]) (rs := [.int v1, .int (iI 0), .int a1]) hx hb hml hl.1 hts hown hK hSt hN hw (c_X3_squares l G q0 hq0 h v1 ev) hq0 rfl cv_X3_46 (rm_ok hR (by decide)) rfl (Nat.le_of_ble_eq_true rfl) rfl rfl dX3_hasSquare_3 (fun H locs hw => ?_)
  refine lv_iconst (pc := 6) (v := (iI 1)) hx hb dX3_hasSquare_6 rfl ?_
  refine lv_isub (pc := 7) hx hb dX3_hasSquare_7 ?_
  obtain ⟨v2, ev, hs⟩ := q_cal hs
  refine q_callN (pc := 8) (As := [.int a1, .int (iI 0), .int (v1 - (iI 1))]) (rest := []) (rs := [.int v2]) hx hb hml hl.1 hts hown hK hSt hN hw (c_X10_within l G a1 (iI 0) (v1 - (iI 1)) h v2 ev) cn_X3_36 (rm_ok hR (by decide)) rfl (Nat.le_of_ble_eq_true rfl) rfl rfl dX3_hasSquare_8 (fun H locs hw => ?_)
  exact q_zret hret dX3_hasSquare_11 hw hs

set_option maxHeartbeats 4000000 in
theorem c_X3_hasWindow (l : Launch) (G : GG) (q0 : Nat) (hq0 : LAY[q0]? = some (6, 0)) (a1 : Int32) (h : Mem) (v : Int32)  (hs : f_X3_hasWindow h q0 a1 = some v) : Sat l G yX3_hasWindow cX3_hasWindow 2 (some .boolean) 1 [.ref (G.2.2.1 q0), .int a1] h (some (.int v)) h := by
  refine Sat.mkZ (by decide) (Nat.le_of_ble_eq_true rfl) ?_
  intro p e R s m args below meth c Q F hret hw ls hl
  obtain ⟨hx, hb, hml, hown, hts, hK, hSt, hN, hR⟩ := F
  have hl : lv_has ls 2 [(0, .ref (G.2.2.1 q0)), (1, .int a1)] := hl
  unfold f_X3_hasWindow at hs
  refine lv_iload_n (pc := 0) hx hb dX3_hasWindow_0 rfl (lv_at hl 1 rfl) ?_
  refine lv_iconst (pc := 1) (v := (iI 0)) hx hb dX3_hasWindow_1 rfl ?_
  refine lv_aload_n (pc := 2) hx hb dX3_hasWindow_2 rfl (lv_at hl 0 rfl) ?_
  obtain ⟨v1, ev, hs⟩ := q_cal hs
  refine q_callV (pc := 3) (q := q0) (As := []) (rest := [.int (iI 0), .int a1]) (rs := [.int v1, .int (iI 0), .int a1]) hx hb hml hl.1 hts hown hK hSt hN hw (c_X3_windows l G q0 hq0 h v1 ev) hq0 rfl cv_X3_50 (rm_ok hR (by decide)) rfl (Nat.le_of_ble_eq_true rfl) rfl rfl dX3_hasWindow_3 (fun H locs hw => ?_)
  refine lv_iconst (pc := 6) (v := (iI 1)) hx hb dX3_hasWindow_6 rfl ?_
  refine lv_isub (pc := 7) hx hb dX3_hasWindow_7 ?_
  obtain ⟨v2, ev, hs⟩ := q_cal hs
  refine q_callN (pc := 8) (As := [.int a1, .int (iI 0), .int (v1 - (iI 1))]) (rest := []) (rs := [.int v2]) hx hb hml hl.1 hts hown hK hSt hN hw (c_X10_within l G a1 (iI 0) (v1 - (iI 1)) h v2 ev) cn_X3_36 (rm_ok hR (by decide)) rfl (Nat.le_of_ble_eq_true rfl) rfl rfl dX3_hasWindow_8 (fun H locs hw => ?_)
  exact q_zret hret dX3_hasWindow_11 hw hs

set_option maxHeartbeats 4000000 in
theorem c_X3_hasMask (l : Launch) (G : GG) (q0 : Nat) (hq0 : LAY[q0]? = some (6, 0)) (a1 : Int32) (h : Mem) (v : Int32)  (hs : f_X3_hasMask h q0 a1 = some v) : Sat l G yX3_hasMask cX3_hasMask 2 (some .boolean) 1 [.ref (G.2.2.1 q0), .int a1] h (some (.int v)) h := by
  refine Sat.mkZ (by decide) (Nat.le_of_ble_eq_true rfl) ?_
  intro p e R s m args below meth c Q F hret hw ls hl
  obtain ⟨hx, hb, hml, hown, hts, hK, hSt, hN, hR⟩ := F
  have hl : lv_has ls 2 [(0, .ref (G.2.2.1 q0)), (1, .int a1)] := hl
  unfold f_X3_hasMask at hs
  refine lv_iload_n (pc := 0) hx hb dX3_hasMask_0 rfl (lv_at hl 1 rfl) ?_
  refine lv_iconst (pc := 1) (v := (iI 0)) hx hb dX3_hasMask_1 rfl ?_
  refine lv_iconst (pc := 2) (v := (iI 1)) hx hb dX3_hasMask_2 rfl ?_
  refine lv_aload_n (pc := 3) hx hb dX3_hasMask_3 rfl (lv_at hl 0 rfl) ?_
  obtain ⟨v1, ev, hs⟩ := q_cal hs
  refine q_callV (pc := 4) (q := q0) (As := []) (rest := [.int (iI 1), .int (iI 0), .int a1]) (rs := [.int v1, .int (iI 1), .int (iI 0), .int a1]) hx hb hml hl.1 hts hown hK hSt hN hw (c_X3_squares l G q0 hq0 h v1 ev) hq0 rfl cv_X3_46 (rm_ok hR (by decide)) rfl (Nat.le_of_ble_eq_true rfl) rfl rfl dX3_hasMask_4 (fun H locs hw => ?_)
  refine q_ishl (pc := 7) hx hb dX3_hasMask_7 ?_
  refine lv_iconst (pc := 8) (v := (iI 1)) hx hb dX3_hasMask_8 rfl ?_
  refine lv_isub (pc := 9) hx hb dX3_hasMask_9 ?_
  obtain ⟨v2, ev, hs⟩ := q_cal hs
  refine q_callN (pc := 10) (As := [.int a1, .int (iI 0), .int ((shlI (iI 1) v1) - (iI 1))]) (rest := []) (rs := [.int v2]) hx hb hml hl.1 hts hown hK hSt hN hw (c_X10_within l G a1 (iI 0) ((shlI (iI 1) v1) - (iI 1)) h v2 ev) cn_X3_36 (rm_ok hR (by decide)) rfl (Nat.le_of_ble_eq_true rfl) rfl rfl dX3_hasMask_10 (fun H locs hw => ?_)
  exact q_zret hret dX3_hasMask_13 hw hs

set_option maxHeartbeats 4000000 in
theorem c_X3_isSizedAs (l : Launch) (G : GG) (q0 : Nat) (hq0 : LAY[q0]? = some (6, 0)) (q1 : Nat) (hq1 : LAY[q1]? = some (6, 0)) (h : Mem) (v : Int32)  (hs : f_X3_isSizedAs h q0 q1 = some v) : Sat l G yX3_isSizedAs cX3_isSizedAs 2 (some .boolean) 0 [.ref (G.2.2.1 q0), .ref (G.2.2.1 q1)] h (some (.int v)) h := by
  refine Sat.mkZ (by decide) (Nat.le_of_ble_eq_true rfl) ?_
  intro p e R s m args below meth c Q F hret hw ls hl
  obtain ⟨hx, hb, hml, hown, hts, hK, hSt, hN, hR⟩ := F
  have hl : lv_has ls 2 [(0, .ref (G.2.2.1 q0)), (1, .ref (G.2.2.1 q1))] := hl
  unfold f_X3_isSizedAs at hs
  refine lv_aload_n (pc := 0) hx hb dX3_isSizedAs_0 rfl (lv_at hl 0 rfl) ?_
  refine q_getI (pc := 1) (q := q0) hx hb hts hown hK hw hq0 fg_X3_7 dX3_isSizedAs_1 ?_
  refine lv_aload_n (pc := 4) hx hb dX3_isSizedAs_4 rfl (lv_at hl 1 rfl) ?_
  refine q_getI (pc := 5) (q := q1) hx hb hts hown hK hw hq1 fg_X3_7 dX3_isSizedAs_5 ?_
  refine q_join0 (P0 := ∀ (H : Heap) (locs : List Loc), IW G s h H locs → ∀ ls : Array Slot, lv_has ls 2 [] → W p l e R s m args below meth c H locs 0 0 Q (F0 m 26 ls [])) hs ?_ ?_
  · intro  hs H locs hw ls hl
    refine lv_iconst (pc := 26) (v := (iI 0)) hx hb dX3_isSizedAs_26 rfl ?_
    exact q_zret hret dX3_isSizedAs_27 hw hs
  · intro K1 hK1 hs
    refine lv_icmp_ne (pc := 8) (tgt := 26) hx hb dX3_isSizedAs_8 (by decide) (fun hc => ?_) (fun hc => ?_)
    · replace hs := q_t hc hs
      exact hK1 hs _ _ hw _ (lv_sub hl [] rfl)
    · replace hs := q_f (fun z => z hc) hs
      refine lv_aload_n (pc := 11) hx hb dX3_isSizedAs_11 rfl (lv_at hl 0 rfl) ?_
      refine q_getI (pc := 12) (q := q0) hx hb hts hown hK hw hq0 fg_X3_13 dX3_isSizedAs_12 ?_
      refine lv_aload_n (pc := 15) hx hb dX3_isSizedAs_15 rfl (lv_at hl 1 rfl) ?_
      refine q_getI (pc := 16) (q := q1) hx hb hts hown hK hw hq1 fg_X3_13 dX3_isSizedAs_16 ?_
      refine lv_icmp_ne (pc := 19) (tgt := 26) hx hb dX3_isSizedAs_19 (by decide) (fun hc => ?_) (fun hc => ?_)
      · replace hs := q_t hc hs
        exact hK1 hs _ _ hw _ (lv_sub hl [] rfl)
      · replace hs := q_f (fun z => z hc) hs
        refine lv_iconst (pc := 22) (v := (iI 1)) hx hb dX3_isSizedAs_22 rfl ?_
        refine lv_goto (pc := 23) (tgt := 27) hx hb dX3_isSizedAs_23 (by decide) ?_
        exact q_zret hret dX3_isSizedAs_27 hw hs

set_option maxHeartbeats 4000000 in
theorem c_X3_stand (l : Launch) (G : GG) (q0 : Nat) (hq0 : LAY[q0]? = some (6, 0)) (a1 : Int32) (a2 : Int64) (h : Mem) (h' : Mem) (hs : f_X3_stand h q0 a1 a2 = some h') : Sat l G yX3_stand cX3_stand 4 none 0 [.ref (G.2.2.1 q0), .int a1, .long a2] h none h' := by
  refine Sat.mkV (by decide) (Nat.le_of_ble_eq_true rfl) ?_
  intro p e R s m args below meth c Q F hret hw ls hl
  obtain ⟨hx, hb, hml, hown, hts, hK, hSt, hN, hR⟩ := F
  have hl : lv_has ls 4 [(0, .ref (G.2.2.1 q0)), (1, .int a1), (2, .long a2)] := hl
  unfold f_X3_stand at hs
  refine lv_aload_n (pc := 0) hx hb dX3_stand_0 rfl (lv_at hl 0 rfl) ?_
  refine lv_iload_n (pc := 1) hx hb dX3_stand_1 rfl (lv_at hl 1 rfl) ?_
  refine q_putI (pc := 2) (q := q0) hx hb hts hown hK hw hq0 fp_X3_26 dX3_stand_2 hs (fun h1 H locs hw hs => ?_)
  refine lv_aload_n (pc := 5) hx hb dX3_stand_5 rfl (lv_at hl 0 rfl) ?_
  refine lv_lload_n (pc := 6) hx hb dX3_stand_6 rfl (lv_at hl 2 rfl) ?_
  refine q_putL (pc := 7) (q := q0) hx hb hts hown hK hw hq0 fp_X3_29 dX3_stand_7 hs (fun h2 H locs hw hs => ?_)
  exact q_vret hret dX3_stand_10 hw hs

set_option maxHeartbeats 4000000 in
theorem c_X3_standsAs (l : Launch) (G : GG) (q0 : Nat) (hq0 : LAY[q0]? = some (6, 0)) (q1 : Nat) (hq1 : LAY[q1]? = some (6, 0)) (h : Mem) (v : Int32)  (hs : f_X3_standsAs h q0 q1 = some v) : Sat l G yX3_standsAs cX3_standsAs 2 (some .boolean) 0 [.ref (G.2.2.1 q0), .ref (G.2.2.1 q1)] h (some (.int v)) h := by
  refine Sat.mkZ (by decide) (Nat.le_of_ble_eq_true rfl) ?_
  intro p e R s m args below meth c Q F hret hw ls hl
  obtain ⟨hx, hb, hml, hown, hts, hK, hSt, hN, hR⟩ := F
  have hl : lv_has ls 2 [(0, .ref (G.2.2.1 q0)), (1, .ref (G.2.2.1 q1))] := hl
  unfold f_X3_standsAs at hs
  refine lv_aload_n (pc := 0) hx hb dX3_standsAs_0 rfl (lv_at hl 0 rfl) ?_
  refine q_getI (pc := 1) (q := q0) hx hb hts hown hK hw hq0 fg_X3_26 dX3_standsAs_1 ?_
  refine lv_aload_n (pc := 4) hx hb dX3_standsAs_4 rfl (lv_at hl 1 rfl) ?_
  refine q_getI (pc := 5) (q := q1) hx hb hts hown hK hw hq1 fg_X3_26 dX3_standsAs_5 ?_
  refine q_join0 (P0 := ∀ (H : Heap) (locs : List Loc), IW G s h H locs → ∀ ls : Array Slot, lv_has ls 2 [] → W p l e R s m args below meth c H locs 0 0 Q (F0 m 27 ls [])) hs ?_ ?_
  · intro  hs H locs hw ls hl
    refine lv_iconst (pc := 27) (v := (iI 0)) hx hb dX3_standsAs_27 rfl ?_
    exact q_zret hret dX3_standsAs_28 hw hs
  · intro K1 hK1 hs
    refine lv_icmp_ne (pc := 8) (tgt := 27) hx hb dX3_standsAs_8 (by decide) (fun hc => ?_) (fun hc => ?_)
    · replace hs := q_t hc hs
      exact hK1 hs _ _ hw _ (lv_sub hl [] rfl)
    · replace hs := q_f (fun z => z hc) hs
      refine lv_aload_n (pc := 11) hx hb dX3_standsAs_11 rfl (lv_at hl 0 rfl) ?_
      refine q_getL (pc := 12) (q := q0) hx hb hts hown hK hw hq0 fg_X3_29 dX3_standsAs_12 ?_
      refine lv_aload_n (pc := 15) hx hb dX3_standsAs_15 rfl (lv_at hl 1 rfl) ?_
      refine q_getL (pc := 16) (q := q1) hx hb hts hown hK hw hq1 fg_X3_29 dX3_standsAs_16 ?_
      refine W.lcmp (pc := 19) hx hb dX3_standsAs_19 ?_
      refine lv_if_ne (pc := 20) (tgt := 27) hx hb dX3_standsAs_20 (by decide) (fun hc => ?_) (fun hc => ?_)
      · replace hs := q_t hc hs
        exact hK1 hs _ _ hw _ (lv_sub hl [] rfl)
      · replace hs := q_f (fun z => z hc) hs
        refine lv_iconst (pc := 23) (v := (iI 1)) hx hb dX3_standsAs_23 rfl ?_
        refine lv_goto (pc := 24) (tgt := 28) hx hb dX3_standsAs_24 (by decide) ?_
        exact q_zret hret dX3_standsAs_28 hw hs

set_option maxHeartbeats 4000000 in
theorem c_X3_slantOf (l : Launch) (G : GG) (q0 : Nat) (hq0 : LAY[q0]? = some (6, 0)) (a1 : Int32) (h : Mem) (v : Int32)  (hs : f_X3_slantOf h q0 a1 = some v) : Sat l G yX3_slantOf cX3_slantOf 2 (some .int) 0 [.ref (G.2.2.1 q0), .int a1] h (some (.int v)) h := by
  refine Sat.mkI (by decide) (Nat.le_of_ble_eq_true rfl) ?_
  intro p e R s m args below meth c Q F hret hw ls hl
  obtain ⟨hx, hb, hml, hown, hts, hK, hSt, hN, hR⟩ := F
  have hl : lv_has ls 2 [(0, .ref (G.2.2.1 q0)), (1, .int a1)] := hl
  unfold f_X3_slantOf at hs
  refine lv_aload_n (pc := 0) hx hb dX3_slantOf_0 rfl (lv_at hl 0 rfl) ?_
  refine q_getI (pc := 1) (q := q0) hx hb hts hown hK hw hq0 fg_X3_26 dX3_slantOf_1 ?_
  refine lv_iload_n (pc := 4) hx hb dX3_slantOf_4 rfl (lv_at hl 1 rfl) ?_
  refine lv_iushr (pc := 5) (v := (ushI (gI h q0 5) a1)) hx hb dX3_slantOf_5 rfl ?_
  refine lv_iconst (pc := 6) (v := (iI 1)) hx hb dX3_slantOf_6 rfl ?_
  refine lv_iand (pc := 7) hx hb dX3_slantOf_7 ?_
  exact q_iret hret dX3_slantOf_8 hw hs

set_option maxHeartbeats 4000000 in
theorem c_X3_timeOf (l : Launch) (G : GG) (q0 : Nat) (hq0 : LAY[q0]? = some (6, 0)) (a1 : Int32) (h : Mem) (v : Int32)  (hs : f_X3_timeOf h q0 a1 = some v) : Sat l G yX3_timeOf cX3_timeOf 2 (some .int) 0 [.ref (G.2.2.1 q0), .int a1] h (some (.int v)) h := by
  refine Sat.mkI (by decide) (Nat.le_of_ble_eq_true rfl) ?_
  intro p e R s m args below meth c Q F hret hw ls hl
  obtain ⟨hx, hb, hml, hown, hts, hK, hSt, hN, hR⟩ := F
  have hl : lv_has ls 2 [(0, .ref (G.2.2.1 q0)), (1, .int a1)] := hl
  unfold f_X3_timeOf at hs
  refine lv_aload_n (pc := 0) hx hb dX3_timeOf_0 rfl (lv_at hl 0 rfl) ?_
  refine q_getL (pc := 1) (q := q0) hx hb hts hown hK hw hq0 fg_X3_29 dX3_timeOf_1 ?_
  refine lv_iconst (pc := 4) (v := (iI 2)) hx hb dX3_timeOf_4 rfl ?_
  refine lv_iload_n (pc := 5) hx hb dX3_timeOf_5 rfl (lv_at hl 1 rfl) ?_
  refine lv_imul (pc := 6) hx hb dX3_timeOf_6 ?_
  refine lv_lushr (pc := 7) (v := (ushL (gL h q0 6) ((iI 2) * a1))) hx hb dX3_timeOf_7 rfl ?_
  refine lv_ldc2 (pc := 8) (v := (iL 3)) hx hb hown (hts _ kl_X3_77) dX3_timeOf_8 ?_
  refine lv_land (pc := 11) hx hb dX3_timeOf_11 ?_
  refine lv_l2i (pc := 12) hx hb dX3_timeOf_12 rfl ?_
  exact q_iret hret dX3_timeOf_13 hw hs

set_option maxHeartbeats 4000000 in
theorem c_X3_putTime (l : Launch) (G : GG) (q0 : Nat) (hq0 : LAY[q0]? = some (6, 0)) (a1 : Int32) (a2 : Int32) (h : Mem) (h' : Mem) (hs : f_X3_putTime h q0 a1 a2 = some h') : Sat l G yX3_putTime cX3_putTime 3 none 0 [.ref (G.2.2.1 q0), .int a1, .int a2] h none h' := by
  refine Sat.mkV (by decide) (Nat.le_of_ble_eq_true rfl) ?_
  intro p e R s m args below meth c Q F hret hw ls hl
  obtain ⟨hx, hb, hml, hown, hts, hK, hSt, hN, hR⟩ := F
  have hl : lv_has ls 3 [(0, .ref (G.2.2.1 q0)), (1, .int a1), (2, .int a2)] := hl
  unfold f_X3_putTime at hs
  refine lv_aload_n (pc := 0) hx hb dX3_putTime_0 rfl (lv_at hl 0 rfl) ?_
  refine lv_aload_n (pc := 1) hx hb dX3_putTime_1 rfl (lv_at hl 0 rfl) ?_
  refine q_getL (pc := 2) (q := q0) hx hb hts hown hK hw hq0 fg_X3_29 dX3_putTime_2 ?_
  refine lv_ldc2 (pc := 5) (v := (iL 3)) hx hb hown (hts _ kl_X3_77) dX3_putTime_5 ?_
  refine lv_iconst (pc := 8) (v := (iI 2)) hx hb dX3_putTime_8 rfl ?_
  refine lv_iload_n (pc := 9) hx hb dX3_putTime_9 rfl (lv_at hl 1 rfl) ?_
  refine lv_imul (pc := 10) hx hb dX3_putTime_10 ?_
  refine lv_lshl (pc := 11) (v := (shlL (iL 3) ((iI 2) * a1))) hx hb dX3_putTime_11 rfl ?_
  refine lv_ldc2 (pc := 12) (v := (iL (-1))) hx hb hown (hts _ kl_X3_79) dX3_putTime_12 ?_
  refine lv_lxor (pc := 15) hx hb dX3_putTime_15 ?_
  refine lv_land (pc := 16) hx hb dX3_putTime_16 ?_
  refine lv_iload_n (pc := 17) hx hb dX3_putTime_17 rfl (lv_at hl 2 rfl) ?_
  refine lv_i2l (pc := 18) hx hb dX3_putTime_18 rfl ?_
  refine lv_iconst (pc := 19) (v := (iI 2)) hx hb dX3_putTime_19 rfl ?_
  refine lv_iload_n (pc := 20) hx hb dX3_putTime_20 rfl (lv_at hl 1 rfl) ?_
  refine lv_imul (pc := 21) hx hb dX3_putTime_21 ?_
  refine lv_lshl (pc := 22) (v := (shlL (Int32.toInt64 a2) ((iI 2) * a1))) hx hb dX3_putTime_22 rfl ?_
  refine lv_lor (pc := 23) hx hb dX3_putTime_23 ?_
  refine q_putL (pc := 24) (q := q0) hx hb hts hown hK hw hq0 fp_X3_29 dX3_putTime_24 hs (fun h1 H locs hw hs => ?_)
  exact q_vret hret dX3_putTime_27 hw hs

set_option maxHeartbeats 4000000 in
theorem c_X3_handCan (l : Launch) (G : GG) (q0 : Nat) (hq0 : LAY[q0]? = some (6, 0)) (a1 : Int32) (h : Mem) (v : Int32)  (hs : f_X3_handCan h q0 a1 = some v) : Sat l G yX3_handCan cX3_handCan 2 (some .boolean) 0 [.ref (G.2.2.1 q0), .int a1] h (some (.int v)) h := by
  refine Sat.mkZ (by decide) (Nat.le_of_ble_eq_true rfl) ?_
  intro p e R s m args below meth c Q F hret hw ls hl
  obtain ⟨hx, hb, hml, hown, hts, hK, hSt, hN, hR⟩ := F
  have hl : lv_has ls 2 [(0, .ref (G.2.2.1 q0)), (1, .int a1)] := hl
  unfold f_X3_handCan at hs
  refine lv_aload_n (pc := 0) hx hb dX3_handCan_0 rfl (lv_at hl 0 rfl) ?_
  refine q_getR (pc := 1) (q := q0) (o := 1) hx hb hts hown hK hw hq0 fg_X3_16 dX3_handCan_1 ?_
  refine lv_iload_n (pc := 4) hx hb dX3_handCan_4 rfl (lv_at hl 1 rfl) ?_
  refine q_ald (pc := 5) (q := (q0 + 1)) (n := 25) hx hb hK hw (wt_X3_kinds _ hq0) dX3_handCan_5 hs (fun v1 hs => ?_)
  refine lv_iconst (pc := 6) (v := (iI 1)) hx hb dX3_handCan_6 rfl ?_
  refine q_join0 (P0 := ∀ (H : Heap) (locs : List Loc), IW G s h H locs → ∀ ls : Array Slot, lv_has ls 2 [] → W p l e R s m args below meth c H locs 0 0 Q (F0 m 20 ls [])) hs ?_ ?_
  · intro  hs H locs hw ls hl
    refine lv_iconst (pc := 20) (v := (iI 1)) hx hb dX3_handCan_20 rfl ?_
    refine lv_goto (pc := 21) (tgt := 25) hx hb dX3_handCan_21 (by decide) ?_
    exact q_zret hret dX3_handCan_25 hw hs
  · intro K2 hK2 hs
    refine lv_icmp_eq (pc := 7) (tgt := 20) hx hb dX3_handCan_7 (by decide) (fun hc => ?_) (fun hc => ?_)
    · replace hs := q_t hc hs
      exact hK2 hs _ _ hw _ (lv_sub hl [] rfl)
    · replace hs := q_f hc hs
      refine lv_aload_n (pc := 10) hx hb dX3_handCan_10 rfl (lv_at hl 0 rfl) ?_
      refine q_getR (pc := 11) (q := q0) (o := 1) hx hb hts hown hK hw hq0 fg_X3_16 dX3_handCan_11 ?_
      refine lv_iload_n (pc := 14) hx hb dX3_handCan_14 rfl (lv_at hl 1 rfl) ?_
      refine q_ald (pc := 15) (q := (q0 + 1)) (n := 25) hx hb hK hw (wt_X3_kinds _ hq0) dX3_handCan_15 hs (fun v3 hs => ?_)
      refine lv_iconst (pc := 16) (v := (iI 5)) hx hb dX3_handCan_16 rfl ?_
      refine lv_icmp_ne (pc := 17) (tgt := 24) hx hb dX3_handCan_17 (by decide) (fun hc => ?_) (fun hc => ?_)
      · replace hs := q_t hc hs
        refine lv_iconst (pc := 24) (v := (iI 0)) hx hb dX3_handCan_24 rfl ?_
        exact q_zret hret dX3_handCan_25 hw hs
      · replace hs := q_f (fun z => z hc) hs
        exact hK2 hs _ _ hw _ (lv_sub hl [] rfl)

set_option maxHeartbeats 4000000 in
theorem c_X3_flip (l : Launch) (G : GG) (q0 : Nat) (hq0 : LAY[q0]? = some (6, 0)) (a1 : Int32) (h : Mem) (h' : Mem) (hs : f_X3_flip h q0 a1 = some h') : Sat l G yX3_flip cX3_flip 2 none 0 [.ref (G.2.2.1 q0), .int a1] h none h' := by
  refine Sat.mkV (by decide) (Nat.le_of_ble_eq_true rfl) ?_
  intro p e R s m args below meth c Q F hret hw ls hl
  obtain ⟨hx, hb, hml, hown, hts, hK, hSt, hN, hR⟩ := F
  have hl : lv_has ls 2 [(0, .ref (G.2.2.1 q0)), (1, .int a1)] := hl
  unfold f_X3_flip at hs
  refine lv_aload_n (pc := 0) hx hb dX3_flip_0 rfl (lv_at hl 0 rfl) ?_
  refine lv_dup (pc := 1) hx hb dX3_flip_1 rfl ?_
  refine q_getI (pc := 2) (q := q0) hx hb hts hown hK hw hq0 fg_X3_26 dX3_flip_2 ?_
  refine lv_iconst (pc := 5) (v := (iI 1)) hx hb dX3_flip_5 rfl ?_
  refine lv_iload_n (pc := 6) hx hb dX3_flip_6 rfl (lv_at hl 1 rfl) ?_
  refine q_ishl (pc := 7) hx hb dX3_flip_7 ?_
  refine lv_ixor (pc := 8) hx hb dX3_flip_8 ?_
  refine q_putI (pc := 9) (q := q0) hx hb hts hown hK hw hq0 fp_X3_26 dX3_flip_9 hs (fun h1 H locs hw hs => ?_)
  exact q_vret hret dX3_flip_12 hw hs

set_option maxHeartbeats 4000000 in
theorem c_X3_slowness (l : Launch) (G : GG) (q0 : Nat) (hq0 : LAY[q0]? = some (6, 0)) (a1 : Int32) (h : Mem) (v : Int32)  (hs : f_X3_slowness h q0 a1 = some v) : Sat l G yX3_slowness cX3_slowness 2 (some .int) 0 [.ref (G.2.2.1 q0), .int a1] h (some (.int v)) h := by
  refine Sat.mkI (by decide) (Nat.le_of_ble_eq_true rfl) ?_
  intro p e R s m args below meth c Q F hret hw ls hl
  obtain ⟨hx, hb, hml, hown, hts, hK, hSt, hN, hR⟩ := F
  have hl : lv_has ls 2 [(0, .ref (G.2.2.1 q0)), (1, .int a1)] := hl
  unfold f_X3_slowness at hs
  refine lv_iconst (pc := 0) (v := (iI 2)) hx hb dX3_slowness_0 rfl ?_
  refine lv_aload_n (pc := 1) hx hb dX3_slowness_1 rfl (lv_at hl 0 rfl) ?_
  refine q_getR (pc := 2) (q := q0) (o := 2) hx hb hts hown hK hw hq0 fg_X3_20 dX3_slowness_2 ?_
  refine lv_iload_n (pc := 5) hx hb dX3_slowness_5 rfl (lv_at hl 1 rfl) ?_
  refine q_ald (pc := 6) (q := (q0 + 2)) (n := 25) hx hb hK hw (wt_X3_numbers _ hq0) dX3_slowness_6 hs (fun v1 hs => ?_)
  refine lv_iconst (pc := 7) (v := (iI 3)) hx hb dX3_slowness_7 rfl ?_
  obtain ⟨hne, hs⟩ := q_nz hs
  refine q_irem (pc := 8) hx hb dX3_slowness_8 hne ?_
  refine lv_iadd (pc := 9) hx hb dX3_slowness_9 ?_
  exact q_iret hret dX3_slowness_10 hw hs

set_option maxHeartbeats 4000000 in
theorem c_X3_turnByRay (l : Launch) (G : GG) (q0 : Nat) (hq0 : LAY[q0]? = some (6, 0)) (a1 : Int32) (h : Mem) (h' : Mem) (hs : f_X3_turnByRay h q0 a1 = some h') : Sat l G yX3_turnByRay cX3_turnByRay 4 none 1 [.ref (G.2.2.1 q0), .int a1] h none h' := by
  refine Sat.mkV (by decide) (Nat.le_of_ble_eq_true rfl) ?_
  intro p e R s m args below meth c Q F hret hw ls hl
  obtain ⟨hx, hb, hml, hown, hts, hK, hSt, hN, hR⟩ := F
  have hl : lv_has ls 4 [(0, .ref (G.2.2.1 q0)), (1, .int a1)] := hl
  unfold f_X3_turnByRay at hs
  refine lv_aload_n (pc := 0) hx hb dX3_turnByRay_0 rfl (lv_at hl 0 rfl) ?_
  refine q_getR (pc := 1) (q := q0) (o := 1) hx hb hts hown hK hw hq0 fg_X3_16 dX3_turnByRay_1 ?_
  refine lv_iload_n (pc := 4) hx hb dX3_turnByRay_4 rfl (lv_at hl 1 rfl) ?_
  refine q_ald (pc := 5) (q := (q0 + 1)) (n := 25) hx hb hK hw (wt_X3_kinds _ hq0) dX3_turnByRay_5 hs (fun v1 hs => ?_)
  refine lv_iconst (pc := 6) (v := (iI 1)) hx hb dX3_turnByRay_6 rfl ?_
  refine lv_icmp_ne (pc := 7) (tgt := 18) hx hb dX3_turnByRay_7 (by decide) (fun hc => ?_) (fun hc => ?_)
  · replace hs := q_t hc hs
    refine lv_aload_n (pc := 18) hx hb dX3_turnByRay_18 rfl (lv_at hl 0 rfl) ?_
    refine q_getR (pc := 19) (q := q0) (o := 1) hx hb hts hown hK hw hq0 fg_X3_16 dX3_turnByRay_19 ?_
    refine lv_iload_n (pc := 22) hx hb dX3_turnByRay_22 rfl (lv_at hl 1 rfl) ?_
    refine q_ald (pc := 23) (q := (q0 + 1)) (n := 25) hx hb hK hw (wt_X3_kinds _ hq0) dX3_turnByRay_23 hs (fun v2 hs => ?_)
    refine lv_iconst (pc := 24) (v := (iI 5)) hx hb dX3_turnByRay_24 rfl ?_
    refine lv_icmp_ne (pc := 25) (tgt := 74) hx hb dX3_turnByRay_25 (by decide) (fun hc => ?_) (fun hc => ?_)
    · replace hs := q_t hc hs
      exact q_vret hret dX3_turnByRay_74 hw hs
    · replace hs := q_f (fun z => z hc) hs
      refine lv_aload_n (pc := 28) hx hb dX3_turnByRay_28 rfl (lv_at hl 0 rfl) ?_
      refine lv_iload_n (pc := 29) hx hb dX3_turnByRay_29 rfl (lv_at hl 1 rfl) ?_
      obtain ⟨v3, ev, hs⟩ := q_cal hs
      refine q_callV (pc := 30) (q := q0) (As := [.int a1]) (rest := []) (rs := [.int v3]) hx hb hml hl.1 hts hown hK hSt hN hw (c_X3_timeOf l G q0 hq0 a1 h v3 ev) hq0 rfl cv_X3_85 (rm_ok hR (by decide)) rfl (Nat.le_of_ble_eq_true rfl) rfl rfl dX3_turnByRay_30 (fun H locs hw => ?_)
      refine lv_iconst (pc := 33) (v := (iI 1)) hx hb dX3_turnByRay_33 rfl ?_
      refine lv_iadd (pc := 34) hx hb dX3_turnByRay_34 ?_
      obtain ⟨x4, ex4, hs⟩ := q_nm hs
      refine q_topI ex4 ?_
      refine lv_istore_n (pc := 35) (lv' := [(2, .int x4), (0, .ref (G.2.2.1 q0)), (1, .int a1)]) hx hb dX3_turnByRay_35 rfl hl (by decide) rfl (fun ls hl => ?_)
      refine lv_iload_n (pc := 36) hx hb dX3_turnByRay_36 rfl (lv_at hl 0 rfl) ?_
      refine lv_aload_n (pc := 37) hx hb dX3_turnByRay_37 rfl (lv_at hl 1 rfl) ?_
      refine lv_iload_n (pc := 38) hx hb dX3_turnByRay_38 rfl (lv_at hl 2 rfl) ?_
      obtain ⟨v5, ev, hs⟩ := q_cal hs
      refine q_callV (pc := 39) (q := q0) (As := [.int a1]) (rest := [.int x4]) (rs := [.int v5, .int x4]) hx hb hml hl.1 hts hown hK hSt hN hw (c_X3_slowness l G q0 hq0 a1 h v5 ev) hq0 rfl cv_X3_88 (rm_ok hR (by decide)) rfl (Nat.le_of_ble_eq_true rfl) rfl rfl dX3_turnByRay_39 (fun H locs hw => ?_)
      refine q_join1 (P0 := fun (x6 : Int32) => ∀ (H : Heap) (locs : List Loc), IW G s h H locs → ∀ ls : Array Slot, lv_has ls 4 [(0, .ref (G.2.2.1 q0)), (1, .int a1), (2, .int x4)] → W p l e R s m args below meth c H locs 0 0 Q (F0 m 50 ls [.int x6])) hs ?_ ?_
      · intro x6 hs H locs hw ls hl
        unfold f_X3_turnByRay_k7 at hs
        refine lv_istore_n (pc := 50) (lv' := [(3, .int x6), (0, .ref (G.2.2.1 q0)), (1, .int a1), (2, .int x4)]) hx hb dX3_turnByRay_50 rfl hl (by decide) rfl (fun ls hl => ?_)
        refine lv_aload_n (pc := 51) hx hb dX3_turnByRay_51 rfl (lv_at hl 1 rfl) ?_
        refine lv_iload_n (pc := 52) hx hb dX3_turnByRay_52 rfl (lv_at hl 2 rfl) ?_
        refine lv_iload_n (pc := 53) hx hb dX3_turnByRay_53 rfl (lv_at hl 0 rfl) ?_
        refine q_join1 (P0 := fun (x8 : Int32) => ∀ (H : Heap) (locs : List Loc), IW G s h H locs → ∀ ls : Array Slot, lv_has ls 4 [(0, .ref (G.2.2.1 q0)), (1, .int a1), (3, .int x6)] → W p l e R s m args below meth c H locs 0 0 Q (F0 m 62 ls [.int x8, .int a1, .ref (G.2.2.1 q0)])) hs ?_ ?_
        · intro x8 hs H locs hw ls hl
          obtain ⟨h10, ev, hs⟩ := q_cal hs
          refine q_callV (pc := 62) (q := q0) (As := [.int a1, .int x8]) (rest := []) (rs := []) hx hb hml hl.1 hts hown hK hSt hN hw (c_X3_putTime l G q0 hq0 a1 x8 h h10 ev) hq0 rfl cv_X3_73 (rm_ok hR (by decide)) rfl (Nat.le_of_ble_eq_true rfl) rfl rfl dX3_turnByRay_62 (fun H locs hw => ?_)
          refine lv_iload_n (pc := 65) hx hb dX3_turnByRay_65 rfl (lv_at hl 2 rfl) ?_
          refine lv_if_eq (pc := 66) (tgt := 74) hx hb dX3_turnByRay_66 (by decide) (fun hc => ?_) (fun hc => ?_)
          · replace hs := q_t hc hs
            exact q_vret hret dX3_turnByRay_74 hw hs
          · replace hs := q_f hc hs
            refine lv_aload_n (pc := 69) hx hb dX3_turnByRay_69 rfl (lv_at hl 0 rfl) ?_
            refine lv_iload_n (pc := 70) hx hb dX3_turnByRay_70 rfl (lv_at hl 1 rfl) ?_
            obtain ⟨h11, ev, hs⟩ := q_cal hs
            refine q_callV (pc := 71) (q := q0) (As := [.int a1]) (rest := []) (rs := []) hx hb hml hl.1 hts hown hK hSt hN hw (c_X3_flip l G q0 hq0 a1 h10 h11 ev) hq0 rfl cv_X3_81 (rm_ok hR (by decide)) rfl (Nat.le_of_ble_eq_true rfl) rfl rfl dX3_turnByRay_71 (fun H locs hw => ?_)
            exact q_vret hret dX3_turnByRay_74 hw hs
        · intro K9 hK9 hs
          refine lv_if_eq (pc := 54) (tgt := 61) hx hb dX3_turnByRay_54 (by decide) (fun hc => ?_) (fun hc => ?_)
          · replace hs := q_t hc hs
            refine lv_iload_n (pc := 61) hx hb dX3_turnByRay_61 rfl (lv_at hl 3 rfl) ?_
            exact hK9 _ hs _ _ hw _ (lv_sub hl [1, 2, 0] rfl)
          · replace hs := q_f hc hs
            refine lv_iconst (pc := 57) (v := (iI 0)) hx hb dX3_turnByRay_57 rfl ?_
            refine lv_goto (pc := 58) (tgt := 62) hx hb dX3_turnByRay_58 (by decide) ?_
            exact hK9 _ hs _ _ hw _ (lv_sub hl [1, 2, 0] rfl)
      · intro K7 hK7 hs
        refine lv_icmp_ne (pc := 42) (tgt := 49) hx hb dX3_turnByRay_42 (by decide) (fun hc => ?_) (fun hc => ?_)
        · replace hs := q_t hc hs
          refine lv_iconst (pc := 49) (v := (iI 0)) hx hb dX3_turnByRay_49 rfl ?_
          exact hK7 _ hs _ _ hw _ (lv_sub hl [1, 2, 0] rfl)
        · replace hs := q_f (fun z => z hc) hs
          refine lv_iconst (pc := 45) (v := (iI 1)) hx hb dX3_turnByRay_45 rfl ?_
          refine lv_goto (pc := 46) (tgt := 50) hx hb dX3_turnByRay_46 (by decide) ?_
          exact hK7 _ hs _ _ hw _ (lv_sub hl [1, 2, 0] rfl)
  · replace hs := q_f (fun z => z hc) hs
    refine lv_aload_n (pc := 10) hx hb dX3_turnByRay_10 rfl (lv_at hl 0 rfl) ?_
    refine lv_iload_n (pc := 11) hx hb dX3_turnByRay_11 rfl (lv_at hl 1 rfl) ?_
    obtain ⟨h12, ev, hs⟩ := q_cal hs
    refine q_callV (pc := 12) (q := q0) (As := [.int a1]) (rest := []) (rs := []) hx hb hml hl.1 hts hown hK hSt hN hw (c_X3_flip l G q0 hq0 a1 h h12 ev) hq0 rfl cv_X3_81 (rm_ok hR (by decide)) rfl (Nat.le_of_ble_eq_true rfl) rfl rfl dX3_turnByRay_12 (fun H locs hw => ?_)
    refine lv_goto (pc := 15) (tgt := 74) hx hb dX3_turnByRay_15 (by decide) ?_
    exact q_vret hret dX3_turnByRay_74 hw hs

set_option maxHeartbeats 4000000 in
theorem c_X3_turnBack (l : Launch) (G : GG) (q0 : Nat) (hq0 : LAY[q0]? = some (6, 0)) (a1 : Int32) (h : Mem) (h' : Mem) (hs : f_X3_turnBack h q0 a1 = some h') : Sat l G yX3_turnBack cX3_turnBack 3 none 1 [.ref (G.2.2.1 q0), .int a1] h none h' := by
  refine Sat.mkV (by decide) (Nat.le_of_ble_eq_true rfl) ?_
  intro p e R s m args below meth c Q F hret hw ls hl
  obtain ⟨hx, hb, hml, hown, hts, hK, hSt, hN, hR⟩ := F
  have hl : lv_has ls 3 [(0, .ref (G.2.2.1 q0)), (1, .int a1)] := hl
  unfold f_X3_turnBack at hs
  refine lv_aload_n (pc := 0) hx hb dX3_turnBack_0 rfl (lv_at hl 0 rfl) ?_
  refine q_getR (pc := 1) (q := q0) (o := 1) hx hb hts hown hK hw hq0 fg_X3_16 dX3_turnBack_1 ?_
  refine lv_iload_n (pc := 4) hx hb dX3_turnBack_4 rfl (lv_at hl 1 rfl) ?_
  refine q_ald (pc := 5) (q := (q0 + 1)) (n := 25) hx hb hK hw (wt_X3_kinds _ hq0) dX3_turnBack_5 hs (fun v1 hs => ?_)
  refine lv_iconst (pc := 6) (v := (iI 1)) hx hb dX3_turnBack_6 rfl ?_
  refine lv_icmp_ne (pc := 7) (tgt := 18) hx hb dX3_turnBack_7 (by decide) (fun hc => ?_) (fun hc => ?_)
  · replace hs := q_t hc hs
    refine lv_aload_n (pc := 18) hx hb dX3_turnBack_18 rfl (lv_at hl 0 rfl) ?_
    refine q_getR (pc := 19) (q := q0) (o := 1) hx hb hts hown hK hw hq0 fg_X3_16 dX3_turnBack_19 ?_
    refine lv_iload_n (pc := 22) hx hb dX3_turnBack_22 rfl (lv_at hl 1 rfl) ?_
    refine q_ald (pc := 23) (q := (q0 + 1)) (n := 25) hx hb hK hw (wt_X3_kinds _ hq0) dX3_turnBack_23 hs (fun v2 hs => ?_)
    refine lv_iconst (pc := 24) (v := (iI 5)) hx hb dX3_turnBack_24 rfl ?_
    refine lv_icmp_ne (pc := 25) (tgt := 65) hx hb dX3_turnBack_25 (by decide) (fun hc => ?_) (fun hc => ?_)
    · replace hs := q_t hc hs
      exact q_vret hret dX3_turnBack_65 hw hs
    · replace hs := q_f (fun z => z hc) hs
      refine lv_aload_n (pc := 28) hx hb dX3_turnBack_28 rfl (lv_at hl 0 rfl) ?_
      refine lv_iload_n (pc := 29) hx hb dX3_turnBack_29 rfl (lv_at hl 1 rfl) ?_
      obtain ⟨v3, ev, hs⟩ := q_cal hs
      refine q_callV (pc := 30) (q := q0) (As := [.int a1]) (rest := []) (rs := [.int v3]) hx hb hml hl.1 hts hown hK hSt hN hw (c_X3_timeOf l G q0 hq0 a1 h v3 ev) hq0 rfl cv_X3_85 (rm_ok hR (by decide)) rfl (Nat.le_of_ble_eq_true rfl) rfl rfl dX3_turnBack_30 (fun H locs hw => ?_)
      refine lv_istore_n (pc := 33) (lv' := [(2, .int v3), (0, .ref (G.2.2.1 q0)), (1, .int a1)]) hx hb dX3_turnBack_33 rfl hl (by decide) rfl (fun ls hl => ?_)
      refine lv_aload_n (pc := 34) hx hb dX3_turnBack_34 rfl (lv_at hl 1 rfl) ?_
      refine lv_iload_n (pc := 35) hx hb dX3_turnBack_35 rfl (lv_at hl 2 rfl) ?_
      refine lv_iload_n (pc := 36) hx hb dX3_turnBack_36 rfl (lv_at hl 0 rfl) ?_
      refine q_join1 (P0 := fun (x4 : Int32) => ∀ (H : Heap) (locs : List Loc), IW G s h H locs → ∀ ls : Array Slot, lv_has ls 3 [(0, .ref (G.2.2.1 q0)), (1, .int a1), (2, .int v3)] → W p l e R s m args below meth c H locs 0 0 Q (F0 m 53 ls [.int x4, .int a1, .ref (G.2.2.1 q0)])) hs ?_ ?_
      · intro x4 hs H locs hw ls hl
        obtain ⟨h6, ev, hs⟩ := q_cal hs
        refine q_callV (pc := 53) (q := q0) (As := [.int a1, .int x4]) (rest := []) (rs := []) hx hb hml hl.1 hts hown hK hSt hN hw (c_X3_putTime l G q0 hq0 a1 x4 h h6 ev) hq0 rfl cv_X3_73 (rm_ok hR (by decide)) rfl (Nat.le_of_ble_eq_true rfl) rfl rfl dX3_turnBack_53 (fun H locs hw => ?_)
        refine lv_iload_n (pc := 56) hx hb dX3_turnBack_56 rfl (lv_at hl 2 rfl) ?_
        refine lv_if_ne (pc := 57) (tgt := 65) hx hb dX3_turnBack_57 (by decide) (fun hc => ?_) (fun hc => ?_)
        · replace hs := q_t hc hs
          exact q_vret hret dX3_turnBack_65 hw hs
        · replace hs := q_f (fun z => z hc) hs
          refine lv_aload_n (pc := 60) hx hb dX3_turnBack_60 rfl (lv_at hl 0 rfl) ?_
          refine lv_iload_n (pc := 61) hx hb dX3_turnBack_61 rfl (lv_at hl 1 rfl) ?_
          obtain ⟨h7, ev, hs⟩ := q_cal hs
          refine q_callV (pc := 62) (q := q0) (As := [.int a1]) (rest := []) (rs := []) hx hb hml hl.1 hts hown hK hSt hN hw (c_X3_flip l G q0 hq0 a1 h6 h7 ev) hq0 rfl cv_X3_81 (rm_ok hR (by decide)) rfl (Nat.le_of_ble_eq_true rfl) rfl rfl dX3_turnBack_62 (fun H locs hw => ?_)
          exact q_vret hret dX3_turnBack_65 hw hs
      · intro K5 hK5 hs
        refine lv_if_ne (pc := 37) (tgt := 50) hx hb dX3_turnBack_37 (by decide) (fun hc => ?_) (fun hc => ?_)
        · replace hs := q_t hc hs
          refine lv_iload_n (pc := 50) hx hb dX3_turnBack_50 rfl (lv_at hl 0 rfl) ?_
          refine lv_iconst (pc := 51) (v := (iI 1)) hx hb dX3_turnBack_51 rfl ?_
          refine lv_isub (pc := 52) hx hb dX3_turnBack_52 ?_
          exact hK5 _ hs _ _ hw _ (lv_sub hl [1, 2, 0] rfl)
        · replace hs := q_f (fun z => z hc) hs
          refine lv_aload_n (pc := 40) hx hb dX3_turnBack_40 rfl (lv_at hl 1 rfl) ?_
          refine lv_iload_n (pc := 41) hx hb dX3_turnBack_41 rfl (lv_at hl 2 rfl) ?_
          obtain ⟨v8, ev, hs⟩ := q_cal hs
          refine q_callV (pc := 42) (q := q0) (As := [.int a1]) (rest := [.int a1, .ref (G.2.2.1 q0)]) (rs := [.int v8, .int a1, .ref (G.2.2.1 q0)]) hx hb hml hl.1 hts hown hK hSt hN hw (c_X3_slowness l G q0 hq0 a1 h v8 ev) hq0 rfl cv_X3_88 (rm_ok hR (by decide)) rfl (Nat.le_of_ble_eq_true rfl) rfl rfl dX3_turnBack_42 (fun H locs hw => ?_)
          refine lv_iconst (pc := 45) (v := (iI 1)) hx hb dX3_turnBack_45 rfl ?_
          refine lv_isub (pc := 46) hx hb dX3_turnBack_46 ?_
          refine lv_goto (pc := 47) (tgt := 53) hx hb dX3_turnBack_47 (by decide) ?_
          exact hK5 _ hs _ _ hw _ (lv_sub hl [1, 2, 0] rfl)
  · replace hs := q_f (fun z => z hc) hs
    refine lv_aload_n (pc := 10) hx hb dX3_turnBack_10 rfl (lv_at hl 0 rfl) ?_
    refine lv_iload_n (pc := 11) hx hb dX3_turnBack_11 rfl (lv_at hl 1 rfl) ?_
    obtain ⟨h9, ev, hs⟩ := q_cal hs
    refine q_callV (pc := 12) (q := q0) (As := [.int a1]) (rest := []) (rs := []) hx hb hml hl.1 hts hown hK hSt hN hw (c_X3_flip l G q0 hq0 a1 h h9 ev) hq0 rfl cv_X3_81 (rm_ok hR (by decide)) rfl (Nat.le_of_ble_eq_true rfl) rfl rfl dX3_turnBack_12 (fun H locs hw => ?_)
    refine lv_goto (pc := 15) (tgt := 65) hx hb dX3_turnBack_15 (by decide) ?_
    exact q_vret hret dX3_turnBack_65 hw hs

set_option maxHeartbeats 4000000 in
theorem c_X3_lightUp (l : Launch) (G : GG) (q0 : Nat) (hq0 : LAY[q0]? = some (6, 0)) (a1 : Int32) (h : Mem) (h' : Mem) (hs : f_X3_lightUp h q0 a1 = some h') : Sat l G yX3_lightUp cX3_lightUp 2 none 1 [.ref (G.2.2.1 q0), .int a1] h none h' := by
  refine Sat.mkV (by decide) (Nat.le_of_ble_eq_true rfl) ?_
  intro p e R s m args below meth c Q F hret hw ls hl
  obtain ⟨hx, hb, hml, hown, hts, hK, hSt, hN, hR⟩ := F
  have hl : lv_has ls 2 [(0, .ref (G.2.2.1 q0)), (1, .int a1)] := hl
  unfold f_X3_lightUp at hs
  refine lv_aload_n (pc := 0) hx hb dX3_lightUp_0 rfl (lv_at hl 0 rfl) ?_
  refine q_getR (pc := 1) (q := q0) (o := 3) hx hb hts hown hK hw hq0 fg_X3_23 dX3_lightUp_1 ?_
  refine lv_iload_n (pc := 4) hx hb dX3_lightUp_4 rfl (lv_at hl 1 rfl) ?_
  refine lv_sipush (pc := 5) (v := (iI 9999)) hx hb dX3_lightUp_5 (by decide) ?_
  refine lv_aload_n (pc := 8) hx hb dX3_lightUp_8 rfl (lv_at hl 0 rfl) ?_
  refine q_getR (pc := 9) (q := q0) (o := 3) hx hb hts hown hK hw hq0 fg_X3_23 dX3_lightUp_9 ?_
  refine lv_iload_n (pc := 12) hx hb dX3_lightUp_12 rfl (lv_at hl 1 rfl) ?_
  refine q_ald (pc := 13) (q := (q0 + 3)) (n := 25) hx hb hK hw (wt_X3_lit _ hq0) dX3_lightUp_13 hs (fun v1 hs => ?_)
  refine lv_iconst (pc := 14) (v := (iI 1)) hx hb dX3_lightUp_14 rfl ?_
  refine lv_iadd (pc := 15) hx hb dX3_lightUp_15 ?_
  refine q_min (pc := 16) (rest := [.int a1, .ref (G.2.2.1 (q0 + 3))]) hx hb hml hl.1 hts hown (rm_mm hR (by decide) (Nat.le_of_ble_eq_true rfl)) mt_X3_91 dX3_lightUp_16 ?_
  refine q_ast (pc := 19) (q := (q0 + 3)) (n := 25) hx hb hK hw (wt_X3_lit _ hq0) dX3_lightUp_19 hs (fun h2 H locs hw hs => ?_)
  exact q_vret hret dX3_lightUp_20 hw hs

set_option maxHeartbeats 4000000 in
theorem c_X3_lightDown (l : Launch) (G : GG) (q0 : Nat) (hq0 : LAY[q0]? = some (6, 0)) (a1 : Int32) (h : Mem) (h' : Mem) (hs : f_X3_lightDown h q0 a1 = some h') : Sat l G yX3_lightDown cX3_lightDown 2 none 1 [.ref (G.2.2.1 q0), .int a1] h none h' := by
  refine Sat.mkV (by decide) (Nat.le_of_ble_eq_true rfl) ?_
  intro p e R s m args below meth c Q F hret hw ls hl
  obtain ⟨hx, hb, hml, hown, hts, hK, hSt, hN, hR⟩ := F
  have hl : lv_has ls 2 [(0, .ref (G.2.2.1 q0)), (1, .int a1)] := hl
  unfold f_X3_lightDown at hs
  refine lv_aload_n (pc := 0) hx hb dX3_lightDown_0 rfl (lv_at hl 0 rfl) ?_
  refine q_getR (pc := 1) (q := q0) (o := 3) hx hb hts hown hK hw hq0 fg_X3_23 dX3_lightDown_1 ?_
  refine lv_iload_n (pc := 4) hx hb dX3_lightDown_4 rfl (lv_at hl 1 rfl) ?_
  refine lv_iconst (pc := 5) (v := (iI 0)) hx hb dX3_lightDown_5 rfl ?_
  refine lv_aload_n (pc := 6) hx hb dX3_lightDown_6 rfl (lv_at hl 0 rfl) ?_
  refine q_getR (pc := 7) (q := q0) (o := 3) hx hb hts hown hK hw hq0 fg_X3_23 dX3_lightDown_7 ?_
  refine lv_iload_n (pc := 10) hx hb dX3_lightDown_10 rfl (lv_at hl 1 rfl) ?_
  refine q_ald (pc := 11) (q := (q0 + 3)) (n := 25) hx hb hK hw (wt_X3_lit _ hq0) dX3_lightDown_11 hs (fun v1 hs => ?_)
  refine lv_iconst (pc := 12) (v := (iI 1)) hx hb dX3_lightDown_12 rfl ?_
  refine lv_isub (pc := 13) hx hb dX3_lightDown_13 ?_
  refine q_max (pc := 14) (rest := [.int a1, .ref (G.2.2.1 (q0 + 3))]) hx hb hml hl.1 hts hown (rm_mm hR (by decide) (Nat.le_of_ble_eq_true rfl)) mt_X3_97 dX3_lightDown_14 ?_
  refine q_ast (pc := 17) (q := (q0 + 3)) (n := 25) hx hb hK hw (wt_X3_lit _ hq0) dX3_lightDown_17 hs (fun h2 H locs hw hs => ?_)
  exact q_vret hret dX3_lightDown_18 hw hs

set_option maxHeartbeats 4000000 in
theorem c_X3_mirrors (l : Launch) (G : GG) (q0 : Nat) (hq0 : LAY[q0]? = some (6, 0)) (h : Mem) (v : Int32)  (hs : f_X3_mirrors h q0 = some v) : Sat l G yX3_mirrors cX3_mirrors 3 (some .int) 1 [.ref (G.2.2.1 q0)] h (some (.int v)) h := by
  refine Sat.mkI (by decide) (Nat.le_of_ble_eq_true rfl) ?_
  intro p e R s m args below meth c Q F hret hw ls hl
  obtain ⟨hx, hb, hml, hown, hts, hK, hSt, hN, hR⟩ := F
  have hl : lv_has ls 3 [(0, .ref (G.2.2.1 q0))] := hl
  unfold f_X3_mirrors at hs
  refine lv_iconst (pc := 0) (v := (iI 0)) hx hb dX3_mirrors_0 rfl ?_
  refine lv_istore_n (pc := 1) (lv' := [(1, .int (iI 0)), (0, .ref (G.2.2.1 q0))]) hx hb dX3_mirrors_1 rfl hl (by decide) rfl (fun ls hl => ?_)
  refine lv_iconst (pc := 2) (v := (iI 0)) hx hb dX3_mirrors_2 rfl ?_
  refine lv_istore_n (pc := 3) (lv' := [(2, .int (iI 0)), (1, .int (iI 0)), (0, .ref (G.2.2.1 q0))]) hx hb dX3_mirrors_3 rfl hl (by decide) rfl (fun ls hl => ?_)
  refine (q_lo2 (P0 := fun (x1 : Int32) (x2 : Int32) => ∀ (H : Heap) (locs : List Loc), IW G s h H locs → ∀ ls : Array Slot, lv_has ls 3 [(0, .ref (G.2.2.1 q0)), (1, .int x1), (2, .int x2)] → W p l e R s m args below meth c H locs 0 0 Q (F0 m 4 ls [])) hs ?_) _ _ hw _ (lv_sub hl [2, 1, 0] rfl)
  intro K3 hK3 x1 x2 hs H locs hw ls hl
  unfold f_X3_mirrors_k3 at hs
  refine lv_iload_n (pc := 4) hx hb dX3_mirrors_4 rfl (lv_at hl 2 rfl) ?_
  refine lv_aload_n (pc := 5) hx hb dX3_mirrors_5 rfl (lv_at hl 0 rfl) ?_
  obtain ⟨v4, ev, hs⟩ := q_cal hs
  refine q_callV (pc := 6) (q := q0) (As := []) (rest := [.int x2]) (rs := [.int v4, .int x2]) hx hb hml hl.1 hts hown hK hSt hN hw (c_X3_squares l G q0 hq0 h v4 ev) hq0 rfl cv_X3_46 (rm_ok hR (by decide)) rfl (Nat.le_of_ble_eq_true rfl) rfl rfl dX3_mirrors_6 (fun H locs hw => ?_)
  refine lv_icmp_ge (pc := 9) (tgt := 38) hx hb dX3_mirrors_9 (by decide) (fun hc => ?_) (fun hc => ?_)
  · replace hs := q_t hc hs
    refine lv_iload_n (pc := 38) hx hb dX3_mirrors_38 rfl (lv_at hl 1 rfl) ?_
    exact q_iret hret dX3_mirrors_39 hw hs
  · replace hs := q_f hc hs
    refine lv_iload_n (pc := 12) hx hb dX3_mirrors_12 rfl (lv_at hl 1 rfl) ?_
    refine lv_aload_n (pc := 13) hx hb dX3_mirrors_13 rfl (lv_at hl 0 rfl) ?_
    refine q_getR (pc := 14) (q := q0) (o := 1) hx hb hts hown hK hw hq0 fg_X3_16 dX3_mirrors_14 ?_
    refine lv_iload_n (pc := 17) hx hb dX3_mirrors_17 rfl (lv_at hl 2 rfl) ?_
    refine q_ald (pc := 18) (q := (q0 + 1)) (n := 25) hx hb hK hw (wt_X3_kinds _ hq0) dX3_mirrors_18 hs (fun v5 hs => ?_)
    obtain ⟨v6, ev, hs⟩ := q_cal hs
    refine q_callS (pc := 19) (As := [.int v5]) (rest := [.int x1]) (rs := [.int v6, .int x1]) hx hb hml hl.1 hts hown hK hSt hN hw (c_X3_throwsRays l G v5 h v6 ev) cs_X3_100 (rm_ok hR (by decide)) rfl (Nat.le_of_ble_eq_true rfl) rfl rfl dX3_mirrors_19 (fun H locs hw => ?_)
    refine q_join1 (P0 := fun (x7 : Int32) => ∀ (H : Heap) (locs : List Loc), IW G s h H locs → ∀ ls : Array Slot, lv_has ls 3 [(0, .ref (G.2.2.1 q0)), (2, .int x2)] → W p l e R s m args below meth c H locs 0 0 Q (F0 m 30 ls [.int x7, .int x1])) hs ?_ ?_
    · intro x7 hs H locs hw ls hl
      refine lv_iadd (pc := 30) hx hb dX3_mirrors_30 ?_
      obtain ⟨x9, ex9, hs⟩ := q_nm hs
      refine q_topI ex9 ?_
      refine lv_istore_n (pc := 31) (lv' := [(1, .int x9), (0, .ref (G.2.2.1 q0)), (2, .int x2)]) hx hb dX3_mirrors_31 rfl hl (by decide) rfl (fun ls hl => ?_)
      obtain ⟨x10, ex10, hs⟩ := q_nm hs
      refine lv_iinc (pc := 32) (v := x10) (lv' := [(2, .int x10), (1, .int x9), (0, .ref (G.2.2.1 q0))]) hx hb dX3_mirrors_32 hl (k := 2) rfl ex10 (by decide) rfl (fun ls hl => ?_)
      refine lv_goto (pc := 35) (tgt := 4) hx hb dX3_mirrors_35 (by decide) ?_
      exact hK3 _ _ hs _ _ hw _ (lv_sub hl [2, 1, 0] rfl)
    · intro K8 hK8 hs
      refine lv_if_eq (pc := 22) (tgt := 29) hx hb dX3_mirrors_22 (by decide) (fun hc => ?_) (fun hc => ?_)
      · replace hs := q_t hc hs
        refine lv_iconst (pc := 29) (v := (iI 0)) hx hb dX3_mirrors_29 rfl ?_
        exact hK8 _ hs _ _ hw _ (lv_sub hl [0, 2] rfl)
      · replace hs := q_f hc hs
        refine lv_iconst (pc := 25) (v := (iI 1)) hx hb dX3_mirrors_25 rfl ?_
        refine lv_goto (pc := 26) (tgt := 30) hx hb dX3_mirrors_26 (by decide) ?_
        exact hK8 _ hs _ _ hw _ (lv_sub hl [0, 2] rfl)

set_option maxHeartbeats 4000000 in
theorem c_X3_litTogether (l : Launch) (G : GG) (q0 : Nat) (hq0 : LAY[q0]? = some (6, 0)) (h : Mem) (v : Int32)  (hs : f_X3_litTogether h q0 = some v) : Sat l G yX3_litTogether cX3_litTogether 3 (some .int) 1 [.ref (G.2.2.1 q0)] h (some (.int v)) h := by
  refine Sat.mkI (by decide) (Nat.le_of_ble_eq_true rfl) ?_
  intro p e R s m args below meth c Q F hret hw ls hl
  obtain ⟨hx, hb, hml, hown, hts, hK, hSt, hN, hR⟩ := F
  have hl : lv_has ls 3 [(0, .ref (G.2.2.1 q0))] := hl
  unfold f_X3_litTogether at hs
  refine lv_iconst (pc := 0) (v := (iI 0)) hx hb dX3_litTogether_0 rfl ?_
  refine lv_istore_n (pc := 1) (lv' := [(1, .int (iI 0)), (0, .ref (G.2.2.1 q0))]) hx hb dX3_litTogether_1 rfl hl (by decide) rfl (fun ls hl => ?_)
  refine lv_iconst (pc := 2) (v := (iI 0)) hx hb dX3_litTogether_2 rfl ?_
  refine lv_istore_n (pc := 3) (lv' := [(2, .int (iI 0)), (1, .int (iI 0)), (0, .ref (G.2.2.1 q0))]) hx hb dX3_litTogether_3 rfl hl (by decide) rfl (fun ls hl => ?_)
  refine (q_lo2 (P0 := fun (x1 : Int32) (x2 : Int32) => ∀ (H : Heap) (locs : List Loc), IW G s h H locs → ∀ ls : Array Slot, lv_has ls 3 [(0, .ref (G.2.2.1 q0)), (1, .int x1), (2, .int x2)] → W p l e R s m args below meth c H locs 0 0 Q (F0 m 4 ls [])) hs ?_) _ _ hw _ (lv_sub hl [2, 1, 0] rfl)
  intro K3 hK3 x1 x2 hs H locs hw ls hl
  unfold f_X3_litTogether_k3 at hs
  refine lv_iload_n (pc := 4) hx hb dX3_litTogether_4 rfl (lv_at hl 2 rfl) ?_
  refine lv_aload_n (pc := 5) hx hb dX3_litTogether_5 rfl (lv_at hl 0 rfl) ?_
  obtain ⟨v4, ev, hs⟩ := q_cal hs
  refine q_callV (pc := 6) (q := q0) (As := []) (rest := [.int x2]) (rs := [.int v4, .int x2]) hx hb hml hl.1 hts hown hK hSt hN hw (c_X3_squares l G q0 hq0 h v4 ev) hq0 rfl cv_X3_46 (rm_ok hR (by decide)) rfl (Nat.le_of_ble_eq_true rfl) rfl rfl dX3_litTogether_6 (fun H locs hw => ?_)
  refine lv_icmp_ge (pc := 9) (tgt := 27) hx hb dX3_litTogether_9 (by decide) (fun hc => ?_) (fun hc => ?_)
  · replace hs := q_t hc hs
    refine lv_iload_n (pc := 27) hx hb dX3_litTogether_27 rfl (lv_at hl 1 rfl) ?_
    exact q_iret hret dX3_litTogether_28 hw hs
  · replace hs := q_f hc hs
    refine lv_iload_n (pc := 12) hx hb dX3_litTogether_12 rfl (lv_at hl 1 rfl) ?_
    refine lv_aload_n (pc := 13) hx hb dX3_litTogether_13 rfl (lv_at hl 0 rfl) ?_
    refine q_getR (pc := 14) (q := q0) (o := 3) hx hb hts hown hK hw hq0 fg_X3_23 dX3_litTogether_14 ?_
    refine lv_iload_n (pc := 17) hx hb dX3_litTogether_17 rfl (lv_at hl 2 rfl) ?_
    refine q_ald (pc := 18) (q := (q0 + 3)) (n := 25) hx hb hK hw (wt_X3_lit _ hq0) dX3_litTogether_18 hs (fun v5 hs => ?_)
    refine lv_iadd (pc := 19) hx hb dX3_litTogether_19 ?_
    obtain ⟨x6, ex6, hs⟩ := q_nm hs
    refine q_topI ex6 ?_
    refine lv_istore_n (pc := 20) (lv' := [(1, .int x6), (0, .ref (G.2.2.1 q0)), (2, .int x2)]) hx hb dX3_litTogether_20 rfl hl (by decide) rfl (fun ls hl => ?_)
    obtain ⟨x7, ex7, hs⟩ := q_nm hs
    refine lv_iinc (pc := 21) (v := x7) (lv' := [(2, .int x7), (1, .int x6), (0, .ref (G.2.2.1 q0))]) hx hb dX3_litTogether_21 hl (k := 2) rfl ex7 (by decide) rfl (fun ls hl => ?_)
    refine lv_goto (pc := 24) (tgt := 4) hx hb dX3_litTogether_24 (by decide) ?_
    exact hK3 _ _ hs _ _ hw _ (lv_sub hl [2, 1, 0] rfl)

set_option maxHeartbeats 4000000 in
theorem c_X5_learn (l : Launch) (G : GG) (q0 : Nat) (hq0 : LAY[q0]? = some (8, 0)) (q1 n1 : Nat) (hq1 : LAY[q1]? = some (0, n1)) (a2 : Int32) (h : Mem) (h' : Mem) (hs : f_X5_learn h q0 q1 n1 a2 = some h') : Sat l G yX5_learn cX5_learn 3 none 2 [.ref (G.2.2.1 q0), .ref (G.2.2.1 q1), .int a2] h none h' := by
  refine Sat.mkV (by decide) (Nat.le_of_ble_eq_true rfl) ?_
  intro p e R s m args below meth c Q F hret hw ls hl
  obtain ⟨hx, hb, hml, hown, hts, hK, hSt, hN, hR⟩ := F
  have hl : lv_has ls 3 [(0, .ref (G.2.2.1 q0)), (1, .ref (G.2.2.1 q1)), (2, .int a2)] := hl
  unfold f_X5_learn at hs
  refine lv_aload_n (pc := 0) hx hb dX5_learn_0 rfl (lv_at hl 0 rfl) ?_
  refine lv_iload_n (pc := 1) hx hb dX5_learn_1 rfl (lv_at hl 2 rfl) ?_
  refine lv_iconst (pc := 2) (v := (iI 0)) hx hb dX5_learn_2 rfl ?_
  refine lv_aload_n (pc := 3) hx hb dX5_learn_3 rfl (lv_at hl 0 rfl) ?_
  refine q_getR (pc := 4) (q := q0) (o := 1) hx hb hts hown hK hw hq0 fg_X5_9 dX5_learn_4 ?_
  refine q_alen (pc := 7) (q := (q0 + 1)) (n := 50) hx hb hK hw (wt_X5_code _ hq0) dX5_learn_7 ?_
  refine lv_aload_n (pc := 8) hx hb dX5_learn_8 rfl (lv_at hl 1 rfl) ?_
  refine q_alen (pc := 9) (q := q1) (n := n1) hx hb hK hw hq1 dX5_learn_9 ?_
  refine q_min (pc := 10) (rest := [.int (iI 0), .int a2, .ref (G.2.2.1 q0)]) hx hb hml hl.1 hts hown (rm_mm hR (by decide) (Nat.le_of_ble_eq_true rfl)) mt_X5_25 dX5_learn_10 ?_
  obtain ⟨v1, ev, hs⟩ := q_cal hs
  refine q_callN (pc := 13) (As := [.int a2, .int (iI 0), .int (mnI (Int32.ofNat 50) (Int32.ofNat n1))]) (rest := [.ref (G.2.2.1 q0)]) (rs := [.int v1, .ref (G.2.2.1 q0)]) hx hb hml hl.1 hts hown hK hSt hN hw (c_X10_held l G a2 (iI 0) (mnI (Int32.ofNat 50) (Int32.ofNat n1)) h v1 ev) cn_X5_31 (rm_ok hR (by decide)) rfl (Nat.le_of_ble_eq_true rfl) rfl rfl dX5_learn_13 (fun H locs hw => ?_)
  refine q_putI (pc := 16) (q := q0) hx hb hts hown hK hw hq0 fp_X5_15 dX5_learn_16 hs (fun h2 H locs hw hs => ?_)
  refine lv_aload_n (pc := 19) hx hb dX5_learn_19 rfl (lv_at hl 1 rfl) ?_
  refine lv_iconst (pc := 20) (v := (iI 0)) hx hb dX5_learn_20 rfl ?_
  refine lv_aload_n (pc := 21) hx hb dX5_learn_21 rfl (lv_at hl 0 rfl) ?_
  refine q_getR (pc := 22) (q := q0) (o := 1) hx hb hts hown hK hw hq0 fg_X5_9 dX5_learn_22 ?_
  refine lv_iconst (pc := 25) (v := (iI 0)) hx hb dX5_learn_25 rfl ?_
  refine lv_aload_n (pc := 26) hx hb dX5_learn_26 rfl (lv_at hl 0 rfl) ?_
  refine q_getI (pc := 27) (q := q0) hx hb hts hown hK hw hq0 fg_X5_15 dX5_learn_27 ?_
  refine q_acp (pc := 30) (a := q1) (b := (q0 + 1)) (an := n1) (bn := 50) hx hb hml hl.1 hts hown hK hw hq1 (wt_X5_code _ hq0) ac_X5_37 (rm_ac hR (by decide)) dX5_learn_30 hs (fun h3 H locs hw hs => ?_)
  exact q_vret hret dX5_learn_33 hw hs

set_option maxHeartbeats 4000000 in
theorem c_X5_copyFrom (l : Launch) (G : GG) (q0 : Nat) (hq0 : LAY[q0]? = some (8, 0)) (q1 : Nat) (hq1 : LAY[q1]? = some (8, 0)) (h : Mem) (h' : Mem) (hs : f_X5_copyFrom h q0 q1 = some h') : Sat l G yX5_copyFrom cX5_copyFrom 2 none 3 [.ref (G.2.2.1 q0), .ref (G.2.2.1 q1)] h none h' := by
  refine Sat.mkV (by decide) (Nat.le_of_ble_eq_true rfl) ?_
  intro p e R s m args below meth c Q F hret hw ls hl
  obtain ⟨hx, hb, hml, hown, hts, hK, hSt, hN, hR⟩ := F
  have hl : lv_has ls 2 [(0, .ref (G.2.2.1 q0)), (1, .ref (G.2.2.1 q1))] := hl
  unfold f_X5_copyFrom at hs
  refine lv_aload_n (pc := 0) hx hb dX5_copyFrom_0 rfl (lv_at hl 0 rfl) ?_
  refine lv_aload_n (pc := 1) hx hb dX5_copyFrom_1 rfl (lv_at hl 1 rfl) ?_
  refine q_getR (pc := 2) (q := q1) (o := 1) hx hb hts hown hK hw hq1 fg_X5_9 dX5_copyFrom_2 ?_
  refine lv_aload_n (pc := 5) hx hb dX5_copyFrom_5 rfl (lv_at hl 1 rfl) ?_
  refine q_getI (pc := 6) (q := q1) hx hb hts hown hK hw hq1 fg_X5_15 dX5_copyFrom_6 ?_
  obtain ⟨h1, ev, hs⟩ := q_cal hs
  refine q_callV (pc := 9) (q := q0) (As := [.ref (G.2.2.1 (q1 + 1)), .int (gI h q1 2)]) (rest := []) (rs := []) hx hb hml hl.1 hts hown hK hSt hN hw (c_X5_learn l G q0 hq0 (q1 + 1) 50 (wt_X5_code _ hq1) (gI h q1 2) h h1 ev) hq0 rfl cv_X5_43 (rm_ok hR (by decide)) rfl (Nat.le_of_ble_eq_true rfl) rfl rfl dX5_copyFrom_9 (fun H locs hw => ?_)
  exact q_vret hret dX5_copyFrom_12 hw hs

set_option maxHeartbeats 4000000 in
theorem c_X5_withoutText (l : Launch) (G : GG) (q0 : Nat) (hq0 : LAY[q0]? = some (8, 0)) (a1 : Int32) (h : Mem) (v : Int32)  (hs : f_X5_withoutText h q0 a1 = some v) : Sat l G yX5_withoutText cX5_withoutText 2 (some .int) 0 [.ref (G.2.2.1 q0), .int a1] h (some (.int v)) h := by
  refine Sat.mkI (by decide) (Nat.le_of_ble_eq_true rfl) ?_
  intro p e R s m args below meth c Q F hret hw ls hl
  obtain ⟨hx, hb, hml, hown, hts, hK, hSt, hN, hR⟩ := F
  have hl : lv_has ls 2 [(0, .ref (G.2.2.1 q0)), (1, .int a1)] := hl
  unfold f_X5_withoutText at hs
  refine lv_aload_n (pc := 0) hx hb dX5_withoutText_0 rfl (lv_at hl 0 rfl) ?_
  refine q_getI (pc := 1) (q := q0) hx hb hts hown hK hw hq0 fg_X5_22 dX5_withoutText_1 ?_
  refine lv_if_ne (pc := 4) (tgt := 13) hx hb dX5_withoutText_4 (by decide) (fun hc => ?_) (fun hc => ?_)
  · replace hs := q_t hc hs
    refine lv_iconst (pc := 13) (v := (iI 0)) hx hb dX5_withoutText_13 rfl ?_
    exact q_iret hret dX5_withoutText_14 hw hs
  · replace hs := q_f (fun z => z hc) hs
    refine lv_iconst (pc := 7) (v := (iI 5)) hx hb dX5_withoutText_7 rfl ?_
    refine lv_iload_n (pc := 8) hx hb dX5_withoutText_8 rfl (lv_at hl 1 rfl) ?_
    refine lv_iadd (pc := 9) hx hb dX5_withoutText_9 ?_
    refine lv_goto (pc := 10) (tgt := 14) hx hb dX5_withoutText_10 (by decide) ?_
    exact q_iret hret dX5_withoutText_14 hw hs

set_option maxHeartbeats 4000000 in
set_option maxRecDepth 100000 in
theorem c_X5_joined (l : Launch) (G : GG) (a0 : Int32) (a1 : Int32) (a2 : Int32) (h : Mem) (v : Int32)  (hs : f_X5_joined h a0 a1 a2 = some v) : Sat l G yX5_joined cX5_joined 3 (some .int) 0 [.int a0, .int a1, .int a2] h (some (.int v)) h := by
  refine Sat.mkI (by decide) (Nat.le_of_ble_eq_true rfl) ?_
  intro p e R s m args below meth c Q F hret hw ls hl
  obtain ⟨hx, hb, hml, hown, hts, hK, hSt, hN, hR⟩ := F
  have hl : lv_has ls 3 [(0, .int a0), (1, .int a1), (2, .int a2)] := hl
  unfold f_X5_joined at hs
  refine lv_iload_n (pc := 0) hx hb dX5_joined_0 rfl (lv_at hl 0 rfl) ?_
  by_cases hc0 : a0 = iI 38
  · replace hs := q_t hc0 hs
    refine lv_lookup (pc := 1) (off := 97) (tgt := 98) hx hb dX5_joined_1 (by decide) (by rw [hc0]; decide) (by decide) ?_
    refine lv_iload_n (pc := 98) hx hb dX5_joined_98 rfl (lv_at hl 1 rfl) ?_
    refine q_join0 (P0 := ∀ (H : Heap) (locs : List Loc), IW G s h H locs → ∀ ls : Array Slot, lv_has ls 3 [] → W p l e R s m args below meth c H locs 0 0 Q (F0 m 110 ls [])) hs ?_ ?_
    · intro  hs H locs hw ls hl
      refine lv_iconst (pc := 110) (v := (iI 0)) hx hb dX5_joined_110 rfl ?_
      exact q_iret hret dX5_joined_111 hw hs
    · intro K1 hK1 hs
      refine lv_if_eq (pc := 99) (tgt := 110) hx hb dX5_joined_99 (by decide) (fun hc => ?_) (fun hc => ?_)
      · replace hs := q_t hc hs
        exact hK1 hs _ _ hw _ (lv_sub hl [] rfl)
      · replace hs := q_f hc hs
        refine lv_iload_n (pc := 102) hx hb dX5_joined_102 rfl (lv_at hl 2 rfl) ?_
        refine lv_if_eq (pc := 103) (tgt := 110) hx hb dX5_joined_103 (by decide) (fun hc => ?_) (fun hc => ?_)
        · replace hs := q_t hc hs
          exact hK1 hs _ _ hw _ (lv_sub hl [] rfl)
        · replace hs := q_f hc hs
          refine lv_iconst (pc := 106) (v := (iI 1)) hx hb dX5_joined_106 rfl ?_
          refine lv_goto (pc := 107) (tgt := 111) hx hb dX5_joined_107 (by decide) ?_
          exact q_iret hret dX5_joined_111 hw hs
  replace hs := q_f hc0 hs
  by_cases hc1 : a0 = iI 42
  · replace hs := q_t hc1 hs
    refine lv_lookup (pc := 1) (off := 152) (tgt := 153) hx hb dX5_joined_1 (by decide) (by rw [hc1]; decide) (by decide) ?_
    refine lv_iload_n (pc := 153) hx hb dX5_joined_153 rfl (lv_at hl 1 rfl) ?_
    refine lv_iload_n (pc := 154) hx hb dX5_joined_154 rfl (lv_at hl 2 rfl) ?_
    refine lv_imul (pc := 155) hx hb dX5_joined_155 ?_
    exact q_iret hret dX5_joined_156 hw hs
  replace hs := q_f hc1 hs
  by_cases hc2 : a0 = iI 43
  · replace hs := q_t hc2 hs
    refine lv_lookup (pc := 1) (off := 144) (tgt := 145) hx hb dX5_joined_1 (by decide) (by rw [hc2]; decide) (by decide) ?_
    refine lv_iload_n (pc := 145) hx hb dX5_joined_145 rfl (lv_at hl 1 rfl) ?_
    refine lv_iload_n (pc := 146) hx hb dX5_joined_146 rfl (lv_at hl 2 rfl) ?_
    refine lv_iadd (pc := 147) hx hb dX5_joined_147 ?_
    exact q_iret hret dX5_joined_148 hw hs
  replace hs := q_f hc2 hs
  by_cases hc3 : a0 = iI 45
  · replace hs := q_t hc3 hs
    refine lv_lookup (pc := 1) (off := 148) (tgt := 149) hx hb dX5_joined_1 (by decide) (by rw [hc3]; decide) (by decide) ?_
    refine lv_iload_n (pc := 149) hx hb dX5_joined_149 rfl (lv_at hl 1 rfl) ?_
    refine lv_iload_n (pc := 150) hx hb dX5_joined_150 rfl (lv_at hl 2 rfl) ?_
    refine lv_isub (pc := 151) hx hb dX5_joined_151 ?_
    exact q_iret hret dX5_joined_152 hw hs
  replace hs := q_f hc3 hs
  by_cases hc4 : a0 = iI 47
  · replace hs := q_t hc4 hs
    refine lv_lookup (pc := 1) (off := 156) (tgt := 157) hx hb dX5_joined_1 (by decide) (by rw [hc4]; decide) (by decide) ?_
    refine lv_iload_n (pc := 157) hx hb dX5_joined_157 rfl (lv_at hl 2 rfl) ?_
    refine lv_if_ne (pc := 158) (tgt := 165) hx hb dX5_joined_158 (by decide) (fun hc => ?_) (fun hc => ?_)
    · replace hs := q_t hc hs
      refine lv_iload_n (pc := 165) hx hb dX5_joined_165 rfl (lv_at hl 1 rfl) ?_
      refine lv_iload_n (pc := 166) hx hb dX5_joined_166 rfl (lv_at hl 2 rfl) ?_
      obtain ⟨hne, hs⟩ := q_nz hs
      refine lv_idiv (pc := 167) hx hb dX5_joined_167 hne ?_
      exact q_iret hret dX5_joined_168 hw hs
    · replace hs := q_f (fun z => z hc) hs
      refine lv_iconst (pc := 161) (v := (iI 0)) hx hb dX5_joined_161 rfl ?_
      refine lv_goto (pc := 162) (tgt := 168) hx hb dX5_joined_162 (by decide) ?_
      exact q_iret hret dX5_joined_168 hw hs
  replace hs := q_f hc4 hs
  by_cases hc5 : a0 = iI 60
  · replace hs := q_t hc5 hs
    refine lv_lookup (pc := 1) (off := 111) (tgt := 112) hx hb dX5_joined_1 (by decide) (by rw [hc5]; decide) (by decide) ?_
    refine lv_iload_n (pc := 112) hx hb dX5_joined_112 rfl (lv_at hl 1 rfl) ?_
    refine lv_iload_n (pc := 113) hx hb dX5_joined_113 rfl (lv_at hl 2 rfl) ?_
    refine lv_icmp_ge (pc := 114) (tgt := 121) hx hb dX5_joined_114 (by decide) (fun hc => ?_) (fun hc => ?_)
    · replace hs := q_t hc hs
      refine lv_iconst (pc := 121) (v := (iI 0)) hx hb dX5_joined_121 rfl ?_
      exact q_iret hret dX5_joined_122 hw hs
    · replace hs := q_f hc hs
      refine lv_iconst (pc := 117) (v := (iI 1)) hx hb dX5_joined_117 rfl ?_
      refine lv_goto (pc := 118) (tgt := 122) hx hb dX5_joined_118 (by decide) ?_
      exact q_iret hret dX5_joined_122 hw hs
  replace hs := q_f hc5 hs
  by_cases hc6 : a0 = iI 61
  · replace hs := q_t hc6 hs
    refine lv_lookup (pc := 1) (off := 122) (tgt := 123) hx hb dX5_joined_1 (by decide) (by rw [hc6]; decide) (by decide) ?_
    refine lv_iload_n (pc := 123) hx hb dX5_joined_123 rfl (lv_at hl 1 rfl) ?_
    refine lv_iload_n (pc := 124) hx hb dX5_joined_124 rfl (lv_at hl 2 rfl) ?_
    refine lv_icmp_ne (pc := 125) (tgt := 132) hx hb dX5_joined_125 (by decide) (fun hc => ?_) (fun hc => ?_)
    · replace hs := q_t hc hs
      refine lv_iconst (pc := 132) (v := (iI 0)) hx hb dX5_joined_132 rfl ?_
      exact q_iret hret dX5_joined_133 hw hs
    · replace hs := q_f (fun z => z hc) hs
      refine lv_iconst (pc := 128) (v := (iI 1)) hx hb dX5_joined_128 rfl ?_
      refine lv_goto (pc := 129) (tgt := 133) hx hb dX5_joined_129 (by decide) ?_
      exact q_iret hret dX5_joined_133 hw hs
  replace hs := q_f hc6 hs
  by_cases hc7 : a0 = iI 62
  · replace hs := q_t hc7 hs
    refine lv_lookup (pc := 1) (off := 133) (tgt := 134) hx hb dX5_joined_1 (by decide) (by rw [hc7]; decide) (by decide) ?_
    refine lv_iload_n (pc := 134) hx hb dX5_joined_134 rfl (lv_at hl 1 rfl) ?_
    refine lv_iload_n (pc := 135) hx hb dX5_joined_135 rfl (lv_at hl 2 rfl) ?_
    refine lv_icmp_le (pc := 136) (tgt := 143) hx hb dX5_joined_136 (by decide) (fun hc => ?_) (fun hc => ?_)
    · replace hs := q_t hc hs
      refine lv_iconst (pc := 143) (v := (iI 0)) hx hb dX5_joined_143 rfl ?_
      exact q_iret hret dX5_joined_144 hw hs
    · replace hs := q_f hc hs
      refine lv_iconst (pc := 139) (v := (iI 1)) hx hb dX5_joined_139 rfl ?_
      refine lv_goto (pc := 140) (tgt := 144) hx hb dX5_joined_140 (by decide) ?_
      exact q_iret hret dX5_joined_144 hw hs
  replace hs := q_f hc7 hs
  by_cases hc8 : a0 = iI 124
  · replace hs := q_t hc8 hs
    refine lv_lookup (pc := 1) (off := 83) (tgt := 84) hx hb dX5_joined_1 (by decide) (by rw [hc8]; decide) (by decide) ?_
    refine lv_iload_n (pc := 84) hx hb dX5_joined_84 rfl (lv_at hl 1 rfl) ?_
    refine q_join0 (P0 := ∀ (H : Heap) (locs : List Loc), IW G s h H locs → ∀ ls : Array Slot, lv_has ls 3 [] → W p l e R s m args below meth c H locs 0 0 Q (F0 m 92 ls [])) hs ?_ ?_
    · intro  hs H locs hw ls hl
      refine lv_iconst (pc := 92) (v := (iI 1)) hx hb dX5_joined_92 rfl ?_
      refine lv_goto (pc := 93) (tgt := 97) hx hb dX5_joined_93 (by decide) ?_
      exact q_iret hret dX5_joined_97 hw hs
    · intro K2 hK2 hs
      refine lv_if_ne (pc := 85) (tgt := 92) hx hb dX5_joined_85 (by decide) (fun hc => ?_) (fun hc => ?_)
      · replace hs := q_t hc hs
        exact hK2 hs _ _ hw _ (lv_sub hl [] rfl)
      · replace hs := q_f (fun z => z hc) hs
        refine lv_iload_n (pc := 88) hx hb dX5_joined_88 rfl (lv_at hl 2 rfl) ?_
        refine lv_if_eq (pc := 89) (tgt := 96) hx hb dX5_joined_89 (by decide) (fun hc => ?_) (fun hc => ?_)
        · replace hs := q_t hc hs
          refine lv_iconst (pc := 96) (v := (iI 0)) hx hb dX5_joined_96 rfl ?_
          exact q_iret hret dX5_joined_97 hw hs
        · replace hs := q_f hc hs
          exact hK2 hs _ _ hw _ (lv_sub hl [] rfl)
  replace hs := q_f hc8 hs
  refine lv_lookup (pc := 1) (off := 168) (tgt := 169) hx hb dX5_joined_1 (by decide) ((lv_osw hc0 (by decide)).trans ((lv_osw hc1 (by decide)).trans ((lv_osw hc2 (by decide)).trans ((lv_osw hc3 (by decide)).trans ((lv_osw hc4 (by decide)).trans ((lv_osw hc5 (by decide)).trans ((lv_osw hc6 (by decide)).trans ((lv_osw hc7 (by decide)).trans ((lv_osw hc8 (by decide)).trans rfl))))))))) (by decide) ?_
  refine lv_iload_n (pc := 169) hx hb dX5_joined_169 rfl (lv_at hl 2 rfl) ?_
  refine lv_if_ne (pc := 170) (tgt := 177) hx hb dX5_joined_170 (by decide) (fun hc => ?_) (fun hc => ?_)
  · replace hs := q_t hc hs
    refine lv_iload_n (pc := 177) hx hb dX5_joined_177 rfl (lv_at hl 1 rfl) ?_
    refine lv_iload_n (pc := 178) hx hb dX5_joined_178 rfl (lv_at hl 2 rfl) ?_
    obtain ⟨hne, hs⟩ := q_nz hs
    refine q_irem (pc := 179) hx hb dX5_joined_179 hne ?_
    exact q_iret hret dX5_joined_180 hw hs
  · replace hs := q_f (fun z => z hc) hs
    refine lv_iconst (pc := 173) (v := (iI 0)) hx hb dX5_joined_173 rfl ?_
    refine lv_goto (pc := 174) (tgt := 180) hx hb dX5_joined_174 (by decide) ?_
    exact q_iret hret dX5_joined_180 hw hs

set_option maxHeartbeats 4000000 in
theorem c_X7_canHave (l : Launch) (G : GG) (a0 : Int32) (h : Mem) (v : Int32)  (hs : f_X7_canHave h a0 = some v) : Sat l G yX7_canHave cX7_canHave 1 (some .boolean) 0 [.int a0] h (some (.int v)) h := by
  refine Sat.mkZ (by decide) (Nat.le_of_ble_eq_true rfl) ?_
  intro p e R s m args below meth c Q F hret hw ls hl
  obtain ⟨hx, hb, hml, hown, hts, hK, hSt, hN, hR⟩ := F
  have hl : lv_has ls 1 [(0, .int a0)] := hl
  unfold f_X7_canHave at hs
  refine lv_iload_n (pc := 0) hx hb dX7_canHave_0 rfl (lv_at hl 0 rfl) ?_
  refine q_join0 (P0 := ∀ (H : Heap) (locs : List Loc), IW G s h H locs → ∀ ls : Array Slot, lv_has ls 1 [] → W p l e R s m args below meth c H locs 0 0 Q (F0 m 22 ls [])) hs ?_ ?_
  · intro  hs H locs hw ls hl
    refine lv_iconst (pc := 22) (v := (iI 1)) hx hb dX7_canHave_22 rfl ?_
    refine lv_goto (pc := 23) (tgt := 27) hx hb dX7_canHave_23 (by decide) ?_
    exact q_zret hret dX7_canHave_27 hw hs
  · intro K1 hK1 hs
    refine lv_if_eq (pc := 1) (tgt := 22) hx hb dX7_canHave_1 (by decide) (fun hc => ?_) (fun hc => ?_)
    · replace hs := q_t hc hs
      exact hK1 hs _ _ hw _ (lv_sub hl [] rfl)
    · replace hs := q_f hc hs
      refine lv_iload_n (pc := 4) hx hb dX7_canHave_4 rfl (lv_at hl 0 rfl) ?_
      refine lv_bipush (pc := 5) (v := (iI 8)) hx hb dX7_canHave_5 (by decide) ?_
      refine lv_icmp_eq (pc := 7) (tgt := 22) hx hb dX7_canHave_7 (by decide) (fun hc => ?_) (fun hc => ?_)
      · replace hs := q_t hc hs
        exact hK1 hs _ _ hw _ (lv_sub hl [] rfl)
      · replace hs := q_f hc hs
        refine lv_iload_n (pc := 10) hx hb dX7_canHave_10 rfl (lv_at hl 0 rfl) ?_
        refine lv_bipush (pc := 11) (v := (iI 16)) hx hb dX7_canHave_11 (by decide) ?_
        refine lv_icmp_eq (pc := 13) (tgt := 22) hx hb dX7_canHave_13 (by decide) (fun hc => ?_) (fun hc => ?_)
        · replace hs := q_t hc hs
          exact hK1 hs _ _ hw _ (lv_sub hl [] rfl)
        · replace hs := q_f hc hs
          refine lv_iload_n (pc := 16) hx hb dX7_canHave_16 rfl (lv_at hl 0 rfl) ?_
          refine lv_bipush (pc := 17) (v := (iI 32)) hx hb dX7_canHave_17 (by decide) ?_
          refine lv_icmp_ne (pc := 19) (tgt := 26) hx hb dX7_canHave_19 (by decide) (fun hc => ?_) (fun hc => ?_)
          · replace hs := q_t hc hs
            refine lv_iconst (pc := 26) (v := (iI 0)) hx hb dX7_canHave_26 rfl ?_
            exact q_zret hret dX7_canHave_27 hw hs
          · replace hs := q_f (fun z => z hc) hs
            exact hK1 hs _ _ hw _ (lv_sub hl [] rfl)

set_option maxHeartbeats 4000000 in
theorem c_X7_isMissing (l : Launch) (G : GG) (q0 : Nat) (hq0 : LAY[q0]? = some (10, 0)) (h : Mem) (v : Int32)  (hs : f_X7_isMissing h q0 = some v) : Sat l G yX7_isMissing cX7_isMissing 1 (some .boolean) 0 [.ref (G.2.2.1 q0)] h (some (.int v)) h := by
  refine Sat.mkZ (by decide) (Nat.le_of_ble_eq_true rfl) ?_
  intro p e R s m args below meth c Q F hret hw ls hl
  obtain ⟨hx, hb, hml, hown, hts, hK, hSt, hN, hR⟩ := F
  have hl : lv_has ls 1 [(0, .ref (G.2.2.1 q0))] := hl
  unfold f_X7_isMissing at hs
  refine lv_aload_n (pc := 0) hx hb dX7_isMissing_0 rfl (lv_at hl 0 rfl) ?_
  refine q_getI (pc := 1) (q := q0) hx hb hts hown hK hw hq0 fg_X7_7 dX7_isMissing_1 ?_
  refine lv_if_ne (pc := 4) (tgt := 11) hx hb dX7_isMissing_4 (by decide) (fun hc => ?_) (fun hc => ?_)
  · replace hs := q_t hc hs
    refine lv_iconst (pc := 11) (v := (iI 0)) hx hb dX7_isMissing_11 rfl ?_
    exact q_zret hret dX7_isMissing_12 hw hs
  · replace hs := q_f (fun z => z hc) hs
    refine lv_iconst (pc := 7) (v := (iI 1)) hx hb dX7_isMissing_7 rfl ?_
    refine lv_goto (pc := 8) (tgt := 12) hx hb dX7_isMissing_8 (by decide) ?_
    exact q_zret hret dX7_isMissing_12 hw hs

set_option maxHeartbeats 4000000 in
theorem c_X7_lose (l : Launch) (G : GG) (q0 : Nat) (hq0 : LAY[q0]? = some (10, 0)) (h : Mem) (h' : Mem) (hs : f_X7_lose h q0 = some h') : Sat l G yX7_lose cX7_lose 1 none 0 [.ref (G.2.2.1 q0)] h none h' := by
  refine Sat.mkV (by decide) (Nat.le_of_ble_eq_true rfl) ?_
  intro p e R s m args below meth c Q F hret hw ls hl
  obtain ⟨hx, hb, hml, hown, hts, hK, hSt, hN, hR⟩ := F
  have hl : lv_has ls 1 [(0, .ref (G.2.2.1 q0))] := hl
  unfold f_X7_lose at hs
  refine lv_aload_n (pc := 0) hx hb dX7_lose_0 rfl (lv_at hl 0 rfl) ?_
  refine lv_iconst (pc := 1) (v := (iI 0)) hx hb dX7_lose_1 rfl ?_
  refine q_putI (pc := 2) (q := q0) hx hb hts hown hK hw hq0 fp_X7_7 dX7_lose_2 hs (fun h1 H locs hw hs => ?_)
  refine lv_aload_n (pc := 5) hx hb dX7_lose_5 rfl (lv_at hl 0 rfl) ?_
  refine lv_iconst (pc := 6) (v := (iI 0)) hx hb dX7_lose_6 rfl ?_
  refine q_putI (pc := 7) (q := q0) hx hb hts hown hK hw hq0 fp_X7_13 dX7_lose_7 hs (fun h2 H locs hw hs => ?_)
  exact q_vret hret dX7_lose_10 hw hs

set_option maxHeartbeats 4000000 in
theorem c_X7_write (l : Launch) (G : GG) (q0 : Nat) (hq0 : LAY[q0]? = some (10, 0)) (a1 : Int32) (a2 : Int32) (h : Mem) (h' : Mem) (hs : f_X7_write h q0 a1 a2 = some h') : Sat l G yX7_write cX7_write 3 none 0 [.ref (G.2.2.1 q0), .int a1, .int a2] h none h' := by
  refine Sat.mkV (by decide) (Nat.le_of_ble_eq_true rfl) ?_
  intro p e R s m args below meth c Q F hret hw ls hl
  obtain ⟨hx, hb, hml, hown, hts, hK, hSt, hN, hR⟩ := F
  have hl : lv_has ls 3 [(0, .ref (G.2.2.1 q0)), (1, .int a1), (2, .int a2)] := hl
  unfold f_X7_write at hs
  refine lv_aload_n (pc := 0) hx hb dX7_write_0 rfl (lv_at hl 0 rfl) ?_
  refine q_getR (pc := 1) (q := q0) (o := 1) hx hb hts hown hK hw hq0 fg_X7_16 dX7_write_1 ?_
  refine lv_iload_n (pc := 4) hx hb dX7_write_4 rfl (lv_at hl 1 rfl) ?_
  refine lv_aload_n (pc := 5) hx hb dX7_write_5 rfl (lv_at hl 0 rfl) ?_
  refine q_getI (pc := 6) (q := q0) hx hb hts hown hK hw hq0 fg_X7_7 dX7_write_6 ?_
  refine lv_bipush (pc := 9) (v := (iI 32)) hx hb dX7_write_9 (by decide) ?_
  refine lv_icmp_ne (pc := 11) (tgt := 18) hx hb dX7_write_11 (by decide) (fun hc => ?_) (fun hc => ?_)
  · replace hs := q_t hc hs
    refine lv_iload_n (pc := 18) hx hb dX7_write_18 rfl (lv_at hl 2 rfl) ?_
    refine lv_iconst (pc := 19) (v := (iI 1)) hx hb dX7_write_19 rfl ?_
    refine lv_aload_n (pc := 20) hx hb dX7_write_20 rfl (lv_at hl 0 rfl) ?_
    refine q_getI (pc := 21) (q := q0) hx hb hts hown hK hw hq0 fg_X7_7 dX7_write_21 ?_
    refine q_ishl (pc := 24) hx hb dX7_write_24 ?_
    refine lv_iconst (pc := 25) (v := (iI 1)) hx hb dX7_write_25 rfl ?_
    refine lv_isub (pc := 26) hx hb dX7_write_26 ?_
    refine lv_iand (pc := 27) hx hb dX7_write_27 ?_
    refine q_ast (pc := 28) (q := (q0 + 1)) (n := 40) hx hb hK hw (wt_X7_numbers _ hq0) dX7_write_28 hs (fun h1 H locs hw hs => ?_)
    exact q_vret hret dX7_write_29 hw hs
  · replace hs := q_f (fun z => z hc) hs
    refine lv_iload_n (pc := 14) hx hb dX7_write_14 rfl (lv_at hl 2 rfl) ?_
    refine lv_goto (pc := 15) (tgt := 28) hx hb dX7_write_15 (by decide) ?_
    refine q_ast (pc := 28) (q := (q0 + 1)) (n := 40) hx hb hK hw (wt_X7_numbers _ hq0) dX7_write_28 hs (fun h2 H locs hw hs => ?_)
    exact q_vret hret dX7_write_29 hw hs

set_option maxHeartbeats 4000000 in
theorem c_X7_hasPart (l : Launch) (G : GG) (q0 : Nat) (hq0 : LAY[q0]? = some (10, 0)) (a1 : Int32) (a2 : Int32) (h : Mem) (v : Int32)  (hs : f_X7_hasPart h q0 a1 a2 = some v) : Sat l G yX7_hasPart cX7_hasPart 3 (some .boolean) 1 [.ref (G.2.2.1 q0), .int a1, .int a2] h (some (.int v)) h := by
  refine Sat.mkZ (by decide) (Nat.le_of_ble_eq_true rfl) ?_
  intro p e R s m args below meth c Q F hret hw ls hl
  obtain ⟨hx, hb, hml, hown, hts, hK, hSt, hN, hR⟩ := F
  have hl : lv_has ls 3 [(0, .ref (G.2.2.1 q0)), (1, .int a1), (2, .int a2)] := hl
  unfold f_X7_hasPart at hs
  refine lv_iload_n (pc := 0) hx hb dX7_hasPart_0 rfl (lv_at hl 2 rfl) ?_
  refine q_join0 (P0 := ∀ (H : Heap) (locs : List Loc), IW G s h H locs → ∀ ls : Array Slot, lv_has ls 3 [] → W p l e R s m args below meth c H locs 0 0 Q (F0 m 30 ls [])) hs ?_ ?_
  · intro  hs H locs hw ls hl
    refine lv_iconst (pc := 30) (v := (iI 0)) hx hb dX7_hasPart_30 rfl ?_
    exact q_zret hret dX7_hasPart_31 hw hs
  · intro K1 hK1 hs
    refine lv_if_lt (pc := 1) (tgt := 30) hx hb dX7_hasPart_1 (by decide) (fun hc => ?_) (fun hc => ?_)
    · replace hs := q_t hc hs
      exact hK1 hs _ _ hw _ (lv_sub hl [] rfl)
    · replace hs := q_f hc hs
      refine lv_iload_n (pc := 4) hx hb dX7_hasPart_4 rfl (lv_at hl 1 rfl) ?_
      refine lv_iconst (pc := 5) (v := (iI 0)) hx hb dX7_hasPart_5 rfl ?_
      refine lv_aload_n (pc := 6) hx hb dX7_hasPart_6 rfl (lv_at hl 0 rfl) ?_
      refine q_getI (pc := 7) (q := q0) hx hb hts hown hK hw hq0 fg_X7_13 dX7_hasPart_7 ?_
      obtain ⟨v2, ev, hs⟩ := q_cal hs
      refine q_callN (pc := 10) (As := [.int a1, .int (iI 0), .int (gI h q0 1)]) (rest := []) (rs := [.int v2]) hx hb hml hl.1 hts hown hK hSt hN hw (c_X10_within l G a1 (iI 0) (gI h q0 1) h v2 ev) cn_X7_26 (rm_ok hR (by decide)) rfl (Nat.le_of_ble_eq_true rfl) rfl rfl dX7_hasPart_10 (fun H locs hw => ?_)
      refine lv_if_eq (pc := 13) (tgt := 30) hx hb dX7_hasPart_13 (by decide) (fun hc => ?_) (fun hc => ?_)
      · replace hs := q_t hc hs
        exact hK1 hs _ _ hw _ (lv_sub hl [] rfl)
      · replace hs := q_f hc hs
        refine lv_iload_n (pc := 16) hx hb dX7_hasPart_16 rfl (lv_at hl 2 rfl) ?_
        refine lv_aload_n (pc := 17) hx hb dX7_hasPart_17 rfl (lv_at hl 0 rfl) ?_
        refine q_getI (pc := 18) (q := q0) hx hb hts hown hK hw hq0 fg_X7_13 dX7_hasPart_18 ?_
        refine lv_iload_n (pc := 21) hx hb dX7_hasPart_21 rfl (lv_at hl 1 rfl) ?_
        refine lv_isub (pc := 22) hx hb dX7_hasPart_22 ?_
        refine lv_icmp_gt (pc := 23) (tgt := 30) hx hb dX7_hasPart_23 (by decide) (fun hc => ?_) (fun hc => ?_)
        · replace hs := q_t hc hs
          exact hK1 hs _ _ hw _ (lv_sub hl [] rfl)
        · replace hs := q_f hc hs
          refine lv_iconst (pc := 26) (v := (iI 1)) hx hb dX7_hasPart_26 rfl ?_
          refine lv_goto (pc := 27) (tgt := 31) hx hb dX7_hasPart_27 (by decide) ?_
          exact q_zret hret dX7_hasPart_31 hw hs

set_option maxHeartbeats 4000000 in
theorem c_J6_bitCount_0f7a4 (l : Launch) (G : GG) (a0 : Int32) (h : Mem) (v : Int32)  (hs : f_J6_bitCount_0f7a4 h a0 = some v) : Sat l G yJ6_bitCount_0f7a4 cJ6_bitCount_0f7a4 1 (some .int) 0 [.int a0] h (some (.int v)) h := by
  refine Sat.mkI (by decide) (Nat.le_of_ble_eq_true rfl) ?_
  intro p e R s m args below meth c Q F hret hw ls hl
  obtain ⟨hx, hb, hml, hown, hts, hK, hSt, hN, hR⟩ := F
  have hl : lv_has ls 1 [(0, .int a0)] := hl
  unfold f_J6_bitCount_0f7a4 at hs
  refine lv_iload_n (pc := 0) hx hb dJ6_bitCount_0f7a4_0 rfl (lv_at hl 0 rfl) ?_
  refine lv_iload_n (pc := 1) hx hb dJ6_bitCount_0f7a4_1 rfl (lv_at hl 0 rfl) ?_
  refine lv_iconst (pc := 2) (v := (iI 1)) hx hb dJ6_bitCount_0f7a4_2 rfl ?_
  refine lv_iushr (pc := 3) (v := (ushI a0 (iI 1))) hx hb dJ6_bitCount_0f7a4_3 rfl ?_
  refine lv_ldcw (pc := 4) (v := (iI 1431655765)) hx hb hown (hts _ ki_J6_265) dJ6_bitCount_0f7a4_4 ?_
  refine lv_iand (pc := 7) hx hb dJ6_bitCount_0f7a4_7 ?_
  refine lv_isub (pc := 8) hx hb dJ6_bitCount_0f7a4_8 ?_
  obtain ⟨x1, ex1, hs⟩ := q_nm hs
  refine q_topI ex1 ?_
  refine lv_istore_n (pc := 9) (lv' := [(0, .int x1)]) hx hb dJ6_bitCount_0f7a4_9 rfl hl (by decide) rfl (fun ls hl => ?_)
  refine lv_iload_n (pc := 10) hx hb dJ6_bitCount_0f7a4_10 rfl (lv_at hl 0 rfl) ?_
  refine lv_ldcw (pc := 11) (v := (iI 858993459)) hx hb hown (hts _ ki_J6_266) dJ6_bitCount_0f7a4_11 ?_
  refine lv_iand (pc := 14) hx hb dJ6_bitCount_0f7a4_14 ?_
  refine lv_iload_n (pc := 15) hx hb dJ6_bitCount_0f7a4_15 rfl (lv_at hl 0 rfl) ?_
  refine lv_iconst (pc := 16) (v := (iI 2)) hx hb dJ6_bitCount_0f7a4_16 rfl ?_
  refine lv_iushr (pc := 17) (v := (ushI x1 (iI 2))) hx hb dJ6_bitCount_0f7a4_17 rfl ?_
  refine lv_ldcw (pc := 18) (v := (iI 858993459)) hx hb hown (hts _ ki_J6_266) dJ6_bitCount_0f7a4_18 ?_
  refine lv_iand (pc := 21) hx hb dJ6_bitCount_0f7a4_21 ?_
  refine lv_iadd (pc := 22) hx hb dJ6_bitCount_0f7a4_22 ?_
  obtain ⟨x2, ex2, hs⟩ := q_nm hs
  refine q_topI ex2 ?_
  refine lv_istore_n (pc := 23) (lv' := [(0, .int x2)]) hx hb dJ6_bitCount_0f7a4_23 rfl hl (by decide) rfl (fun ls hl => ?_)
  refine lv_iload_n (pc := 24) hx hb dJ6_bitCount_0f7a4_24 rfl (lv_at hl 0 rfl) ?_
  refine lv_iload_n (pc := 25) hx hb dJ6_bitCount_0f7a4_25 rfl (lv_at hl 0 rfl) ?_
  refine lv_iconst (pc := 26) (v := (iI 4)) hx hb dJ6_bitCount_0f7a4_26 rfl ?_
  refine lv_iushr (pc := 27) (v := (ushI x2 (iI 4))) hx hb dJ6_bitCount_0f7a4_27 rfl ?_
  refine lv_iadd (pc := 28) hx hb dJ6_bitCount_0f7a4_28 ?_
  refine lv_ldcw (pc := 29) (v := (iI 252645135)) hx hb hown (hts _ ki_J6_267) dJ6_bitCount_0f7a4_29 ?_
  refine lv_iand (pc := 32) hx hb dJ6_bitCount_0f7a4_32 ?_
  obtain ⟨x3, ex3, hs⟩ := q_nm hs
  refine q_topI ex3 ?_
  refine lv_istore_n (pc := 33) (lv' := [(0, .int x3)]) hx hb dJ6_bitCount_0f7a4_33 rfl hl (by decide) rfl (fun ls hl => ?_)
  refine lv_iload_n (pc := 34) hx hb dJ6_bitCount_0f7a4_34 rfl (lv_at hl 0 rfl) ?_
  refine lv_iload_n (pc := 35) hx hb dJ6_bitCount_0f7a4_35 rfl (lv_at hl 0 rfl) ?_
  refine lv_bipush (pc := 36) (v := (iI 8)) hx hb dJ6_bitCount_0f7a4_36 (by decide) ?_
  refine lv_iushr (pc := 38) (v := (ushI x3 (iI 8))) hx hb dJ6_bitCount_0f7a4_38 rfl ?_
  refine lv_iadd (pc := 39) hx hb dJ6_bitCount_0f7a4_39 ?_
  obtain ⟨x4, ex4, hs⟩ := q_nm hs
  refine q_topI ex4 ?_
  refine lv_istore_n (pc := 40) (lv' := [(0, .int x4)]) hx hb dJ6_bitCount_0f7a4_40 rfl hl (by decide) rfl (fun ls hl => ?_)
  refine lv_iload_n (pc := 41) hx hb dJ6_bitCount_0f7a4_41 rfl (lv_at hl 0 rfl) ?_
  refine lv_iload_n (pc := 42) hx hb dJ6_bitCount_0f7a4_42 rfl (lv_at hl 0 rfl) ?_
  refine lv_bipush (pc := 43) (v := (iI 16)) hx hb dJ6_bitCount_0f7a4_43 (by decide) ?_
  refine lv_iushr (pc := 45) (v := (ushI x4 (iI 16))) hx hb dJ6_bitCount_0f7a4_45 rfl ?_
  refine lv_iadd (pc := 46) hx hb dJ6_bitCount_0f7a4_46 ?_
  obtain ⟨x5, ex5, hs⟩ := q_nm hs
  refine q_topI ex5 ?_
  refine lv_istore_n (pc := 47) (lv' := [(0, .int x5)]) hx hb dJ6_bitCount_0f7a4_47 rfl hl (by decide) rfl (fun ls hl => ?_)
  refine lv_iload_n (pc := 48) hx hb dJ6_bitCount_0f7a4_48 rfl (lv_at hl 0 rfl) ?_
  refine lv_bipush (pc := 49) (v := (iI 63)) hx hb dJ6_bitCount_0f7a4_49 (by decide) ?_
  refine lv_iand (pc := 51) hx hb dJ6_bitCount_0f7a4_51 ?_
  exact q_iret hret dJ6_bitCount_0f7a4_52 hw hs

set_option maxHeartbeats 4000000 in
theorem c_J7_fill_53178 (l : Launch) (G : GG) (q0 n0 : Nat) (hq0 : LAY[q0]? = some (0, n0)) (a1 : Int32) (h : Mem) (h' : Mem) (hs : f_J7_fill_53178 h q0 n0 a1 = some h') : Sat l G yJ7_fill_53178 cJ7_fill_53178 4 none 0 [.ref (G.2.2.1 q0), .int a1] h none h' := by
  refine Sat.mkV (by decide) (Nat.le_of_ble_eq_true rfl) ?_
  intro p e R s m args below meth c Q F hret hw ls hl
  obtain ⟨hx, hb, hml, hown, hts, hK, hSt, hN, hR⟩ := F
  have hl : lv_has ls 4 [(0, .ref (G.2.2.1 q0)), (1, .int a1)] := hl
  unfold f_J7_fill_53178 at hs
  refine lv_iconst (pc := 0) (v := (iI 0)) hx hb dJ7_fill_53178_0 rfl ?_
  refine lv_istore_n (pc := 1) (lv' := [(2, .int (iI 0)), (0, .ref (G.2.2.1 q0)), (1, .int a1)]) hx hb dJ7_fill_53178_1 rfl hl (by decide) rfl (fun ls hl => ?_)
  refine lv_aload_n (pc := 2) hx hb dJ7_fill_53178_2 rfl (lv_at hl 1 rfl) ?_
  refine q_alen (pc := 3) (q := q0) (n := n0) hx hb hK hw hq0 dJ7_fill_53178_3 ?_
  obtain ⟨x1, ex1, hs⟩ := q_nm hs
  refine q_topI ex1 ?_
  refine lv_istore_n (pc := 4) (lv' := [(3, .int x1), (2, .int (iI 0)), (0, .ref (G.2.2.1 q0)), (1, .int a1)]) hx hb dJ7_fill_53178_4 rfl hl (by decide) rfl (fun ls hl => ?_)
  refine (q_lo2 (P0 := fun (x2 : Int32) (h3 : Mem) => ∀ (H : Heap) (locs : List Loc), IW G s h3 H locs → ∀ ls : Array Slot, lv_has ls 4 [(0, .ref (G.2.2.1 q0)), (1, .int a1), (2, .int x2), (3, .int x1)] → W p l e R s m args below meth c H locs 0 0 Q (F0 m 5 ls [])) hs ?_) _ _ hw _ (lv_sub hl [2, 3, 1, 0] rfl)
  intro K4 hK4 x2 h3 hs H locs hw ls hl
  unfold f_J7_fill_53178_k4 at hs
  refine lv_iload_n (pc := 5) hx hb dJ7_fill_53178_5 rfl (lv_at hl 2 rfl) ?_
  refine lv_iload_n (pc := 6) hx hb dJ7_fill_53178_6 rfl (lv_at hl 3 rfl) ?_
  refine lv_icmp_ge (pc := 7) (tgt := 20) hx hb dJ7_fill_53178_7 (by decide) (fun hc => ?_) (fun hc => ?_)
  · replace hs := q_t hc hs
    exact q_vret hret dJ7_fill_53178_20 hw hs
  · replace hs := q_f hc hs
    refine lv_aload_n (pc := 10) hx hb dJ7_fill_53178_10 rfl (lv_at hl 0 rfl) ?_
    refine lv_iload_n (pc := 11) hx hb dJ7_fill_53178_11 rfl (lv_at hl 2 rfl) ?_
    refine lv_iload_n (pc := 12) hx hb dJ7_fill_53178_12 rfl (lv_at hl 1 rfl) ?_
    refine q_ast (pc := 13) (q := q0) (n := n0) hx hb hK hw hq0 dJ7_fill_53178_13 hs (fun h5 H locs hw hs => ?_)
    obtain ⟨x6, ex6, hs⟩ := q_nm hs
    refine lv_iinc (pc := 14) (v := x6) (lv' := [(2, .int x6), (0, .ref (G.2.2.1 q0)), (1, .int a1), (3, .int x1)]) hx hb dJ7_fill_53178_14 hl (k := 2) rfl ex6 (by decide) rfl (fun ls hl => ?_)
    refine lv_goto (pc := 17) (tgt := 5) hx hb dJ7_fill_53178_17 (by decide) ?_
    exact hK4 _ _ hs _ _ hw _ (lv_sub hl [1, 2, 0, 3] rfl)

set_option maxHeartbeats 4000000 in
theorem c_X10_fail (l : Launch) (G : GG) (a1 : Int32) (h : Mem) (v : Int32) (h' : Mem) (hs : f_X10_fail h a1 = some (v, h')) : Sat l G yX10_fail cX10_fail 2 (some .int) 1 [.ref (G.2.2.1 0), .int a1] h (some (.int v)) h' := by
  refine Sat.mkI (by decide) (Nat.le_of_ble_eq_true rfl) ?_
  intro p e R s m args below meth c Q F hret hw ls hl
  obtain ⟨hx, hb, hml, hown, hts, hK, hSt, hN, hR⟩ := F
  have hl : lv_has ls 2 [(0, .ref (G.2.2.1 0)), (1, .int a1)] := hl
  unfold f_X10_fail at hs
  refine lv_iload_n (pc := 0) hx hb dX10_fail_0 rfl (lv_at hl 1 rfl) ?_
  refine lv_iconst (pc := 1) (v := (iI 1)) hx hb dX10_fail_1 rfl ?_
  refine lv_iconst (pc := 2) (v := (iI 5)) hx hb dX10_fail_2 rfl ?_
  obtain ⟨v1, ev, hs⟩ := q_cal hs
  refine q_callS (pc := 3) (As := [.int a1, .int (iI 1), .int (iI 5)]) (rest := []) (rs := [.int v1]) hx hb hml hl.1 hts hown hK hSt hN hw (c_X10_within l G a1 (iI 1) (iI 5) h v1 ev) cs_X10_83 (rm_ok hR (by decide)) rfl (Nat.le_of_ble_eq_true rfl) rfl rfl dX10_fail_3 (fun H locs hw => ?_)
  refine q_join1 (P0 := fun (h2 : Mem) => ∀ (H : Heap) (locs : List Loc), IW G s h2 H locs → ∀ ls : Array Slot, lv_has ls 2 [(1, .int a1)] → W p l e R s m args below meth c H locs 0 0 Q (F0 m 19 ls [])) hs ?_ ?_
  · intro h2 hs H locs hw ls hl
    refine lv_ldcw (pc := 19) (v := (iI (-1000000000))) hx hb hown (hts _ ki_X10_379) dX10_fail_19 ?_
    refine lv_iload_n (pc := 22) hx hb dX10_fail_22 rfl (lv_at hl 0 rfl) ?_
    refine lv_isub (pc := 23) hx hb dX10_fail_23 ?_
    exact q_iretW hret dX10_fail_24 hw hs
  · intro K3 hK3 hs
    refine lv_if_eq (pc := 6) (tgt := 19) hx hb dX10_fail_6 (by decide) (fun hc => ?_) (fun hc => ?_)
    · replace hs := q_t hc hs
      exact hK3 _ hs _ _ hw _ (lv_sub hl [1] rfl)
    · replace hs := q_f hc hs
      refine lv_aload_n (pc := 9) hx hb dX10_fail_9 rfl (lv_at hl 0 rfl) ?_
      refine q_getR (pc := 10) (q := 0) (o := 1) hx hb hts hown hK hw rfl fg_X10_7 dX10_fail_10 ?_
      refine lv_iload_n (pc := 13) hx hb dX10_fail_13 rfl (lv_at hl 1 rfl) ?_
      refine lv_dup2_11 (pc := 14) hx hb dX10_fail_14 rfl rfl ?_
      refine q_ald (pc := 15) (q := 1) (n := 6) hx hb hK hw rfl dX10_fail_15 hs (fun v4 hs => ?_)
      refine lv_iconst (pc := 16) (v := (iI 1)) hx hb dX10_fail_16 rfl ?_
      refine lv_iadd (pc := 17) hx hb dX10_fail_17 ?_
      refine q_ast (pc := 18) (q := 1) (n := 6) hx hb hK hw rfl dX10_fail_18 hs (fun h5 H locs hw hs => ?_)
      exact hK3 _ hs _ _ hw _ (lv_sub hl [1] rfl)

set_option maxHeartbeats 4000000 in
theorem c_X10_hasSheet (l : Launch) (G : GG) (a0 : Int32) (h : Mem) (v : Int32)  (hs : f_X10_hasSheet h a0 = some v) : Sat l G yX10_hasSheet cX10_hasSheet 1 (some .boolean) 1 [.int a0] h (some (.int v)) h := by
  refine Sat.mkZ (by decide) (Nat.le_of_ble_eq_true rfl) ?_
  intro p e R s m args below meth c Q F hret hw ls hl
  obtain ⟨hx, hb, hml, hown, hts, hK, hSt, hN, hR⟩ := F
  have hl : lv_has ls 1 [(0, .int a0)] := hl
  unfold f_X10_hasSheet at hs
  refine lv_iload_n (pc := 0) hx hb dX10_hasSheet_0 rfl (lv_at hl 0 rfl) ?_
  refine lv_iconst (pc := 1) (v := (iI 0)) hx hb dX10_hasSheet_1 rfl ?_
  refine lv_iconst (pc := 2) (v := (iI 3)) hx hb dX10_hasSheet_2 rfl ?_
  obtain ⟨v1, ev, hs⟩ := q_cal hs
  refine q_callS (pc := 3) (As := [.int a0, .int (iI 0), .int (iI 3)]) (rest := []) (rs := [.int v1]) hx hb hml hl.1 hts hown hK hSt hN hw (c_X10_within l G a0 (iI 0) (iI 3) h v1 ev) cs_X10_83 (rm_ok hR (by decide)) rfl (Nat.le_of_ble_eq_true rfl) rfl rfl dX10_hasSheet_3 (fun H locs hw => ?_)
  exact q_zret hret dX10_hasSheet_6 hw hs

set_option maxHeartbeats 4000000 in
set_option maxRecDepth 100000 in
theorem c_X0_enter (l : Launch) (G : GG) (q0 : Nat) (hq0 : LAY[q0]? = some (3, 0)) (q1 : Nat) (hq1 : LAY[q1]? = some (6, 0)) (a2 : Int32) (h : Mem) (h' : Mem) (hs : f_X0_enter h q0 q1 a2 = some h') : Sat l G yX0_enter cX0_enter 3 none 1 [.ref (G.2.2.1 q0), .ref (G.2.2.1 q1), .int a2] h none h' := by
  refine Sat.mkV (by decide) (Nat.le_of_ble_eq_true rfl) ?_
  intro p e R s m args below meth c Q F hret hw ls hl
  obtain ⟨hx, hb, hml, hown, hts, hK, hSt, hN, hR⟩ := F
  have hl : lv_has ls 3 [(0, .ref (G.2.2.1 q0)), (1, .ref (G.2.2.1 q1)), (2, .int a2)] := hl
  unfold f_X0_enter at hs
  refine lv_iload_n (pc := 0) hx hb dX0_enter_0 rfl (lv_at hl 2 rfl) ?_
  refine lv_aload_n (pc := 1) hx hb dX0_enter_1 rfl (lv_at hl 1 rfl) ?_
  refine q_getI (pc := 2) (q := q1) hx hb hts hown hK hw hq1 fg_X0_38 dX0_enter_2 ?_
  refine lv_icmp_ge (pc := 5) (tgt := 18) hx hb dX0_enter_5 (by decide) (fun hc => ?_) (fun hc => ?_)
  · replace hs := q_t hc hs
    refine lv_iload_n (pc := 18) hx hb dX0_enter_18 rfl (lv_at hl 2 rfl) ?_
    refine lv_aload_n (pc := 19) hx hb dX0_enter_19 rfl (lv_at hl 1 rfl) ?_
    refine q_getI (pc := 20) (q := q1) hx hb hts hown hK hw hq1 fg_X0_38 dX0_enter_20 ?_
    refine lv_aload_n (pc := 23) hx hb dX0_enter_23 rfl (lv_at hl 1 rfl) ?_
    refine q_getI (pc := 24) (q := q1) hx hb hts hown hK hw hq1 fg_X0_93 dX0_enter_24 ?_
    refine lv_iadd (pc := 27) hx hb dX0_enter_27 ?_
    refine lv_icmp_ge (pc := 28) (tgt := 51) hx hb dX0_enter_28 (by decide) (fun hc => ?_) (fun hc => ?_)
    · replace hs := q_t hc hs
      refine lv_iload_n (pc := 51) hx hb dX0_enter_51 rfl (lv_at hl 2 rfl) ?_
      refine lv_iconst (pc := 52) (v := (iI 2)) hx hb dX0_enter_52 rfl ?_
      refine lv_aload_n (pc := 53) hx hb dX0_enter_53 rfl (lv_at hl 1 rfl) ?_
      refine q_getI (pc := 54) (q := q1) hx hb hts hown hK hw hq1 fg_X0_38 dX0_enter_54 ?_
      refine lv_imul (pc := 57) hx hb dX0_enter_57 ?_
      refine lv_aload_n (pc := 58) hx hb dX0_enter_58 rfl (lv_at hl 1 rfl) ?_
      refine q_getI (pc := 59) (q := q1) hx hb hts hown hK hw hq1 fg_X0_93 dX0_enter_59 ?_
      refine lv_iadd (pc := 62) hx hb dX0_enter_62 ?_
      refine lv_icmp_ge (pc := 63) (tgt := 91) hx hb dX0_enter_63 (by decide) (fun hc => ?_) (fun hc => ?_)
      · replace hs := q_t hc hs
        refine lv_aload_n (pc := 91) hx hb dX0_enter_91 rfl (lv_at hl 0 rfl) ?_
        refine lv_iload_n (pc := 92) hx hb dX0_enter_92 rfl (lv_at hl 2 rfl) ?_
        refine lv_iconst (pc := 93) (v := (iI 2)) hx hb dX0_enter_93 rfl ?_
        refine lv_aload_n (pc := 94) hx hb dX0_enter_94 rfl (lv_at hl 1 rfl) ?_
        refine q_getI (pc := 95) (q := q1) hx hb hts hown hK hw hq1 fg_X0_38 dX0_enter_95 ?_
        refine lv_imul (pc := 98) hx hb dX0_enter_98 ?_
        refine lv_isub (pc := 99) hx hb dX0_enter_99 ?_
        refine lv_aload_n (pc := 100) hx hb dX0_enter_100 rfl (lv_at hl 1 rfl) ?_
        refine q_getI (pc := 101) (q := q1) hx hb hts hown hK hw hq1 fg_X0_93 dX0_enter_101 ?_
        refine lv_isub (pc := 104) hx hb dX0_enter_104 ?_
        refine lv_iconst (pc := 105) (v := (iI 0)) hx hb dX0_enter_105 rfl ?_
        refine lv_iconst (pc := 106) (v := (iI 1)) hx hb dX0_enter_106 rfl ?_
        obtain ⟨h1, ev, hs⟩ := q_cal hs
        refine q_callV (pc := 107) (q := q0) (As := [.int ((a2 - ((iI 2) * (gI h q1 1))) - (gI h q1 0)), .int (iI 0), .int (iI 1)]) (rest := []) (rs := []) hx hb hml hl.1 hts hown hK hSt hN hw (c_X0_start l G q0 hq0 ((a2 - ((iI 2) * (gI h q1 1))) - (gI h q1 0)) (iI 0) (iI 1) h h1 ev) hq0 rfl cv_X0_89 (rm_ok hR (by decide)) rfl (Nat.le_of_ble_eq_true rfl) rfl rfl dX0_enter_107 (fun H locs hw => ?_)
        exact q_vret hret dX0_enter_110 hw hs
      · replace hs := q_f hc hs
        refine lv_aload_n (pc := 66) hx hb dX0_enter_66 rfl (lv_at hl 0 rfl) ?_
        refine lv_aload_n (pc := 67) hx hb dX0_enter_67 rfl (lv_at hl 1 rfl) ?_
        refine q_getI (pc := 68) (q := q1) hx hb hts hown hK hw hq1 fg_X0_93 dX0_enter_68 ?_
        refine lv_iconst (pc := 71) (v := (iI 1)) hx hb dX0_enter_71 rfl ?_
        refine lv_isub (pc := 72) hx hb dX0_enter_72 ?_
        refine lv_iload_n (pc := 73) hx hb dX0_enter_73 rfl (lv_at hl 2 rfl) ?_
        refine lv_aload_n (pc := 74) hx hb dX0_enter_74 rfl (lv_at hl 1 rfl) ?_
        refine q_getI (pc := 75) (q := q1) hx hb hts hown hK hw hq1 fg_X0_38 dX0_enter_75 ?_
        refine lv_isub (pc := 78) hx hb dX0_enter_78 ?_
        refine lv_aload_n (pc := 79) hx hb dX0_enter_79 rfl (lv_at hl 1 rfl) ?_
        refine q_getI (pc := 80) (q := q1) hx hb hts hown hK hw hq1 fg_X0_93 dX0_enter_80 ?_
        refine lv_isub (pc := 83) hx hb dX0_enter_83 ?_
        refine lv_iconst (pc := 84) (v := (iI 0)) hx hb dX0_enter_84 rfl ?_
        obtain ⟨h2, ev, hs⟩ := q_cal hs
        refine q_callV (pc := 85) (q := q0) (As := [.int ((gI h q1 0) - (iI 1)), .int ((a2 - (gI h q1 1)) - (gI h q1 0)), .int (iI 0)]) (rest := []) (rs := []) hx hb hml hl.1 hts hown hK hSt hN hw (c_X0_start l G q0 hq0 ((gI h q1 0) - (iI 1)) ((a2 - (gI h q1 1)) - (gI h q1 0)) (iI 0) h h2 ev) hq0 rfl cv_X0_89 (rm_ok hR (by decide)) rfl (Nat.le_of_ble_eq_true rfl) rfl rfl dX0_enter_85 (fun H locs hw => ?_)
        refine lv_goto (pc := 88) (tgt := 110) hx hb dX0_enter_88 (by decide) ?_
        exact q_vret hret dX0_enter_110 hw hs
    · replace hs := q_f hc hs
      refine lv_aload_n (pc := 31) hx hb dX0_enter_31 rfl (lv_at hl 0 rfl) ?_
      refine lv_iload_n (pc := 32) hx hb dX0_enter_32 rfl (lv_at hl 2 rfl) ?_
      refine lv_aload_n (pc := 33) hx hb dX0_enter_33 rfl (lv_at hl 1 rfl) ?_
      refine q_getI (pc := 34) (q := q1) hx hb hts hown hK hw hq1 fg_X0_38 dX0_enter_34 ?_
      refine lv_isub (pc := 37) hx hb dX0_enter_37 ?_
      refine lv_aload_n (pc := 38) hx hb dX0_enter_38 rfl (lv_at hl 1 rfl) ?_
      refine q_getI (pc := 39) (q := q1) hx hb hts hown hK hw hq1 fg_X0_38 dX0_enter_39 ?_
      refine lv_iconst (pc := 42) (v := (iI 1)) hx hb dX0_enter_42 rfl ?_
      refine lv_isub (pc := 43) hx hb dX0_enter_43 ?_
      refine lv_iconst (pc := 44) (v := (iI 3)) hx hb dX0_enter_44 rfl ?_
      obtain ⟨h3, ev, hs⟩ := q_cal hs
      refine q_callV (pc := 45) (q := q0) (As := [.int (a2 - (gI h q1 1)), .int ((gI h q1 1) - (iI 1)), .int (iI 3)]) (rest := []) (rs := []) hx hb hml hl.1 hts hown hK hSt hN hw (c_X0_start l G q0 hq0 (a2 - (gI h q1 1)) ((gI h q1 1) - (iI 1)) (iI 3) h h3 ev) hq0 rfl cv_X0_89 (rm_ok hR (by decide)) rfl (Nat.le_of_ble_eq_true rfl) rfl rfl dX0_enter_45 (fun H locs hw => ?_)
      refine lv_goto (pc := 48) (tgt := 110) hx hb dX0_enter_48 (by decide) ?_
      exact q_vret hret dX0_enter_110 hw hs
  · replace hs := q_f hc hs
    refine lv_aload_n (pc := 8) hx hb dX0_enter_8 rfl (lv_at hl 0 rfl) ?_
    refine lv_iconst (pc := 9) (v := (iI 0)) hx hb dX0_enter_9 rfl ?_
    refine lv_iload_n (pc := 10) hx hb dX0_enter_10 rfl (lv_at hl 2 rfl) ?_
    refine lv_iconst (pc := 11) (v := (iI 2)) hx hb dX0_enter_11 rfl ?_
    obtain ⟨h4, ev, hs⟩ := q_cal hs
    refine q_callV (pc := 12) (q := q0) (As := [.int (iI 0), .int a2, .int (iI 2)]) (rest := []) (rs := []) hx hb hml hl.1 hts hown hK hSt hN hw (c_X0_start l G q0 hq0 (iI 0) a2 (iI 2) h h4 ev) hq0 rfl cv_X0_89 (rm_ok hR (by decide)) rfl (Nat.le_of_ble_eq_true rfl) rfl rfl dX0_enter_12 (fun H locs hw => ?_)
    refine lv_goto (pc := 15) (tgt := 110) hx hb dX0_enter_15 (by decide) ?_
    exact q_vret hret dX0_enter_110 hw hs

set_option maxHeartbeats 4000000 in
theorem c_X3_clear (l : Launch) (G : GG) (q0 : Nat) (hq0 : LAY[q0]? = some (6, 0)) (a1 : Int32) (a2 : Int32) (h : Mem) (h' : Mem) (hs : f_X3_clear h q0 a1 a2 = some h') : Sat l G yX3_clear cX3_clear 3 none 1 [.ref (G.2.2.1 q0), .int a1, .int a2] h none h' := by
  refine Sat.mkV (by decide) (Nat.le_of_ble_eq_true rfl) ?_
  intro p e R s m args below meth c Q F hret hw ls hl
  obtain ⟨hx, hb, hml, hown, hts, hK, hSt, hN, hR⟩ := F
  have hl : lv_has ls 3 [(0, .ref (G.2.2.1 q0)), (1, .int a1), (2, .int a2)] := hl
  unfold f_X3_clear at hs
  refine lv_aload_n (pc := 0) hx hb dX3_clear_0 rfl (lv_at hl 0 rfl) ?_
  refine lv_iload_n (pc := 1) hx hb dX3_clear_1 rfl (lv_at hl 1 rfl) ?_
  refine q_putI (pc := 2) (q := q0) hx hb hts hown hK hw hq0 fp_X3_7 dX3_clear_2 hs (fun h1 H locs hw hs => ?_)
  refine lv_aload_n (pc := 5) hx hb dX3_clear_5 rfl (lv_at hl 0 rfl) ?_
  refine lv_iload_n (pc := 6) hx hb dX3_clear_6 rfl (lv_at hl 2 rfl) ?_
  refine q_putI (pc := 7) (q := q0) hx hb hts hown hK hw hq0 fp_X3_13 dX3_clear_7 hs (fun h2 H locs hw hs => ?_)
  refine lv_aload_n (pc := 10) hx hb dX3_clear_10 rfl (lv_at hl 0 rfl) ?_
  refine q_getR (pc := 11) (q := q0) (o := 1) hx hb hts hown hK hw hq0 fg_X3_16 dX3_clear_11 ?_
  refine lv_iconst (pc := 14) (v := (iI 0)) hx hb dX3_clear_14 rfl ?_
  obtain ⟨h3, ev, hs⟩ := q_cal hs
  refine q_callS (pc := 15) (As := [.ref (G.2.2.1 (q0 + 1)), .int (iI 0)]) (rest := []) (rs := []) hx hb hml hl.1 hts hown hK hSt hN hw (c_J7_fill_53178 l G (q0 + 1) 25 (wt_X3_kinds _ hq0) (iI 0) h2 h3 ev) cs_X3_53 (rm_ok hR (by decide)) rfl (Nat.le_of_ble_eq_true rfl) rfl rfl dX3_clear_15 (fun H locs hw => ?_)
  refine lv_aload_n (pc := 18) hx hb dX3_clear_18 rfl (lv_at hl 0 rfl) ?_
  refine q_getR (pc := 19) (q := q0) (o := 2) hx hb hts hown hK hw hq0 fg_X3_20 dX3_clear_19 ?_
  refine lv_iconst (pc := 22) (v := (iI 0)) hx hb dX3_clear_22 rfl ?_
  obtain ⟨h4, ev, hs⟩ := q_cal hs
  refine q_callS (pc := 23) (As := [.ref (G.2.2.1 (q0 + 2)), .int (iI 0)]) (rest := []) (rs := []) hx hb hml hl.1 hts hown hK hSt hN hw (c_J7_fill_53178 l G (q0 + 2) 25 (wt_X3_numbers _ hq0) (iI 0) h3 h4 ev) cs_X3_53 (rm_ok hR (by decide)) rfl (Nat.le_of_ble_eq_true rfl) rfl rfl dX3_clear_23 (fun H locs hw => ?_)
  refine lv_aload_n (pc := 26) hx hb dX3_clear_26 rfl (lv_at hl 0 rfl) ?_
  refine q_getR (pc := 27) (q := q0) (o := 3) hx hb hts hown hK hw hq0 fg_X3_23 dX3_clear_27 ?_
  refine lv_iconst (pc := 30) (v := (iI 0)) hx hb dX3_clear_30 rfl ?_
  obtain ⟨h5, ev, hs⟩ := q_cal hs
  refine q_callS (pc := 31) (As := [.ref (G.2.2.1 (q0 + 3)), .int (iI 0)]) (rest := []) (rs := []) hx hb hml hl.1 hts hown hK hSt hN hw (c_J7_fill_53178 l G (q0 + 3) 25 (wt_X3_lit _ hq0) (iI 0) h4 h5 ev) cs_X3_53 (rm_ok hR (by decide)) rfl (Nat.le_of_ble_eq_true rfl) rfl rfl dX3_clear_31 (fun H locs hw => ?_)
  refine lv_aload_n (pc := 34) hx hb dX3_clear_34 rfl (lv_at hl 0 rfl) ?_
  refine lv_iconst (pc := 35) (v := (iI 0)) hx hb dX3_clear_35 rfl ?_
  refine q_putI (pc := 36) (q := q0) hx hb hts hown hK hw hq0 fp_X3_26 dX3_clear_36 hs (fun h6 H locs hw hs => ?_)
  refine lv_aload_n (pc := 39) hx hb dX3_clear_39 rfl (lv_at hl 0 rfl) ?_
  refine lv_lconst (pc := 40) (v := iL 0) hx hb dX3_clear_40 (by decide) ?_
  refine q_putL (pc := 41) (q := q0) hx hb hts hown hK hw hq0 fp_X3_29 dX3_clear_41 hs (fun h7 H locs hw hs => ?_)
  exact q_vret hret dX3_clear_44 hw hs

set_option maxHeartbeats 4000000 in
theorem c_X3_standAs (l : Launch) (G : GG) (q0 : Nat) (hq0 : LAY[q0]? = some (6, 0)) (q1 : Nat) (hq1 : LAY[q1]? = some (6, 0)) (h : Mem) (h' : Mem) (hs : f_X3_standAs h q0 q1 = some h') : Sat l G yX3_standAs cX3_standAs 2 none 1 [.ref (G.2.2.1 q0), .ref (G.2.2.1 q1)] h none h' := by
  refine Sat.mkV (by decide) (Nat.le_of_ble_eq_true rfl) ?_
  intro p e R s m args below meth c Q F hret hw ls hl
  obtain ⟨hx, hb, hml, hown, hts, hK, hSt, hN, hR⟩ := F
  have hl : lv_has ls 2 [(0, .ref (G.2.2.1 q0)), (1, .ref (G.2.2.1 q1))] := hl
  unfold f_X3_standAs at hs
  refine lv_aload_n (pc := 0) hx hb dX3_standAs_0 rfl (lv_at hl 0 rfl) ?_
  refine lv_aload_n (pc := 1) hx hb dX3_standAs_1 rfl (lv_at hl 1 rfl) ?_
  refine q_getI (pc := 2) (q := q1) hx hb hts hown hK hw hq1 fg_X3_26 dX3_standAs_2 ?_
  refine lv_aload_n (pc := 5) hx hb dX3_standAs_5 rfl (lv_at hl 1 rfl) ?_
  refine q_getL (pc := 6) (q := q1) hx hb hts hown hK hw hq1 fg_X3_29 dX3_standAs_6 ?_
  obtain ⟨h1, ev, hs⟩ := q_cal hs
  refine q_callV (pc := 9) (q := q0) (As := [.int (gI h q1 5), .long (gL h q1 6)]) (rest := []) (rs := []) hx hb hml hl.1 hts hown hK hSt hN hw (c_X3_stand l G q0 hq0 (gI h q1 5) (gL h q1 6) h h1 ev) hq0 rfl cv_X3_69 (rm_ok hR (by decide)) rfl (Nat.le_of_ble_eq_true rfl) rfl rfl dX3_standAs_9 (fun H locs hw => ?_)
  exact q_vret hret dX3_standAs_12 hw hs

set_option maxHeartbeats 4000000 in
theorem c_X3_become (l : Launch) (G : GG) (q0 : Nat) (hq0 : LAY[q0]? = some (6, 0)) (a1 : Int32) (a2 : Int32) (a3 : Int32) (a4 : Int32) (h : Mem) (h' : Mem) (hs : f_X3_become h q0 a1 a2 a3 a4 = some h') : Sat l G yX3_become cX3_become 5 none 1 [.ref (G.2.2.1 q0), .int a1, .int a2, .int a3, .int a4] h none h' := by
  refine Sat.mkV (by decide) (Nat.le_of_ble_eq_true rfl) ?_
  intro p e R s m args below meth c Q F hret hw ls hl
  obtain ⟨hx, hb, hml, hown, hts, hK, hSt, hN, hR⟩ := F
  have hl : lv_has ls 5 [(0, .ref (G.2.2.1 q0)), (1, .int a1), (2, .int a2), (3, .int a3), (4, .int a4)] := hl
  unfold f_X3_become at hs
  refine lv_aload_n (pc := 0) hx hb dX3_become_0 rfl (lv_at hl 0 rfl) ?_
  refine q_getR (pc := 1) (q := q0) (o := 1) hx hb hts hown hK hw hq0 fg_X3_16 dX3_become_1 ?_
  refine lv_iload_n (pc := 4) hx hb dX3_become_4 rfl (lv_at hl 1 rfl) ?_
  refine lv_iload_n (pc := 5) hx hb dX3_become_5 rfl (lv_at hl 2 rfl) ?_
  refine q_ast (pc := 6) (q := (q0 + 1)) (n := 25) hx hb hK hw (wt_X3_kinds _ hq0) dX3_become_6 hs (fun h1 H locs hw hs => ?_)
  refine lv_aload_n (pc := 7) hx hb dX3_become_7 rfl (lv_at hl 0 rfl) ?_
  refine q_getR (pc := 8) (q := q0) (o := 2) hx hb hts hown hK hw hq0 fg_X3_20 dX3_become_8 ?_
  refine lv_iload_n (pc := 11) hx hb dX3_become_11 rfl (lv_at hl 1 rfl) ?_
  refine lv_iload_n (pc := 12) hx hb dX3_become_12 rfl (lv_at hl 3 rfl) ?_
  refine q_ast (pc := 13) (q := (q0 + 2)) (n := 25) hx hb hK hw (wt_X3_numbers _ hq0) dX3_become_13 hs (fun h2 H locs hw hs => ?_)
  refine lv_aload_n (pc := 14) hx hb dX3_become_14 rfl (lv_at hl 0 rfl) ?_
  refine lv_aload_n (pc := 15) hx hb dX3_become_15 rfl (lv_at hl 0 rfl) ?_
  refine q_getI (pc := 16) (q := q0) hx hb hts hown hK hw hq0 fg_X3_26 dX3_become_16 ?_
  refine lv_iconst (pc := 19) (v := (iI 1)) hx hb dX3_become_19 rfl ?_
  refine lv_iload_n (pc := 20) hx hb dX3_become_20 rfl (lv_at hl 1 rfl) ?_
  refine q_ishl (pc := 21) hx hb dX3_become_21 ?_
  refine lv_iconst (pc := 22) (v := (iI (-1))) hx hb dX3_become_22 rfl ?_
  refine lv_ixor (pc := 23) hx hb dX3_become_23 ?_
  refine lv_iand (pc := 24) hx hb dX3_become_24 ?_
  refine lv_iload (pc := 25) hx hb dX3_become_25 (lv_at hl 4 rfl) ?_
  refine lv_iload_n (pc := 27) hx hb dX3_become_27 rfl (lv_at hl 1 rfl) ?_
  refine q_ishl (pc := 28) hx hb dX3_become_28 ?_
  refine lv_ior (pc := 29) hx hb dX3_become_29 ?_
  refine q_putI (pc := 30) (q := q0) hx hb hts hown hK hw hq0 fp_X3_26 dX3_become_30 hs (fun h3 H locs hw hs => ?_)
  refine lv_aload_n (pc := 33) hx hb dX3_become_33 rfl (lv_at hl 0 rfl) ?_
  refine lv_iload_n (pc := 34) hx hb dX3_become_34 rfl (lv_at hl 1 rfl) ?_
  refine lv_iconst (pc := 35) (v := (iI 0)) hx hb dX3_become_35 rfl ?_
  obtain ⟨h4, ev, hs⟩ := q_cal hs
  refine q_callV (pc := 36) (q := q0) (As := [.int a1, .int (iI 0)]) (rest := []) (rs := []) hx hb hml hl.1 hts hown hK hSt hN hw (c_X3_putTime l G q0 hq0 a1 (iI 0) h3 h4 ev) hq0 rfl cv_X3_73 (rm_ok hR (by decide)) rfl (Nat.le_of_ble_eq_true rfl) rfl rfl dX3_become_36 (fun H locs hw => ?_)
  exact q_vret hret dX3_become_39 hw hs

set_option maxHeartbeats 4000000 in
set_option maxRecDepth 100000 in
theorem c_X5_worked (l : Launch) (G : GG) (q0 : Nat) (hq0 : LAY[q0]? = some (8, 0)) (a1 : Int32) (a2 : Int32) (a3 : Int32) (h : Mem) (v : Int32) (h' : Mem) (hs : f_X5_worked h q0 a1 a2 a3 = some (v, h')) : Sat l G yX5_worked cX5_worked 7 (some .int) 1 [.ref (G.2.2.1 q0), .int a1, .int a2, .int a3] h (some (.int v)) h' := by
  refine Sat.mkI (by decide) (Nat.le_of_ble_eq_true rfl) ?_
  intro p e R s m args below meth c Q F hret hw ls hl
  obtain ⟨hx, hb, hml, hown, hts, hK, hSt, hN, hR⟩ := F
  have hl : lv_has ls 7 [(0, .ref (G.2.2.1 q0)), (1, .int a1), (2, .int a2), (3, .int a3)] := hl
  unfold f_X5_worked at hs
  refine lv_iconst (pc := 0) (v := (iI (-1))) hx hb dX5_worked_0 rfl ?_
  obtain ⟨x1, ex1, hs⟩ := q_nm hs
  refine q_topI ex1 ?_
  refine lv_istore (pc := 1) (lv' := [(4, .int x1), (0, .ref (G.2.2.1 q0)), (1, .int a1), (2, .int a2), (3, .int a3)]) hx hb dX5_worked_1 hl (by decide) rfl (fun ls hl => ?_)
  refine lv_iconst (pc := 3) (v := (iI 0)) hx hb dX5_worked_3 rfl ?_
  refine lv_istore (pc := 4) (lv' := [(5, .int (iI 0)), (4, .int x1), (0, .ref (G.2.2.1 q0)), (1, .int a1), (2, .int a2), (3, .int a3)]) hx hb dX5_worked_4 hl (by decide) rfl (fun ls hl => ?_)
  refine (q_lo3 (P0 := fun (x2 : Int32) (x3 : Int32) (h4 : Mem) => ∀ (H : Heap) (locs : List Loc), IW G s h4 H locs → ∀ ls : Array Slot, lv_has ls 7 [(0, .ref (G.2.2.1 q0)), (1, .int a1), (2, .int a2), (3, .int a3), (4, .int x2), (5, .int x3)] → W p l e R s m args below meth c H locs 0 0 Q (F0 m 6 ls [])) hs ?_) _ _ hw _ (lv_sub hl [2, 3, 4, 5, 1, 0] rfl)
  intro K5 hK5 x2 x3 h4 hs H locs hw ls hl
  unfold f_X5_worked_k5 at hs
  refine lv_iload (pc := 6) hx hb dX5_worked_6 (lv_at hl 5 rfl) ?_
  refine lv_aload_n (pc := 8) hx hb dX5_worked_8 rfl (lv_at hl 0 rfl) ?_
  refine q_getI (pc := 9) (q := q0) hx hb hts hown hK hw hq0 fg_X5_15 dX5_worked_9 ?_
  refine lv_icmp_ge (pc := 12) (tgt := 178) hx hb dX5_worked_12 (by decide) (fun hc => ?_) (fun hc => ?_)
  · replace hs := q_t hc hs
    refine lv_iload (pc := 178) hx hb dX5_worked_178 (lv_at hl 4 rfl) ?_
    refine lv_if_ge (pc := 180) (tgt := 187) hx hb dX5_worked_180 (by decide) (fun hc => ?_) (fun hc => ?_)
    · replace hs := q_t hc hs
      refine lv_aload_n (pc := 187) hx hb dX5_worked_187 rfl (lv_at hl 0 rfl) ?_
      refine q_getR (pc := 188) (q := q0) (o := 2) hx hb hts hown hK hw hq0 fg_X5_19 dX5_worked_188 ?_
      refine lv_iload (pc := 191) hx hb dX5_worked_191 (lv_at hl 4 rfl) ?_
      refine q_ald (pc := 193) (q := (q0 + 2)) (n := 50) hx hb hK hw (wt_X5_stack _ hq0) dX5_worked_193 hs (fun v6 hs => ?_)
      exact q_iretW hret dX5_worked_194 hw hs
    · replace hs := q_f hc hs
      refine lv_iconst (pc := 183) (v := (iI 0)) hx hb dX5_worked_183 rfl ?_
      refine lv_goto (pc := 184) (tgt := 194) hx hb dX5_worked_184 (by decide) ?_
      exact q_iretW hret dX5_worked_194 hw hs
  · replace hs := q_f hc hs
    refine lv_aload_n (pc := 15) hx hb dX5_worked_15 rfl (lv_at hl 0 rfl) ?_
    refine q_getR (pc := 16) (q := q0) (o := 1) hx hb hts hown hK hw hq0 fg_X5_9 dX5_worked_16 ?_
    refine lv_iload (pc := 19) hx hb dX5_worked_19 (lv_at hl 5 rfl) ?_
    refine q_ald (pc := 21) (q := (q0 + 1)) (n := 50) hx hb hK hw (wt_X5_code _ hq0) dX5_worked_21 hs (fun v7 hs => ?_)
    refine lv_istore (pc := 22) (lv' := [(6, .int v7), (0, .ref (G.2.2.1 q0)), (1, .int a1), (2, .int a2), (3, .int a3), (4, .int x2), (5, .int x3)]) hx hb dX5_worked_22 hl (by decide) rfl (fun ls hl => ?_)
    refine lv_iload (pc := 24) hx hb dX5_worked_24 (lv_at hl 0 rfl) ?_
    refine lv_sipush (pc := 26) (v := (iI 10000)) hx hb dX5_worked_26 (by decide) ?_
    refine q_join2 (P0 := fun (x8 : Int32) (h9 : Mem) => ∀ (H : Heap) (locs : List Loc), IW G s h9 H locs → ∀ ls : Array Slot, lv_has ls 7 [(0, .ref (G.2.2.1 q0)), (1, .int a1), (2, .int a2), (3, .int a3), (4, .int x8), (5, .int x3)] → W p l e R s m args below meth c H locs 0 0 Q (F0 m 172 ls [])) hs ?_ ?_
    · intro x8 h9 hs H locs hw ls hl
      obtain ⟨x11, ex11, hs⟩ := q_nm hs
      refine lv_iinc (pc := 172) (v := x11) (lv' := [(5, .int x11), (0, .ref (G.2.2.1 q0)), (1, .int a1), (2, .int a2), (3, .int a3), (4, .int x8)]) hx hb dX5_worked_172 hl (k := 5) rfl ex11 (by decide) rfl (fun ls hl => ?_)
      refine lv_goto (pc := 175) (tgt := 6) hx hb dX5_worked_175 (by decide) ?_
      exact hK5 _ _ _ hs _ _ hw _ (lv_sub hl [1, 2, 3, 4, 5, 0] rfl)
    · intro K10 hK10 hs
      refine lv_icmp_ge (pc := 29) (tgt := 89) hx hb dX5_worked_29 (by decide) (fun hc => ?_) (fun hc => ?_)
      · replace hs := q_t hc hs
        refine lv_iload (pc := 89) hx hb dX5_worked_89 (lv_at hl 0 rfl) ?_
        refine lv_sipush (pc := 91) (v := (iI 10033)) hx hb dX5_worked_91 (by decide) ?_
        refine lv_icmp_ne (pc := 94) (tgt := 129) hx hb dX5_worked_94 (by decide) (fun hc => ?_) (fun hc => ?_)
        · replace hs := q_t hc hs
          refine lv_iload (pc := 129) hx hb dX5_worked_129 (lv_at hl 5 rfl) ?_
          refine lv_iconst (pc := 131) (v := (iI 1)) hx hb dX5_worked_131 rfl ?_
          refine lv_icmp_ge (pc := 132) (tgt := 137) hx hb dX5_worked_132 (by decide) (fun hc => ?_) (fun hc => ?_)
          · replace hs := q_t hc hs
            obtain ⟨x12, ex12, hs⟩ := q_nm hs
            refine lv_iinc (pc := 137) (v := x12) (lv' := [(4, .int x12), (6, .int v7), (0, .ref (G.2.2.1 q0)), (1, .int a1), (2, .int a2), (3, .int a3), (5, .int x3)]) hx hb dX5_worked_137 hl (k := 5) rfl ex12 (by decide) rfl (fun ls hl => ?_)
            refine lv_aload_n (pc := 140) hx hb dX5_worked_140 rfl (lv_at hl 2 rfl) ?_
            refine q_getR (pc := 141) (q := q0) (o := 2) hx hb hts hown hK hw hq0 fg_X5_19 dX5_worked_141 ?_
            refine lv_iload (pc := 144) hx hb dX5_worked_144 (lv_at hl 0 rfl) ?_
            refine lv_iload (pc := 146) hx hb dX5_worked_146 (lv_at hl 1 rfl) ?_
            refine lv_sipush (pc := 148) (v := (iI 10000)) hx hb dX5_worked_148 (by decide) ?_
            refine lv_isub (pc := 151) hx hb dX5_worked_151 ?_
            refine lv_aload_n (pc := 152) hx hb dX5_worked_152 rfl (lv_at hl 2 rfl) ?_
            refine q_getR (pc := 153) (q := q0) (o := 2) hx hb hts hown hK hw hq0 fg_X5_19 dX5_worked_153 ?_
            refine lv_iload (pc := 156) hx hb dX5_worked_156 (lv_at hl 0 rfl) ?_
            refine q_ald (pc := 158) (q := (q0 + 2)) (n := 50) hx hb hK hw (wt_X5_stack _ hq0) dX5_worked_158 hs (fun v13 hs => ?_)
            refine lv_aload_n (pc := 159) hx hb dX5_worked_159 rfl (lv_at hl 2 rfl) ?_
            refine q_getR (pc := 160) (q := q0) (o := 2) hx hb hts hown hK hw hq0 fg_X5_19 dX5_worked_160 ?_
            refine lv_iload (pc := 163) hx hb dX5_worked_163 (lv_at hl 0 rfl) ?_
            refine lv_iconst (pc := 165) (v := (iI 1)) hx hb dX5_worked_165 rfl ?_
            refine lv_iadd (pc := 166) hx hb dX5_worked_166 ?_
            refine q_ald (pc := 167) (q := (q0 + 2)) (n := 50) hx hb hK hw (wt_X5_stack _ hq0) dX5_worked_167 hs (fun v14 hs => ?_)
            obtain ⟨v15, ev, hs⟩ := q_cal hs
            refine q_callS (pc := 168) (As := [.int (v7 - (iI 10000)), .int v13, .int v14]) (rest := [.int x12, .ref (G.2.2.1 (q0 + 2))]) (rs := [.int v15, .int x12, .ref (G.2.2.1 (q0 + 2))]) hx hb hml hl.1 hts hown hK hSt hN hw (c_X5_joined l G (v7 - (iI 10000)) v13 v14 h4 v15 ev) cs_X5_56 (rm_ok hR (by decide)) rfl (Nat.le_of_ble_eq_true rfl) rfl rfl dX5_worked_168 (fun H locs hw => ?_)
            refine q_ast (pc := 171) (q := (q0 + 2)) (n := 50) hx hb hK hw (wt_X5_stack _ hq0) dX5_worked_171 hs (fun h16 H locs hw hs => ?_)
            exact hK10 _ _ hs _ _ hw _ (lv_sub hl [2, 3, 4, 5, 0, 6] rfl)
          · replace hs := q_f hc hs
            refine lv_iconst (pc := 135) (v := (iI 0)) hx hb dX5_worked_135 rfl ?_
            exact q_iretW hret dX5_worked_136 hw hs
        · replace hs := q_f (fun z => z hc) hs
          refine lv_iload (pc := 97) hx hb dX5_worked_97 (lv_at hl 5 rfl) ?_
          refine lv_if_ge (pc := 99) (tgt := 104) hx hb dX5_worked_99 (by decide) (fun hc => ?_) (fun hc => ?_)
          · replace hs := q_t hc hs
            refine lv_aload_n (pc := 104) hx hb dX5_worked_104 rfl (lv_at hl 1 rfl) ?_
            refine q_getR (pc := 105) (q := q0) (o := 2) hx hb hts hown hK hw hq0 fg_X5_19 dX5_worked_105 ?_
            refine lv_iload (pc := 108) hx hb dX5_worked_108 (lv_at hl 5 rfl) ?_
            refine lv_aload_n (pc := 110) hx hb dX5_worked_110 rfl (lv_at hl 1 rfl) ?_
            refine q_getR (pc := 111) (q := q0) (o := 2) hx hb hts hown hK hw hq0 fg_X5_19 dX5_worked_111 ?_
            refine lv_iload (pc := 114) hx hb dX5_worked_114 (lv_at hl 5 rfl) ?_
            refine q_ald (pc := 116) (q := (q0 + 2)) (n := 50) hx hb hK hw (wt_X5_stack _ hq0) dX5_worked_116 hs (fun v17 hs => ?_)
            refine q_join1 (P0 := fun (x18 : Int32) => ∀ (H : Heap) (locs : List Loc), IW G s h4 H locs → ∀ ls : Array Slot, lv_has ls 7 [(0, .ref (G.2.2.1 q0)), (1, .int a1), (2, .int a2), (3, .int a3), (4, .int x2), (5, .int x3)] → W p l e R s m args below meth c H locs 0 0 Q (F0 m 125 ls [.int x18, .int x2, .ref (G.2.2.1 (q0 + 2))])) hs ?_ ?_
            · intro x18 hs H locs hw ls hl
              refine q_ast (pc := 125) (q := (q0 + 2)) (n := 50) hx hb hK hw (wt_X5_stack _ hq0) dX5_worked_125 hs (fun h20 H locs hw hs => ?_)
              refine lv_goto (pc := 126) (tgt := 172) hx hb dX5_worked_126 (by decide) ?_
              exact hK10 _ _ hs _ _ hw _ (lv_sub hl [0, 1, 2, 3, 4, 5] rfl)
            · intro K19 hK19 hs
              refine lv_if_ne (pc := 117) (tgt := 124) hx hb dX5_worked_117 (by decide) (fun hc => ?_) (fun hc => ?_)
              · replace hs := q_t hc hs
                refine lv_iconst (pc := 124) (v := (iI 0)) hx hb dX5_worked_124 rfl ?_
                exact hK19 _ hs _ _ hw _ (lv_sub hl [1, 2, 3, 4, 5, 6] rfl)
              · replace hs := q_f (fun z => z hc) hs
                refine lv_iconst (pc := 120) (v := (iI 1)) hx hb dX5_worked_120 rfl ?_
                refine lv_goto (pc := 121) (tgt := 125) hx hb dX5_worked_121 (by decide) ?_
                exact hK19 _ hs _ _ hw _ (lv_sub hl [1, 2, 3, 4, 5, 6] rfl)
          · replace hs := q_f hc hs
            refine lv_iconst (pc := 102) (v := (iI 0)) hx hb dX5_worked_102 rfl ?_
            exact q_iretW hret dX5_worked_103 hw hs
      · replace hs := q_f hc hs
        obtain ⟨x21, ex21, hs⟩ := q_nm hs
        refine lv_iinc (pc := 32) (v := x21) (lv' := [(4, .int x21), (6, .int v7), (0, .ref (G.2.2.1 q0)), (1, .int a1), (2, .int a2), (3, .int a3), (5, .int x3)]) hx hb dX5_worked_32 hl (k := 5) rfl ex21 (by decide) rfl (fun ls hl => ?_)
        refine lv_iload (pc := 35) hx hb dX5_worked_35 (lv_at hl 0 rfl) ?_
        refine lv_aload_n (pc := 37) hx hb dX5_worked_37 rfl (lv_at hl 2 rfl) ?_
        refine q_getR (pc := 38) (q := q0) (o := 2) hx hb hts hown hK hw hq0 fg_X5_19 dX5_worked_38 ?_
        refine q_alen (pc := 41) (q := (q0 + 2)) (n := 50) hx hb hK hw (wt_X5_stack _ hq0) dX5_worked_41 ?_
        refine lv_icmp_lt (pc := 42) (tgt := 47) hx hb dX5_worked_42 (by decide) (fun hc => ?_) (fun hc => ?_)
        · replace hs := q_t hc hs
          refine lv_aload_n (pc := 47) hx hb dX5_worked_47 rfl (lv_at hl 2 rfl) ?_
          refine q_getR (pc := 48) (q := q0) (o := 2) hx hb hts hown hK hw hq0 fg_X5_19 dX5_worked_48 ?_
          refine lv_iload (pc := 51) hx hb dX5_worked_51 (lv_at hl 0 rfl) ?_
          refine lv_iload (pc := 53) hx hb dX5_worked_53 (lv_at hl 1 rfl) ?_
          refine q_join1 (P0 := fun (x22 : Int32) => ∀ (H : Heap) (locs : List Loc), IW G s h4 H locs → ∀ ls : Array Slot, lv_has ls 7 [(0, .ref (G.2.2.1 q0)), (1, .int a1), (2, .int a2), (3, .int a3), (4, .int x21), (5, .int x3)] → W p l e R s m args below meth c H locs 0 0 Q (F0 m 85 ls [.int x22, .int x21, .ref (G.2.2.1 (q0 + 2))])) hs ?_ ?_
          · intro x22 hs H locs hw ls hl
            refine q_ast (pc := 85) (q := (q0 + 2)) (n := 50) hx hb hK hw (wt_X5_stack _ hq0) dX5_worked_85 hs (fun h24 H locs hw hs => ?_)
            refine lv_goto (pc := 86) (tgt := 172) hx hb dX5_worked_86 (by decide) ?_
            exact hK10 _ _ hs _ _ hw _ (lv_sub hl [0, 1, 2, 3, 4, 5] rfl)
          · intro K23 hK23 hs
            refine lv_if_lt (pc := 55) (tgt := 63) hx hb dX5_worked_55 (by decide) (fun hc => ?_) (fun hc => ?_)
            · replace hs := q_t hc hs
              refine lv_iload (pc := 63) hx hb dX5_worked_63 (lv_at hl 1 rfl) ?_
              refine lv_iconst (pc := 65) (v := (iI (-1))) hx hb dX5_worked_65 rfl ?_
              refine lv_icmp_ne (pc := 66) (tgt := 73) hx hb dX5_worked_66 (by decide) (fun hc => ?_) (fun hc => ?_)
              · replace hs := q_t hc hs
                refine lv_iload (pc := 73) hx hb dX5_worked_73 (lv_at hl 1 rfl) ?_
                refine lv_bipush (pc := 75) (v := (iI (-2))) hx hb dX5_worked_75 (by decide) ?_
                refine lv_icmp_ne (pc := 77) (tgt := 84) hx hb dX5_worked_77 (by decide) (fun hc => ?_) (fun hc => ?_)
                · replace hs := q_t hc hs
                  refine lv_iload_n (pc := 84) hx hb dX5_worked_84 rfl (lv_at hl 5 rfl) ?_
                  exact hK23 _ hs _ _ hw _ (lv_sub hl [2, 3, 4, 5, 0, 6] rfl)
                · replace hs := q_f (fun z => z hc) hs
                  refine lv_iload_n (pc := 80) hx hb dX5_worked_80 rfl (lv_at hl 4 rfl) ?_
                  refine lv_goto (pc := 81) (tgt := 85) hx hb dX5_worked_81 (by decide) ?_
                  exact hK23 _ hs _ _ hw _ (lv_sub hl [2, 3, 4, 5, 0, 6] rfl)
              · replace hs := q_f (fun z => z hc) hs
                refine lv_iload_n (pc := 69) hx hb dX5_worked_69 rfl (lv_at hl 3 rfl) ?_
                refine lv_goto (pc := 70) (tgt := 85) hx hb dX5_worked_70 (by decide) ?_
                exact hK23 _ hs _ _ hw _ (lv_sub hl [2, 3, 4, 5, 0, 6] rfl)
            · replace hs := q_f hc hs
              refine lv_iload (pc := 58) hx hb dX5_worked_58 (lv_at hl 1 rfl) ?_
              refine lv_goto (pc := 60) (tgt := 85) hx hb dX5_worked_60 (by decide) ?_
              exact hK23 _ hs _ _ hw _ (lv_sub hl [2, 3, 4, 5, 0, 6] rfl)
        · replace hs := q_f hc hs
          refine lv_iconst (pc := 45) (v := (iI 0)) hx hb dX5_worked_45 rfl ?_
          exact q_iretW hret dX5_worked_46 hw hs

set_option maxHeartbeats 4000000 in
theorem c_X7_clear (l : Launch) (G : GG) (q0 : Nat) (hq0 : LAY[q0]? = some (10, 0)) (a1 : Int32) (a2 : Int32) (h : Mem) (h' : Mem) (hs : f_X7_clear h q0 a1 a2 = some h') : Sat l G yX7_clear cX7_clear 3 none 1 [.ref (G.2.2.1 q0), .int a1, .int a2] h none h' := by
  refine Sat.mkV (by decide) (Nat.le_of_ble_eq_true rfl) ?_
  intro p e R s m args below meth c Q F hret hw ls hl
  obtain ⟨hx, hb, hml, hown, hts, hK, hSt, hN, hR⟩ := F
  have hl : lv_has ls 3 [(0, .ref (G.2.2.1 q0)), (1, .int a1), (2, .int a2)] := hl
  unfold f_X7_clear at hs
  refine lv_aload_n (pc := 0) hx hb dX7_clear_0 rfl (lv_at hl 0 rfl) ?_
  refine lv_iload_n (pc := 1) hx hb dX7_clear_1 rfl (lv_at hl 1 rfl) ?_
  refine q_putI (pc := 2) (q := q0) hx hb hts hown hK hw hq0 fp_X7_7 dX7_clear_2 hs (fun h1 H locs hw hs => ?_)
  refine lv_aload_n (pc := 5) hx hb dX7_clear_5 rfl (lv_at hl 0 rfl) ?_
  refine lv_iload_n (pc := 6) hx hb dX7_clear_6 rfl (lv_at hl 2 rfl) ?_
  refine q_putI (pc := 7) (q := q0) hx hb hts hown hK hw hq0 fp_X7_13 dX7_clear_7 hs (fun h2 H locs hw hs => ?_)
  refine lv_aload_n (pc := 10) hx hb dX7_clear_10 rfl (lv_at hl 0 rfl) ?_
  refine q_getR (pc := 11) (q := q0) (o := 1) hx hb hts hown hK hw hq0 fg_X7_16 dX7_clear_11 ?_
  refine lv_iconst (pc := 14) (v := (iI 0)) hx hb dX7_clear_14 rfl ?_
  obtain ⟨h3, ev, hs⟩ := q_cal hs
  refine q_callS (pc := 15) (As := [.ref (G.2.2.1 (q0 + 1)), .int (iI 0)]) (rest := []) (rs := []) hx hb hml hl.1 hts hown hK hSt hN hw (c_J7_fill_53178 l G (q0 + 1) 40 (wt_X7_numbers _ hq0) (iI 0) h2 h3 ev) cs_X7_20 (rm_ok hR (by decide)) rfl (Nat.le_of_ble_eq_true rfl) rfl rfl dX7_clear_15 (fun H locs hw => ?_)
  exact q_vret hret dX7_clear_18 hw hs

set_option maxHeartbeats 4000000 in
set_option maxRecDepth 100000 in
theorem c_X0_run (l : Launch) (G : GG) (q0 : Nat) (hq0 : LAY[q0]? = some (3, 0)) (q1 : Nat) (hq1 : LAY[q1]? = some (6, 0)) (a2 : Int32) (h : Mem) (v : Int32) (h' : Mem) (hs : f_X0_run h q0 q1 a2 = some (v, h')) : Sat l G yX0_run cX0_run 6 (some .int) 2 [.ref (G.2.2.1 q0), .ref (G.2.2.1 q1), .int a2] h (some (.int v)) h' := by
  refine Sat.mkI (by decide) (Nat.le_of_ble_eq_true rfl) ?_
  intro p e R s m args below meth c Q F hret hw ls hl
  obtain ⟨hx, hb, hml, hown, hts, hK, hSt, hN, hR⟩ := F
  have hl : lv_has ls 6 [(0, .ref (G.2.2.1 q0)), (1, .ref (G.2.2.1 q1)), (2, .int a2)] := hl
  unfold f_X0_run at hs
  refine lv_aload_n (pc := 0) hx hb dX0_run_0 rfl (lv_at hl 0 rfl) ?_
  refine lv_aload_n (pc := 1) hx hb dX0_run_1 rfl (lv_at hl 1 rfl) ?_
  refine lv_iload_n (pc := 2) hx hb dX0_run_2 rfl (lv_at hl 2 rfl) ?_
  obtain ⟨h1, ev, hs⟩ := q_cal hs
  refine q_callV (pc := 3) (q := q0) (As := [.ref (G.2.2.1 q1), .int a2]) (rest := []) (rs := []) hx hb hml hl.1 hts hown hK hSt hN hw (c_X0_enter l G q0 hq0 q1 hq1 a2 h h1 ev) hq0 rfl cv_X0_34 (rm_ok hR (by decide)) rfl (Nat.le_of_ble_eq_true rfl) rfl rfl dX0_run_3 (fun H locs hw => ?_)
  refine lv_aload_n (pc := 6) hx hb dX0_run_6 rfl (lv_at hl 0 rfl) ?_
  refine lv_iconst (pc := 7) (v := (iI 0)) hx hb dX0_run_7 rfl ?_
  refine q_putI (pc := 8) (q := q0) hx hb hts hown hK hw hq0 fp_X0_22 dX0_run_8 hs (fun h2 H locs hw hs => ?_)
  refine lv_aload_n (pc := 11) hx hb dX0_run_11 rfl (lv_at hl 0 rfl) ?_
  refine lv_iconst (pc := 12) (v := (iI 0)) hx hb dX0_run_12 rfl ?_
  refine q_putI (pc := 13) (q := q0) hx hb hts hown hK hw hq0 fp_X0_25 dX0_run_13 hs (fun h3 H locs hw hs => ?_)
  refine lv_iconst (pc := 16) (v := (iI 0)) hx hb dX0_run_16 rfl ?_
  refine lv_istore_n (pc := 17) (lv' := [(3, .int (iI 0)), (0, .ref (G.2.2.1 q0)), (1, .ref (G.2.2.1 q1)), (2, .int a2)]) hx hb dX0_run_17 rfl hl (by decide) rfl (fun ls hl => ?_)
  refine (q_lo2 (P0 := fun (x4 : Int32) (h5 : Mem) => ∀ (H : Heap) (locs : List Loc), IW G s h5 H locs → ∀ ls : Array Slot, lv_has ls 6 [(0, .ref (G.2.2.1 q0)), (1, .ref (G.2.2.1 q1)), (3, .int x4)] → W p l e R s m args below meth c H locs 0 0 Q (F0 m 18 ls [])) hs ?_) _ _ hw _ (lv_sub hl [1, 2, 0] rfl)
  intro K6 hK6 x4 h5 hs H locs hw ls hl
  unfold f_X0_run_k6 at hs
  refine lv_iload_n (pc := 18) hx hb dX0_run_18 rfl (lv_at hl 2 rfl) ?_
  refine lv_sipush (pc := 19) (v := (iI 5000)) hx hb dX0_run_19 (by decide) ?_
  refine lv_icmp_ge (pc := 22) (tgt := 159) hx hb dX0_run_22 (by decide) (fun hc => ?_) (fun hc => ?_)
  · replace hs := q_t hc hs
    refine lv_bipush (pc := 159) (v := (iI 100)) hx hb dX0_run_159 (by decide) ?_
    exact q_iretW hret dX0_run_161 hw hs
  · replace hs := q_f hc hs
    refine lv_aload_n (pc := 25) hx hb dX0_run_25 rfl (lv_at hl 0 rfl) ?_
    refine q_getI (pc := 26) (q := q0) hx hb hts hown hK hw hq0 fg_X0_7 dX0_run_26 ?_
    refine lv_aload_n (pc := 29) hx hb dX0_run_29 rfl (lv_at hl 1 rfl) ?_
    refine q_getI (pc := 30) (q := q1) hx hb hts hown hK hw hq1 fg_X0_38 dX0_run_30 ?_
    refine lv_imul (pc := 33) hx hb dX0_run_33 ?_
    refine lv_aload_n (pc := 34) hx hb dX0_run_34 rfl (lv_at hl 0 rfl) ?_
    refine q_getI (pc := 35) (q := q0) hx hb hts hown hK hw hq0 fg_X0_13 dX0_run_35 ?_
    refine lv_iadd (pc := 38) hx hb dX0_run_38 ?_
    obtain ⟨x7, ex7, hs⟩ := q_nm hs
    refine q_topI ex7 ?_
    refine lv_istore (pc := 39) (lv' := [(4, .int x7), (0, .ref (G.2.2.1 q0)), (1, .ref (G.2.2.1 q1)), (3, .int x4)]) hx hb dX0_run_39 hl (by decide) rfl (fun ls hl => ?_)
    refine lv_iload_n (pc := 41) hx hb dX0_run_41 rfl (lv_at hl 3 rfl) ?_
    refine lv_aload_n (pc := 42) hx hb dX0_run_42 rfl (lv_at hl 1 rfl) ?_
    refine q_getI (pc := 43) (q := q0) hx hb hts hown hK hw hq0 fg_X0_28 dX0_run_43 ?_
    refine q_join1 (P0 := fun (h8 : Mem) => ∀ (H : Heap) (locs : List Loc), IW G s h8 H locs → ∀ ls : Array Slot, lv_has ls 6 [(0, .ref (G.2.2.1 q0)), (1, .ref (G.2.2.1 q1)), (3, .int x4), (4, .int x7)] → W p l e R s m args below meth c H locs 0 0 Q (F0 m 55 ls [])) hs ?_ ?_
    · intro h8 hs H locs hw ls hl
      unfold f_X0_run_k9 at hs
      refine lv_aload_n (pc := 55) hx hb dX0_run_55 rfl (lv_at hl 0 rfl) ?_
      refine lv_iload_n (pc := 56) hx hb dX0_run_56 rfl (lv_at hl 2 rfl) ?_
      refine lv_iconst (pc := 57) (v := (iI 1)) hx hb dX0_run_57 rfl ?_
      refine lv_iadd (pc := 58) hx hb dX0_run_58 ?_
      refine q_putI (pc := 59) (q := q0) hx hb hts hown hK hw hq0 fp_X0_19 dX0_run_59 hs (fun h10 H locs hw hs => ?_)
      refine lv_aload_n (pc := 62) hx hb dX0_run_62 rfl (lv_at hl 0 rfl) ?_
      refine lv_dup (pc := 63) hx hb dX0_run_63 rfl ?_
      refine q_getI (pc := 64) (q := q0) hx hb hts hown hK hw hq0 fg_X0_25 dX0_run_64 ?_
      refine lv_iconst (pc := 67) (v := (iI 1)) hx hb dX0_run_67 rfl ?_
      refine lv_iload (pc := 68) hx hb dX0_run_68 (lv_at hl 3 rfl) ?_
      refine q_ishl (pc := 70) hx hb dX0_run_70 ?_
      refine lv_ior (pc := 71) hx hb dX0_run_71 ?_
      refine q_putI (pc := 72) (q := q0) hx hb hts hown hK hw hq0 fp_X0_25 dX0_run_72 hs (fun h11 H locs hw hs => ?_)
      refine lv_aload_n (pc := 75) hx hb dX0_run_75 rfl (lv_at hl 1 rfl) ?_
      refine lv_iload (pc := 76) hx hb dX0_run_76 (lv_at hl 3 rfl) ?_
      obtain ⟨h12, ev, hs⟩ := q_cal hs
      refine q_callV (pc := 78) (q := q1) (As := [.int x7]) (rest := []) (rs := []) hx hb hml hl.1 hts hown hK hSt hN hw (c_X3_lightUp l G q1 hq1 x7 h11 h12 ev) hq1 rfl cv_X0_43 (rm_ok hR (by decide)) rfl (Nat.le_of_ble_eq_true rfl) rfl rfl dX0_run_78 (fun H locs hw => ?_)
      refine lv_aload_n (pc := 81) hx hb dX0_run_81 rfl (lv_at hl 1 rfl) ?_
      refine q_getR (pc := 82) (q := q1) (o := 1) hx hb hts hown hK hw hq1 fg_X0_47 dX0_run_82 ?_
      refine lv_iload (pc := 85) hx hb dX0_run_85 (lv_at hl 3 rfl) ?_
      refine q_ald (pc := 87) (q := (q1 + 1)) (n := 25) hx hb hK hw (wt_X3_kinds _ hq1) dX0_run_87 hs (fun v13 hs => ?_)
      refine lv_istore (pc := 88) (lv' := [(5, .int v13), (0, .ref (G.2.2.1 q0)), (1, .ref (G.2.2.1 q1)), (3, .int x4), (4, .int x7)]) hx hb dX0_run_88 hl (by decide) rfl (fun ls hl => ?_)
      refine lv_iload (pc := 90) hx hb dX0_run_90 (lv_at hl 0 rfl) ?_
      obtain ⟨v14, ev, hs⟩ := q_cal hs
      refine q_callS (pc := 92) (As := [.int v13]) (rest := []) (rs := [.int v14]) hx hb hml hl.1 hts hown hK hSt hN hw (c_X3_stopsRays l G v13 h12 v14 ev) cs_X0_51 (rm_ok hR (by decide)) rfl (Nat.le_of_ble_eq_true rfl) rfl rfl dX0_run_92 (fun H locs hw => ?_)
      refine lv_if_eq (pc := 95) (tgt := 101) hx hb dX0_run_95 (by decide) (fun hc => ?_) (fun hc => ?_)
      · replace hs := q_t hc hs
        refine lv_iload (pc := 101) hx hb dX0_run_101 (lv_at hl 0 rfl) ?_
        obtain ⟨v15, ev, hs⟩ := q_cal hs
        refine q_callS (pc := 103) (As := [.int v13]) (rest := []) (rs := [.int v15]) hx hb hml hl.1 hts hown hK hSt hN hw (c_X3_throwsRays l G v13 h12 v15 ev) cs_X0_55 (rm_ok hR (by decide)) rfl (Nat.le_of_ble_eq_true rfl) rfl rfl dX0_run_103 (fun H locs hw => ?_)
        refine q_join1 (P0 := fun (h16 : Mem) => ∀ (H : Heap) (locs : List Loc), IW G s h16 H locs → ∀ ls : Array Slot, lv_has ls 6 [(0, .ref (G.2.2.1 q0)), (1, .ref (G.2.2.1 q1)), (3, .int x4)] → W p l e R s m args below meth c H locs 0 0 Q (F0 m 135 ls [])) hs ?_ ?_
        · intro h16 hs H locs hw ls hl
          unfold f_X0_run_k17 at hs
          refine lv_aload_n (pc := 135) hx hb dX0_run_135 rfl (lv_at hl 0 rfl) ?_
          obtain ⟨h18, ev, hs⟩ := q_cal hs
          refine q_callV (pc := 136) (q := q0) (As := []) (rest := []) (rs := []) hx hb hml hl.1 hts hown hK hSt hN hw (c_X0_goOn l G q0 hq0 h16 h18 ev) hq0 rfl cv_X0_68 (rm_ok hR (by decide)) rfl (Nat.le_of_ble_eq_true rfl) rfl rfl dX0_run_136 (fun H locs hw => ?_)
          refine lv_aload_n (pc := 139) hx hb dX0_run_139 rfl (lv_at hl 0 rfl) ?_
          refine lv_aload_n (pc := 140) hx hb dX0_run_140 rfl (lv_at hl 1 rfl) ?_
          obtain ⟨v19, ev, hs⟩ := q_cal hs
          refine q_callV (pc := 141) (q := q0) (As := [.ref (G.2.2.1 q1)]) (rest := []) (rs := [.int v19]) hx hb hml hl.1 hts hown hK hSt hN hw (c_X0_isOutside l G q0 hq0 q1 hq1 h18 v19 ev) hq0 rfl cv_X0_71 (rm_ok hR (by decide)) rfl (Nat.le_of_ble_eq_true rfl) rfl rfl dX0_run_141 (fun H locs hw => ?_)
          refine lv_if_eq (pc := 144) (tgt := 153) hx hb dX0_run_144 (by decide) (fun hc => ?_) (fun hc => ?_)
          · replace hs := q_t hc hs
            obtain ⟨x20, ex20, hs⟩ := q_nm hs
            refine lv_iinc (pc := 153) (v := x20) (lv' := [(3, .int x20), (0, .ref (G.2.2.1 q0)), (1, .ref (G.2.2.1 q1))]) hx hb dX0_run_153 hl (k := 2) rfl ex20 (by decide) rfl (fun ls hl => ?_)
            refine lv_goto (pc := 156) (tgt := 18) hx hb dX0_run_156 (by decide) ?_
            exact hK6 _ _ hs _ _ hw _ (lv_sub hl [1, 2, 0] rfl)
          · replace hs := q_f hc hs
            refine lv_aload_n (pc := 147) hx hb dX0_run_147 rfl (lv_at hl 0 rfl) ?_
            refine lv_aload_n (pc := 148) hx hb dX0_run_148 rfl (lv_at hl 1 rfl) ?_
            obtain ⟨v21, ev, hs⟩ := q_cal hs
            refine q_callV (pc := 149) (q := q0) (As := [.ref (G.2.2.1 q1)]) (rest := []) (rs := [.int v21]) hx hb hml hl.1 hts hown hK hSt hN hw (c_X0_windowHere l G q0 hq0 q1 hq1 h18 v21 ev) hq0 rfl cv_X0_75 (rm_ok hR (by decide)) rfl (Nat.le_of_ble_eq_true rfl) rfl rfl dX0_run_149 (fun H locs hw => ?_)
            exact q_iretW hret dX0_run_152 hw hs
        · intro K17 hK17 hs
          refine lv_if_eq (pc := 106) (tgt := 135) hx hb dX0_run_106 (by decide) (fun hc => ?_) (fun hc => ?_)
          · replace hs := q_t hc hs
            exact hK17 _ hs _ _ hw _ (lv_sub hl [1, 2, 3] rfl)
          · replace hs := q_f hc hs
            refine lv_aload_n (pc := 109) hx hb dX0_run_109 rfl (lv_at hl 1 rfl) ?_
            refine lv_aload_n (pc := 110) hx hb dX0_run_110 rfl (lv_at hl 2 rfl) ?_
            refine lv_iload (pc := 111) hx hb dX0_run_111 (lv_at hl 4 rfl) ?_
            obtain ⟨v22, ev, hs⟩ := q_cal hs
            refine q_callV (pc := 113) (q := q1) (As := [.int x7]) (rest := [.ref (G.2.2.1 q0)]) (rs := [.int v22, .ref (G.2.2.1 q0)]) hx hb hml hl.1 hts hown hK hSt hN hw (c_X3_slantOf l G q1 hq1 x7 h12 v22 ev) hq1 rfl cv_X0_58 (rm_ok hR (by decide)) rfl (Nat.le_of_ble_eq_true rfl) rfl rfl dX0_run_113 (fun H locs hw => ?_)
            obtain ⟨h23, ev, hs⟩ := q_cal hs
            refine q_callV (pc := 116) (q := q0) (As := [.int v22]) (rest := []) (rs := []) hx hb hml hl.1 hts hown hK hSt hN hw (c_X0_bend l G q0 hq0 v22 h12 h23 ev) hq0 rfl cv_X0_62 (rm_ok hR (by decide)) rfl (Nat.le_of_ble_eq_true rfl) rfl rfl dX0_run_116 (fun H locs hw => ?_)
            refine lv_aload_n (pc := 119) hx hb dX0_run_119 rfl (lv_at hl 1 rfl) ?_
            refine lv_dup (pc := 120) hx hb dX0_run_120 rfl ?_
            refine q_getI (pc := 121) (q := q0) hx hb hts hown hK hw hq0 fg_X0_22 dX0_run_121 ?_
            refine lv_iconst (pc := 124) (v := (iI 1)) hx hb dX0_run_124 rfl ?_
            refine lv_iadd (pc := 125) hx hb dX0_run_125 ?_
            refine q_putI (pc := 126) (q := q0) hx hb hts hown hK hw hq0 fp_X0_22 dX0_run_126 hs (fun h24 H locs hw hs => ?_)
            refine lv_aload_n (pc := 129) hx hb dX0_run_129 rfl (lv_at hl 2 rfl) ?_
            refine lv_iload (pc := 130) hx hb dX0_run_130 (lv_at hl 4 rfl) ?_
            obtain ⟨h25, ev, hs⟩ := q_cal hs
            refine q_callV (pc := 132) (q := q1) (As := [.int x7]) (rest := []) (rs := []) hx hb hml hl.1 hts hown hK hSt hN hw (c_X3_turnByRay l G q1 hq1 x7 h24 h25 ev) hq1 rfl cv_X0_65 (rm_ok hR (by decide)) rfl (Nat.le_of_ble_eq_true rfl) rfl rfl dX0_run_132 (fun H locs hw => ?_)
            exact hK17 _ hs _ _ hw _ (lv_sub hl [1, 2, 3] rfl)
      · replace hs := q_f hc hs
        refine lv_bipush (pc := 98) (v := (iI 100)) hx hb dX0_run_98 (by decide) ?_
        exact q_iretW hret dX0_run_100 hw hs
    · intro K9 hK9 hs
      refine lv_icmp_ne (pc := 46) (tgt := 55) hx hb dX0_run_46 (by decide) (fun hc => ?_) (fun hc => ?_)
      · replace hs := q_t hc hs
        exact hK9 _ hs _ _ hw _ (lv_sub hl [1, 2, 3, 0] rfl)
      · replace hs := q_f (fun z => z hc) hs
        refine lv_aload_n (pc := 49) hx hb dX0_run_49 rfl (lv_at hl 1 rfl) ?_
        refine lv_iload (pc := 50) hx hb dX0_run_50 (lv_at hl 0 rfl) ?_
        refine q_putI (pc := 52) (q := q0) hx hb hts hown hK hw hq0 fp_X0_31 dX0_run_52 hs (fun h26 H locs hw hs => ?_)
        exact hK9 _ hs _ _ hw _ (lv_sub hl [1, 2, 3, 0] rfl)

set_option maxHeartbeats 4000000 in
theorem c_X0_runBack (l : Launch) (G : GG) (q0 : Nat) (hq0 : LAY[q0]? = some (3, 0)) (q1 : Nat) (hq1 : LAY[q1]? = some (6, 0)) (a2 : Int32) (h : Mem) (v : Int32) (h' : Mem) (hs : f_X0_runBack h q0 q1 a2 = some (v, h')) : Sat l G yX0_runBack cX0_runBack 6 (some .int) 2 [.ref (G.2.2.1 q0), .ref (G.2.2.1 q1), .int a2] h (some (.int v)) h' := by
  refine Sat.mkI (by decide) (Nat.le_of_ble_eq_true rfl) ?_
  intro p e R s m args below meth c Q F hret hw ls hl
  obtain ⟨hx, hb, hml, hown, hts, hK, hSt, hN, hR⟩ := F
  have hl : lv_has ls 6 [(0, .ref (G.2.2.1 q0)), (1, .ref (G.2.2.1 q1)), (2, .int a2)] := hl
  unfold f_X0_runBack at hs
  refine lv_aload_n (pc := 0) hx hb dX0_runBack_0 rfl (lv_at hl 0 rfl) ?_
  refine lv_aload_n (pc := 1) hx hb dX0_runBack_1 rfl (lv_at hl 1 rfl) ?_
  refine lv_iload_n (pc := 2) hx hb dX0_runBack_2 rfl (lv_at hl 2 rfl) ?_
  obtain ⟨h1, ev, hs⟩ := q_cal hs
  refine q_callV (pc := 3) (q := q0) (As := [.ref (G.2.2.1 q1), .int a2]) (rest := []) (rs := []) hx hb hml hl.1 hts hown hK hSt hN hw (c_X0_enter l G q0 hq0 q1 hq1 a2 h h1 ev) hq0 rfl cv_X0_34 (rm_ok hR (by decide)) rfl (Nat.le_of_ble_eq_true rfl) rfl rfl dX0_runBack_3 (fun H locs hw => ?_)
  refine lv_iconst (pc := 6) (v := (iI 0)) hx hb dX0_runBack_6 rfl ?_
  refine lv_istore_n (pc := 7) (lv' := [(3, .int (iI 0)), (0, .ref (G.2.2.1 q0)), (1, .ref (G.2.2.1 q1)), (2, .int a2)]) hx hb dX0_runBack_7 rfl hl (by decide) rfl (fun ls hl => ?_)
  refine (q_lo2 (P0 := fun (x2 : Int32) (h3 : Mem) => ∀ (H : Heap) (locs : List Loc), IW G s h3 H locs → ∀ ls : Array Slot, lv_has ls 6 [(0, .ref (G.2.2.1 q0)), (1, .ref (G.2.2.1 q1)), (3, .int x2)] → W p l e R s m args below meth c H locs 0 0 Q (F0 m 8 ls [])) hs ?_) _ _ hw _ (lv_sub hl [1, 2, 0] rfl)
  intro K4 hK4 x2 h3 hs H locs hw ls hl
  unfold f_X0_runBack_k4 at hs
  refine lv_iload_n (pc := 8) hx hb dX0_runBack_8 rfl (lv_at hl 2 rfl) ?_
  refine lv_sipush (pc := 9) (v := (iI 5000)) hx hb dX0_runBack_9 (by decide) ?_
  refine lv_icmp_ge (pc := 12) (tgt := 105) hx hb dX0_runBack_12 (by decide) (fun hc => ?_) (fun hc => ?_)
  · replace hs := q_t hc hs
    refine lv_bipush (pc := 105) (v := (iI 100)) hx hb dX0_runBack_105 (by decide) ?_
    exact q_iretW hret dX0_runBack_107 hw hs
  · replace hs := q_f hc hs
    refine lv_aload_n (pc := 15) hx hb dX0_runBack_15 rfl (lv_at hl 0 rfl) ?_
    refine q_getI (pc := 16) (q := q0) hx hb hts hown hK hw hq0 fg_X0_7 dX0_runBack_16 ?_
    refine lv_aload_n (pc := 19) hx hb dX0_runBack_19 rfl (lv_at hl 1 rfl) ?_
    refine q_getI (pc := 20) (q := q1) hx hb hts hown hK hw hq1 fg_X0_38 dX0_runBack_20 ?_
    refine lv_imul (pc := 23) hx hb dX0_runBack_23 ?_
    refine lv_aload_n (pc := 24) hx hb dX0_runBack_24 rfl (lv_at hl 0 rfl) ?_
    refine q_getI (pc := 25) (q := q0) hx hb hts hown hK hw hq0 fg_X0_13 dX0_runBack_25 ?_
    refine lv_iadd (pc := 28) hx hb dX0_runBack_28 ?_
    obtain ⟨x5, ex5, hs⟩ := q_nm hs
    refine q_topI ex5 ?_
    refine lv_istore (pc := 29) (lv' := [(4, .int x5), (0, .ref (G.2.2.1 q0)), (1, .ref (G.2.2.1 q1)), (3, .int x2)]) hx hb dX0_runBack_29 hl (by decide) rfl (fun ls hl => ?_)
    refine lv_aload_n (pc := 31) hx hb dX0_runBack_31 rfl (lv_at hl 2 rfl) ?_
    refine q_getR (pc := 32) (q := q1) (o := 1) hx hb hts hown hK hw hq1 fg_X0_47 dX0_runBack_32 ?_
    refine lv_iload (pc := 35) hx hb dX0_runBack_35 (lv_at hl 0 rfl) ?_
    refine q_ald (pc := 37) (q := (q1 + 1)) (n := 25) hx hb hK hw (wt_X3_kinds _ hq1) dX0_runBack_37 hs (fun v6 hs => ?_)
    refine lv_istore (pc := 38) (lv' := [(5, .int v6), (4, .int x5), (0, .ref (G.2.2.1 q0)), (1, .ref (G.2.2.1 q1)), (3, .int x2)]) hx hb dX0_runBack_38 hl (by decide) rfl (fun ls hl => ?_)
    refine lv_iload (pc := 40) hx hb dX0_runBack_40 (lv_at hl 0 rfl) ?_
    obtain ⟨v7, ev, hs⟩ := q_cal hs
    refine q_callS (pc := 42) (As := [.int v6]) (rest := []) (rs := [.int v7]) hx hb hml hl.1 hts hown hK hSt hN hw (c_X3_stopsRays l G v6 h3 v7 ev) cs_X0_51 (rm_ok hR (by decide)) rfl (Nat.le_of_ble_eq_true rfl) rfl rfl dX0_runBack_42 (fun H locs hw => ?_)
    refine lv_if_eq (pc := 45) (tgt := 51) hx hb dX0_runBack_45 (by decide) (fun hc => ?_) (fun hc => ?_)
    · replace hs := q_t hc hs
      refine lv_aload_n (pc := 51) hx hb dX0_runBack_51 rfl (lv_at hl 3 rfl) ?_
      refine lv_iload (pc := 52) hx hb dX0_runBack_52 (lv_at hl 1 rfl) ?_
      obtain ⟨h8, ev, hs⟩ := q_cal hs
      refine q_callV (pc := 54) (q := q1) (As := [.int x5]) (rest := []) (rs := []) hx hb hml hl.1 hts hown hK hSt hN hw (c_X3_lightDown l G q1 hq1 x5 h3 h8 ev) hq1 rfl cv_X0_79 (rm_ok hR (by decide)) rfl (Nat.le_of_ble_eq_true rfl) rfl rfl dX0_runBack_54 (fun H locs hw => ?_)
      refine lv_iload (pc := 57) hx hb dX0_runBack_57 (lv_at hl 0 rfl) ?_
      obtain ⟨v9, ev, hs⟩ := q_cal hs
      refine q_callS (pc := 59) (As := [.int v6]) (rest := []) (rs := [.int v9]) hx hb hml hl.1 hts hown hK hSt hN hw (c_X3_throwsRays l G v6 h8 v9 ev) cs_X0_55 (rm_ok hR (by decide)) rfl (Nat.le_of_ble_eq_true rfl) rfl rfl dX0_runBack_59 (fun H locs hw => ?_)
      refine q_join1 (P0 := fun (h10 : Mem) => ∀ (H : Heap) (locs : List Loc), IW G s h10 H locs → ∀ ls : Array Slot, lv_has ls 6 [(0, .ref (G.2.2.1 q0)), (1, .ref (G.2.2.1 q1)), (3, .int x2)] → W p l e R s m args below meth c H locs 0 0 Q (F0 m 81 ls [])) hs ?_ ?_
      · intro h10 hs H locs hw ls hl
        unfold f_X0_runBack_k11 at hs
        refine lv_aload_n (pc := 81) hx hb dX0_runBack_81 rfl (lv_at hl 0 rfl) ?_
        obtain ⟨h12, ev, hs⟩ := q_cal hs
        refine q_callV (pc := 82) (q := q0) (As := []) (rest := []) (rs := []) hx hb hml hl.1 hts hown hK hSt hN hw (c_X0_goOn l G q0 hq0 h10 h12 ev) hq0 rfl cv_X0_68 (rm_ok hR (by decide)) rfl (Nat.le_of_ble_eq_true rfl) rfl rfl dX0_runBack_82 (fun H locs hw => ?_)
        refine lv_aload_n (pc := 85) hx hb dX0_runBack_85 rfl (lv_at hl 0 rfl) ?_
        refine lv_aload_n (pc := 86) hx hb dX0_runBack_86 rfl (lv_at hl 1 rfl) ?_
        obtain ⟨v13, ev, hs⟩ := q_cal hs
        refine q_callV (pc := 87) (q := q0) (As := [.ref (G.2.2.1 q1)]) (rest := []) (rs := [.int v13]) hx hb hml hl.1 hts hown hK hSt hN hw (c_X0_isOutside l G q0 hq0 q1 hq1 h12 v13 ev) hq0 rfl cv_X0_71 (rm_ok hR (by decide)) rfl (Nat.le_of_ble_eq_true rfl) rfl rfl dX0_runBack_87 (fun H locs hw => ?_)
        refine lv_if_eq (pc := 90) (tgt := 99) hx hb dX0_runBack_90 (by decide) (fun hc => ?_) (fun hc => ?_)
        · replace hs := q_t hc hs
          obtain ⟨x14, ex14, hs⟩ := q_nm hs
          refine lv_iinc (pc := 99) (v := x14) (lv' := [(3, .int x14), (0, .ref (G.2.2.1 q0)), (1, .ref (G.2.2.1 q1))]) hx hb dX0_runBack_99 hl (k := 2) rfl ex14 (by decide) rfl (fun ls hl => ?_)
          refine lv_goto (pc := 102) (tgt := 8) hx hb dX0_runBack_102 (by decide) ?_
          exact hK4 _ _ hs _ _ hw _ (lv_sub hl [1, 2, 0] rfl)
        · replace hs := q_f hc hs
          refine lv_aload_n (pc := 93) hx hb dX0_runBack_93 rfl (lv_at hl 0 rfl) ?_
          refine lv_aload_n (pc := 94) hx hb dX0_runBack_94 rfl (lv_at hl 1 rfl) ?_
          obtain ⟨v15, ev, hs⟩ := q_cal hs
          refine q_callV (pc := 95) (q := q0) (As := [.ref (G.2.2.1 q1)]) (rest := []) (rs := [.int v15]) hx hb hml hl.1 hts hown hK hSt hN hw (c_X0_windowHere l G q0 hq0 q1 hq1 h12 v15 ev) hq0 rfl cv_X0_75 (rm_ok hR (by decide)) rfl (Nat.le_of_ble_eq_true rfl) rfl rfl dX0_runBack_95 (fun H locs hw => ?_)
          exact q_iretW hret dX0_runBack_98 hw hs
      · intro K11 hK11 hs
        refine lv_if_eq (pc := 62) (tgt := 81) hx hb dX0_runBack_62 (by decide) (fun hc => ?_) (fun hc => ?_)
        · replace hs := q_t hc hs
          exact hK11 _ hs _ _ hw _ (lv_sub hl [2, 3, 4] rfl)
        · replace hs := q_f hc hs
          refine lv_aload_n (pc := 65) hx hb dX0_runBack_65 rfl (lv_at hl 3 rfl) ?_
          refine lv_iload (pc := 66) hx hb dX0_runBack_66 (lv_at hl 1 rfl) ?_
          obtain ⟨h16, ev, hs⟩ := q_cal hs
          refine q_callV (pc := 68) (q := q1) (As := [.int x5]) (rest := []) (rs := []) hx hb hml hl.1 hts hown hK hSt hN hw (c_X3_turnBack l G q1 hq1 x5 h8 h16 ev) hq1 rfl cv_X0_82 (rm_ok hR (by decide)) rfl (Nat.le_of_ble_eq_true rfl) rfl rfl dX0_runBack_68 (fun H locs hw => ?_)
          refine lv_aload_n (pc := 71) hx hb dX0_runBack_71 rfl (lv_at hl 2 rfl) ?_
          refine lv_aload_n (pc := 72) hx hb dX0_runBack_72 rfl (lv_at hl 3 rfl) ?_
          refine lv_iload (pc := 73) hx hb dX0_runBack_73 (lv_at hl 1 rfl) ?_
          obtain ⟨v17, ev, hs⟩ := q_cal hs
          refine q_callV (pc := 75) (q := q1) (As := [.int x5]) (rest := [.ref (G.2.2.1 q0)]) (rs := [.int v17, .ref (G.2.2.1 q0)]) hx hb hml hl.1 hts hown hK hSt hN hw (c_X3_slantOf l G q1 hq1 x5 h16 v17 ev) hq1 rfl cv_X0_58 (rm_ok hR (by decide)) rfl (Nat.le_of_ble_eq_true rfl) rfl rfl dX0_runBack_75 (fun H locs hw => ?_)
          obtain ⟨h18, ev, hs⟩ := q_cal hs
          refine q_callV (pc := 78) (q := q0) (As := [.int v17]) (rest := []) (rs := []) hx hb hml hl.1 hts hown hK hSt hN hw (c_X0_bend l G q0 hq0 v17 h16 h18 ev) hq0 rfl cv_X0_62 (rm_ok hR (by decide)) rfl (Nat.le_of_ble_eq_true rfl) rfl rfl dX0_runBack_78 (fun H locs hw => ?_)
          exact hK11 _ hs _ _ hw _ (lv_sub hl [2, 3, 4] rfl)
    · replace hs := q_f hc hs
      refine lv_bipush (pc := 48) (v := (iI 100)) hx hb dX0_runBack_48 (by decide) ?_
      exact q_iretW hret dX0_runBack_50 hw hs

set_option maxHeartbeats 4000000 in
theorem c_X0_squareOnWay (l : Launch) (G : GG) (q0 : Nat) (hq0 : LAY[q0]? = some (3, 0)) (q1 : Nat) (hq1 : LAY[q1]? = some (6, 0)) (a2 : Int32) (a3 : Int32) (h : Mem) (v : Int32) (h' : Mem) (hs : f_X0_squareOnWay h q0 q1 a2 a3 = some (v, h')) : Sat l G yX0_squareOnWay cX0_squareOnWay 4 (some .int) 3 [.ref (G.2.2.1 q0), .ref (G.2.2.1 q1), .int a2, .int a3] h (some (.int v)) h' := by
  refine Sat.mkI (by decide) (Nat.le_of_ble_eq_true rfl) ?_
  intro p e R s m args below meth c Q F hret hw ls hl
  obtain ⟨hx, hb, hml, hown, hts, hK, hSt, hN, hR⟩ := F
  have hl : lv_has ls 4 [(0, .ref (G.2.2.1 q0)), (1, .ref (G.2.2.1 q1)), (2, .int a2), (3, .int a3)] := hl
  unfold f_X0_squareOnWay at hs
  refine lv_aload_n (pc := 0) hx hb dX0_squareOnWay_0 rfl (lv_at hl 0 rfl) ?_
  refine lv_iload_n (pc := 1) hx hb dX0_squareOnWay_1 rfl (lv_at hl 3 rfl) ?_
  refine q_putI (pc := 2) (q := q0) hx hb hts hown hK hw hq0 fp_X0_28 dX0_squareOnWay_2 hs (fun h1 H locs hw hs => ?_)
  refine lv_aload_n (pc := 5) hx hb dX0_squareOnWay_5 rfl (lv_at hl 0 rfl) ?_
  refine lv_iconst (pc := 6) (v := (iI (-1))) hx hb dX0_squareOnWay_6 rfl ?_
  refine q_putI (pc := 7) (q := q0) hx hb hts hown hK hw hq0 fp_X0_31 dX0_squareOnWay_7 hs (fun h2 H locs hw hs => ?_)
  refine lv_aload_n (pc := 10) hx hb dX0_squareOnWay_10 rfl (lv_at hl 0 rfl) ?_
  refine lv_aload_n (pc := 11) hx hb dX0_squareOnWay_11 rfl (lv_at hl 1 rfl) ?_
  refine lv_iload_n (pc := 12) hx hb dX0_squareOnWay_12 rfl (lv_at hl 2 rfl) ?_
  obtain ⟨v3, h4, ev, hs⟩ := q_cal2 hs
  refine q_callV (pc := 13) (q := q0) (As := [.ref (G.2.2.1 q1), .int a2]) (rest := []) (rs := [.int v3]) hx hb hml hl.1 hts hown hK hSt hN hw (c_X0_run l G q0 hq0 q1 hq1 a2 h2 v3 h4 ev) hq0 rfl cv_X0_85 (rm_ok hR (by decide)) rfl (Nat.le_of_ble_eq_true rfl) rfl rfl dX0_squareOnWay_13 (fun H locs hw => ?_)
  refine lv_pop (pc := 16) hx hb dX0_squareOnWay_16 rfl ?_
  refine lv_aload_n (pc := 17) hx hb dX0_squareOnWay_17 rfl (lv_at hl 0 rfl) ?_
  refine lv_iconst (pc := 18) (v := (iI (-1))) hx hb dX0_squareOnWay_18 rfl ?_
  refine q_putI (pc := 19) (q := q0) hx hb hts hown hK hw hq0 fp_X0_28 dX0_squareOnWay_19 hs (fun h5 H locs hw hs => ?_)
  refine lv_aload_n (pc := 22) hx hb dX0_squareOnWay_22 rfl (lv_at hl 0 rfl) ?_
  refine q_getI (pc := 23) (q := q0) hx hb hts hown hK hw hq0 fg_X0_31 dX0_squareOnWay_23 ?_
  exact q_iretW hret dX0_squareOnWay_26 hw hs

set_option maxHeartbeats 4000000 in
theorem c_X3_copyFrom (l : Launch) (G : GG) (q0 : Nat) (hq0 : LAY[q0]? = some (6, 0)) (q1 : Nat) (hq1 : LAY[q1]? = some (6, 0)) (h : Mem) (h' : Mem) (hs : f_X3_copyFrom h q0 q1 = some h') : Sat l G yX3_copyFrom cX3_copyFrom 2 none 2 [.ref (G.2.2.1 q0), .ref (G.2.2.1 q1)] h none h' := by
  refine Sat.mkV (by decide) (Nat.le_of_ble_eq_true rfl) ?_
  intro p e R s m args below meth c Q F hret hw ls hl
  obtain ⟨hx, hb, hml, hown, hts, hK, hSt, hN, hR⟩ := F
  have hl : lv_has ls 2 [(0, .ref (G.2.2.1 q0)), (1, .ref (G.2.2.1 q1))] := hl
  unfold f_X3_copyFrom at hs
  refine lv_aload_n (pc := 0) hx hb dX3_copyFrom_0 rfl (lv_at hl 0 rfl) ?_
  refine lv_aload_n (pc := 1) hx hb dX3_copyFrom_1 rfl (lv_at hl 1 rfl) ?_
  refine q_getI (pc := 2) (q := q1) hx hb hts hown hK hw hq1 fg_X3_7 dX3_copyFrom_2 ?_
  refine q_putI (pc := 5) (q := q0) hx hb hts hown hK hw hq0 fp_X3_7 dX3_copyFrom_5 hs (fun h1 H locs hw hs => ?_)
  refine lv_aload_n (pc := 8) hx hb dX3_copyFrom_8 rfl (lv_at hl 0 rfl) ?_
  refine lv_aload_n (pc := 9) hx hb dX3_copyFrom_9 rfl (lv_at hl 1 rfl) ?_
  refine q_getI (pc := 10) (q := q1) hx hb hts hown hK hw hq1 fg_X3_13 dX3_copyFrom_10 ?_
  refine q_putI (pc := 13) (q := q0) hx hb hts hown hK hw hq0 fp_X3_13 dX3_copyFrom_13 hs (fun h2 H locs hw hs => ?_)
  refine lv_aload_n (pc := 16) hx hb dX3_copyFrom_16 rfl (lv_at hl 1 rfl) ?_
  refine q_getR (pc := 17) (q := q1) (o := 1) hx hb hts hown hK hw hq1 fg_X3_16 dX3_copyFrom_17 ?_
  refine lv_iconst (pc := 20) (v := (iI 0)) hx hb dX3_copyFrom_20 rfl ?_
  refine lv_aload_n (pc := 21) hx hb dX3_copyFrom_21 rfl (lv_at hl 0 rfl) ?_
  refine q_getR (pc := 22) (q := q0) (o := 1) hx hb hts hown hK hw hq0 fg_X3_16 dX3_copyFrom_22 ?_
  refine lv_iconst (pc := 25) (v := (iI 0)) hx hb dX3_copyFrom_25 rfl ?_
  refine lv_bipush (pc := 26) (v := (iI 25)) hx hb dX3_copyFrom_26 (by decide) ?_
  refine q_acp (pc := 28) (a := (q1 + 1)) (b := (q0 + 1)) (an := 25) (bn := 25) hx hb hml hl.1 hts hown hK hw (wt_X3_kinds _ hq1) (wt_X3_kinds _ hq0) ac_X3_59 (rm_ac hR (by decide)) dX3_copyFrom_28 hs (fun h3 H locs hw hs => ?_)
  refine lv_aload_n (pc := 31) hx hb dX3_copyFrom_31 rfl (lv_at hl 1 rfl) ?_
  refine q_getR (pc := 32) (q := q1) (o := 2) hx hb hts hown hK hw hq1 fg_X3_20 dX3_copyFrom_32 ?_
  refine lv_iconst (pc := 35) (v := (iI 0)) hx hb dX3_copyFrom_35 rfl ?_
  refine lv_aload_n (pc := 36) hx hb dX3_copyFrom_36 rfl (lv_at hl 0 rfl) ?_
  refine q_getR (pc := 37) (q := q0) (o := 2) hx hb hts hown hK hw hq0 fg_X3_20 dX3_copyFrom_37 ?_
  refine lv_iconst (pc := 40) (v := (iI 0)) hx hb dX3_copyFrom_40 rfl ?_
  refine lv_bipush (pc := 41) (v := (iI 25)) hx hb dX3_copyFrom_41 (by decide) ?_
  refine q_acp (pc := 43) (a := (q1 + 2)) (b := (q0 + 2)) (an := 25) (bn := 25) hx hb hml hl.1 hts hown hK hw (wt_X3_numbers _ hq1) (wt_X3_numbers _ hq0) ac_X3_59 (rm_ac hR (by decide)) dX3_copyFrom_43 hs (fun h4 H locs hw hs => ?_)
  refine lv_aload_n (pc := 46) hx hb dX3_copyFrom_46 rfl (lv_at hl 1 rfl) ?_
  refine q_getR (pc := 47) (q := q1) (o := 3) hx hb hts hown hK hw hq1 fg_X3_23 dX3_copyFrom_47 ?_
  refine lv_iconst (pc := 50) (v := (iI 0)) hx hb dX3_copyFrom_50 rfl ?_
  refine lv_aload_n (pc := 51) hx hb dX3_copyFrom_51 rfl (lv_at hl 0 rfl) ?_
  refine q_getR (pc := 52) (q := q0) (o := 3) hx hb hts hown hK hw hq0 fg_X3_23 dX3_copyFrom_52 ?_
  refine lv_iconst (pc := 55) (v := (iI 0)) hx hb dX3_copyFrom_55 rfl ?_
  refine lv_bipush (pc := 56) (v := (iI 25)) hx hb dX3_copyFrom_56 (by decide) ?_
  refine q_acp (pc := 58) (a := (q1 + 3)) (b := (q0 + 3)) (an := 25) (bn := 25) hx hb hml hl.1 hts hown hK hw (wt_X3_lit _ hq1) (wt_X3_lit _ hq0) ac_X3_59 (rm_ac hR (by decide)) dX3_copyFrom_58 hs (fun h5 H locs hw hs => ?_)
  refine lv_aload_n (pc := 61) hx hb dX3_copyFrom_61 rfl (lv_at hl 0 rfl) ?_
  refine lv_aload_n (pc := 62) hx hb dX3_copyFrom_62 rfl (lv_at hl 1 rfl) ?_
  obtain ⟨h6, ev, hs⟩ := q_cal hs
  refine q_callV (pc := 63) (q := q0) (As := [.ref (G.2.2.1 q1)]) (rest := []) (rs := []) hx hb hml hl.1 hts hown hK hSt hN hw (c_X3_standAs l G q0 hq0 q1 hq1 h5 h6 ev) hq0 rfl cv_X3_65 (rm_ok hR (by decide)) rfl (Nat.le_of_ble_eq_true rfl) rfl rfl dX3_copyFrom_63 (fun H locs hw => ?_)
  exact q_vret hret dX3_copyFrom_66 hw hs

set_option maxHeartbeats 4000000 in
theorem c_X5_gives (l : Launch) (G : GG) (q0 : Nat) (hq0 : LAY[q0]? = some (8, 0)) (a1 : Int32) (a2 : Int32) (a3 : Int32) (h : Mem) (v : Int32) (h' : Mem) (hs : f_X5_gives h q0 a1 a2 a3 = some (v, h')) : Sat l G yX5_gives cX5_gives 5 (some .int) 2 [.ref (G.2.2.1 q0), .int a1, .int a2, .int a3] h (some (.int v)) h' := by
  refine Sat.mkI (by decide) (Nat.le_of_ble_eq_true rfl) ?_
  intro p e R s m args below meth c Q F hret hw ls hl
  obtain ⟨hx, hb, hml, hown, hts, hK, hSt, hN, hR⟩ := F
  have hl : lv_has ls 5 [(0, .ref (G.2.2.1 q0)), (1, .int a1), (2, .int a2), (3, .int a3)] := hl
  unfold f_X5_gives at hs
  refine lv_aload_n (pc := 0) hx hb dX5_gives_0 rfl (lv_at hl 0 rfl) ?_
  refine q_getI (pc := 1) (q := q0) hx hb hts hown hK hw hq0 fg_X5_22 dX5_gives_1 ?_
  refine q_join1 (P0 := fun (x1 : Int32) => ∀ (H : Heap) (locs : List Loc), IW G s h H locs → ∀ ls : Array Slot, lv_has ls 5 [(0, .ref (G.2.2.1 q0)), (1, .int a1), (2, .int a2), (3, .int a3)] → W p l e R s m args below meth c H locs 0 0 Q (F0 m 13 ls [.int x1])) hs ?_ ?_
  · intro x1 hs H locs hw ls hl
    unfold f_X5_gives_k2 at hs
    refine lv_istore (pc := 13) (lv' := [(4, .int x1), (0, .ref (G.2.2.1 q0)), (1, .int a1), (2, .int a2), (3, .int a3)]) hx hb dX5_gives_13 hl (by decide) rfl (fun ls hl => ?_)
    refine lv_aload_n (pc := 15) hx hb dX5_gives_15 rfl (lv_at hl 1 rfl) ?_
    refine q_getI (pc := 16) (q := q0) hx hb hts hown hK hw hq0 fg_X5_15 dX5_gives_16 ?_
    refine q_join2 (P0 := fun (x3 : Int32) (h4 : Mem) => ∀ (H : Heap) (locs : List Loc), IW G s h4 H locs → ∀ ls : Array Slot, lv_has ls 5 [(4, .int x1)] → W p l e R s m args below meth c H locs 0 0 Q (F0 m 37 ls [.int x3])) hs ?_ ?_
    · intro x3 h4 hs H locs hw ls hl
      refine lv_iload (pc := 37) hx hb dX5_gives_37 (lv_at hl 0 rfl) ?_
      refine lv_bipush (pc := 39) (v := (iI 99)) hx hb dX5_gives_39 (by decide) ?_
      obtain ⟨v6, ev, hs⟩ := q_cal hs
      refine q_callN (pc := 41) (As := [.int x3, .int x1, .int (iI 99)]) (rest := []) (rs := [.int v6]) hx hb hml hl.1 hts hown hK hSt hN hw (c_X10_held l G x3 x1 (iI 99) h4 v6 ev) cn_X5_31 (rm_ok hR (by decide)) rfl (Nat.le_of_ble_eq_true rfl) rfl rfl dX5_gives_41 (fun H locs hw => ?_)
      exact q_iretW hret dX5_gives_44 hw hs
    · intro K5 hK5 hs
      refine lv_if_ne (pc := 19) (tgt := 30) hx hb dX5_gives_19 (by decide) (fun hc => ?_) (fun hc => ?_)
      · replace hs := q_t hc hs
        refine lv_aload_n (pc := 30) hx hb dX5_gives_30 rfl (lv_at hl 1 rfl) ?_
        refine lv_iload_n (pc := 31) hx hb dX5_gives_31 rfl (lv_at hl 2 rfl) ?_
        refine lv_iload_n (pc := 32) hx hb dX5_gives_32 rfl (lv_at hl 3 rfl) ?_
        refine lv_iload_n (pc := 33) hx hb dX5_gives_33 rfl (lv_at hl 4 rfl) ?_
        obtain ⟨v7, h8, ev, hs⟩ := q_cal2 hs
        refine q_callV (pc := 34) (q := q0) (As := [.int a1, .int a2, .int a3]) (rest := []) (rs := [.int v7]) hx hb hml hl.1 hts hown hK hSt hN hw (c_X5_worked l G q0 hq0 a1 a2 a3 h v7 h8 ev) hq0 rfl cv_X5_51 (rm_ok hR (by decide)) rfl (Nat.le_of_ble_eq_true rfl) rfl rfl dX5_gives_34 (fun H locs hw => ?_)
        exact hK5 _ _ hs _ _ hw _ (lv_sub hl [0] rfl)
      · replace hs := q_f (fun z => z hc) hs
        refine lv_aload_n (pc := 22) hx hb dX5_gives_22 rfl (lv_at hl 1 rfl) ?_
        refine lv_iload_n (pc := 23) hx hb dX5_gives_23 rfl (lv_at hl 4 rfl) ?_
        obtain ⟨v9, ev, hs⟩ := q_cal hs
        refine q_callV (pc := 24) (q := q0) (As := [.int a3]) (rest := []) (rs := [.int v9]) hx hb hml hl.1 hts hown hK hSt hN hw (c_X5_withoutText l G q0 hq0 a3 h v9 ev) hq0 rfl cv_X5_47 (rm_ok hR (by decide)) rfl (Nat.le_of_ble_eq_true rfl) rfl rfl dX5_gives_24 (fun H locs hw => ?_)
        refine lv_goto (pc := 27) (tgt := 37) hx hb dX5_gives_27 (by decide) ?_
        exact hK5 _ _ hs _ _ hw _ (lv_sub hl [0] rfl)
  · intro K2 hK2 hs
    refine lv_if_ne (pc := 4) (tgt := 11) hx hb dX5_gives_4 (by decide) (fun hc => ?_) (fun hc => ?_)
    · replace hs := q_t hc hs
      refine lv_bipush (pc := 11) (v := (iI (-99))) hx hb dX5_gives_11 (by decide) ?_
      exact hK2 _ hs _ _ hw _ (lv_sub hl [0, 1, 2, 3] rfl)
    · replace hs := q_f (fun z => z hc) hs
      refine lv_iconst (pc := 7) (v := (iI 0)) hx hb dX5_gives_7 rfl ?_
      refine lv_goto (pc := 8) (tgt := 13) hx hb dX5_gives_8 (by decide) ?_
      exact hK2 _ hs _ _ hw _ (lv_sub hl [0, 1, 2, 3] rfl)

