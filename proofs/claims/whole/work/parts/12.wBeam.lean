set_option maxHeartbeats 4000000 in
theorem c_X10_slants (l : Launch) (G : GG)  (h : Mem) (v : Int32)  (hs : f_X10_slants h  = some v) : Sat l G yX10_slants cX10_slants 1 (some .int) 0 [.ref (G.2.2.1 0)] h (some (.int v)) h := by
  refine Sat.mkI (by decide) (Nat.le_of_ble_eq_true rfl) ?_
  intro p e R s m args below meth c Q F hret hw ls hl
  obtain ⟨hx, hb, hml, hown, hts, hK, hSt, hN, hR⟩ := F
  have hl : lv_has ls 1 [(0, .ref (G.2.2.1 0))] := hl
  unfold f_X10_slants at hs
  refine lv_aload_n (pc := 0) hx hb dX10_slants_0 rfl (lv_at hl 0 rfl) ?_
  refine q_getR (pc := 1) (q := 0) (o := 2) hx hb hts hown hK hw rfl fg_X10_16 dX10_slants_1 ?_
  refine q_getR (pc := 4) (q := 2) (o := 1) hx hb hts hown hK hw rfl fg_X10_91 dX10_slants_4 ?_
  refine q_getI (pc := 7) (q := 3) hx hb hts hown hK hw rfl fg_X10_144 dX10_slants_7 ?_
  exact q_iret hret dX10_slants_10 hw hs

set_option maxHeartbeats 4000000 in
theorem c_X10_seed (l : Launch) (G : GG) (a1 : Int32) (h : Mem) (v : Int32) (h' : Mem) (hs : f_X10_seed h a1 = some (v, h')) : Sat l G yX10_seed cX10_seed 3 (some .int) 0 [.ref (G.2.2.1 0), .int a1] h (some (.int v)) h' := by
  refine Sat.mkI (by decide) (Nat.le_of_ble_eq_true rfl) ?_
  intro p e R s m args below meth c Q F hret hw ls hl
  obtain ⟨hx, hb, hml, hown, hts, hK, hSt, hN, hR⟩ := F
  have hl : lv_has ls 3 [(0, .ref (G.2.2.1 0)), (1, .int a1)] := hl
  unfold f_X10_seed at hs
  refine lv_aload_n (pc := 0) hx hb dX10_seed_0 rfl (lv_at hl 0 rfl) ?_
  refine q_getR (pc := 1) (q := 0) (o := 2) hx hb hts hown hK hw rfl fg_X10_16 dX10_seed_1 ?_
  refine q_getI (pc := 4) (q := 2) hx hb hts hown hK hw rfl fg_X10_301 dX10_seed_4 ?_
  obtain ⟨x1, ex1, hs⟩ := q_nm hs
  refine q_topI ex1 ?_
  refine lv_istore_n (pc := 7) (lv' := [(2, .int x1), (0, .ref (G.2.2.1 0)), (1, .int a1)]) hx hb dX10_seed_7 rfl hl (by decide) rfl (fun ls hl => ?_)
  refine lv_aload_n (pc := 8) hx hb dX10_seed_8 rfl (lv_at hl 1 rfl) ?_
  refine q_getR (pc := 9) (q := 0) (o := 2) hx hb hts hown hK hw rfl fg_X10_16 dX10_seed_9 ?_
  refine lv_iload_n (pc := 12) hx hb dX10_seed_12 rfl (lv_at hl 2 rfl) ?_
  refine q_putI (pc := 13) (q := 2) hx hb hts hown hK hw rfl fp_X10_301 dX10_seed_13 hs (fun h2 H locs hw hs => ?_)
  refine lv_iload_n (pc := 16) hx hb dX10_seed_16 rfl (lv_at hl 0 rfl) ?_
  exact q_iretW hret dX10_seed_17 hw hs

set_option maxHeartbeats 4000000 in
theorem c_X10_hall (l : Launch) (G : GG) (a1 : Int32) (a2 : Int32) (h : Mem) (v : Int32) (h' : Mem) (hs : f_X10_hall h a1 a2 = some (v, h')) : Sat l G yX10_hall cX10_hall 3 (some .int) 2 [.ref (G.2.2.1 0), .int a1, .int a2] h (some (.int v)) h' := by
  refine Sat.mkI (by decide) (Nat.le_of_ble_eq_true rfl) ?_
  intro p e R s m args below meth c Q F hret hw ls hl
  obtain ⟨hx, hb, hml, hown, hts, hK, hSt, hN, hR⟩ := F
  have hl : lv_has ls 3 [(0, .ref (G.2.2.1 0)), (1, .int a1), (2, .int a2)] := hl
  unfold f_X10_hall at hs
  refine lv_iload_n (pc := 0) hx hb dX10_hall_0 rfl (lv_at hl 1 rfl) ?_
  refine lv_iconst (pc := 1) (v := (iI 1)) hx hb dX10_hall_1 rfl ?_
  refine lv_iconst (pc := 2) (v := (iI 5)) hx hb dX10_hall_2 rfl ?_
  obtain ⟨v1, ev, hs⟩ := q_cal hs
  refine q_callS (pc := 3) (As := [.int a1, .int (iI 1), .int (iI 5)]) (rest := []) (rs := [.int v1]) hx hb hml hl.1 hts hown hK hSt hN hw (c_X10_within l G a1 (iI 1) (iI 5) h v1 ev) cs_X10_83 (rm_ok hR (by decide)) rfl (Nat.le_of_ble_eq_true rfl) rfl rfl dX10_hall_3 (fun H locs hw => ?_)
  refine q_join0 (P0 := ∀ (H : Heap) (locs : List Loc), IW G s h H locs → ∀ ls : Array Slot, lv_has ls 3 [(0, .ref (G.2.2.1 0))] → W p l e R s m args below meth c H locs 0 0 Q (F0 m 18 ls [])) hs ?_ ?_
  · intro  hs H locs hw ls hl
    refine lv_aload_n (pc := 18) hx hb dX10_hall_18 rfl (lv_at hl 0 rfl) ?_
    refine lv_iconst (pc := 19) (v := (iI 1)) hx hb dX10_hall_19 rfl ?_
    obtain ⟨v3, h4, ev, hs⟩ := q_cal2 hs
    refine q_callV (pc := 20) (q := 0) (As := [.int (iI 1)]) (rest := []) (rs := [.int v3]) hx hb hml hl.1 hts hown hK hSt hN hw (c_X10_fail l G (iI 1) h v3 h4 ev) rfl rfl cv_X10_87 (rm_ok hR (by decide)) rfl (Nat.le_of_ble_eq_true rfl) rfl rfl dX10_hall_20 (fun H locs hw => ?_)
    exact q_iretW hret dX10_hall_23 hw hs
  · intro K2 hK2 hs
    refine lv_if_eq (pc := 6) (tgt := 18) hx hb dX10_hall_6 (by decide) (fun hc => ?_) (fun hc => ?_)
    · replace hs := q_t hc hs
      exact hK2 hs _ _ hw _ (lv_sub hl [0] rfl)
    · replace hs := q_f hc hs
      refine lv_iload_n (pc := 9) hx hb dX10_hall_9 rfl (lv_at hl 2 rfl) ?_
      refine lv_iconst (pc := 10) (v := (iI 1)) hx hb dX10_hall_10 rfl ?_
      refine lv_iconst (pc := 11) (v := (iI 5)) hx hb dX10_hall_11 rfl ?_
      obtain ⟨v5, ev, hs⟩ := q_cal hs
      refine q_callS (pc := 12) (As := [.int a2, .int (iI 1), .int (iI 5)]) (rest := []) (rs := [.int v5]) hx hb hml hl.1 hts hown hK hSt hN hw (c_X10_within l G a2 (iI 1) (iI 5) h v5 ev) cs_X10_83 (rm_ok hR (by decide)) rfl (Nat.le_of_ble_eq_true rfl) rfl rfl dX10_hall_12 (fun H locs hw => ?_)
      refine lv_if_ne (pc := 15) (tgt := 24) hx hb dX10_hall_15 (by decide) (fun hc => ?_) (fun hc => ?_)
      · replace hs := q_t hc hs
        refine lv_aload_n (pc := 24) hx hb dX10_hall_24 rfl (lv_at hl 0 rfl) ?_
        refine q_getR (pc := 25) (q := 0) (o := 2) hx hb hts hown hK hw rfl fg_X10_16 dX10_hall_25 ?_
        refine q_getR (pc := 28) (q := 2) (o := 1) hx hb hts hown hK hw rfl fg_X10_91 dX10_hall_28 ?_
        refine lv_iload_n (pc := 31) hx hb dX10_hall_31 rfl (lv_at hl 1 rfl) ?_
        refine lv_iload_n (pc := 32) hx hb dX10_hall_32 rfl (lv_at hl 2 rfl) ?_
        obtain ⟨h6, ev, hs⟩ := q_cal hs
        refine q_callV (pc := 33) (q := 3) (As := [.int a1, .int a2]) (rest := []) (rs := []) hx hb hml hl.1 hts hown hK hSt hN hw (c_X3_clear l G 3 rfl a1 a2 h h6 ev) rfl rfl cv_X10_94 (rm_ok hR (by decide)) rfl (Nat.le_of_ble_eq_true rfl) rfl rfl dX10_hall_33 (fun H locs hw => ?_)
        refine lv_aload_n (pc := 36) hx hb dX10_hall_36 rfl (lv_at hl 0 rfl) ?_
        refine q_getR (pc := 37) (q := 0) (o := 2) hx hb hts hown hK hw rfl fg_X10_16 dX10_hall_37 ?_
        refine q_getR (pc := 40) (q := 2) (o := 1) hx hb hts hown hK hw rfl fg_X10_91 dX10_hall_40 ?_
        obtain ⟨v7, ev, hs⟩ := q_cal hs
        refine q_callV (pc := 43) (q := 3) (As := []) (rest := []) (rs := [.int v7]) hx hb hml hl.1 hts hown hK hSt hN hw (c_X3_windows l G 3 rfl h6 v7 ev) rfl rfl cv_X10_98 (rm_ok hR (by decide)) rfl (Nat.le_of_ble_eq_true rfl) rfl rfl dX10_hall_43 (fun H locs hw => ?_)
        exact q_iretW hret dX10_hall_46 hw hs
      · replace hs := q_f (fun z => z hc) hs
        exact hK2 hs _ _ hw _ (lv_sub hl [0] rfl)

set_option maxHeartbeats 4000000 in
theorem c_X10_square (l : Launch) (G : GG) (a1 : Int32) (a2 : Int32) (a3 : Int32) (h : Mem) (v : Int32) (h' : Mem) (hs : f_X10_square h a1 a2 a3 = some (v, h')) : Sat l G yX10_square cX10_square 6 (some .int) 2 [.ref (G.2.2.1 0), .int a1, .int a2, .int a3] h (some (.int v)) h' := by
  refine Sat.mkI (by decide) (Nat.le_of_ble_eq_true rfl) ?_
  intro p e R s m args below meth c Q F hret hw ls hl
  obtain ⟨hx, hb, hml, hown, hts, hK, hSt, hN, hR⟩ := F
  have hl : lv_has ls 6 [(0, .ref (G.2.2.1 0)), (1, .int a1), (2, .int a2), (3, .int a3)] := hl
  unfold f_X10_square at hs
  refine lv_aload_n (pc := 0) hx hb dX10_square_0 rfl (lv_at hl 0 rfl) ?_
  refine q_getR (pc := 1) (q := 0) (o := 2) hx hb hts hown hK hw rfl fg_X10_16 dX10_square_1 ?_
  refine q_getR (pc := 4) (q := 2) (o := 1) hx hb hts hown hK hw rfl fg_X10_91 dX10_square_4 ?_
  refine lv_astore (pc := 7) (lv' := [(4, .ref (G.2.2.1 3)), (0, .ref (G.2.2.1 0)), (1, .int a1), (2, .int a2), (3, .int a3)]) hx hb dX10_square_7 hl (by decide) rfl (fun ls hl => ?_)
  refine lv_aload (pc := 9) hx hb dX10_square_9 (lv_at hl 0 rfl) ?_
  refine lv_iload_n (pc := 11) hx hb dX10_square_11 rfl (lv_at hl 2 rfl) ?_
  obtain ⟨v1, ev, hs⟩ := q_cal hs
  refine q_callV (pc := 12) (q := 3) (As := [.int a1]) (rest := []) (rs := [.int v1]) hx hb hml hl.1 hts hown hK hSt hN hw (c_X3_hasSquare l G 3 rfl a1 h v1 ev) rfl rfl cv_X10_102 (rm_ok hR (by decide)) rfl (Nat.le_of_ble_eq_true rfl) rfl rfl dX10_square_12 (fun H locs hw => ?_)
  refine q_join0 (P0 := ∀ (H : Heap) (locs : List Loc), IW G s h H locs → ∀ ls : Array Slot, lv_has ls 6 [(0, .ref (G.2.2.1 0))] → W p l e R s m args below meth c H locs 0 0 Q (F0 m 37 ls [])) hs ?_ ?_
  · intro  hs H locs hw ls hl
    refine lv_aload_n (pc := 37) hx hb dX10_square_37 rfl (lv_at hl 0 rfl) ?_
    refine lv_iconst (pc := 38) (v := (iI 1)) hx hb dX10_square_38 rfl ?_
    obtain ⟨v3, h4, ev, hs⟩ := q_cal2 hs
    refine q_callV (pc := 39) (q := 0) (As := [.int (iI 1)]) (rest := []) (rs := [.int v3]) hx hb hml hl.1 hts hown hK hSt hN hw (c_X10_fail l G (iI 1) h v3 h4 ev) rfl rfl cv_X10_87 (rm_ok hR (by decide)) rfl (Nat.le_of_ble_eq_true rfl) rfl rfl dX10_square_39 (fun H locs hw => ?_)
    exact q_iretW hret dX10_square_42 hw hs
  · intro K2 hK2 hs
    refine lv_if_eq (pc := 15) (tgt := 37) hx hb dX10_square_15 (by decide) (fun hc => ?_) (fun hc => ?_)
    · replace hs := q_t hc hs
      exact hK2 hs _ _ hw _ (lv_sub hl [1] rfl)
    · replace hs := q_f hc hs
      refine lv_iload_n (pc := 18) hx hb dX10_square_18 rfl (lv_at hl 3 rfl) ?_
      refine lv_iconst (pc := 19) (v := (iI 0)) hx hb dX10_square_19 rfl ?_
      refine lv_bipush (pc := 20) (v := (iI 69)) hx hb dX10_square_20 (by decide) ?_
      obtain ⟨v5, ev, hs⟩ := q_cal hs
      refine q_callS (pc := 22) (As := [.int a2, .int (iI 0), .int (iI 69)]) (rest := []) (rs := [.int v5]) hx hb hml hl.1 hts hown hK hSt hN hw (c_X10_within l G a2 (iI 0) (iI 69) h v5 ev) cs_X10_83 (rm_ok hR (by decide)) rfl (Nat.le_of_ble_eq_true rfl) rfl rfl dX10_square_22 (fun H locs hw => ?_)
      refine lv_if_eq (pc := 25) (tgt := 37) hx hb dX10_square_25 (by decide) (fun hc => ?_) (fun hc => ?_)
      · replace hs := q_t hc hs
        exact hK2 hs _ _ hw _ (lv_sub hl [1] rfl)
      · replace hs := q_f hc hs
        refine lv_iload_n (pc := 28) hx hb dX10_square_28 rfl (lv_at hl 4 rfl) ?_
        refine lv_iconst (pc := 29) (v := (iI 0)) hx hb dX10_square_29 rfl ?_
        refine lv_iconst (pc := 30) (v := (iI 1)) hx hb dX10_square_30 rfl ?_
        obtain ⟨v6, ev, hs⟩ := q_cal hs
        refine q_callS (pc := 31) (As := [.int a3, .int (iI 0), .int (iI 1)]) (rest := []) (rs := [.int v6]) hx hb hml hl.1 hts hown hK hSt hN hw (c_X10_within l G a3 (iI 0) (iI 1) h v6 ev) cs_X10_83 (rm_ok hR (by decide)) rfl (Nat.le_of_ble_eq_true rfl) rfl rfl dX10_square_31 (fun H locs hw => ?_)
        refine lv_if_ne (pc := 34) (tgt := 43) hx hb dX10_square_34 (by decide) (fun hc => ?_) (fun hc => ?_)
        · replace hs := q_t hc hs
          refine lv_aload (pc := 43) hx hb dX10_square_43 (lv_at hl 0 rfl) ?_
          refine q_getR (pc := 45) (q := 3) (o := 1) hx hb hts hown hK hw rfl fg_X10_106 dX10_square_45 ?_
          refine lv_iload_n (pc := 48) hx hb dX10_square_48 rfl (lv_at hl 2 rfl) ?_
          refine q_ald (pc := 49) (q := 4) (n := 25) hx hb hK hw rfl dX10_square_49 hs (fun v7 hs => ?_)
          refine lv_istore (pc := 50) (lv' := [(5, .int v7), (4, .ref (G.2.2.1 3)), (0, .ref (G.2.2.1 0)), (1, .int a1), (2, .int a2), (3, .int a3)]) hx hb dX10_square_50 hl (by decide) rfl (fun ls hl => ?_)
          refine lv_aload (pc := 52) hx hb dX10_square_52 (lv_at hl 1 rfl) ?_
          refine lv_iload_n (pc := 54) hx hb dX10_square_54 rfl (lv_at hl 3 rfl) ?_
          refine lv_iload_n (pc := 55) hx hb dX10_square_55 rfl (lv_at hl 4 rfl) ?_
          refine lv_bipush (pc := 56) (v := (iI 10)) hx hb dX10_square_56 (by decide) ?_
          obtain ⟨hne, hs⟩ := q_nz hs
          refine lv_idiv (pc := 58) hx hb dX10_square_58 hne ?_
          refine lv_iload_n (pc := 59) hx hb dX10_square_59 rfl (lv_at hl 4 rfl) ?_
          refine lv_bipush (pc := 60) (v := (iI 10)) hx hb dX10_square_60 (by decide) ?_
          obtain ⟨hne, hs⟩ := q_nz hs
          refine q_irem (pc := 62) hx hb dX10_square_62 hne ?_
          refine lv_iload_n (pc := 63) hx hb dX10_square_63 rfl (lv_at hl 5 rfl) ?_
          obtain ⟨h8, ev, hs⟩ := q_cal hs
          refine q_callV (pc := 64) (q := 3) (As := [.int a1, .int (a2 / (iI 10)), .int (rmI a2 (iI 10)), .int a3]) (rest := []) (rs := []) hx hb hml hl.1 hts hown hK hSt hN hw (c_X3_become l G 3 rfl a1 (a2 / (iI 10)) (rmI a2 (iI 10)) a3 h h8 ev) rfl rfl cv_X10_109 (rm_ok hR (by decide)) rfl (Nat.le_of_ble_eq_true rfl) rfl rfl dX10_square_64 (fun H locs hw => ?_)
          refine lv_iload (pc := 67) hx hb dX10_square_67 (lv_at hl 0 rfl) ?_
          exact q_iretW hret dX10_square_69 hw hs
        · replace hs := q_f (fun z => z hc) hs
          exact hK2 hs _ _ hw _ (lv_sub hl [1] rfl)

set_option maxHeartbeats 4000000 in
theorem c_X10_as (l : Launch) (G : GG) (a1 : Int32) (a2 : Int32) (h : Mem) (v : Int32) (h' : Mem) (hs : f_X10_as h a1 a2 = some (v, h')) : Sat l G yX10_as cX10_as 4 (some .int) 3 [.ref (G.2.2.1 0), .int a1, .int a2] h (some (.int v)) h' := by
  refine Sat.mkI (by decide) (Nat.le_of_ble_eq_true rfl) ?_
  intro p e R s m args below meth c Q F hret hw ls hl
  obtain ⟨hx, hb, hml, hown, hts, hK, hSt, hN, hR⟩ := F
  have hl : lv_has ls 4 [(0, .ref (G.2.2.1 0)), (1, .int a1), (2, .int a2)] := hl
  unfold f_X10_as at hs
  refine lv_aload_n (pc := 0) hx hb dX10_as_0 rfl (lv_at hl 0 rfl) ?_
  refine q_getR (pc := 1) (q := 0) (o := 2) hx hb hts hown hK hw rfl fg_X10_16 dX10_as_1 ?_
  refine q_getR (pc := 4) (q := 2) (o := 1) hx hb hts hown hK hw rfl fg_X10_91 dX10_as_4 ?_
  refine lv_astore_n (pc := 7) (lv' := [(3, .ref (G.2.2.1 3)), (0, .ref (G.2.2.1 0)), (1, .int a1), (2, .int a2)]) hx hb dX10_as_7 rfl hl (by decide) rfl (fun ls hl => ?_)
  refine lv_aload_n (pc := 8) hx hb dX10_as_8 rfl (lv_at hl 0 rfl) ?_
  refine lv_iload_n (pc := 9) hx hb dX10_as_9 rfl (lv_at hl 2 rfl) ?_
  obtain ⟨v1, ev, hs⟩ := q_cal hs
  refine q_callV (pc := 10) (q := 3) (As := [.int a1]) (rest := []) (rs := [.int v1]) hx hb hml hl.1 hts hown hK hSt hN hw (c_X3_hasSquare l G 3 rfl a1 h v1 ev) rfl rfl cv_X10_102 (rm_ok hR (by decide)) rfl (Nat.le_of_ble_eq_true rfl) rfl rfl dX10_as_10 (fun H locs hw => ?_)
  refine q_join0 (P0 := ∀ (H : Heap) (locs : List Loc), IW G s h H locs → ∀ ls : Array Slot, lv_has ls 4 [(0, .ref (G.2.2.1 0))] → W p l e R s m args below meth c H locs 0 0 Q (F0 m 26 ls [])) hs ?_ ?_
  · intro  hs H locs hw ls hl
    refine lv_aload_n (pc := 26) hx hb dX10_as_26 rfl (lv_at hl 0 rfl) ?_
    refine lv_iconst (pc := 27) (v := (iI 1)) hx hb dX10_as_27 rfl ?_
    obtain ⟨v3, h4, ev, hs⟩ := q_cal2 hs
    refine q_callV (pc := 28) (q := 0) (As := [.int (iI 1)]) (rest := []) (rs := [.int v3]) hx hb hml hl.1 hts hown hK hSt hN hw (c_X10_fail l G (iI 1) h v3 h4 ev) rfl rfl cv_X10_87 (rm_ok hR (by decide)) rfl (Nat.le_of_ble_eq_true rfl) rfl rfl dX10_as_28 (fun H locs hw => ?_)
    exact q_iretW hret dX10_as_31 hw hs
  · intro K2 hK2 hs
    refine lv_if_eq (pc := 13) (tgt := 26) hx hb dX10_as_13 (by decide) (fun hc => ?_) (fun hc => ?_)
    · replace hs := q_t hc hs
      exact hK2 hs _ _ hw _ (lv_sub hl [1] rfl)
    · replace hs := q_f hc hs
      refine lv_iload_n (pc := 16) hx hb dX10_as_16 rfl (lv_at hl 3 rfl) ?_
      refine lv_iconst (pc := 17) (v := (iI 0)) hx hb dX10_as_17 rfl ?_
      refine lv_bipush (pc := 18) (v := (iI 6)) hx hb dX10_as_18 (by decide) ?_
      obtain ⟨v5, ev, hs⟩ := q_cal hs
      refine q_callS (pc := 20) (As := [.int a2, .int (iI 0), .int (iI 6)]) (rest := []) (rs := [.int v5]) hx hb hml hl.1 hts hown hK hSt hN hw (c_X10_within l G a2 (iI 0) (iI 6) h v5 ev) cs_X10_83 (rm_ok hR (by decide)) rfl (Nat.le_of_ble_eq_true rfl) rfl rfl dX10_as_20 (fun H locs hw => ?_)
      refine lv_if_ne (pc := 23) (tgt := 32) hx hb dX10_as_23 (by decide) (fun hc => ?_) (fun hc => ?_)
      · replace hs := q_t hc hs
        refine lv_aload_n (pc := 32) hx hb dX10_as_32 rfl (lv_at hl 0 rfl) ?_
        refine q_getR (pc := 33) (q := 3) (o := 1) hx hb hts hown hK hw rfl fg_X10_106 dX10_as_33 ?_
        refine lv_iload_n (pc := 36) hx hb dX10_as_36 rfl (lv_at hl 2 rfl) ?_
        refine q_ald (pc := 37) (q := 4) (n := 25) hx hb hK hw rfl dX10_as_37 hs (fun v6 hs => ?_)
        refine lv_iload_n (pc := 38) hx hb dX10_as_38 rfl (lv_at hl 3 rfl) ?_
        obtain ⟨v7, ev, hs⟩ := q_cal hs
        refine q_callS (pc := 39) (As := [.int v6, .int a2]) (rest := []) (rs := [.int v7]) hx hb hml hl.1 hts hown hK hSt hN hw (c_X3_isOf l G v6 a2 h v7 ev) cs_X10_137 (rm_ok hR (by decide)) rfl (Nat.le_of_ble_eq_true rfl) rfl rfl dX10_as_39 (fun H locs hw => ?_)
        refine lv_if_eq (pc := 42) (tgt := 54) hx hb dX10_as_42 (by decide) (fun hc => ?_) (fun hc => ?_)
        · replace hs := q_t hc hs
          refine lv_aload_n (pc := 54) hx hb dX10_as_54 rfl (lv_at hl 1 rfl) ?_
          refine lv_iconst (pc := 55) (v := (iI 5)) hx hb dX10_as_55 rfl ?_
          obtain ⟨v8, h9, ev, hs⟩ := q_cal2 hs
          refine q_callV (pc := 56) (q := 0) (As := [.int (iI 5)]) (rest := []) (rs := [.int v8]) hx hb hml hl.1 hts hown hK hSt hN hw (c_X10_fail l G (iI 5) h v8 h9 ev) rfl rfl cv_X10_87 (rm_ok hR (by decide)) rfl (Nat.le_of_ble_eq_true rfl) rfl rfl dX10_as_56 (fun H locs hw => ?_)
          exact q_iretW hret dX10_as_59 hw hs
        · replace hs := q_f hc hs
          refine lv_aload_n (pc := 45) hx hb dX10_as_45 rfl (lv_at hl 0 rfl) ?_
          refine q_getR (pc := 46) (q := 3) (o := 2) hx hb hts hown hK hw rfl fg_X10_113 dX10_as_46 ?_
          refine lv_iload_n (pc := 49) hx hb dX10_as_49 rfl (lv_at hl 2 rfl) ?_
          refine q_ald (pc := 50) (q := 5) (n := 25) hx hb hK hw rfl dX10_as_50 hs (fun v10 hs => ?_)
          refine lv_goto (pc := 51) (tgt := 59) hx hb dX10_as_51 (by decide) ?_
          exact q_iretW hret dX10_as_59 hw hs
      · replace hs := q_f (fun z => z hc) hs
        exact hK2 hs _ _ hw _ (lv_sub hl [1] rfl)

set_option maxHeartbeats 4000000 in
theorem c_X10_feed (l : Launch) (G : GG) (a1 : Int64) (a2 : Int32) (h : Mem) (v : Int32) (h' : Mem) (hs : f_X10_feed h a1 a2 = some (v, h')) : Sat l G yX10_feed cX10_feed 4 (some .int) 2 [.ref (G.2.2.1 0), .long a1, .int a2] h (some (.int v)) h' := by
  refine Sat.mkI (by decide) (Nat.le_of_ble_eq_true rfl) ?_
  intro p e R s m args below meth c Q F hret hw ls hl
  obtain ⟨hx, hb, hml, hown, hts, hK, hSt, hN, hR⟩ := F
  have hl : lv_has ls 4 [(0, .ref (G.2.2.1 0)), (1, .long a1), (3, .int a2)] := hl
  unfold f_X10_feed at hs
  refine lv_iload_n (pc := 0) hx hb dX10_feed_0 rfl (lv_at hl 2 rfl) ?_
  refine lv_iconst (pc := 1) (v := (iI 1)) hx hb dX10_feed_1 rfl ?_
  refine lv_bipush (pc := 2) (v := (iI 8)) hx hb dX10_feed_2 (by decide) ?_
  obtain ⟨v1, ev, hs⟩ := q_cal hs
  refine q_callS (pc := 4) (As := [.int a2, .int (iI 1), .int (iI 8)]) (rest := []) (rs := [.int v1]) hx hb hml hl.1 hts hown hK hSt hN hw (c_X10_within l G a2 (iI 1) (iI 8) h v1 ev) cs_X10_83 (rm_ok hR (by decide)) rfl (Nat.le_of_ble_eq_true rfl) rfl rfl dX10_feed_4 (fun H locs hw => ?_)
  refine lv_if_ne (pc := 7) (tgt := 16) hx hb dX10_feed_7 (by decide) (fun hc => ?_) (fun hc => ?_)
  · replace hs := q_t hc hs
    refine lv_aload_n (pc := 16) hx hb dX10_feed_16 rfl (lv_at hl 0 rfl) ?_
    refine q_getR (pc := 17) (q := 0) (o := 2) hx hb hts hown hK hw rfl fg_X10_16 dX10_feed_17 ?_
    refine lv_lload_n (pc := 20) hx hb dX10_feed_20 rfl (lv_at hl 1 rfl) ?_
    refine lv_iload_n (pc := 21) hx hb dX10_feed_21 rfl (lv_at hl 2 rfl) ?_
    obtain ⟨v2, h3, ev, hs⟩ := q_cal2 hs
    refine q_callV (pc := 22) (q := 2) (As := [.long a1, .int a2]) (rest := []) (rs := [.int v2]) hx hb hml hl.1 hts hown hK hSt hN hw (c_X9_feedBytes l G 2 rfl a1 a2 h v2 h3 ev) rfl rfl cv_X10_180 (rm_ok hR (by decide)) rfl (Nat.le_of_ble_eq_true rfl) rfl rfl dX10_feed_22 (fun H locs hw => ?_)
    refine lv_if_eq (pc := 25) (tgt := 38) hx hb dX10_feed_25 (by decide) (fun hc => ?_) (fun hc => ?_)
    · replace hs := q_t hc hs
      refine lv_aload_n (pc := 38) hx hb dX10_feed_38 rfl (lv_at hl 0 rfl) ?_
      refine lv_iconst (pc := 39) (v := (iI 4)) hx hb dX10_feed_39 rfl ?_
      obtain ⟨v4, h5, ev, hs⟩ := q_cal2 hs
      refine q_callV (pc := 40) (q := 0) (As := [.int (iI 4)]) (rest := []) (rs := [.int v4]) hx hb hml hl.1 hts hown hK hSt hN hw (c_X10_fail l G (iI 4) h3 v4 h5 ev) rfl rfl cv_X10_87 (rm_ok hR (by decide)) rfl (Nat.le_of_ble_eq_true rfl) rfl rfl dX10_feed_40 (fun H locs hw => ?_)
      exact q_iretW hret dX10_feed_43 hw hs
    · replace hs := q_f hc hs
      refine lv_aload_n (pc := 28) hx hb dX10_feed_28 rfl (lv_at hl 0 rfl) ?_
      refine q_getR (pc := 29) (q := 0) (o := 2) hx hb hts hown hK hw rfl fg_X10_16 dX10_feed_29 ?_
      refine q_getI (pc := 32) (q := 2) hx hb hts hown hK hw rfl fg_X10_184 dX10_feed_32 ?_
      refine lv_goto (pc := 35) (tgt := 43) hx hb dX10_feed_35 (by decide) ?_
      exact q_iretW hret dX10_feed_43 hw hs
  · replace hs := q_f (fun z => z hc) hs
    refine lv_aload_n (pc := 10) hx hb dX10_feed_10 rfl (lv_at hl 0 rfl) ?_
    refine lv_iconst (pc := 11) (v := (iI 1)) hx hb dX10_feed_11 rfl ?_
    obtain ⟨v6, h7, ev, hs⟩ := q_cal2 hs
    refine q_callV (pc := 12) (q := 0) (As := [.int (iI 1)]) (rest := []) (rs := [.int v6]) hx hb hml hl.1 hts hown hK hSt hN hw (c_X10_fail l G (iI 1) h v6 h7 ev) rfl rfl cv_X10_87 (rm_ok hR (by decide)) rfl (Nat.le_of_ble_eq_true rfl) rfl rfl dX10_feed_12 (fun H locs hw => ?_)
    exact q_iretW hret dX10_feed_15 hw hs

set_option maxHeartbeats 4000000 in
theorem c_X10_trace (l : Launch) (G : GG) (a1 : Int32) (h : Mem) (v : Int32) (h' : Mem) (hs : f_X10_trace h a1 = some (v, h')) : Sat l G yX10_trace cX10_trace 2 (some .int) 2 [.ref (G.2.2.1 0), .int a1] h (some (.int v)) h' := by
  refine Sat.mkI (by decide) (Nat.le_of_ble_eq_true rfl) ?_
  intro p e R s m args below meth c Q F hret hw ls hl
  obtain ⟨hx, hb, hml, hown, hts, hK, hSt, hN, hR⟩ := F
  have hl : lv_has ls 2 [(0, .ref (G.2.2.1 0)), (1, .int a1)] := hl
  unfold f_X10_trace at hs
  refine lv_iload_n (pc := 0) hx hb dX10_trace_0 rfl (lv_at hl 1 rfl) ?_
  refine lv_iconst (pc := 1) (v := (iI 0)) hx hb dX10_trace_1 rfl ?_
  refine lv_aload_n (pc := 2) hx hb dX10_trace_2 rfl (lv_at hl 0 rfl) ?_
  refine q_getR (pc := 3) (q := 0) (o := 37) hx hb hts hown hK hw rfl fg_X10_57 dX10_trace_3 ?_
  refine q_getI (pc := 6) (q := 37) hx hb hts hown hK hw rfl fg_X10_308 dX10_trace_6 ?_
  refine lv_iconst (pc := 9) (v := (iI 1)) hx hb dX10_trace_9 rfl ?_
  refine lv_isub (pc := 10) hx hb dX10_trace_10 ?_
  obtain ⟨v1, ev, hs⟩ := q_cal hs
  refine q_callS (pc := 11) (As := [.int a1, .int (iI 0), .int ((gI h 37 1) - (iI 1))]) (rest := []) (rs := [.int v1]) hx hb hml hl.1 hts hown hK hSt hN hw (c_X10_within l G a1 (iI 0) ((gI h 37 1) - (iI 1)) h v1 ev) cs_X10_83 (rm_ok hR (by decide)) rfl (Nat.le_of_ble_eq_true rfl) rfl rfl dX10_trace_11 (fun H locs hw => ?_)
  refine lv_if_eq (pc := 14) (tgt := 29) hx hb dX10_trace_14 (by decide) (fun hc => ?_) (fun hc => ?_)
  · replace hs := q_t hc hs
    refine lv_aload_n (pc := 29) hx hb dX10_trace_29 rfl (lv_at hl 0 rfl) ?_
    refine lv_iconst (pc := 30) (v := (iI 2)) hx hb dX10_trace_30 rfl ?_
    obtain ⟨v2, h3, ev, hs⟩ := q_cal2 hs
    refine q_callV (pc := 31) (q := 0) (As := [.int (iI 2)]) (rest := []) (rs := [.int v2]) hx hb hml hl.1 hts hown hK hSt hN hw (c_X10_fail l G (iI 2) h v2 h3 ev) rfl rfl cv_X10_87 (rm_ok hR (by decide)) rfl (Nat.le_of_ble_eq_true rfl) rfl rfl dX10_trace_31 (fun H locs hw => ?_)
    exact q_iretW hret dX10_trace_34 hw hs
  · replace hs := q_f hc hs
    refine lv_aload_n (pc := 17) hx hb dX10_trace_17 rfl (lv_at hl 0 rfl) ?_
    refine q_getR (pc := 18) (q := 0) (o := 37) hx hb hts hown hK hw rfl fg_X10_57 dX10_trace_18 ?_
    refine q_getR (pc := 21) (q := 37) (o := 1) hx hb hts hown hK hw rfl fg_X10_311 dX10_trace_21 ?_
    refine lv_iload_n (pc := 24) hx hb dX10_trace_24 rfl (lv_at hl 1 rfl) ?_
    refine q_ald (pc := 25) (q := 38) (n := 40) hx hb hK hw rfl dX10_trace_25 hs (fun v4 hs => ?_)
    refine lv_goto (pc := 26) (tgt := 34) hx hb dX10_trace_26 (by decide) ?_
    exact q_iretW hret dX10_trace_34 hw hs

set_option maxHeartbeats 4000000 in
theorem c_X10_sheet (l : Launch) (G : GG) (a1 : Int32) (a2 : Int32) (a3 : Int32) (h : Mem) (v : Int32) (h' : Mem) (hs : f_X10_sheet h a1 a2 a3 = some (v, h')) : Sat l G yX10_sheet cX10_sheet 4 (some .int) 2 [.ref (G.2.2.1 0), .int a1, .int a2, .int a3] h (some (.int v)) h' := by
  refine Sat.mkI (by decide) (Nat.le_of_ble_eq_true rfl) ?_
  intro p e R s m args below meth c Q F hret hw ls hl
  obtain ⟨hx, hb, hml, hown, hts, hK, hSt, hN, hR⟩ := F
  have hl : lv_has ls 4 [(0, .ref (G.2.2.1 0)), (1, .int a1), (2, .int a2), (3, .int a3)] := hl
  unfold f_X10_sheet at hs
  refine lv_iload_n (pc := 0) hx hb dX10_sheet_0 rfl (lv_at hl 1 rfl) ?_
  obtain ⟨v1, ev, hs⟩ := q_cal hs
  refine q_callS (pc := 1) (As := [.int a1]) (rest := []) (rs := [.int v1]) hx hb hml hl.1 hts hown hK hSt hN hw (c_X10_hasSheet l G a1 h v1 ev) cs_X10_261 (rm_ok hR (by decide)) rfl (Nat.le_of_ble_eq_true rfl) rfl rfl dX10_sheet_1 (fun H locs hw => ?_)
  refine q_join0 (P0 := ∀ (H : Heap) (locs : List Loc), IW G s h H locs → ∀ ls : Array Slot, lv_has ls 4 [(0, .ref (G.2.2.1 0))] → W p l e R s m args below meth c H locs 0 0 Q (F0 m 14 ls [])) hs ?_ ?_
  · intro  hs H locs hw ls hl
    refine lv_aload_n (pc := 14) hx hb dX10_sheet_14 rfl (lv_at hl 0 rfl) ?_
    refine lv_iconst (pc := 15) (v := (iI 1)) hx hb dX10_sheet_15 rfl ?_
    obtain ⟨v3, h4, ev, hs⟩ := q_cal2 hs
    refine q_callV (pc := 16) (q := 0) (As := [.int (iI 1)]) (rest := []) (rs := [.int v3]) hx hb hml hl.1 hts hown hK hSt hN hw (c_X10_fail l G (iI 1) h v3 h4 ev) rfl rfl cv_X10_87 (rm_ok hR (by decide)) rfl (Nat.le_of_ble_eq_true rfl) rfl rfl dX10_sheet_16 (fun H locs hw => ?_)
    exact q_iretW hret dX10_sheet_19 hw hs
  · intro K2 hK2 hs
    refine lv_if_eq (pc := 4) (tgt := 14) hx hb dX10_sheet_4 (by decide) (fun hc => ?_) (fun hc => ?_)
    · replace hs := q_t hc hs
      exact hK2 hs _ _ hw _ (lv_sub hl [0] rfl)
    · replace hs := q_f hc hs
      refine lv_iload_n (pc := 7) hx hb dX10_sheet_7 rfl (lv_at hl 2 rfl) ?_
      obtain ⟨v5, ev, hs⟩ := q_cal hs
      refine q_callS (pc := 8) (As := [.int a2]) (rest := []) (rs := [.int v5]) hx hb hml hl.1 hts hown hK hSt hN hw (c_X7_canHave l G a2 h v5 ev) cs_X10_314 (rm_ok hR (by decide)) rfl (Nat.le_of_ble_eq_true rfl) rfl rfl dX10_sheet_8 (fun H locs hw => ?_)
      refine lv_if_ne (pc := 11) (tgt := 20) hx hb dX10_sheet_11 (by decide) (fun hc => ?_) (fun hc => ?_)
      · replace hs := q_t hc hs
        refine lv_iload_n (pc := 20) hx hb dX10_sheet_20 rfl (lv_at hl 2 rfl) ?_
        refine lv_if_ne (pc := 21) (tgt := 35) hx hb dX10_sheet_21 (by decide) (fun hc => ?_) (fun hc => ?_)
        · replace hs := q_t hc hs
          refine lv_iload_n (pc := 35) hx hb dX10_sheet_35 rfl (lv_at hl 3 rfl) ?_
          refine lv_if_ge (pc := 36) (tgt := 45) hx hb dX10_sheet_36 (by decide) (fun hc => ?_) (fun hc => ?_)
          · replace hs := q_t hc hs
            refine lv_iload_n (pc := 45) hx hb dX10_sheet_45 rfl (lv_at hl 3 rfl) ?_
            refine lv_bipush (pc := 46) (v := (iI 40)) hx hb dX10_sheet_46 (by decide) ?_
            refine lv_icmp_le (pc := 48) (tgt := 57) hx hb dX10_sheet_48 (by decide) (fun hc => ?_) (fun hc => ?_)
            · replace hs := q_t hc hs
              refine lv_aload_n (pc := 57) hx hb dX10_sheet_57 rfl (lv_at hl 0 rfl) ?_
              refine q_getR (pc := 58) (q := 0) (o := 28) hx hb hts hown hK hw rfl fg_X10_29 dX10_sheet_58 ?_
              refine lv_iload_n (pc := 61) hx hb dX10_sheet_61 rfl (lv_at hl 1 rfl) ?_
              refine q_aald (pc := 62) (q := 28) (n := 4) hx hb hK hw rfl dX10_sheet_62 hs (fun j6 hj6 hs => ?_)
              refine lv_iload_n (pc := 63) hx hb dX10_sheet_63 rfl (lv_at hl 2 rfl) ?_
              refine lv_iload_n (pc := 64) hx hb dX10_sheet_64 rfl (lv_at hl 3 rfl) ?_
              obtain ⟨h7, ev, hs⟩ := q_cal hs
              refine q_callV (pc := 65) (q := (64 + 2 * j6)) (As := [.int a2, .int a3]) (rest := []) (rs := []) hx hb hml hl.1 hts hown hK hSt hN hw (c_X7_clear l G (64 + 2 * j6) (lay_sheet _ hj6) a2 a3 h h7 ev) (lay_sheet _ hj6) rfl cv_X10_320 (rm_ok hR (by decide)) rfl (Nat.le_of_ble_eq_true rfl) rfl rfl dX10_sheet_65 (fun H locs hw => ?_)
              refine lv_iconst (pc := 68) (v := (iI 1)) hx hb dX10_sheet_68 rfl ?_
              exact q_iretW hret dX10_sheet_69 hw hs
            · replace hs := q_f hc hs
              refine lv_aload_n (pc := 51) hx hb dX10_sheet_51 rfl (lv_at hl 0 rfl) ?_
              refine lv_iconst (pc := 52) (v := (iI 1)) hx hb dX10_sheet_52 rfl ?_
              obtain ⟨v8, h9, ev, hs⟩ := q_cal2 hs
              refine q_callV (pc := 53) (q := 0) (As := [.int (iI 1)]) (rest := []) (rs := [.int v8]) hx hb hml hl.1 hts hown hK hSt hN hw (c_X10_fail l G (iI 1) h v8 h9 ev) rfl rfl cv_X10_87 (rm_ok hR (by decide)) rfl (Nat.le_of_ble_eq_true rfl) rfl rfl dX10_sheet_53 (fun H locs hw => ?_)
              exact q_iretW hret dX10_sheet_56 hw hs
          · replace hs := q_f hc hs
            refine lv_aload_n (pc := 39) hx hb dX10_sheet_39 rfl (lv_at hl 0 rfl) ?_
            refine lv_iconst (pc := 40) (v := (iI 3)) hx hb dX10_sheet_40 rfl ?_
            obtain ⟨v10, h11, ev, hs⟩ := q_cal2 hs
            refine q_callV (pc := 41) (q := 0) (As := [.int (iI 3)]) (rest := []) (rs := [.int v10]) hx hb hml hl.1 hts hown hK hSt hN hw (c_X10_fail l G (iI 3) h v10 h11 ev) rfl rfl cv_X10_87 (rm_ok hR (by decide)) rfl (Nat.le_of_ble_eq_true rfl) rfl rfl dX10_sheet_41 (fun H locs hw => ?_)
            exact q_iretW hret dX10_sheet_44 hw hs
        · replace hs := q_f (fun z => z hc) hs
          refine lv_aload_n (pc := 24) hx hb dX10_sheet_24 rfl (lv_at hl 0 rfl) ?_
          refine q_getR (pc := 25) (q := 0) (o := 28) hx hb hts hown hK hw rfl fg_X10_29 dX10_sheet_25 ?_
          refine lv_iload_n (pc := 28) hx hb dX10_sheet_28 rfl (lv_at hl 1 rfl) ?_
          refine q_aald (pc := 29) (q := 28) (n := 4) hx hb hK hw rfl dX10_sheet_29 hs (fun j12 hj12 hs => ?_)
          obtain ⟨h13, ev, hs⟩ := q_cal hs
          refine q_callV (pc := 30) (q := (64 + 2 * j12)) (As := []) (rest := []) (rs := []) hx hb hml hl.1 hts hown hK hSt hN hw (c_X7_lose l G (64 + 2 * j12) (lay_sheet _ hj12) h h13 ev) (lay_sheet _ hj12) rfl cv_X10_317 (rm_ok hR (by decide)) rfl (Nat.le_of_ble_eq_true rfl) rfl rfl dX10_sheet_30 (fun H locs hw => ?_)
          refine lv_iconst (pc := 33) (v := (iI 1)) hx hb dX10_sheet_33 rfl ?_
          exact q_iretW hret dX10_sheet_34 hw hs
      · replace hs := q_f (fun z => z hc) hs
        exact hK2 hs _ _ hw _ (lv_sub hl [0] rfl)

set_option maxHeartbeats 4000000 in
theorem c_X10_put (l : Launch) (G : GG) (a1 : Int32) (a2 : Int32) (a3 : Int32) (h : Mem) (v : Int32) (h' : Mem) (hs : f_X10_put h a1 a2 a3 = some (v, h')) : Sat l G yX10_put cX10_put 5 (some .int) 2 [.ref (G.2.2.1 0), .int a1, .int a2, .int a3] h (some (.int v)) h' := by
  refine Sat.mkI (by decide) (Nat.le_of_ble_eq_true rfl) ?_
  intro p e R s m args below meth c Q F hret hw ls hl
  obtain ⟨hx, hb, hml, hown, hts, hK, hSt, hN, hR⟩ := F
  have hl : lv_has ls 5 [(0, .ref (G.2.2.1 0)), (1, .int a1), (2, .int a2), (3, .int a3)] := hl
  unfold f_X10_put at hs
  refine lv_iload_n (pc := 0) hx hb dX10_put_0 rfl (lv_at hl 1 rfl) ?_
  obtain ⟨v1, ev, hs⟩ := q_cal hs
  refine q_callS (pc := 1) (As := [.int a1]) (rest := []) (rs := [.int v1]) hx hb hml hl.1 hts hown hK hSt hN hw (c_X10_hasSheet l G a1 h v1 ev) cs_X10_261 (rm_ok hR (by decide)) rfl (Nat.le_of_ble_eq_true rfl) rfl rfl dX10_put_1 (fun H locs hw => ?_)
  refine lv_if_ne (pc := 4) (tgt := 13) hx hb dX10_put_4 (by decide) (fun hc => ?_) (fun hc => ?_)
  · replace hs := q_t hc hs
    refine lv_aload_n (pc := 13) hx hb dX10_put_13 rfl (lv_at hl 0 rfl) ?_
    refine q_getR (pc := 14) (q := 0) (o := 28) hx hb hts hown hK hw rfl fg_X10_29 dX10_put_14 ?_
    refine lv_iload_n (pc := 17) hx hb dX10_put_17 rfl (lv_at hl 1 rfl) ?_
    refine q_aald (pc := 18) (q := 28) (n := 4) hx hb hK hw rfl dX10_put_18 hs (fun j2 hj2 hs => ?_)
    refine lv_astore (pc := 19) (lv' := [(4, .ref (G.2.2.1 (64 + 2 * j2))), (0, .ref (G.2.2.1 0)), (1, .int a1), (2, .int a2), (3, .int a3)]) hx hb dX10_put_19 hl (by decide) rfl (fun ls hl => ?_)
    refine lv_aload (pc := 21) hx hb dX10_put_21 (lv_at hl 0 rfl) ?_
    obtain ⟨v3, ev, hs⟩ := q_cal hs
    refine q_callV (pc := 23) (q := (64 + 2 * j2)) (As := []) (rest := []) (rs := [.int v3]) hx hb hml hl.1 hts hown hK hSt hN hw (c_X7_isMissing l G (64 + 2 * j2) (lay_sheet _ hj2) h v3 ev) (lay_sheet _ hj2) rfl cv_X10_321 (rm_ok hR (by decide)) rfl (Nat.le_of_ble_eq_true rfl) rfl rfl dX10_put_23 (fun H locs hw => ?_)
    refine lv_if_eq (pc := 26) (tgt := 35) hx hb dX10_put_26 (by decide) (fun hc => ?_) (fun hc => ?_)
    · replace hs := q_t hc hs
      refine lv_iload_n (pc := 35) hx hb dX10_put_35 rfl (lv_at hl 3 rfl) ?_
      refine lv_iconst (pc := 36) (v := (iI 0)) hx hb dX10_put_36 rfl ?_
      refine lv_aload (pc := 37) hx hb dX10_put_37 (lv_at hl 0 rfl) ?_
      refine q_getI (pc := 39) (q := (64 + 2 * j2)) hx hb hts hown hK hw (lay_sheet _ hj2) fg_X10_325 dX10_put_39 ?_
      refine lv_iconst (pc := 42) (v := (iI 1)) hx hb dX10_put_42 rfl ?_
      refine lv_isub (pc := 43) hx hb dX10_put_43 ?_
      obtain ⟨v4, ev, hs⟩ := q_cal hs
      refine q_callS (pc := 44) (As := [.int a2, .int (iI 0), .int ((gI h (64 + 2 * j2) 1) - (iI 1))]) (rest := []) (rs := [.int v4]) hx hb hml hl.1 hts hown hK hSt hN hw (c_X10_within l G a2 (iI 0) ((gI h (64 + 2 * j2) 1) - (iI 1)) h v4 ev) cs_X10_83 (rm_ok hR (by decide)) rfl (Nat.le_of_ble_eq_true rfl) rfl rfl dX10_put_44 (fun H locs hw => ?_)
      refine lv_if_ne (pc := 47) (tgt := 56) hx hb dX10_put_47 (by decide) (fun hc => ?_) (fun hc => ?_)
      · replace hs := q_t hc hs
        refine lv_aload (pc := 56) hx hb dX10_put_56 (lv_at hl 0 rfl) ?_
        refine lv_iload_n (pc := 58) hx hb dX10_put_58 rfl (lv_at hl 3 rfl) ?_
        refine lv_iload_n (pc := 59) hx hb dX10_put_59 rfl (lv_at hl 4 rfl) ?_
        obtain ⟨h5, ev, hs⟩ := q_cal hs
        refine q_callV (pc := 60) (q := (64 + 2 * j2)) (As := [.int a2, .int a3]) (rest := []) (rs := []) hx hb hml hl.1 hts hown hK hSt hN hw (c_X7_write l G (64 + 2 * j2) (lay_sheet _ hj2) a2 a3 h h5 ev) (lay_sheet _ hj2) rfl cv_X10_328 (rm_ok hR (by decide)) rfl (Nat.le_of_ble_eq_true rfl) rfl rfl dX10_put_60 (fun H locs hw => ?_)
        refine lv_iconst (pc := 63) (v := (iI 1)) hx hb dX10_put_63 rfl ?_
        exact q_iretW hret dX10_put_64 hw hs
      · replace hs := q_f (fun z => z hc) hs
        refine lv_aload_n (pc := 50) hx hb dX10_put_50 rfl (lv_at hl 1 rfl) ?_
        refine lv_iconst (pc := 51) (v := (iI 1)) hx hb dX10_put_51 rfl ?_
        obtain ⟨v6, h7, ev, hs⟩ := q_cal2 hs
        refine q_callV (pc := 52) (q := 0) (As := [.int (iI 1)]) (rest := []) (rs := [.int v6]) hx hb hml hl.1 hts hown hK hSt hN hw (c_X10_fail l G (iI 1) h v6 h7 ev) rfl rfl cv_X10_87 (rm_ok hR (by decide)) rfl (Nat.le_of_ble_eq_true rfl) rfl rfl dX10_put_52 (fun H locs hw => ?_)
        exact q_iretW hret dX10_put_55 hw hs
    · replace hs := q_f hc hs
      refine lv_aload_n (pc := 29) hx hb dX10_put_29 rfl (lv_at hl 1 rfl) ?_
      refine lv_iconst (pc := 30) (v := (iI 2)) hx hb dX10_put_30 rfl ?_
      obtain ⟨v8, h9, ev, hs⟩ := q_cal2 hs
      refine q_callV (pc := 31) (q := 0) (As := [.int (iI 2)]) (rest := []) (rs := [.int v8]) hx hb hml hl.1 hts hown hK hSt hN hw (c_X10_fail l G (iI 2) h v8 h9 ev) rfl rfl cv_X10_87 (rm_ok hR (by decide)) rfl (Nat.le_of_ble_eq_true rfl) rfl rfl dX10_put_31 (fun H locs hw => ?_)
      exact q_iretW hret dX10_put_34 hw hs
  · replace hs := q_f (fun z => z hc) hs
    refine lv_aload_n (pc := 7) hx hb dX10_put_7 rfl (lv_at hl 0 rfl) ?_
    refine lv_iconst (pc := 8) (v := (iI 1)) hx hb dX10_put_8 rfl ?_
    obtain ⟨v10, h11, ev, hs⟩ := q_cal2 hs
    refine q_callV (pc := 9) (q := 0) (As := [.int (iI 1)]) (rest := []) (rs := [.int v10]) hx hb hml hl.1 hts hown hK hSt hN hw (c_X10_fail l G (iI 1) h v10 h11 ev) rfl rfl cv_X10_87 (rm_ok hR (by decide)) rfl (Nat.le_of_ble_eq_true rfl) rfl rfl dX10_put_9 (fun H locs hw => ?_)
    exact q_iretW hret dX10_put_12 hw hs

set_option maxHeartbeats 4000000 in
set_option maxRecDepth 100000 in
theorem c_X10_move (l : Launch) (G : GG) (a1 : Int32) (a2 : Int32) (a3 : Int32) (a4 : Int32) (a5 : Int32) (h : Mem) (v : Int32) (h' : Mem) (hs : f_X10_move h a1 a2 a3 a4 a5 = some (v, h')) : Sat l G yX10_move cX10_move 8 (some .int) 2 [.ref (G.2.2.1 0), .int a1, .int a2, .int a3, .int a4, .int a5] h (some (.int v)) h' := by
  refine Sat.mkI (by decide) (Nat.le_of_ble_eq_true rfl) ?_
  intro p e R s m args below meth c Q F hret hw ls hl
  obtain ⟨hx, hb, hml, hown, hts, hK, hSt, hN, hR⟩ := F
  have hl : lv_has ls 8 [(0, .ref (G.2.2.1 0)), (1, .int a1), (2, .int a2), (3, .int a3), (4, .int a4), (5, .int a5)] := hl
  unfold f_X10_move at hs
  refine lv_iload_n (pc := 0) hx hb dX10_move_0 rfl (lv_at hl 1 rfl) ?_
  obtain ⟨v1, ev, hs⟩ := q_cal hs
  refine q_callS (pc := 1) (As := [.int a1]) (rest := []) (rs := [.int v1]) hx hb hml hl.1 hts hown hK hSt hN hw (c_X10_hasSheet l G a1 h v1 ev) cs_X10_261 (rm_ok hR (by decide)) rfl (Nat.le_of_ble_eq_true rfl) rfl rfl dX10_move_1 (fun H locs hw => ?_)
  refine q_join0 (P0 := ∀ (H : Heap) (locs : List Loc), IW G s h H locs → ∀ ls : Array Slot, lv_has ls 8 [(0, .ref (G.2.2.1 0))] → W p l e R s m args below meth c H locs 0 0 Q (F0 m 14 ls [])) hs ?_ ?_
  · intro  hs H locs hw ls hl
    refine lv_aload_n (pc := 14) hx hb dX10_move_14 rfl (lv_at hl 0 rfl) ?_
    refine lv_iconst (pc := 15) (v := (iI 1)) hx hb dX10_move_15 rfl ?_
    obtain ⟨v3, h4, ev, hs⟩ := q_cal2 hs
    refine q_callV (pc := 16) (q := 0) (As := [.int (iI 1)]) (rest := []) (rs := [.int v3]) hx hb hml hl.1 hts hown hK hSt hN hw (c_X10_fail l G (iI 1) h v3 h4 ev) rfl rfl cv_X10_87 (rm_ok hR (by decide)) rfl (Nat.le_of_ble_eq_true rfl) rfl rfl dX10_move_16 (fun H locs hw => ?_)
    exact q_iretW hret dX10_move_19 hw hs
  · intro K2 hK2 hs
    refine lv_if_eq (pc := 4) (tgt := 14) hx hb dX10_move_4 (by decide) (fun hc => ?_) (fun hc => ?_)
    · replace hs := q_t hc hs
      exact hK2 hs _ _ hw _ (lv_sub hl [0] rfl)
    · replace hs := q_f hc hs
      refine lv_iload_n (pc := 7) hx hb dX10_move_7 rfl (lv_at hl 3 rfl) ?_
      obtain ⟨v5, ev, hs⟩ := q_cal hs
      refine q_callS (pc := 8) (As := [.int a3]) (rest := []) (rs := [.int v5]) hx hb hml hl.1 hts hown hK hSt hN hw (c_X10_hasSheet l G a3 h v5 ev) cs_X10_261 (rm_ok hR (by decide)) rfl (Nat.le_of_ble_eq_true rfl) rfl rfl dX10_move_8 (fun H locs hw => ?_)
      refine lv_if_ne (pc := 11) (tgt := 20) hx hb dX10_move_11 (by decide) (fun hc => ?_) (fun hc => ?_)
      · replace hs := q_t hc hs
        refine lv_aload_n (pc := 20) hx hb dX10_move_20 rfl (lv_at hl 0 rfl) ?_
        refine q_getR (pc := 21) (q := 0) (o := 28) hx hb hts hown hK hw rfl fg_X10_29 dX10_move_21 ?_
        refine lv_iload_n (pc := 24) hx hb dX10_move_24 rfl (lv_at hl 1 rfl) ?_
        refine q_aald (pc := 25) (q := 28) (n := 4) hx hb hK hw rfl dX10_move_25 hs (fun j6 hj6 hs => ?_)
        refine lv_astore (pc := 26) (lv' := [(6, .ref (G.2.2.1 (64 + 2 * j6))), (0, .ref (G.2.2.1 0)), (1, .int a1), (2, .int a2), (3, .int a3), (4, .int a4), (5, .int a5)]) hx hb dX10_move_26 hl (by decide) rfl (fun ls hl => ?_)
        refine lv_aload_n (pc := 28) hx hb dX10_move_28 rfl (lv_at hl 1 rfl) ?_
        refine q_getR (pc := 29) (q := 0) (o := 28) hx hb hts hown hK hw rfl fg_X10_29 dX10_move_29 ?_
        refine lv_iload_n (pc := 32) hx hb dX10_move_32 rfl (lv_at hl 4 rfl) ?_
        refine q_aald (pc := 33) (q := 28) (n := 4) hx hb hK hw rfl dX10_move_33 hs (fun j7 hj7 hs => ?_)
        refine lv_astore (pc := 34) (lv' := [(7, .ref (G.2.2.1 (64 + 2 * j7))), (6, .ref (G.2.2.1 (64 + 2 * j6))), (0, .ref (G.2.2.1 0)), (1, .int a1), (2, .int a2), (3, .int a3), (4, .int a4), (5, .int a5)]) hx hb dX10_move_34 hl (by decide) rfl (fun ls hl => ?_)
        refine lv_aload (pc := 36) hx hb dX10_move_36 (lv_at hl 1 rfl) ?_
        obtain ⟨v8, ev, hs⟩ := q_cal hs
        refine q_callV (pc := 38) (q := (64 + 2 * j6)) (As := []) (rest := []) (rs := [.int v8]) hx hb hml hl.1 hts hown hK hSt hN hw (c_X7_isMissing l G (64 + 2 * j6) (lay_sheet _ hj6) h v8 ev) (lay_sheet _ hj6) rfl cv_X10_321 (rm_ok hR (by decide)) rfl (Nat.le_of_ble_eq_true rfl) rfl rfl dX10_move_38 (fun H locs hw => ?_)
        refine q_join0 (P0 := ∀ (H : Heap) (locs : List Loc), IW G s h H locs → ∀ ls : Array Slot, lv_has ls 8 [(0, .ref (G.2.2.1 0))] → W p l e R s m args below meth c H locs 0 0 Q (F0 m 52 ls [])) hs ?_ ?_
        · intro  hs H locs hw ls hl
          refine lv_aload_n (pc := 52) hx hb dX10_move_52 rfl (lv_at hl 0 rfl) ?_
          refine lv_iconst (pc := 53) (v := (iI 2)) hx hb dX10_move_53 rfl ?_
          obtain ⟨v10, h11, ev, hs⟩ := q_cal2 hs
          refine q_callV (pc := 54) (q := 0) (As := [.int (iI 2)]) (rest := []) (rs := [.int v10]) hx hb hml hl.1 hts hown hK hSt hN hw (c_X10_fail l G (iI 2) h v10 h11 ev) rfl rfl cv_X10_87 (rm_ok hR (by decide)) rfl (Nat.le_of_ble_eq_true rfl) rfl rfl dX10_move_54 (fun H locs hw => ?_)
          exact q_iretW hret dX10_move_57 hw hs
        · intro K9 hK9 hs
          refine lv_if_ne (pc := 41) (tgt := 52) hx hb dX10_move_41 (by decide) (fun hc => ?_) (fun hc => ?_)
          · replace hs := q_t hc hs
            exact hK9 hs _ _ hw _ (lv_sub hl [2] rfl)
          · replace hs := q_f (fun z => z hc) hs
            refine lv_aload (pc := 44) hx hb dX10_move_44 (lv_at hl 0 rfl) ?_
            obtain ⟨v12, ev, hs⟩ := q_cal hs
            refine q_callV (pc := 46) (q := (64 + 2 * j7)) (As := []) (rest := []) (rs := [.int v12]) hx hb hml hl.1 hts hown hK hSt hN hw (c_X7_isMissing l G (64 + 2 * j7) (lay_sheet _ hj7) h v12 ev) (lay_sheet _ hj7) rfl cv_X10_321 (rm_ok hR (by decide)) rfl (Nat.le_of_ble_eq_true rfl) rfl rfl dX10_move_46 (fun H locs hw => ?_)
            refine lv_if_eq (pc := 49) (tgt := 58) hx hb dX10_move_49 (by decide) (fun hc => ?_) (fun hc => ?_)
            · replace hs := q_t hc hs
              refine lv_aload (pc := 58) hx hb dX10_move_58 (lv_at hl 1 rfl) ?_
              refine q_getI (pc := 60) (q := (64 + 2 * j6)) hx hb hts hown hK hw (lay_sheet _ hj6) fg_X10_331 dX10_move_60 ?_
              refine lv_aload (pc := 63) hx hb dX10_move_63 (lv_at hl 0 rfl) ?_
              refine q_getI (pc := 65) (q := (64 + 2 * j7)) hx hb hts hown hK hw (lay_sheet _ hj7) fg_X10_331 dX10_move_65 ?_
              refine lv_icmp_eq (pc := 68) (tgt := 77) hx hb dX10_move_68 (by decide) (fun hc => ?_) (fun hc => ?_)
              · replace hs := q_t hc hs
                refine lv_aload (pc := 77) hx hb dX10_move_77 (lv_at hl 1 rfl) ?_
                refine lv_iload_n (pc := 79) hx hb dX10_move_79 rfl (lv_at hl 4 rfl) ?_
                refine lv_iload (pc := 80) hx hb dX10_move_80 (lv_at hl 7 rfl) ?_
                obtain ⟨v13, ev, hs⟩ := q_cal hs
                refine q_callV (pc := 82) (q := (64 + 2 * j6)) (As := [.int a2, .int a5]) (rest := []) (rs := [.int v13]) hx hb hml hl.1 hts hown hK hSt hN hw (c_X7_hasPart l G (64 + 2 * j6) (lay_sheet _ hj6) a2 a5 h v13 ev) (lay_sheet _ hj6) rfl cv_X10_334 (rm_ok hR (by decide)) rfl (Nat.le_of_ble_eq_true rfl) rfl rfl dX10_move_82 (fun H locs hw => ?_)
                refine q_join0 (P0 := ∀ (H : Heap) (locs : List Loc), IW G s h H locs → ∀ ls : Array Slot, lv_has ls 8 [(0, .ref (G.2.2.1 0))] → W p l e R s m args below meth c H locs 0 0 Q (F0 m 100 ls [])) hs ?_ ?_
                · intro  hs H locs hw ls hl
                  refine lv_aload_n (pc := 100) hx hb dX10_move_100 rfl (lv_at hl 0 rfl) ?_
                  refine lv_iconst (pc := 101) (v := (iI 1)) hx hb dX10_move_101 rfl ?_
                  obtain ⟨v15, h16, ev, hs⟩ := q_cal2 hs
                  refine q_callV (pc := 102) (q := 0) (As := [.int (iI 1)]) (rest := []) (rs := [.int v15]) hx hb hml hl.1 hts hown hK hSt hN hw (c_X10_fail l G (iI 1) h v15 h16 ev) rfl rfl cv_X10_87 (rm_ok hR (by decide)) rfl (Nat.le_of_ble_eq_true rfl) rfl rfl dX10_move_102 (fun H locs hw => ?_)
                  exact q_iretW hret dX10_move_105 hw hs
                · intro K14 hK14 hs
                  refine lv_if_eq (pc := 85) (tgt := 100) hx hb dX10_move_85 (by decide) (fun hc => ?_) (fun hc => ?_)
                  · replace hs := q_t hc hs
                    exact hK14 hs _ _ hw _ (lv_sub hl [2] rfl)
                  · replace hs := q_f hc hs
                    refine lv_aload (pc := 88) hx hb dX10_move_88 (lv_at hl 0 rfl) ?_
                    refine lv_iload (pc := 90) hx hb dX10_move_90 (lv_at hl 6 rfl) ?_
                    refine lv_iload (pc := 92) hx hb dX10_move_92 (lv_at hl 7 rfl) ?_
                    obtain ⟨v17, ev, hs⟩ := q_cal hs
                    refine q_callV (pc := 94) (q := (64 + 2 * j7)) (As := [.int a4, .int a5]) (rest := []) (rs := [.int v17]) hx hb hml hl.1 hts hown hK hSt hN hw (c_X7_hasPart l G (64 + 2 * j7) (lay_sheet _ hj7) a4 a5 h v17 ev) (lay_sheet _ hj7) rfl cv_X10_334 (rm_ok hR (by decide)) rfl (Nat.le_of_ble_eq_true rfl) rfl rfl dX10_move_94 (fun H locs hw => ?_)
                    refine lv_if_ne (pc := 97) (tgt := 106) hx hb dX10_move_97 (by decide) (fun hc => ?_) (fun hc => ?_)
                    · replace hs := q_t hc hs
                      refine lv_aload (pc := 106) hx hb dX10_move_106 (lv_at hl 1 rfl) ?_
                      refine q_getR (pc := 108) (q := (64 + 2 * j6)) (o := 1) hx hb hts hown hK hw (lay_sheet _ hj6) fg_X10_337 dX10_move_108 ?_
                      refine lv_iload_n (pc := 111) hx hb dX10_move_111 rfl (lv_at hl 4 rfl) ?_
                      refine lv_aload (pc := 112) hx hb dX10_move_112 (lv_at hl 0 rfl) ?_
                      refine q_getR (pc := 114) (q := (64 + 2 * j7)) (o := 1) hx hb hts hown hK hw (lay_sheet _ hj7) fg_X10_337 dX10_move_114 ?_
                      refine lv_iload (pc := 117) hx hb dX10_move_117 (lv_at hl 6 rfl) ?_
                      refine lv_iload (pc := 119) hx hb dX10_move_119 (lv_at hl 7 rfl) ?_
                      refine q_acp (pc := 121) (a := ((64 + 2 * j6) + 1)) (b := ((64 + 2 * j7) + 1)) (an := 40) (bn := 40) hx hb hml hl.1 hts hown hK hw (wt_X7_numbers _ (lay_sheet _ hj6)) (wt_X7_numbers _ (lay_sheet _ hj7)) ac_X10_338 (rm_ac hR (by decide)) dX10_move_121 hs (fun h18 H locs hw hs => ?_)
                      refine lv_iload (pc := 124) hx hb dX10_move_124 (lv_at hl 7 rfl) ?_
                      exact q_iretW hret dX10_move_126 hw hs
                    · replace hs := q_f (fun z => z hc) hs
                      exact hK14 hs _ _ hw _ (lv_sub hl [2] rfl)
              · replace hs := q_f hc hs
                refine lv_aload_n (pc := 71) hx hb dX10_move_71 rfl (lv_at hl 2 rfl) ?_
                refine lv_iconst (pc := 72) (v := (iI 5)) hx hb dX10_move_72 rfl ?_
                obtain ⟨v19, h20, ev, hs⟩ := q_cal2 hs
                refine q_callV (pc := 73) (q := 0) (As := [.int (iI 5)]) (rest := []) (rs := [.int v19]) hx hb hml hl.1 hts hown hK hSt hN hw (c_X10_fail l G (iI 5) h v19 h20 ev) rfl rfl cv_X10_87 (rm_ok hR (by decide)) rfl (Nat.le_of_ble_eq_true rfl) rfl rfl dX10_move_73 (fun H locs hw => ?_)
                exact q_iretW hret dX10_move_76 hw hs
            · replace hs := q_f hc hs
              exact hK9 hs _ _ hw _ (lv_sub hl [2] rfl)
      · replace hs := q_f (fun z => z hc) hs
        exact hK2 hs _ _ hw _ (lv_sub hl [0] rfl)

set_option maxHeartbeats 4000000 in
theorem c_X10_judge (l : Launch) (G : GG) (a1 : Int32) (h : Mem) (v : Int32) (h' : Mem) (hs : f_X10_judge h a1 = some (v, h')) : Sat l G yX10_judge cX10_judge 6 (some .int) 2 [.ref (G.2.2.1 0), .int a1] h (some (.int v)) h' := by
  refine Sat.mkI (by decide) (Nat.le_of_ble_eq_true rfl) ?_
  intro p e R s m args below meth c Q F hret hw ls hl
  obtain ⟨hx, hb, hml, hown, hts, hK, hSt, hN, hR⟩ := F
  have hl : lv_has ls 6 [(0, .ref (G.2.2.1 0)), (1, .int a1)] := hl
  unfold f_X10_judge at hs
  refine lv_iload_n (pc := 0) hx hb dX10_judge_0 rfl (lv_at hl 1 rfl) ?_
  obtain ⟨v1, ev, hs⟩ := q_cal hs
  refine q_callS (pc := 1) (As := [.int a1]) (rest := []) (rs := [.int v1]) hx hb hml hl.1 hts hown hK hSt hN hw (c_X10_hasSheet l G a1 h v1 ev) cs_X10_261 (rm_ok hR (by decide)) rfl (Nat.le_of_ble_eq_true rfl) rfl rfl dX10_judge_1 (fun H locs hw => ?_)
  refine lv_if_ne (pc := 4) (tgt := 13) hx hb dX10_judge_4 (by decide) (fun hc => ?_) (fun hc => ?_)
  · replace hs := q_t hc hs
    refine lv_aload_n (pc := 13) hx hb dX10_judge_13 rfl (lv_at hl 0 rfl) ?_
    refine q_getR (pc := 14) (q := 0) (o := 28) hx hb hts hown hK hw rfl fg_X10_29 dX10_judge_14 ?_
    refine lv_iload_n (pc := 17) hx hb dX10_judge_17 rfl (lv_at hl 1 rfl) ?_
    refine q_aald (pc := 18) (q := 28) (n := 4) hx hb hK hw rfl dX10_judge_18 hs (fun j2 hj2 hs => ?_)
    refine lv_astore_n (pc := 19) (lv' := [(2, .ref (G.2.2.1 (64 + 2 * j2))), (0, .ref (G.2.2.1 0)), (1, .int a1)]) hx hb dX10_judge_19 rfl hl (by decide) rfl (fun ls hl => ?_)
    refine lv_aload_n (pc := 20) hx hb dX10_judge_20 rfl (lv_at hl 0 rfl) ?_
    obtain ⟨v3, ev, hs⟩ := q_cal hs
    refine q_callV (pc := 21) (q := (64 + 2 * j2)) (As := []) (rest := []) (rs := [.int v3]) hx hb hml hl.1 hts hown hK hSt hN hw (c_X7_isMissing l G (64 + 2 * j2) (lay_sheet _ hj2) h v3 ev) (lay_sheet _ hj2) rfl cv_X10_321 (rm_ok hR (by decide)) rfl (Nat.le_of_ble_eq_true rfl) rfl rfl dX10_judge_21 (fun H locs hw => ?_)
    refine lv_if_eq (pc := 24) (tgt := 33) hx hb dX10_judge_24 (by decide) (fun hc => ?_) (fun hc => ?_)
    · replace hs := q_t hc hs
      refine lv_aload_n (pc := 33) hx hb dX10_judge_33 rfl (lv_at hl 1 rfl) ?_
      refine q_getR (pc := 34) (q := 0) (o := 2) hx hb hts hown hK hw rfl fg_X10_16 dX10_judge_34 ?_
      refine q_getR (pc := 37) (q := 2) (o := 1) hx hb hts hown hK hw rfl fg_X10_91 dX10_judge_37 ?_
      obtain ⟨v4, ev, hs⟩ := q_cal hs
      refine q_callV (pc := 40) (q := 3) (As := []) (rest := []) (rs := [.int v4]) hx hb hml hl.1 hts hown hK hSt hN hw (c_X3_squares l G 3 rfl h v4 ev) rfl rfl cv_X10_344 (rm_ok hR (by decide)) rfl (Nat.le_of_ble_eq_true rfl) rfl rfl dX10_judge_40 (fun H locs hw => ?_)
      refine lv_istore_n (pc := 43) (lv' := [(3, .int v4), (2, .ref (G.2.2.1 (64 + 2 * j2))), (0, .ref (G.2.2.1 0)), (1, .int a1)]) hx hb dX10_judge_43 rfl hl (by decide) rfl (fun ls hl => ?_)
      refine lv_aload_n (pc := 44) hx hb dX10_judge_44 rfl (lv_at hl 1 rfl) ?_
      refine q_getI (pc := 45) (q := (64 + 2 * j2)) hx hb hts hown hK hw (lay_sheet _ hj2) fg_X10_325 dX10_judge_45 ?_
      refine lv_iload_n (pc := 48) hx hb dX10_judge_48 rfl (lv_at hl 0 rfl) ?_
      refine q_min (pc := 49) (rest := []) hx hb hml hl.1 hts hown (rm_mm hR (by decide) (Nat.le_of_ble_eq_true rfl)) mt_X10_346 dX10_judge_49 ?_
      obtain ⟨x5, ex5, hs⟩ := q_nm hs
      refine q_topI ex5 ?_
      refine lv_istore (pc := 52) (lv' := [(4, .int x5), (3, .int v4), (2, .ref (G.2.2.1 (64 + 2 * j2))), (0, .ref (G.2.2.1 0)), (1, .int a1)]) hx hb dX10_judge_52 hl (by decide) rfl (fun ls hl => ?_)
      refine lv_iconst (pc := 54) (v := (iI 0)) hx hb dX10_judge_54 rfl ?_
      refine lv_istore (pc := 55) (lv' := [(5, .int (iI 0)), (4, .int x5), (3, .int v4), (2, .ref (G.2.2.1 (64 + 2 * j2))), (0, .ref (G.2.2.1 0)), (1, .int a1)]) hx hb dX10_judge_55 hl (by decide) rfl (fun ls hl => ?_)
      refine (q_lo1 (P0 := fun (x6 : Int32) => ∀ (H : Heap) (locs : List Loc), IW G s h H locs → ∀ ls : Array Slot, lv_has ls 6 [(0, .ref (G.2.2.1 0)), (2, .ref (G.2.2.1 (64 + 2 * j2))), (3, .int v4), (4, .int x5), (5, .int x6)] → W p l e R s m args below meth c H locs 0 0 Q (F0 m 57 ls [])) hs ?_) _ _ hw _ (lv_sub hl [4, 3, 2, 1, 0] rfl)
      intro K7 hK7 x6 hs H locs hw ls hl
      unfold f_X10_judge_k7 at hs
      refine lv_iload (pc := 57) hx hb dX10_judge_57 (lv_at hl 4 rfl) ?_
      refine lv_iload (pc := 59) hx hb dX10_judge_59 (lv_at hl 3 rfl) ?_
      refine lv_icmp_ge (pc := 61) (tgt := 95) hx hb dX10_judge_61 (by decide) (fun hc => ?_) (fun hc => ?_)
      · replace hs := q_t hc hs
        refine lv_aload_n (pc := 95) hx hb dX10_judge_95 rfl (lv_at hl 1 rfl) ?_
        refine q_getI (pc := 96) (q := (64 + 2 * j2)) hx hb hts hown hK hw (lay_sheet _ hj2) fg_X10_325 dX10_judge_96 ?_
        refine lv_iload_n (pc := 99) hx hb dX10_judge_99 rfl (lv_at hl 2 rfl) ?_
        refine lv_icmp_ne (pc := 100) (tgt := 107) hx hb dX10_judge_100 (by decide) (fun hc => ?_) (fun hc => ?_)
        · replace hs := q_t hc hs
          refine lv_iload (pc := 107) hx hb dX10_judge_107 (lv_at hl 3 rfl) ?_
          exact q_iretW hret dX10_judge_109 hw hs
        · replace hs := q_f (fun z => z hc) hs
          refine lv_iconst (pc := 103) (v := (iI (-1))) hx hb dX10_judge_103 rfl ?_
          refine lv_goto (pc := 104) (tgt := 109) hx hb dX10_judge_104 (by decide) ?_
          exact q_iretW hret dX10_judge_109 hw hs
      · replace hs := q_f hc hs
        refine lv_aload_n (pc := 64) hx hb dX10_judge_64 rfl (lv_at hl 1 rfl) ?_
        refine q_getR (pc := 65) (q := (64 + 2 * j2)) (o := 1) hx hb hts hown hK hw (lay_sheet _ hj2) fg_X10_337 dX10_judge_65 ?_
        refine lv_iload (pc := 68) hx hb dX10_judge_68 (lv_at hl 4 rfl) ?_
        refine q_ald (pc := 70) (q := ((64 + 2 * j2) + 1)) (n := 40) hx hb hK hw (wt_X7_numbers _ (lay_sheet _ hj2)) dX10_judge_70 hs (fun v8 hs => ?_)
        refine lv_aload_n (pc := 71) hx hb dX10_judge_71 rfl (lv_at hl 0 rfl) ?_
        refine q_getR (pc := 72) (q := 0) (o := 2) hx hb hts hown hK hw rfl fg_X10_16 dX10_judge_72 ?_
        refine q_getR (pc := 75) (q := 2) (o := 1) hx hb hts hown hK hw rfl fg_X10_91 dX10_judge_75 ?_
        refine lv_iload (pc := 78) hx hb dX10_judge_78 (lv_at hl 4 rfl) ?_
        obtain ⟨v9, ev, hs⟩ := q_cal hs
        refine q_callV (pc := 80) (q := 3) (As := [.int x6]) (rest := [.int v8]) (rs := [.int v9, .int v8]) hx hb hml hl.1 hts hown hK hSt hN hw (c_X3_slantOf l G 3 rfl x6 h v9 ev) rfl rfl cv_X10_116 (rm_ok hR (by decide)) rfl (Nat.le_of_ble_eq_true rfl) rfl rfl dX10_judge_80 (fun H locs hw => ?_)
        refine lv_icmp_eq (pc := 83) (tgt := 89) hx hb dX10_judge_83 (by decide) (fun hc => ?_) (fun hc => ?_)
        · replace hs := q_t hc hs
          obtain ⟨x10, ex10, hs⟩ := q_nm hs
          refine lv_iinc (pc := 89) (v := x10) (lv' := [(5, .int x10), (0, .ref (G.2.2.1 0)), (2, .ref (G.2.2.1 (64 + 2 * j2))), (3, .int v4), (4, .int x5)]) hx hb dX10_judge_89 hl (k := 4) rfl ex10 (by decide) rfl (fun ls hl => ?_)
          refine lv_goto (pc := 92) (tgt := 57) hx hb dX10_judge_92 (by decide) ?_
          exact hK7 _ hs _ _ hw _ (lv_sub hl [1, 2, 3, 4, 0] rfl)
        · replace hs := q_f hc hs
          refine lv_iload (pc := 86) hx hb dX10_judge_86 (lv_at hl 4 rfl) ?_
          exact q_iretW hret dX10_judge_88 hw hs
    · replace hs := q_f hc hs
      refine lv_aload_n (pc := 27) hx hb dX10_judge_27 rfl (lv_at hl 1 rfl) ?_
      refine lv_iconst (pc := 28) (v := (iI 2)) hx hb dX10_judge_28 rfl ?_
      obtain ⟨v11, h12, ev, hs⟩ := q_cal2 hs
      refine q_callV (pc := 29) (q := 0) (As := [.int (iI 2)]) (rest := []) (rs := [.int v11]) hx hb hml hl.1 hts hown hK hSt hN hw (c_X10_fail l G (iI 2) h v11 h12 ev) rfl rfl cv_X10_87 (rm_ok hR (by decide)) rfl (Nat.le_of_ble_eq_true rfl) rfl rfl dX10_judge_29 (fun H locs hw => ?_)
      exact q_iretW hret dX10_judge_32 hw hs
  · replace hs := q_f (fun z => z hc) hs
    refine lv_aload_n (pc := 7) hx hb dX10_judge_7 rfl (lv_at hl 0 rfl) ?_
    refine lv_iconst (pc := 8) (v := (iI 1)) hx hb dX10_judge_8 rfl ?_
    obtain ⟨v13, h14, ev, hs⟩ := q_cal2 hs
    refine q_callV (pc := 9) (q := 0) (As := [.int (iI 1)]) (rest := []) (rs := [.int v13]) hx hb hml hl.1 hts hown hK hSt hN hw (c_X10_fail l G (iI 1) h v13 h14 ev) rfl rfl cv_X10_87 (rm_ok hR (by decide)) rfl (Nat.le_of_ble_eq_true rfl) rfl rfl dX10_judge_9 (fun H locs hw => ?_)
    exact q_iretW hret dX10_judge_12 hw hs

set_option maxHeartbeats 4000000 in
theorem c_X10_tell (l : Launch) (G : GG) (a1 : Int32) (h : Mem) (v : Int32) (h' : Mem) (hs : f_X10_tell h a1 = some (v, h')) : Sat l G yX10_tell cX10_tell 2 (some .int) 2 [.ref (G.2.2.1 0), .int a1] h (some (.int v)) h' := by
  refine Sat.mkI (by decide) (Nat.le_of_ble_eq_true rfl) ?_
  intro p e R s m args below meth c Q F hret hw ls hl
  obtain ⟨hx, hb, hml, hown, hts, hK, hSt, hN, hR⟩ := F
  have hl : lv_has ls 2 [(0, .ref (G.2.2.1 0)), (1, .int a1)] := hl
  unfold f_X10_tell at hs
  refine lv_aload_n (pc := 0) hx hb dX10_tell_0 rfl (lv_at hl 0 rfl) ?_
  refine q_getR (pc := 1) (q := 0) (o := 2) hx hb hts hown hK hw rfl fg_X10_16 dX10_tell_1 ?_
  refine lv_iload_n (pc := 4) hx hb dX10_tell_4 rfl (lv_at hl 1 rfl) ?_
  obtain ⟨v1, h2, ev, hs⟩ := q_cal2 hs
  refine q_callV (pc := 5) (q := 2) (As := [.int a1]) (rest := []) (rs := [.int v1]) hx hb hml hl.1 hts hown hK hSt hN hw (c_X9_addWaiting l G 2 rfl a1 h v1 h2 ev) rfl rfl cv_X10_355 (rm_ok hR (by decide)) rfl (Nat.le_of_ble_eq_true rfl) rfl rfl dX10_tell_5 (fun H locs hw => ?_)
  refine lv_if_eq (pc := 8) (tgt := 21) hx hb dX10_tell_8 (by decide) (fun hc => ?_) (fun hc => ?_)
  · replace hs := q_t hc hs
    refine lv_aload_n (pc := 21) hx hb dX10_tell_21 rfl (lv_at hl 0 rfl) ?_
    refine lv_iconst (pc := 22) (v := (iI 4)) hx hb dX10_tell_22 rfl ?_
    obtain ⟨v3, h4, ev, hs⟩ := q_cal2 hs
    refine q_callV (pc := 23) (q := 0) (As := [.int (iI 4)]) (rest := []) (rs := [.int v3]) hx hb hml hl.1 hts hown hK hSt hN hw (c_X10_fail l G (iI 4) h2 v3 h4 ev) rfl rfl cv_X10_87 (rm_ok hR (by decide)) rfl (Nat.le_of_ble_eq_true rfl) rfl rfl dX10_tell_23 (fun H locs hw => ?_)
    exact q_iretW hret dX10_tell_26 hw hs
  · replace hs := q_f hc hs
    refine lv_aload_n (pc := 11) hx hb dX10_tell_11 rfl (lv_at hl 0 rfl) ?_
    refine q_getR (pc := 12) (q := 0) (o := 2) hx hb hts hown hK hw rfl fg_X10_16 dX10_tell_12 ?_
    refine q_getI (pc := 15) (q := 2) hx hb hts hown hK hw rfl fg_X10_358 dX10_tell_15 ?_
    refine lv_goto (pc := 18) (tgt := 26) hx hb dX10_tell_18 (by decide) ?_
    exact q_iretW hret dX10_tell_26 hw hs

set_option maxHeartbeats 4000000 in
theorem c_X10_count (l : Launch) (G : GG) (a1 : Int32) (h : Mem) (v : Int32) (h' : Mem) (hs : f_X10_count h a1 = some (v, h')) : Sat l G yX10_count cX10_count 2 (some .int) 2 [.ref (G.2.2.1 0), .int a1] h (some (.int v)) h' := by
  refine Sat.mkI (by decide) (Nat.le_of_ble_eq_true rfl) ?_
  intro p e R s m args below meth c Q F hret hw ls hl
  obtain ⟨hx, hb, hml, hown, hts, hK, hSt, hN, hR⟩ := F
  have hl : lv_has ls 2 [(0, .ref (G.2.2.1 0)), (1, .int a1)] := hl
  unfold f_X10_count at hs
  refine lv_iload_n (pc := 0) hx hb dX10_count_0 rfl (lv_at hl 1 rfl) ?_
  by_cases hc0 : a1 = iI 0
  · replace hs := q_t hc0 hs
    refine lv_tableIn (pc := 1) (off := 59) (tgt := 60) hx hb dX10_count_1 (by rw [hc0]; decide) (by rw [hc0]; decide) (by rw [hc0]; decide) (by decide) ?_
    refine lv_aload_n (pc := 60) hx hb dX10_count_60 rfl (lv_at hl 0 rfl) ?_
    refine q_getR (pc := 61) (q := 0) (o := 2) hx hb hts hown hK hw rfl fg_X10_16 dX10_count_61 ?_
    refine q_getR (pc := 64) (q := 2) (o := 1) hx hb hts hown hK hw rfl fg_X10_91 dX10_count_64 ?_
    refine q_getI (pc := 67) (q := 3) hx hb hts hown hK hw rfl fg_X10_367 dX10_count_67 ?_
    exact q_iretW hret dX10_count_70 hw hs
  replace hs := q_f hc0 hs
  by_cases hc1 : a1 = iI 1
  · replace hs := q_t hc1 hs
    refine lv_tableIn (pc := 1) (off := 70) (tgt := 71) hx hb dX10_count_1 (by rw [hc1]; decide) (by rw [hc1]; decide) (by rw [hc1]; decide) (by decide) ?_
    refine lv_aload_n (pc := 71) hx hb dX10_count_71 rfl (lv_at hl 0 rfl) ?_
    refine q_getR (pc := 72) (q := 0) (o := 2) hx hb hts hown hK hw rfl fg_X10_16 dX10_count_72 ?_
    refine q_getR (pc := 75) (q := 2) (o := 1) hx hb hts hown hK hw rfl fg_X10_91 dX10_count_75 ?_
    refine q_getI (pc := 78) (q := 3) hx hb hts hown hK hw rfl fg_X10_370 dX10_count_78 ?_
    exact q_iretW hret dX10_count_81 hw hs
  replace hs := q_f hc1 hs
  by_cases hc2 : a1 = iI 2
  · replace hs := q_t hc2 hs
    refine lv_tableIn (pc := 1) (off := 81) (tgt := 82) hx hb dX10_count_1 (by rw [hc2]; decide) (by rw [hc2]; decide) (by rw [hc2]; decide) (by decide) ?_
    refine lv_aload_n (pc := 82) hx hb dX10_count_82 rfl (lv_at hl 0 rfl) ?_
    refine q_getR (pc := 83) (q := 0) (o := 2) hx hb hts hown hK hw rfl fg_X10_16 dX10_count_83 ?_
    refine q_getR (pc := 86) (q := 2) (o := 1) hx hb hts hown hK hw rfl fg_X10_91 dX10_count_86 ?_
    obtain ⟨v1, ev, hs⟩ := q_cal hs
    refine q_callV (pc := 89) (q := 3) (As := []) (rest := []) (rs := [.int v1]) hx hb hml hl.1 hts hown hK hSt hN hw (c_X3_windows l G 3 rfl h v1 ev) rfl rfl cv_X10_98 (rm_ok hR (by decide)) rfl (Nat.le_of_ble_eq_true rfl) rfl rfl dX10_count_89 (fun H locs hw => ?_)
    exact q_iretW hret dX10_count_92 hw hs
  replace hs := q_f hc2 hs
  by_cases hc3 : a1 = iI 3
  · replace hs := q_t hc3 hs
    refine lv_tableIn (pc := 1) (off := 92) (tgt := 93) hx hb dX10_count_1 (by rw [hc3]; decide) (by rw [hc3]; decide) (by rw [hc3]; decide) (by decide) ?_
    refine lv_aload_n (pc := 93) hx hb dX10_count_93 rfl (lv_at hl 0 rfl) ?_
    refine q_getR (pc := 94) (q := 0) (o := 2) hx hb hts hown hK hw rfl fg_X10_16 dX10_count_94 ?_
    refine q_getR (pc := 97) (q := 2) (o := 1) hx hb hts hown hK hw rfl fg_X10_91 dX10_count_97 ?_
    obtain ⟨v2, ev, hs⟩ := q_cal hs
    refine q_callV (pc := 100) (q := 3) (As := []) (rest := []) (rs := [.int v2]) hx hb hml hl.1 hts hown hK hSt hN hw (c_X3_mirrors l G 3 rfl h v2 ev) rfl rfl cv_X10_373 (rm_ok hR (by decide)) rfl (Nat.le_of_ble_eq_true rfl) rfl rfl dX10_count_100 (fun H locs hw => ?_)
    exact q_iretW hret dX10_count_103 hw hs
  replace hs := q_f hc3 hs
  by_cases hc4 : a1 = iI 4
  · replace hs := q_t hc4 hs
    refine lv_tableIn (pc := 1) (off := 103) (tgt := 104) hx hb dX10_count_1 (by rw [hc4]; decide) (by rw [hc4]; decide) (by rw [hc4]; decide) (by decide) ?_
    refine lv_aload_n (pc := 104) hx hb dX10_count_104 rfl (lv_at hl 0 rfl) ?_
    refine q_getR (pc := 105) (q := 0) (o := 2) hx hb hts hown hK hw rfl fg_X10_16 dX10_count_105 ?_
    refine q_getR (pc := 108) (q := 2) (o := 1) hx hb hts hown hK hw rfl fg_X10_91 dX10_count_108 ?_
    obtain ⟨v3, ev, hs⟩ := q_cal hs
    refine q_callV (pc := 111) (q := 3) (As := []) (rest := []) (rs := [.int v3]) hx hb hml hl.1 hts hown hK hSt hN hw (c_X3_litTogether l G 3 rfl h v3 ev) rfl rfl cv_X10_376 (rm_ok hR (by decide)) rfl (Nat.le_of_ble_eq_true rfl) rfl rfl dX10_count_111 (fun H locs hw => ?_)
    exact q_iretW hret dX10_count_114 hw hs
  replace hs := q_f hc4 hs
  by_cases hc5 : a1 = iI 5
  · replace hs := q_t hc5 hs
    refine lv_tableIn (pc := 1) (off := 114) (tgt := 115) hx hb dX10_count_1 (by rw [hc5]; decide) (by rw [hc5]; decide) (by rw [hc5]; decide) (by decide) ?_
    refine lv_aload_n (pc := 115) hx hb dX10_count_115 rfl (lv_at hl 0 rfl) ?_
    refine q_getR (pc := 116) (q := 0) (o := 2) hx hb hts hown hK hw rfl fg_X10_16 dX10_count_116 ?_
    refine q_getI (pc := 119) (q := 2) hx hb hts hown hK hw rfl fg_X10_298 dX10_count_119 ?_
    exact q_iretW hret dX10_count_122 hw hs
  replace hs := q_f hc5 hs
  by_cases hc6 : a1 = iI 6
  · replace hs := q_t hc6 hs
    refine lv_tableIn (pc := 1) (off := 122) (tgt := 123) hx hb dX10_count_1 (by rw [hc6]; decide) (by rw [hc6]; decide) (by rw [hc6]; decide) (by decide) ?_
    refine lv_aload_n (pc := 123) hx hb dX10_count_123 rfl (lv_at hl 0 rfl) ?_
    refine q_getR (pc := 124) (q := 0) (o := 2) hx hb hts hown hK hw rfl fg_X10_16 dX10_count_124 ?_
    refine q_getI (pc := 127) (q := 2) hx hb hts hown hK hw rfl fg_X10_291 dX10_count_127 ?_
    exact q_iretW hret dX10_count_130 hw hs
  replace hs := q_f hc6 hs
  by_cases hc7 : a1 = iI 7
  · replace hs := q_t hc7 hs
    refine lv_tableIn (pc := 1) (off := 130) (tgt := 131) hx hb dX10_count_1 (by rw [hc7]; decide) (by rw [hc7]; decide) (by rw [hc7]; decide) (by decide) ?_
    refine lv_aload_n (pc := 131) hx hb dX10_count_131 rfl (lv_at hl 0 rfl) ?_
    refine q_getR (pc := 132) (q := 0) (o := 2) hx hb hts hown hK hw rfl fg_X10_16 dX10_count_132 ?_
    refine q_getI (pc := 135) (q := 2) hx hb hts hown hK hw rfl fg_X10_184 dX10_count_135 ?_
    exact q_iretW hret dX10_count_138 hw hs
  replace hs := q_f hc7 hs
  by_cases hc8 : a1 = iI 8
  · replace hs := q_t hc8 hs
    refine lv_tableIn (pc := 1) (off := 138) (tgt := 139) hx hb dX10_count_1 (by rw [hc8]; decide) (by rw [hc8]; decide) (by rw [hc8]; decide) (by decide) ?_
    refine lv_aload_n (pc := 139) hx hb dX10_count_139 rfl (lv_at hl 0 rfl) ?_
    refine q_getR (pc := 140) (q := 0) (o := 2) hx hb hts hown hK hw rfl fg_X10_16 dX10_count_140 ?_
    refine q_getI (pc := 143) (q := 2) hx hb hts hown hK hw rfl fg_X10_358 dX10_count_143 ?_
    exact q_iretW hret dX10_count_146 hw hs
  replace hs := q_f hc8 hs
  by_cases hc9 : a1 = iI 9
  · replace hs := q_t hc9 hs
    refine lv_tableIn (pc := 1) (off := 146) (tgt := 147) hx hb dX10_count_1 (by rw [hc9]; decide) (by rw [hc9]; decide) (by rw [hc9]; decide) (by decide) ?_
    refine lv_aload_n (pc := 147) hx hb dX10_count_147 rfl (lv_at hl 0 rfl) ?_
    refine q_getR (pc := 148) (q := 0) (o := 37) hx hb hts hown hK hw rfl fg_X10_57 dX10_count_148 ?_
    refine q_getI (pc := 151) (q := 37) hx hb hts hown hK hw rfl fg_X10_308 dX10_count_151 ?_
    exact q_iretW hret dX10_count_154 hw hs
  replace hs := q_f hc9 hs
  by_cases hc10 : a1 = iI 10
  · replace hs := q_t hc10 hs
    refine lv_tableIn (pc := 1) (off := 154) (tgt := 155) hx hb dX10_count_1 (by rw [hc10]; decide) (by rw [hc10]; decide) (by rw [hc10]; decide) (by decide) ?_
    refine lv_aload_n (pc := 155) hx hb dX10_count_155 rfl (lv_at hl 0 rfl) ?_
    refine q_getR (pc := 156) (q := 0) (o := 2) hx hb hts hown hK hw rfl fg_X10_16 dX10_count_156 ?_
    refine q_getI (pc := 159) (q := 2) hx hb hts hown hK hw rfl fg_X10_301 dX10_count_159 ?_
    exact q_iretW hret dX10_count_162 hw hs
  replace hs := q_f hc10 hs
  refine lv_tableOut (pc := 1) (tgt := 163) hx hb dX10_count_1 (by have thc0 := toInt_ne hc0; have thc1 := toInt_ne hc1; have thc2 := toInt_ne hc2; have thc3 := toInt_ne hc3; have thc4 := toInt_ne hc4; have thc5 := toInt_ne hc5; have thc6 := toInt_ne hc6; have thc7 := toInt_ne hc7; have thc8 := toInt_ne hc8; have thc9 := toInt_ne hc9; have thc10 := toInt_ne hc10; omega) (by decide) ?_
  refine lv_aload_n (pc := 163) hx hb dX10_count_163 rfl (lv_at hl 0 rfl) ?_
  refine lv_iconst (pc := 164) (v := (iI 1)) hx hb dX10_count_164 rfl ?_
  obtain ⟨v4, h5, ev, hs⟩ := q_cal2 hs
  refine q_callV (pc := 165) (q := 0) (As := [.int (iI 1)]) (rest := []) (rs := [.int v4]) hx hb hml hl.1 hts hown hK hSt hN hw (c_X10_fail l G (iI 1) h v4 h5 ev) rfl rfl cv_X10_87 (rm_ok hR (by decide)) rfl (Nat.le_of_ble_eq_true rfl) rfl rfl dX10_count_165 (fun H locs hw => ?_)
  exact q_iretW hret dX10_count_168 hw hs

set_option maxHeartbeats 4000000 in
theorem c_X10_told (l : Launch) (G : GG) (a1 : Int32) (h : Mem) (v : Int32) (h' : Mem) (hs : f_X10_told h a1 = some (v, h')) : Sat l G yX10_told cX10_told 2 (some .int) 2 [.ref (G.2.2.1 0), .int a1] h (some (.int v)) h' := by
  refine Sat.mkI (by decide) (Nat.le_of_ble_eq_true rfl) ?_
  intro p e R s m args below meth c Q F hret hw ls hl
  obtain ⟨hx, hb, hml, hown, hts, hK, hSt, hN, hR⟩ := F
  have hl : lv_has ls 2 [(0, .ref (G.2.2.1 0)), (1, .int a1)] := hl
  unfold f_X10_told at hs
  refine lv_iload_n (pc := 0) hx hb dX10_told_0 rfl (lv_at hl 1 rfl) ?_
  refine lv_iconst (pc := 1) (v := (iI 1)) hx hb dX10_told_1 rfl ?_
  refine lv_iconst (pc := 2) (v := (iI 5)) hx hb dX10_told_2 rfl ?_
  obtain ⟨v1, ev, hs⟩ := q_cal hs
  refine q_callS (pc := 3) (As := [.int a1, .int (iI 1), .int (iI 5)]) (rest := []) (rs := [.int v1]) hx hb hml hl.1 hts hown hK hSt hN hw (c_X10_within l G a1 (iI 1) (iI 5) h v1 ev) cs_X10_83 (rm_ok hR (by decide)) rfl (Nat.le_of_ble_eq_true rfl) rfl rfl dX10_told_3 (fun H locs hw => ?_)
  refine lv_if_eq (pc := 6) (tgt := 18) hx hb dX10_told_6 (by decide) (fun hc => ?_) (fun hc => ?_)
  · replace hs := q_t hc hs
    refine lv_aload_n (pc := 18) hx hb dX10_told_18 rfl (lv_at hl 0 rfl) ?_
    refine lv_iconst (pc := 19) (v := (iI 1)) hx hb dX10_told_19 rfl ?_
    obtain ⟨v2, h3, ev, hs⟩ := q_cal2 hs
    refine q_callV (pc := 20) (q := 0) (As := [.int (iI 1)]) (rest := []) (rs := [.int v2]) hx hb hml hl.1 hts hown hK hSt hN hw (c_X10_fail l G (iI 1) h v2 h3 ev) rfl rfl cv_X10_87 (rm_ok hR (by decide)) rfl (Nat.le_of_ble_eq_true rfl) rfl rfl dX10_told_20 (fun H locs hw => ?_)
    exact q_iretW hret dX10_told_23 hw hs
  · replace hs := q_f hc hs
    refine lv_aload_n (pc := 9) hx hb dX10_told_9 rfl (lv_at hl 0 rfl) ?_
    refine q_getR (pc := 10) (q := 0) (o := 1) hx hb hts hown hK hw rfl fg_X10_7 dX10_told_10 ?_
    refine lv_iload_n (pc := 13) hx hb dX10_told_13 rfl (lv_at hl 1 rfl) ?_
    refine q_ald (pc := 14) (q := 1) (n := 6) hx hb hK hw rfl dX10_told_14 hs (fun v4 hs => ?_)
    refine lv_goto (pc := 15) (tgt := 23) hx hb dX10_told_15 (by decide) ?_
    exact q_iretW hret dX10_told_23 hw hs

set_option maxHeartbeats 4000000 in
set_option maxRecDepth 100000 in
theorem c_X10_ofSquare (l : Launch) (G : GG) (a1 : Int32) (a2 : Int32) (h : Mem) (v : Int32) (h' : Mem) (hs : f_X10_ofSquare h a1 a2 = some (v, h')) : Sat l G yX10_ofSquare cX10_ofSquare 5 (some .int) 4 [.ref (G.2.2.1 0), .int a1, .int a2] h (some (.int v)) h' := by
  refine Sat.mkI (by decide) (Nat.le_of_ble_eq_true rfl) ?_
  intro p e R s m args below meth c Q F hret hw ls hl
  obtain ⟨hx, hb, hml, hown, hts, hK, hSt, hN, hR⟩ := F
  have hl : lv_has ls 5 [(0, .ref (G.2.2.1 0)), (1, .int a1), (2, .int a2)] := hl
  unfold f_X10_ofSquare at hs
  refine lv_aload_n (pc := 0) hx hb dX10_ofSquare_0 rfl (lv_at hl 0 rfl) ?_
  refine q_getR (pc := 1) (q := 0) (o := 2) hx hb hts hown hK hw rfl fg_X10_16 dX10_ofSquare_1 ?_
  refine q_getR (pc := 4) (q := 2) (o := 1) hx hb hts hown hK hw rfl fg_X10_91 dX10_ofSquare_4 ?_
  refine lv_astore_n (pc := 7) (lv' := [(3, .ref (G.2.2.1 3)), (0, .ref (G.2.2.1 0)), (1, .int a1), (2, .int a2)]) hx hb dX10_ofSquare_7 rfl hl (by decide) rfl (fun ls hl => ?_)
  refine lv_aload_n (pc := 8) hx hb dX10_ofSquare_8 rfl (lv_at hl 0 rfl) ?_
  refine lv_iload_n (pc := 9) hx hb dX10_ofSquare_9 rfl (lv_at hl 2 rfl) ?_
  obtain ⟨v1, ev, hs⟩ := q_cal hs
  refine q_callV (pc := 10) (q := 3) (As := [.int a1]) (rest := []) (rs := [.int v1]) hx hb hml hl.1 hts hown hK hSt hN hw (c_X3_hasSquare l G 3 rfl a1 h v1 ev) rfl rfl cv_X10_102 (rm_ok hR (by decide)) rfl (Nat.le_of_ble_eq_true rfl) rfl rfl dX10_ofSquare_10 (fun H locs hw => ?_)
  refine q_join0 (P0 := ∀ (H : Heap) (locs : List Loc), IW G s h H locs → ∀ ls : Array Slot, lv_has ls 5 [(0, .ref (G.2.2.1 0))] → W p l e R s m args below meth c H locs 0 0 Q (F0 m 26 ls [])) hs ?_ ?_
  · intro  hs H locs hw ls hl
    refine lv_aload_n (pc := 26) hx hb dX10_ofSquare_26 rfl (lv_at hl 0 rfl) ?_
    refine lv_iconst (pc := 27) (v := (iI 1)) hx hb dX10_ofSquare_27 rfl ?_
    obtain ⟨v3, h4, ev, hs⟩ := q_cal2 hs
    refine q_callV (pc := 28) (q := 0) (As := [.int (iI 1)]) (rest := []) (rs := [.int v3]) hx hb hml hl.1 hts hown hK hSt hN hw (c_X10_fail l G (iI 1) h v3 h4 ev) rfl rfl cv_X10_87 (rm_ok hR (by decide)) rfl (Nat.le_of_ble_eq_true rfl) rfl rfl dX10_ofSquare_28 (fun H locs hw => ?_)
    exact q_iretW hret dX10_ofSquare_31 hw hs
  · intro K2 hK2 hs
    refine lv_if_eq (pc := 13) (tgt := 26) hx hb dX10_ofSquare_13 (by decide) (fun hc => ?_) (fun hc => ?_)
    · replace hs := q_t hc hs
      exact hK2 hs _ _ hw _ (lv_sub hl [1] rfl)
    · replace hs := q_f hc hs
      refine lv_iload_n (pc := 16) hx hb dX10_ofSquare_16 rfl (lv_at hl 3 rfl) ?_
      refine lv_iconst (pc := 17) (v := (iI 0)) hx hb dX10_ofSquare_17 rfl ?_
      refine lv_bipush (pc := 18) (v := (iI 7)) hx hb dX10_ofSquare_18 (by decide) ?_
      obtain ⟨v5, ev, hs⟩ := q_cal hs
      refine q_callS (pc := 20) (As := [.int a2, .int (iI 0), .int (iI 7)]) (rest := []) (rs := [.int v5]) hx hb hml hl.1 hts hown hK hSt hN hw (c_X10_within l G a2 (iI 0) (iI 7) h v5 ev) cs_X10_83 (rm_ok hR (by decide)) rfl (Nat.le_of_ble_eq_true rfl) rfl rfl dX10_ofSquare_20 (fun H locs hw => ?_)
      refine lv_if_ne (pc := 23) (tgt := 32) hx hb dX10_ofSquare_23 (by decide) (fun hc => ?_) (fun hc => ?_)
      · replace hs := q_t hc hs
        refine lv_aload_n (pc := 32) hx hb dX10_ofSquare_32 rfl (lv_at hl 0 rfl) ?_
        refine q_getR (pc := 33) (q := 3) (o := 1) hx hb hts hown hK hw rfl fg_X10_106 dX10_ofSquare_33 ?_
        refine lv_iload_n (pc := 36) hx hb dX10_ofSquare_36 rfl (lv_at hl 2 rfl) ?_
        refine q_ald (pc := 37) (q := 4) (n := 25) hx hb hK hw rfl dX10_ofSquare_37 hs (fun v6 hs => ?_)
        refine lv_istore (pc := 38) (lv' := [(4, .int v6), (3, .ref (G.2.2.1 3)), (0, .ref (G.2.2.1 0)), (1, .int a1), (2, .int a2)]) hx hb dX10_ofSquare_38 hl (by decide) rfl (fun ls hl => ?_)
        refine lv_iload_n (pc := 40) hx hb dX10_ofSquare_40 rfl (lv_at hl 4 rfl) ?_
        by_cases hc0 : a2 = iI 0
        · replace hs := q_t hc0 hs
          refine lv_tableIn (pc := 41) (off := 43) (tgt := 84) hx hb dX10_ofSquare_41 (by rw [hc0]; decide) (by rw [hc0]; decide) (by rw [hc0]; decide) (by decide) ?_
          refine lv_iload (pc := 84) hx hb dX10_ofSquare_84 (lv_at hl 0 rfl) ?_
          exact q_iretW hret dX10_ofSquare_86 hw hs
        replace hs := q_f hc0 hs
        by_cases hc1 : a2 = iI 1
        · replace hs := q_t hc1 hs
          refine lv_tableIn (pc := 41) (off := 46) (tgt := 87) hx hb dX10_ofSquare_41 (by rw [hc1]; decide) (by rw [hc1]; decide) (by rw [hc1]; decide) (by decide) ?_
          refine lv_aload_n (pc := 87) hx hb dX10_ofSquare_87 rfl (lv_at hl 1 rfl) ?_
          refine q_getR (pc := 88) (q := 3) (o := 2) hx hb hts hown hK hw rfl fg_X10_113 dX10_ofSquare_88 ?_
          refine lv_iload_n (pc := 91) hx hb dX10_ofSquare_91 rfl (lv_at hl 3 rfl) ?_
          refine q_ald (pc := 92) (q := 5) (n := 25) hx hb hK hw rfl dX10_ofSquare_92 hs (fun v7 hs => ?_)
          exact q_iretW hret dX10_ofSquare_93 hw hs
        replace hs := q_f hc1 hs
        by_cases hc2 : a2 = iI 2
        · replace hs := q_t hc2 hs
          refine lv_tableIn (pc := 41) (off := 53) (tgt := 94) hx hb dX10_ofSquare_41 (by rw [hc2]; decide) (by rw [hc2]; decide) (by rw [hc2]; decide) (by decide) ?_
          refine lv_aload_n (pc := 94) hx hb dX10_ofSquare_94 rfl (lv_at hl 1 rfl) ?_
          refine lv_iload_n (pc := 95) hx hb dX10_ofSquare_95 rfl (lv_at hl 3 rfl) ?_
          obtain ⟨v8, ev, hs⟩ := q_cal hs
          refine q_callV (pc := 96) (q := 3) (As := [.int a1]) (rest := []) (rs := [.int v8]) hx hb hml hl.1 hts hown hK hSt hN hw (c_X3_slantOf l G 3 rfl a1 h v8 ev) rfl rfl cv_X10_116 (rm_ok hR (by decide)) rfl (Nat.le_of_ble_eq_true rfl) rfl rfl dX10_ofSquare_96 (fun H locs hw => ?_)
          exact q_iretW hret dX10_ofSquare_99 hw hs
        replace hs := q_f hc2 hs
        by_cases hc3 : a2 = iI 3
        · replace hs := q_t hc3 hs
          refine lv_tableIn (pc := 41) (off := 59) (tgt := 100) hx hb dX10_ofSquare_41 (by rw [hc3]; decide) (by rw [hc3]; decide) (by rw [hc3]; decide) (by decide) ?_
          refine lv_aload_n (pc := 100) hx hb dX10_ofSquare_100 rfl (lv_at hl 1 rfl) ?_
          refine lv_iload_n (pc := 101) hx hb dX10_ofSquare_101 rfl (lv_at hl 3 rfl) ?_
          obtain ⟨v9, ev, hs⟩ := q_cal hs
          refine q_callV (pc := 102) (q := 3) (As := [.int a1]) (rest := []) (rs := [.int v9]) hx hb hml hl.1 hts hown hK hSt hN hw (c_X3_timeOf l G 3 rfl a1 h v9 ev) rfl rfl cv_X10_119 (rm_ok hR (by decide)) rfl (Nat.le_of_ble_eq_true rfl) rfl rfl dX10_ofSquare_102 (fun H locs hw => ?_)
          exact q_iretW hret dX10_ofSquare_105 hw hs
        replace hs := q_f hc3 hs
        by_cases hc4 : a2 = iI 4
        · replace hs := q_t hc4 hs
          refine lv_tableIn (pc := 41) (off := 65) (tgt := 106) hx hb dX10_ofSquare_41 (by rw [hc4]; decide) (by rw [hc4]; decide) (by rw [hc4]; decide) (by decide) ?_
          refine lv_aload_n (pc := 106) hx hb dX10_ofSquare_106 rfl (lv_at hl 1 rfl) ?_
          refine q_getR (pc := 107) (q := 3) (o := 3) hx hb hts hown hK hw rfl fg_X10_122 dX10_ofSquare_107 ?_
          refine lv_iload_n (pc := 110) hx hb dX10_ofSquare_110 rfl (lv_at hl 3 rfl) ?_
          refine q_ald (pc := 111) (q := 6) (n := 25) hx hb hK hw rfl dX10_ofSquare_111 hs (fun v10 hs => ?_)
          exact q_iretW hret dX10_ofSquare_112 hw hs
        replace hs := q_f hc4 hs
        by_cases hc5 : a2 = iI 5
        · replace hs := q_t hc5 hs
          refine lv_tableIn (pc := 41) (off := 72) (tgt := 113) hx hb dX10_ofSquare_41 (by rw [hc5]; decide) (by rw [hc5]; decide) (by rw [hc5]; decide) (by decide) ?_
          refine lv_aload_n (pc := 113) hx hb dX10_ofSquare_113 rfl (lv_at hl 1 rfl) ?_
          refine lv_iload_n (pc := 114) hx hb dX10_ofSquare_114 rfl (lv_at hl 3 rfl) ?_
          obtain ⟨v11, ev, hs⟩ := q_cal hs
          refine q_callV (pc := 115) (q := 3) (As := [.int a1]) (rest := []) (rs := [.int v11]) hx hb hml hl.1 hts hown hK hSt hN hw (c_X3_handCan l G 3 rfl a1 h v11 ev) rfl rfl cv_X10_125 (rm_ok hR (by decide)) rfl (Nat.le_of_ble_eq_true rfl) rfl rfl dX10_ofSquare_115 (fun H locs hw => ?_)
          refine lv_if_eq (pc := 118) (tgt := 132) hx hb dX10_ofSquare_118 (by decide) (fun hc => ?_) (fun hc => ?_)
          · replace hs := q_t hc hs
            refine lv_iconst (pc := 132) (v := (iI (-1))) hx hb dX10_ofSquare_132 rfl ?_
            exact q_iretW hret dX10_ofSquare_133 hw hs
          · replace hs := q_f hc hs
            refine lv_aload_n (pc := 121) hx hb dX10_ofSquare_121 rfl (lv_at hl 2 rfl) ?_
            refine q_getR (pc := 122) (q := 0) (o := 2) hx hb hts hown hK hw rfl fg_X10_16 dX10_ofSquare_122 ?_
            refine lv_iload_n (pc := 125) hx hb dX10_ofSquare_125 rfl (lv_at hl 3 rfl) ?_
            obtain ⟨v12, h13, ev, hs⟩ := q_cal2 hs
            refine q_callV (pc := 126) (q := 2) (As := [.int a1]) (rest := []) (rs := [.int v12]) hx hb hml hl.1 hts hown hK hSt hN hw (c_X9_handCost l G 2 rfl a1 h v12 h13 ev) rfl rfl cv_X10_128 (rm_ok hR (by decide)) rfl (Nat.le_of_ble_eq_true rfl) rfl rfl dX10_ofSquare_126 (fun H locs hw => ?_)
            refine lv_goto (pc := 129) (tgt := 133) hx hb dX10_ofSquare_129 (by decide) ?_
            exact q_iretW hret dX10_ofSquare_133 hw hs
        replace hs := q_f hc5 hs
        by_cases hc6 : a2 = iI 6
        · replace hs := q_t hc6 hs
          refine lv_tableIn (pc := 41) (off := 93) (tgt := 134) hx hb dX10_ofSquare_41 (by rw [hc6]; decide) (by rw [hc6]; decide) (by rw [hc6]; decide) (by decide) ?_
          refine lv_iload (pc := 134) hx hb dX10_ofSquare_134 (lv_at hl 0 rfl) ?_
          obtain ⟨v14, ev, hs⟩ := q_cal hs
          refine q_callS (pc := 136) (As := [.int v6]) (rest := []) (rs := [.int v14]) hx hb hml hl.1 hts hown hK hSt hN hw (c_X3_throwsRays l G v6 h v14 ev) cs_X10_131 (rm_ok hR (by decide)) rfl (Nat.le_of_ble_eq_true rfl) rfl rfl dX10_ofSquare_136 (fun H locs hw => ?_)
          refine lv_if_eq (pc := 139) (tgt := 146) hx hb dX10_ofSquare_139 (by decide) (fun hc => ?_) (fun hc => ?_)
          · replace hs := q_t hc hs
            refine lv_iconst (pc := 146) (v := (iI 0)) hx hb dX10_ofSquare_146 rfl ?_
            exact q_iretW hret dX10_ofSquare_147 hw hs
          · replace hs := q_f hc hs
            refine lv_iconst (pc := 142) (v := (iI 1)) hx hb dX10_ofSquare_142 rfl ?_
            refine lv_goto (pc := 143) (tgt := 147) hx hb dX10_ofSquare_143 (by decide) ?_
            exact q_iretW hret dX10_ofSquare_147 hw hs
        replace hs := q_f hc6 hs
        refine lv_tableOut (pc := 41) (tgt := 148) hx hb dX10_ofSquare_41 (by have thc0 := toInt_ne hc0; have thc1 := toInt_ne hc1; have thc2 := toInt_ne hc2; have thc3 := toInt_ne hc3; have thc4 := toInt_ne hc4; have thc5 := toInt_ne hc5; have thc6 := toInt_ne hc6; omega) (by decide) ?_
        refine lv_iload (pc := 148) hx hb dX10_ofSquare_148 (lv_at hl 0 rfl) ?_
        obtain ⟨v15, ev, hs⟩ := q_cal hs
        refine q_callS (pc := 150) (As := [.int v6]) (rest := []) (rs := [.int v15]) hx hb hml hl.1 hts hown hK hSt hN hw (c_X3_stopsRays l G v6 h v15 ev) cs_X10_134 (rm_ok hR (by decide)) rfl (Nat.le_of_ble_eq_true rfl) rfl rfl dX10_ofSquare_150 (fun H locs hw => ?_)
        refine lv_if_eq (pc := 153) (tgt := 160) hx hb dX10_ofSquare_153 (by decide) (fun hc => ?_) (fun hc => ?_)
        · replace hs := q_t hc hs
          refine lv_iconst (pc := 160) (v := (iI 0)) hx hb dX10_ofSquare_160 rfl ?_
          exact q_iretW hret dX10_ofSquare_161 hw hs
        · replace hs := q_f hc hs
          refine lv_iconst (pc := 156) (v := (iI 1)) hx hb dX10_ofSquare_156 rfl ?_
          refine lv_goto (pc := 157) (tgt := 161) hx hb dX10_ofSquare_157 (by decide) ?_
          exact q_iretW hret dX10_ofSquare_161 hw hs
      · replace hs := q_f (fun z => z hc) hs
        exact hK2 hs _ _ hw _ (lv_sub hl [1] rfl)

set_option maxHeartbeats 4000000 in
theorem c_X10_hand (l : Launch) (G : GG) (a1 : Int32) (h : Mem) (v : Int32) (h' : Mem) (hs : f_X10_hand h a1 = some (v, h')) : Sat l G yX10_hand cX10_hand 2 (some .int) 5 [.ref (G.2.2.1 0), .int a1] h (some (.int v)) h' := by
  refine Sat.mkI (by decide) (Nat.le_of_ble_eq_true rfl) ?_
  intro p e R s m args below meth c Q F hret hw ls hl
  obtain ⟨hx, hb, hml, hown, hts, hK, hSt, hN, hR⟩ := F
  have hl : lv_has ls 2 [(0, .ref (G.2.2.1 0)), (1, .int a1)] := hl
  unfold f_X10_hand at hs
  refine lv_aload_n (pc := 0) hx hb dX10_hand_0 rfl (lv_at hl 0 rfl) ?_
  refine q_getR (pc := 1) (q := 0) (o := 2) hx hb hts hown hK hw rfl fg_X10_16 dX10_hand_1 ?_
  refine q_getR (pc := 4) (q := 2) (o := 1) hx hb hts hown hK hw rfl fg_X10_91 dX10_hand_4 ?_
  refine lv_iload_n (pc := 7) hx hb dX10_hand_7 rfl (lv_at hl 1 rfl) ?_
  obtain ⟨v1, ev, hs⟩ := q_cal hs
  refine q_callV (pc := 8) (q := 3) (As := [.int a1]) (rest := []) (rs := [.int v1]) hx hb hml hl.1 hts hown hK hSt hN hw (c_X3_hasSquare l G 3 rfl a1 h v1 ev) rfl rfl cv_X10_102 (rm_ok hR (by decide)) rfl (Nat.le_of_ble_eq_true rfl) rfl rfl dX10_hand_8 (fun H locs hw => ?_)
  refine lv_if_ne (pc := 11) (tgt := 20) hx hb dX10_hand_11 (by decide) (fun hc => ?_) (fun hc => ?_)
  · replace hs := q_t hc hs
    refine lv_aload_n (pc := 20) hx hb dX10_hand_20 rfl (lv_at hl 0 rfl) ?_
    refine q_getR (pc := 21) (q := 0) (o := 2) hx hb hts hown hK hw rfl fg_X10_16 dX10_hand_21 ?_
    refine lv_iload_n (pc := 24) hx hb dX10_hand_24 rfl (lv_at hl 1 rfl) ?_
    obtain ⟨v2, h3, ev, hs⟩ := q_cal2 hs
    refine q_callV (pc := 25) (q := 2) (As := [.int a1]) (rest := []) (rs := [.int v2]) hx hb hml hl.1 hts hown hK hSt hN hw (c_X9_handTurns l G 2 rfl a1 h v2 h3 ev) rfl rfl cv_X10_141 (rm_ok hR (by decide)) rfl (Nat.le_of_ble_eq_true rfl) rfl rfl dX10_hand_25 (fun H locs hw => ?_)
    refine lv_if_eq (pc := 28) (tgt := 45) hx hb dX10_hand_28 (by decide) (fun hc => ?_) (fun hc => ?_)
    · replace hs := q_t hc hs
      refine lv_aload_n (pc := 45) hx hb dX10_hand_45 rfl (lv_at hl 0 rfl) ?_
      refine lv_iconst (pc := 46) (v := (iI 3)) hx hb dX10_hand_46 rfl ?_
      obtain ⟨v4, h5, ev, hs⟩ := q_cal2 hs
      refine q_callV (pc := 47) (q := 0) (As := [.int (iI 3)]) (rest := []) (rs := [.int v4]) hx hb hml hl.1 hts hown hK hSt hN hw (c_X10_fail l G (iI 3) h3 v4 h5 ev) rfl rfl cv_X10_87 (rm_ok hR (by decide)) rfl (Nat.le_of_ble_eq_true rfl) rfl rfl dX10_hand_47 (fun H locs hw => ?_)
      exact q_iretW hret dX10_hand_50 hw hs
    · replace hs := q_f hc hs
      refine lv_aload_n (pc := 31) hx hb dX10_hand_31 rfl (lv_at hl 0 rfl) ?_
      refine q_getR (pc := 32) (q := 0) (o := 2) hx hb hts hown hK hw rfl fg_X10_16 dX10_hand_32 ?_
      refine q_getR (pc := 35) (q := 2) (o := 1) hx hb hts hown hK hw rfl fg_X10_91 dX10_hand_35 ?_
      refine lv_iload_n (pc := 38) hx hb dX10_hand_38 rfl (lv_at hl 1 rfl) ?_
      obtain ⟨v6, ev, hs⟩ := q_cal hs
      refine q_callV (pc := 39) (q := 3) (As := [.int a1]) (rest := []) (rs := [.int v6]) hx hb hml hl.1 hts hown hK hSt hN hw (c_X3_slantOf l G 3 rfl a1 h3 v6 ev) rfl rfl cv_X10_116 (rm_ok hR (by decide)) rfl (Nat.le_of_ble_eq_true rfl) rfl rfl dX10_hand_39 (fun H locs hw => ?_)
      refine lv_goto (pc := 42) (tgt := 50) hx hb dX10_hand_42 (by decide) ?_
      exact q_iretW hret dX10_hand_50 hw hs
  · replace hs := q_f (fun z => z hc) hs
    refine lv_aload_n (pc := 14) hx hb dX10_hand_14 rfl (lv_at hl 0 rfl) ?_
    refine lv_iconst (pc := 15) (v := (iI 1)) hx hb dX10_hand_15 rfl ?_
    obtain ⟨v7, h8, ev, hs⟩ := q_cal2 hs
    refine q_callV (pc := 16) (q := 0) (As := [.int (iI 1)]) (rest := []) (rs := [.int v7]) hx hb hml hl.1 hts hown hK hSt hN hw (c_X10_fail l G (iI 1) h v7 h8 ev) rfl rfl cv_X10_87 (rm_ok hR (by decide)) rfl (Nat.le_of_ble_eq_true rfl) rfl rfl dX10_hand_16 (fun H locs hw => ?_)
    exact q_iretW hret dX10_hand_19 hw hs

set_option maxHeartbeats 4000000 in
theorem c_X10_let (l : Launch) (G : GG) (a1 : Int32) (h : Mem) (v : Int32) (h' : Mem) (hs : f_X10_let h a1 = some (v, h')) : Sat l G yX10_let cX10_let 2 (some .int) 4 [.ref (G.2.2.1 0), .int a1] h (some (.int v)) h' := by
  refine Sat.mkI (by decide) (Nat.le_of_ble_eq_true rfl) ?_
  intro p e R s m args below meth c Q F hret hw ls hl
  obtain ⟨hx, hb, hml, hown, hts, hK, hSt, hN, hR⟩ := F
  have hl : lv_has ls 2 [(0, .ref (G.2.2.1 0)), (1, .int a1)] := hl
  unfold f_X10_let at hs
  refine lv_aload_n (pc := 0) hx hb dX10_let_0 rfl (lv_at hl 0 rfl) ?_
  refine q_getR (pc := 1) (q := 0) (o := 2) hx hb hts hown hK hw rfl fg_X10_16 dX10_let_1 ?_
  refine q_getR (pc := 4) (q := 2) (o := 1) hx hb hts hown hK hw rfl fg_X10_91 dX10_let_4 ?_
  refine lv_iload_n (pc := 7) hx hb dX10_let_7 rfl (lv_at hl 1 rfl) ?_
  obtain ⟨v1, ev, hs⟩ := q_cal hs
  refine q_callV (pc := 8) (q := 3) (As := [.int a1]) (rest := []) (rs := [.int v1]) hx hb hml hl.1 hts hown hK hSt hN hw (c_X3_hasWindow l G 3 rfl a1 h v1 ev) rfl rfl cv_X10_147 (rm_ok hR (by decide)) rfl (Nat.le_of_ble_eq_true rfl) rfl rfl dX10_let_8 (fun H locs hw => ?_)
  refine lv_if_eq (pc := 11) (tgt := 29) hx hb dX10_let_11 (by decide) (fun hc => ?_) (fun hc => ?_)
  · replace hs := q_t hc hs
    refine lv_aload_n (pc := 29) hx hb dX10_let_29 rfl (lv_at hl 0 rfl) ?_
    refine lv_iconst (pc := 30) (v := (iI 1)) hx hb dX10_let_30 rfl ?_
    obtain ⟨v2, h3, ev, hs⟩ := q_cal2 hs
    refine q_callV (pc := 31) (q := 0) (As := [.int (iI 1)]) (rest := []) (rs := [.int v2]) hx hb hml hl.1 hts hown hK hSt hN hw (c_X10_fail l G (iI 1) h v2 h3 ev) rfl rfl cv_X10_87 (rm_ok hR (by decide)) rfl (Nat.le_of_ble_eq_true rfl) rfl rfl dX10_let_31 (fun H locs hw => ?_)
    exact q_iretW hret dX10_let_34 hw hs
  · replace hs := q_f hc hs
    refine lv_aload_n (pc := 14) hx hb dX10_let_14 rfl (lv_at hl 0 rfl) ?_
    refine q_getR (pc := 15) (q := 0) (o := 2) hx hb hts hown hK hw rfl fg_X10_16 dX10_let_15 ?_
    refine lv_aload_n (pc := 18) hx hb dX10_let_18 rfl (lv_at hl 0 rfl) ?_
    refine q_getR (pc := 19) (q := 0) (o := 29) hx hb hts hown hK hw rfl fg_X10_36 dX10_let_19 ?_
    refine lv_iload_n (pc := 22) hx hb dX10_let_22 rfl (lv_at hl 1 rfl) ?_
    obtain ⟨v4, h5, ev, hs⟩ := q_cal2 hs
    refine q_callV (pc := 23) (q := 2) (As := [.ref (G.2.2.1 29), .int a1]) (rest := []) (rs := [.int v4]) hx hb hml hl.1 hts hown hK hSt hN hw (c_X9_rayIn l G 2 rfl 29 rfl a1 h v4 h5 ev) rfl rfl cv_X10_150 (rm_ok hR (by decide)) rfl (Nat.le_of_ble_eq_true rfl) rfl rfl dX10_let_23 (fun H locs hw => ?_)
    refine lv_goto (pc := 26) (tgt := 34) hx hb dX10_let_26 (by decide) ?_
    exact q_iretW hret dX10_let_34 hw hs

set_option maxHeartbeats 4000000 in
theorem c_X10_out (l : Launch) (G : GG) (a1 : Int32) (a2 : Int32) (h : Mem) (v : Int32) (h' : Mem) (hs : f_X10_out h a1 a2 = some (v, h')) : Sat l G yX10_out cX10_out 4 (some .int) 3 [.ref (G.2.2.1 0), .int a1, .int a2] h (some (.int v)) h' := by
  refine Sat.mkI (by decide) (Nat.le_of_ble_eq_true rfl) ?_
  intro p e R s m args below meth c Q F hret hw ls hl
  obtain ⟨hx, hb, hml, hown, hts, hK, hSt, hN, hR⟩ := F
  have hl : lv_has ls 4 [(0, .ref (G.2.2.1 0)), (1, .int a1), (2, .int a2)] := hl
  unfold f_X10_out at hs
  refine lv_aload_n (pc := 0) hx hb dX10_out_0 rfl (lv_at hl 0 rfl) ?_
  refine q_getR (pc := 1) (q := 0) (o := 2) hx hb hts hown hK hw rfl fg_X10_16 dX10_out_1 ?_
  refine q_getR (pc := 4) (q := 2) (o := 1) hx hb hts hown hK hw rfl fg_X10_91 dX10_out_4 ?_
  refine lv_iload_n (pc := 7) hx hb dX10_out_7 rfl (lv_at hl 1 rfl) ?_
  obtain ⟨v1, ev, hs⟩ := q_cal hs
  refine q_callV (pc := 8) (q := 3) (As := [.int a1]) (rest := []) (rs := [.int v1]) hx hb hml hl.1 hts hown hK hSt hN hw (c_X3_hasWindow l G 3 rfl a1 h v1 ev) rfl rfl cv_X10_147 (rm_ok hR (by decide)) rfl (Nat.le_of_ble_eq_true rfl) rfl rfl dX10_out_8 (fun H locs hw => ?_)
  refine q_join0 (P0 := ∀ (H : Heap) (locs : List Loc), IW G s h H locs → ∀ ls : Array Slot, lv_has ls 4 [(0, .ref (G.2.2.1 0))] → W p l e R s m args below meth c H locs 0 0 Q (F0 m 23 ls [])) hs ?_ ?_
  · intro  hs H locs hw ls hl
    refine lv_aload_n (pc := 23) hx hb dX10_out_23 rfl (lv_at hl 0 rfl) ?_
    refine lv_iconst (pc := 24) (v := (iI 1)) hx hb dX10_out_24 rfl ?_
    obtain ⟨v3, h4, ev, hs⟩ := q_cal2 hs
    refine q_callV (pc := 25) (q := 0) (As := [.int (iI 1)]) (rest := []) (rs := [.int v3]) hx hb hml hl.1 hts hown hK hSt hN hw (c_X10_fail l G (iI 1) h v3 h4 ev) rfl rfl cv_X10_87 (rm_ok hR (by decide)) rfl (Nat.le_of_ble_eq_true rfl) rfl rfl dX10_out_25 (fun H locs hw => ?_)
    exact q_iretW hret dX10_out_28 hw hs
  · intro K2 hK2 hs
    refine lv_if_eq (pc := 11) (tgt := 23) hx hb dX10_out_11 (by decide) (fun hc => ?_) (fun hc => ?_)
    · replace hs := q_t hc hs
      exact hK2 hs _ _ hw _ (lv_sub hl [0] rfl)
    · replace hs := q_f hc hs
      refine lv_iload_n (pc := 14) hx hb dX10_out_14 rfl (lv_at hl 2 rfl) ?_
      refine lv_iconst (pc := 15) (v := (iI 0)) hx hb dX10_out_15 rfl ?_
      refine lv_iconst (pc := 16) (v := (iI 3)) hx hb dX10_out_16 rfl ?_
      obtain ⟨v5, ev, hs⟩ := q_cal hs
      refine q_callS (pc := 17) (As := [.int a2, .int (iI 0), .int (iI 3)]) (rest := []) (rs := [.int v5]) hx hb hml hl.1 hts hown hK hSt hN hw (c_X10_within l G a2 (iI 0) (iI 3) h v5 ev) cs_X10_83 (rm_ok hR (by decide)) rfl (Nat.le_of_ble_eq_true rfl) rfl rfl dX10_out_17 (fun H locs hw => ?_)
      refine lv_if_ne (pc := 20) (tgt := 29) hx hb dX10_out_20 (by decide) (fun hc => ?_) (fun hc => ?_)
      · replace hs := q_t hc hs
        refine lv_aload_n (pc := 29) hx hb dX10_out_29 rfl (lv_at hl 0 rfl) ?_
        refine q_getR (pc := 30) (q := 0) (o := 30) hx hb hts hown hK hw rfl fg_X10_43 dX10_out_30 ?_
        refine lv_aload_n (pc := 33) hx hb dX10_out_33 rfl (lv_at hl 0 rfl) ?_
        refine q_getR (pc := 34) (q := 0) (o := 2) hx hb hts hown hK hw rfl fg_X10_16 dX10_out_34 ?_
        refine q_getR (pc := 37) (q := 2) (o := 1) hx hb hts hown hK hw rfl fg_X10_91 dX10_out_37 ?_
        obtain ⟨h6, ev, hs⟩ := q_cal hs
        refine q_callV (pc := 40) (q := 30) (As := [.ref (G.2.2.1 3)]) (rest := []) (rs := []) hx hb hml hl.1 hts hown hK hSt hN hw (c_X3_copyFrom l G 30 rfl 3 rfl h h6 ev) rfl rfl cv_X10_154 (rm_ok hR (by decide)) rfl (Nat.le_of_ble_eq_true rfl) rfl rfl dX10_out_40 (fun H locs hw => ?_)
        refine lv_aload_n (pc := 43) hx hb dX10_out_43 rfl (lv_at hl 0 rfl) ?_
        refine q_getR (pc := 44) (q := 0) (o := 29) hx hb hts hown hK hw rfl fg_X10_36 dX10_out_44 ?_
        refine lv_aload_n (pc := 47) hx hb dX10_out_47 rfl (lv_at hl 0 rfl) ?_
        refine q_getR (pc := 48) (q := 0) (o := 30) hx hb hts hown hK hw rfl fg_X10_43 dX10_out_48 ?_
        refine lv_iload_n (pc := 51) hx hb dX10_out_51 rfl (lv_at hl 1 rfl) ?_
        obtain ⟨v7, h8, ev, hs⟩ := q_cal2 hs
        refine q_callV (pc := 52) (q := 29) (As := [.ref (G.2.2.1 30), .int a1]) (rest := []) (rs := [.int v7]) hx hb hml hl.1 hts hown hK hSt hN hw (c_X0_run l G 29 rfl 30 rfl a1 h6 v7 h8 ev) rfl rfl cv_X10_158 (rm_ok hR (by decide)) rfl (Nat.le_of_ble_eq_true rfl) rfl rfl dX10_out_52 (fun H locs hw => ?_)
        refine lv_istore_n (pc := 55) (lv' := [(3, .int v7), (0, .ref (G.2.2.1 0)), (1, .int a1), (2, .int a2)]) hx hb dX10_out_55 rfl hl (by decide) rfl (fun ls hl => ?_)
        refine lv_iload_n (pc := 56) hx hb dX10_out_56 rfl (lv_at hl 3 rfl) ?_
        by_cases hc0 : a2 = iI 0
        · replace hs := q_t hc0 hs
          refine lv_tableIn (pc := 57) (off := 27) (tgt := 84) hx hb dX10_out_57 (by rw [hc0]; decide) (by rw [hc0]; decide) (by rw [hc0]; decide) (by decide) ?_
          refine lv_iload_n (pc := 84) hx hb dX10_out_84 rfl (lv_at hl 0 rfl) ?_
          exact q_iretW hret dX10_out_85 hw hs
        replace hs := q_f hc0 hs
        by_cases hc1 : a2 = iI 1
        · replace hs := q_t hc1 hs
          refine lv_tableIn (pc := 57) (off := 29) (tgt := 86) hx hb dX10_out_57 (by rw [hc1]; decide) (by rw [hc1]; decide) (by rw [hc1]; decide) (by decide) ?_
          refine lv_aload_n (pc := 86) hx hb dX10_out_86 rfl (lv_at hl 1 rfl) ?_
          refine q_getR (pc := 87) (q := 0) (o := 29) hx hb hts hown hK hw rfl fg_X10_36 dX10_out_87 ?_
          refine q_getI (pc := 90) (q := 29) hx hb hts hown hK hw rfl fg_X10_162 dX10_out_90 ?_
          exact q_iretW hret dX10_out_93 hw hs
        replace hs := q_f hc1 hs
        by_cases hc2 : a2 = iI 2
        · replace hs := q_t hc2 hs
          refine lv_tableIn (pc := 57) (off := 37) (tgt := 94) hx hb dX10_out_57 (by rw [hc2]; decide) (by rw [hc2]; decide) (by rw [hc2]; decide) (by decide) ?_
          refine lv_aload_n (pc := 94) hx hb dX10_out_94 rfl (lv_at hl 1 rfl) ?_
          refine q_getR (pc := 95) (q := 0) (o := 29) hx hb hts hown hK hw rfl fg_X10_36 dX10_out_95 ?_
          refine q_getI (pc := 98) (q := 29) hx hb hts hown hK hw rfl fg_X10_165 dX10_out_98 ?_
          exact q_iretW hret dX10_out_101 hw hs
        replace hs := q_f hc2 hs
        refine lv_tableOut (pc := 57) (tgt := 102) hx hb dX10_out_57 (by have thc0 := toInt_ne hc0; have thc1 := toInt_ne hc1; have thc2 := toInt_ne hc2; omega) (by decide) ?_
        refine lv_aload_n (pc := 102) hx hb dX10_out_102 rfl (lv_at hl 1 rfl) ?_
        refine q_getR (pc := 103) (q := 0) (o := 30) hx hb hts hown hK hw rfl fg_X10_43 dX10_out_103 ?_
        refine q_getI (pc := 106) (q := 30) hx hb hts hown hK hw rfl fg_X10_144 dX10_out_106 ?_
        refine lv_aload_n (pc := 109) hx hb dX10_out_109 rfl (lv_at hl 1 rfl) ?_
        refine q_getR (pc := 110) (q := 0) (o := 2) hx hb hts hown hK hw rfl fg_X10_16 dX10_out_110 ?_
        refine q_getR (pc := 113) (q := 2) (o := 1) hx hb hts hown hK hw rfl fg_X10_91 dX10_out_113 ?_
        refine q_getI (pc := 116) (q := 3) hx hb hts hown hK hw rfl fg_X10_144 dX10_out_116 ?_
        refine lv_ixor (pc := 119) hx hb dX10_out_119 ?_
        obtain ⟨v9, ev, hs⟩ := q_cal hs
        refine q_callS (pc := 120) (As := [.int ((gI h8 30 5) ^^^ (gI h8 3 5))]) (rest := []) (rs := [.int v9]) hx hb hml hl.1 hts hown hK hSt hN hw (c_J6_bitCount_0f7a4 l G ((gI h8 30 5) ^^^ (gI h8 3 5)) h8 v9 ev) cs_X10_168 (rm_ok hR (by decide)) rfl (Nat.le_of_ble_eq_true rfl) rfl rfl dX10_out_120 (fun H locs hw => ?_)
        exact q_iretW hret dX10_out_123 hw hs
      · replace hs := q_f (fun z => z hc) hs
        exact hK2 hs _ _ hw _ (lv_sub hl [0] rfl)

set_option maxHeartbeats 4000000 in
theorem c_X10_way (l : Launch) (G : GG) (a1 : Int32) (a2 : Int32) (h : Mem) (v : Int32) (h' : Mem) (hs : f_X10_way h a1 a2 = some (v, h')) : Sat l G yX10_way cX10_way 4 (some .int) 4 [.ref (G.2.2.1 0), .int a1, .int a2] h (some (.int v)) h' := by
  refine Sat.mkI (by decide) (Nat.le_of_ble_eq_true rfl) ?_
  intro p e R s m args below meth c Q F hret hw ls hl
  obtain ⟨hx, hb, hml, hown, hts, hK, hSt, hN, hR⟩ := F
  have hl : lv_has ls 4 [(0, .ref (G.2.2.1 0)), (1, .int a1), (2, .int a2)] := hl
  unfold f_X10_way at hs
  refine lv_aload_n (pc := 0) hx hb dX10_way_0 rfl (lv_at hl 0 rfl) ?_
  refine q_getR (pc := 1) (q := 0) (o := 2) hx hb hts hown hK hw rfl fg_X10_16 dX10_way_1 ?_
  refine q_getR (pc := 4) (q := 2) (o := 1) hx hb hts hown hK hw rfl fg_X10_91 dX10_way_4 ?_
  refine lv_iload_n (pc := 7) hx hb dX10_way_7 rfl (lv_at hl 1 rfl) ?_
  obtain ⟨v1, ev, hs⟩ := q_cal hs
  refine q_callV (pc := 8) (q := 3) (As := [.int a1]) (rest := []) (rs := [.int v1]) hx hb hml hl.1 hts hown hK hSt hN hw (c_X3_hasWindow l G 3 rfl a1 h v1 ev) rfl rfl cv_X10_147 (rm_ok hR (by decide)) rfl (Nat.le_of_ble_eq_true rfl) rfl rfl dX10_way_8 (fun H locs hw => ?_)
  refine q_join0 (P0 := ∀ (H : Heap) (locs : List Loc), IW G s h H locs → ∀ ls : Array Slot, lv_has ls 4 [(0, .ref (G.2.2.1 0))] → W p l e R s m args below meth c H locs 0 0 Q (F0 m 18 ls [])) hs ?_ ?_
  · intro  hs H locs hw ls hl
    refine lv_aload_n (pc := 18) hx hb dX10_way_18 rfl (lv_at hl 0 rfl) ?_
    refine lv_iconst (pc := 19) (v := (iI 1)) hx hb dX10_way_19 rfl ?_
    obtain ⟨v3, h4, ev, hs⟩ := q_cal2 hs
    refine q_callV (pc := 20) (q := 0) (As := [.int (iI 1)]) (rest := []) (rs := [.int v3]) hx hb hml hl.1 hts hown hK hSt hN hw (c_X10_fail l G (iI 1) h v3 h4 ev) rfl rfl cv_X10_87 (rm_ok hR (by decide)) rfl (Nat.le_of_ble_eq_true rfl) rfl rfl dX10_way_20 (fun H locs hw => ?_)
    exact q_iretW hret dX10_way_23 hw hs
  · intro K2 hK2 hs
    refine lv_if_eq (pc := 11) (tgt := 18) hx hb dX10_way_11 (by decide) (fun hc => ?_) (fun hc => ?_)
    · replace hs := q_t hc hs
      exact hK2 hs _ _ hw _ (lv_sub hl [0] rfl)
    · replace hs := q_f hc hs
      refine lv_iload_n (pc := 14) hx hb dX10_way_14 rfl (lv_at hl 2 rfl) ?_
      refine lv_if_ge (pc := 15) (tgt := 24) hx hb dX10_way_15 (by decide) (fun hc => ?_) (fun hc => ?_)
      · replace hs := q_t hc hs
        refine lv_aload_n (pc := 24) hx hb dX10_way_24 rfl (lv_at hl 0 rfl) ?_
        refine q_getR (pc := 25) (q := 0) (o := 30) hx hb hts hown hK hw rfl fg_X10_43 dX10_way_25 ?_
        refine lv_aload_n (pc := 28) hx hb dX10_way_28 rfl (lv_at hl 0 rfl) ?_
        refine q_getR (pc := 29) (q := 0) (o := 2) hx hb hts hown hK hw rfl fg_X10_16 dX10_way_29 ?_
        refine q_getR (pc := 32) (q := 2) (o := 1) hx hb hts hown hK hw rfl fg_X10_91 dX10_way_32 ?_
        obtain ⟨h5, ev, hs⟩ := q_cal hs
        refine q_callV (pc := 35) (q := 30) (As := [.ref (G.2.2.1 3)]) (rest := []) (rs := []) hx hb hml hl.1 hts hown hK hSt hN hw (c_X3_copyFrom l G 30 rfl 3 rfl h h5 ev) rfl rfl cv_X10_154 (rm_ok hR (by decide)) rfl (Nat.le_of_ble_eq_true rfl) rfl rfl dX10_way_35 (fun H locs hw => ?_)
        refine lv_aload_n (pc := 38) hx hb dX10_way_38 rfl (lv_at hl 0 rfl) ?_
        refine q_getR (pc := 39) (q := 0) (o := 29) hx hb hts hown hK hw rfl fg_X10_36 dX10_way_39 ?_
        refine lv_aload_n (pc := 42) hx hb dX10_way_42 rfl (lv_at hl 0 rfl) ?_
        refine q_getR (pc := 43) (q := 0) (o := 30) hx hb hts hown hK hw rfl fg_X10_43 dX10_way_43 ?_
        refine lv_iload_n (pc := 46) hx hb dX10_way_46 rfl (lv_at hl 1 rfl) ?_
        refine lv_iload_n (pc := 47) hx hb dX10_way_47 rfl (lv_at hl 2 rfl) ?_
        obtain ⟨v6, h7, ev, hs⟩ := q_cal2 hs
        refine q_callV (pc := 48) (q := 29) (As := [.ref (G.2.2.1 30), .int a1, .int a2]) (rest := []) (rs := [.int v6]) hx hb hml hl.1 hts hown hK hSt hN hw (c_X0_squareOnWay l G 29 rfl 30 rfl a1 a2 h5 v6 h7 ev) rfl rfl cv_X10_173 (rm_ok hR (by decide)) rfl (Nat.le_of_ble_eq_true rfl) rfl rfl dX10_way_48 (fun H locs hw => ?_)
        refine lv_istore_n (pc := 51) (lv' := [(3, .int v6), (0, .ref (G.2.2.1 0)), (1, .int a1), (2, .int a2)]) hx hb dX10_way_51 rfl hl (by decide) rfl (fun ls hl => ?_)
        refine lv_iload_n (pc := 52) hx hb dX10_way_52 rfl (lv_at hl 0 rfl) ?_
        refine lv_if_ge (pc := 53) (tgt := 64) hx hb dX10_way_53 (by decide) (fun hc => ?_) (fun hc => ?_)
        · replace hs := q_t hc hs
          refine lv_iload_n (pc := 64) hx hb dX10_way_64 rfl (lv_at hl 0 rfl) ?_
          exact q_iretW hret dX10_way_65 hw hs
        · replace hs := q_f hc hs
          refine lv_aload_n (pc := 56) hx hb dX10_way_56 rfl (lv_at hl 1 rfl) ?_
          refine lv_iconst (pc := 57) (v := (iI 2)) hx hb dX10_way_57 rfl ?_
          obtain ⟨v8, h9, ev, hs⟩ := q_cal2 hs
          refine q_callV (pc := 58) (q := 0) (As := [.int (iI 2)]) (rest := []) (rs := [.int v8]) hx hb hml hl.1 hts hown hK hSt hN hw (c_X10_fail l G (iI 2) h7 v8 h9 ev) rfl rfl cv_X10_87 (rm_ok hR (by decide)) rfl (Nat.le_of_ble_eq_true rfl) rfl rfl dX10_way_58 (fun H locs hw => ?_)
          refine lv_goto (pc := 61) (tgt := 65) hx hb dX10_way_61 (by decide) ?_
          exact q_iretW hret dX10_way_65 hw hs
      · replace hs := q_f hc hs
        exact hK2 hs _ _ hw _ (lv_sub hl [0] rfl)

set_option maxHeartbeats 4000000 in
theorem c_X10_undo (l : Launch) (G : GG) (a1 : Int32) (h : Mem) (v : Int32) (h' : Mem) (hs : f_X10_undo h a1 = some (v, h')) : Sat l G yX10_undo cX10_undo 3 (some .int) 3 [.ref (G.2.2.1 0), .int a1] h (some (.int v)) h' := by
  refine Sat.mkI (by decide) (Nat.le_of_ble_eq_true rfl) ?_
  intro p e R s m args below meth c Q F hret hw ls hl
  obtain ⟨hx, hb, hml, hown, hts, hK, hSt, hN, hR⟩ := F
  have hl : lv_has ls 3 [(0, .ref (G.2.2.1 0)), (1, .int a1)] := hl
  unfold f_X10_undo at hs
  refine lv_aload_n (pc := 0) hx hb dX10_undo_0 rfl (lv_at hl 0 rfl) ?_
  refine q_getR (pc := 1) (q := 0) (o := 2) hx hb hts hown hK hw rfl fg_X10_16 dX10_undo_1 ?_
  refine q_getR (pc := 4) (q := 2) (o := 1) hx hb hts hown hK hw rfl fg_X10_91 dX10_undo_4 ?_
  refine lv_iload_n (pc := 7) hx hb dX10_undo_7 rfl (lv_at hl 1 rfl) ?_
  obtain ⟨v1, ev, hs⟩ := q_cal hs
  refine q_callV (pc := 8) (q := 3) (As := [.int a1]) (rest := []) (rs := [.int v1]) hx hb hml hl.1 hts hown hK hSt hN hw (c_X3_hasWindow l G 3 rfl a1 h v1 ev) rfl rfl cv_X10_147 (rm_ok hR (by decide)) rfl (Nat.le_of_ble_eq_true rfl) rfl rfl dX10_undo_8 (fun H locs hw => ?_)
  refine lv_if_ne (pc := 11) (tgt := 20) hx hb dX10_undo_11 (by decide) (fun hc => ?_) (fun hc => ?_)
  · replace hs := q_t hc hs
    refine lv_aload_n (pc := 20) hx hb dX10_undo_20 rfl (lv_at hl 0 rfl) ?_
    refine q_getR (pc := 21) (q := 0) (o := 30) hx hb hts hown hK hw rfl fg_X10_43 dX10_undo_21 ?_
    refine lv_aload_n (pc := 24) hx hb dX10_undo_24 rfl (lv_at hl 0 rfl) ?_
    refine q_getR (pc := 25) (q := 0) (o := 2) hx hb hts hown hK hw rfl fg_X10_16 dX10_undo_25 ?_
    refine q_getR (pc := 28) (q := 2) (o := 1) hx hb hts hown hK hw rfl fg_X10_91 dX10_undo_28 ?_
    obtain ⟨h2, ev, hs⟩ := q_cal hs
    refine q_callV (pc := 31) (q := 30) (As := [.ref (G.2.2.1 3)]) (rest := []) (rs := []) hx hb hml hl.1 hts hown hK hSt hN hw (c_X3_copyFrom l G 30 rfl 3 rfl h h2 ev) rfl rfl cv_X10_154 (rm_ok hR (by decide)) rfl (Nat.le_of_ble_eq_true rfl) rfl rfl dX10_undo_31 (fun H locs hw => ?_)
    refine lv_aload_n (pc := 34) hx hb dX10_undo_34 rfl (lv_at hl 0 rfl) ?_
    refine q_getR (pc := 35) (q := 0) (o := 29) hx hb hts hown hK hw rfl fg_X10_36 dX10_undo_35 ?_
    refine lv_aload_n (pc := 38) hx hb dX10_undo_38 rfl (lv_at hl 0 rfl) ?_
    refine q_getR (pc := 39) (q := 0) (o := 30) hx hb hts hown hK hw rfl fg_X10_43 dX10_undo_39 ?_
    refine lv_iload_n (pc := 42) hx hb dX10_undo_42 rfl (lv_at hl 1 rfl) ?_
    obtain ⟨v3, h4, ev, hs⟩ := q_cal2 hs
    refine q_callV (pc := 43) (q := 29) (As := [.ref (G.2.2.1 30), .int a1]) (rest := []) (rs := [.int v3]) hx hb hml hl.1 hts hown hK hSt hN hw (c_X0_runBack l G 29 rfl 30 rfl a1 h2 v3 h4 ev) rfl rfl cv_X10_177 (rm_ok hR (by decide)) rfl (Nat.le_of_ble_eq_true rfl) rfl rfl dX10_undo_43 (fun H locs hw => ?_)
    refine lv_istore_n (pc := 46) (lv' := [(2, .int v3), (0, .ref (G.2.2.1 0)), (1, .int a1)]) hx hb dX10_undo_46 rfl hl (by decide) rfl (fun ls hl => ?_)
    refine lv_iload_n (pc := 47) hx hb dX10_undo_47 rfl (lv_at hl 0 rfl) ?_
    refine lv_bipush (pc := 48) (v := (iI 100)) hx hb dX10_undo_48 (by decide) ?_
    refine lv_icmp_ne (pc := 50) (tgt := 59) hx hb dX10_undo_50 (by decide) (fun hc => ?_) (fun hc => ?_)
    · replace hs := q_t hc hs
      refine lv_aload_n (pc := 59) hx hb dX10_undo_59 rfl (lv_at hl 1 rfl) ?_
      refine q_getR (pc := 60) (q := 0) (o := 2) hx hb hts hown hK hw rfl fg_X10_16 dX10_undo_60 ?_
      refine q_getR (pc := 63) (q := 2) (o := 1) hx hb hts hown hK hw rfl fg_X10_91 dX10_undo_63 ?_
      refine lv_aload_n (pc := 66) hx hb dX10_undo_66 rfl (lv_at hl 1 rfl) ?_
      refine q_getR (pc := 67) (q := 0) (o := 30) hx hb hts hown hK hw rfl fg_X10_43 dX10_undo_67 ?_
      obtain ⟨h5, ev, hs⟩ := q_cal hs
      refine q_callV (pc := 70) (q := 3) (As := [.ref (G.2.2.1 30)]) (rest := []) (rs := []) hx hb hml hl.1 hts hown hK hSt hN hw (c_X3_copyFrom l G 3 rfl 30 rfl h4 h5 ev) rfl rfl cv_X10_154 (rm_ok hR (by decide)) rfl (Nat.le_of_ble_eq_true rfl) rfl rfl dX10_undo_70 (fun H locs hw => ?_)
      refine lv_iload_n (pc := 73) hx hb dX10_undo_73 rfl (lv_at hl 0 rfl) ?_
      exact q_iretW hret dX10_undo_74 hw hs
    · replace hs := q_f (fun z => z hc) hs
      refine lv_aload_n (pc := 53) hx hb dX10_undo_53 rfl (lv_at hl 1 rfl) ?_
      refine lv_iconst (pc := 54) (v := (iI 3)) hx hb dX10_undo_54 rfl ?_
      obtain ⟨v6, h7, ev, hs⟩ := q_cal2 hs
      refine q_callV (pc := 55) (q := 0) (As := [.int (iI 3)]) (rest := []) (rs := [.int v6]) hx hb hml hl.1 hts hown hK hSt hN hw (c_X10_fail l G (iI 3) h4 v6 h7 ev) rfl rfl cv_X10_87 (rm_ok hR (by decide)) rfl (Nat.le_of_ble_eq_true rfl) rfl rfl dX10_undo_55 (fun H locs hw => ?_)
      exact q_iretW hret dX10_undo_58 hw hs
  · replace hs := q_f (fun z => z hc) hs
    refine lv_aload_n (pc := 14) hx hb dX10_undo_14 rfl (lv_at hl 0 rfl) ?_
    refine lv_iconst (pc := 15) (v := (iI 1)) hx hb dX10_undo_15 rfl ?_
    obtain ⟨v8, h9, ev, hs⟩ := q_cal2 hs
    refine q_callV (pc := 16) (q := 0) (As := [.int (iI 1)]) (rest := []) (rs := [.int v8]) hx hb hml hl.1 hts hown hK hSt hN hw (c_X10_fail l G (iI 1) h v8 h9 ev) rfl rfl cv_X10_87 (rm_ok hR (by decide)) rfl (Nat.le_of_ble_eq_true rfl) rfl rfl dX10_undo_16 (fun H locs hw => ?_)
    exact q_iretW hret dX10_undo_19 hw hs

set_option maxHeartbeats 4000000 in
theorem c_X10_text (l : Launch) (G : GG) (a1 : Int32) (h : Mem) (v : Int32) (h' : Mem) (hs : f_X10_text h a1 = some (v, h')) : Sat l G yX10_text cX10_text 3 (some .int) 100 [.ref (G.2.2.1 0), .int a1] h (some (.int v)) h' := by
  refine Sat.mkI (by decide) (Nat.le_of_ble_eq_true rfl) ?_
  intro p e R s m args below meth c Q F hret hw ls hl
  obtain ⟨hx, hb, hml, hown, hts, hK, hSt, hN, hR⟩ := F
  have hl : lv_has ls 3 [(0, .ref (G.2.2.1 0)), (1, .int a1)] := hl
  unfold f_X10_text at hs
  refine lv_iload_n (pc := 0) hx hb dX10_text_0 rfl (lv_at hl 1 rfl) ?_
  refine lv_iconst (pc := 1) (v := (iI 0)) hx hb dX10_text_1 rfl ?_
  refine lv_iconst (pc := 2) (v := (iI 1)) hx hb dX10_text_2 rfl ?_
  obtain ⟨v1, ev, hs⟩ := q_cal hs
  refine q_callS (pc := 3) (As := [.int a1, .int (iI 0), .int (iI 1)]) (rest := []) (rs := [.int v1]) hx hb hml hl.1 hts hown hK hSt hN hw (c_X10_within l G a1 (iI 0) (iI 1) h v1 ev) cs_X10_83 (rm_ok hR (by decide)) rfl (Nat.le_of_ble_eq_true rfl) rfl rfl dX10_text_3 (fun H locs hw => ?_)
  refine lv_if_ne (pc := 6) (tgt := 15) hx hb dX10_text_6 (by decide) (fun hc => ?_) (fun hc => ?_)
  · replace hs := q_t hc hs
    refine lv_aload_n (pc := 15) hx hb dX10_text_15 rfl (lv_at hl 0 rfl) ?_
    refine q_getR (pc := 16) (q := 0) (o := 34) hx hb hts hown hK hw rfl fg_X10_50 dX10_text_16 ?_
    refine lv_aload_n (pc := 19) hx hb dX10_text_19 rfl (lv_at hl 0 rfl) ?_
    refine q_getR (pc := 20) (q := 0) (o := 2) hx hb hts hown hK hw rfl fg_X10_16 dX10_text_20 ?_
    refine q_getR (pc := 23) (q := 2) (o := 11) hx hb hts hown hK hw rfl fg_X10_187 dX10_text_23 ?_
    refine lv_aload_n (pc := 26) hx hb dX10_text_26 rfl (lv_at hl 0 rfl) ?_
    refine q_getR (pc := 27) (q := 0) (o := 2) hx hb hts hown hK hw rfl fg_X10_16 dX10_text_27 ?_
    refine q_getI (pc := 30) (q := 2) hx hb hts hown hK hw rfl fg_X10_184 dX10_text_30 ?_
    refine lv_iload_n (pc := 33) hx hb dX10_text_33 rfl (lv_at hl 1 rfl) ?_
    obtain ⟨v2, h3, ev, hs⟩ := q_cal2 hs
    refine q_callV (pc := 34) (q := 34) (As := [.ref (G.2.2.1 13), .int (gI h 2 4), .int a1]) (rest := []) (rs := [.int v2]) hx hb hml hl.1 hts hown hK hSt hN hw (c_X6_faultIn l G 13 50 rfl (gI h 2 4) a1 h v2 h3 ev) rfl rfl cv_X10_190 (rm_ok hR (by decide)) rfl (Nat.le_of_ble_eq_true rfl) rfl rfl dX10_text_34 (fun H locs hw => ?_)
    refine lv_istore_n (pc := 37) (lv' := [(2, .int v2), (0, .ref (G.2.2.1 0)), (1, .int a1)]) hx hb dX10_text_37 rfl hl (by decide) rfl (fun ls hl => ?_)
    refine lv_aload_n (pc := 38) hx hb dX10_text_38 rfl (lv_at hl 1 rfl) ?_
    refine q_getR (pc := 39) (q := 0) (o := 2) hx hb hts hown hK hw rfl fg_X10_16 dX10_text_39 ?_
    refine lv_iconst (pc := 42) (v := (iI 0)) hx hb dX10_text_42 rfl ?_
    refine q_putI (pc := 43) (q := 2) hx hb hts hown hK hw rfl fp_X10_184 dX10_text_43 hs (fun h4 H locs hw hs => ?_)
    refine lv_iload_n (pc := 46) hx hb dX10_text_46 rfl (lv_at hl 0 rfl) ?_
    refine lv_iconst (pc := 47) (v := (iI (-1))) hx hb dX10_text_47 rfl ?_
    refine lv_icmp_eq (pc := 48) (tgt := 56) hx hb dX10_text_48 (by decide) (fun hc => ?_) (fun hc => ?_)
    · replace hs := q_t hc hs
      refine lv_aload_n (pc := 56) hx hb dX10_text_56 rfl (lv_at hl 1 rfl) ?_
      refine q_getR (pc := 57) (q := 0) (o := 2) hx hb hts hown hK hw rfl fg_X10_16 dX10_text_57 ?_
      refine lv_iload_n (pc := 60) hx hb dX10_text_60 rfl (lv_at hl 2 rfl) ?_
      obtain ⟨w5, ew5, hs⟩ := q_cal hs
      refine q_callV (pc := 61) (q := 2) (As := [.int a1]) (rest := []) (rs := [.ref (G.2.2.1 w5)]) hx hb hml hl.1 hts hown hK hSt hN hw (c_X9_lawOf l G 2 rfl a1 h4 w5 ew5) rfl rfl cv_X10_194 (rm_ok hR (by decide)) rfl (Nat.le_of_ble_eq_true rfl) rfl rfl dX10_text_61 (fun H locs hw => ?_)
      refine lv_aload_n (pc := 64) hx hb dX10_text_64 rfl (lv_at hl 1 rfl) ?_
      refine q_getR (pc := 65) (q := 0) (o := 34) hx hb hts hown hK hw rfl fg_X10_50 dX10_text_65 ?_
      refine q_getR (pc := 68) (q := 34) (o := 1) hx hb hts hown hK hw rfl fg_X10_198 dX10_text_68 ?_
      refine lv_aload_n (pc := 71) hx hb dX10_text_71 rfl (lv_at hl 1 rfl) ?_
      refine q_getR (pc := 72) (q := 0) (o := 34) hx hb hts hown hK hw rfl fg_X10_50 dX10_text_72 ?_
      refine q_getI (pc := 75) (q := 34) hx hb hts hown hK hw rfl fg_X10_201 dX10_text_75 ?_
      obtain ⟨h6, ev, hs⟩ := q_cal hs
      refine q_callV (pc := 78) (q := w5) (As := [.ref (G.2.2.1 35), .int (gI h4 34 1)]) (rest := []) (rs := []) hx hb hml hl.1 hts hown hK hSt hN hw (c_X5_learn l G w5 (hret_X9_lawOf rfl ew5) 35 50 rfl (gI h4 34 1) h4 h6 ev) (hret_X9_lawOf rfl ew5) rfl cv_X10_204 (rm_ok hR (by decide)) rfl (Nat.le_of_ble_eq_true rfl) rfl rfl dX10_text_78 (fun H locs hw => ?_)
      refine lv_iconst (pc := 81) (v := (iI 1)) hx hb dX10_text_81 rfl ?_
      exact q_iretW hret dX10_text_82 hw hs
    · replace hs := q_f hc hs
      refine lv_bipush (pc := 51) (v := (iI (-10))) hx hb dX10_text_51 (by decide) ?_
      refine lv_iload_n (pc := 53) hx hb dX10_text_53 rfl (lv_at hl 0 rfl) ?_
      refine lv_isub (pc := 54) hx hb dX10_text_54 ?_
      exact q_iretW hret dX10_text_55 hw hs
  · replace hs := q_f (fun z => z hc) hs
    refine lv_aload_n (pc := 9) hx hb dX10_text_9 rfl (lv_at hl 0 rfl) ?_
    refine lv_iconst (pc := 10) (v := (iI 1)) hx hb dX10_text_10 rfl ?_
    obtain ⟨v7, h8, ev, hs⟩ := q_cal2 hs
    refine q_callV (pc := 11) (q := 0) (As := [.int (iI 1)]) (rest := []) (rs := [.int v7]) hx hb hml hl.1 hts hown hK hSt hN hw (c_X10_fail l G (iI 1) h v7 h8 ev) rfl rfl cv_X10_87 (rm_ok hR (by decide)) rfl (Nat.le_of_ble_eq_true rfl) rfl rfl dX10_text_11 (fun H locs hw => ?_)
    exact q_iretW hret dX10_text_14 hw hs

set_option maxHeartbeats 4000000 in
theorem c_X10_law (l : Launch) (G : GG) (a1 : Int32) (a2 : Int32) (a3 : Int32) (a4 : Int32) (h : Mem) (v : Int32) (h' : Mem) (hs : f_X10_law h a1 a2 a3 a4 = some (v, h')) : Sat l G yX10_law cX10_law 5 (some .int) 3 [.ref (G.2.2.1 0), .int a1, .int a2, .int a3, .int a4] h (some (.int v)) h' := by
  refine Sat.mkI (by decide) (Nat.le_of_ble_eq_true rfl) ?_
  intro p e R s m args below meth c Q F hret hw ls hl
  obtain ⟨hx, hb, hml, hown, hts, hK, hSt, hN, hR⟩ := F
  have hl : lv_has ls 5 [(0, .ref (G.2.2.1 0)), (1, .int a1), (2, .int a2), (3, .int a3), (4, .int a4)] := hl
  unfold f_X10_law at hs
  refine lv_iload_n (pc := 0) hx hb dX10_law_0 rfl (lv_at hl 1 rfl) ?_
  refine lv_iconst (pc := 1) (v := (iI 0)) hx hb dX10_law_1 rfl ?_
  refine lv_iconst (pc := 2) (v := (iI 1)) hx hb dX10_law_2 rfl ?_
  obtain ⟨v1, ev, hs⟩ := q_cal hs
  refine q_callS (pc := 3) (As := [.int a1, .int (iI 0), .int (iI 1)]) (rest := []) (rs := [.int v1]) hx hb hml hl.1 hts hown hK hSt hN hw (c_X10_within l G a1 (iI 0) (iI 1) h v1 ev) cs_X10_83 (rm_ok hR (by decide)) rfl (Nat.le_of_ble_eq_true rfl) rfl rfl dX10_law_3 (fun H locs hw => ?_)
  refine lv_if_eq (pc := 6) (tgt := 27) hx hb dX10_law_6 (by decide) (fun hc => ?_) (fun hc => ?_)
  · replace hs := q_t hc hs
    refine lv_aload_n (pc := 27) hx hb dX10_law_27 rfl (lv_at hl 0 rfl) ?_
    refine lv_iconst (pc := 28) (v := (iI 1)) hx hb dX10_law_28 rfl ?_
    obtain ⟨v2, h3, ev, hs⟩ := q_cal2 hs
    refine q_callV (pc := 29) (q := 0) (As := [.int (iI 1)]) (rest := []) (rs := [.int v2]) hx hb hml hl.1 hts hown hK hSt hN hw (c_X10_fail l G (iI 1) h v2 h3 ev) rfl rfl cv_X10_87 (rm_ok hR (by decide)) rfl (Nat.le_of_ble_eq_true rfl) rfl rfl dX10_law_29 (fun H locs hw => ?_)
    exact q_iretW hret dX10_law_32 hw hs
  · replace hs := q_f hc hs
    refine lv_aload_n (pc := 9) hx hb dX10_law_9 rfl (lv_at hl 0 rfl) ?_
    refine q_getR (pc := 10) (q := 0) (o := 2) hx hb hts hown hK hw rfl fg_X10_16 dX10_law_10 ?_
    refine lv_iload_n (pc := 13) hx hb dX10_law_13 rfl (lv_at hl 1 rfl) ?_
    obtain ⟨w4, ew4, hs⟩ := q_cal hs
    refine q_callV (pc := 14) (q := 2) (As := [.int a1]) (rest := []) (rs := [.ref (G.2.2.1 w4)]) hx hb hml hl.1 hts hown hK hSt hN hw (c_X9_lawOf l G 2 rfl a1 h w4 ew4) rfl rfl cv_X10_194 (rm_ok hR (by decide)) rfl (Nat.le_of_ble_eq_true rfl) rfl rfl dX10_law_14 (fun H locs hw => ?_)
    refine lv_iload_n (pc := 17) hx hb dX10_law_17 rfl (lv_at hl 2 rfl) ?_
    refine lv_iload_n (pc := 18) hx hb dX10_law_18 rfl (lv_at hl 3 rfl) ?_
    refine lv_iload (pc := 19) hx hb dX10_law_19 (lv_at hl 4 rfl) ?_
    obtain ⟨v5, h6, ev, hs⟩ := q_cal2 hs
    refine q_callV (pc := 21) (q := w4) (As := [.int a2, .int a3, .int a4]) (rest := []) (rs := [.int v5]) hx hb hml hl.1 hts hown hK hSt hN hw (c_X5_gives l G w4 (hret_X9_lawOf rfl ew4) a2 a3 a4 h v5 h6 ev) (hret_X9_lawOf rfl ew4) rfl cv_X10_210 (rm_ok hR (by decide)) rfl (Nat.le_of_ble_eq_true rfl) rfl rfl dX10_law_21 (fun H locs hw => ?_)
    refine lv_goto (pc := 24) (tgt := 32) hx hb dX10_law_24 (by decide) ?_
    exact q_iretW hret dX10_law_32 hw hs

set_option maxHeartbeats 4000000 in
theorem c_X10_days (l : Launch) (G : GG) (a1 : Int32) (h : Mem) (v : Int32) (h' : Mem) (hs : f_X10_days h a1 = some (v, h')) : Sat l G yX10_days cX10_days 3 (some .int) 6 [.ref (G.2.2.1 0), .int a1] h (some (.int v)) h' := by
  refine Sat.mkI (by decide) (Nat.le_of_ble_eq_true rfl) ?_
  intro p e R s m args below meth c Q F hret hw ls hl
  obtain ⟨hx, hb, hml, hown, hts, hK, hSt, hN, hR⟩ := F
  have hl : lv_has ls 3 [(0, .ref (G.2.2.1 0)), (1, .int a1)] := hl
  unfold f_X10_days at hs
  refine lv_iload_n (pc := 0) hx hb dX10_days_0 rfl (lv_at hl 1 rfl) ?_
  refine lv_iconst (pc := 1) (v := (iI 1)) hx hb dX10_days_1 rfl ?_
  refine lv_sipush (pc := 2) (v := (iI 200)) hx hb dX10_days_2 (by decide) ?_
  obtain ⟨v1, ev, hs⟩ := q_cal hs
  refine q_callS (pc := 5) (As := [.int a1, .int (iI 1), .int (iI 200)]) (rest := []) (rs := [.int v1]) hx hb hml hl.1 hts hown hK hSt hN hw (c_X10_within l G a1 (iI 1) (iI 200) h v1 ev) cs_X10_83 (rm_ok hR (by decide)) rfl (Nat.le_of_ble_eq_true rfl) rfl rfl dX10_days_5 (fun H locs hw => ?_)
  refine lv_if_ne (pc := 8) (tgt := 17) hx hb dX10_days_8 (by decide) (fun hc => ?_) (fun hc => ?_)
  · replace hs := q_t hc hs
    refine lv_aload_n (pc := 17) hx hb dX10_days_17 rfl (lv_at hl 0 rfl) ?_
    refine q_getR (pc := 18) (q := 0) (o := 2) hx hb hts hown hK hw rfl fg_X10_16 dX10_days_18 ?_
    refine q_getI (pc := 21) (q := 2) hx hb hts hown hK hw rfl fg_X10_291 dX10_days_21 ?_
    refine lv_iload_n (pc := 24) hx hb dX10_days_24 rfl (lv_at hl 1 rfl) ?_
    refine lv_iadd (pc := 25) hx hb dX10_days_25 ?_
    refine lv_sipush (pc := 26) (v := (iI 9999)) hx hb dX10_days_26 (by decide) ?_
    refine lv_icmp_le (pc := 29) (tgt := 38) hx hb dX10_days_29 (by decide) (fun hc => ?_) (fun hc => ?_)
    · replace hs := q_t hc hs
      refine lv_iconst (pc := 38) (v := (iI 0)) hx hb dX10_days_38 rfl ?_
      refine lv_istore_n (pc := 39) (lv' := [(2, .int (iI 0)), (0, .ref (G.2.2.1 0)), (1, .int a1)]) hx hb dX10_days_39 rfl hl (by decide) rfl (fun ls hl => ?_)
      refine (q_lo2 (P0 := fun (x2 : Int32) (h3 : Mem) => ∀ (H : Heap) (locs : List Loc), IW G s h3 H locs → ∀ ls : Array Slot, lv_has ls 3 [(0, .ref (G.2.2.1 0)), (1, .int a1), (2, .int x2)] → W p l e R s m args below meth c H locs 0 0 Q (F0 m 40 ls [])) hs ?_) _ _ hw _ (lv_sub hl [1, 2, 0] rfl)
      intro K4 hK4 x2 h3 hs H locs hw ls hl
      unfold f_X10_days_k4 at hs
      refine lv_iload_n (pc := 40) hx hb dX10_days_40 rfl (lv_at hl 2 rfl) ?_
      refine lv_iload_n (pc := 41) hx hb dX10_days_41 rfl (lv_at hl 1 rfl) ?_
      refine lv_icmp_ge (pc := 42) (tgt := 62) hx hb dX10_days_42 (by decide) (fun hc => ?_) (fun hc => ?_)
      · replace hs := q_t hc hs
        refine lv_aload_n (pc := 62) hx hb dX10_days_62 rfl (lv_at hl 0 rfl) ?_
        refine q_getR (pc := 63) (q := 0) (o := 2) hx hb hts hown hK hw rfl fg_X10_16 dX10_days_63 ?_
        refine q_getI (pc := 66) (q := 2) hx hb hts hown hK hw rfl fg_X10_298 dX10_days_66 ?_
        exact q_iretW hret dX10_days_69 hw hs
      · replace hs := q_f hc hs
        refine lv_aload_n (pc := 45) hx hb dX10_days_45 rfl (lv_at hl 0 rfl) ?_
        refine q_getR (pc := 46) (q := 0) (o := 2) hx hb hts hown hK hw rfl fg_X10_16 dX10_days_46 ?_
        refine lv_aload_n (pc := 49) hx hb dX10_days_49 rfl (lv_at hl 0 rfl) ?_
        refine q_getR (pc := 50) (q := 0) (o := 29) hx hb hts hown hK hw rfl fg_X10_36 dX10_days_50 ?_
        obtain ⟨h5, ev, hs⟩ := q_cal hs
        refine q_callV (pc := 53) (q := 2) (As := [.ref (G.2.2.1 29)]) (rest := []) (rs := []) hx hb hml hl.1 hts hown hK hSt hN hw (c_X9_liveDay l G 2 rfl 29 rfl h3 h5 ev) rfl rfl cv_X10_294 (rm_ok hR (by decide)) rfl (Nat.le_of_ble_eq_true rfl) rfl rfl dX10_days_53 (fun H locs hw => ?_)
        obtain ⟨x6, ex6, hs⟩ := q_nm hs
        refine lv_iinc (pc := 56) (v := x6) (lv' := [(2, .int x6), (0, .ref (G.2.2.1 0)), (1, .int a1)]) hx hb dX10_days_56 hl (k := 2) rfl ex6 (by decide) rfl (fun ls hl => ?_)
        refine lv_goto (pc := 59) (tgt := 40) hx hb dX10_days_59 (by decide) ?_
        exact hK4 _ _ hs _ _ hw _ (lv_sub hl [1, 2, 0] rfl)
    · replace hs := q_f hc hs
      refine lv_aload_n (pc := 32) hx hb dX10_days_32 rfl (lv_at hl 0 rfl) ?_
      refine lv_iconst (pc := 33) (v := (iI 3)) hx hb dX10_days_33 rfl ?_
      obtain ⟨v7, h8, ev, hs⟩ := q_cal2 hs
      refine q_callV (pc := 34) (q := 0) (As := [.int (iI 3)]) (rest := []) (rs := [.int v7]) hx hb hml hl.1 hts hown hK hSt hN hw (c_X10_fail l G (iI 3) h v7 h8 ev) rfl rfl cv_X10_87 (rm_ok hR (by decide)) rfl (Nat.le_of_ble_eq_true rfl) rfl rfl dX10_days_34 (fun H locs hw => ?_)
      exact q_iretW hret dX10_days_37 hw hs
  · replace hs := q_f (fun z => z hc) hs
    refine lv_aload_n (pc := 11) hx hb dX10_days_11 rfl (lv_at hl 0 rfl) ?_
    refine lv_iconst (pc := 12) (v := (iI 1)) hx hb dX10_days_12 rfl ?_
    obtain ⟨v9, h10, ev, hs⟩ := q_cal2 hs
    refine q_callV (pc := 13) (q := 0) (As := [.int (iI 1)]) (rest := []) (rs := [.int v9]) hx hb hml hl.1 hts hown hK hSt hN hw (c_X10_fail l G (iI 1) h v9 h10 ev) rfl rfl cv_X10_87 (rm_ok hR (by decide)) rfl (Nat.le_of_ble_eq_true rfl) rfl rfl dX10_days_13 (fun H locs hw => ?_)
    exact q_iretW hret dX10_days_16 hw hs

set_option maxHeartbeats 4000000 in
theorem c_X10_voice (l : Launch) (G : GG) (a1 : Int32) (a2 : Int32) (a3 : Int32) (h : Mem) (v : Int32) (h' : Mem) (hs : f_X10_voice h a1 a2 a3 = some (v, h')) : Sat l G yX10_voice cX10_voice 4 (some .int) 105 [.ref (G.2.2.1 0), .int a1, .int a2, .int a3] h (some (.int v)) h' := by
  refine Sat.mkI (by decide) (Nat.le_of_ble_eq_true rfl) ?_
  intro p e R s m args below meth c Q F hret hw ls hl
  obtain ⟨hx, hb, hml, hown, hts, hK, hSt, hN, hR⟩ := F
  have hl : lv_has ls 4 [(0, .ref (G.2.2.1 0)), (1, .int a1), (2, .int a2), (3, .int a3)] := hl
  unfold f_X10_voice at hs
  refine lv_aload_n (pc := 0) hx hb dX10_voice_0 rfl (lv_at hl 0 rfl) ?_
  refine q_getR (pc := 1) (q := 0) (o := 2) hx hb hts hown hK hw rfl fg_X10_16 dX10_voice_1 ?_
  refine q_getR (pc := 4) (q := 2) (o := 1) hx hb hts hown hK hw rfl fg_X10_91 dX10_voice_4 ?_
  refine lv_iload_n (pc := 7) hx hb dX10_voice_7 rfl (lv_at hl 1 rfl) ?_
  obtain ⟨v1, ev, hs⟩ := q_cal hs
  refine q_callV (pc := 8) (q := 3) (As := [.int a1]) (rest := []) (rs := [.int v1]) hx hb hml hl.1 hts hown hK hSt hN hw (c_X3_hasSquare l G 3 rfl a1 h v1 ev) rfl rfl cv_X10_102 (rm_ok hR (by decide)) rfl (Nat.le_of_ble_eq_true rfl) rfl rfl dX10_voice_8 (fun H locs hw => ?_)
  refine q_join0 (P0 := ∀ (H : Heap) (locs : List Loc), IW G s h H locs → ∀ ls : Array Slot, lv_has ls 4 [(0, .ref (G.2.2.1 0))] → W p l e R s m args below meth c H locs 0 0 Q (F0 m 23 ls [])) hs ?_ ?_
  · intro  hs H locs hw ls hl
    refine lv_aload_n (pc := 23) hx hb dX10_voice_23 rfl (lv_at hl 0 rfl) ?_
    refine lv_iconst (pc := 24) (v := (iI 1)) hx hb dX10_voice_24 rfl ?_
    obtain ⟨v3, h4, ev, hs⟩ := q_cal2 hs
    refine q_callV (pc := 25) (q := 0) (As := [.int (iI 1)]) (rest := []) (rs := [.int v3]) hx hb hml hl.1 hts hown hK hSt hN hw (c_X10_fail l G (iI 1) h v3 h4 ev) rfl rfl cv_X10_87 (rm_ok hR (by decide)) rfl (Nat.le_of_ble_eq_true rfl) rfl rfl dX10_voice_25 (fun H locs hw => ?_)
    exact q_iretW hret dX10_voice_28 hw hs
  · intro K2 hK2 hs
    refine lv_if_eq (pc := 11) (tgt := 23) hx hb dX10_voice_11 (by decide) (fun hc => ?_) (fun hc => ?_)
    · replace hs := q_t hc hs
      exact hK2 hs _ _ hw _ (lv_sub hl [0] rfl)
    · replace hs := q_f hc hs
      refine lv_iload_n (pc := 14) hx hb dX10_voice_14 rfl (lv_at hl 2 rfl) ?_
      refine lv_iconst (pc := 15) (v := (iI 0)) hx hb dX10_voice_15 rfl ?_
      refine lv_iconst (pc := 16) (v := (iI 3)) hx hb dX10_voice_16 rfl ?_
      obtain ⟨v5, ev, hs⟩ := q_cal hs
      refine q_callS (pc := 17) (As := [.int a2, .int (iI 0), .int (iI 3)]) (rest := []) (rs := [.int v5]) hx hb hml hl.1 hts hown hK hSt hN hw (c_X10_within l G a2 (iI 0) (iI 3) h v5 ev) cs_X10_83 (rm_ok hR (by decide)) rfl (Nat.le_of_ble_eq_true rfl) rfl rfl dX10_voice_17 (fun H locs hw => ?_)
      refine lv_if_ne (pc := 20) (tgt := 29) hx hb dX10_voice_20 (by decide) (fun hc => ?_) (fun hc => ?_)
      · replace hs := q_t hc hs
        refine lv_aload_n (pc := 29) hx hb dX10_voice_29 rfl (lv_at hl 0 rfl) ?_
        refine q_getR (pc := 30) (q := 0) (o := 37) hx hb hts hown hK hw rfl fg_X10_57 dX10_voice_30 ?_
        refine lv_aload_n (pc := 33) hx hb dX10_voice_33 rfl (lv_at hl 0 rfl) ?_
        refine q_getR (pc := 34) (q := 0) (o := 2) hx hb hts hown hK hw rfl fg_X10_16 dX10_voice_34 ?_
        refine q_getR (pc := 37) (q := 2) (o := 1) hx hb hts hown hK hw rfl fg_X10_91 dX10_voice_37 ?_
        refine lv_iload_n (pc := 40) hx hb dX10_voice_40 rfl (lv_at hl 1 rfl) ?_
        refine lv_iload_n (pc := 41) hx hb dX10_voice_41 rfl (lv_at hl 2 rfl) ?_
        refine lv_iload_n (pc := 42) hx hb dX10_voice_42 rfl (lv_at hl 3 rfl) ?_
        obtain ⟨v6, h7, ev, hs⟩ := q_cal2 hs
        refine q_callV (pc := 43) (q := 37) (As := [.ref (G.2.2.1 3), .int a1, .int a2, .int a3]) (rest := []) (rs := [.int v6]) hx hb hml hl.1 hts hown hK hSt hN hw (c_X8_speakFor l G 3 rfl a1 a2 a3 h v6 h7 ev) rfl rfl cv_X10_304 (rm_ok hR (by decide)) rfl (Nat.le_of_ble_eq_true rfl) rfl rfl dX10_voice_43 (fun H locs hw => ?_)
        exact q_iretW hret dX10_voice_46 hw hs
      · replace hs := q_f (fun z => z hc) hs
        exact hK2 hs _ _ hw _ (lv_sub hl [0] rfl)

set_option maxHeartbeats 4000000 in
theorem c_X10_lets (l : Launch) (G : GG) (a1 : Int32) (h : Mem) (v : Int32) (h' : Mem) (hs : f_X10_lets h a1 = some (v, h')) : Sat l G yX10_lets cX10_lets 4 (some .int) 4 [.ref (G.2.2.1 0), .int a1] h (some (.int v)) h' := by
  refine Sat.mkI (by decide) (Nat.le_of_ble_eq_true rfl) ?_
  intro p e R s m args below meth c Q F hret hw ls hl
  obtain ⟨hx, hb, hml, hown, hts, hK, hSt, hN, hR⟩ := F
  have hl : lv_has ls 4 [(0, .ref (G.2.2.1 0)), (1, .int a1)] := hl
  unfold f_X10_lets at hs
  refine lv_iload_n (pc := 0) hx hb dX10_lets_0 rfl (lv_at hl 1 rfl) ?_
  obtain ⟨v1, ev, hs⟩ := q_cal hs
  refine q_callS (pc := 1) (As := [.int a1]) (rest := []) (rs := [.int v1]) hx hb hml hl.1 hts hown hK hSt hN hw (c_X10_hasSheet l G a1 h v1 ev) cs_X10_261 (rm_ok hR (by decide)) rfl (Nat.le_of_ble_eq_true rfl) rfl rfl dX10_lets_1 (fun H locs hw => ?_)
  refine lv_if_ne (pc := 4) (tgt := 13) hx hb dX10_lets_4 (by decide) (fun hc => ?_) (fun hc => ?_)
  · replace hs := q_t hc hs
    refine lv_aload_n (pc := 13) hx hb dX10_lets_13 rfl (lv_at hl 0 rfl) ?_
    refine q_getR (pc := 14) (q := 0) (o := 28) hx hb hts hown hK hw rfl fg_X10_29 dX10_lets_14 ?_
    refine lv_iload_n (pc := 17) hx hb dX10_lets_17 rfl (lv_at hl 1 rfl) ?_
    refine q_aald (pc := 18) (q := 28) (n := 4) hx hb hK hw rfl dX10_lets_18 hs (fun j2 hj2 hs => ?_)
    refine lv_astore_n (pc := 19) (lv' := [(2, .ref (G.2.2.1 (64 + 2 * j2))), (0, .ref (G.2.2.1 0)), (1, .int a1)]) hx hb dX10_lets_19 rfl hl (by decide) rfl (fun ls hl => ?_)
    refine lv_aload_n (pc := 20) hx hb dX10_lets_20 rfl (lv_at hl 0 rfl) ?_
    obtain ⟨v3, ev, hs⟩ := q_cal hs
    refine q_callV (pc := 21) (q := (64 + 2 * j2)) (As := []) (rest := []) (rs := [.int v3]) hx hb hml hl.1 hts hown hK hSt hN hw (c_X7_isMissing l G (64 + 2 * j2) (lay_sheet _ hj2) h v3 ev) (lay_sheet _ hj2) rfl cv_X10_321 (rm_ok hR (by decide)) rfl (Nat.le_of_ble_eq_true rfl) rfl rfl dX10_lets_21 (fun H locs hw => ?_)
    refine lv_if_eq (pc := 24) (tgt := 33) hx hb dX10_lets_24 (by decide) (fun hc => ?_) (fun hc => ?_)
    · replace hs := q_t hc hs
      refine lv_iconst (pc := 33) (v := (iI 0)) hx hb dX10_lets_33 rfl ?_
      refine lv_istore_n (pc := 34) (lv' := [(3, .int (iI 0)), (2, .ref (G.2.2.1 (64 + 2 * j2))), (0, .ref (G.2.2.1 0)), (1, .int a1)]) hx hb dX10_lets_34 rfl hl (by decide) rfl (fun ls hl => ?_)
      refine (q_lo2 (P0 := fun (x4 : Int32) (h5 : Mem) => ∀ (H : Heap) (locs : List Loc), IW G s h5 H locs → ∀ ls : Array Slot, lv_has ls 4 [(0, .ref (G.2.2.1 0)), (2, .ref (G.2.2.1 (64 + 2 * j2))), (3, .int x4)] → W p l e R s m args below meth c H locs 0 0 Q (F0 m 35 ls [])) hs ?_) _ _ hw _ (lv_sub hl [2, 1, 0] rfl)
      intro K6 hK6 x4 h5 hs H locs hw ls hl
      unfold f_X10_lets_k6 at hs
      refine lv_iload_n (pc := 35) hx hb dX10_lets_35 rfl (lv_at hl 2 rfl) ?_
      refine lv_aload_n (pc := 36) hx hb dX10_lets_36 rfl (lv_at hl 1 rfl) ?_
      refine q_getI (pc := 37) (q := (64 + 2 * j2)) hx hb hts hown hK hw (lay_sheet _ hj2) fg_X10_325 dX10_lets_37 ?_
      refine lv_icmp_ge (pc := 40) (tgt := 86) hx hb dX10_lets_40 (by decide) (fun hc => ?_) (fun hc => ?_)
      · replace hs := q_t hc hs
        refine lv_iload_n (pc := 86) hx hb dX10_lets_86 rfl (lv_at hl 2 rfl) ?_
        exact q_iretW hret dX10_lets_87 hw hs
      · replace hs := q_f hc hs
        refine lv_aload_n (pc := 43) hx hb dX10_lets_43 rfl (lv_at hl 0 rfl) ?_
        refine q_getR (pc := 44) (q := 0) (o := 2) hx hb hts hown hK hw rfl fg_X10_16 dX10_lets_44 ?_
        refine q_getR (pc := 47) (q := 2) (o := 1) hx hb hts hown hK hw rfl fg_X10_91 dX10_lets_47 ?_
        refine lv_aload_n (pc := 50) hx hb dX10_lets_50 rfl (lv_at hl 1 rfl) ?_
        refine q_getR (pc := 51) (q := (64 + 2 * j2)) (o := 1) hx hb hts hown hK hw (lay_sheet _ hj2) fg_X10_337 dX10_lets_51 ?_
        refine lv_iload_n (pc := 54) hx hb dX10_lets_54 rfl (lv_at hl 2 rfl) ?_
        refine q_ald (pc := 55) (q := ((64 + 2 * j2) + 1)) (n := 40) hx hb hK hw (wt_X7_numbers _ (lay_sheet _ hj2)) dX10_lets_55 hs (fun v7 hs => ?_)
        obtain ⟨v8, ev, hs⟩ := q_cal hs
        refine q_callV (pc := 56) (q := 3) (As := [.int v7]) (rest := []) (rs := [.int v8]) hx hb hml hl.1 hts hown hK hSt hN hw (c_X3_hasWindow l G 3 rfl v7 h5 v8 ev) rfl rfl cv_X10_147 (rm_ok hR (by decide)) rfl (Nat.le_of_ble_eq_true rfl) rfl rfl dX10_lets_56 (fun H locs hw => ?_)
        refine lv_if_eq (pc := 59) (tgt := 86) hx hb dX10_lets_59 (by decide) (fun hc => ?_) (fun hc => ?_)
        · replace hs := q_t hc hs
          refine lv_iload_n (pc := 86) hx hb dX10_lets_86 rfl (lv_at hl 2 rfl) ?_
          exact q_iretW hret dX10_lets_87 hw hs
        · replace hs := q_f hc hs
          refine lv_aload_n (pc := 62) hx hb dX10_lets_62 rfl (lv_at hl 0 rfl) ?_
          refine q_getR (pc := 63) (q := 0) (o := 2) hx hb hts hown hK hw rfl fg_X10_16 dX10_lets_63 ?_
          refine lv_aload_n (pc := 66) hx hb dX10_lets_66 rfl (lv_at hl 0 rfl) ?_
          refine q_getR (pc := 67) (q := 0) (o := 29) hx hb hts hown hK hw rfl fg_X10_36 dX10_lets_67 ?_
          refine lv_aload_n (pc := 70) hx hb dX10_lets_70 rfl (lv_at hl 1 rfl) ?_
          refine q_getR (pc := 71) (q := (64 + 2 * j2)) (o := 1) hx hb hts hown hK hw (lay_sheet _ hj2) fg_X10_337 dX10_lets_71 ?_
          refine lv_iload_n (pc := 74) hx hb dX10_lets_74 rfl (lv_at hl 2 rfl) ?_
          refine q_ald (pc := 75) (q := ((64 + 2 * j2) + 1)) (n := 40) hx hb hK hw (wt_X7_numbers _ (lay_sheet _ hj2)) dX10_lets_75 hs (fun v9 hs => ?_)
          obtain ⟨v10, h11, ev, hs⟩ := q_cal2 hs
          refine q_callV (pc := 76) (q := 2) (As := [.ref (G.2.2.1 29), .int v9]) (rest := []) (rs := [.int v10]) hx hb hml hl.1 hts hown hK hSt hN hw (c_X9_rayIn l G 2 rfl 29 rfl v9 h5 v10 h11 ev) rfl rfl cv_X10_150 (rm_ok hR (by decide)) rfl (Nat.le_of_ble_eq_true rfl) rfl rfl dX10_lets_76 (fun H locs hw => ?_)
          refine lv_pop (pc := 79) hx hb dX10_lets_79 rfl ?_
          obtain ⟨x12, ex12, hs⟩ := q_nm hs
          refine lv_iinc (pc := 80) (v := x12) (lv' := [(3, .int x12), (0, .ref (G.2.2.1 0)), (2, .ref (G.2.2.1 (64 + 2 * j2)))]) hx hb dX10_lets_80 hl (k := 2) rfl ex12 (by decide) rfl (fun ls hl => ?_)
          refine lv_goto (pc := 83) (tgt := 35) hx hb dX10_lets_83 (by decide) ?_
          exact hK6 _ _ hs _ _ hw _ (lv_sub hl [1, 2, 0] rfl)
    · replace hs := q_f hc hs
      refine lv_aload_n (pc := 27) hx hb dX10_lets_27 rfl (lv_at hl 1 rfl) ?_
      refine lv_iconst (pc := 28) (v := (iI 2)) hx hb dX10_lets_28 rfl ?_
      obtain ⟨v13, h14, ev, hs⟩ := q_cal2 hs
      refine q_callV (pc := 29) (q := 0) (As := [.int (iI 2)]) (rest := []) (rs := [.int v13]) hx hb hml hl.1 hts hown hK hSt hN hw (c_X10_fail l G (iI 2) h v13 h14 ev) rfl rfl cv_X10_87 (rm_ok hR (by decide)) rfl (Nat.le_of_ble_eq_true rfl) rfl rfl dX10_lets_29 (fun H locs hw => ?_)
      exact q_iretW hret dX10_lets_32 hw hs
  · replace hs := q_f (fun z => z hc) hs
    refine lv_aload_n (pc := 7) hx hb dX10_lets_7 rfl (lv_at hl 0 rfl) ?_
    refine lv_iconst (pc := 8) (v := (iI 1)) hx hb dX10_lets_8 rfl ?_
    obtain ⟨v15, h16, ev, hs⟩ := q_cal2 hs
    refine q_callV (pc := 9) (q := 0) (As := [.int (iI 1)]) (rest := []) (rs := [.int v15]) hx hb hml hl.1 hts hown hK hSt hN hw (c_X10_fail l G (iI 1) h v15 h16 ev) rfl rfl cv_X10_87 (rm_ok hR (by decide)) rfl (Nat.le_of_ble_eq_true rfl) rfl rfl dX10_lets_9 (fun H locs hw => ?_)
    exact q_iretW hret dX10_lets_12 hw hs

set_option maxHeartbeats 4000000 in
theorem c_X10_image (l : Launch) (G : GG)  (h : Mem) (v : Int32) (h' : Mem) (hs : f_X10_image h  = some (v, h')) : Sat l G yX10_image cX10_image 1 (some .int) 5 [.ref (G.2.2.1 0)] h (some (.int v)) h' := by
  refine Sat.mkI (by decide) (Nat.le_of_ble_eq_true rfl) ?_
  intro p e R s m args below meth c Q F hret hw ls hl
  obtain ⟨hx, hb, hml, hown, hts, hK, hSt, hN, hR⟩ := F
  have hl : lv_has ls 1 [(0, .ref (G.2.2.1 0))] := hl
  unfold f_X10_image at hs
  refine lv_aload_n (pc := 0) hx hb dX10_image_0 rfl (lv_at hl 0 rfl) ?_
  refine q_getR (pc := 1) (q := 0) (o := 15) hx hb hts hown hK hw rfl fg_X10_20 dX10_image_1 ?_
  refine lv_aload_n (pc := 4) hx hb dX10_image_4 rfl (lv_at hl 0 rfl) ?_
  refine q_getR (pc := 5) (q := 0) (o := 2) hx hb hts hown hK hw rfl fg_X10_16 dX10_image_5 ?_
  obtain ⟨h1, ev, hs⟩ := q_cal hs
  refine q_callV (pc := 8) (q := 15) (As := [.ref (G.2.2.1 2)]) (rest := []) (rs := []) hx hb hml hl.1 hts hown hK hSt hN hw (c_X9_copyFrom l G 15 rfl 2 rfl h h1 ev) rfl rfl cv_X10_352 (rm_ok hR (by decide)) rfl (Nat.le_of_ble_eq_true rfl) rfl rfl dX10_image_8 (fun H locs hw => ?_)
  refine lv_aload_n (pc := 11) hx hb dX10_image_11 rfl (lv_at hl 0 rfl) ?_
  refine lv_dup (pc := 12) hx hb dX10_image_12 rfl ?_
  refine q_getI (pc := 13) (q := 0) hx hb hts hown hK hw rfl fg_X10_23 dX10_image_13 ?_
  refine lv_iconst (pc := 16) (v := (iI 1)) hx hb dX10_image_16 rfl ?_
  refine lv_iadd (pc := 17) hx hb dX10_image_17 ?_
  refine q_putI (pc := 18) (q := 0) hx hb hts hown hK hw rfl fp_X10_23 dX10_image_18 hs (fun h2 H locs hw hs => ?_)
  refine lv_aload_n (pc := 21) hx hb dX10_image_21 rfl (lv_at hl 0 rfl) ?_
  refine q_getI (pc := 22) (q := 0) hx hb hts hown hK hw rfl fg_X10_23 dX10_image_22 ?_
  exact q_iretW hret dX10_image_25 hw hs

set_option maxHeartbeats 4000000 in
theorem c_X10_restore (l : Launch) (G : GG)  (h : Mem) (v : Int32) (h' : Mem) (hs : f_X10_restore h  = some (v, h')) : Sat l G yX10_restore cX10_restore 1 (some .int) 5 [.ref (G.2.2.1 0)] h (some (.int v)) h' := by
  refine Sat.mkI (by decide) (Nat.le_of_ble_eq_true rfl) ?_
  intro p e R s m args below meth c Q F hret hw ls hl
  obtain ⟨hx, hb, hml, hown, hts, hK, hSt, hN, hR⟩ := F
  have hl : lv_has ls 1 [(0, .ref (G.2.2.1 0))] := hl
  unfold f_X10_restore at hs
  refine lv_aload_n (pc := 0) hx hb dX10_restore_0 rfl (lv_at hl 0 rfl) ?_
  refine q_getI (pc := 1) (q := 0) hx hb hts hown hK hw rfl fg_X10_23 dX10_restore_1 ?_
  refine lv_if_ne (pc := 4) (tgt := 13) hx hb dX10_restore_4 (by decide) (fun hc => ?_) (fun hc => ?_)
  · replace hs := q_t hc hs
    refine lv_aload_n (pc := 13) hx hb dX10_restore_13 rfl (lv_at hl 0 rfl) ?_
    refine q_getR (pc := 14) (q := 0) (o := 2) hx hb hts hown hK hw rfl fg_X10_16 dX10_restore_14 ?_
    refine lv_aload_n (pc := 17) hx hb dX10_restore_17 rfl (lv_at hl 0 rfl) ?_
    refine q_getR (pc := 18) (q := 0) (o := 15) hx hb hts hown hK hw rfl fg_X10_20 dX10_restore_18 ?_
    obtain ⟨h1, ev, hs⟩ := q_cal hs
    refine q_callV (pc := 21) (q := 2) (As := [.ref (G.2.2.1 15)]) (rest := []) (rs := []) hx hb hml hl.1 hts hown hK hSt hN hw (c_X9_copyFrom l G 2 rfl 15 rfl h h1 ev) rfl rfl cv_X10_352 (rm_ok hR (by decide)) rfl (Nat.le_of_ble_eq_true rfl) rfl rfl dX10_restore_21 (fun H locs hw => ?_)
    refine lv_aload_n (pc := 24) hx hb dX10_restore_24 rfl (lv_at hl 0 rfl) ?_
    refine q_getR (pc := 25) (q := 0) (o := 2) hx hb hts hown hK hw rfl fg_X10_16 dX10_restore_25 ?_
    refine q_getI (pc := 28) (q := 2) hx hb hts hown hK hw rfl fg_X10_291 dX10_restore_28 ?_
    exact q_iretW hret dX10_restore_31 hw hs
  · replace hs := q_f (fun z => z hc) hs
    refine lv_aload_n (pc := 7) hx hb dX10_restore_7 rfl (lv_at hl 0 rfl) ?_
    refine lv_iconst (pc := 8) (v := (iI 2)) hx hb dX10_restore_8 rfl ?_
    obtain ⟨v2, h3, ev, hs⟩ := q_cal2 hs
    refine q_callV (pc := 9) (q := 0) (As := [.int (iI 2)]) (rest := []) (rs := [.int v2]) hx hb hml hl.1 hts hown hK hSt hN hw (c_X10_fail l G (iI 2) h v2 h3 ev) rfl rfl cv_X10_87 (rm_ok hR (by decide)) rfl (Nat.le_of_ble_eq_true rfl) rfl rfl dX10_restore_9 (fun H locs hw => ?_)
    exact q_iretW hret dX10_restore_12 hw hs

set_option maxHeartbeats 4000000 in
theorem c_X10_check (l : Launch) (G : GG)  (h : Mem) (v : Int32) (h' : Mem) (hs : f_X10_check h  = some (v, h')) : Sat l G yX10_check cX10_check 3 (some .int) 3 [.ref (G.2.2.1 0)] h (some (.int v)) h' := by
  refine Sat.mkI (by decide) (Nat.le_of_ble_eq_true rfl) ?_
  intro p e R s m args below meth c Q F hret hw ls hl
  obtain ⟨hx, hb, hml, hown, hts, hK, hSt, hN, hR⟩ := F
  have hl : lv_has ls 3 [(0, .ref (G.2.2.1 0))] := hl
  unfold f_X10_check at hs
  refine lv_aload_n (pc := 0) hx hb dX10_check_0 rfl (lv_at hl 0 rfl) ?_
  refine q_getR (pc := 1) (q := 0) (o := 2) hx hb hts hown hK hw rfl fg_X10_16 dX10_check_1 ?_
  refine q_getI (pc := 4) (q := 2) hx hb hts hown hK hw rfl fg_X10_358 dX10_check_4 ?_
  obtain ⟨x1, ex1, hs⟩ := q_nm hs
  refine q_topI ex1 ?_
  refine lv_istore_n (pc := 7) (lv' := [(1, .int x1), (0, .ref (G.2.2.1 0))]) hx hb dX10_check_7 rfl hl (by decide) rfl (fun ls hl => ?_)
  refine lv_aload_n (pc := 8) hx hb dX10_check_8 rfl (lv_at hl 1 rfl) ?_
  refine q_getR (pc := 9) (q := 0) (o := 2) hx hb hts hown hK hw rfl fg_X10_16 dX10_check_9 ?_
  refine lv_iconst (pc := 12) (v := (iI 0)) hx hb dX10_check_12 rfl ?_
  refine q_putI (pc := 13) (q := 2) hx hb hts hown hK hw rfl fp_X10_358 dX10_check_13 hs (fun h2 H locs hw hs => ?_)
  refine lv_aload_n (pc := 16) hx hb dX10_check_16 rfl (lv_at hl 1 rfl) ?_
  refine q_getR (pc := 17) (q := 0) (o := 30) hx hb hts hown hK hw rfl fg_X10_43 dX10_check_17 ?_
  refine lv_aload_n (pc := 20) hx hb dX10_check_20 rfl (lv_at hl 1 rfl) ?_
  refine q_getR (pc := 21) (q := 0) (o := 2) hx hb hts hown hK hw rfl fg_X10_16 dX10_check_21 ?_
  refine q_getR (pc := 24) (q := 2) (o := 1) hx hb hts hown hK hw rfl fg_X10_91 dX10_check_24 ?_
  obtain ⟨h3, ev, hs⟩ := q_cal hs
  refine q_callV (pc := 27) (q := 30) (As := [.ref (G.2.2.1 3)]) (rest := []) (rs := []) hx hb hml hl.1 hts hown hK hSt hN hw (c_X3_copyFrom l G 30 rfl 3 rfl h2 h3 ev) rfl rfl cv_X10_154 (rm_ok hR (by decide)) rfl (Nat.le_of_ble_eq_true rfl) rfl rfl dX10_check_27 (fun H locs hw => ?_)
  refine lv_iconst (pc := 30) (v := (iI 0)) hx hb dX10_check_30 rfl ?_
  refine lv_istore_n (pc := 31) (lv' := [(2, .int (iI 0)), (1, .int x1), (0, .ref (G.2.2.1 0))]) hx hb dX10_check_31 rfl hl (by decide) rfl (fun ls hl => ?_)
  refine (q_lo2 (P0 := fun (x4 : Int32) (h5 : Mem) => ∀ (H : Heap) (locs : List Loc), IW G s h5 H locs → ∀ ls : Array Slot, lv_has ls 3 [(0, .ref (G.2.2.1 0)), (1, .int x1), (2, .int x4)] → W p l e R s m args below meth c H locs 0 0 Q (F0 m 32 ls [])) hs ?_) _ _ hw _ (lv_sub hl [2, 1, 0] rfl)
  intro K6 hK6 x4 h5 hs H locs hw ls hl
  unfold f_X10_check_k6 at hs
  refine lv_iload_n (pc := 32) hx hb dX10_check_32 rfl (lv_at hl 2 rfl) ?_
  refine lv_iload_n (pc := 33) hx hb dX10_check_33 rfl (lv_at hl 1 rfl) ?_
  refine lv_icmp_ge (pc := 34) (tgt := 111) hx hb dX10_check_34 (by decide) (fun hc => ?_) (fun hc => ?_)
  · replace hs := q_t hc hs
    refine lv_iconst (pc := 111) (v := (iI 0)) hx hb dX10_check_111 rfl ?_
    exact q_iretW hret dX10_check_112 hw hs
  · replace hs := q_f hc hs
    refine lv_iload_n (pc := 37) hx hb dX10_check_37 rfl (lv_at hl 2 rfl) ?_
    refine lv_aload_n (pc := 38) hx hb dX10_check_38 rfl (lv_at hl 0 rfl) ?_
    refine q_getR (pc := 39) (q := 0) (o := 2) hx hb hts hown hK hw rfl fg_X10_16 dX10_check_39 ?_
    refine q_getR (pc := 42) (q := 2) (o := 12) hx hb hts hown hK hw rfl fg_X10_361 dX10_check_42 ?_
    refine q_alen (pc := 45) (q := 14) (n := 20) hx hb hK hw rfl dX10_check_45 ?_
    refine lv_icmp_ge (pc := 46) (tgt := 111) hx hb dX10_check_46 (by decide) (fun hc => ?_) (fun hc => ?_)
    · replace hs := q_t hc hs
      refine lv_iconst (pc := 111) (v := (iI 0)) hx hb dX10_check_111 rfl ?_
      exact q_iretW hret dX10_check_112 hw hs
    · replace hs := q_f hc hs
      refine lv_aload_n (pc := 49) hx hb dX10_check_49 rfl (lv_at hl 0 rfl) ?_
      refine q_getR (pc := 50) (q := 0) (o := 30) hx hb hts hown hK hw rfl fg_X10_43 dX10_check_50 ?_
      refine lv_aload_n (pc := 53) hx hb dX10_check_53 rfl (lv_at hl 0 rfl) ?_
      refine q_getR (pc := 54) (q := 0) (o := 2) hx hb hts hown hK hw rfl fg_X10_16 dX10_check_54 ?_
      refine q_getR (pc := 57) (q := 2) (o := 1) hx hb hts hown hK hw rfl fg_X10_91 dX10_check_57 ?_
      obtain ⟨h7, ev, hs⟩ := q_cal hs
      refine q_callV (pc := 60) (q := 30) (As := [.ref (G.2.2.1 3)]) (rest := []) (rs := []) hx hb hml hl.1 hts hown hK hSt hN hw (c_X3_standAs l G 30 rfl 3 rfl h5 h7 ev) rfl rfl cv_X10_364 (rm_ok hR (by decide)) rfl (Nat.le_of_ble_eq_true rfl) rfl rfl dX10_check_60 (fun H locs hw => ?_)
      refine lv_aload_n (pc := 63) hx hb dX10_check_63 rfl (lv_at hl 0 rfl) ?_
      refine q_getR (pc := 64) (q := 0) (o := 2) hx hb hts hown hK hw rfl fg_X10_16 dX10_check_64 ?_
      refine q_getR (pc := 67) (q := 2) (o := 1) hx hb hts hown hK hw rfl fg_X10_91 dX10_check_67 ?_
      refine lv_iload_n (pc := 70) hx hb dX10_check_70 rfl (lv_at hl 2 rfl) ?_
      obtain ⟨v8, ev, hs⟩ := q_cal hs
      refine q_callV (pc := 71) (q := 3) (As := [.int x4]) (rest := []) (rs := [.int v8]) hx hb hml hl.1 hts hown hK hSt hN hw (c_X3_hasWindow l G 3 rfl x4 h7 v8 ev) rfl rfl cv_X10_147 (rm_ok hR (by decide)) rfl (Nat.le_of_ble_eq_true rfl) rfl rfl dX10_check_71 (fun H locs hw => ?_)
      refine q_join1 (P0 := fun (h9 : Mem) => ∀ (H : Heap) (locs : List Loc), IW G s h9 H locs → ∀ ls : Array Slot, lv_has ls 3 [(2, .int x4)] → W p l e R s m args below meth c H locs 0 0 Q (F0 m 101 ls [])) hs ?_ ?_
      · intro h9 hs H locs hw ls hl
        refine lv_iconst (pc := 101) (v := (iI 1)) hx hb dX10_check_101 rfl ?_
        refine lv_iload_n (pc := 102) hx hb dX10_check_102 rfl (lv_at hl 0 rfl) ?_
        refine lv_iadd (pc := 103) hx hb dX10_check_103 ?_
        exact q_iretW hret dX10_check_104 hw hs
      · intro K10 hK10 hs
        refine lv_if_eq (pc := 74) (tgt := 101) hx hb dX10_check_74 (by decide) (fun hc => ?_) (fun hc => ?_)
        · replace hs := q_t hc hs
          exact hK10 _ hs _ _ hw _ (lv_sub hl [2] rfl)
        · replace hs := q_f hc hs
          refine lv_aload_n (pc := 77) hx hb dX10_check_77 rfl (lv_at hl 0 rfl) ?_
          refine q_getR (pc := 78) (q := 0) (o := 29) hx hb hts hown hK hw rfl fg_X10_36 dX10_check_78 ?_
          refine lv_aload_n (pc := 81) hx hb dX10_check_81 rfl (lv_at hl 0 rfl) ?_
          refine q_getR (pc := 82) (q := 0) (o := 30) hx hb hts hown hK hw rfl fg_X10_43 dX10_check_82 ?_
          refine lv_iload_n (pc := 85) hx hb dX10_check_85 rfl (lv_at hl 2 rfl) ?_
          obtain ⟨v11, h12, ev, hs⟩ := q_cal2 hs
          refine q_callV (pc := 86) (q := 29) (As := [.ref (G.2.2.1 30), .int x4]) (rest := []) (rs := [.int v11]) hx hb hml hl.1 hts hown hK hSt hN hw (c_X0_run l G 29 rfl 30 rfl x4 h7 v11 h12 ev) rfl rfl cv_X10_158 (rm_ok hR (by decide)) rfl (Nat.le_of_ble_eq_true rfl) rfl rfl dX10_check_86 (fun H locs hw => ?_)
          refine lv_aload_n (pc := 89) hx hb dX10_check_89 rfl (lv_at hl 0 rfl) ?_
          refine q_getR (pc := 90) (q := 0) (o := 2) hx hb hts hown hK hw rfl fg_X10_16 dX10_check_90 ?_
          refine q_getR (pc := 93) (q := 2) (o := 12) hx hb hts hown hK hw rfl fg_X10_361 dX10_check_93 ?_
          refine lv_iload_n (pc := 96) hx hb dX10_check_96 rfl (lv_at hl 2 rfl) ?_
          refine q_ald (pc := 97) (q := 14) (n := 20) hx hb hK hw rfl dX10_check_97 hs (fun v13 hs => ?_)
          refine lv_icmp_eq (pc := 98) (tgt := 105) hx hb dX10_check_98 (by decide) (fun hc => ?_) (fun hc => ?_)
          · replace hs := q_t hc hs
            obtain ⟨x14, ex14, hs⟩ := q_nm hs
            refine lv_iinc (pc := 105) (v := x14) (lv' := [(2, .int x14), (0, .ref (G.2.2.1 0)), (1, .int x1)]) hx hb dX10_check_105 hl (k := 2) rfl ex14 (by decide) rfl (fun ls hl => ?_)
            refine lv_goto (pc := 108) (tgt := 32) hx hb dX10_check_108 (by decide) ?_
            exact hK6 _ _ hs _ _ hw _ (lv_sub hl [1, 2, 0] rfl)
          · replace hs := q_f hc hs
            exact hK10 _ hs _ _ hw _ (lv_sub hl [2] rfl)

set_option maxHeartbeats 4000000 in
theorem c_X10_round (l : Launch) (G : GG) (a1 : Int32) (h : Mem) (v : Int32) (h' : Mem) (hs : f_X10_round h a1 = some (v, h')) : Sat l G yX10_round cX10_round 3 (some .int) 4 [.ref (G.2.2.1 0), .int a1] h (some (.int v)) h' := by
  refine Sat.mkI (by decide) (Nat.le_of_ble_eq_true rfl) ?_
  intro p e R s m args below meth c Q F hret hw ls hl
  obtain ⟨hx, hb, hml, hown, hts, hK, hSt, hN, hR⟩ := F
  have hl : lv_has ls 3 [(0, .ref (G.2.2.1 0)), (1, .int a1)] := hl
  unfold f_X10_round at hs
  refine lv_aload_n (pc := 0) hx hb dX10_round_0 rfl (lv_at hl 0 rfl) ?_
  refine q_getR (pc := 1) (q := 0) (o := 2) hx hb hts hown hK hw rfl fg_X10_16 dX10_round_1 ?_
  refine q_getR (pc := 4) (q := 2) (o := 1) hx hb hts hown hK hw rfl fg_X10_91 dX10_round_4 ?_
  refine lv_iload_n (pc := 7) hx hb dX10_round_7 rfl (lv_at hl 1 rfl) ?_
  obtain ⟨v1, ev, hs⟩ := q_cal hs
  refine q_callV (pc := 8) (q := 3) (As := [.int a1]) (rest := []) (rs := [.int v1]) hx hb hml hl.1 hts hown hK hSt hN hw (c_X3_hasWindow l G 3 rfl a1 h v1 ev) rfl rfl cv_X10_147 (rm_ok hR (by decide)) rfl (Nat.le_of_ble_eq_true rfl) rfl rfl dX10_round_8 (fun H locs hw => ?_)
  refine lv_if_ne (pc := 11) (tgt := 20) hx hb dX10_round_11 (by decide) (fun hc => ?_) (fun hc => ?_)
  · replace hs := q_t hc hs
    refine lv_aload_n (pc := 20) hx hb dX10_round_20 rfl (lv_at hl 0 rfl) ?_
    refine q_getR (pc := 21) (q := 0) (o := 39) hx hb hts hown hK hw rfl fg_X10_64 dX10_round_21 ?_
    refine lv_aload_n (pc := 24) hx hb dX10_round_24 rfl (lv_at hl 0 rfl) ?_
    refine q_getR (pc := 25) (q := 0) (o := 2) hx hb hts hown hK hw rfl fg_X10_16 dX10_round_25 ?_
    refine q_getR (pc := 28) (q := 2) (o := 1) hx hb hts hown hK hw rfl fg_X10_91 dX10_round_28 ?_
    refine lv_iload_n (pc := 31) hx hb dX10_round_31 rfl (lv_at hl 1 rfl) ?_
    obtain ⟨v2, h3, ev, hs⟩ := q_cal2 hs
    refine q_callV (pc := 32) (q := 39) (As := [.ref (G.2.2.1 3), .int a1]) (rest := []) (rs := [.int v2]) hx hb hml hl.1 hts hown hK hSt hN hw (c_X2_raysRound l G 3 rfl a1 h v2 h3 ev) rfl rfl cv_X10_214 (rm_ok hR (by decide)) rfl (Nat.le_of_ble_eq_true rfl) rfl rfl dX10_round_32 (fun H locs hw => ?_)
    refine lv_istore_n (pc := 35) (lv' := [(2, .int v2), (0, .ref (G.2.2.1 0)), (1, .int a1)]) hx hb dX10_round_35 rfl hl (by decide) rfl (fun ls hl => ?_)
    refine lv_iload_n (pc := 36) hx hb dX10_round_36 rfl (lv_at hl 0 rfl) ?_
    refine lv_iconst (pc := 37) (v := (iI 1)) hx hb dX10_round_37 rfl ?_
    refine lv_icmp_ge (pc := 38) (tgt := 49) hx hb dX10_round_38 (by decide) (fun hc => ?_) (fun hc => ?_)
    · replace hs := q_t hc hs
      refine lv_iload_n (pc := 49) hx hb dX10_round_49 rfl (lv_at hl 0 rfl) ?_
      exact q_iretW hret dX10_round_50 hw hs
    · replace hs := q_f hc hs
      refine lv_aload_n (pc := 41) hx hb dX10_round_41 rfl (lv_at hl 1 rfl) ?_
      refine lv_iconst (pc := 42) (v := (iI 2)) hx hb dX10_round_42 rfl ?_
      obtain ⟨v4, h5, ev, hs⟩ := q_cal2 hs
      refine q_callV (pc := 43) (q := 0) (As := [.int (iI 2)]) (rest := []) (rs := [.int v4]) hx hb hml hl.1 hts hown hK hSt hN hw (c_X10_fail l G (iI 2) h3 v4 h5 ev) rfl rfl cv_X10_87 (rm_ok hR (by decide)) rfl (Nat.le_of_ble_eq_true rfl) rfl rfl dX10_round_43 (fun H locs hw => ?_)
      refine lv_goto (pc := 46) (tgt := 50) hx hb dX10_round_46 (by decide) ?_
      exact q_iretW hret dX10_round_50 hw hs
  · replace hs := q_f (fun z => z hc) hs
    refine lv_aload_n (pc := 14) hx hb dX10_round_14 rfl (lv_at hl 0 rfl) ?_
    refine lv_iconst (pc := 15) (v := (iI 1)) hx hb dX10_round_15 rfl ?_
    obtain ⟨v6, h7, ev, hs⟩ := q_cal2 hs
    refine q_callV (pc := 16) (q := 0) (As := [.int (iI 1)]) (rest := []) (rs := [.int v6]) hx hb hml hl.1 hts hown hK hSt hN hw (c_X10_fail l G (iI 1) h v6 h7 ev) rfl rfl cv_X10_87 (rm_ok hR (by decide)) rfl (Nat.le_of_ble_eq_true rfl) rfl rfl dX10_round_16 (fun H locs hw => ?_)
    exact q_iretW hret dX10_round_19 hw hs

set_option maxHeartbeats 4000000 in
theorem c_X10_back (l : Launch) (G : GG) (a1 : Int32) (h : Mem) (v : Int32) (h' : Mem) (hs : f_X10_back h a1 = some (v, h')) : Sat l G yX10_back cX10_back 3 (some .int) 17 [.ref (G.2.2.1 0), .int a1] h (some (.int v)) h' := by
  refine Sat.mkI (by decide) (Nat.le_of_ble_eq_true rfl) ?_
  intro p e R s m args below meth c Q F hret hw ls hl
  obtain ⟨hx, hb, hml, hown, hts, hK, hSt, hN, hR⟩ := F
  have hl : lv_has ls 3 [(0, .ref (G.2.2.1 0)), (1, .int a1)] := hl
  unfold f_X10_back at hs
  refine lv_iload_n (pc := 0) hx hb dX10_back_0 rfl (lv_at hl 1 rfl) ?_
  refine lv_iconst (pc := 1) (v := (iI (-1))) hx hb dX10_back_1 rfl ?_
  refine lv_iconst (pc := 2) (v := (iI 2)) hx hb dX10_back_2 rfl ?_
  obtain ⟨v1, ev, hs⟩ := q_cal hs
  refine q_callS (pc := 3) (As := [.int a1, .int (iI (-1)), .int (iI 2)]) (rest := []) (rs := [.int v1]) hx hb hml hl.1 hts hown hK hSt hN hw (c_X10_within l G a1 (iI (-1)) (iI 2) h v1 ev) cs_X10_83 (rm_ok hR (by decide)) rfl (Nat.le_of_ble_eq_true rfl) rfl rfl dX10_back_3 (fun H locs hw => ?_)
  refine lv_if_ne (pc := 6) (tgt := 15) hx hb dX10_back_6 (by decide) (fun hc => ?_) (fun hc => ?_)
  · replace hs := q_t hc hs
    refine lv_aload_n (pc := 15) hx hb dX10_back_15 rfl (lv_at hl 0 rfl) ?_
    refine q_getI (pc := 16) (q := 0) hx hb hts hown hK hw rfl fg_X10_23 dX10_back_16 ?_
    refine q_join0 (P0 := ∀ (H : Heap) (locs : List Loc), IW G s h H locs → ∀ ls : Array Slot, lv_has ls 3 [(0, .ref (G.2.2.1 0))] → W p l e R s m args below meth c H locs 0 0 Q (F0 m 42 ls [])) hs ?_ ?_
    · intro  hs H locs hw ls hl
      refine lv_aload_n (pc := 42) hx hb dX10_back_42 rfl (lv_at hl 0 rfl) ?_
      refine lv_iconst (pc := 43) (v := (iI 3)) hx hb dX10_back_43 rfl ?_
      obtain ⟨v3, h4, ev, hs⟩ := q_cal2 hs
      refine q_callV (pc := 44) (q := 0) (As := [.int (iI 3)]) (rest := []) (rs := [.int v3]) hx hb hml hl.1 hts hown hK hSt hN hw (c_X10_fail l G (iI 3) h v3 h4 ev) rfl rfl cv_X10_87 (rm_ok hR (by decide)) rfl (Nat.le_of_ble_eq_true rfl) rfl rfl dX10_back_44 (fun H locs hw => ?_)
      exact q_iretW hret dX10_back_47 hw hs
    · intro K2 hK2 hs
      refine lv_if_eq (pc := 19) (tgt := 42) hx hb dX10_back_19 (by decide) (fun hc => ?_) (fun hc => ?_)
      · replace hs := q_t hc hs
        exact hK2 hs _ _ hw _ (lv_sub hl [0] rfl)
      · replace hs := q_f hc hs
        refine lv_aload_n (pc := 22) hx hb dX10_back_22 rfl (lv_at hl 0 rfl) ?_
        refine q_getR (pc := 23) (q := 0) (o := 2) hx hb hts hown hK hw rfl fg_X10_16 dX10_back_23 ?_
        refine q_getR (pc := 26) (q := 2) (o := 1) hx hb hts hown hK hw rfl fg_X10_91 dX10_back_26 ?_
        refine lv_aload_n (pc := 29) hx hb dX10_back_29 rfl (lv_at hl 0 rfl) ?_
        refine q_getR (pc := 30) (q := 0) (o := 15) hx hb hts hown hK hw rfl fg_X10_20 dX10_back_30 ?_
        refine q_getR (pc := 33) (q := 15) (o := 1) hx hb hts hown hK hw rfl fg_X10_91 dX10_back_33 ?_
        obtain ⟨v5, ev, hs⟩ := q_cal hs
        refine q_callV (pc := 36) (q := 3) (As := [.ref (G.2.2.1 16)]) (rest := []) (rs := [.int v5]) hx hb hml hl.1 hts hown hK hSt hN hw (c_X3_isSizedAs l G 3 rfl 16 rfl h v5 ev) rfl rfl cv_X10_217 (rm_ok hR (by decide)) rfl (Nat.le_of_ble_eq_true rfl) rfl rfl dX10_back_36 (fun H locs hw => ?_)
        refine lv_if_ne (pc := 39) (tgt := 48) hx hb dX10_back_39 (by decide) (fun hc => ?_) (fun hc => ?_)
        · replace hs := q_t hc hs
          refine lv_aload_n (pc := 48) hx hb dX10_back_48 rfl (lv_at hl 0 rfl) ?_
          refine q_getR (pc := 49) (q := 0) (o := 39) hx hb hts hown hK hw rfl fg_X10_64 dX10_back_49 ?_
          refine lv_aload_n (pc := 52) hx hb dX10_back_52 rfl (lv_at hl 0 rfl) ?_
          refine q_getR (pc := 53) (q := 0) (o := 2) hx hb hts hown hK hw rfl fg_X10_16 dX10_back_53 ?_
          refine q_getR (pc := 56) (q := 2) (o := 1) hx hb hts hown hK hw rfl fg_X10_91 dX10_back_56 ?_
          refine lv_aload_n (pc := 59) hx hb dX10_back_59 rfl (lv_at hl 0 rfl) ?_
          refine q_getR (pc := 60) (q := 0) (o := 15) hx hb hts hown hK hw rfl fg_X10_20 dX10_back_60 ?_
          refine q_getR (pc := 63) (q := 15) (o := 1) hx hb hts hown hK hw rfl fg_X10_91 dX10_back_63 ?_
          obtain ⟨v6, h7, ev, hs⟩ := q_cal2 hs
          refine q_callV (pc := 66) (q := 39) (As := [.ref (G.2.2.1 3), .ref (G.2.2.1 16)]) (rest := []) (rs := [.int v6]) hx hb hml hl.1 hts hown hK hSt hN hw (c_X2_raysBack l G 3 rfl 16 rfl h v6 h7 ev) rfl rfl cv_X10_221 (rm_ok hR (by decide)) rfl (Nat.le_of_ble_eq_true rfl) rfl rfl dX10_back_66 (fun H locs hw => ?_)
          refine lv_istore_n (pc := 69) (lv' := [(2, .int v6), (0, .ref (G.2.2.1 0)), (1, .int a1)]) hx hb dX10_back_69 rfl hl (by decide) rfl (fun ls hl => ?_)
          refine lv_iload_n (pc := 70) hx hb dX10_back_70 rfl (lv_at hl 0 rfl) ?_
          refine q_join0 (P0 := ∀ (H : Heap) (locs : List Loc), IW G s h7 H locs → ∀ ls : Array Slot, lv_has ls 3 [(0, .ref (G.2.2.1 0))] → W p l e R s m args below meth c H locs 0 0 Q (F0 m 79 ls [])) hs ?_ ?_
          · intro  hs H locs hw ls hl
            refine lv_aload_n (pc := 79) hx hb dX10_back_79 rfl (lv_at hl 0 rfl) ?_
            refine lv_iconst (pc := 80) (v := (iI 2)) hx hb dX10_back_80 rfl ?_
            obtain ⟨v9, h10, ev, hs⟩ := q_cal2 hs
            refine q_callV (pc := 81) (q := 0) (As := [.int (iI 2)]) (rest := []) (rs := [.int v9]) hx hb hml hl.1 hts hown hK hSt hN hw (c_X10_fail l G (iI 2) h7 v9 h10 ev) rfl rfl cv_X10_87 (rm_ok hR (by decide)) rfl (Nat.le_of_ble_eq_true rfl) rfl rfl dX10_back_81 (fun H locs hw => ?_)
            exact q_iretW hret dX10_back_84 hw hs
          · intro K8 hK8 hs
            refine lv_if_lt (pc := 71) (tgt := 79) hx hb dX10_back_71 (by decide) (fun hc => ?_) (fun hc => ?_)
            · replace hs := q_t hc hs
              exact hK8 hs _ _ hw _ (lv_sub hl [1] rfl)
            · replace hs := q_f hc hs
              refine lv_iload_n (pc := 74) hx hb dX10_back_74 rfl (lv_at hl 2 rfl) ?_
              refine lv_iload_n (pc := 75) hx hb dX10_back_75 rfl (lv_at hl 0 rfl) ?_
              refine lv_icmp_lt (pc := 76) (tgt := 85) hx hb dX10_back_76 (by decide) (fun hc => ?_) (fun hc => ?_)
              · replace hs := q_t hc hs
                refine lv_iload_n (pc := 85) hx hb dX10_back_85 rfl (lv_at hl 2 rfl) ?_
                refine lv_if_ge (pc := 86) (tgt := 93) hx hb dX10_back_86 (by decide) (fun hc => ?_) (fun hc => ?_)
                · replace hs := q_t hc hs
                  refine lv_aload_n (pc := 93) hx hb dX10_back_93 rfl (lv_at hl 1 rfl) ?_
                  refine q_getR (pc := 94) (q := 0) (o := 39) hx hb hts hown hK hw rfl fg_X10_64 dX10_back_94 ?_
                  refine q_getR (pc := 97) (q := 39) (o := 6) hx hb hts hown hK hw rfl fg_X10_225 dX10_back_97 ?_
                  refine lv_iload_n (pc := 100) hx hb dX10_back_100 rfl (lv_at hl 2 rfl) ?_
                  refine q_ald (pc := 101) (q := 45) (n := 3) hx hb hK hw rfl dX10_back_101 hs (fun v11 hs => ?_)
                  exact q_iretW hret dX10_back_102 hw hs
                · replace hs := q_f hc hs
                  refine lv_iload_n (pc := 89) hx hb dX10_back_89 rfl (lv_at hl 0 rfl) ?_
                  refine lv_goto (pc := 90) (tgt := 102) hx hb dX10_back_90 (by decide) ?_
                  exact q_iretW hret dX10_back_102 hw hs
              · replace hs := q_f hc hs
                exact hK8 hs _ _ hw _ (lv_sub hl [1] rfl)
        · replace hs := q_f (fun z => z hc) hs
          exact hK2 hs _ _ hw _ (lv_sub hl [0] rfl)
  · replace hs := q_f (fun z => z hc) hs
    refine lv_aload_n (pc := 9) hx hb dX10_back_9 rfl (lv_at hl 0 rfl) ?_
    refine lv_iconst (pc := 10) (v := (iI 1)) hx hb dX10_back_10 rfl ?_
    obtain ⟨v12, h13, ev, hs⟩ := q_cal2 hs
    refine q_callV (pc := 11) (q := 0) (As := [.int (iI 1)]) (rest := []) (rs := [.int v12]) hx hb hml hl.1 hts hown hK hSt hN hw (c_X10_fail l G (iI 1) h v12 h13 ev) rfl rfl cv_X10_87 (rm_ok hR (by decide)) rfl (Nat.le_of_ble_eq_true rfl) rfl rfl dX10_back_11 (fun H locs hw => ?_)
    exact q_iretW hret dX10_back_14 hw hs

set_option maxHeartbeats 4000000 in
theorem c_X10_had (l : Launch) (G : GG)  (h : Mem) (v : Int32) (h' : Mem) (hs : f_X10_had h  = some (v, h')) : Sat l G yX10_had cX10_had 2 (some .int) 4 [.ref (G.2.2.1 0)] h (some (.int v)) h' := by
  refine Sat.mkI (by decide) (Nat.le_of_ble_eq_true rfl) ?_
  intro p e R s m args below meth c Q F hret hw ls hl
  obtain ⟨hx, hb, hml, hown, hts, hK, hSt, hN, hR⟩ := F
  have hl : lv_has ls 2 [(0, .ref (G.2.2.1 0))] := hl
  unfold f_X10_had at hs
  refine lv_aload_n (pc := 0) hx hb dX10_had_0 rfl (lv_at hl 0 rfl) ?_
  refine q_getR (pc := 1) (q := 0) (o := 39) hx hb hts hown hK hw rfl fg_X10_64 dX10_had_1 ?_
  refine lv_aload_n (pc := 4) hx hb dX10_had_4 rfl (lv_at hl 0 rfl) ?_
  refine q_getR (pc := 5) (q := 0) (o := 2) hx hb hts hown hK hw rfl fg_X10_16 dX10_had_5 ?_
  refine q_getR (pc := 8) (q := 2) (o := 1) hx hb hts hown hK hw rfl fg_X10_91 dX10_had_8 ?_
  obtain ⟨v1, h2, ev, hs⟩ := q_cal2 hs
  refine q_callV (pc := 11) (q := 39) (As := [.ref (G.2.2.1 3)]) (rest := []) (rs := [.int v1]) hx hb hml hl.1 hts hown hK hSt hN hw (c_X2_standings l G 3 rfl h v1 h2 ev) rfl rfl cv_X10_241 (rm_ok hR (by decide)) rfl (Nat.le_of_ble_eq_true rfl) rfl rfl dX10_had_11 (fun H locs hw => ?_)
  refine lv_istore_n (pc := 14) (lv' := [(1, .int v1), (0, .ref (G.2.2.1 0))]) hx hb dX10_had_14 rfl hl (by decide) rfl (fun ls hl => ?_)
  refine lv_iload_n (pc := 15) hx hb dX10_had_15 rfl (lv_at hl 0 rfl) ?_
  refine lv_sipush (pc := 16) (v := (iI 200)) hx hb dX10_had_16 (by decide) ?_
  refine lv_icmp_le (pc := 19) (tgt := 30) hx hb dX10_had_19 (by decide) (fun hc => ?_) (fun hc => ?_)
  · replace hs := q_t hc hs
    refine lv_iload_n (pc := 30) hx hb dX10_had_30 rfl (lv_at hl 0 rfl) ?_
    exact q_iretW hret dX10_had_31 hw hs
  · replace hs := q_f hc hs
    refine lv_aload_n (pc := 22) hx hb dX10_had_22 rfl (lv_at hl 1 rfl) ?_
    refine lv_iconst (pc := 23) (v := (iI 4)) hx hb dX10_had_23 rfl ?_
    obtain ⟨v3, h4, ev, hs⟩ := q_cal2 hs
    refine q_callV (pc := 24) (q := 0) (As := [.int (iI 4)]) (rest := []) (rs := [.int v3]) hx hb hml hl.1 hts hown hK hSt hN hw (c_X10_fail l G (iI 4) h2 v3 h4 ev) rfl rfl cv_X10_87 (rm_ok hR (by decide)) rfl (Nat.le_of_ble_eq_true rfl) rfl rfl dX10_had_24 (fun H locs hw => ?_)
    refine lv_goto (pc := 27) (tgt := 31) hx hb dX10_had_27 (by decide) ?_
    exact q_iretW hret dX10_had_31 hw hs

set_option maxHeartbeats 4000000 in
theorem c_X10_odds (l : Launch) (G : GG) (a1 : Int32) (a2 : Int32) (a3 : Int32) (a4 : Int32) (h : Mem) (v : Int64) (h' : Mem) (hs : f_X10_odds h a1 a2 a3 a4 = some (v, h')) : Sat l G yX10_odds cX10_odds 7 (some .long) 4 [.ref (G.2.2.1 0), .int a1, .int a2, .int a3, .int a4] h (some (.long v)) h' := by
  refine Sat.mkL (by decide) (Nat.le_of_ble_eq_true rfl) ?_
  intro p e R s m args below meth c Q F hret hw ls hl
  obtain ⟨hx, hb, hml, hown, hts, hK, hSt, hN, hR⟩ := F
  have hl : lv_has ls 7 [(0, .ref (G.2.2.1 0)), (1, .int a1), (2, .int a2), (3, .int a3), (4, .int a4)] := hl
  unfold f_X10_odds at hs
  refine lv_aload_n (pc := 0) hx hb dX10_odds_0 rfl (lv_at hl 0 rfl) ?_
  refine q_getR (pc := 1) (q := 0) (o := 2) hx hb hts hown hK hw rfl fg_X10_16 dX10_odds_1 ?_
  refine q_getR (pc := 4) (q := 2) (o := 1) hx hb hts hown hK hw rfl fg_X10_91 dX10_odds_4 ?_
  refine lv_astore (pc := 7) (lv' := [(5, .ref (G.2.2.1 3)), (0, .ref (G.2.2.1 0)), (1, .int a1), (2, .int a2), (3, .int a3), (4, .int a4)]) hx hb dX10_odds_7 hl (by decide) rfl (fun ls hl => ?_)
  refine lv_aload (pc := 9) hx hb dX10_odds_9 (lv_at hl 0 rfl) ?_
  refine lv_iload_n (pc := 11) hx hb dX10_odds_11 rfl (lv_at hl 4 rfl) ?_
  obtain ⟨v1, ev, hs⟩ := q_cal hs
  refine q_callV (pc := 12) (q := 3) (As := [.int a3]) (rest := []) (rs := [.int v1]) hx hb hml hl.1 hts hown hK hSt hN hw (c_X3_hasWindow l G 3 rfl a3 h v1 ev) rfl rfl cv_X10_147 (rm_ok hR (by decide)) rfl (Nat.le_of_ble_eq_true rfl) rfl rfl dX10_odds_12 (fun H locs hw => ?_)
  refine q_join1 (P0 := fun (x2 : Int32) => ∀ (H : Heap) (locs : List Loc), IW G s h H locs → ∀ ls : Array Slot, lv_has ls 7 [(0, .ref (G.2.2.1 0)), (1, .int a1), (2, .int a2), (3, .int a3), (4, .int a4), (5, .ref (G.2.2.1 3))] → W p l e R s m args below meth c H locs 0 0 Q (F0 m 29 ls [.int x2])) hs ?_ ?_
  · intro x2 hs H locs hw ls hl
    unfold f_X10_odds_k3 at hs
    refine lv_istore (pc := 29) (lv' := [(6, .int x2), (0, .ref (G.2.2.1 0)), (1, .int a1), (2, .int a2), (3, .int a3), (4, .int a4), (5, .ref (G.2.2.1 3))]) hx hb dX10_odds_29 hl (by decide) rfl (fun ls hl => ?_)
    refine lv_aload (pc := 31) hx hb dX10_odds_31 (lv_at hl 6 rfl) ?_
    refine lv_iload_n (pc := 33) hx hb dX10_odds_33 rfl (lv_at hl 2 rfl) ?_
    obtain ⟨v4, ev, hs⟩ := q_cal hs
    refine q_callV (pc := 34) (q := 3) (As := [.int a1]) (rest := []) (rs := [.int v4]) hx hb hml hl.1 hts hown hK hSt hN hw (c_X3_hasMask l G 3 rfl a1 h v4 ev) rfl rfl cv_X10_245 (rm_ok hR (by decide)) rfl (Nat.le_of_ble_eq_true rfl) rfl rfl dX10_odds_34 (fun H locs hw => ?_)
    refine q_join0 (P0 := ∀ (H : Heap) (locs : List Loc), IW G s h H locs → ∀ ls : Array Slot, lv_has ls 7 [(0, .ref (G.2.2.1 0))] → W p l e R s m args below meth c H locs 0 0 Q (F0 m 64 ls [])) hs ?_ ?_
    · intro  hs H locs hw ls hl
      refine lv_aload_n (pc := 64) hx hb dX10_odds_64 rfl (lv_at hl 0 rfl) ?_
      refine lv_iconst (pc := 65) (v := (iI 1)) hx hb dX10_odds_65 rfl ?_
      obtain ⟨v6, h7, ev, hs⟩ := q_cal2 hs
      refine q_callV (pc := 66) (q := 0) (As := [.int (iI 1)]) (rest := []) (rs := [.int v6]) hx hb hml hl.1 hts hown hK hSt hN hw (c_X10_fail l G (iI 1) h v6 h7 ev) rfl rfl cv_X10_87 (rm_ok hR (by decide)) rfl (Nat.le_of_ble_eq_true rfl) rfl rfl dX10_odds_66 (fun H locs hw => ?_)
      refine lv_i2l (pc := 69) hx hb dX10_odds_69 rfl ?_
      exact q_lretW hret dX10_odds_70 hw hs
    · intro K5 hK5 hs
      refine lv_if_eq (pc := 37) (tgt := 64) hx hb dX10_odds_37 (by decide) (fun hc => ?_) (fun hc => ?_)
      · replace hs := q_t hc hs
        exact hK5 hs _ _ hw _ (lv_sub hl [1] rfl)
      · replace hs := q_f hc hs
        refine lv_aload (pc := 40) hx hb dX10_odds_40 (lv_at hl 6 rfl) ?_
        refine lv_iload_n (pc := 42) hx hb dX10_odds_42 rfl (lv_at hl 3 rfl) ?_
        obtain ⟨v8, ev, hs⟩ := q_cal hs
        refine q_callV (pc := 43) (q := 3) (As := [.int a2]) (rest := []) (rs := [.int v8]) hx hb hml hl.1 hts hown hK hSt hN hw (c_X3_hasWindow l G 3 rfl a2 h v8 ev) rfl rfl cv_X10_147 (rm_ok hR (by decide)) rfl (Nat.le_of_ble_eq_true rfl) rfl rfl dX10_odds_43 (fun H locs hw => ?_)
        refine lv_if_eq (pc := 46) (tgt := 64) hx hb dX10_odds_46 (by decide) (fun hc => ?_) (fun hc => ?_)
        · replace hs := q_t hc hs
          exact hK5 hs _ _ hw _ (lv_sub hl [1] rfl)
        · replace hs := q_f hc hs
          refine lv_iload (pc := 49) hx hb dX10_odds_49 (lv_at hl 0 rfl) ?_
          refine lv_if_eq (pc := 51) (tgt := 64) hx hb dX10_odds_51 (by decide) (fun hc => ?_) (fun hc => ?_)
          · replace hs := q_t hc hs
            exact hK5 hs _ _ hw _ (lv_sub hl [1] rfl)
          · replace hs := q_f hc hs
            refine lv_iload (pc := 54) hx hb dX10_odds_54 (lv_at hl 5 rfl) ?_
            refine lv_iconst (pc := 56) (v := (iI 0)) hx hb dX10_odds_56 rfl ?_
            refine lv_iconst (pc := 57) (v := (iI 1)) hx hb dX10_odds_57 rfl ?_
            obtain ⟨v9, ev, hs⟩ := q_cal hs
            refine q_callS (pc := 58) (As := [.int a4, .int (iI 0), .int (iI 1)]) (rest := []) (rs := [.int v9]) hx hb hml hl.1 hts hown hK hSt hN hw (c_X10_within l G a4 (iI 0) (iI 1) h v9 ev) cs_X10_83 (rm_ok hR (by decide)) rfl (Nat.le_of_ble_eq_true rfl) rfl rfl dX10_odds_58 (fun H locs hw => ?_)
            refine lv_if_ne (pc := 61) (tgt := 71) hx hb dX10_odds_61 (by decide) (fun hc => ?_) (fun hc => ?_)
            · replace hs := q_t hc hs
              refine lv_aload_n (pc := 71) hx hb dX10_odds_71 rfl (lv_at hl 1 rfl) ?_
              refine q_getR (pc := 72) (q := 0) (o := 56) hx hb hts hown hK hw rfl fg_X10_78 dX10_odds_72 ?_
              refine lv_aload (pc := 75) hx hb dX10_odds_75 (lv_at hl 6 rfl) ?_
              refine lv_iload_n (pc := 77) hx hb dX10_odds_77 rfl (lv_at hl 2 rfl) ?_
              obtain ⟨h10, ev, hs⟩ := q_cal hs
              refine q_callV (pc := 78) (q := 56) (As := [.ref (G.2.2.1 3), .int a1]) (rest := []) (rs := []) hx hb hml hl.1 hts hown hK hSt hN hw (c_X1_suppose l G 3 rfl a1 h h10 ev) rfl rfl cv_X10_248 (rm_ok hR (by decide)) rfl (Nat.le_of_ble_eq_true rfl) rfl rfl dX10_odds_78 (fun H locs hw => ?_)
              refine lv_aload_n (pc := 81) hx hb dX10_odds_81 rfl (lv_at hl 1 rfl) ?_
              refine q_getR (pc := 82) (q := 0) (o := 56) hx hb hts hown hK hw rfl fg_X10_78 dX10_odds_82 ?_
              refine lv_iload_n (pc := 85) hx hb dX10_odds_85 rfl (lv_at hl 3 rfl) ?_
              refine lv_iload_n (pc := 86) hx hb dX10_odds_86 rfl (lv_at hl 4 rfl) ?_
              obtain ⟨h11, ev, hs⟩ := q_cal hs
              refine q_callV (pc := 87) (q := 56) (As := [.int a2, .int a3]) (rest := []) (rs := []) hx hb hml hl.1 hts hown hK hSt hN hw (c_X1_weigh l G a2 a3 h10 h11 ev) rfl rfl cv_X10_252 (rm_ok hR (by decide)) rfl (Nat.le_of_ble_eq_true rfl) rfl rfl dX10_odds_87 (fun H locs hw => ?_)
              refine lv_iload (pc := 90) hx hb dX10_odds_90 (lv_at hl 5 rfl) ?_
              refine lv_if_ne (pc := 92) (tgt := 106) hx hb dX10_odds_92 (by decide) (fun hc => ?_) (fun hc => ?_)
              · replace hs := q_t hc hs
                refine lv_aload_n (pc := 106) hx hb dX10_odds_106 rfl (lv_at hl 1 rfl) ?_
                refine q_getR (pc := 107) (q := 0) (o := 56) hx hb hts hown hK hw rfl fg_X10_78 dX10_odds_107 ?_
                refine q_getI (pc := 110) (q := 56) hx hb hts hown hK hw rfl fg_X10_258 dX10_odds_110 ?_
                refine lv_i2l (pc := 113) hx hb dX10_odds_113 rfl ?_
                exact q_lretW hret dX10_odds_114 hw hs
              · replace hs := q_f (fun z => z hc) hs
                refine lv_aload_n (pc := 95) hx hb dX10_odds_95 rfl (lv_at hl 1 rfl) ?_
                refine q_getR (pc := 96) (q := 0) (o := 56) hx hb hts hown hK hw rfl fg_X10_78 dX10_odds_96 ?_
                refine q_getI (pc := 99) (q := 56) hx hb hts hown hK hw rfl fg_X10_255 dX10_odds_99 ?_
                refine lv_i2l (pc := 102) hx hb dX10_odds_102 rfl ?_
                refine lv_goto (pc := 103) (tgt := 114) hx hb dX10_odds_103 (by decide) ?_
                exact q_lretW hret dX10_odds_114 hw hs
            · replace hs := q_f (fun z => z hc) hs
              exact hK5 hs _ _ hw _ (lv_sub hl [1] rfl)
  · intro K3 hK3 hs
    refine q_join0 (P0 := ∀ (H : Heap) (locs : List Loc), IW G s h H locs → ∀ ls : Array Slot, lv_has ls 7 [(0, .ref (G.2.2.1 0)), (1, .int a1), (2, .int a2), (3, .int a3), (4, .int a4), (5, .ref (G.2.2.1 3))] → W p l e R s m args below meth c H locs 0 0 Q (F0 m 24 ls [])) hs ?_ ?_
    · intro  hs H locs hw ls hl
      refine lv_iconst (pc := 24) (v := (iI 1)) hx hb dX10_odds_24 rfl ?_
      refine lv_goto (pc := 25) (tgt := 29) hx hb dX10_odds_25 (by decide) ?_
      exact hK3 _ hs _ _ hw _ (lv_sub hl [0, 1, 2, 3, 4, 5] rfl)
    · intro K12 hK12 hs
      refine lv_if_ne (pc := 15) (tgt := 24) hx hb dX10_odds_15 (by decide) (fun hc => ?_) (fun hc => ?_)
      · replace hs := q_t hc hs
        exact hK12 hs _ _ hw _ (lv_sub hl [1, 2, 3, 4, 5, 0] rfl)
      · replace hs := q_f (fun z => z hc) hs
        refine lv_iload_n (pc := 18) hx hb dX10_odds_18 rfl (lv_at hl 4 rfl) ?_
        refine lv_bipush (pc := 19) (v := (iI 100)) hx hb dX10_odds_19 (by decide) ?_
        refine lv_icmp_ne (pc := 21) (tgt := 28) hx hb dX10_odds_21 (by decide) (fun hc => ?_) (fun hc => ?_)
        · replace hs := q_t hc hs
          refine lv_iconst (pc := 28) (v := (iI 0)) hx hb dX10_odds_28 rfl ?_
          exact hK3 _ hs _ _ hw _ (lv_sub hl [1, 2, 3, 4, 5, 0] rfl)
        · replace hs := q_f (fun z => z hc) hs
          exact hK12 hs _ _ hw _ (lv_sub hl [1, 2, 3, 4, 5, 0] rfl)

set_option maxHeartbeats 4000000 in
theorem c_X10_fits (l : Launch) (G : GG) (a1 : Int32) (a2 : Int32) (h : Mem) (v : Int32) (h' : Mem) (hs : f_X10_fits h a1 a2 = some (v, h')) : Sat l G yX10_fits cX10_fits 4 (some .int) 5 [.ref (G.2.2.1 0), .int a1, .int a2] h (some (.int v)) h' := by
  refine Sat.mkI (by decide) (Nat.le_of_ble_eq_true rfl) ?_
  intro p e R s m args below meth c Q F hret hw ls hl
  obtain ⟨hx, hb, hml, hown, hts, hK, hSt, hN, hR⟩ := F
  have hl : lv_has ls 4 [(0, .ref (G.2.2.1 0)), (1, .int a1), (2, .int a2)] := hl
  unfold f_X10_fits at hs
  refine lv_aload_n (pc := 0) hx hb dX10_fits_0 rfl (lv_at hl 0 rfl) ?_
  refine q_getR (pc := 1) (q := 0) (o := 2) hx hb hts hown hK hw rfl fg_X10_16 dX10_fits_1 ?_
  refine q_getR (pc := 4) (q := 2) (o := 1) hx hb hts hown hK hw rfl fg_X10_91 dX10_fits_4 ?_
  refine lv_iload_n (pc := 7) hx hb dX10_fits_7 rfl (lv_at hl 1 rfl) ?_
  obtain ⟨v1, ev, hs⟩ := q_cal hs
  refine q_callV (pc := 8) (q := 3) (As := [.int a1]) (rest := []) (rs := [.int v1]) hx hb hml hl.1 hts hown hK hSt hN hw (c_X3_hasMask l G 3 rfl a1 h v1 ev) rfl rfl cv_X10_245 (rm_ok hR (by decide)) rfl (Nat.le_of_ble_eq_true rfl) rfl rfl dX10_fits_8 (fun H locs hw => ?_)
  refine q_join0 (P0 := ∀ (H : Heap) (locs : List Loc), IW G s h H locs → ∀ ls : Array Slot, lv_has ls 4 [(0, .ref (G.2.2.1 0))] → W p l e R s m args below meth c H locs 0 0 Q (F0 m 21 ls [])) hs ?_ ?_
  · intro  hs H locs hw ls hl
    refine lv_aload_n (pc := 21) hx hb dX10_fits_21 rfl (lv_at hl 0 rfl) ?_
    refine lv_iconst (pc := 22) (v := (iI 1)) hx hb dX10_fits_22 rfl ?_
    obtain ⟨v3, h4, ev, hs⟩ := q_cal2 hs
    refine q_callV (pc := 23) (q := 0) (As := [.int (iI 1)]) (rest := []) (rs := [.int v3]) hx hb hml hl.1 hts hown hK hSt hN hw (c_X10_fail l G (iI 1) h v3 h4 ev) rfl rfl cv_X10_87 (rm_ok hR (by decide)) rfl (Nat.le_of_ble_eq_true rfl) rfl rfl dX10_fits_23 (fun H locs hw => ?_)
    exact q_iretW hret dX10_fits_26 hw hs
  · intro K2 hK2 hs
    refine lv_if_eq (pc := 11) (tgt := 21) hx hb dX10_fits_11 (by decide) (fun hc => ?_) (fun hc => ?_)
    · replace hs := q_t hc hs
      exact hK2 hs _ _ hw _ (lv_sub hl [0] rfl)
    · replace hs := q_f hc hs
      refine lv_iload_n (pc := 14) hx hb dX10_fits_14 rfl (lv_at hl 2 rfl) ?_
      obtain ⟨v5, ev, hs⟩ := q_cal hs
      refine q_callS (pc := 15) (As := [.int a2]) (rest := []) (rs := [.int v5]) hx hb hml hl.1 hts hown hK hSt hN hw (c_X10_hasSheet l G a2 h v5 ev) cs_X10_261 (rm_ok hR (by decide)) rfl (Nat.le_of_ble_eq_true rfl) rfl rfl dX10_fits_15 (fun H locs hw => ?_)
      refine lv_if_ne (pc := 18) (tgt := 27) hx hb dX10_fits_18 (by decide) (fun hc => ?_) (fun hc => ?_)
      · replace hs := q_t hc hs
        refine lv_aload_n (pc := 27) hx hb dX10_fits_27 rfl (lv_at hl 0 rfl) ?_
        refine q_getR (pc := 28) (q := 0) (o := 28) hx hb hts hown hK hw rfl fg_X10_29 dX10_fits_28 ?_
        refine lv_iload_n (pc := 31) hx hb dX10_fits_31 rfl (lv_at hl 2 rfl) ?_
        refine q_aald (pc := 32) (q := 28) (n := 4) hx hb hK hw rfl dX10_fits_32 hs (fun j6 hj6 hs => ?_)
        refine lv_astore_n (pc := 33) (lv' := [(3, .ref (G.2.2.1 (64 + 2 * j6))), (0, .ref (G.2.2.1 0)), (1, .int a1), (2, .int a2)]) hx hb dX10_fits_33 rfl hl (by decide) rfl (fun ls hl => ?_)
        refine lv_aload_n (pc := 34) hx hb dX10_fits_34 rfl (lv_at hl 1 rfl) ?_
        refine q_getR (pc := 35) (q := 0) (o := 56) hx hb hts hown hK hw rfl fg_X10_78 dX10_fits_35 ?_
        refine lv_aload_n (pc := 38) hx hb dX10_fits_38 rfl (lv_at hl 0 rfl) ?_
        refine lv_aload_n (pc := 39) hx hb dX10_fits_39 rfl (lv_at hl 1 rfl) ?_
        refine q_getR (pc := 40) (q := 0) (o := 2) hx hb hts hown hK hw rfl fg_X10_16 dX10_fits_40 ?_
        refine q_getR (pc := 43) (q := 2) (o := 1) hx hb hts hown hK hw rfl fg_X10_91 dX10_fits_43 ?_
        obtain ⟨v7, ev, hs⟩ := q_cal hs
        refine q_callV (pc := 46) (q := 56) (As := [.ref (G.2.2.1 (64 + 2 * j6)), .ref (G.2.2.1 3)]) (rest := []) (rs := [.int v7]) hx hb hml hl.1 hts hown hK hSt hN hw (c_X1_canRead l G (64 + 2 * j6) (lay_sheet _ hj6) 3 rfl h v7 ev) rfl rfl cv_X10_264 (rm_ok hR (by decide)) rfl (Nat.le_of_ble_eq_true rfl) rfl rfl dX10_fits_46 (fun H locs hw => ?_)
        refine lv_if_ne (pc := 49) (tgt := 58) hx hb dX10_fits_49 (by decide) (fun hc => ?_) (fun hc => ?_)
        · replace hs := q_t hc hs
          refine lv_aload_n (pc := 58) hx hb dX10_fits_58 rfl (lv_at hl 1 rfl) ?_
          refine q_getR (pc := 59) (q := 0) (o := 56) hx hb hts hown hK hw rfl fg_X10_78 dX10_fits_59 ?_
          refine lv_aload_n (pc := 62) hx hb dX10_fits_62 rfl (lv_at hl 1 rfl) ?_
          refine q_getR (pc := 63) (q := 0) (o := 2) hx hb hts hown hK hw rfl fg_X10_16 dX10_fits_63 ?_
          refine q_getR (pc := 66) (q := 2) (o := 1) hx hb hts hown hK hw rfl fg_X10_91 dX10_fits_66 ?_
          refine lv_iload_n (pc := 69) hx hb dX10_fits_69 rfl (lv_at hl 2 rfl) ?_
          obtain ⟨h8, ev, hs⟩ := q_cal hs
          refine q_callV (pc := 70) (q := 56) (As := [.ref (G.2.2.1 3), .int a1]) (rest := []) (rs := []) hx hb hml hl.1 hts hown hK hSt hN hw (c_X1_suppose l G 3 rfl a1 h h8 ev) rfl rfl cv_X10_248 (rm_ok hR (by decide)) rfl (Nat.le_of_ble_eq_true rfl) rfl rfl dX10_fits_70 (fun H locs hw => ?_)
          refine lv_aload_n (pc := 73) hx hb dX10_fits_73 rfl (lv_at hl 1 rfl) ?_
          refine q_getR (pc := 74) (q := 0) (o := 56) hx hb hts hown hK hw rfl fg_X10_78 dX10_fits_74 ?_
          refine lv_aload_n (pc := 77) hx hb dX10_fits_77 rfl (lv_at hl 0 rfl) ?_
          obtain ⟨v9, h10, ev, hs⟩ := q_cal2 hs
          refine q_callV (pc := 78) (q := 56) (As := [.ref (G.2.2.1 (64 + 2 * j6))]) (rest := []) (rs := [.int v9]) hx hb hml hl.1 hts hown hK hSt hN hw (c_X1_fitting l G (64 + 2 * j6) (lay_sheet _ hj6) h8 v9 h10 ev) rfl rfl cv_X10_268 (rm_ok hR (by decide)) rfl (Nat.le_of_ble_eq_true rfl) rfl rfl dX10_fits_78 (fun H locs hw => ?_)
          exact q_iretW hret dX10_fits_81 hw hs
        · replace hs := q_f (fun z => z hc) hs
          refine lv_aload_n (pc := 52) hx hb dX10_fits_52 rfl (lv_at hl 1 rfl) ?_
          refine lv_iconst (pc := 53) (v := (iI 2)) hx hb dX10_fits_53 rfl ?_
          obtain ⟨v11, h12, ev, hs⟩ := q_cal2 hs
          refine q_callV (pc := 54) (q := 0) (As := [.int (iI 2)]) (rest := []) (rs := [.int v11]) hx hb hml hl.1 hts hown hK hSt hN hw (c_X10_fail l G (iI 2) h v11 h12 ev) rfl rfl cv_X10_87 (rm_ok hR (by decide)) rfl (Nat.le_of_ble_eq_true rfl) rfl rfl dX10_fits_54 (fun H locs hw => ?_)
          exact q_iretW hret dX10_fits_57 hw hs
      · replace hs := q_f (fun z => z hc) hs
        exact hK2 hs _ _ hw _ (lv_sub hl [0] rfl)

set_option maxHeartbeats 4000000 in
set_option maxRecDepth 100000 in
theorem c_X10_tells (l : Launch) (G : GG) (a1 : Int32) (a2 : Int32) (a3 : Int32) (h : Mem) (v : Int32) (h' : Mem) (hs : f_X10_tells h a1 a2 a3 = some (v, h')) : Sat l G yX10_tells cX10_tells 5 (some .int) 5 [.ref (G.2.2.1 0), .int a1, .int a2, .int a3] h (some (.int v)) h' := by
  refine Sat.mkI (by decide) (Nat.le_of_ble_eq_true rfl) ?_
  intro p e R s m args below meth c Q F hret hw ls hl
  obtain ⟨hx, hb, hml, hown, hts, hK, hSt, hN, hR⟩ := F
  have hl : lv_has ls 5 [(0, .ref (G.2.2.1 0)), (1, .int a1), (2, .int a2), (3, .int a3)] := hl
  unfold f_X10_tells at hs
  refine lv_aload_n (pc := 0) hx hb dX10_tells_0 rfl (lv_at hl 0 rfl) ?_
  refine q_getR (pc := 1) (q := 0) (o := 2) hx hb hts hown hK hw rfl fg_X10_16 dX10_tells_1 ?_
  refine q_getR (pc := 4) (q := 2) (o := 1) hx hb hts hown hK hw rfl fg_X10_91 dX10_tells_4 ?_
  refine lv_iload_n (pc := 7) hx hb dX10_tells_7 rfl (lv_at hl 1 rfl) ?_
  obtain ⟨v1, ev, hs⟩ := q_cal hs
  refine q_callV (pc := 8) (q := 3) (As := [.int a1]) (rest := []) (rs := [.int v1]) hx hb hml hl.1 hts hown hK hSt hN hw (c_X3_hasMask l G 3 rfl a1 h v1 ev) rfl rfl cv_X10_245 (rm_ok hR (by decide)) rfl (Nat.le_of_ble_eq_true rfl) rfl rfl dX10_tells_8 (fun H locs hw => ?_)
  refine q_join0 (P0 := ∀ (H : Heap) (locs : List Loc), IW G s h H locs → ∀ ls : Array Slot, lv_has ls 5 [(0, .ref (G.2.2.1 0))] → W p l e R s m args below meth c H locs 0 0 Q (F0 m 30 ls [])) hs ?_ ?_
  · intro  hs H locs hw ls hl
    refine lv_aload_n (pc := 30) hx hb dX10_tells_30 rfl (lv_at hl 0 rfl) ?_
    refine lv_iconst (pc := 31) (v := (iI 1)) hx hb dX10_tells_31 rfl ?_
    obtain ⟨v3, h4, ev, hs⟩ := q_cal2 hs
    refine q_callV (pc := 32) (q := 0) (As := [.int (iI 1)]) (rest := []) (rs := [.int v3]) hx hb hml hl.1 hts hown hK hSt hN hw (c_X10_fail l G (iI 1) h v3 h4 ev) rfl rfl cv_X10_87 (rm_ok hR (by decide)) rfl (Nat.le_of_ble_eq_true rfl) rfl rfl dX10_tells_32 (fun H locs hw => ?_)
    exact q_iretW hret dX10_tells_35 hw hs
  · intro K2 hK2 hs
    refine lv_if_eq (pc := 11) (tgt := 30) hx hb dX10_tells_11 (by decide) (fun hc => ?_) (fun hc => ?_)
    · replace hs := q_t hc hs
      exact hK2 hs _ _ hw _ (lv_sub hl [0] rfl)
    · replace hs := q_f hc hs
      refine lv_iload_n (pc := 14) hx hb dX10_tells_14 rfl (lv_at hl 2 rfl) ?_
      obtain ⟨v5, ev, hs⟩ := q_cal hs
      refine q_callS (pc := 15) (As := [.int a2]) (rest := []) (rs := [.int v5]) hx hb hml hl.1 hts hown hK hSt hN hw (c_X10_hasSheet l G a2 h v5 ev) cs_X10_261 (rm_ok hR (by decide)) rfl (Nat.le_of_ble_eq_true rfl) rfl rfl dX10_tells_15 (fun H locs hw => ?_)
      refine lv_if_eq (pc := 18) (tgt := 30) hx hb dX10_tells_18 (by decide) (fun hc => ?_) (fun hc => ?_)
      · replace hs := q_t hc hs
        exact hK2 hs _ _ hw _ (lv_sub hl [0] rfl)
      · replace hs := q_f hc hs
        refine lv_iload_n (pc := 21) hx hb dX10_tells_21 rfl (lv_at hl 3 rfl) ?_
        refine lv_iconst (pc := 22) (v := (iI 0)) hx hb dX10_tells_22 rfl ?_
        refine lv_iconst (pc := 23) (v := (iI 1)) hx hb dX10_tells_23 rfl ?_
        obtain ⟨v6, ev, hs⟩ := q_cal hs
        refine q_callS (pc := 24) (As := [.int a3, .int (iI 0), .int (iI 1)]) (rest := []) (rs := [.int v6]) hx hb hml hl.1 hts hown hK hSt hN hw (c_X10_within l G a3 (iI 0) (iI 1) h v6 ev) cs_X10_83 (rm_ok hR (by decide)) rfl (Nat.le_of_ble_eq_true rfl) rfl rfl dX10_tells_24 (fun H locs hw => ?_)
        refine lv_if_ne (pc := 27) (tgt := 36) hx hb dX10_tells_27 (by decide) (fun hc => ?_) (fun hc => ?_)
        · replace hs := q_t hc hs
          refine lv_aload_n (pc := 36) hx hb dX10_tells_36 rfl (lv_at hl 0 rfl) ?_
          refine q_getR (pc := 37) (q := 0) (o := 28) hx hb hts hown hK hw rfl fg_X10_29 dX10_tells_37 ?_
          refine lv_iload_n (pc := 40) hx hb dX10_tells_40 rfl (lv_at hl 2 rfl) ?_
          refine q_aald (pc := 41) (q := 28) (n := 4) hx hb hK hw rfl dX10_tells_41 hs (fun j7 hj7 hs => ?_)
          refine lv_astore (pc := 42) (lv' := [(4, .ref (G.2.2.1 (64 + 2 * j7))), (0, .ref (G.2.2.1 0)), (1, .int a1), (2, .int a2), (3, .int a3)]) hx hb dX10_tells_42 hl (by decide) rfl (fun ls hl => ?_)
          refine lv_aload_n (pc := 44) hx hb dX10_tells_44 rfl (lv_at hl 1 rfl) ?_
          refine q_getR (pc := 45) (q := 0) (o := 56) hx hb hts hown hK hw rfl fg_X10_78 dX10_tells_45 ?_
          refine lv_aload (pc := 48) hx hb dX10_tells_48 (lv_at hl 0 rfl) ?_
          refine lv_aload_n (pc := 50) hx hb dX10_tells_50 rfl (lv_at hl 1 rfl) ?_
          refine q_getR (pc := 51) (q := 0) (o := 2) hx hb hts hown hK hw rfl fg_X10_16 dX10_tells_51 ?_
          refine q_getR (pc := 54) (q := 2) (o := 1) hx hb hts hown hK hw rfl fg_X10_91 dX10_tells_54 ?_
          obtain ⟨v8, ev, hs⟩ := q_cal hs
          refine q_callV (pc := 57) (q := 56) (As := [.ref (G.2.2.1 (64 + 2 * j7)), .ref (G.2.2.1 3)]) (rest := []) (rs := [.int v8]) hx hb hml hl.1 hts hown hK hSt hN hw (c_X1_canRead l G (64 + 2 * j7) (lay_sheet _ hj7) 3 rfl h v8 ev) rfl rfl cv_X10_264 (rm_ok hR (by decide)) rfl (Nat.le_of_ble_eq_true rfl) rfl rfl dX10_tells_57 (fun H locs hw => ?_)
          refine lv_if_ne (pc := 60) (tgt := 69) hx hb dX10_tells_60 (by decide) (fun hc => ?_) (fun hc => ?_)
          · replace hs := q_t hc hs
            refine lv_aload_n (pc := 69) hx hb dX10_tells_69 rfl (lv_at hl 1 rfl) ?_
            refine q_getR (pc := 70) (q := 0) (o := 56) hx hb hts hown hK hw rfl fg_X10_78 dX10_tells_70 ?_
            refine lv_aload_n (pc := 73) hx hb dX10_tells_73 rfl (lv_at hl 1 rfl) ?_
            refine q_getR (pc := 74) (q := 0) (o := 2) hx hb hts hown hK hw rfl fg_X10_16 dX10_tells_74 ?_
            refine q_getR (pc := 77) (q := 2) (o := 1) hx hb hts hown hK hw rfl fg_X10_91 dX10_tells_77 ?_
            refine lv_iload_n (pc := 80) hx hb dX10_tells_80 rfl (lv_at hl 2 rfl) ?_
            obtain ⟨h9, ev, hs⟩ := q_cal hs
            refine q_callV (pc := 81) (q := 56) (As := [.ref (G.2.2.1 3), .int a1]) (rest := []) (rs := []) hx hb hml hl.1 hts hown hK hSt hN hw (c_X1_suppose l G 3 rfl a1 h h9 ev) rfl rfl cv_X10_248 (rm_ok hR (by decide)) rfl (Nat.le_of_ble_eq_true rfl) rfl rfl dX10_tells_81 (fun H locs hw => ?_)
            refine lv_aload_n (pc := 84) hx hb dX10_tells_84 rfl (lv_at hl 1 rfl) ?_
            refine q_getR (pc := 85) (q := 0) (o := 56) hx hb hts hown hK hw rfl fg_X10_78 dX10_tells_85 ?_
            refine lv_aload (pc := 88) hx hb dX10_tells_88 (lv_at hl 0 rfl) ?_
            obtain ⟨v10, h11, ev, hs⟩ := q_cal2 hs
            refine q_callV (pc := 90) (q := 56) (As := [.ref (G.2.2.1 (64 + 2 * j7))]) (rest := []) (rs := [.int v10]) hx hb hml hl.1 hts hown hK hSt hN hw (c_X1_findTelling l G (64 + 2 * j7) (lay_sheet _ hj7) h9 v10 h11 ev) rfl rfl cv_X10_272 (rm_ok hR (by decide)) rfl (Nat.le_of_ble_eq_true rfl) rfl rfl dX10_tells_90 (fun H locs hw => ?_)
            refine lv_if_ne (pc := 93) (tgt := 102) hx hb dX10_tells_93 (by decide) (fun hc => ?_) (fun hc => ?_)
            · replace hs := q_t hc hs
              refine lv_iload_n (pc := 102) hx hb dX10_tells_102 rfl (lv_at hl 4 rfl) ?_
              refine lv_if_ne (pc := 103) (tgt := 116) hx hb dX10_tells_103 (by decide) (fun hc => ?_) (fun hc => ?_)
              · replace hs := q_t hc hs
                refine lv_aload_n (pc := 116) hx hb dX10_tells_116 rfl (lv_at hl 1 rfl) ?_
                refine q_getR (pc := 117) (q := 0) (o := 56) hx hb hts hown hK hw rfl fg_X10_78 dX10_tells_117 ?_
                refine q_getI (pc := 120) (q := 56) hx hb hts hown hK hw rfl fg_X10_279 dX10_tells_120 ?_
                exact q_iretW hret dX10_tells_123 hw hs
              · replace hs := q_f (fun z => z hc) hs
                refine lv_aload_n (pc := 106) hx hb dX10_tells_106 rfl (lv_at hl 1 rfl) ?_
                refine q_getR (pc := 107) (q := 0) (o := 56) hx hb hts hown hK hw rfl fg_X10_78 dX10_tells_107 ?_
                refine q_getI (pc := 110) (q := 56) hx hb hts hown hK hw rfl fg_X10_276 dX10_tells_110 ?_
                refine lv_goto (pc := 113) (tgt := 123) hx hb dX10_tells_113 (by decide) ?_
                exact q_iretW hret dX10_tells_123 hw hs
            · replace hs := q_f (fun z => z hc) hs
              refine lv_aload_n (pc := 96) hx hb dX10_tells_96 rfl (lv_at hl 1 rfl) ?_
              refine lv_iconst (pc := 97) (v := (iI 2)) hx hb dX10_tells_97 rfl ?_
              obtain ⟨v12, h13, ev, hs⟩ := q_cal2 hs
              refine q_callV (pc := 98) (q := 0) (As := [.int (iI 2)]) (rest := []) (rs := [.int v12]) hx hb hml hl.1 hts hown hK hSt hN hw (c_X10_fail l G (iI 2) h11 v12 h13 ev) rfl rfl cv_X10_87 (rm_ok hR (by decide)) rfl (Nat.le_of_ble_eq_true rfl) rfl rfl dX10_tells_98 (fun H locs hw => ?_)
              exact q_iretW hret dX10_tells_101 hw hs
          · replace hs := q_f (fun z => z hc) hs
            refine lv_aload_n (pc := 63) hx hb dX10_tells_63 rfl (lv_at hl 1 rfl) ?_
            refine lv_iconst (pc := 64) (v := (iI 2)) hx hb dX10_tells_64 rfl ?_
            obtain ⟨v14, h15, ev, hs⟩ := q_cal2 hs
            refine q_callV (pc := 65) (q := 0) (As := [.int (iI 2)]) (rest := []) (rs := [.int v14]) hx hb hml hl.1 hts hown hK hSt hN hw (c_X10_fail l G (iI 2) h v14 h15 ev) rfl rfl cv_X10_87 (rm_ok hR (by decide)) rfl (Nat.le_of_ble_eq_true rfl) rfl rfl dX10_tells_65 (fun H locs hw => ?_)
            exact q_iretW hret dX10_tells_68 hw hs
        · replace hs := q_f (fun z => z hc) hs
          exact hK2 hs _ _ hw _ (lv_sub hl [0] rfl)

set_option maxHeartbeats 4000000 in
theorem c_X10_longest (l : Launch) (G : GG) (a1 : Int32) (h : Mem) (v : Int32) (h' : Mem) (hs : f_X10_longest h a1 = some (v, h')) : Sat l G yX10_longest cX10_longest 2 (some .int) 4 [.ref (G.2.2.1 0), .int a1] h (some (.int v)) h' := by
  refine Sat.mkI (by decide) (Nat.le_of_ble_eq_true rfl) ?_
  intro p e R s m args below meth c Q F hret hw ls hl
  obtain ⟨hx, hb, hml, hown, hts, hK, hSt, hN, hR⟩ := F
  have hl : lv_has ls 2 [(0, .ref (G.2.2.1 0)), (1, .int a1)] := hl
  unfold f_X10_longest at hs
  refine lv_iload_n (pc := 0) hx hb dX10_longest_0 rfl (lv_at hl 1 rfl) ?_
  refine lv_iconst (pc := 1) (v := (iI 0)) hx hb dX10_longest_1 rfl ?_
  refine lv_iconst (pc := 2) (v := (iI 1)) hx hb dX10_longest_2 rfl ?_
  obtain ⟨v1, ev, hs⟩ := q_cal hs
  refine q_callS (pc := 3) (As := [.int a1, .int (iI 0), .int (iI 1)]) (rest := []) (rs := [.int v1]) hx hb hml hl.1 hts hown hK hSt hN hw (c_X10_within l G a1 (iI 0) (iI 1) h v1 ev) cs_X10_83 (rm_ok hR (by decide)) rfl (Nat.le_of_ble_eq_true rfl) rfl rfl dX10_longest_3 (fun H locs hw => ?_)
  refine lv_if_ne (pc := 6) (tgt := 15) hx hb dX10_longest_6 (by decide) (fun hc => ?_) (fun hc => ?_)
  · replace hs := q_t hc hs
    refine lv_aload_n (pc := 15) hx hb dX10_longest_15 rfl (lv_at hl 0 rfl) ?_
    refine q_getR (pc := 16) (q := 0) (o := 39) hx hb hts hown hK hw rfl fg_X10_64 dX10_longest_16 ?_
    refine lv_aload_n (pc := 19) hx hb dX10_longest_19 rfl (lv_at hl 0 rfl) ?_
    refine q_getR (pc := 20) (q := 0) (o := 2) hx hb hts hown hK hw rfl fg_X10_16 dX10_longest_20 ?_
    refine q_getR (pc := 23) (q := 2) (o := 1) hx hb hts hown hK hw rfl fg_X10_91 dX10_longest_23 ?_
    obtain ⟨h2, ev, hs⟩ := q_cal hs
    refine q_callV (pc := 26) (q := 39) (As := [.ref (G.2.2.1 3)]) (rest := []) (rs := []) hx hb hml hl.1 hts hown hK hSt hN hw (c_X2_findLongest l G 3 rfl h h2 ev) rfl rfl cv_X10_282 (rm_ok hR (by decide)) rfl (Nat.le_of_ble_eq_true rfl) rfl rfl dX10_longest_26 (fun H locs hw => ?_)
    refine lv_iload_n (pc := 29) hx hb dX10_longest_29 rfl (lv_at hl 1 rfl) ?_
    refine lv_if_ne (pc := 30) (tgt := 43) hx hb dX10_longest_30 (by decide) (fun hc => ?_) (fun hc => ?_)
    · replace hs := q_t hc hs
      refine lv_aload_n (pc := 43) hx hb dX10_longest_43 rfl (lv_at hl 0 rfl) ?_
      refine q_getR (pc := 44) (q := 0) (o := 39) hx hb hts hown hK hw rfl fg_X10_64 dX10_longest_44 ?_
      refine q_getI (pc := 47) (q := 39) hx hb hts hown hK hw rfl fg_X10_288 dX10_longest_47 ?_
      exact q_iretW hret dX10_longest_50 hw hs
    · replace hs := q_f (fun z => z hc) hs
      refine lv_aload_n (pc := 33) hx hb dX10_longest_33 rfl (lv_at hl 0 rfl) ?_
      refine q_getR (pc := 34) (q := 0) (o := 39) hx hb hts hown hK hw rfl fg_X10_64 dX10_longest_34 ?_
      refine q_getI (pc := 37) (q := 39) hx hb hts hown hK hw rfl fg_X10_285 dX10_longest_37 ?_
      refine lv_goto (pc := 40) (tgt := 50) hx hb dX10_longest_40 (by decide) ?_
      exact q_iretW hret dX10_longest_50 hw hs
  · replace hs := q_f (fun z => z hc) hs
    refine lv_aload_n (pc := 9) hx hb dX10_longest_9 rfl (lv_at hl 0 rfl) ?_
    refine lv_iconst (pc := 10) (v := (iI 1)) hx hb dX10_longest_10 rfl ?_
    obtain ⟨v3, h4, ev, hs⟩ := q_cal2 hs
    refine q_callV (pc := 11) (q := 0) (As := [.int (iI 1)]) (rest := []) (rs := [.int v3]) hx hb hml hl.1 hts hown hK hSt hN hw (c_X10_fail l G (iI 1) h v3 h4 ev) rfl rfl cv_X10_87 (rm_ok hR (by decide)) rfl (Nat.le_of_ble_eq_true rfl) rfl rfl dX10_longest_11 (fun H locs hw => ?_)
    exact q_iretW hret dX10_longest_14 hw hs

set_option maxHeartbeats 4000000 in
theorem c_X10_throne (l : Launch) (G : GG) (a1 : Int32) (a2 : Int32) (a3 : Int32) (h : Mem) (v : Int32) (h' : Mem) (hs : f_X10_throne h a1 a2 a3 = some (v, h')) : Sat l G yX10_throne cX10_throne 4 (some .int) 6 [.ref (G.2.2.1 0), .int a1, .int a2, .int a3] h (some (.int v)) h' := by
  refine Sat.mkI (by decide) (Nat.le_of_ble_eq_true rfl) ?_
  intro p e R s m args below meth c Q F hret hw ls hl
  obtain ⟨hx, hb, hml, hown, hts, hK, hSt, hN, hR⟩ := F
  have hl : lv_has ls 4 [(0, .ref (G.2.2.1 0)), (1, .int a1), (2, .int a2), (3, .int a3)] := hl
  unfold f_X10_throne at hs
  refine lv_aload_n (pc := 0) hx hb dX10_throne_0 rfl (lv_at hl 0 rfl) ?_
  refine q_getR (pc := 1) (q := 0) (o := 2) hx hb hts hown hK hw rfl fg_X10_16 dX10_throne_1 ?_
  refine q_getR (pc := 4) (q := 2) (o := 1) hx hb hts hown hK hw rfl fg_X10_91 dX10_throne_4 ?_
  refine lv_iload_n (pc := 7) hx hb dX10_throne_7 rfl (lv_at hl 1 rfl) ?_
  obtain ⟨v1, ev, hs⟩ := q_cal hs
  refine q_callV (pc := 8) (q := 3) (As := [.int a1]) (rest := []) (rs := [.int v1]) hx hb hml hl.1 hts hown hK hSt hN hw (c_X3_hasSquare l G 3 rfl a1 h v1 ev) rfl rfl cv_X10_102 (rm_ok hR (by decide)) rfl (Nat.le_of_ble_eq_true rfl) rfl rfl dX10_throne_8 (fun H locs hw => ?_)
  refine q_join0 (P0 := ∀ (H : Heap) (locs : List Loc), IW G s h H locs → ∀ ls : Array Slot, lv_has ls 4 [(0, .ref (G.2.2.1 0))] → W p l e R s m args below meth c H locs 0 0 Q (F0 m 37 ls [])) hs ?_ ?_
  · intro  hs H locs hw ls hl
    refine lv_aload_n (pc := 37) hx hb dX10_throne_37 rfl (lv_at hl 0 rfl) ?_
    refine lv_iconst (pc := 38) (v := (iI 1)) hx hb dX10_throne_38 rfl ?_
    obtain ⟨v3, h4, ev, hs⟩ := q_cal2 hs
    refine q_callV (pc := 39) (q := 0) (As := [.int (iI 1)]) (rest := []) (rs := [.int v3]) hx hb hml hl.1 hts hown hK hSt hN hw (c_X10_fail l G (iI 1) h v3 h4 ev) rfl rfl cv_X10_87 (rm_ok hR (by decide)) rfl (Nat.le_of_ble_eq_true rfl) rfl rfl dX10_throne_39 (fun H locs hw => ?_)
    exact q_iretW hret dX10_throne_42 hw hs
  · intro K2 hK2 hs
    refine lv_if_eq (pc := 11) (tgt := 37) hx hb dX10_throne_11 (by decide) (fun hc => ?_) (fun hc => ?_)
    · replace hs := q_t hc hs
      exact hK2 hs _ _ hw _ (lv_sub hl [0] rfl)
    · replace hs := q_f hc hs
      refine lv_aload_n (pc := 14) hx hb dX10_throne_14 rfl (lv_at hl 0 rfl) ?_
      refine q_getR (pc := 15) (q := 0) (o := 2) hx hb hts hown hK hw rfl fg_X10_16 dX10_throne_15 ?_
      refine q_getR (pc := 18) (q := 2) (o := 1) hx hb hts hown hK hw rfl fg_X10_91 dX10_throne_18 ?_
      refine lv_iload_n (pc := 21) hx hb dX10_throne_21 rfl (lv_at hl 2 rfl) ?_
      obtain ⟨v5, ev, hs⟩ := q_cal hs
      refine q_callV (pc := 22) (q := 3) (As := [.int a2]) (rest := []) (rs := [.int v5]) hx hb hml hl.1 hts hown hK hSt hN hw (c_X3_hasWindow l G 3 rfl a2 h v5 ev) rfl rfl cv_X10_147 (rm_ok hR (by decide)) rfl (Nat.le_of_ble_eq_true rfl) rfl rfl dX10_throne_22 (fun H locs hw => ?_)
      refine lv_if_eq (pc := 25) (tgt := 37) hx hb dX10_throne_25 (by decide) (fun hc => ?_) (fun hc => ?_)
      · replace hs := q_t hc hs
        exact hK2 hs _ _ hw _ (lv_sub hl [0] rfl)
      · replace hs := q_f hc hs
        refine lv_iload_n (pc := 28) hx hb dX10_throne_28 rfl (lv_at hl 3 rfl) ?_
        refine lv_iconst (pc := 29) (v := (iI 0)) hx hb dX10_throne_29 rfl ?_
        refine lv_iconst (pc := 30) (v := (iI 2)) hx hb dX10_throne_30 rfl ?_
        obtain ⟨v6, ev, hs⟩ := q_cal hs
        refine q_callS (pc := 31) (As := [.int a3, .int (iI 0), .int (iI 2)]) (rest := []) (rs := [.int v6]) hx hb hml hl.1 hts hown hK hSt hN hw (c_X10_within l G a3 (iI 0) (iI 2) h v6 ev) cs_X10_83 (rm_ok hR (by decide)) rfl (Nat.le_of_ble_eq_true rfl) rfl rfl dX10_throne_31 (fun H locs hw => ?_)
        refine lv_if_ne (pc := 34) (tgt := 43) hx hb dX10_throne_34 (by decide) (fun hc => ?_) (fun hc => ?_)
        · replace hs := q_t hc hs
          refine lv_aload_n (pc := 43) hx hb dX10_throne_43 rfl (lv_at hl 0 rfl) ?_
          refine q_getR (pc := 44) (q := 0) (o := 50) hx hb hts hown hK hw rfl fg_X10_71 dX10_throne_44 ?_
          refine lv_aload_n (pc := 47) hx hb dX10_throne_47 rfl (lv_at hl 0 rfl) ?_
          refine q_getR (pc := 48) (q := 0) (o := 2) hx hb hts hown hK hw rfl fg_X10_16 dX10_throne_48 ?_
          refine lv_iload_n (pc := 51) hx hb dX10_throne_51 rfl (lv_at hl 1 rfl) ?_
          refine lv_iload_n (pc := 52) hx hb dX10_throne_52 rfl (lv_at hl 2 rfl) ?_
          obtain ⟨v7, h8, ev, hs⟩ := q_cal2 hs
          refine q_callV (pc := 53) (q := 50) (As := [.ref (G.2.2.1 2), .int a1, .int a2]) (rest := []) (rs := [.int v7]) hx hb hml hl.1 hts hown hK hSt hN hw (c_X4_lead l G 2 rfl a1 a2 h v7 h8 ev) rfl rfl cv_X10_228 (rm_ok hR (by decide)) rfl (Nat.le_of_ble_eq_true rfl) rfl rfl dX10_throne_53 (fun H locs hw => ?_)
          refine lv_if_ne (pc := 56) (tgt := 65) hx hb dX10_throne_56 (by decide) (fun hc => ?_) (fun hc => ?_)
          · replace hs := q_t hc hs
            refine lv_iload_n (pc := 65) hx hb dX10_throne_65 rfl (lv_at hl 3 rfl) ?_
            refine lv_if_ne (pc := 66) (tgt := 79) hx hb dX10_throne_66 (by decide) (fun hc => ?_) (fun hc => ?_)
            · replace hs := q_t hc hs
              refine lv_iload_n (pc := 79) hx hb dX10_throne_79 rfl (lv_at hl 3 rfl) ?_
              refine lv_iconst (pc := 80) (v := (iI 1)) hx hb dX10_throne_80 rfl ?_
              refine lv_icmp_ne (pc := 81) (tgt := 94) hx hb dX10_throne_81 (by decide) (fun hc => ?_) (fun hc => ?_)
              · replace hs := q_t hc hs
                refine lv_aload_n (pc := 94) hx hb dX10_throne_94 rfl (lv_at hl 0 rfl) ?_
                refine q_getR (pc := 95) (q := 0) (o := 50) hx hb hts hown hK hw rfl fg_X10_71 dX10_throne_95 ?_
                refine q_getI (pc := 98) (q := 50) hx hb hts hown hK hw rfl fg_X10_238 dX10_throne_98 ?_
                exact q_iretW hret dX10_throne_101 hw hs
              · replace hs := q_f (fun z => z hc) hs
                refine lv_aload_n (pc := 84) hx hb dX10_throne_84 rfl (lv_at hl 0 rfl) ?_
                refine q_getR (pc := 85) (q := 0) (o := 50) hx hb hts hown hK hw rfl fg_X10_71 dX10_throne_85 ?_
                refine q_getI (pc := 88) (q := 50) hx hb hts hown hK hw rfl fg_X10_235 dX10_throne_88 ?_
                refine lv_goto (pc := 91) (tgt := 101) hx hb dX10_throne_91 (by decide) ?_
                exact q_iretW hret dX10_throne_101 hw hs
            · replace hs := q_f (fun z => z hc) hs
              refine lv_aload_n (pc := 69) hx hb dX10_throne_69 rfl (lv_at hl 0 rfl) ?_
              refine q_getR (pc := 70) (q := 0) (o := 50) hx hb hts hown hK hw rfl fg_X10_71 dX10_throne_70 ?_
              refine q_getI (pc := 73) (q := 50) hx hb hts hown hK hw rfl fg_X10_232 dX10_throne_73 ?_
              refine lv_goto (pc := 76) (tgt := 101) hx hb dX10_throne_76 (by decide) ?_
              exact q_iretW hret dX10_throne_101 hw hs
          · replace hs := q_f (fun z => z hc) hs
            refine lv_aload_n (pc := 59) hx hb dX10_throne_59 rfl (lv_at hl 0 rfl) ?_
            refine lv_iconst (pc := 60) (v := (iI 2)) hx hb dX10_throne_60 rfl ?_
            obtain ⟨v9, h10, ev, hs⟩ := q_cal2 hs
            refine q_callV (pc := 61) (q := 0) (As := [.int (iI 2)]) (rest := []) (rs := [.int v9]) hx hb hml hl.1 hts hown hK hSt hN hw (c_X10_fail l G (iI 2) h8 v9 h10 ev) rfl rfl cv_X10_87 (rm_ok hR (by decide)) rfl (Nat.le_of_ble_eq_true rfl) rfl rfl dX10_throne_61 (fun H locs hw => ?_)
            exact q_iretW hret dX10_throne_64 hw hs
        · replace hs := q_f (fun z => z hc) hs
          exact hK2 hs _ _ hw _ (lv_sub hl [0] rfl)

