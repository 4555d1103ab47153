set_option maxHeartbeats 4000000 in
set_option maxRecDepth 100000 in
theorem c_X11_had (l : Launch) (G : GG)  (h : Mem) (v : Int32) (h' : Mem) (hs : f_X11_had h  = some (v, h')) : Sat l G yX11_had cX11_had 4 (some .int) 5 [.ref (G.2.2.1 72)] h (some (.int v)) h' := by
  refine Sat.mkI (by decide) (Nat.le_of_ble_eq_true rfl) ?_
  intro p e R s m args below meth c Q F hret hw ls hl
  obtain ⟨hx, hb, hml, hown, hts, hK, hSt, hN, hR⟩ := F
  have hl : lv_has ls 4 [(0, .ref (G.2.2.1 72))] := hl
  unfold f_X11_had at hs
  refine lv_aload_n (pc := 0) hx hb dX11_had_0 rfl (lv_at hl 0 rfl) ?_
  refine lv_aload_n (pc := 1) hx hb dX11_had_1 rfl (lv_at hl 0 rfl) ?_
  refine q_getR (pc := 2) (q := 72) (o := 1) hx hb hts hown hK hw rfl fg_X11_7 dX11_had_2 ?_
  refine lv_aload_n (pc := 5) hx hb dX11_had_5 rfl (lv_at hl 0 rfl) ?_
  refine q_getR (pc := 6) (q := 72) (o := 3) hx hb hts hown hK hw rfl fg_X11_16 dX11_had_6 ?_
  obtain ⟨h1, ev, hs⟩ := q_cal hs
  refine q_callV (pc := 9) (q := 72) (As := [.ref (G.2.2.1 73), .ref (G.2.2.1 75)]) (rest := []) (rs := []) hx hb hml hl.1 hts hown hK hSt hN hw (c_X11_moveAll l G 73 305 rfl 75 305 rfl h h1 ev) rfl rfl cv_X11_188 (rm_ok hR (by decide)) rfl (Nat.le_of_ble_eq_true rfl) rfl rfl dX11_had_9 (fun H locs hw => ?_)
  refine lv_aload_n (pc := 12) hx hb dX11_had_12 rfl (lv_at hl 0 rfl) ?_
  refine lv_iconst (pc := 13) (v := (iI 0)) hx hb dX11_had_13 rfl ?_
  refine q_putI (pc := 14) (q := 72) hx hb hts hown hK hw rfl fp_X11_300 dX11_had_14 hs (fun h2 H locs hw hs => ?_)
  refine lv_aload_n (pc := 17) hx hb dX11_had_17 rfl (lv_at hl 0 rfl) ?_
  obtain ⟨h3, ev, hs⟩ := q_cal hs
  refine q_callV (pc := 18) (q := 72) (As := []) (rest := []) (rs := []) hx hb hml hl.1 hts hown hK hSt hN hw (c_X11_meets l G h2 h3 ev) rfl rfl cv_X11_305 (rm_ok hR (by decide)) rfl (Nat.le_of_ble_eq_true rfl) rfl rfl dX11_had_18 (fun H locs hw => ?_)
  refine lv_iconst (pc := 21) (v := (iI 0)) hx hb dX11_had_21 rfl ?_
  refine lv_istore_n (pc := 22) (lv' := [(1, .int (iI 0)), (0, .ref (G.2.2.1 72))]) hx hb dX11_had_22 rfl hl (by decide) rfl (fun ls hl => ?_)
  refine (q_lo2 (P0 := fun (x4 : Int32) (h5 : Mem) => ∀ (H : Heap) (locs : List Loc), IW G s h5 H locs → ∀ ls : Array Slot, lv_has ls 4 [(0, .ref (G.2.2.1 72)), (1, .int x4)] → W p l e R s m args below meth c H locs 0 0 Q (F0 m 23 ls [])) hs ?_) _ _ hw _ (lv_sub hl [1, 0] rfl)
  intro K6 hK6 x4 h5 hs H locs hw ls hl
  unfold f_X11_had_k6 at hs
  refine lv_iload_n (pc := 23) hx hb dX11_had_23 rfl (lv_at hl 1 rfl) ?_
  refine lv_aload_n (pc := 24) hx hb dX11_had_24 rfl (lv_at hl 0 rfl) ?_
  refine q_getI (pc := 25) (q := 72) hx hb hts hown hK hw rfl fg_X11_300 dX11_had_25 ?_
  refine q_join0 (P0 := ∀ (H : Heap) (locs : List Loc), IW G s h5 H locs → ∀ ls : Array Slot, lv_has ls 4 [(0, .ref (G.2.2.1 72))] → W p l e R s m args below meth c H locs 0 0 Q (F0 m 92 ls [])) hs ?_ ?_
  · intro  hs H locs hw ls hl
    unfold f_X11_had_k7 at hs
    refine lv_aload_n (pc := 92) hx hb dX11_had_92 rfl (lv_at hl 0 rfl) ?_
    refine lv_aload_n (pc := 93) hx hb dX11_had_93 rfl (lv_at hl 0 rfl) ?_
    refine q_getR (pc := 94) (q := 72) (o := 3) hx hb hts hown hK hw rfl fg_X11_16 dX11_had_94 ?_
    refine lv_aload_n (pc := 97) hx hb dX11_had_97 rfl (lv_at hl 0 rfl) ?_
    refine q_getR (pc := 98) (q := 72) (o := 1) hx hb hts hown hK hw rfl fg_X11_7 dX11_had_98 ?_
    obtain ⟨h8, ev, hs⟩ := q_cal hs
    refine q_callV (pc := 101) (q := 72) (As := [.ref (G.2.2.1 75), .ref (G.2.2.1 73)]) (rest := []) (rs := []) hx hb hml hl.1 hts hown hK hSt hN hw (c_X11_moveAll l G 75 305 rfl 73 305 rfl h5 h8 ev) rfl rfl cv_X11_188 (rm_ok hR (by decide)) rfl (Nat.le_of_ble_eq_true rfl) rfl rfl dX11_had_101 (fun H locs hw => ?_)
    refine lv_aload_n (pc := 104) hx hb dX11_had_104 rfl (lv_at hl 0 rfl) ?_
    refine q_getI (pc := 105) (q := 72) hx hb hts hown hK hw rfl fg_X11_300 dX11_had_105 ?_
    refine lv_sipush (pc := 108) (v := (iI 200)) hx hb dX11_had_108 (by decide) ?_
    refine lv_icmp_le (pc := 111) (tgt := 124) hx hb dX11_had_111 (by decide) (fun hc => ?_) (fun hc => ?_)
    · replace hs := q_t hc hs
      refine lv_aload_n (pc := 124) hx hb dX11_had_124 rfl (lv_at hl 0 rfl) ?_
      refine q_getI (pc := 125) (q := 72) hx hb hts hown hK hw rfl fg_X11_300 dX11_had_125 ?_
      exact q_iretW hret dX11_had_128 hw hs
    · replace hs := q_f hc hs
      refine lv_aload_n (pc := 114) hx hb dX11_had_114 rfl (lv_at hl 0 rfl) ?_
      refine lv_ldcw (pc := 115) (v := (iI (-1000000004))) hx hb hown (hts _ ki_X11_260) dX11_had_115 ?_
      obtain ⟨v9, h10, ev, hs⟩ := q_cal2 hs
      refine q_callV (pc := 118) (q := 72) (As := [.int (iI (-1000000004))]) (rest := []) (rs := [.int v9]) hx hb hml hl.1 hts hown hK hSt hN hw (c_X11_errs l G (iI (-1000000004)) h8 v9 h10 ev) rfl rfl cv_X11_79 (rm_ok hR (by decide)) rfl (Nat.le_of_ble_eq_true rfl) rfl rfl dX11_had_118 (fun H locs hw => ?_)
      refine lv_goto (pc := 121) (tgt := 128) hx hb dX11_had_121 (by decide) ?_
      exact q_iretW hret dX11_had_128 hw hs
  · intro K7 hK7 hs
    refine lv_icmp_ge (pc := 28) (tgt := 92) hx hb dX11_had_28 (by decide) (fun hc => ?_) (fun hc => ?_)
    · replace hs := q_t hc hs
      exact hK7 hs _ _ hw _ (lv_sub hl [0] rfl)
    · replace hs := q_f hc hs
      refine lv_aload_n (pc := 31) hx hb dX11_had_31 rfl (lv_at hl 0 rfl) ?_
      refine q_getI (pc := 32) (q := 72) hx hb hts hown hK hw rfl fg_X11_300 dX11_had_32 ?_
      refine lv_sipush (pc := 35) (v := (iI 200)) hx hb dX11_had_35 (by decide) ?_
      refine lv_icmp_gt (pc := 38) (tgt := 92) hx hb dX11_had_38 (by decide) (fun hc => ?_) (fun hc => ?_)
      · replace hs := q_t hc hs
        exact hK7 hs _ _ hw _ (lv_sub hl [0] rfl)
      · replace hs := q_f hc hs
        refine lv_iconst (pc := 41) (v := (iI 0)) hx hb dX11_had_41 rfl ?_
        refine lv_istore_n (pc := 42) (lv' := [(2, .int (iI 0)), (0, .ref (G.2.2.1 72)), (1, .int x4)]) hx hb dX11_had_42 rfl hl (by decide) rfl (fun ls hl => ?_)
        refine (q_lo2 (P0 := fun (x11 : Int32) (h12 : Mem) => ∀ (H : Heap) (locs : List Loc), IW G s h12 H locs → ∀ ls : Array Slot, lv_has ls 4 [(0, .ref (G.2.2.1 72)), (1, .int x4), (2, .int x11)] → W p l e R s m args below meth c H locs 0 0 Q (F0 m 43 ls [])) hs ?_) _ _ hw _ (lv_sub hl [1, 2, 0] rfl)
        intro K13 hK13 x11 h12 hs H locs hw ls hl
        unfold f_X11_had_k13 at hs
        refine lv_iload_n (pc := 43) hx hb dX11_had_43 rfl (lv_at hl 2 rfl) ?_
        refine lv_aload_n (pc := 44) hx hb dX11_had_44 rfl (lv_at hl 0 rfl) ?_
        obtain ⟨v14, ev, hs⟩ := q_cal hs
        refine q_callV (pc := 45) (q := 72) (As := []) (rest := [.int x11]) (rs := [.int v14, .int x11]) hx hb hml hl.1 hts hown hK hSt hN hw (c_X11_windows l G h12 v14 ev) rfl rfl cv_X11_75 (rm_ok hR (by decide)) rfl (Nat.le_of_ble_eq_true rfl) rfl rfl dX11_had_45 (fun H locs hw => ?_)
        refine q_join0 (P0 := ∀ (H : Heap) (locs : List Loc), IW G s h12 H locs → ∀ ls : Array Slot, lv_has ls 4 [(0, .ref (G.2.2.1 72)), (1, .int x4)] → W p l e R s m args below meth c H locs 0 0 Q (F0 m 86 ls [])) hs ?_ ?_
        · intro  hs H locs hw ls hl
          obtain ⟨x16, ex16, hs⟩ := q_nm hs
          refine lv_iinc (pc := 86) (v := x16) (lv' := [(1, .int x16), (0, .ref (G.2.2.1 72))]) hx hb dX11_had_86 hl (k := 1) rfl ex16 (by decide) rfl (fun ls hl => ?_)
          refine lv_goto (pc := 89) (tgt := 23) hx hb dX11_had_89 (by decide) ?_
          exact hK6 _ _ hs _ _ hw _ (lv_sub hl [1, 0] rfl)
        · intro K15 hK15 hs
          refine lv_icmp_ge (pc := 48) (tgt := 86) hx hb dX11_had_48 (by decide) (fun hc => ?_) (fun hc => ?_)
          · replace hs := q_t hc hs
            exact hK15 hs _ _ hw _ (lv_sub hl [0, 1] rfl)
          · replace hs := q_f hc hs
            refine lv_aload_n (pc := 51) hx hb dX11_had_51 rfl (lv_at hl 0 rfl) ?_
            refine q_getI (pc := 52) (q := 72) hx hb hts hown hK hw rfl fg_X11_300 dX11_had_52 ?_
            refine lv_sipush (pc := 55) (v := (iI 200)) hx hb dX11_had_55 (by decide) ?_
            refine lv_icmp_gt (pc := 58) (tgt := 86) hx hb dX11_had_58 (by decide) (fun hc => ?_) (fun hc => ?_)
            · replace hs := q_t hc hs
              exact hK15 hs _ _ hw _ (lv_sub hl [0, 1] rfl)
            · replace hs := q_f hc hs
              refine lv_aload_n (pc := 61) hx hb dX11_had_61 rfl (lv_at hl 0 rfl) ?_
              refine lv_iload_n (pc := 62) hx hb dX11_had_62 rfl (lv_at hl 1 rfl) ?_
              obtain ⟨h17, ev, hs⟩ := q_cal hs
              refine q_callV (pc := 63) (q := 72) (As := [.int x4]) (rest := []) (rs := []) hx hb hml hl.1 hts hown hK hSt hN hw (c_X11_standsAsMet l G x4 h12 h17 ev) rfl rfl cv_X11_308 (rm_ok hR (by decide)) rfl (Nat.le_of_ble_eq_true rfl) rfl rfl dX11_had_63 (fun H locs hw => ?_)
              refine lv_aload_n (pc := 66) hx hb dX11_had_66 rfl (lv_at hl 0 rfl) ?_
              refine lv_iload_n (pc := 67) hx hb dX11_had_67 rfl (lv_at hl 2 rfl) ?_
              obtain ⟨v18, h19, ev, hs⟩ := q_cal2 hs
              refine q_callV (pc := 68) (q := 72) (As := [.int x11]) (rest := []) (rs := [.int v18]) hx hb hml hl.1 hts hown hK hSt hN hw (c_X11_goes l G x11 h17 v18 h19 ev) rfl rfl cv_X11_179 (rm_ok hR (by decide)) rfl (Nat.le_of_ble_eq_true rfl) rfl rfl dX11_had_68 (fun H locs hw => ?_)
              refine lv_istore_n (pc := 71) (lv' := [(3, .int v18), (0, .ref (G.2.2.1 72)), (1, .int x4), (2, .int x11)]) hx hb dX11_had_71 rfl hl (by decide) rfl (fun ls hl => ?_)
              refine lv_iload_n (pc := 72) hx hb dX11_had_72 rfl (lv_at hl 0 rfl) ?_
              refine q_join1 (P0 := fun (h20 : Mem) => ∀ (H : Heap) (locs : List Loc), IW G s h20 H locs → ∀ ls : Array Slot, lv_has ls 4 [(0, .ref (G.2.2.1 72)), (1, .int x4), (2, .int x11)] → W p l e R s m args below meth c H locs 0 0 Q (F0 m 80 ls [])) hs ?_ ?_
              · intro h20 hs H locs hw ls hl
                obtain ⟨x22, ex22, hs⟩ := q_nm hs
                refine lv_iinc (pc := 80) (v := x22) (lv' := [(2, .int x22), (0, .ref (G.2.2.1 72)), (1, .int x4)]) hx hb dX11_had_80 hl (k := 2) rfl ex22 (by decide) rfl (fun ls hl => ?_)
                refine lv_goto (pc := 83) (tgt := 43) hx hb dX11_had_83 (by decide) ?_
                exact hK13 _ _ hs _ _ hw _ (lv_sub hl [1, 2, 0] rfl)
              · intro K21 hK21 hs
                refine lv_if_lt (pc := 73) (tgt := 80) hx hb dX11_had_73 (by decide) (fun hc => ?_) (fun hc => ?_)
                · replace hs := q_t hc hs
                  exact hK21 _ hs _ _ hw _ (lv_sub hl [1, 2, 3] rfl)
                · replace hs := q_f hc hs
                  refine lv_aload_n (pc := 76) hx hb dX11_had_76 rfl (lv_at hl 1 rfl) ?_
                  obtain ⟨h23, ev, hs⟩ := q_cal hs
                  refine q_callV (pc := 77) (q := 72) (As := []) (rest := []) (rs := []) hx hb hml hl.1 hts hown hK hSt hN hw (c_X11_meets l G h19 h23 ev) rfl rfl cv_X11_305 (rm_ok hR (by decide)) rfl (Nat.le_of_ble_eq_true rfl) rfl rfl dX11_had_77 (fun H locs hw => ?_)
                  exact hK21 _ hs _ _ hw _ (lv_sub hl [1, 2, 3] rfl)

set_option maxHeartbeats 4000000 in
theorem c_X11_findUnknown (l : Launch) (G : GG) (a1 : Int32) (h : Mem) (h' : Mem) (hs : f_X11_findUnknown h a1 = some h') : Sat l G yX11_findUnknown cX11_findUnknown 3 none 2 [.ref (G.2.2.1 72), .int a1] h none h' := by
  refine Sat.mkV (by decide) (Nat.le_of_ble_eq_true rfl) ?_
  intro p e R s m args below meth c Q F hret hw ls hl
  obtain ⟨hx, hb, hml, hown, hts, hK, hSt, hN, hR⟩ := F
  have hl : lv_has ls 3 [(0, .ref (G.2.2.1 72)), (1, .int a1)] := hl
  unfold f_X11_findUnknown at hs
  refine lv_aload_n (pc := 0) hx hb dX11_findUnknown_0 rfl (lv_at hl 0 rfl) ?_
  refine lv_iconst (pc := 1) (v := (iI 0)) hx hb dX11_findUnknown_1 rfl ?_
  refine q_putI (pc := 2) (q := 72) hx hb hts hown hK hw rfl fp_X11_311 dX11_findUnknown_2 hs (fun h1 H locs hw hs => ?_)
  refine lv_iconst (pc := 5) (v := (iI 0)) hx hb dX11_findUnknown_5 rfl ?_
  refine lv_istore_n (pc := 6) (lv' := [(2, .int (iI 0)), (0, .ref (G.2.2.1 72)), (1, .int a1)]) hx hb dX11_findUnknown_6 rfl hl (by decide) rfl (fun ls hl => ?_)
  refine (q_lo2 (P0 := fun (x2 : Int32) (h3 : Mem) => ∀ (H : Heap) (locs : List Loc), IW G s h3 H locs → ∀ ls : Array Slot, lv_has ls 3 [(0, .ref (G.2.2.1 72)), (1, .int a1), (2, .int x2)] → W p l e R s m args below meth c H locs 0 0 Q (F0 m 7 ls [])) hs ?_) _ _ hw _ (lv_sub hl [1, 2, 0] rfl)
  intro K4 hK4 x2 h3 hs H locs hw ls hl
  unfold f_X11_findUnknown_k4 at hs
  refine lv_iload_n (pc := 7) hx hb dX11_findUnknown_7 rfl (lv_at hl 2 rfl) ?_
  refine lv_aload_n (pc := 8) hx hb dX11_findUnknown_8 rfl (lv_at hl 0 rfl) ?_
  obtain ⟨v5, ev, hs⟩ := q_cal hs
  refine q_callV (pc := 9) (q := 72) (As := []) (rest := [.int x2]) (rs := [.int v5, .int x2]) hx hb hml hl.1 hts hown hK hSt hN hw (c_X11_many l G h3 v5 ev) rfl rfl cv_X11_67 (rm_ok hR (by decide)) rfl (Nat.le_of_ble_eq_true rfl) rfl rfl dX11_findUnknown_9 (fun H locs hw => ?_)
  refine lv_icmp_ge (pc := 12) (tgt := 66) hx hb dX11_findUnknown_12 (by decide) (fun hc => ?_) (fun hc => ?_)
  · replace hs := q_t hc hs
    exact q_vret hret dX11_findUnknown_66 hw hs
  · replace hs := q_f hc hs
    refine lv_aload_n (pc := 15) hx hb dX11_findUnknown_15 rfl (lv_at hl 0 rfl) ?_
    refine q_getI (pc := 16) (q := 72) hx hb hts hown hK hw rfl fg_X11_311 dX11_findUnknown_16 ?_
    refine lv_iconst (pc := 19) (v := (iI 5)) hx hb dX11_findUnknown_19 rfl ?_
    refine lv_icmp_ge (pc := 20) (tgt := 66) hx hb dX11_findUnknown_20 (by decide) (fun hc => ?_) (fun hc => ?_)
    · replace hs := q_t hc hs
      exact q_vret hret dX11_findUnknown_66 hw hs
    · replace hs := q_f hc hs
      refine lv_iload_n (pc := 23) hx hb dX11_findUnknown_23 rfl (lv_at hl 1 rfl) ?_
      refine lv_iload_n (pc := 24) hx hb dX11_findUnknown_24 rfl (lv_at hl 2 rfl) ?_
      refine q_ishr (pc := 25) hx hb dX11_findUnknown_25 ?_
      refine lv_iconst (pc := 26) (v := (iI 1)) hx hb dX11_findUnknown_26 rfl ?_
      refine lv_iand (pc := 27) hx hb dX11_findUnknown_27 ?_
      refine lv_iconst (pc := 28) (v := (iI 1)) hx hb dX11_findUnknown_28 rfl ?_
      refine q_join1 (P0 := fun (h6 : Mem) => ∀ (H : Heap) (locs : List Loc), IW G s h6 H locs → ∀ ls : Array Slot, lv_has ls 3 [(0, .ref (G.2.2.1 72)), (1, .int a1), (2, .int x2)] → W p l e R s m args below meth c H locs 0 0 Q (F0 m 60 ls [])) hs ?_ ?_
      · intro h6 hs H locs hw ls hl
        obtain ⟨x8, ex8, hs⟩ := q_nm hs
        refine lv_iinc (pc := 60) (v := x8) (lv' := [(2, .int x8), (0, .ref (G.2.2.1 72)), (1, .int a1)]) hx hb dX11_findUnknown_60 hl (k := 2) rfl ex8 (by decide) rfl (fun ls hl => ?_)
        refine lv_goto (pc := 63) (tgt := 7) hx hb dX11_findUnknown_63 (by decide) ?_
        exact hK4 _ _ hs _ _ hw _ (lv_sub hl [1, 2, 0] rfl)
      · intro K7 hK7 hs
        refine lv_icmp_ne (pc := 29) (tgt := 60) hx hb dX11_findUnknown_29 (by decide) (fun hc => ?_) (fun hc => ?_)
        · replace hs := q_t hc hs
          exact hK7 _ hs _ _ hw _ (lv_sub hl [0, 1, 2] rfl)
        · replace hs := q_f (fun z => z hc) hs
          refine lv_aload_n (pc := 32) hx hb dX11_findUnknown_32 rfl (lv_at hl 0 rfl) ?_
          refine lv_iload_n (pc := 33) hx hb dX11_findUnknown_33 rfl (lv_at hl 2 rfl) ?_
          obtain ⟨v9, ev, hs⟩ := q_cal hs
          refine q_callV (pc := 34) (q := 72) (As := [.int x2]) (rest := []) (rs := [.int v9]) hx hb hml hl.1 hts hown hK hSt hN hw (c_X11_doesThrow l G x2 h3 v9 ev) rfl rfl cv_X11_105 (rm_ok hR (by decide)) rfl (Nat.le_of_ble_eq_true rfl) rfl rfl dX11_findUnknown_34 (fun H locs hw => ?_)
          refine lv_if_eq (pc := 37) (tgt := 60) hx hb dX11_findUnknown_37 (by decide) (fun hc => ?_) (fun hc => ?_)
          · replace hs := q_t hc hs
            exact hK7 _ hs _ _ hw _ (lv_sub hl [0, 1, 2] rfl)
          · replace hs := q_f hc hs
            refine lv_aload_n (pc := 40) hx hb dX11_findUnknown_40 rfl (lv_at hl 0 rfl) ?_
            refine q_getR (pc := 41) (q := 72) (o := 10) hx hb hts hown hK hw rfl fg_X11_45 dX11_findUnknown_41 ?_
            refine lv_aload_n (pc := 44) hx hb dX11_findUnknown_44 rfl (lv_at hl 0 rfl) ?_
            refine q_getI (pc := 45) (q := 72) hx hb hts hown hK hw rfl fg_X11_311 dX11_findUnknown_45 ?_
            refine lv_iload_n (pc := 48) hx hb dX11_findUnknown_48 rfl (lv_at hl 2 rfl) ?_
            refine q_ast (pc := 49) (q := 82) (n := 5) hx hb hK hw rfl dX11_findUnknown_49 hs (fun h10 H locs hw hs => ?_)
            refine lv_aload_n (pc := 50) hx hb dX11_findUnknown_50 rfl (lv_at hl 0 rfl) ?_
            refine lv_dup (pc := 51) hx hb dX11_findUnknown_51 rfl ?_
            refine q_getI (pc := 52) (q := 72) hx hb hts hown hK hw rfl fg_X11_311 dX11_findUnknown_52 ?_
            refine lv_iconst (pc := 55) (v := (iI 1)) hx hb dX11_findUnknown_55 rfl ?_
            refine lv_iadd (pc := 56) hx hb dX11_findUnknown_56 ?_
            refine q_putI (pc := 57) (q := 72) hx hb hts hown hK hw rfl fp_X11_311 dX11_findUnknown_57 hs (fun h11 H locs hw hs => ?_)
            exact hK7 _ hs _ _ hw _ (lv_sub hl [0, 1, 2] rfl)

set_option maxHeartbeats 4000000 in
theorem c_X11_slantsAre (l : Launch) (G : GG) (a1 : Int32) (h : Mem) (h' : Mem) (hs : f_X11_slantsAre h a1 = some h') : Sat l G yX11_slantsAre cX11_slantsAre 3 none 1 [.ref (G.2.2.1 72), .int a1] h none h' := by
  refine Sat.mkV (by decide) (Nat.le_of_ble_eq_true rfl) ?_
  intro p e R s m args below meth c Q F hret hw ls hl
  obtain ⟨hx, hb, hml, hown, hts, hK, hSt, hN, hR⟩ := F
  have hl : lv_has ls 3 [(0, .ref (G.2.2.1 72)), (1, .int a1)] := hl
  unfold f_X11_slantsAre at hs
  refine lv_iconst (pc := 0) (v := (iI 0)) hx hb dX11_slantsAre_0 rfl ?_
  refine lv_istore_n (pc := 1) (lv' := [(2, .int (iI 0)), (0, .ref (G.2.2.1 72)), (1, .int a1)]) hx hb dX11_slantsAre_1 rfl hl (by decide) rfl (fun ls hl => ?_)
  refine (q_lo2 (P0 := fun (x1 : Int32) (h2 : Mem) => ∀ (H : Heap) (locs : List Loc), IW G s h2 H locs → ∀ ls : Array Slot, lv_has ls 3 [(0, .ref (G.2.2.1 72)), (1, .int a1), (2, .int x1)] → W p l e R s m args below meth c H locs 0 0 Q (F0 m 2 ls [])) hs ?_) _ _ hw _ (lv_sub hl [1, 2, 0] rfl)
  intro K3 hK3 x1 h2 hs H locs hw ls hl
  unfold f_X11_slantsAre_k3 at hs
  refine lv_iload_n (pc := 2) hx hb dX11_slantsAre_2 rfl (lv_at hl 2 rfl) ?_
  refine lv_aload_n (pc := 3) hx hb dX11_slantsAre_3 rfl (lv_at hl 0 rfl) ?_
  refine q_getI (pc := 4) (q := 72) hx hb hts hown hK hw rfl fg_X11_311 dX11_slantsAre_4 ?_
  refine lv_icmp_ge (pc := 7) (tgt := 32) hx hb dX11_slantsAre_7 (by decide) (fun hc => ?_) (fun hc => ?_)
  · replace hs := q_t hc hs
    exact q_vret hret dX11_slantsAre_32 hw hs
  · replace hs := q_f hc hs
    refine lv_aload_n (pc := 10) hx hb dX11_slantsAre_10 rfl (lv_at hl 0 rfl) ?_
    refine lv_aload_n (pc := 11) hx hb dX11_slantsAre_11 rfl (lv_at hl 0 rfl) ?_
    refine q_getR (pc := 12) (q := 72) (o := 10) hx hb hts hown hK hw rfl fg_X11_45 dX11_slantsAre_12 ?_
    refine lv_iload_n (pc := 15) hx hb dX11_slantsAre_15 rfl (lv_at hl 2 rfl) ?_
    refine q_ald (pc := 16) (q := 82) (n := 5) hx hb hK hw rfl dX11_slantsAre_16 hs (fun v4 hs => ?_)
    refine lv_iconst (pc := 17) (v := (iI 2)) hx hb dX11_slantsAre_17 rfl ?_
    refine lv_iload_n (pc := 18) hx hb dX11_slantsAre_18 rfl (lv_at hl 1 rfl) ?_
    refine lv_iload_n (pc := 19) hx hb dX11_slantsAre_19 rfl (lv_at hl 2 rfl) ?_
    refine q_ishr (pc := 20) hx hb dX11_slantsAre_20 ?_
    refine lv_iconst (pc := 21) (v := (iI 1)) hx hb dX11_slantsAre_21 rfl ?_
    refine lv_iand (pc := 22) hx hb dX11_slantsAre_22 ?_
    obtain ⟨h5, ev, hs⟩ := q_cal hs
    refine q_callV (pc := 23) (q := 72) (As := [.int v4, .int (iI 2), .int ((shrI a1 x1) &&& (iI 1))]) (rest := []) (rs := []) hx hb hml hl.1 hts hown hK hSt hN hw (c_X11_puts l G v4 (iI 2) ((shrI a1 x1) &&& (iI 1)) h2 h5 ev) rfl rfl cv_X11_91 (rm_ok hR (by decide)) rfl (Nat.le_of_ble_eq_true rfl) rfl rfl dX11_slantsAre_23 (fun H locs hw => ?_)
    obtain ⟨x6, ex6, hs⟩ := q_nm hs
    refine lv_iinc (pc := 26) (v := x6) (lv' := [(2, .int x6), (0, .ref (G.2.2.1 72)), (1, .int a1)]) hx hb dX11_slantsAre_26 hl (k := 2) rfl ex6 (by decide) rfl (fun ls hl => ?_)
    refine lv_goto (pc := 29) (tgt := 2) hx hb dX11_slantsAre_29 (by decide) ?_
    exact hK3 _ _ hs _ _ hw _ (lv_sub hl [1, 2, 0] rfl)

set_option maxHeartbeats 4000000 in
theorem c_X11_isMask (l : Launch) (G : GG) (a1 : Int32) (h : Mem) (v : Int32)  (hs : f_X11_isMask h a1 = some v) : Sat l G yX11_isMask cX11_isMask 2 (some .boolean) 1 [.ref (G.2.2.1 72), .int a1] h (some (.int v)) h := by
  refine Sat.mkZ (by decide) (Nat.le_of_ble_eq_true rfl) ?_
  intro p e R s m args below meth c Q F hret hw ls hl
  obtain ⟨hx, hb, hml, hown, hts, hK, hSt, hN, hR⟩ := F
  have hl : lv_has ls 2 [(0, .ref (G.2.2.1 72)), (1, .int a1)] := hl
  unfold f_X11_isMask at hs
  refine lv_iload_n (pc := 0) hx hb dX11_isMask_0 rfl (lv_at hl 1 rfl) ?_
  refine lv_iconst (pc := 1) (v := (iI 0)) hx hb dX11_isMask_1 rfl ?_
  refine lv_iconst (pc := 2) (v := (iI 1)) hx hb dX11_isMask_2 rfl ?_
  refine lv_aload_n (pc := 3) hx hb dX11_isMask_3 rfl (lv_at hl 0 rfl) ?_
  obtain ⟨v1, ev, hs⟩ := q_cal hs
  refine q_callV (pc := 4) (q := 72) (As := []) (rest := [.int (iI 1), .int (iI 0), .int a1]) (rs := [.int v1, .int (iI 1), .int (iI 0), .int a1]) hx hb hml hl.1 hts hown hK hSt hN hw (c_X11_many l G h v1 ev) rfl rfl cv_X11_67 (rm_ok hR (by decide)) rfl (Nat.le_of_ble_eq_true rfl) rfl rfl dX11_isMask_4 (fun H locs hw => ?_)
  refine q_ishl (pc := 7) hx hb dX11_isMask_7 ?_
  refine lv_iconst (pc := 8) (v := (iI 1)) hx hb dX11_isMask_8 rfl ?_
  refine lv_isub (pc := 9) hx hb dX11_isMask_9 ?_
  obtain ⟨v2, ev, hs⟩ := q_cal hs
  refine q_callS (pc := 10) (As := [.int a1, .int (iI 0), .int ((shlI (iI 1) v1) - (iI 1))]) (rest := []) (rs := [.int v2]) hx hb hml hl.1 hts hown hK hSt hN hw (c_X11_in l G a1 (iI 0) ((shlI (iI 1) v1) - (iI 1)) h v2 ev) cs_X11_71 (rm_ok hR (by decide)) rfl (Nat.le_of_ble_eq_true rfl) rfl rfl dX11_isMask_10 (fun H locs hw => ?_)
  exact q_zret hret dX11_isMask_13 hw hs

set_option maxHeartbeats 4000000 in
theorem c_X11_isOutThere (l : Launch) (G : GG) (a1 : Int32) (h : Mem) (v : Int32)  (hs : f_X11_isOutThere h a1 = some v) : Sat l G yX11_isOutThere cX11_isOutThere 2 (some .boolean) 2 [.ref (G.2.2.1 72), .int a1] h (some (.int v)) h := by
  refine Sat.mkZ (by decide) (Nat.le_of_ble_eq_true rfl) ?_
  intro p e R s m args below meth c Q F hret hw ls hl
  obtain ⟨hx, hb, hml, hown, hts, hK, hSt, hN, hR⟩ := F
  have hl : lv_has ls 2 [(0, .ref (G.2.2.1 72)), (1, .int a1)] := hl
  unfold f_X11_isOutThere at hs
  refine lv_aload_n (pc := 0) hx hb dX11_isOutThere_0 rfl (lv_at hl 0 rfl) ?_
  refine lv_iload_n (pc := 1) hx hb dX11_isOutThere_1 rfl (lv_at hl 1 rfl) ?_
  obtain ⟨v1, ev, hs⟩ := q_cal hs
  refine q_callV (pc := 2) (q := 72) (As := [.int a1]) (rest := []) (rs := [.int v1]) hx hb hml hl.1 hts hown hK hSt hN hw (c_X11_isWindow l G a1 h v1 ev) rfl rfl cv_X11_182 (rm_ok hR (by decide)) rfl (Nat.le_of_ble_eq_true rfl) rfl rfl dX11_isOutThere_2 (fun H locs hw => ?_)
  refine q_join0 (P0 := ∀ (H : Heap) (locs : List Loc), IW G s h H locs → ∀ ls : Array Slot, lv_has ls 2 [] → W p l e R s m args below meth c H locs 0 0 Q (F0 m 14 ls [])) hs ?_ ?_
  · intro  hs H locs hw ls hl
    refine lv_iconst (pc := 14) (v := (iI 1)) hx hb dX11_isOutThere_14 rfl ?_
    refine lv_goto (pc := 15) (tgt := 19) hx hb dX11_isOutThere_15 (by decide) ?_
    exact q_zret hret dX11_isOutThere_19 hw hs
  · intro K2 hK2 hs
    refine lv_if_ne (pc := 5) (tgt := 14) hx hb dX11_isOutThere_5 (by decide) (fun hc => ?_) (fun hc => ?_)
    · replace hs := q_t hc hs
      exact hK2 hs _ _ hw _ (lv_sub hl [] rfl)
    · replace hs := q_f (fun z => z hc) hs
      refine lv_iload_n (pc := 8) hx hb dX11_isOutThere_8 rfl (lv_at hl 1 rfl) ?_
      refine lv_bipush (pc := 9) (v := (iI 100)) hx hb dX11_isOutThere_9 (by decide) ?_
      refine lv_icmp_ne (pc := 11) (tgt := 18) hx hb dX11_isOutThere_11 (by decide) (fun hc => ?_) (fun hc => ?_)
      · replace hs := q_t hc hs
        refine lv_iconst (pc := 18) (v := (iI 0)) hx hb dX11_isOutThere_18 rfl ?_
        exact q_zret hret dX11_isOutThere_19 hw hs
      · replace hs := q_f (fun z => z hc) hs
        exact hK2 hs _ _ hw _ (lv_sub hl [] rfl)

set_option maxHeartbeats 4000000 in
theorem c_X11_divisor (l : Launch) (G : GG) (a0 : Int32) (a1 : Int32) (h : Mem) (v : Int32)  (hs : f_X11_divisor h a0 a1 = some v) : Sat l G yX11_divisor cX11_divisor 5 (some .int) 0 [.int a0, .int a1] h (some (.int v)) h := by
  refine Sat.mkI (by decide) (Nat.le_of_ble_eq_true rfl) ?_
  intro p e R s m args below meth c Q F hret hw ls hl
  obtain ⟨hx, hb, hml, hown, hts, hK, hSt, hN, hR⟩ := F
  have hl : lv_has ls 5 [(0, .int a0), (1, .int a1)] := hl
  unfold f_X11_divisor at hs
  refine lv_iload_n (pc := 0) hx hb dX11_divisor_0 rfl (lv_at hl 0 rfl) ?_
  refine lv_istore_n (pc := 1) (lv' := [(2, .int a0), (0, .int a0), (1, .int a1)]) hx hb dX11_divisor_1 rfl hl (by decide) rfl (fun ls hl => ?_)
  refine lv_iload_n (pc := 2) hx hb dX11_divisor_2 rfl (lv_at hl 2 rfl) ?_
  refine lv_istore_n (pc := 3) (lv' := [(3, .int a1), (2, .int a0), (0, .int a0), (1, .int a1)]) hx hb dX11_divisor_3 rfl hl (by decide) rfl (fun ls hl => ?_)
  refine (q_lo2 (P0 := fun (x1 : Int32) (x2 : Int32) => ∀ (H : Heap) (locs : List Loc), IW G s h H locs → ∀ ls : Array Slot, lv_has ls 5 [(2, .int x1), (3, .int x2)] → W p l e R s m args below meth c H locs 0 0 Q (F0 m 4 ls [])) hs ?_) _ _ hw _ (lv_sub hl [1, 0] rfl)
  intro K3 hK3 x1 x2 hs H locs hw ls hl
  unfold f_X11_divisor_k3 at hs
  refine lv_iload_n (pc := 4) hx hb dX11_divisor_4 rfl (lv_at hl 1 rfl) ?_
  refine lv_if_eq (pc := 5) (tgt := 21) hx hb dX11_divisor_5 (by decide) (fun hc => ?_) (fun hc => ?_)
  · replace hs := q_t hc hs
    refine lv_iload_n (pc := 21) hx hb dX11_divisor_21 rfl (lv_at hl 0 rfl) ?_
    exact q_iret hret dX11_divisor_22 hw hs
  · replace hs := q_f hc hs
    refine lv_iload_n (pc := 8) hx hb dX11_divisor_8 rfl (lv_at hl 0 rfl) ?_
    refine lv_iload_n (pc := 9) hx hb dX11_divisor_9 rfl (lv_at hl 1 rfl) ?_
    obtain ⟨hne, hs⟩ := q_nz hs
    refine q_irem (pc := 10) hx hb dX11_divisor_10 hne ?_
    obtain ⟨x4, ex4, hs⟩ := q_nm hs
    refine q_topI ex4 ?_
    refine lv_istore (pc := 11) (lv' := [(4, .int x4), (2, .int x1), (3, .int x2)]) hx hb dX11_divisor_11 hl (by decide) rfl (fun ls hl => ?_)
    refine lv_iload_n (pc := 13) hx hb dX11_divisor_13 rfl (lv_at hl 2 rfl) ?_
    refine lv_istore_n (pc := 14) (lv' := [(2, .int x2), (4, .int x4), (3, .int x2)]) hx hb dX11_divisor_14 rfl hl (by decide) rfl (fun ls hl => ?_)
    refine lv_iload (pc := 15) hx hb dX11_divisor_15 (lv_at hl 1 rfl) ?_
    refine lv_istore_n (pc := 17) (lv' := [(3, .int x4), (2, .int x2), (4, .int x4)]) hx hb dX11_divisor_17 rfl hl (by decide) rfl (fun ls hl => ?_)
    refine lv_goto (pc := 18) (tgt := 4) hx hb dX11_divisor_18 (by decide) ?_
    exact hK3 _ _ hs _ _ hw _ (lv_sub hl [1, 0] rfl)

set_option maxHeartbeats 4000000 in
set_option maxRecDepth 100000 in
theorem c_X11_odds (l : Launch) (G : GG) (a1 : Int32) (a2 : Int32) (a3 : Int32) (a4 : Int32) (h : Mem) (v : Int64) (h' : Mem) (hs : f_X11_odds h a1 a2 a3 a4 = some (v, h')) : Sat l G yX11_odds cX11_odds 8 (some .long) 5 [.ref (G.2.2.1 72), .int a1, .int a2, .int a3, .int a4] h (some (.long v)) h' := by
  refine Sat.mkL (by decide) (Nat.le_of_ble_eq_true rfl) ?_
  intro p e R s m args below meth c Q F hret hw ls hl
  obtain ⟨hx, hb, hml, hown, hts, hK, hSt, hN, hR⟩ := F
  have hl : lv_has ls 8 [(0, .ref (G.2.2.1 72)), (1, .int a1), (2, .int a2), (3, .int a3), (4, .int a4)] := hl
  unfold f_X11_odds at hs
  refine lv_aload_n (pc := 0) hx hb dX11_odds_0 rfl (lv_at hl 0 rfl) ?_
  refine lv_iload_n (pc := 1) hx hb dX11_odds_1 rfl (lv_at hl 1 rfl) ?_
  obtain ⟨v1, ev, hs⟩ := q_cal hs
  refine q_callV (pc := 2) (q := 72) (As := [.int a1]) (rest := []) (rs := [.int v1]) hx hb hml hl.1 hts hown hK hSt hN hw (c_X11_isMask l G a1 h v1 ev) rfl rfl cv_X11_314 (rm_ok hR (by decide)) rfl (Nat.le_of_ble_eq_true rfl) rfl rfl dX11_odds_2 (fun H locs hw => ?_)
  refine q_join0 (P0 := ∀ (H : Heap) (locs : List Loc), IW G s h H locs → ∀ ls : Array Slot, lv_has ls 8 [(0, .ref (G.2.2.1 72))] → W p l e R s m args below meth c H locs 0 0 Q (F0 m 34 ls [])) hs ?_ ?_
  · intro  hs H locs hw ls hl
    refine lv_aload_n (pc := 34) hx hb dX11_odds_34 rfl (lv_at hl 0 rfl) ?_
    refine lv_ldc (pc := 35) (v := (iI (-1000000001))) hx hb hown (hts _ ki_X11_78) dX11_odds_35 ?_
    obtain ⟨v3, h4, ev, hs⟩ := q_cal2 hs
    refine q_callV (pc := 37) (q := 72) (As := [.int (iI (-1000000001))]) (rest := []) (rs := [.int v3]) hx hb hml hl.1 hts hown hK hSt hN hw (c_X11_errs l G (iI (-1000000001)) h v3 h4 ev) rfl rfl cv_X11_79 (rm_ok hR (by decide)) rfl (Nat.le_of_ble_eq_true rfl) rfl rfl dX11_odds_37 (fun H locs hw => ?_)
    refine lv_i2l (pc := 40) hx hb dX11_odds_40 rfl ?_
    exact q_lretW hret dX11_odds_41 hw hs
  · intro K2 hK2 hs
    refine lv_if_eq (pc := 5) (tgt := 34) hx hb dX11_odds_5 (by decide) (fun hc => ?_) (fun hc => ?_)
    · replace hs := q_t hc hs
      exact hK2 hs _ _ hw _ (lv_sub hl [0] rfl)
    · replace hs := q_f hc hs
      refine lv_aload_n (pc := 8) hx hb dX11_odds_8 rfl (lv_at hl 0 rfl) ?_
      refine lv_iload_n (pc := 9) hx hb dX11_odds_9 rfl (lv_at hl 2 rfl) ?_
      obtain ⟨v5, ev, hs⟩ := q_cal hs
      refine q_callV (pc := 10) (q := 72) (As := [.int a2]) (rest := []) (rs := [.int v5]) hx hb hml hl.1 hts hown hK hSt hN hw (c_X11_isWindow l G a2 h v5 ev) rfl rfl cv_X11_182 (rm_ok hR (by decide)) rfl (Nat.le_of_ble_eq_true rfl) rfl rfl dX11_odds_10 (fun H locs hw => ?_)
      refine lv_if_eq (pc := 13) (tgt := 34) hx hb dX11_odds_13 (by decide) (fun hc => ?_) (fun hc => ?_)
      · replace hs := q_t hc hs
        exact hK2 hs _ _ hw _ (lv_sub hl [0] rfl)
      · replace hs := q_f hc hs
        refine lv_aload_n (pc := 16) hx hb dX11_odds_16 rfl (lv_at hl 0 rfl) ?_
        refine lv_iload_n (pc := 17) hx hb dX11_odds_17 rfl (lv_at hl 3 rfl) ?_
        obtain ⟨v6, ev, hs⟩ := q_cal hs
        refine q_callV (pc := 18) (q := 72) (As := [.int a3]) (rest := []) (rs := [.int v6]) hx hb hml hl.1 hts hown hK hSt hN hw (c_X11_isOutThere l G a3 h v6 ev) rfl rfl cv_X11_317 (rm_ok hR (by decide)) rfl (Nat.le_of_ble_eq_true rfl) rfl rfl dX11_odds_18 (fun H locs hw => ?_)
        refine lv_if_eq (pc := 21) (tgt := 34) hx hb dX11_odds_21 (by decide) (fun hc => ?_) (fun hc => ?_)
        · replace hs := q_t hc hs
          exact hK2 hs _ _ hw _ (lv_sub hl [0] rfl)
        · replace hs := q_f hc hs
          refine lv_iload (pc := 24) hx hb dX11_odds_24 (lv_at hl 4 rfl) ?_
          refine lv_iconst (pc := 26) (v := (iI 0)) hx hb dX11_odds_26 rfl ?_
          refine lv_iconst (pc := 27) (v := (iI 1)) hx hb dX11_odds_27 rfl ?_
          obtain ⟨v7, ev, hs⟩ := q_cal hs
          refine q_callS (pc := 28) (As := [.int a4, .int (iI 0), .int (iI 1)]) (rest := []) (rs := [.int v7]) hx hb hml hl.1 hts hown hK hSt hN hw (c_X11_in l G a4 (iI 0) (iI 1) h v7 ev) cs_X11_71 (rm_ok hR (by decide)) rfl (Nat.le_of_ble_eq_true rfl) rfl rfl dX11_odds_28 (fun H locs hw => ?_)
          refine lv_if_ne (pc := 31) (tgt := 42) hx hb dX11_odds_31 (by decide) (fun hc => ?_) (fun hc => ?_)
          · replace hs := q_t hc hs
            refine lv_aload_n (pc := 42) hx hb dX11_odds_42 rfl (lv_at hl 0 rfl) ?_
            refine lv_iload_n (pc := 43) hx hb dX11_odds_43 rfl (lv_at hl 1 rfl) ?_
            obtain ⟨h8, ev, hs⟩ := q_cal hs
            refine q_callV (pc := 44) (q := 72) (As := [.int a1]) (rest := []) (rs := []) hx hb hml hl.1 hts hown hK hSt hN hw (c_X11_findUnknown l G a1 h h8 ev) rfl rfl cv_X11_320 (rm_ok hR (by decide)) rfl (Nat.le_of_ble_eq_true rfl) rfl rfl dX11_odds_44 (fun H locs hw => ?_)
            refine lv_aload_n (pc := 47) hx hb dX11_odds_47 rfl (lv_at hl 0 rfl) ?_
            refine lv_aload_n (pc := 48) hx hb dX11_odds_48 rfl (lv_at hl 0 rfl) ?_
            refine q_getR (pc := 49) (q := 72) (o := 1) hx hb hts hown hK hw rfl fg_X11_7 dX11_odds_49 ?_
            refine lv_aload_n (pc := 52) hx hb dX11_odds_52 rfl (lv_at hl 0 rfl) ?_
            refine q_getR (pc := 53) (q := 72) (o := 3) hx hb hts hown hK hw rfl fg_X11_16 dX11_odds_53 ?_
            obtain ⟨h9, ev, hs⟩ := q_cal hs
            refine q_callV (pc := 56) (q := 72) (As := [.ref (G.2.2.1 73), .ref (G.2.2.1 75)]) (rest := []) (rs := []) hx hb hml hl.1 hts hown hK hSt hN hw (c_X11_moveAll l G 73 305 rfl 75 305 rfl h8 h9 ev) rfl rfl cv_X11_188 (rm_ok hR (by decide)) rfl (Nat.le_of_ble_eq_true rfl) rfl rfl dX11_odds_56 (fun H locs hw => ?_)
            refine lv_iconst (pc := 59) (v := (iI 0)) hx hb dX11_odds_59 rfl ?_
            refine lv_istore (pc := 60) (lv' := [(5, .int (iI 0)), (0, .ref (G.2.2.1 72)), (1, .int a1), (2, .int a2), (3, .int a3), (4, .int a4)]) hx hb dX11_odds_60 hl (by decide) rfl (fun ls hl => ?_)
            refine lv_iconst (pc := 62) (v := (iI 0)) hx hb dX11_odds_62 rfl ?_
            refine lv_istore (pc := 63) (lv' := [(6, .int (iI 0)), (5, .int (iI 0)), (0, .ref (G.2.2.1 72)), (1, .int a1), (2, .int a2), (3, .int a3), (4, .int a4)]) hx hb dX11_odds_63 hl (by decide) rfl (fun ls hl => ?_)
            refine (q_lo3 (P0 := fun (x10 : Int32) (x11 : Int32) (h12 : Mem) => ∀ (H : Heap) (locs : List Loc), IW G s h12 H locs → ∀ ls : Array Slot, lv_has ls 8 [(0, .ref (G.2.2.1 72)), (2, .int a2), (3, .int a3), (4, .int a4), (5, .int x10), (6, .int x11)] → W p l e R s m args below meth c H locs 0 0 Q (F0 m 65 ls [])) hs ?_) _ _ hw _ (lv_sub hl [2, 4, 5, 6, 1, 0] rfl)
            intro K13 hK13 x10 x11 h12 hs H locs hw ls hl
            unfold f_X11_odds_k13 at hs
            refine lv_iload (pc := 65) hx hb dX11_odds_65 (lv_at hl 5 rfl) ?_
            refine lv_iconst (pc := 67) (v := (iI 1)) hx hb dX11_odds_67 rfl ?_
            refine lv_aload_n (pc := 68) hx hb dX11_odds_68 rfl (lv_at hl 0 rfl) ?_
            refine q_getI (pc := 69) (q := 72) hx hb hts hown hK hw rfl fg_X11_311 dX11_odds_69 ?_
            refine q_ishl (pc := 72) hx hb dX11_odds_72 ?_
            refine lv_icmp_ge (pc := 73) (tgt := 119) hx hb dX11_odds_73 (by decide) (fun hc => ?_) (fun hc => ?_)
            · replace hs := q_t hc hs
              refine lv_iconst (pc := 119) (v := (iI 1)) hx hb dX11_odds_119 rfl ?_
              refine lv_aload_n (pc := 120) hx hb dX11_odds_120 rfl (lv_at hl 0 rfl) ?_
              refine q_getI (pc := 121) (q := 72) hx hb hts hown hK hw rfl fg_X11_311 dX11_odds_121 ?_
              refine q_ishl (pc := 124) hx hb dX11_odds_124 ?_
              obtain ⟨x14, ex14, hs⟩ := q_nm hs
              refine q_topI ex14 ?_
              refine lv_istore (pc := 125) (lv' := [(6, .int x14), (0, .ref (G.2.2.1 72)), (2, .int a2), (3, .int a3), (4, .int a4), (5, .int x10)]) hx hb dX11_odds_125 hl (by decide) rfl (fun ls hl => ?_)
              refine lv_iload (pc := 127) hx hb dX11_odds_127 (lv_at hl 5 rfl) ?_
              refine lv_iload (pc := 129) hx hb dX11_odds_129 (lv_at hl 0 rfl) ?_
              obtain ⟨v15, ev, hs⟩ := q_cal hs
              refine q_callS (pc := 131) (As := [.int x10, .int x14]) (rest := []) (rs := [.int v15]) hx hb hml hl.1 hts hown hK hSt hN hw (c_X11_divisor l G x10 x14 h12 v15 ev) cs_X11_326 (rm_ok hR (by decide)) rfl (Nat.le_of_ble_eq_true rfl) rfl rfl dX11_odds_131 (fun H locs hw => ?_)
              refine lv_istore (pc := 134) (lv' := [(7, .int v15), (6, .int x14), (0, .ref (G.2.2.1 72)), (2, .int a2), (3, .int a3), (4, .int a4), (5, .int x10)]) hx hb dX11_odds_134 hl (by decide) rfl (fun ls hl => ?_)
              refine lv_iload (pc := 136) hx hb dX11_odds_136 (lv_at hl 5 rfl) ?_
              refine lv_if_ne (pc := 138) (tgt := 150) hx hb dX11_odds_138 (by decide) (fun hc => ?_) (fun hc => ?_)
              · replace hs := q_t hc hs
                refine lv_iload (pc := 150) hx hb dX11_odds_150 (lv_at hl 1 rfl) ?_
                refine lv_iload (pc := 152) hx hb dX11_odds_152 (lv_at hl 0 rfl) ?_
                obtain ⟨hne, hs⟩ := q_nz hs
                refine lv_idiv (pc := 154) hx hb dX11_odds_154 hne ?_
                refine lv_i2l (pc := 155) hx hb dX11_odds_155 rfl ?_
                exact q_lretW hret dX11_odds_156 hw hs
              · replace hs := q_f (fun z => z hc) hs
                refine lv_iload (pc := 141) hx hb dX11_odds_141 (lv_at hl 6 rfl) ?_
                refine lv_iload (pc := 143) hx hb dX11_odds_143 (lv_at hl 0 rfl) ?_
                obtain ⟨hne, hs⟩ := q_nz hs
                refine lv_idiv (pc := 145) hx hb dX11_odds_145 hne ?_
                refine lv_i2l (pc := 146) hx hb dX11_odds_146 rfl ?_
                refine lv_goto (pc := 147) (tgt := 156) hx hb dX11_odds_147 (by decide) ?_
                exact q_lretW hret dX11_odds_156 hw hs
            · replace hs := q_f hc hs
              refine lv_aload_n (pc := 76) hx hb dX11_odds_76 rfl (lv_at hl 0 rfl) ?_
              refine lv_iload (pc := 77) hx hb dX11_odds_77 (lv_at hl 5 rfl) ?_
              obtain ⟨h16, ev, hs⟩ := q_cal hs
              refine q_callV (pc := 79) (q := 72) (As := [.int x11]) (rest := []) (rs := []) hx hb hml hl.1 hts hown hK hSt hN hw (c_X11_slantsAre l G x11 h12 h16 ev) rfl rfl cv_X11_323 (rm_ok hR (by decide)) rfl (Nat.le_of_ble_eq_true rfl) rfl rfl dX11_odds_79 (fun H locs hw => ?_)
              refine lv_iload (pc := 82) hx hb dX11_odds_82 (lv_at hl 4 rfl) ?_
              refine lv_aload_n (pc := 84) hx hb dX11_odds_84 rfl (lv_at hl 0 rfl) ?_
              refine lv_iload_n (pc := 85) hx hb dX11_odds_85 rfl (lv_at hl 1 rfl) ?_
              obtain ⟨v17, h18, ev, hs⟩ := q_cal2 hs
              refine q_callV (pc := 86) (q := 72) (As := [.int a2]) (rest := [.int x10]) (rs := [.int v17, .int x10]) hx hb hml hl.1 hts hown hK hSt hN hw (c_X11_goes l G a2 h16 v17 h18 ev) rfl rfl cv_X11_179 (rm_ok hR (by decide)) rfl (Nat.le_of_ble_eq_true rfl) rfl rfl dX11_odds_86 (fun H locs hw => ?_)
              refine lv_iload_n (pc := 89) hx hb dX11_odds_89 rfl (lv_at hl 2 rfl) ?_
              refine q_join1 (P0 := fun (x19 : Int32) => ∀ (H : Heap) (locs : List Loc), IW G s h18 H locs → ∀ ls : Array Slot, lv_has ls 8 [(0, .ref (G.2.2.1 72)), (2, .int a2), (3, .int a3), (4, .int a4), (6, .int x11)] → W p l e R s m args below meth c H locs 0 0 Q (F0 m 98 ls [.int x19, .int x10])) hs ?_ ?_
              · intro x19 hs H locs hw ls hl
                refine lv_iadd (pc := 98) hx hb dX11_odds_98 ?_
                obtain ⟨x21, ex21, hs⟩ := q_nm hs
                refine q_topI ex21 ?_
                refine lv_istore (pc := 99) (lv' := [(5, .int x21), (0, .ref (G.2.2.1 72)), (2, .int a2), (3, .int a3), (4, .int a4), (6, .int x11)]) hx hb dX11_odds_99 hl (by decide) rfl (fun ls hl => ?_)
                refine lv_aload_n (pc := 101) hx hb dX11_odds_101 rfl (lv_at hl 1 rfl) ?_
                refine lv_aload_n (pc := 102) hx hb dX11_odds_102 rfl (lv_at hl 1 rfl) ?_
                refine q_getR (pc := 103) (q := 72) (o := 3) hx hb hts hown hK hw rfl fg_X11_16 dX11_odds_103 ?_
                refine lv_aload_n (pc := 106) hx hb dX11_odds_106 rfl (lv_at hl 1 rfl) ?_
                refine q_getR (pc := 107) (q := 72) (o := 1) hx hb hts hown hK hw rfl fg_X11_7 dX11_odds_107 ?_
                obtain ⟨h22, ev, hs⟩ := q_cal hs
                refine q_callV (pc := 110) (q := 72) (As := [.ref (G.2.2.1 75), .ref (G.2.2.1 73)]) (rest := []) (rs := []) hx hb hml hl.1 hts hown hK hSt hN hw (c_X11_moveAll l G 75 305 rfl 73 305 rfl h18 h22 ev) rfl rfl cv_X11_188 (rm_ok hR (by decide)) rfl (Nat.le_of_ble_eq_true rfl) rfl rfl dX11_odds_110 (fun H locs hw => ?_)
                obtain ⟨x23, ex23, hs⟩ := q_nm hs
                refine lv_iinc (pc := 113) (v := x23) (lv' := [(6, .int x23), (5, .int x21), (0, .ref (G.2.2.1 72)), (2, .int a2), (3, .int a3), (4, .int a4)]) hx hb dX11_odds_113 hl (k := 5) rfl ex23 (by decide) rfl (fun ls hl => ?_)
                refine lv_goto (pc := 116) (tgt := 65) hx hb dX11_odds_116 (by decide) ?_
                exact hK13 _ _ _ hs _ _ hw _ (lv_sub hl [2, 3, 4, 5, 1, 0] rfl)
              · intro K20 hK20 hs
                refine lv_icmp_ne (pc := 90) (tgt := 97) hx hb dX11_odds_90 (by decide) (fun hc => ?_) (fun hc => ?_)
                · replace hs := q_t hc hs
                  refine lv_iconst (pc := 97) (v := (iI 0)) hx hb dX11_odds_97 rfl ?_
                  exact hK20 _ hs _ _ hw _ (lv_sub hl [0, 1, 2, 3, 5] rfl)
                · replace hs := q_f (fun z => z hc) hs
                  refine lv_iconst (pc := 93) (v := (iI 1)) hx hb dX11_odds_93 rfl ?_
                  refine lv_goto (pc := 94) (tgt := 98) hx hb dX11_odds_94 (by decide) ?_
                  exact hK20 _ hs _ _ hw _ (lv_sub hl [0, 1, 2, 3, 5] rfl)
          · replace hs := q_f (fun z => z hc) hs
            exact hK2 hs _ _ hw _ (lv_sub hl [0] rfl)

set_option maxHeartbeats 4000000 in
theorem c_X11_isSheet (l : Launch) (G : GG) (a0 : Int32) (h : Mem) (v : Int32)  (hs : f_X11_isSheet h a0 = some v) : Sat l G yX11_isSheet cX11_isSheet 1 (some .boolean) 1 [.int a0] h (some (.int v)) h := by
  refine Sat.mkZ (by decide) (Nat.le_of_ble_eq_true rfl) ?_
  intro p e R s m args below meth c Q F hret hw ls hl
  obtain ⟨hx, hb, hml, hown, hts, hK, hSt, hN, hR⟩ := F
  have hl : lv_has ls 1 [(0, .int a0)] := hl
  unfold f_X11_isSheet at hs
  refine lv_iload_n (pc := 0) hx hb dX11_isSheet_0 rfl (lv_at hl 0 rfl) ?_
  refine lv_iconst (pc := 1) (v := (iI 0)) hx hb dX11_isSheet_1 rfl ?_
  refine lv_iconst (pc := 2) (v := (iI 3)) hx hb dX11_isSheet_2 rfl ?_
  obtain ⟨v1, ev, hs⟩ := q_cal hs
  refine q_callS (pc := 3) (As := [.int a0, .int (iI 0), .int (iI 3)]) (rest := []) (rs := [.int v1]) hx hb hml hl.1 hts hown hK hSt hN hw (c_X11_in l G a0 (iI 0) (iI 3) h v1 ev) cs_X11_71 (rm_ok hR (by decide)) rfl (Nat.le_of_ble_eq_true rfl) rfl rfl dX11_isSheet_3 (fun H locs hw => ?_)
  exact q_zret hret dX11_isSheet_6 hw hs

set_option maxHeartbeats 4000000 in
theorem c_X11_areLetters (l : Launch) (G : GG) (a1 : Int32) (h : Mem) (v : Int32)  (hs : f_X11_areLetters h a1 = some v) : Sat l G yX11_areLetters cX11_areLetters 4 (some .boolean) 3 [.ref (G.2.2.1 72), .int a1] h (some (.int v)) h := by
  refine Sat.mkZ (by decide) (Nat.le_of_ble_eq_true rfl) ?_
  intro p e R s m args below meth c Q F hret hw ls hl
  obtain ⟨hx, hb, hml, hown, hts, hK, hSt, hN, hR⟩ := F
  have hl : lv_has ls 4 [(0, .ref (G.2.2.1 72)), (1, .int a1)] := hl
  unfold f_X11_areLetters at hs
  refine lv_aload_n (pc := 0) hx hb dX11_areLetters_0 rfl (lv_at hl 0 rfl) ?_
  refine q_getR (pc := 1) (q := 72) (o := 11) hx hb hts hown hK hw rfl fg_X11_48 dX11_areLetters_1 ?_
  refine lv_iload_n (pc := 4) hx hb dX11_areLetters_4 rfl (lv_at hl 1 rfl) ?_
  refine q_ald (pc := 5) (q := 83) (n := 4) hx hb hK hw rfl dX11_areLetters_5 hs (fun v1 hs => ?_)
  refine q_join1 (P0 := fun (x2 : Int32) => ∀ (H : Heap) (locs : List Loc), IW G s h H locs → ∀ ls : Array Slot, lv_has ls 4 [(0, .ref (G.2.2.1 72)), (1, .int a1)] → W p l e R s m args below meth c H locs 0 0 Q (F0 m 14 ls [.int x2])) hs ?_ ?_
  · intro x2 hs H locs hw ls hl
    refine lv_istore_n (pc := 14) (lv' := [(2, .int x2), (0, .ref (G.2.2.1 72)), (1, .int a1)]) hx hb dX11_areLetters_14 rfl hl (by decide) rfl (fun ls hl => ?_)
    refine lv_iconst (pc := 15) (v := (iI 0)) hx hb dX11_areLetters_15 rfl ?_
    refine lv_istore_n (pc := 16) (lv' := [(3, .int (iI 0)), (2, .int x2), (0, .ref (G.2.2.1 72)), (1, .int a1)]) hx hb dX11_areLetters_16 rfl hl (by decide) rfl (fun ls hl => ?_)
    refine (q_lo2 (P0 := fun (x4 : Int32) (x5 : Int32) => ∀ (H : Heap) (locs : List Loc), IW G s h H locs → ∀ ls : Array Slot, lv_has ls 4 [(0, .ref (G.2.2.1 72)), (1, .int a1), (2, .int x4), (3, .int x5)] → W p l e R s m args below meth c H locs 0 0 Q (F0 m 17 ls [])) hs ?_) _ _ hw _ (lv_sub hl [2, 3, 1, 0] rfl)
    intro K6 hK6 x4 x5 hs H locs hw ls hl
    unfold f_X11_areLetters_k6 at hs
    refine lv_iload_n (pc := 17) hx hb dX11_areLetters_17 rfl (lv_at hl 3 rfl) ?_
    refine lv_iconst (pc := 18) (v := (iI 1)) hx hb dX11_areLetters_18 rfl ?_
    refine lv_iadd (pc := 19) hx hb dX11_areLetters_19 ?_
    refine lv_aload_n (pc := 20) hx hb dX11_areLetters_20 rfl (lv_at hl 0 rfl) ?_
    refine q_getR (pc := 21) (q := 72) (o := 12) hx hb hts hown hK hw rfl fg_X11_51 dX11_areLetters_21 ?_
    refine lv_iload_n (pc := 24) hx hb dX11_areLetters_24 rfl (lv_at hl 1 rfl) ?_
    refine q_ald (pc := 25) (q := 84) (n := 4) hx hb hK hw rfl dX11_areLetters_25 hs (fun v7 hs => ?_)
    refine lv_icmp_ge (pc := 26) (tgt := 83) hx hb dX11_areLetters_26 (by decide) (fun hc => ?_) (fun hc => ?_)
    · replace hs := q_t hc hs
      refine lv_iload_n (pc := 83) hx hb dX11_areLetters_83 rfl (lv_at hl 2 rfl) ?_
      exact q_zret hret dX11_areLetters_84 hw hs
    · replace hs := q_f hc hs
      refine lv_iload_n (pc := 29) hx hb dX11_areLetters_29 rfl (lv_at hl 2 rfl) ?_
      refine lv_if_eq (pc := 30) (tgt := 83) hx hb dX11_areLetters_30 (by decide) (fun hc => ?_) (fun hc => ?_)
      · replace hs := q_t hc hs
        refine lv_iload_n (pc := 83) hx hb dX11_areLetters_83 rfl (lv_at hl 2 rfl) ?_
        exact q_zret hret dX11_areLetters_84 hw hs
      · replace hs := q_f hc hs
        refine lv_aload_n (pc := 33) hx hb dX11_areLetters_33 rfl (lv_at hl 0 rfl) ?_
        refine lv_aload_n (pc := 34) hx hb dX11_areLetters_34 rfl (lv_at hl 0 rfl) ?_
        refine q_getR (pc := 35) (q := 72) (o := 13) hx hb hts hown hK hw rfl fg_X11_54 dX11_areLetters_35 ?_
        refine lv_bipush (pc := 38) (v := (iI 40)) hx hb dX11_areLetters_38 (by decide) ?_
        refine lv_iload_n (pc := 40) hx hb dX11_areLetters_40 rfl (lv_at hl 1 rfl) ?_
        refine lv_imul (pc := 41) hx hb dX11_areLetters_41 ?_
        refine lv_iload_n (pc := 42) hx hb dX11_areLetters_42 rfl (lv_at hl 3 rfl) ?_
        refine lv_iadd (pc := 43) hx hb dX11_areLetters_43 ?_
        refine q_ald (pc := 44) (q := 85) (n := 160) hx hb hK hw rfl dX11_areLetters_44 hs (fun v8 hs => ?_)
        obtain ⟨v9, ev, hs⟩ := q_cal hs
        refine q_callV (pc := 45) (q := 72) (As := [.int v8]) (rest := []) (rs := [.int v9]) hx hb hml hl.1 hts hown hK hSt hN hw (c_X11_isWindow l G v8 h v9 ev) rfl rfl cv_X11_182 (rm_ok hR (by decide)) rfl (Nat.le_of_ble_eq_true rfl) rfl rfl dX11_areLetters_45 (fun H locs hw => ?_)
        refine q_join1 (P0 := fun (x10 : Int32) => ∀ (H : Heap) (locs : List Loc), IW G s h H locs → ∀ ls : Array Slot, lv_has ls 4 [(0, .ref (G.2.2.1 72)), (1, .int a1), (3, .int x5)] → W p l e R s m args below meth c H locs 0 0 Q (F0 m 76 ls [.int x10])) hs ?_ ?_
        · intro x10 hs H locs hw ls hl
          refine lv_istore_n (pc := 76) (lv' := [(2, .int x10), (0, .ref (G.2.2.1 72)), (1, .int a1), (3, .int x5)]) hx hb dX11_areLetters_76 rfl hl (by decide) rfl (fun ls hl => ?_)
          obtain ⟨x12, ex12, hs⟩ := q_nm hs
          refine lv_iinc (pc := 77) (v := x12) (lv' := [(3, .int x12), (2, .int x10), (0, .ref (G.2.2.1 72)), (1, .int a1)]) hx hb dX11_areLetters_77 hl (k := 3) rfl ex12 (by decide) rfl (fun ls hl => ?_)
          refine lv_goto (pc := 80) (tgt := 17) hx hb dX11_areLetters_80 (by decide) ?_
          exact hK6 _ _ hs _ _ hw _ (lv_sub hl [2, 3, 1, 0] rfl)
        · intro K11 hK11 hs
          refine q_join0 (P0 := ∀ (H : Heap) (locs : List Loc), IW G s h H locs → ∀ ls : Array Slot, lv_has ls 4 [(0, .ref (G.2.2.1 72)), (1, .int a1), (3, .int x5)] → W p l e R s m args below meth c H locs 0 0 Q (F0 m 75 ls [])) hs ?_ ?_
          · intro  hs H locs hw ls hl
            refine lv_iconst (pc := 75) (v := (iI 0)) hx hb dX11_areLetters_75 rfl ?_
            exact hK11 _ hs _ _ hw _ (lv_sub hl [0, 1, 2] rfl)
          · intro K13 hK13 hs
            refine lv_if_eq (pc := 48) (tgt := 75) hx hb dX11_areLetters_48 (by decide) (fun hc => ?_) (fun hc => ?_)
            · replace hs := q_t hc hs
              exact hK13 hs _ _ hw _ (lv_sub hl [0, 1, 3] rfl)
            · replace hs := q_f hc hs
              refine lv_aload_n (pc := 51) hx hb dX11_areLetters_51 rfl (lv_at hl 0 rfl) ?_
              refine lv_aload_n (pc := 52) hx hb dX11_areLetters_52 rfl (lv_at hl 0 rfl) ?_
              refine q_getR (pc := 53) (q := 72) (o := 13) hx hb hts hown hK hw rfl fg_X11_54 dX11_areLetters_53 ?_
              refine lv_bipush (pc := 56) (v := (iI 40)) hx hb dX11_areLetters_56 (by decide) ?_
              refine lv_iload_n (pc := 58) hx hb dX11_areLetters_58 rfl (lv_at hl 1 rfl) ?_
              refine lv_imul (pc := 59) hx hb dX11_areLetters_59 ?_
              refine lv_iload_n (pc := 60) hx hb dX11_areLetters_60 rfl (lv_at hl 3 rfl) ?_
              refine lv_iadd (pc := 61) hx hb dX11_areLetters_61 ?_
              refine lv_iconst (pc := 62) (v := (iI 1)) hx hb dX11_areLetters_62 rfl ?_
              refine lv_iadd (pc := 63) hx hb dX11_areLetters_63 ?_
              refine q_ald (pc := 64) (q := 85) (n := 160) hx hb hK hw rfl dX11_areLetters_64 hs (fun v14 hs => ?_)
              obtain ⟨v15, ev, hs⟩ := q_cal hs
              refine q_callV (pc := 65) (q := 72) (As := [.int v14]) (rest := []) (rs := [.int v15]) hx hb hml hl.1 hts hown hK hSt hN hw (c_X11_isOutThere l G v14 h v15 ev) rfl rfl cv_X11_317 (rm_ok hR (by decide)) rfl (Nat.le_of_ble_eq_true rfl) rfl rfl dX11_areLetters_65 (fun H locs hw => ?_)
              refine lv_if_eq (pc := 68) (tgt := 75) hx hb dX11_areLetters_68 (by decide) (fun hc => ?_) (fun hc => ?_)
              · replace hs := q_t hc hs
                exact hK13 hs _ _ hw _ (lv_sub hl [0, 1, 3] rfl)
              · replace hs := q_f hc hs
                refine lv_iconst (pc := 71) (v := (iI 1)) hx hb dX11_areLetters_71 rfl ?_
                refine lv_goto (pc := 72) (tgt := 76) hx hb dX11_areLetters_72 (by decide) ?_
                exact hK11 _ hs _ _ hw _ (lv_sub hl [0, 1, 3] rfl)
  · intro K3 hK3 hs
    refine lv_if_eq (pc := 6) (tgt := 13) hx hb dX11_areLetters_6 (by decide) (fun hc => ?_) (fun hc => ?_)
    · replace hs := q_t hc hs
      refine lv_iconst (pc := 13) (v := (iI 0)) hx hb dX11_areLetters_13 rfl ?_
      exact hK3 _ hs _ _ hw _ (lv_sub hl [0, 1] rfl)
    · replace hs := q_f hc hs
      refine lv_iconst (pc := 9) (v := (iI 1)) hx hb dX11_areLetters_9 rfl ?_
      refine lv_goto (pc := 10) (tgt := 14) hx hb dX11_areLetters_10 (by decide) ?_
      exact hK3 _ hs _ _ hw _ (lv_sub hl [0, 1] rfl)

set_option maxHeartbeats 4000000 in
theorem c_X11_cameSo (l : Launch) (G : GG) (a1 : Int32) (h : Mem) (v : Int32) (h' : Mem) (hs : f_X11_cameSo h a1 = some (v, h')) : Sat l G yX11_cameSo cX11_cameSo 4 (some .boolean) 5 [.ref (G.2.2.1 72), .int a1] h (some (.int v)) h' := by
  refine Sat.mkZ (by decide) (Nat.le_of_ble_eq_true rfl) ?_
  intro p e R s m args below meth c Q F hret hw ls hl
  obtain ⟨hx, hb, hml, hown, hts, hK, hSt, hN, hR⟩ := F
  have hl : lv_has ls 4 [(0, .ref (G.2.2.1 72)), (1, .int a1)] := hl
  unfold f_X11_cameSo at hs
  refine lv_iconst (pc := 0) (v := (iI 1)) hx hb dX11_cameSo_0 rfl ?_
  refine lv_istore_n (pc := 1) (lv' := [(2, .int (iI 1)), (0, .ref (G.2.2.1 72)), (1, .int a1)]) hx hb dX11_cameSo_1 rfl hl (by decide) rfl (fun ls hl => ?_)
  refine lv_iconst (pc := 2) (v := (iI 0)) hx hb dX11_cameSo_2 rfl ?_
  refine lv_istore_n (pc := 3) (lv' := [(3, .int (iI 0)), (2, .int (iI 1)), (0, .ref (G.2.2.1 72)), (1, .int a1)]) hx hb dX11_cameSo_3 rfl hl (by decide) rfl (fun ls hl => ?_)
  refine (q_lo3 (P0 := fun (x1 : Int32) (x2 : Int32) (h3 : Mem) => ∀ (H : Heap) (locs : List Loc), IW G s h3 H locs → ∀ ls : Array Slot, lv_has ls 4 [(0, .ref (G.2.2.1 72)), (1, .int a1), (2, .int x1), (3, .int x2)] → W p l e R s m args below meth c H locs 0 0 Q (F0 m 4 ls [])) hs ?_) _ _ hw _ (lv_sub hl [2, 3, 1, 0] rfl)
  intro K4 hK4 x1 x2 h3 hs H locs hw ls hl
  unfold f_X11_cameSo_k4 at hs
  refine lv_iload_n (pc := 4) hx hb dX11_cameSo_4 rfl (lv_at hl 3 rfl) ?_
  refine lv_iconst (pc := 5) (v := (iI 1)) hx hb dX11_cameSo_5 rfl ?_
  refine lv_iadd (pc := 6) hx hb dX11_cameSo_6 ?_
  refine lv_aload_n (pc := 7) hx hb dX11_cameSo_7 rfl (lv_at hl 0 rfl) ?_
  refine q_getR (pc := 8) (q := 72) (o := 12) hx hb hts hown hK hw rfl fg_X11_51 dX11_cameSo_8 ?_
  refine lv_iload_n (pc := 11) hx hb dX11_cameSo_11 rfl (lv_at hl 1 rfl) ?_
  refine q_ald (pc := 12) (q := 84) (n := 4) hx hb hK hw rfl dX11_cameSo_12 hs (fun v5 hs => ?_)
  refine lv_icmp_ge (pc := 13) (tgt := 63) hx hb dX11_cameSo_13 (by decide) (fun hc => ?_) (fun hc => ?_)
  · replace hs := q_t hc hs
    refine lv_iload_n (pc := 63) hx hb dX11_cameSo_63 rfl (lv_at hl 2 rfl) ?_
    exact q_zretW hret dX11_cameSo_64 hw hs
  · replace hs := q_f hc hs
    refine lv_iload_n (pc := 16) hx hb dX11_cameSo_16 rfl (lv_at hl 2 rfl) ?_
    refine lv_if_eq (pc := 17) (tgt := 63) hx hb dX11_cameSo_17 (by decide) (fun hc => ?_) (fun hc => ?_)
    · replace hs := q_t hc hs
      refine lv_iload_n (pc := 63) hx hb dX11_cameSo_63 rfl (lv_at hl 2 rfl) ?_
      exact q_zretW hret dX11_cameSo_64 hw hs
    · replace hs := q_f hc hs
      refine lv_aload_n (pc := 20) hx hb dX11_cameSo_20 rfl (lv_at hl 0 rfl) ?_
      refine lv_aload_n (pc := 21) hx hb dX11_cameSo_21 rfl (lv_at hl 0 rfl) ?_
      refine q_getR (pc := 22) (q := 72) (o := 13) hx hb hts hown hK hw rfl fg_X11_54 dX11_cameSo_22 ?_
      refine lv_bipush (pc := 25) (v := (iI 40)) hx hb dX11_cameSo_25 (by decide) ?_
      refine lv_iload_n (pc := 27) hx hb dX11_cameSo_27 rfl (lv_at hl 1 rfl) ?_
      refine lv_imul (pc := 28) hx hb dX11_cameSo_28 ?_
      refine lv_iload_n (pc := 29) hx hb dX11_cameSo_29 rfl (lv_at hl 3 rfl) ?_
      refine lv_iadd (pc := 30) hx hb dX11_cameSo_30 ?_
      refine q_ald (pc := 31) (q := 85) (n := 160) hx hb hK hw rfl dX11_cameSo_31 hs (fun v6 hs => ?_)
      obtain ⟨v7, h8, ev, hs⟩ := q_cal2 hs
      refine q_callV (pc := 32) (q := 72) (As := [.int v6]) (rest := []) (rs := [.int v7]) hx hb hml hl.1 hts hown hK hSt hN hw (c_X11_goes l G v6 h3 v7 h8 ev) rfl rfl cv_X11_179 (rm_ok hR (by decide)) rfl (Nat.le_of_ble_eq_true rfl) rfl rfl dX11_cameSo_32 (fun H locs hw => ?_)
      refine lv_aload_n (pc := 35) hx hb dX11_cameSo_35 rfl (lv_at hl 0 rfl) ?_
      refine q_getR (pc := 36) (q := 72) (o := 13) hx hb hts hown hK hw rfl fg_X11_54 dX11_cameSo_36 ?_
      refine lv_bipush (pc := 39) (v := (iI 40)) hx hb dX11_cameSo_39 (by decide) ?_
      refine lv_iload_n (pc := 41) hx hb dX11_cameSo_41 rfl (lv_at hl 1 rfl) ?_
      refine lv_imul (pc := 42) hx hb dX11_cameSo_42 ?_
      refine lv_iload_n (pc := 43) hx hb dX11_cameSo_43 rfl (lv_at hl 3 rfl) ?_
      refine lv_iadd (pc := 44) hx hb dX11_cameSo_44 ?_
      refine lv_iconst (pc := 45) (v := (iI 1)) hx hb dX11_cameSo_45 rfl ?_
      refine lv_iadd (pc := 46) hx hb dX11_cameSo_46 ?_
      refine q_ald (pc := 47) (q := 85) (n := 160) hx hb hK hw rfl dX11_cameSo_47 hs (fun v9 hs => ?_)
      refine q_join1 (P0 := fun (x10 : Int32) => ∀ (H : Heap) (locs : List Loc), IW G s h8 H locs → ∀ ls : Array Slot, lv_has ls 4 [(0, .ref (G.2.2.1 72)), (1, .int a1), (3, .int x2)] → W p l e R s m args below meth c H locs 0 0 Q (F0 m 56 ls [.int x10])) hs ?_ ?_
      · intro x10 hs H locs hw ls hl
        refine lv_istore_n (pc := 56) (lv' := [(2, .int x10), (0, .ref (G.2.2.1 72)), (1, .int a1), (3, .int x2)]) hx hb dX11_cameSo_56 rfl hl (by decide) rfl (fun ls hl => ?_)
        obtain ⟨x12, ex12, hs⟩ := q_nm hs
        refine lv_iinc (pc := 57) (v := x12) (lv' := [(3, .int x12), (2, .int x10), (0, .ref (G.2.2.1 72)), (1, .int a1)]) hx hb dX11_cameSo_57 hl (k := 3) rfl ex12 (by decide) rfl (fun ls hl => ?_)
        refine lv_goto (pc := 60) (tgt := 4) hx hb dX11_cameSo_60 (by decide) ?_
        exact hK4 _ _ _ hs _ _ hw _ (lv_sub hl [2, 3, 1, 0] rfl)
      · intro K11 hK11 hs
        refine lv_icmp_ne (pc := 48) (tgt := 55) hx hb dX11_cameSo_48 (by decide) (fun hc => ?_) (fun hc => ?_)
        · replace hs := q_t hc hs
          refine lv_iconst (pc := 55) (v := (iI 0)) hx hb dX11_cameSo_55 rfl ?_
          exact hK11 _ hs _ _ hw _ (lv_sub hl [0, 1, 3] rfl)
        · replace hs := q_f (fun z => z hc) hs
          refine lv_iconst (pc := 51) (v := (iI 1)) hx hb dX11_cameSo_51 rfl ?_
          refine lv_goto (pc := 52) (tgt := 56) hx hb dX11_cameSo_52 (by decide) ?_
          exact hK11 _ hs _ _ hw _ (lv_sub hl [0, 1, 3] rfl)

set_option maxHeartbeats 4000000 in
set_option maxRecDepth 100000 in
theorem c_X11_findFits (l : Launch) (G : GG) (a1 : Int32) (h : Mem) (v : Int32) (h' : Mem) (hs : f_X11_findFits h a1 = some (v, h')) : Sat l G yX11_findFits cX11_findFits 6 (some .int) 6 [.ref (G.2.2.1 72), .int a1] h (some (.int v)) h' := by
  refine Sat.mkI (by decide) (Nat.le_of_ble_eq_true rfl) ?_
  intro p e R s m args below meth c Q F hret hw ls hl
  obtain ⟨hx, hb, hml, hown, hts, hK, hSt, hN, hR⟩ := F
  have hl : lv_has ls 6 [(0, .ref (G.2.2.1 72)), (1, .int a1)] := hl
  unfold f_X11_findFits at hs
  refine lv_aload_n (pc := 0) hx hb dX11_findFits_0 rfl (lv_at hl 0 rfl) ?_
  refine lv_aload_n (pc := 1) hx hb dX11_findFits_1 rfl (lv_at hl 0 rfl) ?_
  refine q_getR (pc := 2) (q := 72) (o := 1) hx hb hts hown hK hw rfl fg_X11_7 dX11_findFits_2 ?_
  refine lv_aload_n (pc := 5) hx hb dX11_findFits_5 rfl (lv_at hl 0 rfl) ?_
  refine q_getR (pc := 6) (q := 72) (o := 3) hx hb hts hown hK hw rfl fg_X11_16 dX11_findFits_6 ?_
  obtain ⟨h1, ev, hs⟩ := q_cal hs
  refine q_callV (pc := 9) (q := 72) (As := [.ref (G.2.2.1 73), .ref (G.2.2.1 75)]) (rest := []) (rs := []) hx hb hml hl.1 hts hown hK hSt hN hw (c_X11_moveAll l G 73 305 rfl 75 305 rfl h h1 ev) rfl rfl cv_X11_188 (rm_ok hR (by decide)) rfl (Nat.le_of_ble_eq_true rfl) rfl rfl dX11_findFits_9 (fun H locs hw => ?_)
  refine lv_iconst (pc := 12) (v := (iI 0)) hx hb dX11_findFits_12 rfl ?_
  refine lv_istore_n (pc := 13) (lv' := [(2, .int (iI 0)), (0, .ref (G.2.2.1 72)), (1, .int a1)]) hx hb dX11_findFits_13 rfl hl (by decide) rfl (fun ls hl => ?_)
  refine lv_iconst (pc := 14) (v := (iI 0)) hx hb dX11_findFits_14 rfl ?_
  refine lv_istore_n (pc := 15) (lv' := [(3, .int (iI 0)), (2, .int (iI 0)), (0, .ref (G.2.2.1 72)), (1, .int a1)]) hx hb dX11_findFits_15 rfl hl (by decide) rfl (fun ls hl => ?_)
  refine (q_lo2 (P0 := fun (x2 : Int32) (h3 : Mem) => ∀ (H : Heap) (locs : List Loc), IW G s h3 H locs → ∀ ls : Array Slot, lv_has ls 6 [(0, .ref (G.2.2.1 72)), (1, .int a1), (2, .int (iI 0)), (3, .int x2)] → W p l e R s m args below meth c H locs 0 0 Q (F0 m 16 ls [])) hs ?_) _ _ hw _ (lv_sub hl [2, 3, 1, 0] rfl)
  intro K4 hK4 x2 h3 hs H locs hw ls hl
  unfold f_X11_findFits_k4 at hs
  refine lv_iload_n (pc := 16) hx hb dX11_findFits_16 rfl (lv_at hl 3 rfl) ?_
  refine lv_bipush (pc := 17) (v := (iI 20)) hx hb dX11_findFits_17 (by decide) ?_
  refine lv_icmp_ge (pc := 19) (tgt := 35) hx hb dX11_findFits_19 (by decide) (fun hc => ?_) (fun hc => ?_)
  · replace hs := q_t hc hs
    refine lv_iconst (pc := 35) (v := (iI 0)) hx hb dX11_findFits_35 rfl ?_
    refine lv_istore_n (pc := 36) (lv' := [(3, .int (iI 0)), (0, .ref (G.2.2.1 72)), (1, .int a1), (2, .int (iI 0))]) hx hb dX11_findFits_36 rfl hl (by decide) rfl (fun ls hl => ?_)
    refine (q_lo3 (P0 := fun (x5 : Int32) (x6 : Int32) (h7 : Mem) => ∀ (H : Heap) (locs : List Loc), IW G s h7 H locs → ∀ ls : Array Slot, lv_has ls 6 [(0, .ref (G.2.2.1 72)), (1, .int a1), (2, .int x5), (3, .int x6)] → W p l e R s m args below meth c H locs 0 0 Q (F0 m 37 ls [])) hs ?_) _ _ hw _ (lv_sub hl [1, 2, 3, 0] rfl)
    intro K8 hK8 x5 x6 h7 hs H locs hw ls hl
    unfold f_X11_findFits_k8 at hs
    refine lv_iload_n (pc := 37) hx hb dX11_findFits_37 rfl (lv_at hl 3 rfl) ?_
    refine lv_iconst (pc := 38) (v := (iI 1)) hx hb dX11_findFits_38 rfl ?_
    refine lv_aload_n (pc := 39) hx hb dX11_findFits_39 rfl (lv_at hl 0 rfl) ?_
    refine q_getI (pc := 40) (q := 72) hx hb hts hown hK hw rfl fg_X11_311 dX11_findFits_40 ?_
    refine q_ishl (pc := 43) hx hb dX11_findFits_43 ?_
    refine lv_icmp_ge (pc := 44) (tgt := 158) hx hb dX11_findFits_44 (by decide) (fun hc => ?_) (fun hc => ?_)
    · replace hs := q_t hc hs
      refine lv_iload_n (pc := 158) hx hb dX11_findFits_158 rfl (lv_at hl 2 rfl) ?_
      exact q_iretW hret dX11_findFits_159 hw hs
    · replace hs := q_f hc hs
      refine lv_aload_n (pc := 47) hx hb dX11_findFits_47 rfl (lv_at hl 0 rfl) ?_
      refine lv_iload_n (pc := 48) hx hb dX11_findFits_48 rfl (lv_at hl 3 rfl) ?_
      obtain ⟨h9, ev, hs⟩ := q_cal hs
      refine q_callV (pc := 49) (q := 72) (As := [.int x6]) (rest := []) (rs := []) hx hb hml hl.1 hts hown hK hSt hN hw (c_X11_slantsAre l G x6 h7 h9 ev) rfl rfl cv_X11_323 (rm_ok hR (by decide)) rfl (Nat.le_of_ble_eq_true rfl) rfl rfl dX11_findFits_49 (fun H locs hw => ?_)
      refine lv_aload_n (pc := 52) hx hb dX11_findFits_52 rfl (lv_at hl 0 rfl) ?_
      refine lv_iload_n (pc := 53) hx hb dX11_findFits_53 rfl (lv_at hl 1 rfl) ?_
      obtain ⟨v10, h11, ev, hs⟩ := q_cal2 hs
      refine q_callV (pc := 54) (q := 72) (As := [.int a1]) (rest := []) (rs := [.int v10]) hx hb hml hl.1 hts hown hK hSt hN hw (c_X11_cameSo l G a1 h9 v10 h11 ev) rfl rfl cv_X11_329 (rm_ok hR (by decide)) rfl (Nat.le_of_ble_eq_true rfl) rfl rfl dX11_findFits_54 (fun H locs hw => ?_)
      refine q_join2 (P0 := fun (x12 : Int32) (h13 : Mem) => ∀ (H : Heap) (locs : List Loc), IW G s h13 H locs → ∀ ls : Array Slot, lv_has ls 6 [(0, .ref (G.2.2.1 72)), (1, .int a1), (2, .int x12), (3, .int x6)] → W p l e R s m args below meth c H locs 0 0 Q (F0 m 140 ls [])) hs ?_ ?_
      · intro x12 h13 hs H locs hw ls hl
        refine lv_aload_n (pc := 140) hx hb dX11_findFits_140 rfl (lv_at hl 0 rfl) ?_
        refine lv_aload_n (pc := 141) hx hb dX11_findFits_141 rfl (lv_at hl 0 rfl) ?_
        refine q_getR (pc := 142) (q := 72) (o := 3) hx hb hts hown hK hw rfl fg_X11_16 dX11_findFits_142 ?_
        refine lv_aload_n (pc := 145) hx hb dX11_findFits_145 rfl (lv_at hl 0 rfl) ?_
        refine q_getR (pc := 146) (q := 72) (o := 1) hx hb hts hown hK hw rfl fg_X11_7 dX11_findFits_146 ?_
        obtain ⟨h15, ev, hs⟩ := q_cal hs
        refine q_callV (pc := 149) (q := 72) (As := [.ref (G.2.2.1 75), .ref (G.2.2.1 73)]) (rest := []) (rs := []) hx hb hml hl.1 hts hown hK hSt hN hw (c_X11_moveAll l G 75 305 rfl 73 305 rfl h13 h15 ev) rfl rfl cv_X11_188 (rm_ok hR (by decide)) rfl (Nat.le_of_ble_eq_true rfl) rfl rfl dX11_findFits_149 (fun H locs hw => ?_)
        obtain ⟨x16, ex16, hs⟩ := q_nm hs
        refine lv_iinc (pc := 152) (v := x16) (lv' := [(3, .int x16), (0, .ref (G.2.2.1 72)), (1, .int a1), (2, .int x12)]) hx hb dX11_findFits_152 hl (k := 3) rfl ex16 (by decide) rfl (fun ls hl => ?_)
        refine lv_goto (pc := 155) (tgt := 37) hx hb dX11_findFits_155 (by decide) ?_
        exact hK8 _ _ _ hs _ _ hw _ (lv_sub hl [1, 2, 3, 0] rfl)
      · intro K14 hK14 hs
        refine lv_if_eq (pc := 57) (tgt := 140) hx hb dX11_findFits_57 (by decide) (fun hc => ?_) (fun hc => ?_)
        · replace hs := q_t hc hs
          exact hK14 _ _ hs _ _ hw _ (lv_sub hl [0, 1, 2, 3] rfl)
        · replace hs := q_f hc hs
          obtain ⟨x17, ex17, hs⟩ := q_nm hs
          refine lv_iinc (pc := 60) (v := x17) (lv' := [(2, .int x17), (0, .ref (G.2.2.1 72)), (1, .int a1), (3, .int x6)]) hx hb dX11_findFits_60 hl (k := 2) rfl ex17 (by decide) rfl (fun ls hl => ?_)
          refine lv_aload_n (pc := 63) hx hb dX11_findFits_63 rfl (lv_at hl 1 rfl) ?_
          refine lv_aload_n (pc := 64) hx hb dX11_findFits_64 rfl (lv_at hl 1 rfl) ?_
          refine q_getR (pc := 65) (q := 72) (o := 1) hx hb hts hown hK hw rfl fg_X11_7 dX11_findFits_65 ?_
          refine lv_aload_n (pc := 68) hx hb dX11_findFits_68 rfl (lv_at hl 1 rfl) ?_
          refine q_getR (pc := 69) (q := 72) (o := 4) hx hb hts hown hK hw rfl fg_X11_19 dX11_findFits_69 ?_
          obtain ⟨h18, ev, hs⟩ := q_cal hs
          refine q_callV (pc := 72) (q := 72) (As := [.ref (G.2.2.1 73), .ref (G.2.2.1 76)]) (rest := []) (rs := []) hx hb hml hl.1 hts hown hK hSt hN hw (c_X11_moveAll l G 73 305 rfl 76 305 rfl h11 h18 ev) rfl rfl cv_X11_188 (rm_ok hR (by decide)) rfl (Nat.le_of_ble_eq_true rfl) rfl rfl dX11_findFits_72 (fun H locs hw => ?_)
          refine lv_iconst (pc := 75) (v := (iI 0)) hx hb dX11_findFits_75 rfl ?_
          refine lv_istore (pc := 76) (lv' := [(4, .int (iI 0)), (2, .int x17), (0, .ref (G.2.2.1 72)), (1, .int a1), (3, .int x6)]) hx hb dX11_findFits_76 hl (by decide) rfl (fun ls hl => ?_)
          refine (q_lo2 (P0 := fun (x19 : Int32) (h20 : Mem) => ∀ (H : Heap) (locs : List Loc), IW G s h20 H locs → ∀ ls : Array Slot, lv_has ls 6 [(0, .ref (G.2.2.1 72)), (1, .int a1), (2, .int x17), (3, .int x6), (4, .int x19)] → W p l e R s m args below meth c H locs 0 0 Q (F0 m 78 ls [])) hs ?_) _ _ hw _ (lv_sub hl [2, 3, 1, 4, 0] rfl)
          intro K21 hK21 x19 h20 hs H locs hw ls hl
          unfold f_X11_findFits_k21 at hs
          refine lv_iload (pc := 78) hx hb dX11_findFits_78 (lv_at hl 4 rfl) ?_
          refine lv_aload_n (pc := 80) hx hb dX11_findFits_80 rfl (lv_at hl 0 rfl) ?_
          obtain ⟨v22, ev, hs⟩ := q_cal hs
          refine q_callV (pc := 81) (q := 72) (As := []) (rest := [.int x19]) (rs := [.int v22, .int x19]) hx hb hml hl.1 hts hown hK hSt hN hw (c_X11_windows l G h20 v22 ev) rfl rfl cv_X11_75 (rm_ok hR (by decide)) rfl (Nat.le_of_ble_eq_true rfl) rfl rfl dX11_findFits_81 (fun H locs hw => ?_)
          refine lv_icmp_ge (pc := 84) (tgt := 140) hx hb dX11_findFits_84 (by decide) (fun hc => ?_) (fun hc => ?_)
          · replace hs := q_t hc hs
            exact hK14 _ _ hs _ _ hw _ (lv_sub hl [0, 1, 2, 3] rfl)
          · replace hs := q_f hc hs
            refine lv_aload_n (pc := 87) hx hb dX11_findFits_87 rfl (lv_at hl 0 rfl) ?_
            refine lv_iload (pc := 88) hx hb dX11_findFits_88 (lv_at hl 4 rfl) ?_
            obtain ⟨v23, h24, ev, hs⟩ := q_cal2 hs
            refine q_callV (pc := 90) (q := 72) (As := [.int x19]) (rest := []) (rs := [.int v23]) hx hb hml hl.1 hts hown hK hSt hN hw (c_X11_goes l G x19 h20 v23 h24 ev) rfl rfl cv_X11_179 (rm_ok hR (by decide)) rfl (Nat.le_of_ble_eq_true rfl) rfl rfl dX11_findFits_90 (fun H locs hw => ?_)
            refine lv_istore (pc := 93) (lv' := [(5, .int v23), (0, .ref (G.2.2.1 72)), (1, .int a1), (2, .int x17), (3, .int x6), (4, .int x19)]) hx hb dX11_findFits_93 hl (by decide) rfl (fun ls hl => ?_)
            refine lv_aload_n (pc := 95) hx hb dX11_findFits_95 rfl (lv_at hl 1 rfl) ?_
            refine q_getR (pc := 96) (q := 72) (o := 15) hx hb hts hown hK hw rfl fg_X11_60 dX11_findFits_96 ?_
            refine lv_iload (pc := 99) hx hb dX11_findFits_99 (lv_at hl 5 rfl) ?_
            refine lv_dup2_11 (pc := 101) hx hb dX11_findFits_101 rfl rfl ?_
            refine q_ald (pc := 102) (q := 87) (n := 20) hx hb hK hw rfl dX11_findFits_102 hs (fun v25 hs => ?_)
            refine lv_iload (pc := 103) hx hb dX11_findFits_103 (lv_at hl 0 rfl) ?_
            refine lv_bipush (pc := 105) (v := (iI 100)) hx hb dX11_findFits_105 (by decide) ?_
            refine q_join1 (P0 := fun (x26 : Int32) => ∀ (H : Heap) (locs : List Loc), IW G s h24 H locs → ∀ ls : Array Slot, lv_has ls 6 [(0, .ref (G.2.2.1 72)), (1, .int a1), (2, .int x17), (3, .int x6), (4, .int x19)] → W p l e R s m args below meth c H locs 0 0 Q (F0 m 120 ls [.int x26, .int v25, .int x19, .ref (G.2.2.1 87)])) hs ?_ ?_
            · intro x26 hs H locs hw ls hl
              refine lv_ior (pc := 120) hx hb dX11_findFits_120 ?_
              refine q_ast (pc := 121) (q := 87) (n := 20) hx hb hK hw rfl dX11_findFits_121 hs (fun h28 H locs hw hs => ?_)
              refine lv_aload_n (pc := 122) hx hb dX11_findFits_122 rfl (lv_at hl 0 rfl) ?_
              refine lv_aload_n (pc := 123) hx hb dX11_findFits_123 rfl (lv_at hl 0 rfl) ?_
              refine q_getR (pc := 124) (q := 72) (o := 4) hx hb hts hown hK hw rfl fg_X11_19 dX11_findFits_124 ?_
              refine lv_aload_n (pc := 127) hx hb dX11_findFits_127 rfl (lv_at hl 0 rfl) ?_
              refine q_getR (pc := 128) (q := 72) (o := 1) hx hb hts hown hK hw rfl fg_X11_7 dX11_findFits_128 ?_
              obtain ⟨h29, ev, hs⟩ := q_cal hs
              refine q_callV (pc := 131) (q := 72) (As := [.ref (G.2.2.1 76), .ref (G.2.2.1 73)]) (rest := []) (rs := []) hx hb hml hl.1 hts hown hK hSt hN hw (c_X11_moveAll l G 76 305 rfl 73 305 rfl h28 h29 ev) rfl rfl cv_X11_188 (rm_ok hR (by decide)) rfl (Nat.le_of_ble_eq_true rfl) rfl rfl dX11_findFits_131 (fun H locs hw => ?_)
              obtain ⟨x30, ex30, hs⟩ := q_nm hs
              refine lv_iinc (pc := 134) (v := x30) (lv' := [(4, .int x30), (0, .ref (G.2.2.1 72)), (1, .int a1), (2, .int x17), (3, .int x6)]) hx hb dX11_findFits_134 hl (k := 4) rfl ex30 (by decide) rfl (fun ls hl => ?_)
              refine lv_goto (pc := 137) (tgt := 78) hx hb dX11_findFits_137 (by decide) ?_
              exact hK21 _ _ hs _ _ hw _ (lv_sub hl [1, 2, 3, 4, 0] rfl)
            · intro K27 hK27 hs
              refine lv_icmp_ne (pc := 107) (tgt := 116) hx hb dX11_findFits_107 (by decide) (fun hc => ?_) (fun hc => ?_)
              · replace hs := q_t hc hs
                refine lv_iconst (pc := 116) (v := (iI 1)) hx hb dX11_findFits_116 rfl ?_
                refine lv_iload (pc := 117) hx hb dX11_findFits_117 (lv_at hl 0 rfl) ?_
                refine q_ishl (pc := 119) hx hb dX11_findFits_119 ?_
                exact hK27 _ hs _ _ hw _ (lv_sub hl [1, 2, 3, 4, 5] rfl)
              · replace hs := q_f (fun z => z hc) hs
                refine lv_ldcw (pc := 110) (v := (iI 1048576)) hx hb hown (hts _ ki_X11_332) dX11_findFits_110 ?_
                refine lv_goto (pc := 113) (tgt := 120) hx hb dX11_findFits_113 (by decide) ?_
                exact hK27 _ hs _ _ hw _ (lv_sub hl [1, 2, 3, 4, 5] rfl)
  · replace hs := q_f hc hs
    refine lv_aload_n (pc := 22) hx hb dX11_findFits_22 rfl (lv_at hl 0 rfl) ?_
    refine q_getR (pc := 23) (q := 72) (o := 15) hx hb hts hown hK hw rfl fg_X11_60 dX11_findFits_23 ?_
    refine lv_iload_n (pc := 26) hx hb dX11_findFits_26 rfl (lv_at hl 3 rfl) ?_
    refine lv_iconst (pc := 27) (v := (iI 0)) hx hb dX11_findFits_27 rfl ?_
    refine q_ast (pc := 28) (q := 87) (n := 20) hx hb hK hw rfl dX11_findFits_28 hs (fun h31 H locs hw hs => ?_)
    obtain ⟨x32, ex32, hs⟩ := q_nm hs
    refine lv_iinc (pc := 29) (v := x32) (lv' := [(3, .int x32), (0, .ref (G.2.2.1 72)), (1, .int a1), (2, .int (iI 0))]) hx hb dX11_findFits_29 hl (k := 3) rfl ex32 (by decide) rfl (fun ls hl => ?_)
    refine lv_goto (pc := 32) (tgt := 16) hx hb dX11_findFits_32 (by decide) ?_
    exact hK4 _ _ hs _ _ hw _ (lv_sub hl [1, 2, 3, 0] rfl)

set_option maxHeartbeats 4000000 in
theorem c_X11_fits (l : Launch) (G : GG) (a1 : Int32) (a2 : Int32) (h : Mem) (v : Int32) (h' : Mem) (hs : f_X11_fits h a1 a2 = some (v, h')) : Sat l G yX11_fits cX11_fits 3 (some .int) 7 [.ref (G.2.2.1 72), .int a1, .int a2] h (some (.int v)) h' := by
  refine Sat.mkI (by decide) (Nat.le_of_ble_eq_true rfl) ?_
  intro p e R s m args below meth c Q F hret hw ls hl
  obtain ⟨hx, hb, hml, hown, hts, hK, hSt, hN, hR⟩ := F
  have hl : lv_has ls 3 [(0, .ref (G.2.2.1 72)), (1, .int a1), (2, .int a2)] := hl
  unfold f_X11_fits at hs
  refine lv_aload_n (pc := 0) hx hb dX11_fits_0 rfl (lv_at hl 0 rfl) ?_
  refine lv_iload_n (pc := 1) hx hb dX11_fits_1 rfl (lv_at hl 1 rfl) ?_
  obtain ⟨v1, ev, hs⟩ := q_cal hs
  refine q_callV (pc := 2) (q := 72) (As := [.int a1]) (rest := []) (rs := [.int v1]) hx hb hml hl.1 hts hown hK hSt hN hw (c_X11_isMask l G a1 h v1 ev) rfl rfl cv_X11_314 (rm_ok hR (by decide)) rfl (Nat.le_of_ble_eq_true rfl) rfl rfl dX11_fits_2 (fun H locs hw => ?_)
  refine q_join0 (P0 := ∀ (H : Heap) (locs : List Loc), IW G s h H locs → ∀ ls : Array Slot, lv_has ls 3 [(0, .ref (G.2.2.1 72))] → W p l e R s m args below meth c H locs 0 0 Q (F0 m 15 ls [])) hs ?_ ?_
  · intro  hs H locs hw ls hl
    refine lv_aload_n (pc := 15) hx hb dX11_fits_15 rfl (lv_at hl 0 rfl) ?_
    refine lv_ldc (pc := 16) (v := (iI (-1000000001))) hx hb hown (hts _ ki_X11_78) dX11_fits_16 ?_
    obtain ⟨v3, h4, ev, hs⟩ := q_cal2 hs
    refine q_callV (pc := 18) (q := 72) (As := [.int (iI (-1000000001))]) (rest := []) (rs := [.int v3]) hx hb hml hl.1 hts hown hK hSt hN hw (c_X11_errs l G (iI (-1000000001)) h v3 h4 ev) rfl rfl cv_X11_79 (rm_ok hR (by decide)) rfl (Nat.le_of_ble_eq_true rfl) rfl rfl dX11_fits_18 (fun H locs hw => ?_)
    exact q_iretW hret dX11_fits_21 hw hs
  · intro K2 hK2 hs
    refine lv_if_eq (pc := 5) (tgt := 15) hx hb dX11_fits_5 (by decide) (fun hc => ?_) (fun hc => ?_)
    · replace hs := q_t hc hs
      exact hK2 hs _ _ hw _ (lv_sub hl [0] rfl)
    · replace hs := q_f hc hs
      refine lv_iload_n (pc := 8) hx hb dX11_fits_8 rfl (lv_at hl 2 rfl) ?_
      obtain ⟨v5, ev, hs⟩ := q_cal hs
      refine q_callS (pc := 9) (As := [.int a2]) (rest := []) (rs := [.int v5]) hx hb hml hl.1 hts hown hK hSt hN hw (c_X11_isSheet l G a2 h v5 ev) cs_X11_333 (rm_ok hR (by decide)) rfl (Nat.le_of_ble_eq_true rfl) rfl rfl dX11_fits_9 (fun H locs hw => ?_)
      refine lv_if_ne (pc := 12) (tgt := 22) hx hb dX11_fits_12 (by decide) (fun hc => ?_) (fun hc => ?_)
      · replace hs := q_t hc hs
        refine lv_aload_n (pc := 22) hx hb dX11_fits_22 rfl (lv_at hl 0 rfl) ?_
        refine lv_iload_n (pc := 23) hx hb dX11_fits_23 rfl (lv_at hl 2 rfl) ?_
        obtain ⟨v6, ev, hs⟩ := q_cal hs
        refine q_callV (pc := 24) (q := 72) (As := [.int a2]) (rest := []) (rs := [.int v6]) hx hb hml hl.1 hts hown hK hSt hN hw (c_X11_areLetters l G a2 h v6 ev) rfl rfl cv_X11_336 (rm_ok hR (by decide)) rfl (Nat.le_of_ble_eq_true rfl) rfl rfl dX11_fits_24 (fun H locs hw => ?_)
        refine lv_if_ne (pc := 27) (tgt := 37) hx hb dX11_fits_27 (by decide) (fun hc => ?_) (fun hc => ?_)
        · replace hs := q_t hc hs
          refine lv_aload_n (pc := 37) hx hb dX11_fits_37 rfl (lv_at hl 0 rfl) ?_
          refine lv_iload_n (pc := 38) hx hb dX11_fits_38 rfl (lv_at hl 1 rfl) ?_
          obtain ⟨h7, ev, hs⟩ := q_cal hs
          refine q_callV (pc := 39) (q := 72) (As := [.int a1]) (rest := []) (rs := []) hx hb hml hl.1 hts hown hK hSt hN hw (c_X11_findUnknown l G a1 h h7 ev) rfl rfl cv_X11_320 (rm_ok hR (by decide)) rfl (Nat.le_of_ble_eq_true rfl) rfl rfl dX11_fits_39 (fun H locs hw => ?_)
          refine lv_aload_n (pc := 42) hx hb dX11_fits_42 rfl (lv_at hl 0 rfl) ?_
          refine lv_iload_n (pc := 43) hx hb dX11_fits_43 rfl (lv_at hl 2 rfl) ?_
          obtain ⟨v8, h9, ev, hs⟩ := q_cal2 hs
          refine q_callV (pc := 44) (q := 72) (As := [.int a2]) (rest := []) (rs := [.int v8]) hx hb hml hl.1 hts hown hK hSt hN hw (c_X11_findFits l G a2 h7 v8 h9 ev) rfl rfl cv_X11_339 (rm_ok hR (by decide)) rfl (Nat.le_of_ble_eq_true rfl) rfl rfl dX11_fits_44 (fun H locs hw => ?_)
          exact q_iretW hret dX11_fits_47 hw hs
        · replace hs := q_f (fun z => z hc) hs
          refine lv_aload_n (pc := 30) hx hb dX11_fits_30 rfl (lv_at hl 0 rfl) ?_
          refine lv_ldc (pc := 31) (v := (iI (-1000000002))) hx hb hown (hts _ ki_X11_195) dX11_fits_31 ?_
          obtain ⟨v10, h11, ev, hs⟩ := q_cal2 hs
          refine q_callV (pc := 33) (q := 72) (As := [.int (iI (-1000000002))]) (rest := []) (rs := [.int v10]) hx hb hml hl.1 hts hown hK hSt hN hw (c_X11_errs l G (iI (-1000000002)) h v10 h11 ev) rfl rfl cv_X11_79 (rm_ok hR (by decide)) rfl (Nat.le_of_ble_eq_true rfl) rfl rfl dX11_fits_33 (fun H locs hw => ?_)
          exact q_iretW hret dX11_fits_36 hw hs
      · replace hs := q_f (fun z => z hc) hs
        exact hK2 hs _ _ hw _ (lv_sub hl [0] rfl)

set_option maxHeartbeats 4000000 in
set_option maxRecDepth 100000 in
theorem c_X11_tells (l : Launch) (G : GG) (a1 : Int32) (a2 : Int32) (a3 : Int32) (h : Mem) (v : Int32) (h' : Mem) (hs : f_X11_tells h a1 a2 a3 = some (v, h')) : Sat l G yX11_tells cX11_tells 6 (some .int) 7 [.ref (G.2.2.1 72), .int a1, .int a2, .int a3] h (some (.int v)) h' := by
  refine Sat.mkI (by decide) (Nat.le_of_ble_eq_true rfl) ?_
  intro p e R s m args below meth c Q F hret hw ls hl
  obtain ⟨hx, hb, hml, hown, hts, hK, hSt, hN, hR⟩ := F
  have hl : lv_has ls 6 [(0, .ref (G.2.2.1 72)), (1, .int a1), (2, .int a2), (3, .int a3)] := hl
  unfold f_X11_tells at hs
  refine lv_aload_n (pc := 0) hx hb dX11_tells_0 rfl (lv_at hl 0 rfl) ?_
  refine lv_iload_n (pc := 1) hx hb dX11_tells_1 rfl (lv_at hl 1 rfl) ?_
  obtain ⟨v1, ev, hs⟩ := q_cal hs
  refine q_callV (pc := 2) (q := 72) (As := [.int a1]) (rest := []) (rs := [.int v1]) hx hb hml hl.1 hts hown hK hSt hN hw (c_X11_isMask l G a1 h v1 ev) rfl rfl cv_X11_314 (rm_ok hR (by decide)) rfl (Nat.le_of_ble_eq_true rfl) rfl rfl dX11_tells_2 (fun H locs hw => ?_)
  refine q_join0 (P0 := ∀ (H : Heap) (locs : List Loc), IW G s h H locs → ∀ ls : Array Slot, lv_has ls 6 [(0, .ref (G.2.2.1 72))] → W p l e R s m args below meth c H locs 0 0 Q (F0 m 24 ls [])) hs ?_ ?_
  · intro  hs H locs hw ls hl
    refine lv_aload_n (pc := 24) hx hb dX11_tells_24 rfl (lv_at hl 0 rfl) ?_
    refine lv_ldc (pc := 25) (v := (iI (-1000000001))) hx hb hown (hts _ ki_X11_78) dX11_tells_25 ?_
    obtain ⟨v3, h4, ev, hs⟩ := q_cal2 hs
    refine q_callV (pc := 27) (q := 72) (As := [.int (iI (-1000000001))]) (rest := []) (rs := [.int v3]) hx hb hml hl.1 hts hown hK hSt hN hw (c_X11_errs l G (iI (-1000000001)) h v3 h4 ev) rfl rfl cv_X11_79 (rm_ok hR (by decide)) rfl (Nat.le_of_ble_eq_true rfl) rfl rfl dX11_tells_27 (fun H locs hw => ?_)
    exact q_iretW hret dX11_tells_30 hw hs
  · intro K2 hK2 hs
    refine lv_if_eq (pc := 5) (tgt := 24) hx hb dX11_tells_5 (by decide) (fun hc => ?_) (fun hc => ?_)
    · replace hs := q_t hc hs
      exact hK2 hs _ _ hw _ (lv_sub hl [0] rfl)
    · replace hs := q_f hc hs
      refine lv_iload_n (pc := 8) hx hb dX11_tells_8 rfl (lv_at hl 2 rfl) ?_
      obtain ⟨v5, ev, hs⟩ := q_cal hs
      refine q_callS (pc := 9) (As := [.int a2]) (rest := []) (rs := [.int v5]) hx hb hml hl.1 hts hown hK hSt hN hw (c_X11_isSheet l G a2 h v5 ev) cs_X11_333 (rm_ok hR (by decide)) rfl (Nat.le_of_ble_eq_true rfl) rfl rfl dX11_tells_9 (fun H locs hw => ?_)
      refine lv_if_eq (pc := 12) (tgt := 24) hx hb dX11_tells_12 (by decide) (fun hc => ?_) (fun hc => ?_)
      · replace hs := q_t hc hs
        exact hK2 hs _ _ hw _ (lv_sub hl [0] rfl)
      · replace hs := q_f hc hs
        refine lv_iload_n (pc := 15) hx hb dX11_tells_15 rfl (lv_at hl 3 rfl) ?_
        refine lv_iconst (pc := 16) (v := (iI 0)) hx hb dX11_tells_16 rfl ?_
        refine lv_iconst (pc := 17) (v := (iI 1)) hx hb dX11_tells_17 rfl ?_
        obtain ⟨v6, ev, hs⟩ := q_cal hs
        refine q_callS (pc := 18) (As := [.int a3, .int (iI 0), .int (iI 1)]) (rest := []) (rs := [.int v6]) hx hb hml hl.1 hts hown hK hSt hN hw (c_X11_in l G a3 (iI 0) (iI 1) h v6 ev) cs_X11_71 (rm_ok hR (by decide)) rfl (Nat.le_of_ble_eq_true rfl) rfl rfl dX11_tells_18 (fun H locs hw => ?_)
        refine lv_if_ne (pc := 21) (tgt := 31) hx hb dX11_tells_21 (by decide) (fun hc => ?_) (fun hc => ?_)
        · replace hs := q_t hc hs
          refine lv_aload_n (pc := 31) hx hb dX11_tells_31 rfl (lv_at hl 0 rfl) ?_
          refine lv_iload_n (pc := 32) hx hb dX11_tells_32 rfl (lv_at hl 2 rfl) ?_
          obtain ⟨v7, ev, hs⟩ := q_cal hs
          refine q_callV (pc := 33) (q := 72) (As := [.int a2]) (rest := []) (rs := [.int v7]) hx hb hml hl.1 hts hown hK hSt hN hw (c_X11_areLetters l G a2 h v7 ev) rfl rfl cv_X11_336 (rm_ok hR (by decide)) rfl (Nat.le_of_ble_eq_true rfl) rfl rfl dX11_tells_33 (fun H locs hw => ?_)
          refine lv_if_ne (pc := 36) (tgt := 46) hx hb dX11_tells_36 (by decide) (fun hc => ?_) (fun hc => ?_)
          · replace hs := q_t hc hs
            refine lv_aload_n (pc := 46) hx hb dX11_tells_46 rfl (lv_at hl 0 rfl) ?_
            refine lv_iload_n (pc := 47) hx hb dX11_tells_47 rfl (lv_at hl 1 rfl) ?_
            obtain ⟨h8, ev, hs⟩ := q_cal hs
            refine q_callV (pc := 48) (q := 72) (As := [.int a1]) (rest := []) (rs := []) hx hb hml hl.1 hts hown hK hSt hN hw (c_X11_findUnknown l G a1 h h8 ev) rfl rfl cv_X11_320 (rm_ok hR (by decide)) rfl (Nat.le_of_ble_eq_true rfl) rfl rfl dX11_tells_48 (fun H locs hw => ?_)
            refine lv_aload_n (pc := 51) hx hb dX11_tells_51 rfl (lv_at hl 0 rfl) ?_
            refine lv_iload_n (pc := 52) hx hb dX11_tells_52 rfl (lv_at hl 2 rfl) ?_
            obtain ⟨v9, h10, ev, hs⟩ := q_cal2 hs
            refine q_callV (pc := 53) (q := 72) (As := [.int a2]) (rest := []) (rs := [.int v9]) hx hb hml hl.1 hts hown hK hSt hN hw (c_X11_findFits l G a2 h8 v9 h10 ev) rfl rfl cv_X11_339 (rm_ok hR (by decide)) rfl (Nat.le_of_ble_eq_true rfl) rfl rfl dX11_tells_53 (fun H locs hw => ?_)
            refine lv_if_ne (pc := 56) (tgt := 66) hx hb dX11_tells_56 (by decide) (fun hc => ?_) (fun hc => ?_)
            · replace hs := q_t hc hs
              refine lv_iconst (pc := 66) (v := (iI 0)) hx hb dX11_tells_66 rfl ?_
              refine lv_istore (pc := 67) (lv' := [(4, .int (iI 0)), (0, .ref (G.2.2.1 72)), (1, .int a1), (2, .int a2), (3, .int a3)]) hx hb dX11_tells_67 hl (by decide) rfl (fun ls hl => ?_)
              refine lv_iconst (pc := 69) (v := (iI 1)) hx hb dX11_tells_69 rfl ?_
              refine lv_istore (pc := 70) (lv' := [(5, .int (iI 1)), (4, .int (iI 0)), (0, .ref (G.2.2.1 72)), (1, .int a1), (2, .int a2), (3, .int a3)]) hx hb dX11_tells_70 hl (by decide) rfl (fun ls hl => ?_)
              refine (q_lo2 (P0 := fun (x11 : Int32) (x12 : Int32) => ∀ (H : Heap) (locs : List Loc), IW G s h10 H locs → ∀ ls : Array Slot, lv_has ls 6 [(0, .ref (G.2.2.1 72)), (3, .int a3), (4, .int x11), (5, .int x12)] → W p l e R s m args below meth c H locs 0 0 Q (F0 m 72 ls [])) hs ?_) _ _ hw _ (lv_sub hl [2, 5, 1, 0] rfl)
              intro K13 hK13 x11 x12 hs H locs hw ls hl
              unfold f_X11_tells_k13 at hs
              refine lv_iload (pc := 72) hx hb dX11_tells_72 (lv_at hl 3 rfl) ?_
              refine lv_aload_n (pc := 74) hx hb dX11_tells_74 rfl (lv_at hl 0 rfl) ?_
              obtain ⟨v14, ev, hs⟩ := q_cal hs
              refine q_callV (pc := 75) (q := 72) (As := []) (rest := [.int x12]) (rs := [.int v14, .int x12]) hx hb hml hl.1 hts hown hK hSt hN hw (c_X11_windows l G h10 v14 ev) rfl rfl cv_X11_75 (rm_ok hR (by decide)) rfl (Nat.le_of_ble_eq_true rfl) rfl rfl dX11_tells_75 (fun H locs hw => ?_)
              refine lv_icmp_ge (pc := 78) (tgt := 119) hx hb dX11_tells_78 (by decide) (fun hc => ?_) (fun hc => ?_)
              · replace hs := q_t hc hs
                refine lv_iload_n (pc := 119) hx hb dX11_tells_119 rfl (lv_at hl 1 rfl) ?_
                refine lv_if_ne (pc := 120) (tgt := 128) hx hb dX11_tells_120 (by decide) (fun hc => ?_) (fun hc => ?_)
                · replace hs := q_t hc hs
                  refine lv_aload_n (pc := 128) hx hb dX11_tells_128 rfl (lv_at hl 0 rfl) ?_
                  refine q_getR (pc := 129) (q := 72) (o := 15) hx hb hts hown hK hw rfl fg_X11_60 dX11_tells_129 ?_
                  refine lv_iload (pc := 132) hx hb dX11_tells_132 (lv_at hl 2 rfl) ?_
                  refine q_ald (pc := 134) (q := 87) (n := 20) hx hb hK hw rfl dX11_tells_134 hs (fun v15 hs => ?_)
                  obtain ⟨v16, ev, hs⟩ := q_cal hs
                  refine q_callS (pc := 135) (As := [.int v15]) (rest := []) (rs := [.int v16]) hx hb hml hl.1 hts hown hK hSt hN hw (c_X11_bits l G v15 h10 v16 ev) cs_X11_192 (rm_ok hR (by decide)) rfl (Nat.le_of_ble_eq_true rfl) rfl rfl dX11_tells_135 (fun H locs hw => ?_)
                  exact q_iretW hret dX11_tells_138 hw hs
                · replace hs := q_f (fun z => z hc) hs
                  refine lv_iload (pc := 123) hx hb dX11_tells_123 (lv_at hl 2 rfl) ?_
                  refine lv_goto (pc := 125) (tgt := 138) hx hb dX11_tells_125 (by decide) ?_
                  exact q_iretW hret dX11_tells_138 hw hs
              · replace hs := q_f hc hs
                refine lv_aload_n (pc := 81) hx hb dX11_tells_81 rfl (lv_at hl 0 rfl) ?_
                refine q_getR (pc := 82) (q := 72) (o := 15) hx hb hts hown hK hw rfl fg_X11_60 dX11_tells_82 ?_
                refine lv_iload (pc := 85) hx hb dX11_tells_85 (lv_at hl 3 rfl) ?_
                refine q_ald (pc := 87) (q := 87) (n := 20) hx hb hK hw rfl dX11_tells_87 hs (fun v17 hs => ?_)
                obtain ⟨v18, ev, hs⟩ := q_cal hs
                refine q_callS (pc := 88) (As := [.int v17]) (rest := []) (rs := [.int v18]) hx hb hml hl.1 hts hown hK hSt hN hw (c_X11_bits l G v17 h10 v18 ev) cs_X11_192 (rm_ok hR (by decide)) rfl (Nat.le_of_ble_eq_true rfl) rfl rfl dX11_tells_88 (fun H locs hw => ?_)
                refine lv_aload_n (pc := 91) hx hb dX11_tells_91 rfl (lv_at hl 0 rfl) ?_
                refine q_getR (pc := 92) (q := 72) (o := 15) hx hb hts hown hK hw rfl fg_X11_60 dX11_tells_92 ?_
                refine lv_iload (pc := 95) hx hb dX11_tells_95 (lv_at hl 2 rfl) ?_
                refine q_ald (pc := 97) (q := 87) (n := 20) hx hb hK hw rfl dX11_tells_97 hs (fun v19 hs => ?_)
                obtain ⟨v20, ev, hs⟩ := q_cal hs
                refine q_callS (pc := 98) (As := [.int v19]) (rest := [.int v18]) (rs := [.int v20, .int v18]) hx hb hml hl.1 hts hown hK hSt hN hw (c_X11_bits l G v19 h10 v20 ev) cs_X11_192 (rm_ok hR (by decide)) rfl (Nat.le_of_ble_eq_true rfl) rfl rfl dX11_tells_98 (fun H locs hw => ?_)
                refine q_join1 (P0 := fun (x21 : Int32) => ∀ (H : Heap) (locs : List Loc), IW G s h10 H locs → ∀ ls : Array Slot, lv_has ls 6 [(0, .ref (G.2.2.1 72)), (3, .int a3), (5, .int x12)] → W p l e R s m args below meth c H locs 0 0 Q (F0 m 111 ls [.int x21])) hs ?_ ?_
                · intro x21 hs H locs hw ls hl
                  refine lv_istore (pc := 111) (lv' := [(4, .int x21), (0, .ref (G.2.2.1 72)), (3, .int a3), (5, .int x12)]) hx hb dX11_tells_111 hl (by decide) rfl (fun ls hl => ?_)
                  obtain ⟨x23, ex23, hs⟩ := q_nm hs
                  refine lv_iinc (pc := 113) (v := x23) (lv' := [(5, .int x23), (4, .int x21), (0, .ref (G.2.2.1 72)), (3, .int a3)]) hx hb dX11_tells_113 hl (k := 3) rfl ex23 (by decide) rfl (fun ls hl => ?_)
                  refine lv_goto (pc := 116) (tgt := 72) hx hb dX11_tells_116 (by decide) ?_
                  exact hK13 _ _ hs _ _ hw _ (lv_sub hl [2, 3, 1, 0] rfl)
                · intro K22 hK22 hs
                  refine lv_icmp_le (pc := 101) (tgt := 109) hx hb dX11_tells_101 (by decide) (fun hc => ?_) (fun hc => ?_)
                  · replace hs := q_t hc hs
                    refine lv_iload (pc := 109) hx hb dX11_tells_109 (lv_at hl 2 rfl) ?_
                    exact hK22 _ hs _ _ hw _ (lv_sub hl [0, 1, 3] rfl)
                  · replace hs := q_f hc hs
                    refine lv_iload (pc := 104) hx hb dX11_tells_104 (lv_at hl 3 rfl) ?_
                    refine lv_goto (pc := 106) (tgt := 111) hx hb dX11_tells_106 (by decide) ?_
                    exact hK22 _ hs _ _ hw _ (lv_sub hl [0, 1, 3] rfl)
            · replace hs := q_f (fun z => z hc) hs
              refine lv_aload_n (pc := 59) hx hb dX11_tells_59 rfl (lv_at hl 0 rfl) ?_
              refine lv_ldc (pc := 60) (v := (iI (-1000000002))) hx hb hown (hts _ ki_X11_195) dX11_tells_60 ?_
              obtain ⟨v24, h25, ev, hs⟩ := q_cal2 hs
              refine q_callV (pc := 62) (q := 72) (As := [.int (iI (-1000000002))]) (rest := []) (rs := [.int v24]) hx hb hml hl.1 hts hown hK hSt hN hw (c_X11_errs l G (iI (-1000000002)) h10 v24 h25 ev) rfl rfl cv_X11_79 (rm_ok hR (by decide)) rfl (Nat.le_of_ble_eq_true rfl) rfl rfl dX11_tells_62 (fun H locs hw => ?_)
              exact q_iretW hret dX11_tells_65 hw hs
          · replace hs := q_f (fun z => z hc) hs
            refine lv_aload_n (pc := 39) hx hb dX11_tells_39 rfl (lv_at hl 0 rfl) ?_
            refine lv_ldc (pc := 40) (v := (iI (-1000000002))) hx hb hown (hts _ ki_X11_195) dX11_tells_40 ?_
            obtain ⟨v26, h27, ev, hs⟩ := q_cal2 hs
            refine q_callV (pc := 42) (q := 72) (As := [.int (iI (-1000000002))]) (rest := []) (rs := [.int v26]) hx hb hml hl.1 hts hown hK hSt hN hw (c_X11_errs l G (iI (-1000000002)) h v26 h27 ev) rfl rfl cv_X11_79 (rm_ok hR (by decide)) rfl (Nat.le_of_ble_eq_true rfl) rfl rfl dX11_tells_42 (fun H locs hw => ?_)
            exact q_iretW hret dX11_tells_45 hw hs
        · replace hs := q_f (fun z => z hc) hs
          exact hK2 hs _ _ hw _ (lv_sub hl [0] rfl)

set_option maxHeartbeats 4000000 in
set_option maxRecDepth 100000 in
theorem c_X11_longest (l : Launch) (G : GG) (a1 : Int32) (h : Mem) (v : Int32) (h' : Mem) (hs : f_X11_longest h a1 = some (v, h')) : Sat l G yX11_longest cX11_longest 7 (some .int) 5 [.ref (G.2.2.1 72), .int a1] h (some (.int v)) h' := by
  refine Sat.mkI (by decide) (Nat.le_of_ble_eq_true rfl) ?_
  intro p e R s m args below meth c Q F hret hw ls hl
  obtain ⟨hx, hb, hml, hown, hts, hK, hSt, hN, hR⟩ := F
  have hl : lv_has ls 7 [(0, .ref (G.2.2.1 72)), (1, .int a1)] := hl
  unfold f_X11_longest at hs
  refine lv_iload_n (pc := 0) hx hb dX11_longest_0 rfl (lv_at hl 1 rfl) ?_
  refine lv_iconst (pc := 1) (v := (iI 0)) hx hb dX11_longest_1 rfl ?_
  refine lv_iconst (pc := 2) (v := (iI 1)) hx hb dX11_longest_2 rfl ?_
  obtain ⟨v1, ev, hs⟩ := q_cal hs
  refine q_callS (pc := 3) (As := [.int a1, .int (iI 0), .int (iI 1)]) (rest := []) (rs := [.int v1]) hx hb hml hl.1 hts hown hK hSt hN hw (c_X11_in l G a1 (iI 0) (iI 1) h v1 ev) cs_X11_71 (rm_ok hR (by decide)) rfl (Nat.le_of_ble_eq_true rfl) rfl rfl dX11_longest_3 (fun H locs hw => ?_)
  refine lv_if_ne (pc := 6) (tgt := 16) hx hb dX11_longest_6 (by decide) (fun hc => ?_) (fun hc => ?_)
  · replace hs := q_t hc hs
    refine lv_aload_n (pc := 16) hx hb dX11_longest_16 rfl (lv_at hl 0 rfl) ?_
    refine lv_aload_n (pc := 17) hx hb dX11_longest_17 rfl (lv_at hl 0 rfl) ?_
    refine q_getR (pc := 18) (q := 72) (o := 1) hx hb hts hown hK hw rfl fg_X11_7 dX11_longest_18 ?_
    refine lv_aload_n (pc := 21) hx hb dX11_longest_21 rfl (lv_at hl 0 rfl) ?_
    refine q_getR (pc := 22) (q := 72) (o := 3) hx hb hts hown hK hw rfl fg_X11_16 dX11_longest_22 ?_
    obtain ⟨h2, ev, hs⟩ := q_cal hs
    refine q_callV (pc := 25) (q := 72) (As := [.ref (G.2.2.1 73), .ref (G.2.2.1 75)]) (rest := []) (rs := []) hx hb hml hl.1 hts hown hK hSt hN hw (c_X11_moveAll l G 73 305 rfl 75 305 rfl h h2 ev) rfl rfl cv_X11_188 (rm_ok hR (by decide)) rfl (Nat.le_of_ble_eq_true rfl) rfl rfl dX11_longest_25 (fun H locs hw => ?_)
    refine lv_iconst (pc := 28) (v := (iI 0)) hx hb dX11_longest_28 rfl ?_
    refine lv_istore_n (pc := 29) (lv' := [(2, .int (iI 0)), (0, .ref (G.2.2.1 72)), (1, .int a1)]) hx hb dX11_longest_29 rfl hl (by decide) rfl (fun ls hl => ?_)
    refine lv_iconst (pc := 30) (v := (iI 0)) hx hb dX11_longest_30 rfl ?_
    refine lv_istore_n (pc := 31) (lv' := [(3, .int (iI 0)), (2, .int (iI 0)), (0, .ref (G.2.2.1 72)), (1, .int a1)]) hx hb dX11_longest_31 rfl hl (by decide) rfl (fun ls hl => ?_)
    refine lv_iconst (pc := 32) (v := (iI 0)) hx hb dX11_longest_32 rfl ?_
    refine lv_istore (pc := 33) (lv' := [(4, .int (iI 0)), (3, .int (iI 0)), (2, .int (iI 0)), (0, .ref (G.2.2.1 72)), (1, .int a1)]) hx hb dX11_longest_33 hl (by decide) rfl (fun ls hl => ?_)
    refine (q_lo4 (P0 := fun (x3 : Int32) (x4 : Int32) (x5 : Int32) (h6 : Mem) => ∀ (H : Heap) (locs : List Loc), IW G s h6 H locs → ∀ ls : Array Slot, lv_has ls 7 [(0, .ref (G.2.2.1 72)), (1, .int a1), (2, .int x3), (3, .int x4), (4, .int x5)] → W p l e R s m args below meth c H locs 0 0 Q (F0 m 35 ls [])) hs ?_) _ _ hw _ (lv_sub hl [3, 4, 2, 1, 0] rfl)
    intro K7 hK7 x3 x4 x5 h6 hs H locs hw ls hl
    unfold f_X11_longest_k7 at hs
    refine lv_iload (pc := 35) hx hb dX11_longest_35 (lv_at hl 4 rfl) ?_
    refine lv_aload_n (pc := 37) hx hb dX11_longest_37 rfl (lv_at hl 0 rfl) ?_
    obtain ⟨v8, ev, hs⟩ := q_cal hs
    refine q_callV (pc := 38) (q := 72) (As := []) (rest := [.int x5]) (rs := [.int v8, .int x5]) hx hb hml hl.1 hts hown hK hSt hN hw (c_X11_windows l G h6 v8 ev) rfl rfl cv_X11_75 (rm_ok hR (by decide)) rfl (Nat.le_of_ble_eq_true rfl) rfl rfl dX11_longest_38 (fun H locs hw => ?_)
    refine lv_icmp_ge (pc := 41) (tgt := 116) hx hb dX11_longest_41 (by decide) (fun hc => ?_) (fun hc => ?_)
    · replace hs := q_t hc hs
      refine lv_iload_n (pc := 116) hx hb dX11_longest_116 rfl (lv_at hl 1 rfl) ?_
      refine lv_if_ne (pc := 117) (tgt := 124) hx hb dX11_longest_117 (by decide) (fun hc => ?_) (fun hc => ?_)
      · replace hs := q_t hc hs
        refine lv_iload_n (pc := 124) hx hb dX11_longest_124 rfl (lv_at hl 3 rfl) ?_
        exact q_iretW hret dX11_longest_125 hw hs
      · replace hs := q_f (fun z => z hc) hs
        refine lv_iload_n (pc := 120) hx hb dX11_longest_120 rfl (lv_at hl 2 rfl) ?_
        refine lv_goto (pc := 121) (tgt := 125) hx hb dX11_longest_121 (by decide) ?_
        exact q_iretW hret dX11_longest_125 hw hs
    · replace hs := q_f hc hs
      refine lv_aload_n (pc := 44) hx hb dX11_longest_44 rfl (lv_at hl 0 rfl) ?_
      refine lv_iload (pc := 45) hx hb dX11_longest_45 (lv_at hl 4 rfl) ?_
      obtain ⟨v9, h10, ev, hs⟩ := q_cal2 hs
      refine q_callV (pc := 47) (q := 72) (As := [.int x5]) (rest := []) (rs := [.int v9]) hx hb hml hl.1 hts hown hK hSt hN hw (c_X11_goes l G x5 h6 v9 h10 ev) rfl rfl cv_X11_179 (rm_ok hR (by decide)) rfl (Nat.le_of_ble_eq_true rfl) rfl rfl dX11_longest_47 (fun H locs hw => ?_)
      refine lv_istore (pc := 50) (lv' := [(5, .int v9), (0, .ref (G.2.2.1 72)), (1, .int a1), (2, .int x3), (3, .int x4), (4, .int x5)]) hx hb dX11_longest_50 hl (by decide) rfl (fun ls hl => ?_)
      refine lv_iload (pc := 52) hx hb dX11_longest_52 (lv_at hl 0 rfl) ?_
      refine q_join1 (P0 := fun (x11 : Int32) => ∀ (H : Heap) (locs : List Loc), IW G s h10 H locs → ∀ ls : Array Slot, lv_has ls 7 [(0, .ref (G.2.2.1 72)), (1, .int a1), (2, .int x3), (3, .int x4), (4, .int x5)] → W p l e R s m args below meth c H locs 0 0 Q (F0 m 70 ls [.int x11])) hs ?_ ?_
      · intro x11 hs H locs hw ls hl
        refine lv_istore (pc := 70) (lv' := [(6, .int x11), (0, .ref (G.2.2.1 72)), (1, .int a1), (2, .int x3), (3, .int x4), (4, .int x5)]) hx hb dX11_longest_70 hl (by decide) rfl (fun ls hl => ?_)
        refine lv_iload (pc := 72) hx hb dX11_longest_72 (lv_at hl 0 rfl) ?_
        refine q_join1 (P0 := fun (x13 : Int32) => ∀ (H : Heap) (locs : List Loc), IW G s h10 H locs → ∀ ls : Array Slot, lv_has ls 7 [(0, .ref (G.2.2.1 72)), (1, .int a1), (3, .int x4), (4, .int x5), (6, .int x11)] → W p l e R s m args below meth c H locs 0 0 Q (F0 m 83 ls [.int x13])) hs ?_ ?_
        · intro x13 hs H locs hw ls hl
          unfold f_X11_longest_k14 at hs
          refine lv_istore_n (pc := 83) (lv' := [(2, .int x13), (0, .ref (G.2.2.1 72)), (1, .int a1), (3, .int x4), (4, .int x5), (6, .int x11)]) hx hb dX11_longest_83 rfl hl (by decide) rfl (fun ls hl => ?_)
          refine lv_iload (pc := 84) hx hb dX11_longest_84 (lv_at hl 5 rfl) ?_
          refine q_join1 (P0 := fun (x15 : Int32) => ∀ (H : Heap) (locs : List Loc), IW G s h10 H locs → ∀ ls : Array Slot, lv_has ls 7 [(0, .ref (G.2.2.1 72)), (1, .int a1), (2, .int x13), (4, .int x5)] → W p l e R s m args below meth c H locs 0 0 Q (F0 m 97 ls [.int x15])) hs ?_ ?_
          · intro x15 hs H locs hw ls hl
            refine lv_istore_n (pc := 97) (lv' := [(3, .int x15), (0, .ref (G.2.2.1 72)), (1, .int a1), (2, .int x13), (4, .int x5)]) hx hb dX11_longest_97 rfl hl (by decide) rfl (fun ls hl => ?_)
            refine lv_aload_n (pc := 98) hx hb dX11_longest_98 rfl (lv_at hl 1 rfl) ?_
            refine lv_aload_n (pc := 99) hx hb dX11_longest_99 rfl (lv_at hl 1 rfl) ?_
            refine q_getR (pc := 100) (q := 72) (o := 3) hx hb hts hown hK hw rfl fg_X11_16 dX11_longest_100 ?_
            refine lv_aload_n (pc := 103) hx hb dX11_longest_103 rfl (lv_at hl 1 rfl) ?_
            refine q_getR (pc := 104) (q := 72) (o := 1) hx hb hts hown hK hw rfl fg_X11_7 dX11_longest_104 ?_
            obtain ⟨h17, ev, hs⟩ := q_cal hs
            refine q_callV (pc := 107) (q := 72) (As := [.ref (G.2.2.1 75), .ref (G.2.2.1 73)]) (rest := []) (rs := []) hx hb hml hl.1 hts hown hK hSt hN hw (c_X11_moveAll l G 75 305 rfl 73 305 rfl h10 h17 ev) rfl rfl cv_X11_188 (rm_ok hR (by decide)) rfl (Nat.le_of_ble_eq_true rfl) rfl rfl dX11_longest_107 (fun H locs hw => ?_)
            obtain ⟨x18, ex18, hs⟩ := q_nm hs
            refine lv_iinc (pc := 110) (v := x18) (lv' := [(4, .int x18), (3, .int x15), (0, .ref (G.2.2.1 72)), (1, .int a1), (2, .int x13)]) hx hb dX11_longest_110 hl (k := 4) rfl ex18 (by decide) rfl (fun ls hl => ?_)
            refine lv_goto (pc := 113) (tgt := 35) hx hb dX11_longest_113 (by decide) ?_
            exact hK7 _ _ _ _ hs _ _ hw _ (lv_sub hl [2, 3, 4, 1, 0] rfl)
          · intro K16 hK16 hs
            refine lv_if_eq (pc := 86) (tgt := 96) hx hb dX11_longest_86 (by decide) (fun hc => ?_) (fun hc => ?_)
            · replace hs := q_t hc hs
              refine lv_iload_n (pc := 96) hx hb dX11_longest_96 rfl (lv_at hl 3 rfl) ?_
              exact hK16 _ hs _ _ hw _ (lv_sub hl [1, 2, 0, 4] rfl)
            · replace hs := q_f hc hs
              refine lv_aload_n (pc := 89) hx hb dX11_longest_89 rfl (lv_at hl 1 rfl) ?_
              refine q_getI (pc := 90) (q := 72) hx hb hts hown hK hw rfl fg_X11_135 dX11_longest_90 ?_
              refine lv_goto (pc := 93) (tgt := 97) hx hb dX11_longest_93 (by decide) ?_
              exact hK16 _ hs _ _ hw _ (lv_sub hl [1, 2, 0, 4] rfl)
        · intro K14 hK14 hs
          refine lv_if_eq (pc := 74) (tgt := 82) hx hb dX11_longest_74 (by decide) (fun hc => ?_) (fun hc => ?_)
          · replace hs := q_t hc hs
            refine lv_iload_n (pc := 82) hx hb dX11_longest_82 rfl (lv_at hl 3 rfl) ?_
            exact hK14 _ hs _ _ hw _ (lv_sub hl [1, 2, 4, 5, 0] rfl)
          · replace hs := q_f hc hs
            refine lv_iload (pc := 77) hx hb dX11_longest_77 (lv_at hl 5 rfl) ?_
            refine lv_goto (pc := 79) (tgt := 83) hx hb dX11_longest_79 (by decide) ?_
            exact hK14 _ hs _ _ hw _ (lv_sub hl [1, 2, 4, 5, 0] rfl)
      · intro K12 hK12 hs
        refine q_join0 (P0 := ∀ (H : Heap) (locs : List Loc), IW G s h10 H locs → ∀ ls : Array Slot, lv_has ls 7 [(0, .ref (G.2.2.1 72)), (1, .int a1), (2, .int x3), (3, .int x4), (4, .int x5)] → W p l e R s m args below meth c H locs 0 0 Q (F0 m 69 ls [])) hs ?_ ?_
        · intro  hs H locs hw ls hl
          refine lv_iconst (pc := 69) (v := (iI 0)) hx hb dX11_longest_69 rfl ?_
          exact hK12 _ hs _ _ hw _ (lv_sub hl [0, 1, 2, 3, 4] rfl)
        · intro K19 hK19 hs
          refine lv_if_lt (pc := 54) (tgt := 69) hx hb dX11_longest_54 (by decide) (fun hc => ?_) (fun hc => ?_)
          · replace hs := q_t hc hs
            exact hK19 hs _ _ hw _ (lv_sub hl [1, 2, 3, 4, 5] rfl)
          · replace hs := q_f hc hs
            refine lv_aload_n (pc := 57) hx hb dX11_longest_57 rfl (lv_at hl 1 rfl) ?_
            refine q_getI (pc := 58) (q := 72) hx hb hts hown hK hw rfl fg_X11_135 dX11_longest_58 ?_
            refine lv_iload_n (pc := 61) hx hb dX11_longest_61 rfl (lv_at hl 4 rfl) ?_
            refine lv_icmp_le (pc := 62) (tgt := 69) hx hb dX11_longest_62 (by decide) (fun hc => ?_) (fun hc => ?_)
            · replace hs := q_t hc hs
              exact hK19 hs _ _ hw _ (lv_sub hl [1, 2, 3, 4, 5] rfl)
            · replace hs := q_f hc hs
              refine lv_iconst (pc := 65) (v := (iI 1)) hx hb dX11_longest_65 rfl ?_
              refine lv_goto (pc := 66) (tgt := 70) hx hb dX11_longest_66 (by decide) ?_
              exact hK12 _ hs _ _ hw _ (lv_sub hl [1, 2, 3, 4, 5] rfl)
  · replace hs := q_f (fun z => z hc) hs
    refine lv_aload_n (pc := 9) hx hb dX11_longest_9 rfl (lv_at hl 0 rfl) ?_
    refine lv_ldc (pc := 10) (v := (iI (-1000000001))) hx hb hown (hts _ ki_X11_78) dX11_longest_10 ?_
    obtain ⟨v20, h21, ev, hs⟩ := q_cal2 hs
    refine q_callV (pc := 12) (q := 72) (As := [.int (iI (-1000000001))]) (rest := []) (rs := [.int v20]) hx hb hml hl.1 hts hown hK hSt hN hw (c_X11_errs l G (iI (-1000000001)) h v20 h21 ev) rfl rfl cv_X11_79 (rm_ok hR (by decide)) rfl (Nat.le_of_ble_eq_true rfl) rfl rfl dX11_longest_12 (fun H locs hw => ?_)
    exact q_iretW hret dX11_longest_15 hw hs

set_option maxHeartbeats 4000000 in
theorem c_X11_drawn (l : Launch) (G : GG) (a1 : Int32) (h : Mem) (v : Int32) (h' : Mem) (hs : f_X11_drawn h a1 = some (v, h')) : Sat l G yX11_drawn cX11_drawn 2 (some .int) 0 [.ref (G.2.2.1 72), .int a1] h (some (.int v)) h' := by
  refine Sat.mkI (by decide) (Nat.le_of_ble_eq_true rfl) ?_
  intro p e R s m args below meth c Q F hret hw ls hl
  obtain ⟨hx, hb, hml, hown, hts, hK, hSt, hN, hR⟩ := F
  have hl : lv_has ls 2 [(0, .ref (G.2.2.1 72)), (1, .int a1)] := hl
  unfold f_X11_drawn at hs
  refine lv_aload_n (pc := 0) hx hb dX11_drawn_0 rfl (lv_at hl 0 rfl) ?_
  refine q_getR (pc := 1) (q := 72) (o := 1) hx hb hts hown hK hw rfl fg_X11_7 dX11_drawn_1 ?_
  refine lv_iconst (pc := 4) (v := (iI 4)) hx hb dX11_drawn_4 rfl ?_
  refine lv_aload_n (pc := 5) hx hb dX11_drawn_5 rfl (lv_at hl 0 rfl) ?_
  refine q_getR (pc := 6) (q := 72) (o := 1) hx hb hts hown hK hw rfl fg_X11_7 dX11_drawn_6 ?_
  refine lv_iconst (pc := 9) (v := (iI 4)) hx hb dX11_drawn_9 rfl ?_
  refine q_ald (pc := 10) (q := 73) (n := 305) hx hb hK hw rfl dX11_drawn_10 hs (fun v1 hs => ?_)
  refine lv_ldcw (pc := 11) (v := (iI 1103515245)) hx hb hown (hts _ ki_X11_342) dX11_drawn_11 ?_
  refine lv_imul (pc := 14) hx hb dX11_drawn_14 ?_
  refine lv_sipush (pc := 15) (v := (iI 12345)) hx hb dX11_drawn_15 (by decide) ?_
  refine lv_iadd (pc := 18) hx hb dX11_drawn_18 ?_
  refine q_ast (pc := 19) (q := 73) (n := 305) hx hb hK hw rfl dX11_drawn_19 hs (fun h2 H locs hw hs => ?_)
  refine lv_aload_n (pc := 20) hx hb dX11_drawn_20 rfl (lv_at hl 0 rfl) ?_
  refine q_getR (pc := 21) (q := 72) (o := 1) hx hb hts hown hK hw rfl fg_X11_7 dX11_drawn_21 ?_
  refine lv_iconst (pc := 24) (v := (iI 4)) hx hb dX11_drawn_24 rfl ?_
  refine q_ald (pc := 25) (q := 73) (n := 305) hx hb hK hw rfl dX11_drawn_25 hs (fun v3 hs => ?_)
  refine lv_bipush (pc := 26) (v := (iI 8)) hx hb dX11_drawn_26 (by decide) ?_
  refine lv_iushr (pc := 28) (v := (ushI v3 (iI 8))) hx hb dX11_drawn_28 rfl ?_
  refine lv_iload_n (pc := 29) hx hb dX11_drawn_29 rfl (lv_at hl 1 rfl) ?_
  obtain ⟨hne, hs⟩ := q_nz hs
  refine q_irem (pc := 30) hx hb dX11_drawn_30 hne ?_
  exact q_iretW hret dX11_drawn_31 hw hs

set_option maxHeartbeats 4000000 in
theorem c_X11_seed (l : Launch) (G : GG) (a1 : Int32) (h : Mem) (v : Int32) (h' : Mem) (hs : f_X11_seed h a1 = some (v, h')) : Sat l G yX11_seed cX11_seed 3 (some .int) 0 [.ref (G.2.2.1 72), .int a1] h (some (.int v)) h' := by
  refine Sat.mkI (by decide) (Nat.le_of_ble_eq_true rfl) ?_
  intro p e R s m args below meth c Q F hret hw ls hl
  obtain ⟨hx, hb, hml, hown, hts, hK, hSt, hN, hR⟩ := F
  have hl : lv_has ls 3 [(0, .ref (G.2.2.1 72)), (1, .int a1)] := hl
  unfold f_X11_seed at hs
  refine lv_aload_n (pc := 0) hx hb dX11_seed_0 rfl (lv_at hl 0 rfl) ?_
  refine q_getR (pc := 1) (q := 72) (o := 1) hx hb hts hown hK hw rfl fg_X11_7 dX11_seed_1 ?_
  refine lv_iconst (pc := 4) (v := (iI 4)) hx hb dX11_seed_4 rfl ?_
  refine q_ald (pc := 5) (q := 73) (n := 305) hx hb hK hw rfl dX11_seed_5 hs (fun v1 hs => ?_)
  refine lv_istore_n (pc := 6) (lv' := [(2, .int v1), (0, .ref (G.2.2.1 72)), (1, .int a1)]) hx hb dX11_seed_6 rfl hl (by decide) rfl (fun ls hl => ?_)
  refine lv_aload_n (pc := 7) hx hb dX11_seed_7 rfl (lv_at hl 1 rfl) ?_
  refine q_getR (pc := 8) (q := 72) (o := 1) hx hb hts hown hK hw rfl fg_X11_7 dX11_seed_8 ?_
  refine lv_iconst (pc := 11) (v := (iI 4)) hx hb dX11_seed_11 rfl ?_
  refine lv_iload_n (pc := 12) hx hb dX11_seed_12 rfl (lv_at hl 2 rfl) ?_
  refine q_ast (pc := 13) (q := 73) (n := 305) hx hb hK hw rfl dX11_seed_13 hs (fun h2 H locs hw hs => ?_)
  refine lv_iload_n (pc := 14) hx hb dX11_seed_14 rfl (lv_at hl 0 rfl) ?_
  exact q_iretW hret dX11_seed_15 hw hs

set_option maxHeartbeats 4000000 in
theorem c_X11_ran (l : Launch) (G : GG) (a1 : Int32) (h : Mem) (h' : Mem) (hs : f_X11_ran h a1 = some h') : Sat l G yX11_ran cX11_ran 2 none 0 [.ref (G.2.2.1 72), .int a1] h none h' := by
  refine Sat.mkV (by decide) (Nat.le_of_ble_eq_true rfl) ?_
  intro p e R s m args below meth c Q F hret hw ls hl
  obtain ⟨hx, hb, hml, hown, hts, hK, hSt, hN, hR⟩ := F
  have hl : lv_has ls 2 [(0, .ref (G.2.2.1 72)), (1, .int a1)] := hl
  unfold f_X11_ran at hs
  refine lv_aload_n (pc := 0) hx hb dX11_ran_0 rfl (lv_at hl 0 rfl) ?_
  refine q_getI (pc := 1) (q := 72) hx hb hts hown hK hw rfl fg_X11_346 dX11_ran_1 ?_
  refine lv_bipush (pc := 4) (v := (iI 40)) hx hb dX11_ran_4 (by decide) ?_
  refine lv_icmp_ge (pc := 6) (tgt := 29) hx hb dX11_ran_6 (by decide) (fun hc => ?_) (fun hc => ?_)
  · replace hs := q_t hc hs
    exact q_vret hret dX11_ran_29 hw hs
  · replace hs := q_f hc hs
    refine lv_aload_n (pc := 9) hx hb dX11_ran_9 rfl (lv_at hl 0 rfl) ?_
    refine q_getR (pc := 10) (q := 72) (o := 16) hx hb hts hown hK hw rfl fg_X11_63 dX11_ran_10 ?_
    refine lv_aload_n (pc := 13) hx hb dX11_ran_13 rfl (lv_at hl 0 rfl) ?_
    refine q_getI (pc := 14) (q := 72) hx hb hts hown hK hw rfl fg_X11_346 dX11_ran_14 ?_
    refine lv_iload_n (pc := 17) hx hb dX11_ran_17 rfl (lv_at hl 1 rfl) ?_
    refine q_ast (pc := 18) (q := 88) (n := 40) hx hb hK hw rfl dX11_ran_18 hs (fun h1 H locs hw hs => ?_)
    refine lv_aload_n (pc := 19) hx hb dX11_ran_19 rfl (lv_at hl 0 rfl) ?_
    refine lv_dup (pc := 20) hx hb dX11_ran_20 rfl ?_
    refine q_getI (pc := 21) (q := 72) hx hb hts hown hK hw rfl fg_X11_346 dX11_ran_21 ?_
    refine lv_iconst (pc := 24) (v := (iI 1)) hx hb dX11_ran_24 rfl ?_
    refine lv_iadd (pc := 25) hx hb dX11_ran_25 ?_
    refine q_putI (pc := 26) (q := 72) hx hb hts hown hK hw rfl fp_X11_346 dX11_ran_26 hs (fun h2 H locs hw hs => ?_)
    exact q_vret hret dX11_ran_29 hw hs

def RC_CASTS (l : Launch) (G : GG) (rec : Nat → Int32 → Int32 → Mem → Option (Int32 × Mem)) (d : Nat) : Prop :=
  (∀ (a1 : Int32) (a2 : Int32) (h : Mem) (v : Int32) (h' : Mem), rec 0 a1 a2 h = some (v, h') → Sat l G yX11_casts cX11_casts 3 (some .int) d [.ref (G.2.2.1 72), .int a1, .int a2] h (some (.int v)) h')

set_option maxHeartbeats 4000000 in
theorem cb_X11_casts (l : Launch) (G : GG) (d : Nat) (rec : Nat → Int32 → Int32 → Mem → Option (Int32 × Mem)) (hrec : RC_CASTS l G rec d) (hd : 1 ≤ d) (a1 : Int32) (a2 : Int32) (h : Mem) (v : Int32) (h' : Mem) (hs : b_X11_casts rec a1 a2 h = some (v, h')) : Sat l G yX11_casts cX11_casts 3 (some .int) (d + 1) [.ref (G.2.2.1 72), .int a1, .int a2] h (some (.int v)) h' := by
  refine Sat.mkI (by decide) (Nat.le_of_ble_eq_true rfl) ?_
  intro p e R s m args below meth c Q F hret hw ls hl
  obtain ⟨hx, hb, hml, hown, hts, hK, hSt, hN, hR⟩ := F
  have hl : lv_has ls 3 [(0, .ref (G.2.2.1 72)), (1, .int a1), (2, .int a2)] := hl
  unfold b_X11_casts at hs
  refine lv_iload_n (pc := 0) hx hb dX11_casts_0 rfl (lv_at hl 1 rfl) ?_
  refine lv_if_ne (pc := 1) (tgt := 17) hx hb dX11_casts_1 (by decide) (fun hc => ?_) (fun hc => ?_)
  · replace hs := q_t hc hs
    refine lv_iload_n (pc := 17) hx hb dX11_casts_17 rfl (lv_at hl 1 rfl) ?_
    refine lv_iconst (pc := 18) (v := (iI 2)) hx hb dX11_casts_18 rfl ?_
    refine lv_icmp_ne (pc := 19) (tgt := 37) hx hb dX11_casts_19 (by decide) (fun hc => ?_) (fun hc => ?_)
    · replace hs := q_t hc hs
      refine lv_aload_n (pc := 37) hx hb dX11_casts_37 rfl (lv_at hl 0 rfl) ?_
      refine lv_iload_n (pc := 38) hx hb dX11_casts_38 rfl (lv_at hl 1 rfl) ?_
      obtain ⟨v1, ev, hs⟩ := q_cal hs
      refine q_callS (pc := 39) (As := [.int a1]) (rest := [.ref (G.2.2.1 72)]) (rs := [.int v1, .ref (G.2.2.1 72)]) hx hb hml hl.1 hts hown hK hSt hN hw (c_X11_above l G a1 h v1 ev) cs_X11_111 (rm_ok hR (by omega)) rfl (Nat.le_of_ble_eq_true rfl) rfl rfl dX11_casts_39 (fun H locs hw => ?_)
      refine lv_iload_n (pc := 42) hx hb dX11_casts_42 rfl (lv_at hl 2 rfl) ?_
      obtain ⟨v2, h3, ev, hs⟩ := q_cal2 hs
      refine q_callV (pc := 43) (q := 72) (As := [.int v1, .int a2]) (rest := []) (rs := [.int v2]) hx hb hml hl.1 hts hown hK hSt hN hw (hrec v1 a2 h v2 h3 ev) rfl rfl cv_X11_355 (rm_ok hR (by omega)) rfl (Nat.le_of_ble_eq_true rfl) rfl rfl dX11_casts_43 (fun H locs hw => ?_)
      exact q_iretW hret dX11_casts_46 hw hs
    · replace hs := q_f (fun z => z hc) hs
      refine lv_aload_n (pc := 22) hx hb dX11_casts_22 rfl (lv_at hl 0 rfl) ?_
      refine lv_bipush (pc := 23) (v := (iI 30)) hx hb dX11_casts_23 (by decide) ?_
      obtain ⟨h4, ev, hs⟩ := q_cal hs
      refine q_callV (pc := 25) (q := 72) (As := [.int (iI 30)]) (rest := []) (rs := []) hx hb hml hl.1 hts hown hK hSt hN hw (c_X11_ran l G (iI 30) h h4 ev) rfl rfl cv_X11_349 (rm_ok hR (by omega)) rfl (Nat.le_of_ble_eq_true rfl) rfl rfl dX11_casts_25 (fun H locs hw => ?_)
      refine lv_aload_n (pc := 28) hx hb dX11_casts_28 rfl (lv_at hl 0 rfl) ?_
      refine lv_iconst (pc := 29) (v := (iI 0)) hx hb dX11_casts_29 rfl ?_
      refine lv_iload_n (pc := 30) hx hb dX11_casts_30 rfl (lv_at hl 2 rfl) ?_
      obtain ⟨v5, h6, ev, hs⟩ := q_cal2 hs
      refine q_callV (pc := 31) (q := 72) (As := [.int (iI 0), .int a2]) (rest := []) (rs := [.int v5]) hx hb hml hl.1 hts hown hK hSt hN hw (hrec (iI 0) a2 h4 v5 h6 ev) rfl rfl cv_X11_355 (rm_ok hR (by omega)) rfl (Nat.le_of_ble_eq_true rfl) rfl rfl dX11_casts_31 (fun H locs hw => ?_)
      refine lv_iconst (pc := 34) (v := (iI 3)) hx hb dX11_casts_34 rfl ?_
      refine lv_imul (pc := 35) hx hb dX11_casts_35 ?_
      exact q_iretW hret dX11_casts_36 hw hs
  · replace hs := q_f (fun z => z hc) hs
    refine lv_aload_n (pc := 4) hx hb dX11_casts_4 rfl (lv_at hl 0 rfl) ?_
    refine lv_bipush (pc := 5) (v := (iI 10)) hx hb dX11_casts_5 (by decide) ?_
    obtain ⟨h7, ev, hs⟩ := q_cal hs
    refine q_callV (pc := 7) (q := 72) (As := [.int (iI 10)]) (rest := []) (rs := []) hx hb hml hl.1 hts hown hK hSt hN hw (c_X11_ran l G (iI 10) h h7 ev) rfl rfl cv_X11_349 (rm_ok hR (by omega)) rfl (Nat.le_of_ble_eq_true rfl) rfl rfl dX11_casts_7 (fun H locs hw => ?_)
    refine lv_iload_n (pc := 10) hx hb dX11_casts_10 rfl (lv_at hl 2 rfl) ?_
    refine lv_aload_n (pc := 11) hx hb dX11_casts_11 rfl (lv_at hl 0 rfl) ?_
    refine q_getI (pc := 12) (q := 72) hx hb hts hown hK hw rfl fg_X11_352 dX11_casts_12 ?_
    refine lv_iadd (pc := 15) hx hb dX11_casts_15 ?_
    exact q_iretW hret dX11_casts_16 hw hs

theorem rc_CASTS (l : Launch) (G : GG) : ∀ n : Nat, RC_CASTS l G (g_CASTS n) (n + 1)
  | 0 => fun _ _ _ _ _ hs => (by cases hs)
  | n + 1 => by
    have ih := rc_CASTS l G n
    rw [show n + 1 + 1 = n + 1 + 1 by omega]
    exact fun a1 a2 h v h' hs => cb_X11_casts l G (n + 1) (g_CASTS n) ih (by omega) a1 a2 h v h' hs

def RC_LIGHT (l : Launch) (G : GG) (rec : Nat → Int32 → Int32 → Mem → Option (Int32 × Mem)) (d : Nat) : Prop :=
  (∀ (a1 : Int32) (a2 : Int32) (h : Mem) (v : Int32) (h' : Mem), rec 0 a1 a2 h = some (v, h') → Sat l G yX11_lightsBy cX11_lightsBy 3 (some .int) d [.ref (G.2.2.1 72), .int a1, .int a2] h (some (.int v)) h')

set_option maxHeartbeats 4000000 in
theorem cb_X11_lightsBy (l : Launch) (G : GG) (d : Nat) (rec : Nat → Int32 → Int32 → Mem → Option (Int32 × Mem)) (hrec : RC_LIGHT l G rec d) (hd : 1 ≤ d) (a1 : Int32) (a2 : Int32) (h : Mem) (v : Int32) (h' : Mem) (hs : b_X11_lightsBy rec a1 a2 h = some (v, h')) : Sat l G yX11_lightsBy cX11_lightsBy 3 (some .int) (d + 1) [.ref (G.2.2.1 72), .int a1, .int a2] h (some (.int v)) h' := by
  refine Sat.mkI (by decide) (Nat.le_of_ble_eq_true rfl) ?_
  intro p e R s m args below meth c Q F hret hw ls hl
  obtain ⟨hx, hb, hml, hown, hts, hK, hSt, hN, hR⟩ := F
  have hl : lv_has ls 3 [(0, .ref (G.2.2.1 72)), (1, .int a1), (2, .int a2)] := hl
  unfold b_X11_lightsBy at hs
  refine lv_iload_n (pc := 0) hx hb dX11_lightsBy_0 rfl (lv_at hl 1 rfl) ?_
  refine lv_if_ne (pc := 1) (tgt := 17) hx hb dX11_lightsBy_1 (by decide) (fun hc => ?_) (fun hc => ?_)
  · replace hs := q_t hc hs
    refine lv_iload_n (pc := 17) hx hb dX11_lightsBy_17 rfl (lv_at hl 1 rfl) ?_
    refine lv_iconst (pc := 18) (v := (iI 3)) hx hb dX11_lightsBy_18 rfl ?_
    refine lv_icmp_ne (pc := 19) (tgt := 36) hx hb dX11_lightsBy_19 (by decide) (fun hc => ?_) (fun hc => ?_)
    · replace hs := q_t hc hs
      refine lv_iload_n (pc := 36) hx hb dX11_lightsBy_36 rfl (lv_at hl 1 rfl) ?_
      refine lv_bipush (pc := 37) (v := (iI 6)) hx hb dX11_lightsBy_37 (by decide) ?_
      refine lv_icmp_ne (pc := 39) (tgt := 60) hx hb dX11_lightsBy_39 (by decide) (fun hc => ?_) (fun hc => ?_)
      · replace hs := q_t hc hs
        refine lv_aload_n (pc := 60) hx hb dX11_lightsBy_60 rfl (lv_at hl 0 rfl) ?_
        refine lv_iload_n (pc := 61) hx hb dX11_lightsBy_61 rfl (lv_at hl 1 rfl) ?_
        obtain ⟨v1, ev, hs⟩ := q_cal hs
        refine q_callS (pc := 62) (As := [.int a1]) (rest := [.ref (G.2.2.1 72)]) (rs := [.int v1, .ref (G.2.2.1 72)]) hx hb hml hl.1 hts hown hK hSt hN hw (c_X11_above l G a1 h v1 ev) cs_X11_111 (rm_ok hR (by omega)) rfl (Nat.le_of_ble_eq_true rfl) rfl rfl dX11_lightsBy_62 (fun H locs hw => ?_)
        refine lv_iload_n (pc := 65) hx hb dX11_lightsBy_65 rfl (lv_at hl 2 rfl) ?_
        obtain ⟨v2, h3, ev, hs⟩ := q_cal2 hs
        refine q_callV (pc := 66) (q := 72) (As := [.int v1, .int a2]) (rest := []) (rs := [.int v2]) hx hb hml hl.1 hts hown hK hSt hN hw (hrec v1 a2 h v2 h3 ev) rfl rfl cv_X11_361 (rm_ok hR (by omega)) rfl (Nat.le_of_ble_eq_true rfl) rfl rfl dX11_lightsBy_66 (fun H locs hw => ?_)
        exact q_iretW hret dX11_lightsBy_69 hw hs
      · replace hs := q_f (fun z => z hc) hs
        refine lv_aload_n (pc := 42) hx hb dX11_lightsBy_42 rfl (lv_at hl 0 rfl) ?_
        refine lv_bipush (pc := 43) (v := (iI 70)) hx hb dX11_lightsBy_43 (by decide) ?_
        obtain ⟨h4, ev, hs⟩ := q_cal hs
        refine q_callV (pc := 45) (q := 72) (As := [.int (iI 70)]) (rest := []) (rs := []) hx hb hml hl.1 hts hown hK hSt hN hw (c_X11_ran l G (iI 70) h h4 ev) rfl rfl cv_X11_349 (rm_ok hR (by omega)) rfl (Nat.le_of_ble_eq_true rfl) rfl rfl dX11_lightsBy_45 (fun H locs hw => ?_)
        refine lv_aload_n (pc := 48) hx hb dX11_lightsBy_48 rfl (lv_at hl 0 rfl) ?_
        refine lv_iconst (pc := 49) (v := (iI 2)) hx hb dX11_lightsBy_49 rfl ?_
        refine lv_iload_n (pc := 50) hx hb dX11_lightsBy_50 rfl (lv_at hl 2 rfl) ?_
        obtain ⟨v5, h6, ev, hs⟩ := q_cal2 hs
        refine q_callV (pc := 51) (q := 72) (As := [.int (iI 2), .int a2]) (rest := []) (rs := [.int v5]) hx hb hml hl.1 hts hown hK hSt hN hw (hrec (iI 2) a2 h4 v5 h6 ev) rfl rfl cv_X11_361 (rm_ok hR (by omega)) rfl (Nat.le_of_ble_eq_true rfl) rfl rfl dX11_lightsBy_51 (fun H locs hw => ?_)
        refine lv_aload_n (pc := 54) hx hb dX11_lightsBy_54 rfl (lv_at hl 0 rfl) ?_
        refine q_getI (pc := 55) (q := 72) hx hb hts hown hK hw rfl fg_X11_352 dX11_lightsBy_55 ?_
        refine lv_ixor (pc := 58) hx hb dX11_lightsBy_58 ?_
        exact q_iretW hret dX11_lightsBy_59 hw hs
    · replace hs := q_f (fun z => z hc) hs
      refine lv_aload_n (pc := 22) hx hb dX11_lightsBy_22 rfl (lv_at hl 0 rfl) ?_
      refine lv_bipush (pc := 23) (v := (iI 40)) hx hb dX11_lightsBy_23 (by decide) ?_
      obtain ⟨h7, ev, hs⟩ := q_cal hs
      refine q_callV (pc := 25) (q := 72) (As := [.int (iI 40)]) (rest := []) (rs := []) hx hb hml hl.1 hts hown hK hSt hN hw (c_X11_ran l G (iI 40) h h7 ev) rfl rfl cv_X11_349 (rm_ok hR (by omega)) rfl (Nat.le_of_ble_eq_true rfl) rfl rfl dX11_lightsBy_25 (fun H locs hw => ?_)
      refine lv_aload_n (pc := 28) hx hb dX11_lightsBy_28 rfl (lv_at hl 0 rfl) ?_
      refine lv_iconst (pc := 29) (v := (iI 0)) hx hb dX11_lightsBy_29 rfl ?_
      refine lv_iload_n (pc := 30) hx hb dX11_lightsBy_30 rfl (lv_at hl 2 rfl) ?_
      obtain ⟨v8, h9, ev, hs⟩ := q_cal2 hs
      refine q_callV (pc := 31) (q := 72) (As := [.int (iI 0), .int a2]) (rest := []) (rs := [.int v8]) hx hb hml hl.1 hts hown hK hSt hN hw (hrec (iI 0) a2 h7 v8 h9 ev) rfl rfl cv_X11_361 (rm_ok hR (by omega)) rfl (Nat.le_of_ble_eq_true rfl) rfl rfl dX11_lightsBy_31 (fun H locs hw => ?_)
      refine lv_ineg (pc := 34) hx hb dX11_lightsBy_34 ?_
      exact q_iretW hret dX11_lightsBy_35 hw hs
  · replace hs := q_f (fun z => z hc) hs
    refine lv_aload_n (pc := 4) hx hb dX11_lightsBy_4 rfl (lv_at hl 0 rfl) ?_
    refine lv_bipush (pc := 5) (v := (iI 12)) hx hb dX11_lightsBy_5 (by decide) ?_
    obtain ⟨h10, ev, hs⟩ := q_cal hs
    refine q_callV (pc := 7) (q := 72) (As := [.int (iI 12)]) (rest := []) (rs := []) hx hb hml hl.1 hts hown hK hSt hN hw (c_X11_ran l G (iI 12) h h10 ev) rfl rfl cv_X11_349 (rm_ok hR (by omega)) rfl (Nat.le_of_ble_eq_true rfl) rfl rfl dX11_lightsBy_7 (fun H locs hw => ?_)
    refine lv_iload_n (pc := 10) hx hb dX11_lightsBy_10 rfl (lv_at hl 2 rfl) ?_
    refine lv_aload_n (pc := 11) hx hb dX11_lightsBy_11 rfl (lv_at hl 0 rfl) ?_
    refine q_getI (pc := 12) (q := 72) hx hb hts hown hK hw rfl fg_X11_358 dX11_lightsBy_12 ?_
    refine lv_isub (pc := 15) hx hb dX11_lightsBy_15 ?_
    exact q_iretW hret dX11_lightsBy_16 hw hs

theorem rc_LIGHT (l : Launch) (G : GG) : ∀ n : Nat, RC_LIGHT l G (g_LIGHT n) (n + 1)
  | 0 => fun _ _ _ _ _ hs => (by cases hs)
  | n + 1 => by
    have ih := rc_LIGHT l G n
    rw [show n + 1 + 1 = n + 1 + 1 by omega]
    exact fun a1 a2 h v h' hs => cb_X11_lightsBy l G (n + 1) (g_LIGHT n) ih (by omega) a1 a2 h v h' hs

def RC_TURNS (l : Launch) (G : GG) (rec : Nat → Int32 → Int32 → Mem → Option (Int32 × Mem)) (d : Nat) : Prop :=
  (∀ (a1 : Int32) (a2 : Int32) (h : Mem) (v : Int32) (h' : Mem), rec 0 a1 a2 h = some (v, h') → Sat l G yX11_turnsBy cX11_turnsBy 4 (some .int) d [.ref (G.2.2.1 72), .int a1, .int a2] h (some (.int v)) h')

set_option maxHeartbeats 4000000 in
theorem cb_X11_turnsBy (l : Launch) (G : GG) (d : Nat) (rec : Nat → Int32 → Int32 → Mem → Option (Int32 × Mem)) (hrec : RC_TURNS l G rec d) (hd : 10 ≤ d) (a1 : Int32) (a2 : Int32) (h : Mem) (v : Int32) (h' : Mem) (hs : b_X11_turnsBy rec a1 a2 h = some (v, h')) : Sat l G yX11_turnsBy cX11_turnsBy 4 (some .int) (d + 1) [.ref (G.2.2.1 72), .int a1, .int a2] h (some (.int v)) h' := by
  refine Sat.mkI (by decide) (Nat.le_of_ble_eq_true rfl) ?_
  intro p e R s m args below meth c Q F hret hw ls hl
  obtain ⟨hx, hb, hml, hown, hts, hK, hSt, hN, hR⟩ := F
  have hl : lv_has ls 4 [(0, .ref (G.2.2.1 72)), (1, .int a1), (2, .int a2)] := hl
  unfold b_X11_turnsBy at hs
  refine lv_iload_n (pc := 0) hx hb dX11_turnsBy_0 rfl (lv_at hl 1 rfl) ?_
  refine lv_if_ne (pc := 1) (tgt := 22) hx hb dX11_turnsBy_1 (by decide) (fun hc => ?_) (fun hc => ?_)
  · replace hs := q_t hc hs
    refine lv_iload_n (pc := 22) hx hb dX11_turnsBy_22 rfl (lv_at hl 1 rfl) ?_
    refine lv_iconst (pc := 23) (v := (iI 1)) hx hb dX11_turnsBy_23 rfl ?_
    refine lv_icmp_ne (pc := 24) (tgt := 52) hx hb dX11_turnsBy_24 (by decide) (fun hc => ?_) (fun hc => ?_)
    · replace hs := q_t hc hs
      refine lv_iload_n (pc := 52) hx hb dX11_turnsBy_52 rfl (lv_at hl 1 rfl) ?_
      refine lv_iconst (pc := 53) (v := (iI 4)) hx hb dX11_turnsBy_53 rfl ?_
      refine lv_icmp_ne (pc := 54) (tgt := 72) hx hb dX11_turnsBy_54 (by decide) (fun hc => ?_) (fun hc => ?_)
      · replace hs := q_t hc hs
        refine lv_aload_n (pc := 72) hx hb dX11_turnsBy_72 rfl (lv_at hl 0 rfl) ?_
        refine lv_iload_n (pc := 73) hx hb dX11_turnsBy_73 rfl (lv_at hl 1 rfl) ?_
        obtain ⟨v1, ev, hs⟩ := q_cal hs
        refine q_callS (pc := 74) (As := [.int a1]) (rest := [.ref (G.2.2.1 72)]) (rs := [.int v1, .ref (G.2.2.1 72)]) hx hb hml hl.1 hts hown hK hSt hN hw (c_X11_above l G a1 h v1 ev) cs_X11_111 (rm_ok hR (by omega)) rfl (Nat.le_of_ble_eq_true rfl) rfl rfl dX11_turnsBy_74 (fun H locs hw => ?_)
        refine lv_iload_n (pc := 77) hx hb dX11_turnsBy_77 rfl (lv_at hl 2 rfl) ?_
        obtain ⟨v2, h3, ev, hs⟩ := q_cal2 hs
        refine q_callV (pc := 78) (q := 72) (As := [.int v1, .int a2]) (rest := []) (rs := [.int v2]) hx hb hml hl.1 hts hown hK hSt hN hw (hrec v1 a2 h v2 h3 ev) rfl rfl cv_X11_367 (rm_ok hR (by omega)) rfl (Nat.le_of_ble_eq_true rfl) rfl rfl dX11_turnsBy_78 (fun H locs hw => ?_)
        exact q_iretW hret dX11_turnsBy_81 hw hs
      · replace hs := q_f (fun z => z hc) hs
        refine lv_aload_n (pc := 57) hx hb dX11_turnsBy_57 rfl (lv_at hl 0 rfl) ?_
        refine lv_bipush (pc := 58) (v := (iI 50)) hx hb dX11_turnsBy_58 (by decide) ?_
        obtain ⟨h4, ev, hs⟩ := q_cal hs
        refine q_callV (pc := 60) (q := 72) (As := [.int (iI 50)]) (rest := []) (rs := []) hx hb hml hl.1 hts hown hK hSt hN hw (c_X11_ran l G (iI 50) h h4 ev) rfl rfl cv_X11_349 (rm_ok hR (by omega)) rfl (Nat.le_of_ble_eq_true rfl) rfl rfl dX11_turnsBy_60 (fun H locs hw => ?_)
        refine lv_aload_n (pc := 63) hx hb dX11_turnsBy_63 rfl (lv_at hl 0 rfl) ?_
        refine lv_iconst (pc := 64) (v := (iI 1)) hx hb dX11_turnsBy_64 rfl ?_
        refine lv_iload_n (pc := 65) hx hb dX11_turnsBy_65 rfl (lv_at hl 2 rfl) ?_
        refine lv_iconst (pc := 66) (v := (iI 1)) hx hb dX11_turnsBy_66 rfl ?_
        refine lv_iadd (pc := 67) hx hb dX11_turnsBy_67 ?_
        obtain ⟨v5, h6, ev, hs⟩ := q_cal2 hs
        refine q_callV (pc := 68) (q := 72) (As := [.int (iI 1), .int (a2 + (iI 1))]) (rest := []) (rs := [.int v5]) hx hb hml hl.1 hts hown hK hSt hN hw (hrec (iI 1) (a2 + (iI 1)) h4 v5 h6 ev) rfl rfl cv_X11_367 (rm_ok hR (by omega)) rfl (Nat.le_of_ble_eq_true rfl) rfl rfl dX11_turnsBy_68 (fun H locs hw => ?_)
        exact q_iretW hret dX11_turnsBy_71 hw hs
    · replace hs := q_f (fun z => z hc) hs
      refine lv_aload_n (pc := 27) hx hb dX11_turnsBy_27 rfl (lv_at hl 0 rfl) ?_
      refine lv_bipush (pc := 28) (v := (iI 20)) hx hb dX11_turnsBy_28 (by decide) ?_
      obtain ⟨h7, ev, hs⟩ := q_cal hs
      refine q_callV (pc := 30) (q := 72) (As := [.int (iI 20)]) (rest := []) (rs := []) hx hb hml hl.1 hts hown hK hSt hN hw (c_X11_ran l G (iI 20) h h7 ev) rfl rfl cv_X11_349 (rm_ok hR (by omega)) rfl (Nat.le_of_ble_eq_true rfl) rfl rfl dX11_turnsBy_30 (fun H locs hw => ?_)
      refine lv_aload_n (pc := 33) hx hb dX11_turnsBy_33 rfl (lv_at hl 0 rfl) ?_
      refine lv_iconst (pc := 34) (v := (iI 0)) hx hb dX11_turnsBy_34 rfl ?_
      refine lv_iload_n (pc := 35) hx hb dX11_turnsBy_35 rfl (lv_at hl 2 rfl) ?_
      obtain ⟨v8, h9, ev, hs⟩ := q_cal2 hs
      refine q_callV (pc := 36) (q := 72) (As := [.int (iI 0), .int a2]) (rest := []) (rs := [.int v8]) hx hb hml hl.1 hts hown hK hSt hN hw (hrec (iI 0) a2 h7 v8 h9 ev) rfl rfl cv_X11_367 (rm_ok hR (by omega)) rfl (Nat.le_of_ble_eq_true rfl) rfl rfl dX11_turnsBy_36 (fun H locs hw => ?_)
      refine lv_istore_n (pc := 39) (lv' := [(3, .int v8), (0, .ref (G.2.2.1 72)), (1, .int a1), (2, .int a2)]) hx hb dX11_turnsBy_39 rfl hl (by decide) rfl (fun ls hl => ?_)
      refine lv_iload_n (pc := 40) hx hb dX11_turnsBy_40 rfl (lv_at hl 0 rfl) ?_
      refine lv_aload_n (pc := 41) hx hb dX11_turnsBy_41 rfl (lv_at hl 1 rfl) ?_
      refine lv_aload_n (pc := 42) hx hb dX11_turnsBy_42 rfl (lv_at hl 1 rfl) ?_
      refine q_getI (pc := 43) (q := 72) hx hb hts hown hK hw rfl fg_X11_364 dX11_turnsBy_43 ?_
      refine lv_iconst (pc := 46) (v := (iI 1)) hx hb dX11_turnsBy_46 rfl ?_
      obtain ⟨v10, h11, ev, hs⟩ := q_cal2 hs
      refine q_callV (pc := 47) (q := 72) (As := [.int (gI h9 72 41), .int (iI 1)]) (rest := [.int v8]) (rs := [.int v10, .int v8]) hx hb hml hl.1 hts hown hK hSt hN hw ((rc_LIGHT l G 8) (gI h9 72 41) (iI 1) h9 v10 h11 ev) rfl rfl cv_X11_361 (rm_ok hR (by omega)) rfl (Nat.le_of_ble_eq_true rfl) rfl rfl dX11_turnsBy_47 (fun H locs hw => ?_)
      refine lv_isub (pc := 50) hx hb dX11_turnsBy_50 ?_
      exact q_iretW hret dX11_turnsBy_51 hw hs
  · replace hs := q_f (fun z => z hc) hs
    refine lv_aload_n (pc := 4) hx hb dX11_turnsBy_4 rfl (lv_at hl 0 rfl) ?_
    refine lv_bipush (pc := 5) (v := (iI 11)) hx hb dX11_turnsBy_5 (by decide) ?_
    obtain ⟨h12, ev, hs⟩ := q_cal hs
    refine q_callV (pc := 7) (q := 72) (As := [.int (iI 11)]) (rest := []) (rs := []) hx hb hml hl.1 hts hown hK hSt hN hw (c_X11_ran l G (iI 11) h h12 ev) rfl rfl cv_X11_349 (rm_ok hR (by omega)) rfl (Nat.le_of_ble_eq_true rfl) rfl rfl dX11_turnsBy_7 (fun H locs hw => ?_)
    refine lv_aload_n (pc := 10) hx hb dX11_turnsBy_10 rfl (lv_at hl 0 rfl) ?_
    refine lv_aload_n (pc := 11) hx hb dX11_turnsBy_11 rfl (lv_at hl 0 rfl) ?_
    refine q_getI (pc := 12) (q := 72) hx hb hts hown hK hw rfl fg_X11_364 dX11_turnsBy_12 ?_
    refine lv_iload_n (pc := 15) hx hb dX11_turnsBy_15 rfl (lv_at hl 2 rfl) ?_
    obtain ⟨v13, h14, ev, hs⟩ := q_cal2 hs
    refine q_callV (pc := 16) (q := 72) (As := [.int (gI h12 72 41), .int a2]) (rest := []) (rs := [.int v13]) hx hb hml hl.1 hts hown hK hSt hN hw ((rc_CASTS l G 8) (gI h12 72 41) a2 h12 v13 h14 ev) rfl rfl cv_X11_355 (rm_ok hR (by omega)) rfl (Nat.le_of_ble_eq_true rfl) rfl rfl dX11_turnsBy_16 (fun H locs hw => ?_)
    refine lv_iconst (pc := 19) (v := (iI 2)) hx hb dX11_turnsBy_19 rfl ?_
    refine lv_imul (pc := 20) hx hb dX11_turnsBy_20 ?_
    exact q_iretW hret dX11_turnsBy_21 hw hs

theorem rc_TURNS (l : Launch) (G : GG) : ∀ n : Nat, RC_TURNS l G (g_TURNS n) (n + 10)
  | 0 => fun _ _ _ _ _ hs => (by cases hs)
  | n + 1 => by
    have ih := rc_TURNS l G n
    rw [show n + 1 + 10 = n + 10 + 1 by omega]
    exact fun a1 a2 h v h' hs => cb_X11_turnsBy l G (n + 10) (g_TURNS n) ih (by omega) a1 a2 h v h' hs

def RC_TELLS (l : Launch) (G : GG) (rec : Nat → Int32 → Int32 → Mem → Option (Int32 × Mem)) (d : Nat) : Prop :=
  (∀ (a1 : Int32) (a2 : Int32) (h : Mem) (v : Int32) (h' : Mem), rec 0 a1 a2 h = some (v, h') → Sat l G yX11_tellsBy cX11_tellsBy 4 (some .int) d [.ref (G.2.2.1 72), .int a1, .int a2] h (some (.int v)) h')

set_option maxHeartbeats 4000000 in
set_option maxRecDepth 100000 in
theorem cb_X11_tellsBy (l : Launch) (G : GG) (d : Nat) (rec : Nat → Int32 → Int32 → Mem → Option (Int32 × Mem)) (hrec : RC_TELLS l G rec d) (hd : 19 ≤ d) (a1 : Int32) (a2 : Int32) (h : Mem) (v : Int32) (h' : Mem) (hs : b_X11_tellsBy rec a1 a2 h = some (v, h')) : Sat l G yX11_tellsBy cX11_tellsBy 4 (some .int) (d + 1) [.ref (G.2.2.1 72), .int a1, .int a2] h (some (.int v)) h' := by
  refine Sat.mkI (by decide) (Nat.le_of_ble_eq_true rfl) ?_
  intro p e R s m args below meth c Q F hret hw ls hl
  obtain ⟨hx, hb, hml, hown, hts, hK, hSt, hN, hR⟩ := F
  have hl : lv_has ls 4 [(0, .ref (G.2.2.1 72)), (1, .int a1), (2, .int a2)] := hl
  unfold b_X11_tellsBy at hs
  refine lv_iload_n (pc := 0) hx hb dX11_tellsBy_0 rfl (lv_at hl 1 rfl) ?_
  refine lv_if_ne (pc := 1) (tgt := 32) hx hb dX11_tellsBy_1 (by decide) (fun hc => ?_) (fun hc => ?_)
  · replace hs := q_t hc hs
    refine lv_iload_n (pc := 32) hx hb dX11_tellsBy_32 rfl (lv_at hl 1 rfl) ?_
    refine lv_iconst (pc := 33) (v := (iI 5)) hx hb dX11_tellsBy_33 rfl ?_
    refine lv_icmp_ne (pc := 34) (tgt := 62) hx hb dX11_tellsBy_34 (by decide) (fun hc => ?_) (fun hc => ?_)
    · replace hs := q_t hc hs
      refine lv_iload_n (pc := 62) hx hb dX11_tellsBy_62 rfl (lv_at hl 1 rfl) ?_
      refine lv_bipush (pc := 63) (v := (iI 6)) hx hb dX11_tellsBy_63 (by decide) ?_
      refine lv_icmp_ne (pc := 65) (tgt := 93) hx hb dX11_tellsBy_65 (by decide) (fun hc => ?_) (fun hc => ?_)
      · replace hs := q_t hc hs
        refine lv_aload_n (pc := 93) hx hb dX11_tellsBy_93 rfl (lv_at hl 0 rfl) ?_
        refine lv_iload_n (pc := 94) hx hb dX11_tellsBy_94 rfl (lv_at hl 1 rfl) ?_
        obtain ⟨v1, ev, hs⟩ := q_cal hs
        refine q_callS (pc := 95) (As := [.int a1]) (rest := [.ref (G.2.2.1 72)]) (rs := [.int v1, .ref (G.2.2.1 72)]) hx hb hml hl.1 hts hown hK hSt hN hw (c_X11_above l G a1 h v1 ev) cs_X11_111 (rm_ok hR (by omega)) rfl (Nat.le_of_ble_eq_true rfl) rfl rfl dX11_tellsBy_95 (fun H locs hw => ?_)
        refine lv_iload_n (pc := 98) hx hb dX11_tellsBy_98 rfl (lv_at hl 2 rfl) ?_
        obtain ⟨v2, h3, ev, hs⟩ := q_cal2 hs
        refine q_callV (pc := 99) (q := 72) (As := [.int v1, .int a2]) (rest := []) (rs := [.int v2]) hx hb hml hl.1 hts hown hK hSt hN hw (hrec v1 a2 h v2 h3 ev) rfl rfl cv_X11_370 (rm_ok hR (by omega)) rfl (Nat.le_of_ble_eq_true rfl) rfl rfl dX11_tellsBy_99 (fun H locs hw => ?_)
        exact q_iretW hret dX11_tellsBy_102 hw hs
      · replace hs := q_f (fun z => z hc) hs
        refine lv_aload_n (pc := 68) hx hb dX11_tellsBy_68 rfl (lv_at hl 0 rfl) ?_
        refine lv_bipush (pc := 69) (v := (iI 71)) hx hb dX11_tellsBy_69 (by decide) ?_
        obtain ⟨h4, ev, hs⟩ := q_cal hs
        refine q_callV (pc := 71) (q := 72) (As := [.int (iI 71)]) (rest := []) (rs := []) hx hb hml hl.1 hts hown hK hSt hN hw (c_X11_ran l G (iI 71) h h4 ev) rfl rfl cv_X11_349 (rm_ok hR (by omega)) rfl (Nat.le_of_ble_eq_true rfl) rfl rfl dX11_tellsBy_71 (fun H locs hw => ?_)
        refine lv_aload_n (pc := 74) hx hb dX11_tellsBy_74 rfl (lv_at hl 0 rfl) ?_
        refine lv_aload_n (pc := 75) hx hb dX11_tellsBy_75 rfl (lv_at hl 0 rfl) ?_
        refine q_getI (pc := 76) (q := 72) hx hb hts hown hK hw rfl fg_X11_364 dX11_tellsBy_76 ?_
        refine lv_iload_n (pc := 79) hx hb dX11_tellsBy_79 rfl (lv_at hl 2 rfl) ?_
        obtain ⟨v5, h6, ev, hs⟩ := q_cal2 hs
        refine q_callV (pc := 80) (q := 72) (As := [.int (gI h4 72 41), .int a2]) (rest := []) (rs := [.int v5]) hx hb hml hl.1 hts hown hK hSt hN hw ((rc_TURNS l G 8) (gI h4 72 41) a2 h4 v5 h6 ev) rfl rfl cv_X11_367 (rm_ok hR (by omega)) rfl (Nat.le_of_ble_eq_true rfl) rfl rfl dX11_tellsBy_80 (fun H locs hw => ?_)
        refine lv_istore_n (pc := 83) (lv' := [(3, .int v5), (0, .ref (G.2.2.1 72)), (1, .int a1), (2, .int a2)]) hx hb dX11_tellsBy_83 rfl hl (by decide) rfl (fun ls hl => ?_)
        refine lv_iload_n (pc := 84) hx hb dX11_tellsBy_84 rfl (lv_at hl 0 rfl) ?_
        refine lv_aload_n (pc := 85) hx hb dX11_tellsBy_85 rfl (lv_at hl 1 rfl) ?_
        refine lv_iconst (pc := 86) (v := (iI 2)) hx hb dX11_tellsBy_86 rfl ?_
        refine lv_iload_n (pc := 87) hx hb dX11_tellsBy_87 rfl (lv_at hl 3 rfl) ?_
        obtain ⟨v7, h8, ev, hs⟩ := q_cal2 hs
        refine q_callV (pc := 88) (q := 72) (As := [.int (iI 2), .int a2]) (rest := [.int v5]) (rs := [.int v7, .int v5]) hx hb hml hl.1 hts hown hK hSt hN hw (hrec (iI 2) a2 h6 v7 h8 ev) rfl rfl cv_X11_370 (rm_ok hR (by omega)) rfl (Nat.le_of_ble_eq_true rfl) rfl rfl dX11_tellsBy_88 (fun H locs hw => ?_)
        refine lv_isub (pc := 91) hx hb dX11_tellsBy_91 ?_
        exact q_iretW hret dX11_tellsBy_92 hw hs
    · replace hs := q_f (fun z => z hc) hs
      refine lv_aload_n (pc := 37) hx hb dX11_tellsBy_37 rfl (lv_at hl 0 rfl) ?_
      refine lv_bipush (pc := 38) (v := (iI 60)) hx hb dX11_tellsBy_38 (by decide) ?_
      obtain ⟨h9, ev, hs⟩ := q_cal hs
      refine q_callV (pc := 40) (q := 72) (As := [.int (iI 60)]) (rest := []) (rs := []) hx hb hml hl.1 hts hown hK hSt hN hw (c_X11_ran l G (iI 60) h h9 ev) rfl rfl cv_X11_349 (rm_ok hR (by omega)) rfl (Nat.le_of_ble_eq_true rfl) rfl rfl dX11_tellsBy_40 (fun H locs hw => ?_)
      refine lv_aload_n (pc := 43) hx hb dX11_tellsBy_43 rfl (lv_at hl 0 rfl) ?_
      refine lv_iconst (pc := 44) (v := (iI 1)) hx hb dX11_tellsBy_44 rfl ?_
      refine lv_iload_n (pc := 45) hx hb dX11_tellsBy_45 rfl (lv_at hl 2 rfl) ?_
      obtain ⟨v10, h11, ev, hs⟩ := q_cal2 hs
      refine q_callV (pc := 46) (q := 72) (As := [.int (iI 1), .int a2]) (rest := []) (rs := [.int v10]) hx hb hml hl.1 hts hown hK hSt hN hw (hrec (iI 1) a2 h9 v10 h11 ev) rfl rfl cv_X11_370 (rm_ok hR (by omega)) rfl (Nat.le_of_ble_eq_true rfl) rfl rfl dX11_tellsBy_46 (fun H locs hw => ?_)
      refine lv_istore_n (pc := 49) (lv' := [(3, .int v10), (0, .ref (G.2.2.1 72)), (1, .int a1), (2, .int a2)]) hx hb dX11_tellsBy_49 rfl hl (by decide) rfl (fun ls hl => ?_)
      refine lv_iload_n (pc := 50) hx hb dX11_tellsBy_50 rfl (lv_at hl 0 rfl) ?_
      refine lv_aload_n (pc := 51) hx hb dX11_tellsBy_51 rfl (lv_at hl 1 rfl) ?_
      refine lv_aload_n (pc := 52) hx hb dX11_tellsBy_52 rfl (lv_at hl 1 rfl) ?_
      refine q_getI (pc := 53) (q := 72) hx hb hts hown hK hw rfl fg_X11_364 dX11_tellsBy_53 ?_
      refine lv_iconst (pc := 56) (v := (iI 2)) hx hb dX11_tellsBy_56 rfl ?_
      obtain ⟨v12, h13, ev, hs⟩ := q_cal2 hs
      refine q_callV (pc := 57) (q := 72) (As := [.int (gI h11 72 41), .int (iI 2)]) (rest := [.int v10]) (rs := [.int v12, .int v10]) hx hb hml hl.1 hts hown hK hSt hN hw ((rc_CASTS l G 8) (gI h11 72 41) (iI 2) h11 v12 h13 ev) rfl rfl cv_X11_355 (rm_ok hR (by omega)) rfl (Nat.le_of_ble_eq_true rfl) rfl rfl dX11_tellsBy_57 (fun H locs hw => ?_)
      refine lv_isub (pc := 60) hx hb dX11_tellsBy_60 ?_
      exact q_iretW hret dX11_tellsBy_61 hw hs
  · replace hs := q_f (fun z => z hc) hs
    refine lv_aload_n (pc := 4) hx hb dX11_tellsBy_4 rfl (lv_at hl 0 rfl) ?_
    refine lv_bipush (pc := 5) (v := (iI 13)) hx hb dX11_tellsBy_5 (by decide) ?_
    obtain ⟨h14, ev, hs⟩ := q_cal hs
    refine q_callV (pc := 7) (q := 72) (As := [.int (iI 13)]) (rest := []) (rs := []) hx hb hml hl.1 hts hown hK hSt hN hw (c_X11_ran l G (iI 13) h h14 ev) rfl rfl cv_X11_349 (rm_ok hR (by omega)) rfl (Nat.le_of_ble_eq_true rfl) rfl rfl dX11_tellsBy_7 (fun H locs hw => ?_)
    refine lv_aload_n (pc := 10) hx hb dX11_tellsBy_10 rfl (lv_at hl 0 rfl) ?_
    refine lv_aload_n (pc := 11) hx hb dX11_tellsBy_11 rfl (lv_at hl 0 rfl) ?_
    refine q_getI (pc := 12) (q := 72) hx hb hts hown hK hw rfl fg_X11_364 dX11_tellsBy_12 ?_
    refine lv_iload_n (pc := 15) hx hb dX11_tellsBy_15 rfl (lv_at hl 2 rfl) ?_
    obtain ⟨v15, h16, ev, hs⟩ := q_cal2 hs
    refine q_callV (pc := 16) (q := 72) (As := [.int (gI h14 72 41), .int a2]) (rest := []) (rs := [.int v15]) hx hb hml hl.1 hts hown hK hSt hN hw ((rc_TURNS l G 8) (gI h14 72 41) a2 h14 v15 h16 ev) rfl rfl cv_X11_367 (rm_ok hR (by omega)) rfl (Nat.le_of_ble_eq_true rfl) rfl rfl dX11_tellsBy_16 (fun H locs hw => ?_)
    refine lv_istore_n (pc := 19) (lv' := [(3, .int v15), (0, .ref (G.2.2.1 72)), (1, .int a1), (2, .int a2)]) hx hb dX11_tellsBy_19 rfl hl (by decide) rfl (fun ls hl => ?_)
    refine lv_iload_n (pc := 20) hx hb dX11_tellsBy_20 rfl (lv_at hl 0 rfl) ?_
    refine lv_aload_n (pc := 21) hx hb dX11_tellsBy_21 rfl (lv_at hl 1 rfl) ?_
    refine lv_aload_n (pc := 22) hx hb dX11_tellsBy_22 rfl (lv_at hl 1 rfl) ?_
    refine q_getI (pc := 23) (q := 72) hx hb hts hown hK hw rfl fg_X11_364 dX11_tellsBy_23 ?_
    refine lv_iload_n (pc := 26) hx hb dX11_tellsBy_26 rfl (lv_at hl 3 rfl) ?_
    obtain ⟨v17, h18, ev, hs⟩ := q_cal2 hs
    refine q_callV (pc := 27) (q := 72) (As := [.int (gI h16 72 41), .int a2]) (rest := [.int v15]) (rs := [.int v17, .int v15]) hx hb hml hl.1 hts hown hK hSt hN hw ((rc_LIGHT l G 8) (gI h16 72 41) a2 h16 v17 h18 ev) rfl rfl cv_X11_361 (rm_ok hR (by omega)) rfl (Nat.le_of_ble_eq_true rfl) rfl rfl dX11_tellsBy_27 (fun H locs hw => ?_)
    refine lv_ixor (pc := 30) hx hb dX11_tellsBy_30 ?_
    exact q_iretW hret dX11_tellsBy_31 hw hs

theorem rc_TELLS (l : Launch) (G : GG) : ∀ n : Nat, RC_TELLS l G (g_TELLS n) (n + 19)
  | 0 => fun _ _ _ _ _ hs => (by cases hs)
  | n + 1 => by
    have ih := rc_TELLS l G n
    rw [show n + 1 + 19 = n + 19 + 1 by omega]
    exact fun a1 a2 h v h' hs => cb_X11_tellsBy l G (n + 19) (g_TELLS n) ih (by omega) a1 a2 h v h' hs

set_option maxHeartbeats 4000000 in
theorem c_X11_voice (l : Launch) (G : GG) (a1 : Int32) (a2 : Int32) (a3 : Int32) (h : Mem) (v : Int32) (h' : Mem) (hs : f_X11_voice h a1 a2 a3 = some (v, h')) : Sat l G yX11_voice cX11_voice 4 (some .int) 28 [.ref (G.2.2.1 72), .int a1, .int a2, .int a3] h (some (.int v)) h' := by
  refine Sat.mkI (by decide) (Nat.le_of_ble_eq_true rfl) ?_
  intro p e R s m args below meth c Q F hret hw ls hl
  obtain ⟨hx, hb, hml, hown, hts, hK, hSt, hN, hR⟩ := F
  have hl : lv_has ls 4 [(0, .ref (G.2.2.1 72)), (1, .int a1), (2, .int a2), (3, .int a3)] := hl
  unfold f_X11_voice at hs
  refine lv_aload_n (pc := 0) hx hb dX11_voice_0 rfl (lv_at hl 0 rfl) ?_
  refine lv_iload_n (pc := 1) hx hb dX11_voice_1 rfl (lv_at hl 1 rfl) ?_
  obtain ⟨v1, ev, hs⟩ := q_cal hs
  refine q_callV (pc := 2) (q := 72) (As := [.int a1]) (rest := []) (rs := [.int v1]) hx hb hml hl.1 hts hown hK hSt hN hw (c_X11_isSquare l G a1 h v1 ev) rfl rfl cv_X11_83 (rm_ok hR (by decide)) rfl (Nat.le_of_ble_eq_true rfl) rfl rfl dX11_voice_2 (fun H locs hw => ?_)
  refine q_join0 (P0 := ∀ (H : Heap) (locs : List Loc), IW G s h H locs → ∀ ls : Array Slot, lv_has ls 4 [(0, .ref (G.2.2.1 72))] → W p l e R s m args below meth c H locs 0 0 Q (F0 m 17 ls [])) hs ?_ ?_
  · intro  hs H locs hw ls hl
    refine lv_aload_n (pc := 17) hx hb dX11_voice_17 rfl (lv_at hl 0 rfl) ?_
    refine lv_ldc (pc := 18) (v := (iI (-1000000001))) hx hb hown (hts _ ki_X11_78) dX11_voice_18 ?_
    obtain ⟨v3, h4, ev, hs⟩ := q_cal2 hs
    refine q_callV (pc := 20) (q := 72) (As := [.int (iI (-1000000001))]) (rest := []) (rs := [.int v3]) hx hb hml hl.1 hts hown hK hSt hN hw (c_X11_errs l G (iI (-1000000001)) h v3 h4 ev) rfl rfl cv_X11_79 (rm_ok hR (by decide)) rfl (Nat.le_of_ble_eq_true rfl) rfl rfl dX11_voice_20 (fun H locs hw => ?_)
    exact q_iretW hret dX11_voice_23 hw hs
  · intro K2 hK2 hs
    refine lv_if_eq (pc := 5) (tgt := 17) hx hb dX11_voice_5 (by decide) (fun hc => ?_) (fun hc => ?_)
    · replace hs := q_t hc hs
      exact hK2 hs _ _ hw _ (lv_sub hl [0] rfl)
    · replace hs := q_f hc hs
      refine lv_iload_n (pc := 8) hx hb dX11_voice_8 rfl (lv_at hl 2 rfl) ?_
      refine lv_iconst (pc := 9) (v := (iI 0)) hx hb dX11_voice_9 rfl ?_
      refine lv_iconst (pc := 10) (v := (iI 3)) hx hb dX11_voice_10 rfl ?_
      obtain ⟨v5, ev, hs⟩ := q_cal hs
      refine q_callS (pc := 11) (As := [.int a2, .int (iI 0), .int (iI 3)]) (rest := []) (rs := [.int v5]) hx hb hml hl.1 hts hown hK hSt hN hw (c_X11_in l G a2 (iI 0) (iI 3) h v5 ev) cs_X11_71 (rm_ok hR (by decide)) rfl (Nat.le_of_ble_eq_true rfl) rfl rfl dX11_voice_11 (fun H locs hw => ?_)
      refine lv_if_ne (pc := 14) (tgt := 24) hx hb dX11_voice_14 (by decide) (fun hc => ?_) (fun hc => ?_)
      · replace hs := q_t hc hs
        refine lv_aload_n (pc := 24) hx hb dX11_voice_24 rfl (lv_at hl 0 rfl) ?_
        refine lv_iconst (pc := 25) (v := (iI 0)) hx hb dX11_voice_25 rfl ?_
        refine q_putI (pc := 26) (q := 72) hx hb hts hown hK hw rfl fp_X11_346 dX11_voice_26 hs (fun h6 H locs hw hs => ?_)
        refine lv_aload_n (pc := 29) hx hb dX11_voice_29 rfl (lv_at hl 0 rfl) ?_
        refine lv_aload_n (pc := 30) hx hb dX11_voice_30 rfl (lv_at hl 0 rfl) ?_
        refine lv_iload_n (pc := 31) hx hb dX11_voice_31 rfl (lv_at hl 1 rfl) ?_
        refine lv_iconst (pc := 32) (v := (iI 0)) hx hb dX11_voice_32 rfl ?_
        obtain ⟨v7, ev, hs⟩ := q_cal hs
        refine q_callV (pc := 33) (q := 72) (As := [.int a1, .int (iI 0)]) (rest := [.ref (G.2.2.1 72)]) (rs := [.int v7, .ref (G.2.2.1 72)]) hx hb hml hl.1 hts hown hK hSt hN hw (c_X11_its l G a1 (iI 0) h6 v7 ev) rfl rfl cv_X11_87 (rm_ok hR (by decide)) rfl (Nat.le_of_ble_eq_true rfl) rfl rfl dX11_voice_33 (fun H locs hw => ?_)
        refine q_putI (pc := 36) (q := 72) hx hb hts hown hK hw rfl fp_X11_364 dX11_voice_36 hs (fun h8 H locs hw hs => ?_)
        refine lv_aload_n (pc := 39) hx hb dX11_voice_39 rfl (lv_at hl 0 rfl) ?_
        refine lv_iload_n (pc := 40) hx hb dX11_voice_40 rfl (lv_at hl 1 rfl) ?_
        refine q_putI (pc := 41) (q := 72) hx hb hts hown hK hw rfl fp_X11_352 dX11_voice_41 hs (fun h9 H locs hw hs => ?_)
        refine lv_aload_n (pc := 44) hx hb dX11_voice_44 rfl (lv_at hl 0 rfl) ?_
        refine lv_aload_n (pc := 45) hx hb dX11_voice_45 rfl (lv_at hl 0 rfl) ?_
        refine lv_iload_n (pc := 46) hx hb dX11_voice_46 rfl (lv_at hl 1 rfl) ?_
        refine lv_iconst (pc := 47) (v := (iI 1)) hx hb dX11_voice_47 rfl ?_
        obtain ⟨v10, ev, hs⟩ := q_cal hs
        refine q_callV (pc := 48) (q := 72) (As := [.int a1, .int (iI 1)]) (rest := [.ref (G.2.2.1 72)]) (rs := [.int v10, .ref (G.2.2.1 72)]) hx hb hml hl.1 hts hown hK hSt hN hw (c_X11_its l G a1 (iI 1) h9 v10 ev) rfl rfl cv_X11_87 (rm_ok hR (by decide)) rfl (Nat.le_of_ble_eq_true rfl) rfl rfl dX11_voice_48 (fun H locs hw => ?_)
        refine q_putI (pc := 51) (q := 72) hx hb hts hown hK hw rfl fp_X11_358 dX11_voice_51 hs (fun h11 H locs hw hs => ?_)
        refine lv_iload_n (pc := 54) hx hb dX11_voice_54 rfl (lv_at hl 2 rfl) ?_
        by_cases hc0 : a2 = iI 0
        · replace hs := q_t hc0 hs
          refine lv_tableIn (pc := 55) (off := 25) (tgt := 80) hx hb dX11_voice_55 (by rw [hc0]; decide) (by rw [hc0]; decide) (by rw [hc0]; decide) (by decide) ?_
          refine lv_aload_n (pc := 80) hx hb dX11_voice_80 rfl (lv_at hl 0 rfl) ?_
          refine lv_aload_n (pc := 81) hx hb dX11_voice_81 rfl (lv_at hl 0 rfl) ?_
          refine q_getI (pc := 82) (q := 72) hx hb hts hown hK hw rfl fg_X11_364 dX11_voice_82 ?_
          refine lv_iload_n (pc := 85) hx hb dX11_voice_85 rfl (lv_at hl 3 rfl) ?_
          obtain ⟨v12, h13, ev, hs⟩ := q_cal2 hs
          refine q_callV (pc := 86) (q := 72) (As := [.int (gI h11 72 41), .int a3]) (rest := []) (rs := [.int v12]) hx hb hml hl.1 hts hown hK hSt hN hw ((rc_CASTS l G 8) (gI h11 72 41) a3 h11 v12 h13 ev) rfl rfl cv_X11_355 (rm_ok hR (by decide)) rfl (Nat.le_of_ble_eq_true rfl) rfl rfl dX11_voice_86 (fun H locs hw => ?_)
          exact q_iretW hret dX11_voice_89 hw hs
        replace hs := q_f hc0 hs
        by_cases hc1 : a2 = iI 1
        · replace hs := q_t hc1 hs
          refine lv_tableIn (pc := 55) (off := 35) (tgt := 90) hx hb dX11_voice_55 (by rw [hc1]; decide) (by rw [hc1]; decide) (by rw [hc1]; decide) (by decide) ?_
          refine lv_aload_n (pc := 90) hx hb dX11_voice_90 rfl (lv_at hl 0 rfl) ?_
          refine lv_aload_n (pc := 91) hx hb dX11_voice_91 rfl (lv_at hl 0 rfl) ?_
          refine q_getI (pc := 92) (q := 72) hx hb hts hown hK hw rfl fg_X11_364 dX11_voice_92 ?_
          refine lv_iload_n (pc := 95) hx hb dX11_voice_95 rfl (lv_at hl 3 rfl) ?_
          obtain ⟨v14, h15, ev, hs⟩ := q_cal2 hs
          refine q_callV (pc := 96) (q := 72) (As := [.int (gI h11 72 41), .int a3]) (rest := []) (rs := [.int v14]) hx hb hml hl.1 hts hown hK hSt hN hw ((rc_TURNS l G 8) (gI h11 72 41) a3 h11 v14 h15 ev) rfl rfl cv_X11_367 (rm_ok hR (by decide)) rfl (Nat.le_of_ble_eq_true rfl) rfl rfl dX11_voice_96 (fun H locs hw => ?_)
          exact q_iretW hret dX11_voice_99 hw hs
        replace hs := q_f hc1 hs
        by_cases hc2 : a2 = iI 2
        · replace hs := q_t hc2 hs
          refine lv_tableIn (pc := 55) (off := 45) (tgt := 100) hx hb dX11_voice_55 (by rw [hc2]; decide) (by rw [hc2]; decide) (by rw [hc2]; decide) (by decide) ?_
          refine lv_aload_n (pc := 100) hx hb dX11_voice_100 rfl (lv_at hl 0 rfl) ?_
          refine lv_aload_n (pc := 101) hx hb dX11_voice_101 rfl (lv_at hl 0 rfl) ?_
          refine q_getI (pc := 102) (q := 72) hx hb hts hown hK hw rfl fg_X11_364 dX11_voice_102 ?_
          refine lv_iload_n (pc := 105) hx hb dX11_voice_105 rfl (lv_at hl 3 rfl) ?_
          obtain ⟨v16, h17, ev, hs⟩ := q_cal2 hs
          refine q_callV (pc := 106) (q := 72) (As := [.int (gI h11 72 41), .int a3]) (rest := []) (rs := [.int v16]) hx hb hml hl.1 hts hown hK hSt hN hw ((rc_LIGHT l G 8) (gI h11 72 41) a3 h11 v16 h17 ev) rfl rfl cv_X11_361 (rm_ok hR (by decide)) rfl (Nat.le_of_ble_eq_true rfl) rfl rfl dX11_voice_106 (fun H locs hw => ?_)
          exact q_iretW hret dX11_voice_109 hw hs
        replace hs := q_f hc2 hs
        refine lv_tableOut (pc := 55) (tgt := 110) hx hb dX11_voice_55 (by have thc0 := toInt_ne hc0; have thc1 := toInt_ne hc1; have thc2 := toInt_ne hc2; omega) (by decide) ?_
        refine lv_aload_n (pc := 110) hx hb dX11_voice_110 rfl (lv_at hl 0 rfl) ?_
        refine lv_aload_n (pc := 111) hx hb dX11_voice_111 rfl (lv_at hl 0 rfl) ?_
        refine q_getI (pc := 112) (q := 72) hx hb hts hown hK hw rfl fg_X11_364 dX11_voice_112 ?_
        refine lv_iload_n (pc := 115) hx hb dX11_voice_115 rfl (lv_at hl 3 rfl) ?_
        obtain ⟨v18, h19, ev, hs⟩ := q_cal2 hs
        refine q_callV (pc := 116) (q := 72) (As := [.int (gI h11 72 41), .int a3]) (rest := []) (rs := [.int v18]) hx hb hml hl.1 hts hown hK hSt hN hw ((rc_TELLS l G 8) (gI h11 72 41) a3 h11 v18 h19 ev) rfl rfl cv_X11_370 (rm_ok hR (by decide)) rfl (Nat.le_of_ble_eq_true rfl) rfl rfl dX11_voice_116 (fun H locs hw => ?_)
        exact q_iretW hret dX11_voice_119 hw hs
      · replace hs := q_f (fun z => z hc) hs
        exact hK2 hs _ _ hw _ (lv_sub hl [0] rfl)

set_option maxHeartbeats 4000000 in
theorem c_X11_trace (l : Launch) (G : GG) (a1 : Int32) (h : Mem) (v : Int32) (h' : Mem) (hs : f_X11_trace h a1 = some (v, h')) : Sat l G yX11_trace cX11_trace 2 (some .int) 1 [.ref (G.2.2.1 72), .int a1] h (some (.int v)) h' := by
  refine Sat.mkI (by decide) (Nat.le_of_ble_eq_true rfl) ?_
  intro p e R s m args below meth c Q F hret hw ls hl
  obtain ⟨hx, hb, hml, hown, hts, hK, hSt, hN, hR⟩ := F
  have hl : lv_has ls 2 [(0, .ref (G.2.2.1 72)), (1, .int a1)] := hl
  unfold f_X11_trace at hs
  refine lv_iload_n (pc := 0) hx hb dX11_trace_0 rfl (lv_at hl 1 rfl) ?_
  refine lv_iconst (pc := 1) (v := (iI 0)) hx hb dX11_trace_1 rfl ?_
  refine lv_aload_n (pc := 2) hx hb dX11_trace_2 rfl (lv_at hl 0 rfl) ?_
  refine q_getI (pc := 3) (q := 72) hx hb hts hown hK hw rfl fg_X11_346 dX11_trace_3 ?_
  refine lv_iconst (pc := 6) (v := (iI 1)) hx hb dX11_trace_6 rfl ?_
  refine lv_isub (pc := 7) hx hb dX11_trace_7 ?_
  obtain ⟨v1, ev, hs⟩ := q_cal hs
  refine q_callS (pc := 8) (As := [.int a1, .int (iI 0), .int ((gI h 72 40) - (iI 1))]) (rest := []) (rs := [.int v1]) hx hb hml hl.1 hts hown hK hSt hN hw (c_X11_in l G a1 (iI 0) ((gI h 72 40) - (iI 1)) h v1 ev) cs_X11_71 (rm_ok hR (by decide)) rfl (Nat.le_of_ble_eq_true rfl) rfl rfl dX11_trace_8 (fun H locs hw => ?_)
  refine lv_if_eq (pc := 11) (tgt := 23) hx hb dX11_trace_11 (by decide) (fun hc => ?_) (fun hc => ?_)
  · replace hs := q_t hc hs
    refine lv_aload_n (pc := 23) hx hb dX11_trace_23 rfl (lv_at hl 0 rfl) ?_
    refine lv_ldc (pc := 24) (v := (iI (-1000000002))) hx hb hown (hts _ ki_X11_195) dX11_trace_24 ?_
    obtain ⟨v2, h3, ev, hs⟩ := q_cal2 hs
    refine q_callV (pc := 26) (q := 72) (As := [.int (iI (-1000000002))]) (rest := []) (rs := [.int v2]) hx hb hml hl.1 hts hown hK hSt hN hw (c_X11_errs l G (iI (-1000000002)) h v2 h3 ev) rfl rfl cv_X11_79 (rm_ok hR (by decide)) rfl (Nat.le_of_ble_eq_true rfl) rfl rfl dX11_trace_26 (fun H locs hw => ?_)
    exact q_iretW hret dX11_trace_29 hw hs
  · replace hs := q_f hc hs
    refine lv_aload_n (pc := 14) hx hb dX11_trace_14 rfl (lv_at hl 0 rfl) ?_
    refine q_getR (pc := 15) (q := 72) (o := 16) hx hb hts hown hK hw rfl fg_X11_63 dX11_trace_15 ?_
    refine lv_iload_n (pc := 18) hx hb dX11_trace_18 rfl (lv_at hl 1 rfl) ?_
    refine q_ald (pc := 19) (q := 88) (n := 40) hx hb hK hw rfl dX11_trace_19 hs (fun v4 hs => ?_)
    refine lv_goto (pc := 20) (tgt := 29) hx hb dX11_trace_20 (by decide) ?_
    exact q_iretW hret dX11_trace_29 hw hs

set_option maxHeartbeats 4000000 in
theorem c_X11_narrow (l : Launch) (G : GG) (a0 : Int32) (a1 : Int32) (h : Mem) (v : Int32)  (hs : f_X11_narrow h a0 a1 = some v) : Sat l G yX11_narrow cX11_narrow 2 (some .int) 0 [.int a0, .int a1] h (some (.int v)) h := by
  refine Sat.mkI (by decide) (Nat.le_of_ble_eq_true rfl) ?_
  intro p e R s m args below meth c Q F hret hw ls hl
  obtain ⟨hx, hb, hml, hown, hts, hK, hSt, hN, hR⟩ := F
  have hl : lv_has ls 2 [(0, .int a0), (1, .int a1)] := hl
  unfold f_X11_narrow at hs
  refine lv_iload_n (pc := 0) hx hb dX11_narrow_0 rfl (lv_at hl 0 rfl) ?_
  refine lv_bipush (pc := 1) (v := (iI 8)) hx hb dX11_narrow_1 (by decide) ?_
  refine lv_icmp_ne (pc := 3) (tgt := 11) hx hb dX11_narrow_3 (by decide) (fun hc => ?_) (fun hc => ?_)
  · replace hs := q_t hc hs
    refine lv_iload_n (pc := 11) hx hb dX11_narrow_11 rfl (lv_at hl 0 rfl) ?_
    refine lv_bipush (pc := 12) (v := (iI 16)) hx hb dX11_narrow_12 (by decide) ?_
    refine lv_icmp_ne (pc := 14) (tgt := 22) hx hb dX11_narrow_14 (by decide) (fun hc => ?_) (fun hc => ?_)
    · replace hs := q_t hc hs
      refine lv_iload_n (pc := 22) hx hb dX11_narrow_22 rfl (lv_at hl 1 rfl) ?_
      exact q_iret hret dX11_narrow_23 hw hs
    · replace hs := q_f (fun z => z hc) hs
      refine lv_iload_n (pc := 17) hx hb dX11_narrow_17 rfl (lv_at hl 1 rfl) ?_
      refine lv_i2s (pc := 18) (v := (n16I a1)) hx hb dX11_narrow_18 rfl ?_
      refine lv_goto (pc := 19) (tgt := 23) hx hb dX11_narrow_19 (by decide) ?_
      exact q_iret hret dX11_narrow_23 hw hs
  · replace hs := q_f (fun z => z hc) hs
    refine lv_iload_n (pc := 6) hx hb dX11_narrow_6 rfl (lv_at hl 1 rfl) ?_
    refine lv_i2b (pc := 7) (v := (n8I a1)) hx hb dX11_narrow_7 rfl ?_
    refine lv_goto (pc := 8) (tgt := 23) hx hb dX11_narrow_8 (by decide) ?_
    exact q_iret hret dX11_narrow_23 hw hs

set_option maxHeartbeats 4000000 in
set_option maxRecDepth 100000 in
theorem c_X11_sheet (l : Launch) (G : GG) (a1 : Int32) (a2 : Int32) (a3 : Int32) (h : Mem) (v : Int32) (h' : Mem) (hs : f_X11_sheet h a1 a2 a3 = some (v, h')) : Sat l G yX11_sheet cX11_sheet 5 (some .int) 2 [.ref (G.2.2.1 72), .int a1, .int a2, .int a3] h (some (.int v)) h' := by
  refine Sat.mkI (by decide) (Nat.le_of_ble_eq_true rfl) ?_
  intro p e R s m args below meth c Q F hret hw ls hl
  obtain ⟨hx, hb, hml, hown, hts, hK, hSt, hN, hR⟩ := F
  have hl : lv_has ls 5 [(0, .ref (G.2.2.1 72)), (1, .int a1), (2, .int a2), (3, .int a3)] := hl
  unfold f_X11_sheet at hs
  refine lv_iload_n (pc := 0) hx hb dX11_sheet_0 rfl (lv_at hl 1 rfl) ?_
  obtain ⟨v1, ev, hs⟩ := q_cal hs
  refine q_callS (pc := 1) (As := [.int a1]) (rest := []) (rs := [.int v1]) hx hb hml hl.1 hts hown hK hSt hN hw (c_X11_isSheet l G a1 h v1 ev) cs_X11_333 (rm_ok hR (by decide)) rfl (Nat.le_of_ble_eq_true rfl) rfl rfl dX11_sheet_1 (fun H locs hw => ?_)
  refine q_join0 (P0 := ∀ (H : Heap) (locs : List Loc), IW G s h H locs → ∀ ls : Array Slot, lv_has ls 5 [(0, .ref (G.2.2.1 72))] → W p l e R s m args below meth c H locs 0 0 Q (F0 m 29 ls [])) hs ?_ ?_
  · intro  hs H locs hw ls hl
    refine lv_aload_n (pc := 29) hx hb dX11_sheet_29 rfl (lv_at hl 0 rfl) ?_
    refine lv_ldc (pc := 30) (v := (iI (-1000000001))) hx hb hown (hts _ ki_X11_78) dX11_sheet_30 ?_
    obtain ⟨v3, h4, ev, hs⟩ := q_cal2 hs
    refine q_callV (pc := 32) (q := 72) (As := [.int (iI (-1000000001))]) (rest := []) (rs := [.int v3]) hx hb hml hl.1 hts hown hK hSt hN hw (c_X11_errs l G (iI (-1000000001)) h v3 h4 ev) rfl rfl cv_X11_79 (rm_ok hR (by decide)) rfl (Nat.le_of_ble_eq_true rfl) rfl rfl dX11_sheet_32 (fun H locs hw => ?_)
    exact q_iretW hret dX11_sheet_35 hw hs
  · intro K2 hK2 hs
    refine lv_if_eq (pc := 4) (tgt := 29) hx hb dX11_sheet_4 (by decide) (fun hc => ?_) (fun hc => ?_)
    · replace hs := q_t hc hs
      exact hK2 hs _ _ hw _ (lv_sub hl [0] rfl)
    · replace hs := q_f hc hs
      refine lv_iload_n (pc := 7) hx hb dX11_sheet_7 rfl (lv_at hl 2 rfl) ?_
      refine q_join0 (P0 := ∀ (H : Heap) (locs : List Loc), IW G s h H locs → ∀ ls : Array Slot, lv_has ls 5 [(0, .ref (G.2.2.1 72)), (1, .int a1), (2, .int a2), (3, .int a3)] → W p l e R s m args below meth c H locs 0 0 Q (F0 m 36 ls [])) hs ?_ ?_
      · intro  hs H locs hw ls hl
        unfold f_X11_sheet_k5 at hs
        refine lv_iload_n (pc := 36) hx hb dX11_sheet_36 rfl (lv_at hl 2 rfl) ?_
        refine q_join0 (P0 := ∀ (H : Heap) (locs : List Loc), IW G s h H locs → ∀ ls : Array Slot, lv_has ls 5 [(0, .ref (G.2.2.1 72)), (1, .int a1), (2, .int a2), (3, .int a3)] → W p l e R s m args below meth c H locs 0 0 Q (F0 m 51 ls [])) hs ?_ ?_
        · intro  hs H locs hw ls hl
          unfold f_X11_sheet_k6 at hs
          refine lv_iload_n (pc := 51) hx hb dX11_sheet_51 rfl (lv_at hl 2 rfl) ?_
          refine q_join0 (P0 := ∀ (H : Heap) (locs : List Loc), IW G s h H locs → ∀ ls : Array Slot, lv_has ls 5 [(0, .ref (G.2.2.1 72)), (1, .int a1), (2, .int a2), (3, .int a3)] → W p l e R s m args below meth c H locs 0 0 Q (F0 m 68 ls [])) hs ?_ ?_
          · intro  hs H locs hw ls hl
            unfold f_X11_sheet_k7 at hs
            refine lv_aload_n (pc := 68) hx hb dX11_sheet_68 rfl (lv_at hl 0 rfl) ?_
            refine q_getR (pc := 69) (q := 72) (o := 11) hx hb hts hown hK hw rfl fg_X11_48 dX11_sheet_69 ?_
            refine lv_iload_n (pc := 72) hx hb dX11_sheet_72 rfl (lv_at hl 1 rfl) ?_
            refine lv_iload_n (pc := 73) hx hb dX11_sheet_73 rfl (lv_at hl 2 rfl) ?_
            refine q_ast (pc := 74) (q := 83) (n := 4) hx hb hK hw rfl dX11_sheet_74 hs (fun h8 H locs hw hs => ?_)
            refine lv_aload_n (pc := 75) hx hb dX11_sheet_75 rfl (lv_at hl 0 rfl) ?_
            refine q_getR (pc := 76) (q := 72) (o := 12) hx hb hts hown hK hw rfl fg_X11_51 dX11_sheet_76 ?_
            refine lv_iload_n (pc := 79) hx hb dX11_sheet_79 rfl (lv_at hl 1 rfl) ?_
            refine lv_iload_n (pc := 80) hx hb dX11_sheet_80 rfl (lv_at hl 2 rfl) ?_
            refine q_join1 (P0 := fun (x9 : Int32) => ∀ (H : Heap) (locs : List Loc), IW G s h8 H locs → ∀ ls : Array Slot, lv_has ls 5 [(0, .ref (G.2.2.1 72)), (1, .int a1)] → W p l e R s m args below meth c H locs 0 0 Q (F0 m 89 ls [.int x9, .int a1, .ref (G.2.2.1 84)])) hs ?_ ?_
            · intro x9 hs H locs hw ls hl
              refine q_ast (pc := 89) (q := 84) (n := 4) hx hb hK hw rfl dX11_sheet_89 hs (fun h11 H locs hw hs => ?_)
              refine lv_iconst (pc := 90) (v := (iI 0)) hx hb dX11_sheet_90 rfl ?_
              refine lv_istore (pc := 91) (lv' := [(4, .int (iI 0)), (0, .ref (G.2.2.1 72)), (1, .int a1)]) hx hb dX11_sheet_91 hl (by decide) rfl (fun ls hl => ?_)
              refine (q_lo2 (P0 := fun (x12 : Int32) (h13 : Mem) => ∀ (H : Heap) (locs : List Loc), IW G s h13 H locs → ∀ ls : Array Slot, lv_has ls 5 [(0, .ref (G.2.2.1 72)), (1, .int a1), (4, .int x12)] → W p l e R s m args below meth c H locs 0 0 Q (F0 m 93 ls [])) hs ?_) _ _ hw _ (lv_sub hl [1, 2, 0] rfl)
              intro K14 hK14 x12 h13 hs H locs hw ls hl
              unfold f_X11_sheet_k14 at hs
              refine lv_iload (pc := 93) hx hb dX11_sheet_93 (lv_at hl 2 rfl) ?_
              refine lv_bipush (pc := 95) (v := (iI 40)) hx hb dX11_sheet_95 (by decide) ?_
              refine lv_icmp_ge (pc := 97) (tgt := 119) hx hb dX11_sheet_97 (by decide) (fun hc => ?_) (fun hc => ?_)
              · replace hs := q_t hc hs
                refine lv_iconst (pc := 119) (v := (iI 1)) hx hb dX11_sheet_119 rfl ?_
                exact q_iretW hret dX11_sheet_120 hw hs
              · replace hs := q_f hc hs
                refine lv_aload_n (pc := 100) hx hb dX11_sheet_100 rfl (lv_at hl 0 rfl) ?_
                refine q_getR (pc := 101) (q := 72) (o := 13) hx hb hts hown hK hw rfl fg_X11_54 dX11_sheet_101 ?_
                refine lv_bipush (pc := 104) (v := (iI 40)) hx hb dX11_sheet_104 (by decide) ?_
                refine lv_iload_n (pc := 106) hx hb dX11_sheet_106 rfl (lv_at hl 1 rfl) ?_
                refine lv_imul (pc := 107) hx hb dX11_sheet_107 ?_
                refine lv_iload (pc := 108) hx hb dX11_sheet_108 (lv_at hl 2 rfl) ?_
                refine lv_iadd (pc := 110) hx hb dX11_sheet_110 ?_
                refine lv_iconst (pc := 111) (v := (iI 0)) hx hb dX11_sheet_111 rfl ?_
                refine q_ast (pc := 112) (q := 85) (n := 160) hx hb hK hw rfl dX11_sheet_112 hs (fun h15 H locs hw hs => ?_)
                obtain ⟨x16, ex16, hs⟩ := q_nm hs
                refine lv_iinc (pc := 113) (v := x16) (lv' := [(4, .int x16), (0, .ref (G.2.2.1 72)), (1, .int a1)]) hx hb dX11_sheet_113 hl (k := 2) rfl ex16 (by decide) rfl (fun ls hl => ?_)
                refine lv_goto (pc := 116) (tgt := 93) hx hb dX11_sheet_116 (by decide) ?_
                exact hK14 _ _ hs _ _ hw _ (lv_sub hl [1, 2, 0] rfl)
            · intro K10 hK10 hs
              refine lv_if_ne (pc := 81) (tgt := 88) hx hb dX11_sheet_81 (by decide) (fun hc => ?_) (fun hc => ?_)
              · replace hs := q_t hc hs
                refine lv_iload_n (pc := 88) hx hb dX11_sheet_88 rfl (lv_at hl 3 rfl) ?_
                exact hK10 _ hs _ _ hw _ (lv_sub hl [0, 1] rfl)
              · replace hs := q_f (fun z => z hc) hs
                refine lv_iconst (pc := 84) (v := (iI 0)) hx hb dX11_sheet_84 rfl ?_
                refine lv_goto (pc := 85) (tgt := 89) hx hb dX11_sheet_85 (by decide) ?_
                exact hK10 _ hs _ _ hw _ (lv_sub hl [0, 1] rfl)
          · intro K7 hK7 hs
            refine lv_if_eq (pc := 52) (tgt := 68) hx hb dX11_sheet_52 (by decide) (fun hc => ?_) (fun hc => ?_)
            · replace hs := q_t hc hs
              exact hK7 hs _ _ hw _ (lv_sub hl [0, 1, 2, 3] rfl)
            · replace hs := q_f hc hs
              refine lv_iload_n (pc := 55) hx hb dX11_sheet_55 rfl (lv_at hl 3 rfl) ?_
              refine lv_bipush (pc := 56) (v := (iI 40)) hx hb dX11_sheet_56 (by decide) ?_
              refine lv_icmp_le (pc := 58) (tgt := 68) hx hb dX11_sheet_58 (by decide) (fun hc => ?_) (fun hc => ?_)
              · replace hs := q_t hc hs
                exact hK7 hs _ _ hw _ (lv_sub hl [0, 1, 2, 3] rfl)
              · replace hs := q_f hc hs
                refine lv_aload_n (pc := 61) hx hb dX11_sheet_61 rfl (lv_at hl 0 rfl) ?_
                refine lv_ldc (pc := 62) (v := (iI (-1000000001))) hx hb hown (hts _ ki_X11_78) dX11_sheet_62 ?_
                obtain ⟨v17, h18, ev, hs⟩ := q_cal2 hs
                refine q_callV (pc := 64) (q := 72) (As := [.int (iI (-1000000001))]) (rest := []) (rs := [.int v17]) hx hb hml hl.1 hts hown hK hSt hN hw (c_X11_errs l G (iI (-1000000001)) h v17 h18 ev) rfl rfl cv_X11_79 (rm_ok hR (by decide)) rfl (Nat.le_of_ble_eq_true rfl) rfl rfl dX11_sheet_64 (fun H locs hw => ?_)
                exact q_iretW hret dX11_sheet_67 hw hs
        · intro K6 hK6 hs
          refine lv_if_eq (pc := 37) (tgt := 51) hx hb dX11_sheet_37 (by decide) (fun hc => ?_) (fun hc => ?_)
          · replace hs := q_t hc hs
            exact hK6 hs _ _ hw _ (lv_sub hl [0, 1, 2, 3] rfl)
          · replace hs := q_f hc hs
            refine lv_iload_n (pc := 40) hx hb dX11_sheet_40 rfl (lv_at hl 3 rfl) ?_
            refine lv_if_ge (pc := 41) (tgt := 51) hx hb dX11_sheet_41 (by decide) (fun hc => ?_) (fun hc => ?_)
            · replace hs := q_t hc hs
              exact hK6 hs _ _ hw _ (lv_sub hl [0, 1, 2, 3] rfl)
            · replace hs := q_f hc hs
              refine lv_aload_n (pc := 44) hx hb dX11_sheet_44 rfl (lv_at hl 0 rfl) ?_
              refine lv_ldc (pc := 45) (v := (iI (-1000000003))) hx hb hown (hts _ ki_X11_128) dX11_sheet_45 ?_
              obtain ⟨v19, h20, ev, hs⟩ := q_cal2 hs
              refine q_callV (pc := 47) (q := 72) (As := [.int (iI (-1000000003))]) (rest := []) (rs := [.int v19]) hx hb hml hl.1 hts hown hK hSt hN hw (c_X11_errs l G (iI (-1000000003)) h v19 h20 ev) rfl rfl cv_X11_79 (rm_ok hR (by decide)) rfl (Nat.le_of_ble_eq_true rfl) rfl rfl dX11_sheet_47 (fun H locs hw => ?_)
              exact q_iretW hret dX11_sheet_50 hw hs
      · intro K5 hK5 hs
        refine lv_if_eq (pc := 8) (tgt := 36) hx hb dX11_sheet_8 (by decide) (fun hc => ?_) (fun hc => ?_)
        · replace hs := q_t hc hs
          exact hK5 hs _ _ hw _ (lv_sub hl [0, 1, 2, 3] rfl)
        · replace hs := q_f hc hs
          refine lv_iload_n (pc := 11) hx hb dX11_sheet_11 rfl (lv_at hl 2 rfl) ?_
          refine lv_bipush (pc := 12) (v := (iI 8)) hx hb dX11_sheet_12 (by decide) ?_
          refine lv_icmp_eq (pc := 14) (tgt := 36) hx hb dX11_sheet_14 (by decide) (fun hc => ?_) (fun hc => ?_)
          · replace hs := q_t hc hs
            exact hK5 hs _ _ hw _ (lv_sub hl [0, 1, 2, 3] rfl)
          · replace hs := q_f hc hs
            refine lv_iload_n (pc := 17) hx hb dX11_sheet_17 rfl (lv_at hl 2 rfl) ?_
            refine lv_bipush (pc := 18) (v := (iI 16)) hx hb dX11_sheet_18 (by decide) ?_
            refine lv_icmp_eq (pc := 20) (tgt := 36) hx hb dX11_sheet_20 (by decide) (fun hc => ?_) (fun hc => ?_)
            · replace hs := q_t hc hs
              exact hK5 hs _ _ hw _ (lv_sub hl [0, 1, 2, 3] rfl)
            · replace hs := q_f hc hs
              refine lv_iload_n (pc := 23) hx hb dX11_sheet_23 rfl (lv_at hl 2 rfl) ?_
              refine lv_bipush (pc := 24) (v := (iI 32)) hx hb dX11_sheet_24 (by decide) ?_
              refine lv_icmp_eq (pc := 26) (tgt := 36) hx hb dX11_sheet_26 (by decide) (fun hc => ?_) (fun hc => ?_)
              · replace hs := q_t hc hs
                exact hK5 hs _ _ hw _ (lv_sub hl [0, 1, 2, 3] rfl)
              · replace hs := q_f hc hs
                exact hK2 hs _ _ hw _ (lv_sub hl [0] rfl)

set_option maxHeartbeats 4000000 in
theorem c_X11_put (l : Launch) (G : GG) (a1 : Int32) (a2 : Int32) (a3 : Int32) (h : Mem) (v : Int32) (h' : Mem) (hs : f_X11_put h a1 a2 a3 = some (v, h')) : Sat l G yX11_put cX11_put 4 (some .int) 2 [.ref (G.2.2.1 72), .int a1, .int a2, .int a3] h (some (.int v)) h' := by
  refine Sat.mkI (by decide) (Nat.le_of_ble_eq_true rfl) ?_
  intro p e R s m args below meth c Q F hret hw ls hl
  obtain ⟨hx, hb, hml, hown, hts, hK, hSt, hN, hR⟩ := F
  have hl : lv_has ls 4 [(0, .ref (G.2.2.1 72)), (1, .int a1), (2, .int a2), (3, .int a3)] := hl
  unfold f_X11_put at hs
  refine lv_iload_n (pc := 0) hx hb dX11_put_0 rfl (lv_at hl 1 rfl) ?_
  obtain ⟨v1, ev, hs⟩ := q_cal hs
  refine q_callS (pc := 1) (As := [.int a1]) (rest := []) (rs := [.int v1]) hx hb hml hl.1 hts hown hK hSt hN hw (c_X11_isSheet l G a1 h v1 ev) cs_X11_333 (rm_ok hR (by decide)) rfl (Nat.le_of_ble_eq_true rfl) rfl rfl dX11_put_1 (fun H locs hw => ?_)
  refine lv_if_ne (pc := 4) (tgt := 14) hx hb dX11_put_4 (by decide) (fun hc => ?_) (fun hc => ?_)
  · replace hs := q_t hc hs
    refine lv_aload_n (pc := 14) hx hb dX11_put_14 rfl (lv_at hl 0 rfl) ?_
    refine q_getR (pc := 15) (q := 72) (o := 11) hx hb hts hown hK hw rfl fg_X11_48 dX11_put_15 ?_
    refine lv_iload_n (pc := 18) hx hb dX11_put_18 rfl (lv_at hl 1 rfl) ?_
    refine q_ald (pc := 19) (q := 83) (n := 4) hx hb hK hw rfl dX11_put_19 hs (fun v2 hs => ?_)
    refine lv_if_ne (pc := 20) (tgt := 30) hx hb dX11_put_20 (by decide) (fun hc => ?_) (fun hc => ?_)
    · replace hs := q_t hc hs
      refine lv_iload_n (pc := 30) hx hb dX11_put_30 rfl (lv_at hl 2 rfl) ?_
      refine lv_iconst (pc := 31) (v := (iI 0)) hx hb dX11_put_31 rfl ?_
      refine lv_aload_n (pc := 32) hx hb dX11_put_32 rfl (lv_at hl 0 rfl) ?_
      refine q_getR (pc := 33) (q := 72) (o := 12) hx hb hts hown hK hw rfl fg_X11_51 dX11_put_33 ?_
      refine lv_iload_n (pc := 36) hx hb dX11_put_36 rfl (lv_at hl 1 rfl) ?_
      refine q_ald (pc := 37) (q := 84) (n := 4) hx hb hK hw rfl dX11_put_37 hs (fun v3 hs => ?_)
      refine lv_iconst (pc := 38) (v := (iI 1)) hx hb dX11_put_38 rfl ?_
      refine lv_isub (pc := 39) hx hb dX11_put_39 ?_
      obtain ⟨v4, ev, hs⟩ := q_cal hs
      refine q_callS (pc := 40) (As := [.int a2, .int (iI 0), .int (v3 - (iI 1))]) (rest := []) (rs := [.int v4]) hx hb hml hl.1 hts hown hK hSt hN hw (c_X11_in l G a2 (iI 0) (v3 - (iI 1)) h v4 ev) cs_X11_71 (rm_ok hR (by decide)) rfl (Nat.le_of_ble_eq_true rfl) rfl rfl dX11_put_40 (fun H locs hw => ?_)
      refine lv_if_ne (pc := 43) (tgt := 53) hx hb dX11_put_43 (by decide) (fun hc => ?_) (fun hc => ?_)
      · replace hs := q_t hc hs
        refine lv_aload_n (pc := 53) hx hb dX11_put_53 rfl (lv_at hl 0 rfl) ?_
        refine q_getR (pc := 54) (q := 72) (o := 13) hx hb hts hown hK hw rfl fg_X11_54 dX11_put_54 ?_
        refine lv_bipush (pc := 57) (v := (iI 40)) hx hb dX11_put_57 (by decide) ?_
        refine lv_iload_n (pc := 59) hx hb dX11_put_59 rfl (lv_at hl 1 rfl) ?_
        refine lv_imul (pc := 60) hx hb dX11_put_60 ?_
        refine lv_iload_n (pc := 61) hx hb dX11_put_61 rfl (lv_at hl 2 rfl) ?_
        refine lv_iadd (pc := 62) hx hb dX11_put_62 ?_
        refine lv_aload_n (pc := 63) hx hb dX11_put_63 rfl (lv_at hl 0 rfl) ?_
        refine q_getR (pc := 64) (q := 72) (o := 11) hx hb hts hown hK hw rfl fg_X11_48 dX11_put_64 ?_
        refine lv_iload_n (pc := 67) hx hb dX11_put_67 rfl (lv_at hl 1 rfl) ?_
        refine q_ald (pc := 68) (q := 83) (n := 4) hx hb hK hw rfl dX11_put_68 hs (fun v5 hs => ?_)
        refine lv_iload_n (pc := 69) hx hb dX11_put_69 rfl (lv_at hl 3 rfl) ?_
        obtain ⟨v6, ev, hs⟩ := q_cal hs
        refine q_callS (pc := 70) (As := [.int v5, .int a3]) (rest := [.int (((iI 40) * a1) + a2), .ref (G.2.2.1 85)]) (rs := [.int v6, .int (((iI 40) * a1) + a2), .ref (G.2.2.1 85)]) hx hb hml hl.1 hts hown hK hSt hN hw (c_X11_narrow l G v5 a3 h v6 ev) cs_X11_373 (rm_ok hR (by decide)) rfl (Nat.le_of_ble_eq_true rfl) rfl rfl dX11_put_70 (fun H locs hw => ?_)
        refine q_ast (pc := 73) (q := 85) (n := 160) hx hb hK hw rfl dX11_put_73 hs (fun h7 H locs hw hs => ?_)
        refine lv_iconst (pc := 74) (v := (iI 1)) hx hb dX11_put_74 rfl ?_
        exact q_iretW hret dX11_put_75 hw hs
      · replace hs := q_f (fun z => z hc) hs
        refine lv_aload_n (pc := 46) hx hb dX11_put_46 rfl (lv_at hl 0 rfl) ?_
        refine lv_ldc (pc := 47) (v := (iI (-1000000001))) hx hb hown (hts _ ki_X11_78) dX11_put_47 ?_
        obtain ⟨v8, h9, ev, hs⟩ := q_cal2 hs
        refine q_callV (pc := 49) (q := 72) (As := [.int (iI (-1000000001))]) (rest := []) (rs := [.int v8]) hx hb hml hl.1 hts hown hK hSt hN hw (c_X11_errs l G (iI (-1000000001)) h v8 h9 ev) rfl rfl cv_X11_79 (rm_ok hR (by decide)) rfl (Nat.le_of_ble_eq_true rfl) rfl rfl dX11_put_49 (fun H locs hw => ?_)
        exact q_iretW hret dX11_put_52 hw hs
    · replace hs := q_f (fun z => z hc) hs
      refine lv_aload_n (pc := 23) hx hb dX11_put_23 rfl (lv_at hl 0 rfl) ?_
      refine lv_ldc (pc := 24) (v := (iI (-1000000002))) hx hb hown (hts _ ki_X11_195) dX11_put_24 ?_
      obtain ⟨v10, h11, ev, hs⟩ := q_cal2 hs
      refine q_callV (pc := 26) (q := 72) (As := [.int (iI (-1000000002))]) (rest := []) (rs := [.int v10]) hx hb hml hl.1 hts hown hK hSt hN hw (c_X11_errs l G (iI (-1000000002)) h v10 h11 ev) rfl rfl cv_X11_79 (rm_ok hR (by decide)) rfl (Nat.le_of_ble_eq_true rfl) rfl rfl dX11_put_26 (fun H locs hw => ?_)
      exact q_iretW hret dX11_put_29 hw hs
  · replace hs := q_f (fun z => z hc) hs
    refine lv_aload_n (pc := 7) hx hb dX11_put_7 rfl (lv_at hl 0 rfl) ?_
    refine lv_ldc (pc := 8) (v := (iI (-1000000001))) hx hb hown (hts _ ki_X11_78) dX11_put_8 ?_
    obtain ⟨v12, h13, ev, hs⟩ := q_cal2 hs
    refine q_callV (pc := 10) (q := 72) (As := [.int (iI (-1000000001))]) (rest := []) (rs := [.int v12]) hx hb hml hl.1 hts hown hK hSt hN hw (c_X11_errs l G (iI (-1000000001)) h v12 h13 ev) rfl rfl cv_X11_79 (rm_ok hR (by decide)) rfl (Nat.le_of_ble_eq_true rfl) rfl rfl dX11_put_10 (fun H locs hw => ?_)
    exact q_iretW hret dX11_put_13 hw hs

set_option maxHeartbeats 4000000 in
set_option maxRecDepth 100000 in
theorem c_X11_move (l : Launch) (G : GG) (a1 : Int32) (a2 : Int32) (a3 : Int32) (a4 : Int32) (a5 : Int32) (h : Mem) (v : Int32) (h' : Mem) (hs : f_X11_move h a1 a2 a3 a4 a5 = some (v, h')) : Sat l G yX11_move cX11_move 7 (some .int) 2 [.ref (G.2.2.1 72), .int a1, .int a2, .int a3, .int a4, .int a5] h (some (.int v)) h' := by
  refine Sat.mkI (by decide) (Nat.le_of_ble_eq_true rfl) ?_
  intro p e R s m args below meth c Q F hret hw ls hl
  obtain ⟨hx, hb, hml, hown, hts, hK, hSt, hN, hR⟩ := F
  have hl : lv_has ls 7 [(0, .ref (G.2.2.1 72)), (1, .int a1), (2, .int a2), (3, .int a3), (4, .int a4), (5, .int a5)] := hl
  unfold f_X11_move at hs
  refine lv_iload_n (pc := 0) hx hb dX11_move_0 rfl (lv_at hl 1 rfl) ?_
  obtain ⟨v1, ev, hs⟩ := q_cal hs
  refine q_callS (pc := 1) (As := [.int a1]) (rest := []) (rs := [.int v1]) hx hb hml hl.1 hts hown hK hSt hN hw (c_X11_isSheet l G a1 h v1 ev) cs_X11_333 (rm_ok hR (by decide)) rfl (Nat.le_of_ble_eq_true rfl) rfl rfl dX11_move_1 (fun H locs hw => ?_)
  refine q_join0 (P0 := ∀ (H : Heap) (locs : List Loc), IW G s h H locs → ∀ ls : Array Slot, lv_has ls 7 [(0, .ref (G.2.2.1 72))] → W p l e R s m args below meth c H locs 0 0 Q (F0 m 14 ls [])) hs ?_ ?_
  · intro  hs H locs hw ls hl
    refine lv_aload_n (pc := 14) hx hb dX11_move_14 rfl (lv_at hl 0 rfl) ?_
    refine lv_ldc (pc := 15) (v := (iI (-1000000001))) hx hb hown (hts _ ki_X11_78) dX11_move_15 ?_
    obtain ⟨v3, h4, ev, hs⟩ := q_cal2 hs
    refine q_callV (pc := 17) (q := 72) (As := [.int (iI (-1000000001))]) (rest := []) (rs := [.int v3]) hx hb hml hl.1 hts hown hK hSt hN hw (c_X11_errs l G (iI (-1000000001)) h v3 h4 ev) rfl rfl cv_X11_79 (rm_ok hR (by decide)) rfl (Nat.le_of_ble_eq_true rfl) rfl rfl dX11_move_17 (fun H locs hw => ?_)
    exact q_iretW hret dX11_move_20 hw hs
  · intro K2 hK2 hs
    refine lv_if_eq (pc := 4) (tgt := 14) hx hb dX11_move_4 (by decide) (fun hc => ?_) (fun hc => ?_)
    · replace hs := q_t hc hs
      exact hK2 hs _ _ hw _ (lv_sub hl [0] rfl)
    · replace hs := q_f hc hs
      refine lv_iload_n (pc := 7) hx hb dX11_move_7 rfl (lv_at hl 3 rfl) ?_
      obtain ⟨v5, ev, hs⟩ := q_cal hs
      refine q_callS (pc := 8) (As := [.int a3]) (rest := []) (rs := [.int v5]) hx hb hml hl.1 hts hown hK hSt hN hw (c_X11_isSheet l G a3 h v5 ev) cs_X11_333 (rm_ok hR (by decide)) rfl (Nat.le_of_ble_eq_true rfl) rfl rfl dX11_move_8 (fun H locs hw => ?_)
      refine lv_if_ne (pc := 11) (tgt := 21) hx hb dX11_move_11 (by decide) (fun hc => ?_) (fun hc => ?_)
      · replace hs := q_t hc hs
        refine lv_aload_n (pc := 21) hx hb dX11_move_21 rfl (lv_at hl 0 rfl) ?_
        refine q_getR (pc := 22) (q := 72) (o := 11) hx hb hts hown hK hw rfl fg_X11_48 dX11_move_22 ?_
        refine lv_iload_n (pc := 25) hx hb dX11_move_25 rfl (lv_at hl 1 rfl) ?_
        refine q_ald (pc := 26) (q := 83) (n := 4) hx hb hK hw rfl dX11_move_26 hs (fun v6 hs => ?_)
        refine q_join0 (P0 := ∀ (H : Heap) (locs : List Loc), IW G s h H locs → ∀ ls : Array Slot, lv_has ls 7 [(0, .ref (G.2.2.1 72))] → W p l e R s m args below meth c H locs 0 0 Q (F0 m 39 ls [])) hs ?_ ?_
        · intro  hs H locs hw ls hl
          refine lv_aload_n (pc := 39) hx hb dX11_move_39 rfl (lv_at hl 0 rfl) ?_
          refine lv_ldc (pc := 40) (v := (iI (-1000000002))) hx hb hown (hts _ ki_X11_195) dX11_move_40 ?_
          obtain ⟨v8, h9, ev, hs⟩ := q_cal2 hs
          refine q_callV (pc := 42) (q := 72) (As := [.int (iI (-1000000002))]) (rest := []) (rs := [.int v8]) hx hb hml hl.1 hts hown hK hSt hN hw (c_X11_errs l G (iI (-1000000002)) h v8 h9 ev) rfl rfl cv_X11_79 (rm_ok hR (by decide)) rfl (Nat.le_of_ble_eq_true rfl) rfl rfl dX11_move_42 (fun H locs hw => ?_)
          exact q_iretW hret dX11_move_45 hw hs
        · intro K7 hK7 hs
          refine lv_if_eq (pc := 27) (tgt := 39) hx hb dX11_move_27 (by decide) (fun hc => ?_) (fun hc => ?_)
          · replace hs := q_t hc hs
            exact hK7 hs _ _ hw _ (lv_sub hl [0] rfl)
          · replace hs := q_f hc hs
            refine lv_aload_n (pc := 30) hx hb dX11_move_30 rfl (lv_at hl 0 rfl) ?_
            refine q_getR (pc := 31) (q := 72) (o := 11) hx hb hts hown hK hw rfl fg_X11_48 dX11_move_31 ?_
            refine lv_iload_n (pc := 34) hx hb dX11_move_34 rfl (lv_at hl 3 rfl) ?_
            refine q_ald (pc := 35) (q := 83) (n := 4) hx hb hK hw rfl dX11_move_35 hs (fun v10 hs => ?_)
            refine lv_if_ne (pc := 36) (tgt := 46) hx hb dX11_move_36 (by decide) (fun hc => ?_) (fun hc => ?_)
            · replace hs := q_t hc hs
              refine lv_aload_n (pc := 46) hx hb dX11_move_46 rfl (lv_at hl 0 rfl) ?_
              refine q_getR (pc := 47) (q := 72) (o := 11) hx hb hts hown hK hw rfl fg_X11_48 dX11_move_47 ?_
              refine lv_iload_n (pc := 50) hx hb dX11_move_50 rfl (lv_at hl 1 rfl) ?_
              refine q_ald (pc := 51) (q := 83) (n := 4) hx hb hK hw rfl dX11_move_51 hs (fun v11 hs => ?_)
              refine lv_aload_n (pc := 52) hx hb dX11_move_52 rfl (lv_at hl 0 rfl) ?_
              refine q_getR (pc := 53) (q := 72) (o := 11) hx hb hts hown hK hw rfl fg_X11_48 dX11_move_53 ?_
              refine lv_iload_n (pc := 56) hx hb dX11_move_56 rfl (lv_at hl 3 rfl) ?_
              refine q_ald (pc := 57) (q := 83) (n := 4) hx hb hK hw rfl dX11_move_57 hs (fun v12 hs => ?_)
              refine lv_icmp_eq (pc := 58) (tgt := 68) hx hb dX11_move_58 (by decide) (fun hc => ?_) (fun hc => ?_)
              · replace hs := q_t hc hs
                refine lv_iload (pc := 68) hx hb dX11_move_68 (lv_at hl 5 rfl) ?_
                refine q_join0 (P0 := ∀ (H : Heap) (locs : List Loc), IW G s h H locs → ∀ ls : Array Slot, lv_has ls 7 [(0, .ref (G.2.2.1 72))] → W p l e R s m args below meth c H locs 0 0 Q (F0 m 109 ls [])) hs ?_ ?_
                · intro  hs H locs hw ls hl
                  refine lv_aload_n (pc := 109) hx hb dX11_move_109 rfl (lv_at hl 0 rfl) ?_
                  refine lv_ldc (pc := 110) (v := (iI (-1000000001))) hx hb hown (hts _ ki_X11_78) dX11_move_110 ?_
                  obtain ⟨v14, h15, ev, hs⟩ := q_cal2 hs
                  refine q_callV (pc := 112) (q := 72) (As := [.int (iI (-1000000001))]) (rest := []) (rs := [.int v14]) hx hb hml hl.1 hts hown hK hSt hN hw (c_X11_errs l G (iI (-1000000001)) h v14 h15 ev) rfl rfl cv_X11_79 (rm_ok hR (by decide)) rfl (Nat.le_of_ble_eq_true rfl) rfl rfl dX11_move_112 (fun H locs hw => ?_)
                  exact q_iretW hret dX11_move_115 hw hs
                · intro K13 hK13 hs
                  refine lv_if_lt (pc := 70) (tgt := 109) hx hb dX11_move_70 (by decide) (fun hc => ?_) (fun hc => ?_)
                  · replace hs := q_t hc hs
                    exact hK13 hs _ _ hw _ (lv_sub hl [0] rfl)
                  · replace hs := q_f hc hs
                    refine lv_iload_n (pc := 73) hx hb dX11_move_73 rfl (lv_at hl 2 rfl) ?_
                    refine lv_if_lt (pc := 74) (tgt := 109) hx hb dX11_move_74 (by decide) (fun hc => ?_) (fun hc => ?_)
                    · replace hs := q_t hc hs
                      exact hK13 hs _ _ hw _ (lv_sub hl [0] rfl)
                    · replace hs := q_f hc hs
                      refine lv_iload (pc := 77) hx hb dX11_move_77 (lv_at hl 4 rfl) ?_
                      refine lv_if_lt (pc := 79) (tgt := 109) hx hb dX11_move_79 (by decide) (fun hc => ?_) (fun hc => ?_)
                      · replace hs := q_t hc hs
                        exact hK13 hs _ _ hw _ (lv_sub hl [0] rfl)
                      · replace hs := q_f hc hs
                        refine lv_iload_n (pc := 82) hx hb dX11_move_82 rfl (lv_at hl 2 rfl) ?_
                        refine lv_aload_n (pc := 83) hx hb dX11_move_83 rfl (lv_at hl 0 rfl) ?_
                        refine q_getR (pc := 84) (q := 72) (o := 12) hx hb hts hown hK hw rfl fg_X11_51 dX11_move_84 ?_
                        refine lv_iload_n (pc := 87) hx hb dX11_move_87 rfl (lv_at hl 1 rfl) ?_
                        refine q_ald (pc := 88) (q := 84) (n := 4) hx hb hK hw rfl dX11_move_88 hs (fun v16 hs => ?_)
                        refine lv_iload (pc := 89) hx hb dX11_move_89 (lv_at hl 5 rfl) ?_
                        refine lv_isub (pc := 91) hx hb dX11_move_91 ?_
                        refine lv_icmp_gt (pc := 92) (tgt := 109) hx hb dX11_move_92 (by decide) (fun hc => ?_) (fun hc => ?_)
                        · replace hs := q_t hc hs
                          exact hK13 hs _ _ hw _ (lv_sub hl [0] rfl)
                        · replace hs := q_f hc hs
                          refine lv_iload (pc := 95) hx hb dX11_move_95 (lv_at hl 4 rfl) ?_
                          refine lv_aload_n (pc := 97) hx hb dX11_move_97 rfl (lv_at hl 0 rfl) ?_
                          refine q_getR (pc := 98) (q := 72) (o := 12) hx hb hts hown hK hw rfl fg_X11_51 dX11_move_98 ?_
                          refine lv_iload_n (pc := 101) hx hb dX11_move_101 rfl (lv_at hl 3 rfl) ?_
                          refine q_ald (pc := 102) (q := 84) (n := 4) hx hb hK hw rfl dX11_move_102 hs (fun v17 hs => ?_)
                          refine lv_iload (pc := 103) hx hb dX11_move_103 (lv_at hl 5 rfl) ?_
                          refine lv_isub (pc := 105) hx hb dX11_move_105 ?_
                          refine lv_icmp_le (pc := 106) (tgt := 116) hx hb dX11_move_106 (by decide) (fun hc => ?_) (fun hc => ?_)
                          · replace hs := q_t hc hs
                            refine lv_iconst (pc := 116) (v := (iI 0)) hx hb dX11_move_116 rfl ?_
                            refine lv_istore (pc := 117) (lv' := [(6, .int (iI 0)), (0, .ref (G.2.2.1 72)), (1, .int a1), (2, .int a2), (3, .int a3), (4, .int a4), (5, .int a5)]) hx hb dX11_move_117 hl (by decide) rfl (fun ls hl => ?_)
                            refine (q_lo2 (P0 := fun (x18 : Int32) (h19 : Mem) => ∀ (H : Heap) (locs : List Loc), IW G s h19 H locs → ∀ ls : Array Slot, lv_has ls 7 [(0, .ref (G.2.2.1 72)), (1, .int a1), (2, .int a2), (3, .int a3), (4, .int a4), (5, .int a5), (6, .int x18)] → W p l e R s m args below meth c H locs 0 0 Q (F0 m 119 ls [])) hs ?_) _ _ hw _ (lv_sub hl [1, 2, 3, 4, 5, 6, 0] rfl)
                            intro K20 hK20 x18 h19 hs H locs hw ls hl
                            unfold f_X11_move_k20 at hs
                            refine lv_iload (pc := 119) hx hb dX11_move_119 (lv_at hl 6 rfl) ?_
                            refine lv_iload (pc := 121) hx hb dX11_move_121 (lv_at hl 5 rfl) ?_
                            refine lv_icmp_ge (pc := 123) (tgt := 153) hx hb dX11_move_123 (by decide) (fun hc => ?_) (fun hc => ?_)
                            · replace hs := q_t hc hs
                              refine lv_iconst (pc := 153) (v := (iI 0)) hx hb dX11_move_153 rfl ?_
                              refine lv_istore (pc := 154) (lv' := [(6, .int (iI 0)), (0, .ref (G.2.2.1 72)), (1, .int a1), (2, .int a2), (3, .int a3), (4, .int a4), (5, .int a5)]) hx hb dX11_move_154 hl (by decide) rfl (fun ls hl => ?_)
                              refine (q_lo2 (P0 := fun (x21 : Int32) (h22 : Mem) => ∀ (H : Heap) (locs : List Loc), IW G s h22 H locs → ∀ ls : Array Slot, lv_has ls 7 [(0, .ref (G.2.2.1 72)), (3, .int a3), (4, .int a4), (5, .int a5), (6, .int x21)] → W p l e R s m args below meth c H locs 0 0 Q (F0 m 156 ls [])) hs ?_) _ _ hw _ (lv_sub hl [1, 4, 5, 6, 0] rfl)
                              intro K23 hK23 x21 h22 hs H locs hw ls hl
                              unfold f_X11_move_k23 at hs
                              refine lv_iload (pc := 156) hx hb dX11_move_156 (lv_at hl 4 rfl) ?_
                              refine lv_iload (pc := 158) hx hb dX11_move_158 (lv_at hl 3 rfl) ?_
                              refine lv_icmp_ge (pc := 160) (tgt := 191) hx hb dX11_move_160 (by decide) (fun hc => ?_) (fun hc => ?_)
                              · replace hs := q_t hc hs
                                refine lv_iload (pc := 191) hx hb dX11_move_191 (lv_at hl 3 rfl) ?_
                                exact q_iretW hret dX11_move_193 hw hs
                              · replace hs := q_f hc hs
                                refine lv_aload_n (pc := 163) hx hb dX11_move_163 rfl (lv_at hl 0 rfl) ?_
                                refine q_getR (pc := 164) (q := 72) (o := 13) hx hb hts hown hK hw rfl fg_X11_54 dX11_move_164 ?_
                                refine lv_bipush (pc := 167) (v := (iI 40)) hx hb dX11_move_167 (by decide) ?_
                                refine lv_iload_n (pc := 169) hx hb dX11_move_169 rfl (lv_at hl 1 rfl) ?_
                                refine lv_imul (pc := 170) hx hb dX11_move_170 ?_
                                refine lv_iload (pc := 171) hx hb dX11_move_171 (lv_at hl 2 rfl) ?_
                                refine lv_iadd (pc := 173) hx hb dX11_move_173 ?_
                                refine lv_iload (pc := 174) hx hb dX11_move_174 (lv_at hl 4 rfl) ?_
                                refine lv_iadd (pc := 176) hx hb dX11_move_176 ?_
                                refine lv_aload_n (pc := 177) hx hb dX11_move_177 rfl (lv_at hl 0 rfl) ?_
                                refine q_getR (pc := 178) (q := 72) (o := 14) hx hb hts hown hK hw rfl fg_X11_57 dX11_move_178 ?_
                                refine lv_iload (pc := 181) hx hb dX11_move_181 (lv_at hl 4 rfl) ?_
                                refine q_ald (pc := 183) (q := 86) (n := 40) hx hb hK hw rfl dX11_move_183 hs (fun v24 hs => ?_)
                                refine q_ast (pc := 184) (q := 85) (n := 160) hx hb hK hw rfl dX11_move_184 hs (fun h25 H locs hw hs => ?_)
                                obtain ⟨x26, ex26, hs⟩ := q_nm hs
                                refine lv_iinc (pc := 185) (v := x26) (lv' := [(6, .int x26), (0, .ref (G.2.2.1 72)), (3, .int a3), (4, .int a4), (5, .int a5)]) hx hb dX11_move_185 hl (k := 4) rfl ex26 (by decide) rfl (fun ls hl => ?_)
                                refine lv_goto (pc := 188) (tgt := 156) hx hb dX11_move_188 (by decide) ?_
                                exact hK23 _ _ hs _ _ hw _ (lv_sub hl [1, 2, 3, 4, 0] rfl)
                            · replace hs := q_f hc hs
                              refine lv_aload_n (pc := 126) hx hb dX11_move_126 rfl (lv_at hl 0 rfl) ?_
                              refine q_getR (pc := 127) (q := 72) (o := 14) hx hb hts hown hK hw rfl fg_X11_57 dX11_move_127 ?_
                              refine lv_iload (pc := 130) hx hb dX11_move_130 (lv_at hl 6 rfl) ?_
                              refine lv_aload_n (pc := 132) hx hb dX11_move_132 rfl (lv_at hl 0 rfl) ?_
                              refine q_getR (pc := 133) (q := 72) (o := 13) hx hb hts hown hK hw rfl fg_X11_54 dX11_move_133 ?_
                              refine lv_bipush (pc := 136) (v := (iI 40)) hx hb dX11_move_136 (by decide) ?_
                              refine lv_iload_n (pc := 138) hx hb dX11_move_138 rfl (lv_at hl 1 rfl) ?_
                              refine lv_imul (pc := 139) hx hb dX11_move_139 ?_
                              refine lv_iload_n (pc := 140) hx hb dX11_move_140 rfl (lv_at hl 2 rfl) ?_
                              refine lv_iadd (pc := 141) hx hb dX11_move_141 ?_
                              refine lv_iload (pc := 142) hx hb dX11_move_142 (lv_at hl 6 rfl) ?_
                              refine lv_iadd (pc := 144) hx hb dX11_move_144 ?_
                              refine q_ald (pc := 145) (q := 85) (n := 160) hx hb hK hw rfl dX11_move_145 hs (fun v27 hs => ?_)
                              refine q_ast (pc := 146) (q := 86) (n := 40) hx hb hK hw rfl dX11_move_146 hs (fun h28 H locs hw hs => ?_)
                              obtain ⟨x29, ex29, hs⟩ := q_nm hs
                              refine lv_iinc (pc := 147) (v := x29) (lv' := [(6, .int x29), (0, .ref (G.2.2.1 72)), (1, .int a1), (2, .int a2), (3, .int a3), (4, .int a4), (5, .int a5)]) hx hb dX11_move_147 hl (k := 6) rfl ex29 (by decide) rfl (fun ls hl => ?_)
                              refine lv_goto (pc := 150) (tgt := 119) hx hb dX11_move_150 (by decide) ?_
                              exact hK20 _ _ hs _ _ hw _ (lv_sub hl [1, 2, 3, 4, 5, 6, 0] rfl)
                          · replace hs := q_f hc hs
                            exact hK13 hs _ _ hw _ (lv_sub hl [0] rfl)
              · replace hs := q_f hc hs
                refine lv_aload_n (pc := 61) hx hb dX11_move_61 rfl (lv_at hl 0 rfl) ?_
                refine lv_ldc (pc := 62) (v := (iI (-1000000005))) hx hb hown (hts _ ki_X11_114) dX11_move_62 ?_
                obtain ⟨v30, h31, ev, hs⟩ := q_cal2 hs
                refine q_callV (pc := 64) (q := 72) (As := [.int (iI (-1000000005))]) (rest := []) (rs := [.int v30]) hx hb hml hl.1 hts hown hK hSt hN hw (c_X11_errs l G (iI (-1000000005)) h v30 h31 ev) rfl rfl cv_X11_79 (rm_ok hR (by decide)) rfl (Nat.le_of_ble_eq_true rfl) rfl rfl dX11_move_64 (fun H locs hw => ?_)
                exact q_iretW hret dX11_move_67 hw hs
            · replace hs := q_f (fun z => z hc) hs
              exact hK7 hs _ _ hw _ (lv_sub hl [0] rfl)
      · replace hs := q_f (fun z => z hc) hs
        exact hK2 hs _ _ hw _ (lv_sub hl [0] rfl)

set_option maxHeartbeats 4000000 in
theorem c_X11_judge (l : Launch) (G : GG) (a1 : Int32) (h : Mem) (v : Int32) (h' : Mem) (hs : f_X11_judge h a1 = some (v, h')) : Sat l G yX11_judge cX11_judge 3 (some .int) 2 [.ref (G.2.2.1 72), .int a1] h (some (.int v)) h' := by
  refine Sat.mkI (by decide) (Nat.le_of_ble_eq_true rfl) ?_
  intro p e R s m args below meth c Q F hret hw ls hl
  obtain ⟨hx, hb, hml, hown, hts, hK, hSt, hN, hR⟩ := F
  have hl : lv_has ls 3 [(0, .ref (G.2.2.1 72)), (1, .int a1)] := hl
  unfold f_X11_judge at hs
  refine lv_iload_n (pc := 0) hx hb dX11_judge_0 rfl (lv_at hl 1 rfl) ?_
  obtain ⟨v1, ev, hs⟩ := q_cal hs
  refine q_callS (pc := 1) (As := [.int a1]) (rest := []) (rs := [.int v1]) hx hb hml hl.1 hts hown hK hSt hN hw (c_X11_isSheet l G a1 h v1 ev) cs_X11_333 (rm_ok hR (by decide)) rfl (Nat.le_of_ble_eq_true rfl) rfl rfl dX11_judge_1 (fun H locs hw => ?_)
  refine lv_if_ne (pc := 4) (tgt := 14) hx hb dX11_judge_4 (by decide) (fun hc => ?_) (fun hc => ?_)
  · replace hs := q_t hc hs
    refine lv_aload_n (pc := 14) hx hb dX11_judge_14 rfl (lv_at hl 0 rfl) ?_
    refine q_getR (pc := 15) (q := 72) (o := 11) hx hb hts hown hK hw rfl fg_X11_48 dX11_judge_15 ?_
    refine lv_iload_n (pc := 18) hx hb dX11_judge_18 rfl (lv_at hl 1 rfl) ?_
    refine q_ald (pc := 19) (q := 83) (n := 4) hx hb hK hw rfl dX11_judge_19 hs (fun v2 hs => ?_)
    refine lv_if_ne (pc := 20) (tgt := 30) hx hb dX11_judge_20 (by decide) (fun hc => ?_) (fun hc => ?_)
    · replace hs := q_t hc hs
      refine lv_iconst (pc := 30) (v := (iI 0)) hx hb dX11_judge_30 rfl ?_
      refine lv_istore_n (pc := 31) (lv' := [(2, .int (iI 0)), (0, .ref (G.2.2.1 72)), (1, .int a1)]) hx hb dX11_judge_31 rfl hl (by decide) rfl (fun ls hl => ?_)
      refine (q_lo1 (P0 := fun (x3 : Int32) => ∀ (H : Heap) (locs : List Loc), IW G s h H locs → ∀ ls : Array Slot, lv_has ls 3 [(0, .ref (G.2.2.1 72)), (1, .int a1), (2, .int x3)] → W p l e R s m args below meth c H locs 0 0 Q (F0 m 32 ls [])) hs ?_) _ _ hw _ (lv_sub hl [1, 2, 0] rfl)
      intro K4 hK4 x3 hs H locs hw ls hl
      unfold f_X11_judge_k4 at hs
      refine lv_iload_n (pc := 32) hx hb dX11_judge_32 rfl (lv_at hl 2 rfl) ?_
      refine lv_aload_n (pc := 33) hx hb dX11_judge_33 rfl (lv_at hl 0 rfl) ?_
      refine q_getR (pc := 34) (q := 72) (o := 12) hx hb hts hown hK hw rfl fg_X11_51 dX11_judge_34 ?_
      refine lv_iload_n (pc := 37) hx hb dX11_judge_37 rfl (lv_at hl 1 rfl) ?_
      refine q_ald (pc := 38) (q := 84) (n := 4) hx hb hK hw rfl dX11_judge_38 hs (fun v5 hs => ?_)
      refine q_join0 (P0 := ∀ (H : Heap) (locs : List Loc), IW G s h H locs → ∀ ls : Array Slot, lv_has ls 3 [(0, .ref (G.2.2.1 72)), (1, .int a1), (2, .int x3)] → W p l e R s m args below meth c H locs 0 0 Q (F0 m 76 ls [])) hs ?_ ?_
      · intro  hs H locs hw ls hl
        unfold f_X11_judge_k6 at hs
        refine lv_iload_n (pc := 76) hx hb dX11_judge_76 rfl (lv_at hl 2 rfl) ?_
        refine lv_aload_n (pc := 77) hx hb dX11_judge_77 rfl (lv_at hl 0 rfl) ?_
        refine q_getR (pc := 78) (q := 72) (o := 12) hx hb hts hown hK hw rfl fg_X11_51 dX11_judge_78 ?_
        refine lv_iload_n (pc := 81) hx hb dX11_judge_81 rfl (lv_at hl 1 rfl) ?_
        refine q_ald (pc := 82) (q := 84) (n := 4) hx hb hK hw rfl dX11_judge_82 hs (fun v7 hs => ?_)
        refine q_join0 (P0 := ∀ (H : Heap) (locs : List Loc), IW G s h H locs → ∀ ls : Array Slot, lv_has ls 3 [(2, .int x3)] → W p l e R s m args below meth c H locs 0 0 Q (F0 m 98 ls [])) hs ?_ ?_
        · intro  hs H locs hw ls hl
          refine lv_iload_n (pc := 98) hx hb dX11_judge_98 rfl (lv_at hl 0 rfl) ?_
          exact q_iretW hret dX11_judge_99 hw hs
        · intro K8 hK8 hs
          refine lv_icmp_ne (pc := 83) (tgt := 98) hx hb dX11_judge_83 (by decide) (fun hc => ?_) (fun hc => ?_)
          · replace hs := q_t hc hs
            exact hK8 hs _ _ hw _ (lv_sub hl [2] rfl)
          · replace hs := q_f (fun z => z hc) hs
            refine lv_iload_n (pc := 86) hx hb dX11_judge_86 rfl (lv_at hl 2 rfl) ?_
            refine lv_aload_n (pc := 87) hx hb dX11_judge_87 rfl (lv_at hl 0 rfl) ?_
            obtain ⟨v9, ev, hs⟩ := q_cal hs
            refine q_callV (pc := 88) (q := 72) (As := []) (rest := [.int x3]) (rs := [.int v9, .int x3]) hx hb hml hl.1 hts hown hK hSt hN hw (c_X11_many l G h v9 ev) rfl rfl cv_X11_67 (rm_ok hR (by decide)) rfl (Nat.le_of_ble_eq_true rfl) rfl rfl dX11_judge_88 (fun H locs hw => ?_)
            refine lv_icmp_ne (pc := 91) (tgt := 98) hx hb dX11_judge_91 (by decide) (fun hc => ?_) (fun hc => ?_)
            · replace hs := q_t hc hs
              exact hK8 hs _ _ hw _ (lv_sub hl [2] rfl)
            · replace hs := q_f (fun z => z hc) hs
              refine lv_iconst (pc := 94) (v := (iI (-1))) hx hb dX11_judge_94 rfl ?_
              refine lv_goto (pc := 95) (tgt := 99) hx hb dX11_judge_95 (by decide) ?_
              exact q_iretW hret dX11_judge_99 hw hs
      · intro K6 hK6 hs
        refine lv_icmp_ge (pc := 39) (tgt := 76) hx hb dX11_judge_39 (by decide) (fun hc => ?_) (fun hc => ?_)
        · replace hs := q_t hc hs
          exact hK6 hs _ _ hw _ (lv_sub hl [0, 1, 2] rfl)
        · replace hs := q_f hc hs
          refine lv_iload_n (pc := 42) hx hb dX11_judge_42 rfl (lv_at hl 2 rfl) ?_
          refine lv_aload_n (pc := 43) hx hb dX11_judge_43 rfl (lv_at hl 0 rfl) ?_
          obtain ⟨v10, ev, hs⟩ := q_cal hs
          refine q_callV (pc := 44) (q := 72) (As := []) (rest := [.int x3]) (rs := [.int v10, .int x3]) hx hb hml hl.1 hts hown hK hSt hN hw (c_X11_many l G h v10 ev) rfl rfl cv_X11_67 (rm_ok hR (by decide)) rfl (Nat.le_of_ble_eq_true rfl) rfl rfl dX11_judge_44 (fun H locs hw => ?_)
          refine lv_icmp_ge (pc := 47) (tgt := 76) hx hb dX11_judge_47 (by decide) (fun hc => ?_) (fun hc => ?_)
          · replace hs := q_t hc hs
            exact hK6 hs _ _ hw _ (lv_sub hl [0, 1, 2] rfl)
          · replace hs := q_f hc hs
            refine lv_aload_n (pc := 50) hx hb dX11_judge_50 rfl (lv_at hl 0 rfl) ?_
            refine q_getR (pc := 51) (q := 72) (o := 13) hx hb hts hown hK hw rfl fg_X11_54 dX11_judge_51 ?_
            refine lv_bipush (pc := 54) (v := (iI 40)) hx hb dX11_judge_54 (by decide) ?_
            refine lv_iload_n (pc := 56) hx hb dX11_judge_56 rfl (lv_at hl 1 rfl) ?_
            refine lv_imul (pc := 57) hx hb dX11_judge_57 ?_
            refine lv_iload_n (pc := 58) hx hb dX11_judge_58 rfl (lv_at hl 2 rfl) ?_
            refine lv_iadd (pc := 59) hx hb dX11_judge_59 ?_
            refine q_ald (pc := 60) (q := 85) (n := 160) hx hb hK hw rfl dX11_judge_60 hs (fun v11 hs => ?_)
            refine lv_aload_n (pc := 61) hx hb dX11_judge_61 rfl (lv_at hl 0 rfl) ?_
            refine lv_iload_n (pc := 62) hx hb dX11_judge_62 rfl (lv_at hl 2 rfl) ?_
            refine lv_iconst (pc := 63) (v := (iI 2)) hx hb dX11_judge_63 rfl ?_
            obtain ⟨v12, ev, hs⟩ := q_cal hs
            refine q_callV (pc := 64) (q := 72) (As := [.int x3, .int (iI 2)]) (rest := [.int v11]) (rs := [.int v12, .int v11]) hx hb hml hl.1 hts hown hK hSt hN hw (c_X11_its l G x3 (iI 2) h v12 ev) rfl rfl cv_X11_87 (rm_ok hR (by decide)) rfl (Nat.le_of_ble_eq_true rfl) rfl rfl dX11_judge_64 (fun H locs hw => ?_)
            refine lv_icmp_ne (pc := 67) (tgt := 76) hx hb dX11_judge_67 (by decide) (fun hc => ?_) (fun hc => ?_)
            · replace hs := q_t hc hs
              exact hK6 hs _ _ hw _ (lv_sub hl [0, 1, 2] rfl)
            · replace hs := q_f (fun z => z hc) hs
              obtain ⟨x13, ex13, hs⟩ := q_nm hs
              refine lv_iinc (pc := 70) (v := x13) (lv' := [(2, .int x13), (0, .ref (G.2.2.1 72)), (1, .int a1)]) hx hb dX11_judge_70 hl (k := 2) rfl ex13 (by decide) rfl (fun ls hl => ?_)
              refine lv_goto (pc := 73) (tgt := 32) hx hb dX11_judge_73 (by decide) ?_
              exact hK4 _ hs _ _ hw _ (lv_sub hl [1, 2, 0] rfl)
    · replace hs := q_f (fun z => z hc) hs
      refine lv_aload_n (pc := 23) hx hb dX11_judge_23 rfl (lv_at hl 0 rfl) ?_
      refine lv_ldc (pc := 24) (v := (iI (-1000000002))) hx hb hown (hts _ ki_X11_195) dX11_judge_24 ?_
      obtain ⟨v14, h15, ev, hs⟩ := q_cal2 hs
      refine q_callV (pc := 26) (q := 72) (As := [.int (iI (-1000000002))]) (rest := []) (rs := [.int v14]) hx hb hml hl.1 hts hown hK hSt hN hw (c_X11_errs l G (iI (-1000000002)) h v14 h15 ev) rfl rfl cv_X11_79 (rm_ok hR (by decide)) rfl (Nat.le_of_ble_eq_true rfl) rfl rfl dX11_judge_26 (fun H locs hw => ?_)
      exact q_iretW hret dX11_judge_29 hw hs
  · replace hs := q_f (fun z => z hc) hs
    refine lv_aload_n (pc := 7) hx hb dX11_judge_7 rfl (lv_at hl 0 rfl) ?_
    refine lv_ldc (pc := 8) (v := (iI (-1000000001))) hx hb hown (hts _ ki_X11_78) dX11_judge_8 ?_
    obtain ⟨v16, h17, ev, hs⟩ := q_cal2 hs
    refine q_callV (pc := 10) (q := 72) (As := [.int (iI (-1000000001))]) (rest := []) (rs := [.int v16]) hx hb hml hl.1 hts hown hK hSt hN hw (c_X11_errs l G (iI (-1000000001)) h v16 h17 ev) rfl rfl cv_X11_79 (rm_ok hR (by decide)) rfl (Nat.le_of_ble_eq_true rfl) rfl rfl dX11_judge_10 (fun H locs hw => ?_)
    exact q_iretW hret dX11_judge_13 hw hs

set_option maxHeartbeats 4000000 in
theorem c_X11_image (l : Launch) (G : GG)  (h : Mem) (v : Int32) (h' : Mem) (hs : f_X11_image h  = some (v, h')) : Sat l G yX11_image cX11_image 1 (some .int) 1 [.ref (G.2.2.1 72)] h (some (.int v)) h' := by
  refine Sat.mkI (by decide) (Nat.le_of_ble_eq_true rfl) ?_
  intro p e R s m args below meth c Q F hret hw ls hl
  obtain ⟨hx, hb, hml, hown, hts, hK, hSt, hN, hR⟩ := F
  have hl : lv_has ls 1 [(0, .ref (G.2.2.1 72))] := hl
  unfold f_X11_image at hs
  refine lv_aload_n (pc := 0) hx hb dX11_image_0 rfl (lv_at hl 0 rfl) ?_
  refine lv_aload_n (pc := 1) hx hb dX11_image_1 rfl (lv_at hl 0 rfl) ?_
  refine q_getR (pc := 2) (q := 72) (o := 1) hx hb hts hown hK hw rfl fg_X11_7 dX11_image_2 ?_
  refine lv_aload_n (pc := 5) hx hb dX11_image_5 rfl (lv_at hl 0 rfl) ?_
  refine q_getR (pc := 6) (q := 72) (o := 2) hx hb hts hown hK hw rfl fg_X11_13 dX11_image_6 ?_
  obtain ⟨h1, ev, hs⟩ := q_cal hs
  refine q_callV (pc := 9) (q := 72) (As := [.ref (G.2.2.1 73), .ref (G.2.2.1 74)]) (rest := []) (rs := []) hx hb hml hl.1 hts hown hK hSt hN hw (c_X11_moveAll l G 73 305 rfl 74 305 rfl h h1 ev) rfl rfl cv_X11_188 (rm_ok hR (by decide)) rfl (Nat.le_of_ble_eq_true rfl) rfl rfl dX11_image_9 (fun H locs hw => ?_)
  refine lv_aload_n (pc := 12) hx hb dX11_image_12 rfl (lv_at hl 0 rfl) ?_
  refine lv_iconst (pc := 13) (v := (iI 1)) hx hb dX11_image_13 rfl ?_
  refine q_putZ (pc := 14) (q := 72) hx hb hts hown hK hw rfl fp_X11_277 dX11_image_14 hs (fun h2 H locs hw hs => ?_)
  refine lv_aload_n (pc := 17) hx hb dX11_image_17 rfl (lv_at hl 0 rfl) ?_
  refine lv_dup (pc := 18) hx hb dX11_image_18 rfl ?_
  refine q_getI (pc := 19) (q := 72) hx hb hts hown hK hw rfl fg_X11_376 dX11_image_19 ?_
  refine lv_iconst (pc := 22) (v := (iI 1)) hx hb dX11_image_22 rfl ?_
  refine lv_iadd (pc := 23) hx hb dX11_image_23 ?_
  refine q_putI (pc := 24) (q := 72) hx hb hts hown hK hw rfl fp_X11_376 dX11_image_24 hs (fun h3 H locs hw hs => ?_)
  refine lv_aload_n (pc := 27) hx hb dX11_image_27 rfl (lv_at hl 0 rfl) ?_
  refine q_getI (pc := 28) (q := 72) hx hb hts hown hK hw rfl fg_X11_376 dX11_image_28 ?_
  exact q_iretW hret dX11_image_31 hw hs

set_option maxHeartbeats 4000000 in
theorem c_X11_restore (l : Launch) (G : GG)  (h : Mem) (v : Int32) (h' : Mem) (hs : f_X11_restore h  = some (v, h')) : Sat l G yX11_restore cX11_restore 1 (some .int) 1 [.ref (G.2.2.1 72)] h (some (.int v)) h' := by
  refine Sat.mkI (by decide) (Nat.le_of_ble_eq_true rfl) ?_
  intro p e R s m args below meth c Q F hret hw ls hl
  obtain ⟨hx, hb, hml, hown, hts, hK, hSt, hN, hR⟩ := F
  have hl : lv_has ls 1 [(0, .ref (G.2.2.1 72))] := hl
  unfold f_X11_restore at hs
  refine lv_aload_n (pc := 0) hx hb dX11_restore_0 rfl (lv_at hl 0 rfl) ?_
  refine q_getI (pc := 1) (q := 72) hx hb hts hown hK hw rfl fg_X11_277 dX11_restore_1 ?_
  refine lv_if_ne (pc := 4) (tgt := 14) hx hb dX11_restore_4 (by decide) (fun hc => ?_) (fun hc => ?_)
  · replace hs := q_t hc hs
    refine lv_aload_n (pc := 14) hx hb dX11_restore_14 rfl (lv_at hl 0 rfl) ?_
    refine lv_aload_n (pc := 15) hx hb dX11_restore_15 rfl (lv_at hl 0 rfl) ?_
    refine q_getR (pc := 16) (q := 72) (o := 2) hx hb hts hown hK hw rfl fg_X11_13 dX11_restore_16 ?_
    refine lv_aload_n (pc := 19) hx hb dX11_restore_19 rfl (lv_at hl 0 rfl) ?_
    refine q_getR (pc := 20) (q := 72) (o := 1) hx hb hts hown hK hw rfl fg_X11_7 dX11_restore_20 ?_
    obtain ⟨h1, ev, hs⟩ := q_cal hs
    refine q_callV (pc := 23) (q := 72) (As := [.ref (G.2.2.1 74), .ref (G.2.2.1 73)]) (rest := []) (rs := []) hx hb hml hl.1 hts hown hK hSt hN hw (c_X11_moveAll l G 74 305 rfl 73 305 rfl h h1 ev) rfl rfl cv_X11_188 (rm_ok hR (by decide)) rfl (Nat.le_of_ble_eq_true rfl) rfl rfl dX11_restore_23 (fun H locs hw => ?_)
    refine lv_aload_n (pc := 26) hx hb dX11_restore_26 rfl (lv_at hl 0 rfl) ?_
    refine q_getR (pc := 27) (q := 72) (o := 1) hx hb hts hown hK hw rfl fg_X11_7 dX11_restore_27 ?_
    refine lv_iconst (pc := 30) (v := (iI 3)) hx hb dX11_restore_30 rfl ?_
    refine q_ald (pc := 31) (q := 73) (n := 305) hx hb hK hw rfl dX11_restore_31 hs (fun v2 hs => ?_)
    exact q_iretW hret dX11_restore_32 hw hs
  · replace hs := q_f (fun z => z hc) hs
    refine lv_aload_n (pc := 7) hx hb dX11_restore_7 rfl (lv_at hl 0 rfl) ?_
    refine lv_ldc (pc := 8) (v := (iI (-1000000002))) hx hb hown (hts _ ki_X11_195) dX11_restore_8 ?_
    obtain ⟨v3, h4, ev, hs⟩ := q_cal2 hs
    refine q_callV (pc := 10) (q := 72) (As := [.int (iI (-1000000002))]) (rest := []) (rs := [.int v3]) hx hb hml hl.1 hts hown hK hSt hN hw (c_X11_errs l G (iI (-1000000002)) h v3 h4 ev) rfl rfl cv_X11_79 (rm_ok hR (by decide)) rfl (Nat.le_of_ble_eq_true rfl) rfl rfl dX11_restore_10 (fun H locs hw => ?_)
    exact q_iretW hret dX11_restore_13 hw hs

set_option maxHeartbeats 4000000 in
theorem c_X11_tell (l : Launch) (G : GG) (a1 : Int32) (h : Mem) (v : Int32) (h' : Mem) (hs : f_X11_tell h a1 = some (v, h')) : Sat l G yX11_tell cX11_tell 2 (some .int) 1 [.ref (G.2.2.1 72), .int a1] h (some (.int v)) h' := by
  refine Sat.mkI (by decide) (Nat.le_of_ble_eq_true rfl) ?_
  intro p e R s m args below meth c Q F hret hw ls hl
  obtain ⟨hx, hb, hml, hown, hts, hK, hSt, hN, hR⟩ := F
  have hl : lv_has ls 2 [(0, .ref (G.2.2.1 72)), (1, .int a1)] := hl
  unfold f_X11_tell at hs
  refine lv_aload_n (pc := 0) hx hb dX11_tell_0 rfl (lv_at hl 0 rfl) ?_
  refine q_getR (pc := 1) (q := 72) (o := 1) hx hb hts hown hK hw rfl fg_X11_7 dX11_tell_1 ?_
  refine lv_bipush (pc := 4) (v := (iI 6)) hx hb dX11_tell_4 (by decide) ?_
  refine q_ald (pc := 6) (q := 73) (n := 305) hx hb hK hw rfl dX11_tell_6 hs (fun v1 hs => ?_)
  refine lv_bipush (pc := 7) (v := (iI 20)) hx hb dX11_tell_7 (by decide) ?_
  refine lv_icmp_ne (pc := 9) (tgt := 20) hx hb dX11_tell_9 (by decide) (fun hc => ?_) (fun hc => ?_)
  · replace hs := q_t hc hs
    refine lv_aload_n (pc := 20) hx hb dX11_tell_20 rfl (lv_at hl 0 rfl) ?_
    refine q_getR (pc := 21) (q := 72) (o := 1) hx hb hts hown hK hw rfl fg_X11_7 dX11_tell_21 ?_
    refine lv_sipush (pc := 24) (v := (iI 185)) hx hb dX11_tell_24 (by decide) ?_
    refine lv_aload_n (pc := 27) hx hb dX11_tell_27 rfl (lv_at hl 0 rfl) ?_
    refine q_getR (pc := 28) (q := 72) (o := 1) hx hb hts hown hK hw rfl fg_X11_7 dX11_tell_28 ?_
    refine lv_bipush (pc := 31) (v := (iI 6)) hx hb dX11_tell_31 (by decide) ?_
    refine q_ald (pc := 33) (q := 73) (n := 305) hx hb hK hw rfl dX11_tell_33 hs (fun v2 hs => ?_)
    refine lv_iadd (pc := 34) hx hb dX11_tell_34 ?_
    refine lv_iload_n (pc := 35) hx hb dX11_tell_35 rfl (lv_at hl 1 rfl) ?_
    refine q_ast (pc := 36) (q := 73) (n := 305) hx hb hK hw rfl dX11_tell_36 hs (fun h3 H locs hw hs => ?_)
    refine lv_aload_n (pc := 37) hx hb dX11_tell_37 rfl (lv_at hl 0 rfl) ?_
    refine q_getR (pc := 38) (q := 72) (o := 1) hx hb hts hown hK hw rfl fg_X11_7 dX11_tell_38 ?_
    refine lv_bipush (pc := 41) (v := (iI 6)) hx hb dX11_tell_41 (by decide) ?_
    refine lv_dup2_11 (pc := 43) hx hb dX11_tell_43 rfl rfl ?_
    refine q_ald (pc := 44) (q := 73) (n := 305) hx hb hK hw rfl dX11_tell_44 hs (fun v4 hs => ?_)
    refine lv_iconst (pc := 45) (v := (iI 1)) hx hb dX11_tell_45 rfl ?_
    refine lv_iadd (pc := 46) hx hb dX11_tell_46 ?_
    refine q_ast (pc := 47) (q := 73) (n := 305) hx hb hK hw rfl dX11_tell_47 hs (fun h5 H locs hw hs => ?_)
    refine lv_aload_n (pc := 48) hx hb dX11_tell_48 rfl (lv_at hl 0 rfl) ?_
    refine q_getR (pc := 49) (q := 72) (o := 1) hx hb hts hown hK hw rfl fg_X11_7 dX11_tell_49 ?_
    refine lv_bipush (pc := 52) (v := (iI 6)) hx hb dX11_tell_52 (by decide) ?_
    refine q_ald (pc := 54) (q := 73) (n := 305) hx hb hK hw rfl dX11_tell_54 hs (fun v6 hs => ?_)
    exact q_iretW hret dX11_tell_55 hw hs
  · replace hs := q_f (fun z => z hc) hs
    refine lv_aload_n (pc := 12) hx hb dX11_tell_12 rfl (lv_at hl 0 rfl) ?_
    refine lv_ldcw (pc := 13) (v := (iI (-1000000004))) hx hb hown (hts _ ki_X11_260) dX11_tell_13 ?_
    obtain ⟨v7, h8, ev, hs⟩ := q_cal2 hs
    refine q_callV (pc := 16) (q := 72) (As := [.int (iI (-1000000004))]) (rest := []) (rs := [.int v7]) hx hb hml hl.1 hts hown hK hSt hN hw (c_X11_errs l G (iI (-1000000004)) h v7 h8 ev) rfl rfl cv_X11_79 (rm_ok hR (by decide)) rfl (Nat.le_of_ble_eq_true rfl) rfl rfl dX11_tell_16 (fun H locs hw => ?_)
    exact q_iretW hret dX11_tell_19 hw hs

set_option maxHeartbeats 4000000 in
set_option maxRecDepth 100000 in
theorem c_X11_check (l : Launch) (G : GG)  (h : Mem) (v : Int32) (h' : Mem) (hs : f_X11_check h  = some (v, h')) : Sat l G yX11_check cX11_check 4 (some .int) 5 [.ref (G.2.2.1 72)] h (some (.int v)) h' := by
  refine Sat.mkI (by decide) (Nat.le_of_ble_eq_true rfl) ?_
  intro p e R s m args below meth c Q F hret hw ls hl
  obtain ⟨hx, hb, hml, hown, hts, hK, hSt, hN, hR⟩ := F
  have hl : lv_has ls 4 [(0, .ref (G.2.2.1 72))] := hl
  unfold f_X11_check at hs
  refine lv_aload_n (pc := 0) hx hb dX11_check_0 rfl (lv_at hl 0 rfl) ?_
  refine q_getR (pc := 1) (q := 72) (o := 1) hx hb hts hown hK hw rfl fg_X11_7 dX11_check_1 ?_
  refine lv_bipush (pc := 4) (v := (iI 6)) hx hb dX11_check_4 (by decide) ?_
  refine q_ald (pc := 6) (q := 73) (n := 305) hx hb hK hw rfl dX11_check_6 hs (fun v1 hs => ?_)
  refine lv_istore_n (pc := 7) (lv' := [(1, .int v1), (0, .ref (G.2.2.1 72))]) hx hb dX11_check_7 rfl hl (by decide) rfl (fun ls hl => ?_)
  refine lv_aload_n (pc := 8) hx hb dX11_check_8 rfl (lv_at hl 1 rfl) ?_
  refine q_getR (pc := 9) (q := 72) (o := 1) hx hb hts hown hK hw rfl fg_X11_7 dX11_check_9 ?_
  refine lv_bipush (pc := 12) (v := (iI 6)) hx hb dX11_check_12 (by decide) ?_
  refine lv_iconst (pc := 14) (v := (iI 0)) hx hb dX11_check_14 rfl ?_
  refine q_ast (pc := 15) (q := 73) (n := 305) hx hb hK hw rfl dX11_check_15 hs (fun h2 H locs hw hs => ?_)
  refine lv_aload_n (pc := 16) hx hb dX11_check_16 rfl (lv_at hl 1 rfl) ?_
  refine lv_aload_n (pc := 17) hx hb dX11_check_17 rfl (lv_at hl 1 rfl) ?_
  refine q_getR (pc := 18) (q := 72) (o := 1) hx hb hts hown hK hw rfl fg_X11_7 dX11_check_18 ?_
  refine lv_aload_n (pc := 21) hx hb dX11_check_21 rfl (lv_at hl 1 rfl) ?_
  refine q_getR (pc := 22) (q := 72) (o := 3) hx hb hts hown hK hw rfl fg_X11_16 dX11_check_22 ?_
  obtain ⟨h3, ev, hs⟩ := q_cal hs
  refine q_callV (pc := 25) (q := 72) (As := [.ref (G.2.2.1 73), .ref (G.2.2.1 75)]) (rest := []) (rs := []) hx hb hml hl.1 hts hown hK hSt hN hw (c_X11_moveAll l G 73 305 rfl 75 305 rfl h2 h3 ev) rfl rfl cv_X11_188 (rm_ok hR (by decide)) rfl (Nat.le_of_ble_eq_true rfl) rfl rfl dX11_check_25 (fun H locs hw => ?_)
  refine lv_iconst (pc := 28) (v := (iI 0)) hx hb dX11_check_28 rfl ?_
  refine lv_istore_n (pc := 29) (lv' := [(2, .int (iI 0)), (1, .int v1), (0, .ref (G.2.2.1 72))]) hx hb dX11_check_29 rfl hl (by decide) rfl (fun ls hl => ?_)
  refine lv_iconst (pc := 30) (v := (iI 1)) hx hb dX11_check_30 rfl ?_
  refine lv_istore_n (pc := 31) (lv' := [(3, .int (iI 1)), (2, .int (iI 0)), (1, .int v1), (0, .ref (G.2.2.1 72))]) hx hb dX11_check_31 rfl hl (by decide) rfl (fun ls hl => ?_)
  refine (q_lo3 (P0 := fun (x4 : Int32) (x5 : Int32) (h6 : Mem) => ∀ (H : Heap) (locs : List Loc), IW G s h6 H locs → ∀ ls : Array Slot, lv_has ls 4 [(0, .ref (G.2.2.1 72)), (1, .int v1), (2, .int x4), (3, .int x5)] → W p l e R s m args below meth c H locs 0 0 Q (F0 m 32 ls [])) hs ?_) _ _ hw _ (lv_sub hl [3, 2, 1, 0] rfl)
  intro K7 hK7 x4 x5 h6 hs H locs hw ls hl
  unfold f_X11_check_k7 at hs
  refine lv_iload_n (pc := 32) hx hb dX11_check_32 rfl (lv_at hl 2 rfl) ?_
  refine lv_iload_n (pc := 33) hx hb dX11_check_33 rfl (lv_at hl 1 rfl) ?_
  refine q_join0 (P0 := ∀ (H : Heap) (locs : List Loc), IW G s h6 H locs → ∀ ls : Array Slot, lv_has ls 4 [(1, .int v1), (2, .int x4)] → W p l e R s m args below meth c H locs 0 0 Q (F0 m 100 ls [])) hs ?_ ?_
  · intro  hs H locs hw ls hl
    refine lv_iload_n (pc := 100) hx hb dX11_check_100 rfl (lv_at hl 1 rfl) ?_
    refine lv_iload_n (pc := 101) hx hb dX11_check_101 rfl (lv_at hl 0 rfl) ?_
    refine lv_icmp_ne (pc := 102) (tgt := 109) hx hb dX11_check_102 (by decide) (fun hc => ?_) (fun hc => ?_)
    · replace hs := q_t hc hs
      refine lv_iconst (pc := 109) (v := (iI 1)) hx hb dX11_check_109 rfl ?_
      refine lv_iload_n (pc := 110) hx hb dX11_check_110 rfl (lv_at hl 1 rfl) ?_
      refine lv_iadd (pc := 111) hx hb dX11_check_111 ?_
      exact q_iretW hret dX11_check_112 hw hs
    · replace hs := q_f (fun z => z hc) hs
      refine lv_iconst (pc := 105) (v := (iI 0)) hx hb dX11_check_105 rfl ?_
      refine lv_goto (pc := 106) (tgt := 112) hx hb dX11_check_106 (by decide) ?_
      exact q_iretW hret dX11_check_112 hw hs
  · intro K8 hK8 hs
    refine lv_icmp_ge (pc := 34) (tgt := 100) hx hb dX11_check_34 (by decide) (fun hc => ?_) (fun hc => ?_)
    · replace hs := q_t hc hs
      exact hK8 hs _ _ hw _ (lv_sub hl [1, 2] rfl)
    · replace hs := q_f hc hs
      refine lv_iload_n (pc := 37) hx hb dX11_check_37 rfl (lv_at hl 3 rfl) ?_
      refine lv_if_eq (pc := 38) (tgt := 100) hx hb dX11_check_38 (by decide) (fun hc => ?_) (fun hc => ?_)
      · replace hs := q_t hc hs
        exact hK8 hs _ _ hw _ (lv_sub hl [1, 2] rfl)
      · replace hs := q_f hc hs
        refine lv_aload_n (pc := 41) hx hb dX11_check_41 rfl (lv_at hl 0 rfl) ?_
        refine lv_iload_n (pc := 42) hx hb dX11_check_42 rfl (lv_at hl 2 rfl) ?_
        obtain ⟨v9, ev, hs⟩ := q_cal hs
        refine q_callV (pc := 43) (q := 72) (As := [.int x4]) (rest := []) (rs := [.int v9]) hx hb hml hl.1 hts hown hK hSt hN hw (c_X11_isWindow l G x4 h6 v9 ev) rfl rfl cv_X11_182 (rm_ok hR (by decide)) rfl (Nat.le_of_ble_eq_true rfl) rfl rfl dX11_check_43 (fun H locs hw => ?_)
        refine q_join2 (P0 := fun (x10 : Int32) (h11 : Mem) => ∀ (H : Heap) (locs : List Loc), IW G s h11 H locs → ∀ ls : Array Slot, lv_has ls 4 [(0, .ref (G.2.2.1 72)), (1, .int v1), (2, .int x4)] → W p l e R s m args below meth c H locs 0 0 Q (F0 m 72 ls [.int x10])) hs ?_ ?_
        · intro x10 h11 hs H locs hw ls hl
          unfold f_X11_check_k12 at hs
          refine lv_istore_n (pc := 72) (lv' := [(3, .int x10), (0, .ref (G.2.2.1 72)), (1, .int v1), (2, .int x4)]) hx hb dX11_check_72 rfl hl (by decide) rfl (fun ls hl => ?_)
          refine lv_aload_n (pc := 73) hx hb dX11_check_73 rfl (lv_at hl 1 rfl) ?_
          refine lv_aload_n (pc := 74) hx hb dX11_check_74 rfl (lv_at hl 1 rfl) ?_
          refine q_getR (pc := 75) (q := 72) (o := 3) hx hb hts hown hK hw rfl fg_X11_16 dX11_check_75 ?_
          refine lv_aload_n (pc := 78) hx hb dX11_check_78 rfl (lv_at hl 1 rfl) ?_
          refine q_getR (pc := 79) (q := 72) (o := 1) hx hb hts hown hK hw rfl fg_X11_7 dX11_check_79 ?_
          obtain ⟨h13, ev, hs⟩ := q_cal hs
          refine q_callV (pc := 82) (q := 72) (As := [.ref (G.2.2.1 75), .ref (G.2.2.1 73)]) (rest := []) (rs := []) hx hb hml hl.1 hts hown hK hSt hN hw (c_X11_moveAll l G 75 305 rfl 73 305 rfl h11 h13 ev) rfl rfl cv_X11_188 (rm_ok hR (by decide)) rfl (Nat.le_of_ble_eq_true rfl) rfl rfl dX11_check_82 (fun H locs hw => ?_)
          refine lv_iload_n (pc := 85) hx hb dX11_check_85 rfl (lv_at hl 3 rfl) ?_
          refine lv_iload_n (pc := 86) hx hb dX11_check_86 rfl (lv_at hl 0 rfl) ?_
          refine q_join1 (P0 := fun (x14 : Int32) => ∀ (H : Heap) (locs : List Loc), IW G s h13 H locs → ∀ ls : Array Slot, lv_has ls 4 [(0, .ref (G.2.2.1 72)), (1, .int v1), (3, .int x10)] → W p l e R s m args below meth c H locs 0 0 Q (F0 m 95 ls [.int x14, .int x4])) hs ?_ ?_
          · intro x14 hs H locs hw ls hl
            refine lv_iadd (pc := 95) hx hb dX11_check_95 ?_
            obtain ⟨x16, ex16, hs⟩ := q_nm hs
            refine q_topI ex16 ?_
            refine lv_istore_n (pc := 96) (lv' := [(2, .int x16), (0, .ref (G.2.2.1 72)), (1, .int v1), (3, .int x10)]) hx hb dX11_check_96 rfl hl (by decide) rfl (fun ls hl => ?_)
            refine lv_goto (pc := 97) (tgt := 32) hx hb dX11_check_97 (by decide) ?_
            exact hK7 _ _ _ hs _ _ hw _ (lv_sub hl [1, 2, 0, 3] rfl)
          · intro K15 hK15 hs
            refine lv_if_eq (pc := 87) (tgt := 94) hx hb dX11_check_87 (by decide) (fun hc => ?_) (fun hc => ?_)
            · replace hs := q_t hc hs
              refine lv_iconst (pc := 94) (v := (iI 0)) hx hb dX11_check_94 rfl ?_
              exact hK15 _ hs _ _ hw _ (lv_sub hl [1, 2, 0] rfl)
            · replace hs := q_f hc hs
              refine lv_iconst (pc := 90) (v := (iI 1)) hx hb dX11_check_90 rfl ?_
              refine lv_goto (pc := 91) (tgt := 95) hx hb dX11_check_91 (by decide) ?_
              exact hK15 _ hs _ _ hw _ (lv_sub hl [1, 2, 0] rfl)
        · intro K12 hK12 hs
          refine q_join1 (P0 := fun (h17 : Mem) => ∀ (H : Heap) (locs : List Loc), IW G s h17 H locs → ∀ ls : Array Slot, lv_has ls 4 [(0, .ref (G.2.2.1 72)), (1, .int v1), (2, .int x4)] → W p l e R s m args below meth c H locs 0 0 Q (F0 m 71 ls [])) hs ?_ ?_
          · intro h17 hs H locs hw ls hl
            refine lv_iconst (pc := 71) (v := (iI 0)) hx hb dX11_check_71 rfl ?_
            exact hK12 _ _ hs _ _ hw _ (lv_sub hl [0, 1, 2] rfl)
          · intro K18 hK18 hs
            refine lv_if_eq (pc := 46) (tgt := 71) hx hb dX11_check_46 (by decide) (fun hc => ?_) (fun hc => ?_)
            · replace hs := q_t hc hs
              exact hK18 _ hs _ _ hw _ (lv_sub hl [0, 1, 2] rfl)
            · replace hs := q_f hc hs
              refine lv_aload_n (pc := 49) hx hb dX11_check_49 rfl (lv_at hl 0 rfl) ?_
              refine lv_iload_n (pc := 50) hx hb dX11_check_50 rfl (lv_at hl 2 rfl) ?_
              obtain ⟨v19, h20, ev, hs⟩ := q_cal2 hs
              refine q_callV (pc := 51) (q := 72) (As := [.int x4]) (rest := []) (rs := [.int v19]) hx hb hml hl.1 hts hown hK hSt hN hw (c_X11_goes l G x4 h6 v19 h20 ev) rfl rfl cv_X11_179 (rm_ok hR (by decide)) rfl (Nat.le_of_ble_eq_true rfl) rfl rfl dX11_check_51 (fun H locs hw => ?_)
              refine lv_aload_n (pc := 54) hx hb dX11_check_54 rfl (lv_at hl 0 rfl) ?_
              refine q_getR (pc := 55) (q := 72) (o := 1) hx hb hts hown hK hw rfl fg_X11_7 dX11_check_55 ?_
              refine lv_sipush (pc := 58) (v := (iI 185)) hx hb dX11_check_58 (by decide) ?_
              refine lv_iload_n (pc := 61) hx hb dX11_check_61 rfl (lv_at hl 2 rfl) ?_
              refine lv_iadd (pc := 62) hx hb dX11_check_62 ?_
              refine q_ald (pc := 63) (q := 73) (n := 305) hx hb hK hw rfl dX11_check_63 hs (fun v21 hs => ?_)
              refine lv_icmp_ne (pc := 64) (tgt := 71) hx hb dX11_check_64 (by decide) (fun hc => ?_) (fun hc => ?_)
              · replace hs := q_t hc hs
                exact hK18 _ hs _ _ hw _ (lv_sub hl [0, 1, 2] rfl)
              · replace hs := q_f (fun z => z hc) hs
                refine lv_iconst (pc := 67) (v := (iI 1)) hx hb dX11_check_67 rfl ?_
                refine lv_goto (pc := 68) (tgt := 72) hx hb dX11_check_68 (by decide) ?_
                exact hK12 _ _ hs _ _ hw _ (lv_sub hl [0, 1, 2] rfl)

set_option maxHeartbeats 4000000 in
theorem c_X11_mirrors (l : Launch) (G : GG)  (h : Mem) (v : Int32)  (hs : f_X11_mirrors h  = some v) : Sat l G yX11_mirrors cX11_mirrors 3 (some .int) 2 [.ref (G.2.2.1 72)] h (some (.int v)) h := by
  refine Sat.mkI (by decide) (Nat.le_of_ble_eq_true rfl) ?_
  intro p e R s m args below meth c Q F hret hw ls hl
  obtain ⟨hx, hb, hml, hown, hts, hK, hSt, hN, hR⟩ := F
  have hl : lv_has ls 3 [(0, .ref (G.2.2.1 72))] := hl
  unfold f_X11_mirrors at hs
  refine lv_iconst (pc := 0) (v := (iI 0)) hx hb dX11_mirrors_0 rfl ?_
  refine lv_istore_n (pc := 1) (lv' := [(1, .int (iI 0)), (0, .ref (G.2.2.1 72))]) hx hb dX11_mirrors_1 rfl hl (by decide) rfl (fun ls hl => ?_)
  refine lv_iconst (pc := 2) (v := (iI 0)) hx hb dX11_mirrors_2 rfl ?_
  refine lv_istore_n (pc := 3) (lv' := [(2, .int (iI 0)), (1, .int (iI 0)), (0, .ref (G.2.2.1 72))]) hx hb dX11_mirrors_3 rfl hl (by decide) rfl (fun ls hl => ?_)
  refine (q_lo2 (P0 := fun (x1 : Int32) (x2 : Int32) => ∀ (H : Heap) (locs : List Loc), IW G s h H locs → ∀ ls : Array Slot, lv_has ls 3 [(0, .ref (G.2.2.1 72)), (1, .int x1), (2, .int x2)] → W p l e R s m args below meth c H locs 0 0 Q (F0 m 4 ls [])) hs ?_) _ _ hw _ (lv_sub hl [2, 1, 0] rfl)
  intro K3 hK3 x1 x2 hs H locs hw ls hl
  unfold f_X11_mirrors_k3 at hs
  refine lv_iload_n (pc := 4) hx hb dX11_mirrors_4 rfl (lv_at hl 2 rfl) ?_
  refine lv_aload_n (pc := 5) hx hb dX11_mirrors_5 rfl (lv_at hl 0 rfl) ?_
  obtain ⟨v4, ev, hs⟩ := q_cal hs
  refine q_callV (pc := 6) (q := 72) (As := []) (rest := [.int x2]) (rs := [.int v4, .int x2]) hx hb hml hl.1 hts hown hK hSt hN hw (c_X11_many l G h v4 ev) rfl rfl cv_X11_67 (rm_ok hR (by decide)) rfl (Nat.le_of_ble_eq_true rfl) rfl rfl dX11_mirrors_6 (fun H locs hw => ?_)
  refine lv_icmp_ge (pc := 9) (tgt := 34) hx hb dX11_mirrors_9 (by decide) (fun hc => ?_) (fun hc => ?_)
  · replace hs := q_t hc hs
    refine lv_iload_n (pc := 34) hx hb dX11_mirrors_34 rfl (lv_at hl 1 rfl) ?_
    exact q_iret hret dX11_mirrors_35 hw hs
  · replace hs := q_f hc hs
    refine lv_iload_n (pc := 12) hx hb dX11_mirrors_12 rfl (lv_at hl 1 rfl) ?_
    refine lv_aload_n (pc := 13) hx hb dX11_mirrors_13 rfl (lv_at hl 0 rfl) ?_
    refine lv_iload_n (pc := 14) hx hb dX11_mirrors_14 rfl (lv_at hl 2 rfl) ?_
    obtain ⟨v5, ev, hs⟩ := q_cal hs
    refine q_callV (pc := 15) (q := 72) (As := [.int x2]) (rest := [.int x1]) (rs := [.int v5, .int x1]) hx hb hml hl.1 hts hown hK hSt hN hw (c_X11_doesThrow l G x2 h v5 ev) rfl rfl cv_X11_105 (rm_ok hR (by decide)) rfl (Nat.le_of_ble_eq_true rfl) rfl rfl dX11_mirrors_15 (fun H locs hw => ?_)
    refine q_join1 (P0 := fun (x6 : Int32) => ∀ (H : Heap) (locs : List Loc), IW G s h H locs → ∀ ls : Array Slot, lv_has ls 3 [(0, .ref (G.2.2.1 72)), (2, .int x2)] → W p l e R s m args below meth c H locs 0 0 Q (F0 m 26 ls [.int x6, .int x1])) hs ?_ ?_
    · intro x6 hs H locs hw ls hl
      refine lv_iadd (pc := 26) hx hb dX11_mirrors_26 ?_
      obtain ⟨x8, ex8, hs⟩ := q_nm hs
      refine q_topI ex8 ?_
      refine lv_istore_n (pc := 27) (lv' := [(1, .int x8), (0, .ref (G.2.2.1 72)), (2, .int x2)]) hx hb dX11_mirrors_27 rfl hl (by decide) rfl (fun ls hl => ?_)
      obtain ⟨x9, ex9, hs⟩ := q_nm hs
      refine lv_iinc (pc := 28) (v := x9) (lv' := [(2, .int x9), (1, .int x8), (0, .ref (G.2.2.1 72))]) hx hb dX11_mirrors_28 hl (k := 2) rfl ex9 (by decide) rfl (fun ls hl => ?_)
      refine lv_goto (pc := 31) (tgt := 4) hx hb dX11_mirrors_31 (by decide) ?_
      exact hK3 _ _ hs _ _ hw _ (lv_sub hl [2, 1, 0] rfl)
    · intro K7 hK7 hs
      refine lv_if_eq (pc := 18) (tgt := 25) hx hb dX11_mirrors_18 (by decide) (fun hc => ?_) (fun hc => ?_)
      · replace hs := q_t hc hs
        refine lv_iconst (pc := 25) (v := (iI 0)) hx hb dX11_mirrors_25 rfl ?_
        exact hK7 _ hs _ _ hw _ (lv_sub hl [0, 2] rfl)
      · replace hs := q_f hc hs
        refine lv_iconst (pc := 21) (v := (iI 1)) hx hb dX11_mirrors_21 rfl ?_
        refine lv_goto (pc := 22) (tgt := 26) hx hb dX11_mirrors_22 (by decide) ?_
        exact hK7 _ hs _ _ hw _ (lv_sub hl [0, 2] rfl)

set_option maxHeartbeats 4000000 in
theorem c_X11_litAll (l : Launch) (G : GG)  (h : Mem) (v : Int32)  (hs : f_X11_litAll h  = some v) : Sat l G yX11_litAll cX11_litAll 3 (some .int) 1 [.ref (G.2.2.1 72)] h (some (.int v)) h := by
  refine Sat.mkI (by decide) (Nat.le_of_ble_eq_true rfl) ?_
  intro p e R s m args below meth c Q F hret hw ls hl
  obtain ⟨hx, hb, hml, hown, hts, hK, hSt, hN, hR⟩ := F
  have hl : lv_has ls 3 [(0, .ref (G.2.2.1 72))] := hl
  unfold f_X11_litAll at hs
  refine lv_iconst (pc := 0) (v := (iI 0)) hx hb dX11_litAll_0 rfl ?_
  refine lv_istore_n (pc := 1) (lv' := [(1, .int (iI 0)), (0, .ref (G.2.2.1 72))]) hx hb dX11_litAll_1 rfl hl (by decide) rfl (fun ls hl => ?_)
  refine lv_iconst (pc := 2) (v := (iI 0)) hx hb dX11_litAll_2 rfl ?_
  refine lv_istore_n (pc := 3) (lv' := [(2, .int (iI 0)), (1, .int (iI 0)), (0, .ref (G.2.2.1 72))]) hx hb dX11_litAll_3 rfl hl (by decide) rfl (fun ls hl => ?_)
  refine (q_lo2 (P0 := fun (x1 : Int32) (x2 : Int32) => ∀ (H : Heap) (locs : List Loc), IW G s h H locs → ∀ ls : Array Slot, lv_has ls 3 [(0, .ref (G.2.2.1 72)), (1, .int x1), (2, .int x2)] → W p l e R s m args below meth c H locs 0 0 Q (F0 m 4 ls [])) hs ?_) _ _ hw _ (lv_sub hl [2, 1, 0] rfl)
  intro K3 hK3 x1 x2 hs H locs hw ls hl
  unfold f_X11_litAll_k3 at hs
  refine lv_iload_n (pc := 4) hx hb dX11_litAll_4 rfl (lv_at hl 2 rfl) ?_
  refine lv_aload_n (pc := 5) hx hb dX11_litAll_5 rfl (lv_at hl 0 rfl) ?_
  obtain ⟨v4, ev, hs⟩ := q_cal hs
  refine q_callV (pc := 6) (q := 72) (As := []) (rest := [.int x2]) (rs := [.int v4, .int x2]) hx hb hml hl.1 hts hown hK hSt hN hw (c_X11_many l G h v4 ev) rfl rfl cv_X11_67 (rm_ok hR (by decide)) rfl (Nat.le_of_ble_eq_true rfl) rfl rfl dX11_litAll_6 (fun H locs hw => ?_)
  refine lv_icmp_ge (pc := 9) (tgt := 27) hx hb dX11_litAll_9 (by decide) (fun hc => ?_) (fun hc => ?_)
  · replace hs := q_t hc hs
    refine lv_iload_n (pc := 27) hx hb dX11_litAll_27 rfl (lv_at hl 1 rfl) ?_
    exact q_iret hret dX11_litAll_28 hw hs
  · replace hs := q_f hc hs
    refine lv_iload_n (pc := 12) hx hb dX11_litAll_12 rfl (lv_at hl 1 rfl) ?_
    refine lv_aload_n (pc := 13) hx hb dX11_litAll_13 rfl (lv_at hl 0 rfl) ?_
    refine lv_iload_n (pc := 14) hx hb dX11_litAll_14 rfl (lv_at hl 2 rfl) ?_
    refine lv_iconst (pc := 15) (v := (iI 4)) hx hb dX11_litAll_15 rfl ?_
    obtain ⟨v5, ev, hs⟩ := q_cal hs
    refine q_callV (pc := 16) (q := 72) (As := [.int x2, .int (iI 4)]) (rest := [.int x1]) (rs := [.int v5, .int x1]) hx hb hml hl.1 hts hown hK hSt hN hw (c_X11_its l G x2 (iI 4) h v5 ev) rfl rfl cv_X11_87 (rm_ok hR (by decide)) rfl (Nat.le_of_ble_eq_true rfl) rfl rfl dX11_litAll_16 (fun H locs hw => ?_)
    refine lv_iadd (pc := 19) hx hb dX11_litAll_19 ?_
    obtain ⟨x6, ex6, hs⟩ := q_nm hs
    refine q_topI ex6 ?_
    refine lv_istore_n (pc := 20) (lv' := [(1, .int x6), (0, .ref (G.2.2.1 72)), (2, .int x2)]) hx hb dX11_litAll_20 rfl hl (by decide) rfl (fun ls hl => ?_)
    obtain ⟨x7, ex7, hs⟩ := q_nm hs
    refine lv_iinc (pc := 21) (v := x7) (lv' := [(2, .int x7), (1, .int x6), (0, .ref (G.2.2.1 72))]) hx hb dX11_litAll_21 hl (k := 2) rfl ex7 (by decide) rfl (fun ls hl => ?_)
    refine lv_goto (pc := 24) (tgt := 4) hx hb dX11_litAll_24 (by decide) ?_
    exact hK3 _ _ hs _ _ hw _ (lv_sub hl [2, 1, 0] rfl)

set_option maxHeartbeats 4000000 in
theorem c_X11_count (l : Launch) (G : GG) (a1 : Int32) (h : Mem) (v : Int32) (h' : Mem) (hs : f_X11_count h a1 = some (v, h')) : Sat l G yX11_count cX11_count 2 (some .int) 3 [.ref (G.2.2.1 72), .int a1] h (some (.int v)) h' := by
  refine Sat.mkI (by decide) (Nat.le_of_ble_eq_true rfl) ?_
  intro p e R s m args below meth c Q F hret hw ls hl
  obtain ⟨hx, hb, hml, hown, hts, hK, hSt, hN, hR⟩ := F
  have hl : lv_has ls 2 [(0, .ref (G.2.2.1 72)), (1, .int a1)] := hl
  unfold f_X11_count at hs
  refine lv_iload_n (pc := 0) hx hb dX11_count_0 rfl (lv_at hl 1 rfl) ?_
  by_cases hc0 : a1 = iI 0
  · replace hs := q_t hc0 hs
    refine lv_tableIn (pc := 1) (off := 59) (tgt := 60) hx hb dX11_count_1 (by rw [hc0]; decide) (by rw [hc0]; decide) (by rw [hc0]; decide) (by decide) ?_
    refine lv_aload_n (pc := 60) hx hb dX11_count_60 rfl (lv_at hl 0 rfl) ?_
    refine q_getR (pc := 61) (q := 72) (o := 1) hx hb hts hown hK hw rfl fg_X11_7 dX11_count_61 ?_
    refine lv_iconst (pc := 64) (v := (iI 0)) hx hb dX11_count_64 rfl ?_
    refine q_ald (pc := 65) (q := 73) (n := 305) hx hb hK hw rfl dX11_count_65 hs (fun v1 hs => ?_)
    exact q_iretW hret dX11_count_66 hw hs
  replace hs := q_f hc0 hs
  by_cases hc1 : a1 = iI 1
  · replace hs := q_t hc1 hs
    refine lv_tableIn (pc := 1) (off := 66) (tgt := 67) hx hb dX11_count_1 (by rw [hc1]; decide) (by rw [hc1]; decide) (by rw [hc1]; decide) (by decide) ?_
    refine lv_aload_n (pc := 67) hx hb dX11_count_67 rfl (lv_at hl 0 rfl) ?_
    refine q_getR (pc := 68) (q := 72) (o := 1) hx hb hts hown hK hw rfl fg_X11_7 dX11_count_68 ?_
    refine lv_iconst (pc := 71) (v := (iI 1)) hx hb dX11_count_71 rfl ?_
    refine q_ald (pc := 72) (q := 73) (n := 305) hx hb hK hw rfl dX11_count_72 hs (fun v2 hs => ?_)
    exact q_iretW hret dX11_count_73 hw hs
  replace hs := q_f hc1 hs
  by_cases hc2 : a1 = iI 2
  · replace hs := q_t hc2 hs
    refine lv_tableIn (pc := 1) (off := 73) (tgt := 74) hx hb dX11_count_1 (by rw [hc2]; decide) (by rw [hc2]; decide) (by rw [hc2]; decide) (by decide) ?_
    refine lv_aload_n (pc := 74) hx hb dX11_count_74 rfl (lv_at hl 0 rfl) ?_
    obtain ⟨v3, ev, hs⟩ := q_cal hs
    refine q_callV (pc := 75) (q := 72) (As := []) (rest := []) (rs := [.int v3]) hx hb hml hl.1 hts hown hK hSt hN hw (c_X11_windows l G h v3 ev) rfl rfl cv_X11_75 (rm_ok hR (by decide)) rfl (Nat.le_of_ble_eq_true rfl) rfl rfl dX11_count_75 (fun H locs hw => ?_)
    exact q_iretW hret dX11_count_78 hw hs
  replace hs := q_f hc2 hs
  by_cases hc3 : a1 = iI 3
  · replace hs := q_t hc3 hs
    refine lv_tableIn (pc := 1) (off := 78) (tgt := 79) hx hb dX11_count_1 (by rw [hc3]; decide) (by rw [hc3]; decide) (by rw [hc3]; decide) (by decide) ?_
    refine lv_aload_n (pc := 79) hx hb dX11_count_79 rfl (lv_at hl 0 rfl) ?_
    obtain ⟨v4, ev, hs⟩ := q_cal hs
    refine q_callV (pc := 80) (q := 72) (As := []) (rest := []) (rs := [.int v4]) hx hb hml hl.1 hts hown hK hSt hN hw (c_X11_mirrors l G h v4 ev) rfl rfl cv_X11_379 (rm_ok hR (by decide)) rfl (Nat.le_of_ble_eq_true rfl) rfl rfl dX11_count_80 (fun H locs hw => ?_)
    exact q_iretW hret dX11_count_83 hw hs
  replace hs := q_f hc3 hs
  by_cases hc4 : a1 = iI 4
  · replace hs := q_t hc4 hs
    refine lv_tableIn (pc := 1) (off := 83) (tgt := 84) hx hb dX11_count_1 (by rw [hc4]; decide) (by rw [hc4]; decide) (by rw [hc4]; decide) (by decide) ?_
    refine lv_aload_n (pc := 84) hx hb dX11_count_84 rfl (lv_at hl 0 rfl) ?_
    obtain ⟨v5, ev, hs⟩ := q_cal hs
    refine q_callV (pc := 85) (q := 72) (As := []) (rest := []) (rs := [.int v5]) hx hb hml hl.1 hts hown hK hSt hN hw (c_X11_litAll l G h v5 ev) rfl rfl cv_X11_382 (rm_ok hR (by decide)) rfl (Nat.le_of_ble_eq_true rfl) rfl rfl dX11_count_85 (fun H locs hw => ?_)
    exact q_iretW hret dX11_count_88 hw hs
  replace hs := q_f hc4 hs
  by_cases hc5 : a1 = iI 5
  · replace hs := q_t hc5 hs
    refine lv_tableIn (pc := 1) (off := 88) (tgt := 89) hx hb dX11_count_1 (by rw [hc5]; decide) (by rw [hc5]; decide) (by rw [hc5]; decide) (by decide) ?_
    refine lv_aload_n (pc := 89) hx hb dX11_count_89 rfl (lv_at hl 0 rfl) ?_
    refine q_getR (pc := 90) (q := 72) (o := 1) hx hb hts hown hK hw rfl fg_X11_7 dX11_count_90 ?_
    refine lv_iconst (pc := 93) (v := (iI 2)) hx hb dX11_count_93 rfl ?_
    refine q_ald (pc := 94) (q := 73) (n := 305) hx hb hK hw rfl dX11_count_94 hs (fun v6 hs => ?_)
    exact q_iretW hret dX11_count_95 hw hs
  replace hs := q_f hc5 hs
  by_cases hc6 : a1 = iI 6
  · replace hs := q_t hc6 hs
    refine lv_tableIn (pc := 1) (off := 95) (tgt := 96) hx hb dX11_count_1 (by rw [hc6]; decide) (by rw [hc6]; decide) (by rw [hc6]; decide) (by decide) ?_
    refine lv_aload_n (pc := 96) hx hb dX11_count_96 rfl (lv_at hl 0 rfl) ?_
    refine q_getR (pc := 97) (q := 72) (o := 1) hx hb hts hown hK hw rfl fg_X11_7 dX11_count_97 ?_
    refine lv_iconst (pc := 100) (v := (iI 3)) hx hb dX11_count_100 rfl ?_
    refine q_ald (pc := 101) (q := 73) (n := 305) hx hb hK hw rfl dX11_count_101 hs (fun v7 hs => ?_)
    exact q_iretW hret dX11_count_102 hw hs
  replace hs := q_f hc6 hs
  by_cases hc7 : a1 = iI 7
  · replace hs := q_t hc7 hs
    refine lv_tableIn (pc := 1) (off := 102) (tgt := 103) hx hb dX11_count_1 (by rw [hc7]; decide) (by rw [hc7]; decide) (by rw [hc7]; decide) (by decide) ?_
    refine lv_aload_n (pc := 103) hx hb dX11_count_103 rfl (lv_at hl 0 rfl) ?_
    refine q_getR (pc := 104) (q := 72) (o := 1) hx hb hts hown hK hw rfl fg_X11_7 dX11_count_104 ?_
    refine lv_iconst (pc := 107) (v := (iI 5)) hx hb dX11_count_107 rfl ?_
    refine q_ald (pc := 108) (q := 73) (n := 305) hx hb hK hw rfl dX11_count_108 hs (fun v8 hs => ?_)
    exact q_iretW hret dX11_count_109 hw hs
  replace hs := q_f hc7 hs
  by_cases hc8 : a1 = iI 8
  · replace hs := q_t hc8 hs
    refine lv_tableIn (pc := 1) (off := 109) (tgt := 110) hx hb dX11_count_1 (by rw [hc8]; decide) (by rw [hc8]; decide) (by rw [hc8]; decide) (by decide) ?_
    refine lv_aload_n (pc := 110) hx hb dX11_count_110 rfl (lv_at hl 0 rfl) ?_
    refine q_getR (pc := 111) (q := 72) (o := 1) hx hb hts hown hK hw rfl fg_X11_7 dX11_count_111 ?_
    refine lv_bipush (pc := 114) (v := (iI 6)) hx hb dX11_count_114 (by decide) ?_
    refine q_ald (pc := 116) (q := 73) (n := 305) hx hb hK hw rfl dX11_count_116 hs (fun v9 hs => ?_)
    exact q_iretW hret dX11_count_117 hw hs
  replace hs := q_f hc8 hs
  by_cases hc9 : a1 = iI 9
  · replace hs := q_t hc9 hs
    refine lv_tableIn (pc := 1) (off := 117) (tgt := 118) hx hb dX11_count_1 (by rw [hc9]; decide) (by rw [hc9]; decide) (by rw [hc9]; decide) (by decide) ?_
    refine lv_aload_n (pc := 118) hx hb dX11_count_118 rfl (lv_at hl 0 rfl) ?_
    refine q_getI (pc := 119) (q := 72) hx hb hts hown hK hw rfl fg_X11_346 dX11_count_119 ?_
    exact q_iretW hret dX11_count_122 hw hs
  replace hs := q_f hc9 hs
  by_cases hc10 : a1 = iI 10
  · replace hs := q_t hc10 hs
    refine lv_tableIn (pc := 1) (off := 122) (tgt := 123) hx hb dX11_count_1 (by rw [hc10]; decide) (by rw [hc10]; decide) (by rw [hc10]; decide) (by decide) ?_
    refine lv_aload_n (pc := 123) hx hb dX11_count_123 rfl (lv_at hl 0 rfl) ?_
    refine q_getR (pc := 124) (q := 72) (o := 1) hx hb hts hown hK hw rfl fg_X11_7 dX11_count_124 ?_
    refine lv_iconst (pc := 127) (v := (iI 4)) hx hb dX11_count_127 rfl ?_
    refine q_ald (pc := 128) (q := 73) (n := 305) hx hb hK hw rfl dX11_count_128 hs (fun v10 hs => ?_)
    exact q_iretW hret dX11_count_129 hw hs
  replace hs := q_f hc10 hs
  refine lv_tableOut (pc := 1) (tgt := 130) hx hb dX11_count_1 (by have thc0 := toInt_ne hc0; have thc1 := toInt_ne hc1; have thc2 := toInt_ne hc2; have thc3 := toInt_ne hc3; have thc4 := toInt_ne hc4; have thc5 := toInt_ne hc5; have thc6 := toInt_ne hc6; have thc7 := toInt_ne hc7; have thc8 := toInt_ne hc8; have thc9 := toInt_ne hc9; have thc10 := toInt_ne hc10; omega) (by decide) ?_
  refine lv_aload_n (pc := 130) hx hb dX11_count_130 rfl (lv_at hl 0 rfl) ?_
  refine lv_ldc (pc := 131) (v := (iI (-1000000001))) hx hb hown (hts _ ki_X11_78) dX11_count_131 ?_
  obtain ⟨v11, h12, ev, hs⟩ := q_cal2 hs
  refine q_callV (pc := 133) (q := 72) (As := [.int (iI (-1000000001))]) (rest := []) (rs := [.int v11]) hx hb hml hl.1 hts hown hK hSt hN hw (c_X11_errs l G (iI (-1000000001)) h v11 h12 ev) rfl rfl cv_X11_79 (rm_ok hR (by decide)) rfl (Nat.le_of_ble_eq_true rfl) rfl rfl dX11_count_133 (fun H locs hw => ?_)
  exact q_iretW hret dX11_count_136 hw hs

set_option maxHeartbeats 4000000 in
theorem c_X11_told (l : Launch) (G : GG) (a1 : Int32) (h : Mem) (v : Int32) (h' : Mem) (hs : f_X11_told h a1 = some (v, h')) : Sat l G yX11_told cX11_told 2 (some .int) 1 [.ref (G.2.2.1 72), .int a1] h (some (.int v)) h' := by
  refine Sat.mkI (by decide) (Nat.le_of_ble_eq_true rfl) ?_
  intro p e R s m args below meth c Q F hret hw ls hl
  obtain ⟨hx, hb, hml, hown, hts, hK, hSt, hN, hR⟩ := F
  have hl : lv_has ls 2 [(0, .ref (G.2.2.1 72)), (1, .int a1)] := hl
  unfold f_X11_told at hs
  refine lv_iload_n (pc := 0) hx hb dX11_told_0 rfl (lv_at hl 1 rfl) ?_
  refine lv_iconst (pc := 1) (v := (iI 1)) hx hb dX11_told_1 rfl ?_
  refine lv_iconst (pc := 2) (v := (iI 5)) hx hb dX11_told_2 rfl ?_
  obtain ⟨v1, ev, hs⟩ := q_cal hs
  refine q_callS (pc := 3) (As := [.int a1, .int (iI 1), .int (iI 5)]) (rest := []) (rs := [.int v1]) hx hb hml hl.1 hts hown hK hSt hN hw (c_X11_in l G a1 (iI 1) (iI 5) h v1 ev) cs_X11_71 (rm_ok hR (by decide)) rfl (Nat.le_of_ble_eq_true rfl) rfl rfl dX11_told_3 (fun H locs hw => ?_)
  refine lv_if_eq (pc := 6) (tgt := 18) hx hb dX11_told_6 (by decide) (fun hc => ?_) (fun hc => ?_)
  · replace hs := q_t hc hs
    refine lv_aload_n (pc := 18) hx hb dX11_told_18 rfl (lv_at hl 0 rfl) ?_
    refine lv_ldc (pc := 19) (v := (iI (-1000000001))) hx hb hown (hts _ ki_X11_78) dX11_told_19 ?_
    obtain ⟨v2, h3, ev, hs⟩ := q_cal2 hs
    refine q_callV (pc := 21) (q := 72) (As := [.int (iI (-1000000001))]) (rest := []) (rs := [.int v2]) hx hb hml hl.1 hts hown hK hSt hN hw (c_X11_errs l G (iI (-1000000001)) h v2 h3 ev) rfl rfl cv_X11_79 (rm_ok hR (by decide)) rfl (Nat.le_of_ble_eq_true rfl) rfl rfl dX11_told_21 (fun H locs hw => ?_)
    exact q_iretW hret dX11_told_24 hw hs
  · replace hs := q_f hc hs
    refine lv_aload_n (pc := 9) hx hb dX11_told_9 rfl (lv_at hl 0 rfl) ?_
    refine q_getR (pc := 10) (q := 72) (o := 5) hx hb hts hown hK hw rfl fg_X11_22 dX11_told_10 ?_
    refine lv_iload_n (pc := 13) hx hb dX11_told_13 rfl (lv_at hl 1 rfl) ?_
    refine q_ald (pc := 14) (q := 77) (n := 6) hx hb hK hw rfl dX11_told_14 hs (fun v4 hs => ?_)
    refine lv_goto (pc := 15) (tgt := 24) hx hb dX11_told_15 (by decide) ?_
    exact q_iretW hret dX11_told_24 hw hs

set_option maxHeartbeats 4000000 in
theorem c_X11_costOf (l : Launch) (G : GG) (a1 : Int32) (h : Mem) (v : Int32) (h' : Mem) (hs : f_X11_costOf h a1 = some (v, h')) : Sat l G yX11_costOf cX11_costOf 2 (some .int) 54 [.ref (G.2.2.1 72), .int a1] h (some (.int v)) h' := by
  refine Sat.mkI (by decide) (Nat.le_of_ble_eq_true rfl) ?_
  intro p e R s m args below meth c Q F hret hw ls hl
  obtain ⟨hx, hb, hml, hown, hts, hK, hSt, hN, hR⟩ := F
  have hl : lv_has ls 2 [(0, .ref (G.2.2.1 72)), (1, .int a1)] := hl
  unfold f_X11_costOf at hs
  refine lv_aload_n (pc := 0) hx hb dX11_costOf_0 rfl (lv_at hl 0 rfl) ?_
  refine lv_iconst (pc := 1) (v := (iI 0)) hx hb dX11_costOf_1 rfl ?_
  refine lv_iload_n (pc := 2) hx hb dX11_costOf_2 rfl (lv_at hl 1 rfl) ?_
  refine lv_aload_n (pc := 3) hx hb dX11_costOf_3 rfl (lv_at hl 0 rfl) ?_
  refine q_getR (pc := 4) (q := 72) (o := 1) hx hb hts hown hK hw rfl fg_X11_7 dX11_costOf_4 ?_
  refine lv_iconst (pc := 7) (v := (iI 1)) hx hb dX11_costOf_7 rfl ?_
  refine q_ald (pc := 8) (q := 73) (n := 305) hx hb hK hw rfl dX11_costOf_8 hs (fun v1 hs => ?_)
  obtain ⟨hne, hs⟩ := q_nz hs
  refine lv_idiv (pc := 9) hx hb dX11_costOf_9 hne ?_
  refine lv_iload_n (pc := 10) hx hb dX11_costOf_10 rfl (lv_at hl 1 rfl) ?_
  refine lv_aload_n (pc := 11) hx hb dX11_costOf_11 rfl (lv_at hl 0 rfl) ?_
  refine q_getR (pc := 12) (q := 72) (o := 1) hx hb hts hown hK hw rfl fg_X11_7 dX11_costOf_12 ?_
  refine lv_iconst (pc := 15) (v := (iI 1)) hx hb dX11_costOf_15 rfl ?_
  refine q_ald (pc := 16) (q := 73) (n := 305) hx hb hK hw rfl dX11_costOf_16 hs (fun v2 hs => ?_)
  obtain ⟨hne, hs⟩ := q_nz hs
  refine q_irem (pc := 17) hx hb dX11_costOf_17 hne ?_
  refine lv_aload_n (pc := 18) hx hb dX11_costOf_18 rfl (lv_at hl 0 rfl) ?_
  refine lv_iload_n (pc := 19) hx hb dX11_costOf_19 rfl (lv_at hl 1 rfl) ?_
  refine lv_iconst (pc := 20) (v := (iI 1)) hx hb dX11_costOf_20 rfl ?_
  obtain ⟨v3, ev, hs⟩ := q_cal hs
  refine q_callV (pc := 21) (q := 72) (As := [.int a1, .int (iI 1)]) (rest := [.int (rmI a1 v2), .int (a1 / v1), .int (iI 0), .ref (G.2.2.1 72)]) (rs := [.int v3, .int (rmI a1 v2), .int (a1 / v1), .int (iI 0), .ref (G.2.2.1 72)]) hx hb hml hl.1 hts hown hK hSt hN hw (c_X11_its l G a1 (iI 1) h v3 ev) rfl rfl cv_X11_87 (rm_ok hR (by decide)) rfl (Nat.le_of_ble_eq_true rfl) rfl rfl dX11_costOf_21 (fun H locs hw => ?_)
  obtain ⟨v4, h5, ev, hs⟩ := q_cal2 hs
  refine q_callV (pc := 24) (q := 72) (As := [.int (iI 0), .int (a1 / v1), .int (rmI a1 v2), .int v3]) (rest := []) (rs := [.int v4]) hx hb hml hl.1 hts hown hK hSt hN hw (c_X11_lawOf l G (iI 0) (a1 / v1) (rmI a1 v2) v3 h v4 h5 ev) rfl rfl cv_X11_95 (rm_ok hR (by decide)) rfl (Nat.le_of_ble_eq_true rfl) rfl rfl dX11_costOf_24 (fun H locs hw => ?_)
  exact q_iretW hret dX11_costOf_27 hw hs

set_option maxHeartbeats 4000000 in
theorem c_X11_ofSquare (l : Launch) (G : GG) (a1 : Int32) (a2 : Int32) (h : Mem) (v : Int32) (h' : Mem) (hs : f_X11_ofSquare h a1 a2 = some (v, h')) : Sat l G yX11_ofSquare cX11_ofSquare 3 (some .int) 55 [.ref (G.2.2.1 72), .int a1, .int a2] h (some (.int v)) h' := by
  refine Sat.mkI (by decide) (Nat.le_of_ble_eq_true rfl) ?_
  intro p e R s m args below meth c Q F hret hw ls hl
  obtain ⟨hx, hb, hml, hown, hts, hK, hSt, hN, hR⟩ := F
  have hl : lv_has ls 3 [(0, .ref (G.2.2.1 72)), (1, .int a1), (2, .int a2)] := hl
  unfold f_X11_ofSquare at hs
  refine lv_aload_n (pc := 0) hx hb dX11_ofSquare_0 rfl (lv_at hl 0 rfl) ?_
  refine lv_iload_n (pc := 1) hx hb dX11_ofSquare_1 rfl (lv_at hl 1 rfl) ?_
  obtain ⟨v1, ev, hs⟩ := q_cal hs
  refine q_callV (pc := 2) (q := 72) (As := [.int a1]) (rest := []) (rs := [.int v1]) hx hb hml hl.1 hts hown hK hSt hN hw (c_X11_isSquare l G a1 h v1 ev) rfl rfl cv_X11_83 (rm_ok hR (by decide)) rfl (Nat.le_of_ble_eq_true rfl) rfl rfl dX11_ofSquare_2 (fun H locs hw => ?_)
  refine q_join0 (P0 := ∀ (H : Heap) (locs : List Loc), IW G s h H locs → ∀ ls : Array Slot, lv_has ls 3 [(0, .ref (G.2.2.1 72))] → W p l e R s m args below meth c H locs 0 0 Q (F0 m 18 ls [])) hs ?_ ?_
  · intro  hs H locs hw ls hl
    refine lv_aload_n (pc := 18) hx hb dX11_ofSquare_18 rfl (lv_at hl 0 rfl) ?_
    refine lv_ldc (pc := 19) (v := (iI (-1000000001))) hx hb hown (hts _ ki_X11_78) dX11_ofSquare_19 ?_
    obtain ⟨v3, h4, ev, hs⟩ := q_cal2 hs
    refine q_callV (pc := 21) (q := 72) (As := [.int (iI (-1000000001))]) (rest := []) (rs := [.int v3]) hx hb hml hl.1 hts hown hK hSt hN hw (c_X11_errs l G (iI (-1000000001)) h v3 h4 ev) rfl rfl cv_X11_79 (rm_ok hR (by decide)) rfl (Nat.le_of_ble_eq_true rfl) rfl rfl dX11_ofSquare_21 (fun H locs hw => ?_)
    exact q_iretW hret dX11_ofSquare_24 hw hs
  · intro K2 hK2 hs
    refine lv_if_eq (pc := 5) (tgt := 18) hx hb dX11_ofSquare_5 (by decide) (fun hc => ?_) (fun hc => ?_)
    · replace hs := q_t hc hs
      exact hK2 hs _ _ hw _ (lv_sub hl [0] rfl)
    · replace hs := q_f hc hs
      refine lv_iload_n (pc := 8) hx hb dX11_ofSquare_8 rfl (lv_at hl 2 rfl) ?_
      refine lv_iconst (pc := 9) (v := (iI 0)) hx hb dX11_ofSquare_9 rfl ?_
      refine lv_bipush (pc := 10) (v := (iI 7)) hx hb dX11_ofSquare_10 (by decide) ?_
      obtain ⟨v5, ev, hs⟩ := q_cal hs
      refine q_callS (pc := 12) (As := [.int a2, .int (iI 0), .int (iI 7)]) (rest := []) (rs := [.int v5]) hx hb hml hl.1 hts hown hK hSt hN hw (c_X11_in l G a2 (iI 0) (iI 7) h v5 ev) cs_X11_71 (rm_ok hR (by decide)) rfl (Nat.le_of_ble_eq_true rfl) rfl rfl dX11_ofSquare_12 (fun H locs hw => ?_)
      refine lv_if_ne (pc := 15) (tgt := 25) hx hb dX11_ofSquare_15 (by decide) (fun hc => ?_) (fun hc => ?_)
      · replace hs := q_t hc hs
        refine lv_iload_n (pc := 25) hx hb dX11_ofSquare_25 rfl (lv_at hl 2 rfl) ?_
        by_cases hc0 : a2 = iI 5
        · replace hs := q_t hc0 hs
          refine lv_tableIn (pc := 26) (off := 26) (tgt := 52) hx hb dX11_ofSquare_26 (by rw [hc0]; decide) (by rw [hc0]; decide) (by rw [hc0]; decide) (by decide) ?_
          refine lv_aload_n (pc := 52) hx hb dX11_ofSquare_52 rfl (lv_at hl 0 rfl) ?_
          refine lv_iload_n (pc := 53) hx hb dX11_ofSquare_53 rfl (lv_at hl 1 rfl) ?_
          obtain ⟨v6, ev, hs⟩ := q_cal hs
          refine q_callV (pc := 54) (q := 72) (As := [.int a1]) (rest := []) (rs := [.int v6]) hx hb hml hl.1 hts hown hK hSt hN hw (c_X11_canTurn l G a1 h v6 ev) rfl rfl cv_X11_99 (rm_ok hR (by decide)) rfl (Nat.le_of_ble_eq_true rfl) rfl rfl dX11_ofSquare_54 (fun H locs hw => ?_)
          refine lv_if_eq (pc := 57) (tgt := 68) hx hb dX11_ofSquare_57 (by decide) (fun hc => ?_) (fun hc => ?_)
          · replace hs := q_t hc hs
            refine lv_iconst (pc := 68) (v := (iI (-1))) hx hb dX11_ofSquare_68 rfl ?_
            exact q_iretW hret dX11_ofSquare_69 hw hs
          · replace hs := q_f hc hs
            refine lv_aload_n (pc := 60) hx hb dX11_ofSquare_60 rfl (lv_at hl 0 rfl) ?_
            refine lv_iload_n (pc := 61) hx hb dX11_ofSquare_61 rfl (lv_at hl 1 rfl) ?_
            obtain ⟨v7, h8, ev, hs⟩ := q_cal2 hs
            refine q_callV (pc := 62) (q := 72) (As := [.int a1]) (rest := []) (rs := [.int v7]) hx hb hml hl.1 hts hown hK hSt hN hw (c_X11_costOf l G a1 h v7 h8 ev) rfl rfl cv_X11_102 (rm_ok hR (by decide)) rfl (Nat.le_of_ble_eq_true rfl) rfl rfl dX11_ofSquare_62 (fun H locs hw => ?_)
            refine lv_goto (pc := 65) (tgt := 69) hx hb dX11_ofSquare_65 (by decide) ?_
            exact q_iretW hret dX11_ofSquare_69 hw hs
        replace hs := q_f hc0 hs
        by_cases hc1 : a2 = iI 6
        · replace hs := q_t hc1 hs
          refine lv_tableIn (pc := 26) (off := 44) (tgt := 70) hx hb dX11_ofSquare_26 (by rw [hc1]; decide) (by rw [hc1]; decide) (by rw [hc1]; decide) (by decide) ?_
          refine lv_aload_n (pc := 70) hx hb dX11_ofSquare_70 rfl (lv_at hl 0 rfl) ?_
          refine lv_iload_n (pc := 71) hx hb dX11_ofSquare_71 rfl (lv_at hl 1 rfl) ?_
          obtain ⟨v9, ev, hs⟩ := q_cal hs
          refine q_callV (pc := 72) (q := 72) (As := [.int a1]) (rest := []) (rs := [.int v9]) hx hb hml hl.1 hts hown hK hSt hN hw (c_X11_doesThrow l G a1 h v9 ev) rfl rfl cv_X11_105 (rm_ok hR (by decide)) rfl (Nat.le_of_ble_eq_true rfl) rfl rfl dX11_ofSquare_72 (fun H locs hw => ?_)
          refine lv_if_eq (pc := 75) (tgt := 82) hx hb dX11_ofSquare_75 (by decide) (fun hc => ?_) (fun hc => ?_)
          · replace hs := q_t hc hs
            refine lv_iconst (pc := 82) (v := (iI 0)) hx hb dX11_ofSquare_82 rfl ?_
            exact q_iretW hret dX11_ofSquare_83 hw hs
          · replace hs := q_f hc hs
            refine lv_iconst (pc := 78) (v := (iI 1)) hx hb dX11_ofSquare_78 rfl ?_
            refine lv_goto (pc := 79) (tgt := 83) hx hb dX11_ofSquare_79 (by decide) ?_
            exact q_iretW hret dX11_ofSquare_83 hw hs
        replace hs := q_f hc1 hs
        by_cases hc2 : a2 = iI 7
        · replace hs := q_t hc2 hs
          refine lv_tableIn (pc := 26) (off := 58) (tgt := 84) hx hb dX11_ofSquare_26 (by rw [hc2]; decide) (by rw [hc2]; decide) (by rw [hc2]; decide) (by decide) ?_
          refine lv_aload_n (pc := 84) hx hb dX11_ofSquare_84 rfl (lv_at hl 0 rfl) ?_
          refine lv_iload_n (pc := 85) hx hb dX11_ofSquare_85 rfl (lv_at hl 1 rfl) ?_
          obtain ⟨v10, ev, hs⟩ := q_cal hs
          refine q_callV (pc := 86) (q := 72) (As := [.int a1]) (rest := []) (rs := [.int v10]) hx hb hml hl.1 hts hown hK hSt hN hw (c_X11_doesStop l G a1 h v10 ev) rfl rfl cv_X11_108 (rm_ok hR (by decide)) rfl (Nat.le_of_ble_eq_true rfl) rfl rfl dX11_ofSquare_86 (fun H locs hw => ?_)
          refine lv_if_eq (pc := 89) (tgt := 96) hx hb dX11_ofSquare_89 (by decide) (fun hc => ?_) (fun hc => ?_)
          · replace hs := q_t hc hs
            refine lv_iconst (pc := 96) (v := (iI 0)) hx hb dX11_ofSquare_96 rfl ?_
            exact q_iretW hret dX11_ofSquare_97 hw hs
          · replace hs := q_f hc hs
            refine lv_iconst (pc := 92) (v := (iI 1)) hx hb dX11_ofSquare_92 rfl ?_
            refine lv_goto (pc := 93) (tgt := 97) hx hb dX11_ofSquare_93 (by decide) ?_
            exact q_iretW hret dX11_ofSquare_97 hw hs
        replace hs := q_f hc2 hs
        refine lv_tableOut (pc := 26) (tgt := 98) hx hb dX11_ofSquare_26 (by have thc0 := toInt_ne hc0; have thc1 := toInt_ne hc1; have thc2 := toInt_ne hc2; omega) (by decide) ?_
        refine lv_aload_n (pc := 98) hx hb dX11_ofSquare_98 rfl (lv_at hl 0 rfl) ?_
        refine lv_iload_n (pc := 99) hx hb dX11_ofSquare_99 rfl (lv_at hl 1 rfl) ?_
        refine lv_iload_n (pc := 100) hx hb dX11_ofSquare_100 rfl (lv_at hl 2 rfl) ?_
        obtain ⟨v11, ev, hs⟩ := q_cal hs
        refine q_callV (pc := 101) (q := 72) (As := [.int a1, .int a2]) (rest := []) (rs := [.int v11]) hx hb hml hl.1 hts hown hK hSt hN hw (c_X11_its l G a1 a2 h v11 ev) rfl rfl cv_X11_87 (rm_ok hR (by decide)) rfl (Nat.le_of_ble_eq_true rfl) rfl rfl dX11_ofSquare_101 (fun H locs hw => ?_)
        exact q_iretW hret dX11_ofSquare_104 hw hs
      · replace hs := q_f (fun z => z hc) hs
        exact hK2 hs _ _ hw _ (lv_sub hl [0] rfl)

set_option maxHeartbeats 4000000 in
theorem c_X11_hands (l : Launch) (G : GG) (a1 : Int32) (h : Mem) (h' : Mem) (hs : f_X11_hands h a1 = some h') : Sat l G yX11_hands cX11_hands 2 none 55 [.ref (G.2.2.1 72), .int a1] h none h' := by
  refine Sat.mkV (by decide) (Nat.le_of_ble_eq_true rfl) ?_
  intro p e R s m args below meth c Q F hret hw ls hl
  obtain ⟨hx, hb, hml, hown, hts, hK, hSt, hN, hR⟩ := F
  have hl : lv_has ls 2 [(0, .ref (G.2.2.1 72)), (1, .int a1)] := hl
  unfold f_X11_hands at hs
  refine lv_aload_n (pc := 0) hx hb dX11_hands_0 rfl (lv_at hl 0 rfl) ?_
  refine lv_aload_n (pc := 1) hx hb dX11_hands_1 rfl (lv_at hl 0 rfl) ?_
  refine lv_iload_n (pc := 2) hx hb dX11_hands_2 rfl (lv_at hl 1 rfl) ?_
  obtain ⟨v1, h2, ev, hs⟩ := q_cal2 hs
  refine q_callV (pc := 3) (q := 72) (As := [.int a1]) (rest := [.ref (G.2.2.1 72)]) (rs := [.int v1, .ref (G.2.2.1 72)]) hx hb hml hl.1 hts hown hK hSt hN hw (c_X11_costOf l G a1 h v1 h2 ev) rfl rfl cv_X11_102 (rm_ok hR (by decide)) rfl (Nat.le_of_ble_eq_true rfl) rfl rfl dX11_hands_3 (fun H locs hw => ?_)
  refine lv_ineg (pc := 6) hx hb dX11_hands_6 ?_
  obtain ⟨h3, ev, hs⟩ := q_cal hs
  refine q_callV (pc := 7) (q := 72) (As := [.int (-v1)]) (rest := []) (rs := []) hx hb hml hl.1 hts hown hK hSt hN hw (c_X11_takes l G (-v1) h2 h3 ev) rfl rfl cv_X11_121 (rm_ok hR (by decide)) rfl (Nat.le_of_ble_eq_true rfl) rfl rfl dX11_hands_7 (fun H locs hw => ?_)
  refine lv_aload_n (pc := 10) hx hb dX11_hands_10 rfl (lv_at hl 0 rfl) ?_
  refine lv_iload_n (pc := 11) hx hb dX11_hands_11 rfl (lv_at hl 1 rfl) ?_
  obtain ⟨h4, ev, hs⟩ := q_cal hs
  refine q_callV (pc := 12) (q := 72) (As := [.int a1]) (rest := []) (rs := []) hx hb hml hl.1 hts hown hK hSt hN hw (c_X11_flips l G a1 h3 h4 ev) rfl rfl cv_X11_125 (rm_ok hR (by decide)) rfl (Nat.le_of_ble_eq_true rfl) rfl rfl dX11_hands_12 (fun H locs hw => ?_)
  exact q_vret hret dX11_hands_15 hw hs

set_option maxHeartbeats 4000000 in
theorem c_X11_hand (l : Launch) (G : GG) (a1 : Int32) (h : Mem) (v : Int32) (h' : Mem) (hs : f_X11_hand h a1 = some (v, h')) : Sat l G yX11_hand cX11_hand 2 (some .int) 56 [.ref (G.2.2.1 72), .int a1] h (some (.int v)) h' := by
  refine Sat.mkI (by decide) (Nat.le_of_ble_eq_true rfl) ?_
  intro p e R s m args below meth c Q F hret hw ls hl
  obtain ⟨hx, hb, hml, hown, hts, hK, hSt, hN, hR⟩ := F
  have hl : lv_has ls 2 [(0, .ref (G.2.2.1 72)), (1, .int a1)] := hl
  unfold f_X11_hand at hs
  refine lv_aload_n (pc := 0) hx hb dX11_hand_0 rfl (lv_at hl 0 rfl) ?_
  refine lv_iload_n (pc := 1) hx hb dX11_hand_1 rfl (lv_at hl 1 rfl) ?_
  obtain ⟨v1, ev, hs⟩ := q_cal hs
  refine q_callV (pc := 2) (q := 72) (As := [.int a1]) (rest := []) (rs := [.int v1]) hx hb hml hl.1 hts hown hK hSt hN hw (c_X11_isSquare l G a1 h v1 ev) rfl rfl cv_X11_83 (rm_ok hR (by decide)) rfl (Nat.le_of_ble_eq_true rfl) rfl rfl dX11_hand_2 (fun H locs hw => ?_)
  refine lv_if_ne (pc := 5) (tgt := 15) hx hb dX11_hand_5 (by decide) (fun hc => ?_) (fun hc => ?_)
  · replace hs := q_t hc hs
    refine lv_aload_n (pc := 15) hx hb dX11_hand_15 rfl (lv_at hl 0 rfl) ?_
    refine lv_iload_n (pc := 16) hx hb dX11_hand_16 rfl (lv_at hl 1 rfl) ?_
    obtain ⟨v2, ev, hs⟩ := q_cal hs
    refine q_callV (pc := 17) (q := 72) (As := [.int a1]) (rest := []) (rs := [.int v2]) hx hb hml hl.1 hts hown hK hSt hN hw (c_X11_canTurn l G a1 h v2 ev) rfl rfl cv_X11_99 (rm_ok hR (by decide)) rfl (Nat.le_of_ble_eq_true rfl) rfl rfl dX11_hand_17 (fun H locs hw => ?_)
    refine lv_if_ne (pc := 20) (tgt := 30) hx hb dX11_hand_20 (by decide) (fun hc => ?_) (fun hc => ?_)
    · replace hs := q_t hc hs
      refine lv_aload_n (pc := 30) hx hb dX11_hand_30 rfl (lv_at hl 0 rfl) ?_
      refine lv_iload_n (pc := 31) hx hb dX11_hand_31 rfl (lv_at hl 1 rfl) ?_
      obtain ⟨h3, ev, hs⟩ := q_cal hs
      refine q_callV (pc := 32) (q := 72) (As := [.int a1]) (rest := []) (rs := []) hx hb hml hl.1 hts hown hK hSt hN hw (c_X11_hands l G a1 h h3 ev) rfl rfl cv_X11_129 (rm_ok hR (by decide)) rfl (Nat.le_of_ble_eq_true rfl) rfl rfl dX11_hand_32 (fun H locs hw => ?_)
      refine lv_aload_n (pc := 35) hx hb dX11_hand_35 rfl (lv_at hl 0 rfl) ?_
      refine lv_iload_n (pc := 36) hx hb dX11_hand_36 rfl (lv_at hl 1 rfl) ?_
      refine lv_iconst (pc := 37) (v := (iI 2)) hx hb dX11_hand_37 rfl ?_
      obtain ⟨v4, ev, hs⟩ := q_cal hs
      refine q_callV (pc := 38) (q := 72) (As := [.int a1, .int (iI 2)]) (rest := []) (rs := [.int v4]) hx hb hml hl.1 hts hown hK hSt hN hw (c_X11_its l G a1 (iI 2) h3 v4 ev) rfl rfl cv_X11_87 (rm_ok hR (by decide)) rfl (Nat.le_of_ble_eq_true rfl) rfl rfl dX11_hand_38 (fun H locs hw => ?_)
      exact q_iretW hret dX11_hand_41 hw hs
    · replace hs := q_f (fun z => z hc) hs
      refine lv_aload_n (pc := 23) hx hb dX11_hand_23 rfl (lv_at hl 0 rfl) ?_
      refine lv_ldc (pc := 24) (v := (iI (-1000000003))) hx hb hown (hts _ ki_X11_128) dX11_hand_24 ?_
      obtain ⟨v5, h6, ev, hs⟩ := q_cal2 hs
      refine q_callV (pc := 26) (q := 72) (As := [.int (iI (-1000000003))]) (rest := []) (rs := [.int v5]) hx hb hml hl.1 hts hown hK hSt hN hw (c_X11_errs l G (iI (-1000000003)) h v5 h6 ev) rfl rfl cv_X11_79 (rm_ok hR (by decide)) rfl (Nat.le_of_ble_eq_true rfl) rfl rfl dX11_hand_26 (fun H locs hw => ?_)
      exact q_iretW hret dX11_hand_29 hw hs
  · replace hs := q_f (fun z => z hc) hs
    refine lv_aload_n (pc := 8) hx hb dX11_hand_8 rfl (lv_at hl 0 rfl) ?_
    refine lv_ldc (pc := 9) (v := (iI (-1000000001))) hx hb hown (hts _ ki_X11_78) dX11_hand_9 ?_
    obtain ⟨v7, h8, ev, hs⟩ := q_cal2 hs
    refine q_callV (pc := 11) (q := 72) (As := [.int (iI (-1000000001))]) (rest := []) (rs := [.int v7]) hx hb hml hl.1 hts hown hK hSt hN hw (c_X11_errs l G (iI (-1000000001)) h v7 h8 ev) rfl rfl cv_X11_79 (rm_ok hR (by decide)) rfl (Nat.le_of_ble_eq_true rfl) rfl rfl dX11_hand_11 (fun H locs hw => ?_)
    exact q_iretW hret dX11_hand_14 hw hs

set_option maxHeartbeats 4000000 in
theorem c_X11_letIn (l : Launch) (G : GG) (a1 : Int32) (h : Mem) (v : Int32) (h' : Mem) (hs : f_X11_letIn h a1 = some (v, h')) : Sat l G yX11_letIn cX11_letIn 3 (some .int) 54 [.ref (G.2.2.1 72), .int a1] h (some (.int v)) h' := by
  refine Sat.mkI (by decide) (Nat.le_of_ble_eq_true rfl) ?_
  intro p e R s m args below meth c Q F hret hw ls hl
  obtain ⟨hx, hb, hml, hown, hts, hK, hSt, hN, hR⟩ := F
  have hl : lv_has ls 3 [(0, .ref (G.2.2.1 72)), (1, .int a1)] := hl
  unfold f_X11_letIn at hs
  refine lv_aload_n (pc := 0) hx hb dX11_letIn_0 rfl (lv_at hl 0 rfl) ?_
  refine lv_iload_n (pc := 1) hx hb dX11_letIn_1 rfl (lv_at hl 1 rfl) ?_
  obtain ⟨v1, h2, ev, hs⟩ := q_cal2 hs
  refine q_callV (pc := 2) (q := 72) (As := [.int a1]) (rest := []) (rs := [.int v1]) hx hb hml hl.1 hts hown hK hSt hN hw (c_X11_goes l G a1 h v1 h2 ev) rfl rfl cv_X11_179 (rm_ok hR (by decide)) rfl (Nat.le_of_ble_eq_true rfl) rfl rfl dX11_letIn_2 (fun H locs hw => ?_)
  refine lv_istore_n (pc := 5) (lv' := [(2, .int v1), (0, .ref (G.2.2.1 72)), (1, .int a1)]) hx hb dX11_letIn_5 rfl hl (by decide) rfl (fun ls hl => ?_)
  refine lv_aload_n (pc := 6) hx hb dX11_letIn_6 rfl (lv_at hl 1 rfl) ?_
  refine lv_aload_n (pc := 7) hx hb dX11_letIn_7 rfl (lv_at hl 1 rfl) ?_
  refine lv_iconst (pc := 8) (v := (iI 1)) hx hb dX11_letIn_8 rfl ?_
  refine lv_iload_n (pc := 9) hx hb dX11_letIn_9 rfl (lv_at hl 2 rfl) ?_
  refine lv_iload_n (pc := 10) hx hb dX11_letIn_10 rfl (lv_at hl 0 rfl) ?_
  refine lv_aload_n (pc := 11) hx hb dX11_letIn_11 rfl (lv_at hl 1 rfl) ?_
  refine q_getI (pc := 12) (q := 72) hx hb hts hown hK hw rfl fg_X11_138 dX11_letIn_12 ?_
  obtain ⟨v3, h4, ev, hs⟩ := q_cal2 hs
  refine q_callV (pc := 15) (q := 72) (As := [.int (iI 1), .int a1, .int v1, .int (gI h2 72 11)]) (rest := [.ref (G.2.2.1 72)]) (rs := [.int v3, .ref (G.2.2.1 72)]) hx hb hml hl.1 hts hown hK hSt hN hw (c_X11_lawOf l G (iI 1) a1 v1 (gI h2 72 11) h2 v3 h4 ev) rfl rfl cv_X11_95 (rm_ok hR (by decide)) rfl (Nat.le_of_ble_eq_true rfl) rfl rfl dX11_letIn_15 (fun H locs hw => ?_)
  obtain ⟨h5, ev, hs⟩ := q_cal hs
  refine q_callV (pc := 18) (q := 72) (As := [.int v3]) (rest := []) (rs := []) hx hb hml hl.1 hts hown hK hSt hN hw (c_X11_takes l G v3 h4 h5 ev) rfl rfl cv_X11_121 (rm_ok hR (by decide)) rfl (Nat.le_of_ble_eq_true rfl) rfl rfl dX11_letIn_18 (fun H locs hw => ?_)
  refine lv_iload_n (pc := 21) hx hb dX11_letIn_21 rfl (lv_at hl 0 rfl) ?_
  exact q_iretW hret dX11_letIn_22 hw hs

set_option maxHeartbeats 4000000 in
theorem c_X11_let (l : Launch) (G : GG) (a1 : Int32) (h : Mem) (v : Int32) (h' : Mem) (hs : f_X11_let h a1 = some (v, h')) : Sat l G yX11_let cX11_let 2 (some .int) 55 [.ref (G.2.2.1 72), .int a1] h (some (.int v)) h' := by
  refine Sat.mkI (by decide) (Nat.le_of_ble_eq_true rfl) ?_
  intro p e R s m args below meth c Q F hret hw ls hl
  obtain ⟨hx, hb, hml, hown, hts, hK, hSt, hN, hR⟩ := F
  have hl : lv_has ls 2 [(0, .ref (G.2.2.1 72)), (1, .int a1)] := hl
  unfold f_X11_let at hs
  refine lv_aload_n (pc := 0) hx hb dX11_let_0 rfl (lv_at hl 0 rfl) ?_
  refine lv_iload_n (pc := 1) hx hb dX11_let_1 rfl (lv_at hl 1 rfl) ?_
  obtain ⟨v1, ev, hs⟩ := q_cal hs
  refine q_callV (pc := 2) (q := 72) (As := [.int a1]) (rest := []) (rs := [.int v1]) hx hb hml hl.1 hts hown hK hSt hN hw (c_X11_isWindow l G a1 h v1 ev) rfl rfl cv_X11_182 (rm_ok hR (by decide)) rfl (Nat.le_of_ble_eq_true rfl) rfl rfl dX11_let_2 (fun H locs hw => ?_)
  refine lv_if_eq (pc := 5) (tgt := 16) hx hb dX11_let_5 (by decide) (fun hc => ?_) (fun hc => ?_)
  · replace hs := q_t hc hs
    refine lv_aload_n (pc := 16) hx hb dX11_let_16 rfl (lv_at hl 0 rfl) ?_
    refine lv_ldc (pc := 17) (v := (iI (-1000000001))) hx hb hown (hts _ ki_X11_78) dX11_let_17 ?_
    obtain ⟨v2, h3, ev, hs⟩ := q_cal2 hs
    refine q_callV (pc := 19) (q := 72) (As := [.int (iI (-1000000001))]) (rest := []) (rs := [.int v2]) hx hb hml hl.1 hts hown hK hSt hN hw (c_X11_errs l G (iI (-1000000001)) h v2 h3 ev) rfl rfl cv_X11_79 (rm_ok hR (by decide)) rfl (Nat.le_of_ble_eq_true rfl) rfl rfl dX11_let_19 (fun H locs hw => ?_)
    exact q_iretW hret dX11_let_22 hw hs
  · replace hs := q_f hc hs
    refine lv_aload_n (pc := 8) hx hb dX11_let_8 rfl (lv_at hl 0 rfl) ?_
    refine lv_iload_n (pc := 9) hx hb dX11_let_9 rfl (lv_at hl 1 rfl) ?_
    obtain ⟨v4, h5, ev, hs⟩ := q_cal2 hs
    refine q_callV (pc := 10) (q := 72) (As := [.int a1]) (rest := []) (rs := [.int v4]) hx hb hml hl.1 hts hown hK hSt hN hw (c_X11_letIn l G a1 h v4 h5 ev) rfl rfl cv_X11_185 (rm_ok hR (by decide)) rfl (Nat.le_of_ble_eq_true rfl) rfl rfl dX11_let_10 (fun H locs hw => ?_)
    refine lv_goto (pc := 13) (tgt := 22) hx hb dX11_let_13 (by decide) ?_
    exact q_iretW hret dX11_let_22 hw hs

set_option maxHeartbeats 4000000 in
set_option maxRecDepth 100000 in
theorem c_X11_findHands (l : Launch) (G : GG) (a1 : Int32) (a2 : Int32) (h : Mem) (h' : Mem) (hs : f_X11_findHands h a1 a2 = some h') : Sat l G yX11_findHands cX11_findHands 6 none 55 [.ref (G.2.2.1 72), .int a1, .int a2] h none h' := by
  refine Sat.mkV (by decide) (Nat.le_of_ble_eq_true rfl) ?_
  intro p e R s m args below meth c Q F hret hw ls hl
  obtain ⟨hx, hb, hml, hown, hts, hK, hSt, hN, hR⟩ := F
  have hl : lv_has ls 6 [(0, .ref (G.2.2.1 72)), (1, .int a1), (2, .int a2)] := hl
  unfold f_X11_findHands at hs
  refine lv_aload_n (pc := 0) hx hb dX11_findHands_0 rfl (lv_at hl 0 rfl) ?_
  refine lv_aload_n (pc := 1) hx hb dX11_findHands_1 rfl (lv_at hl 0 rfl) ?_
  refine lv_iload_n (pc := 2) hx hb dX11_findHands_2 rfl (lv_at hl 1 rfl) ?_
  refine lv_iload_n (pc := 3) hx hb dX11_findHands_3 rfl (lv_at hl 2 rfl) ?_
  refine lv_iconst (pc := 4) (v := (iI (-1))) hx hb dX11_findHands_4 rfl ?_
  refine lv_iconst (pc := 5) (v := (iI (-1))) hx hb dX11_findHands_5 rfl ?_
  obtain ⟨v1, h2, ev, hs⟩ := q_cal2 hs
  refine q_callV (pc := 6) (q := 72) (As := [.int a1, .int a2, .int (iI (-1)), .int (iI (-1))]) (rest := [.ref (G.2.2.1 72)]) (rs := [.int v1, .ref (G.2.2.1 72)]) hx hb hml hl.1 hts hown hK hSt hN hw (c_X11_lights l G a1 a2 (iI (-1)) (iI (-1)) h v1 h2 ev) rfl rfl cv_X11_280 (rm_ok hR (by decide)) rfl (Nat.le_of_ble_eq_true rfl) rfl rfl dX11_findHands_6 (fun H locs hw => ?_)
  refine q_join1 (P0 := fun (x3 : Int32) => ∀ (H : Heap) (locs : List Loc), IW G s h2 H locs → ∀ ls : Array Slot, lv_has ls 6 [(0, .ref (G.2.2.1 72)), (1, .int a1), (2, .int a2)] → W p l e R s m args below meth c H locs 0 0 Q (F0 m 17 ls [.int x3, .ref (G.2.2.1 72)])) hs ?_ ?_
  · intro x3 hs H locs hw ls hl
    refine q_putI (pc := 17) (q := 72) hx hb hts hown hK hw rfl fp_X11_284 dX11_findHands_17 hs (fun h5 H locs hw hs => ?_)
    refine lv_aload_n (pc := 20) hx hb dX11_findHands_20 rfl (lv_at hl 0 rfl) ?_
    refine lv_iconst (pc := 21) (v := (iI (-1))) hx hb dX11_findHands_21 rfl ?_
    refine q_putI (pc := 22) (q := 72) hx hb hts hown hK hw rfl fp_X11_287 dX11_findHands_22 hs (fun h6 H locs hw hs => ?_)
    refine lv_aload_n (pc := 25) hx hb dX11_findHands_25 rfl (lv_at hl 0 rfl) ?_
    refine lv_iconst (pc := 26) (v := (iI 0)) hx hb dX11_findHands_26 rfl ?_
    refine q_putI (pc := 27) (q := 72) hx hb hts hown hK hw rfl fp_X11_290 dX11_findHands_27 hs (fun h7 H locs hw hs => ?_)
    refine lv_iconst (pc := 30) (v := (iI 0)) hx hb dX11_findHands_30 rfl ?_
    refine lv_istore_n (pc := 31) (lv' := [(3, .int (iI 0)), (0, .ref (G.2.2.1 72)), (1, .int a1), (2, .int a2)]) hx hb dX11_findHands_31 rfl hl (by decide) rfl (fun ls hl => ?_)
    refine (q_lo2 (P0 := fun (x8 : Int32) (h9 : Mem) => ∀ (H : Heap) (locs : List Loc), IW G s h9 H locs → ∀ ls : Array Slot, lv_has ls 6 [(0, .ref (G.2.2.1 72)), (1, .int a1), (2, .int a2), (3, .int x8)] → W p l e R s m args below meth c H locs 0 0 Q (F0 m 32 ls [])) hs ?_) _ _ hw _ (lv_sub hl [1, 2, 3, 0] rfl)
    intro K10 hK10 x8 h9 hs H locs hw ls hl
    unfold f_X11_findHands_k10 at hs
    refine lv_iload_n (pc := 32) hx hb dX11_findHands_32 rfl (lv_at hl 3 rfl) ?_
    refine lv_aload_n (pc := 33) hx hb dX11_findHands_33 rfl (lv_at hl 0 rfl) ?_
    obtain ⟨v11, ev, hs⟩ := q_cal hs
    refine q_callV (pc := 34) (q := 72) (As := []) (rest := [.int x8]) (rs := [.int v11, .int x8]) hx hb hml hl.1 hts hown hK hSt hN hw (c_X11_many l G h9 v11 ev) rfl rfl cv_X11_67 (rm_ok hR (by decide)) rfl (Nat.le_of_ble_eq_true rfl) rfl rfl dX11_findHands_34 (fun H locs hw => ?_)
    refine q_join0 (P0 := ∀ (H : Heap) (locs : List Loc), IW G s h9 H locs → ∀ ls : Array Slot, lv_has ls 6 [(0, .ref (G.2.2.1 72)), (1, .int a1), (2, .int a2)] → W p l e R s m args below meth c H locs 0 0 Q (F0 m 125 ls [])) hs ?_ ?_
    · intro  hs H locs hw ls hl
      refine lv_aload_n (pc := 125) hx hb dX11_findHands_125 rfl (lv_at hl 0 rfl) ?_
      refine q_getI (pc := 126) (q := 72) hx hb hts hown hK hw rfl fg_X11_284 dX11_findHands_126 ?_
      refine lv_if_lt (pc := 129) (tgt := 133) hx hb dX11_findHands_129 (by decide) (fun hc => ?_) (fun hc => ?_)
      · replace hs := q_t hc hs
        refine lv_iconst (pc := 133) (v := (iI 0)) hx hb dX11_findHands_133 rfl ?_
        refine lv_istore_n (pc := 134) (lv' := [(3, .int (iI 0)), (0, .ref (G.2.2.1 72)), (1, .int a1), (2, .int a2)]) hx hb dX11_findHands_134 rfl hl (by decide) rfl (fun ls hl => ?_)
        refine (q_lo2 (P0 := fun (x13 : Int32) (h14 : Mem) => ∀ (H : Heap) (locs : List Loc), IW G s h14 H locs → ∀ ls : Array Slot, lv_has ls 6 [(0, .ref (G.2.2.1 72)), (1, .int a1), (2, .int a2), (3, .int x13)] → W p l e R s m args below meth c H locs 0 0 Q (F0 m 135 ls [])) hs ?_) _ _ hw _ (lv_sub hl [1, 2, 3, 0] rfl)
        intro K15 hK15 x13 h14 hs H locs hw ls hl
        unfold f_X11_findHands_k15 at hs
        refine lv_iload_n (pc := 135) hx hb dX11_findHands_135 rfl (lv_at hl 3 rfl) ?_
        refine lv_aload_n (pc := 136) hx hb dX11_findHands_136 rfl (lv_at hl 0 rfl) ?_
        obtain ⟨v16, ev, hs⟩ := q_cal hs
        refine q_callV (pc := 137) (q := 72) (As := []) (rest := [.int x13]) (rs := [.int v16, .int x13]) hx hb hml hl.1 hts hown hK hSt hN hw (c_X11_many l G h14 v16 ev) rfl rfl cv_X11_67 (rm_ok hR (by decide)) rfl (Nat.le_of_ble_eq_true rfl) rfl rfl dX11_findHands_137 (fun H locs hw => ?_)
        refine lv_icmp_ge (pc := 140) (tgt := 268) hx hb dX11_findHands_140 (by decide) (fun hc => ?_) (fun hc => ?_)
        · replace hs := q_t hc hs
          exact q_vret hret dX11_findHands_268 hw hs
        · replace hs := q_f hc hs
          refine lv_iload_n (pc := 143) hx hb dX11_findHands_143 rfl (lv_at hl 3 rfl) ?_
          refine lv_iconst (pc := 144) (v := (iI 1)) hx hb dX11_findHands_144 rfl ?_
          refine lv_iadd (pc := 145) hx hb dX11_findHands_145 ?_
          obtain ⟨x17, ex17, hs⟩ := q_nm hs
          refine q_topI ex17 ?_
          refine lv_istore (pc := 146) (lv' := [(4, .int x17), (0, .ref (G.2.2.1 72)), (1, .int a1), (2, .int a2), (3, .int x13)]) hx hb dX11_findHands_146 hl (by decide) rfl (fun ls hl => ?_)
          refine (q_lo2 (P0 := fun (x18 : Int32) (h19 : Mem) => ∀ (H : Heap) (locs : List Loc), IW G s h19 H locs → ∀ ls : Array Slot, lv_has ls 6 [(0, .ref (G.2.2.1 72)), (1, .int a1), (2, .int a2), (3, .int x13), (4, .int x18)] → W p l e R s m args below meth c H locs 0 0 Q (F0 m 148 ls [])) hs ?_) _ _ hw _ (lv_sub hl [1, 2, 3, 4, 0] rfl)
          intro K20 hK20 x18 h19 hs H locs hw ls hl
          unfold f_X11_findHands_k20 at hs
          refine lv_iload (pc := 148) hx hb dX11_findHands_148 (lv_at hl 4 rfl) ?_
          refine lv_aload_n (pc := 150) hx hb dX11_findHands_150 rfl (lv_at hl 0 rfl) ?_
          obtain ⟨v21, ev, hs⟩ := q_cal hs
          refine q_callV (pc := 151) (q := 72) (As := []) (rest := [.int x18]) (rs := [.int v21, .int x18]) hx hb hml hl.1 hts hown hK hSt hN hw (c_X11_many l G h19 v21 ev) rfl rfl cv_X11_67 (rm_ok hR (by decide)) rfl (Nat.le_of_ble_eq_true rfl) rfl rfl dX11_findHands_151 (fun H locs hw => ?_)
          refine lv_icmp_ge (pc := 154) (tgt := 262) hx hb dX11_findHands_154 (by decide) (fun hc => ?_) (fun hc => ?_)
          · replace hs := q_t hc hs
            obtain ⟨x22, ex22, hs⟩ := q_nm hs
            refine lv_iinc (pc := 262) (v := x22) (lv' := [(3, .int x22), (0, .ref (G.2.2.1 72)), (1, .int a1), (2, .int a2), (4, .int x18)]) hx hb dX11_findHands_262 hl (k := 3) rfl ex22 (by decide) rfl (fun ls hl => ?_)
            refine lv_goto (pc := 265) (tgt := 135) hx hb dX11_findHands_265 (by decide) ?_
            exact hK15 _ _ hs _ _ hw _ (lv_sub hl [1, 2, 3, 0] rfl)
          · replace hs := q_f hc hs
            refine lv_aload_n (pc := 157) hx hb dX11_findHands_157 rfl (lv_at hl 0 rfl) ?_
            refine lv_iload_n (pc := 158) hx hb dX11_findHands_158 rfl (lv_at hl 3 rfl) ?_
            obtain ⟨v23, ev, hs⟩ := q_cal hs
            refine q_callV (pc := 159) (q := 72) (As := [.int x13]) (rest := []) (rs := [.int v23]) hx hb hml hl.1 hts hown hK hSt hN hw (c_X11_canTurn l G x13 h19 v23 ev) rfl rfl cv_X11_99 (rm_ok hR (by decide)) rfl (Nat.le_of_ble_eq_true rfl) rfl rfl dX11_findHands_159 (fun H locs hw => ?_)
            refine q_join2 (P0 := fun (x24 : Int32) (h25 : Mem) => ∀ (H : Heap) (locs : List Loc), IW G s h25 H locs → ∀ ls : Array Slot, lv_has ls 6 [(0, .ref (G.2.2.1 72)), (1, .int a1), (2, .int a2), (3, .int x13), (4, .int x18)] → W p l e R s m args below meth c H locs 0 0 Q (F0 m 217 ls [.int x24])) hs ?_ ?_
            · intro x24 h25 hs H locs hw ls hl
              unfold f_X11_findHands_k26 at hs
              refine lv_istore (pc := 217) (lv' := [(5, .int x24), (0, .ref (G.2.2.1 72)), (1, .int a1), (2, .int a2), (3, .int x13), (4, .int x18)]) hx hb dX11_findHands_217 hl (by decide) rfl (fun ls hl => ?_)
              refine lv_iload (pc := 219) hx hb dX11_findHands_219 (lv_at hl 0 rfl) ?_
              refine q_join1 (P0 := fun (h27 : Mem) => ∀ (H : Heap) (locs : List Loc), IW G s h27 H locs → ∀ ls : Array Slot, lv_has ls 6 [(0, .ref (G.2.2.1 72)), (1, .int a1), (2, .int a2), (3, .int x13), (4, .int x18)] → W p l e R s m args below meth c H locs 0 0 Q (F0 m 256 ls [])) hs ?_ ?_
              · intro h27 hs H locs hw ls hl
                obtain ⟨x29, ex29, hs⟩ := q_nm hs
                refine lv_iinc (pc := 256) (v := x29) (lv' := [(4, .int x29), (0, .ref (G.2.2.1 72)), (1, .int a1), (2, .int a2), (3, .int x13)]) hx hb dX11_findHands_256 hl (k := 4) rfl ex29 (by decide) rfl (fun ls hl => ?_)
                refine lv_goto (pc := 259) (tgt := 148) hx hb dX11_findHands_259 (by decide) ?_
                exact hK20 _ _ hs _ _ hw _ (lv_sub hl [1, 2, 3, 4, 0] rfl)
              · intro K28 hK28 hs
                refine lv_if_eq (pc := 221) (tgt := 256) hx hb dX11_findHands_221 (by decide) (fun hc => ?_) (fun hc => ?_)
                · replace hs := q_t hc hs
                  exact hK28 _ hs _ _ hw _ (lv_sub hl [1, 2, 3, 4, 5] rfl)
                · replace hs := q_f hc hs
                  refine lv_aload_n (pc := 224) hx hb dX11_findHands_224 rfl (lv_at hl 1 rfl) ?_
                  refine lv_iconst (pc := 225) (v := (iI 2)) hx hb dX11_findHands_225 rfl ?_
                  refine q_putI (pc := 226) (q := 72) hx hb hts hown hK hw rfl fp_X11_284 dX11_findHands_226 hs (fun h30 H locs hw hs => ?_)
                  refine lv_aload_n (pc := 229) hx hb dX11_findHands_229 rfl (lv_at hl 1 rfl) ?_
                  refine lv_bipush (pc := 230) (v := (iI 100)) hx hb dX11_findHands_230 (by decide) ?_
                  refine lv_iload_n (pc := 232) hx hb dX11_findHands_232 rfl (lv_at hl 4 rfl) ?_
                  refine lv_imul (pc := 233) hx hb dX11_findHands_233 ?_
                  refine lv_iload (pc := 234) hx hb dX11_findHands_234 (lv_at hl 5 rfl) ?_
                  refine lv_iadd (pc := 236) hx hb dX11_findHands_236 ?_
                  refine q_putI (pc := 237) (q := 72) hx hb hts hown hK hw rfl fp_X11_287 dX11_findHands_237 hs (fun h31 H locs hw hs => ?_)
                  refine lv_aload_n (pc := 240) hx hb dX11_findHands_240 rfl (lv_at hl 1 rfl) ?_
                  refine lv_aload_n (pc := 241) hx hb dX11_findHands_241 rfl (lv_at hl 1 rfl) ?_
                  refine lv_iload_n (pc := 242) hx hb dX11_findHands_242 rfl (lv_at hl 4 rfl) ?_
                  obtain ⟨v32, h33, ev, hs⟩ := q_cal2 hs
                  refine q_callV (pc := 243) (q := 72) (As := [.int x13]) (rest := [.ref (G.2.2.1 72)]) (rs := [.int v32, .ref (G.2.2.1 72)]) hx hb hml hl.1 hts hown hK hSt hN hw (c_X11_costOf l G x13 h31 v32 h33 ev) rfl rfl cv_X11_102 (rm_ok hR (by decide)) rfl (Nat.le_of_ble_eq_true rfl) rfl rfl dX11_findHands_243 (fun H locs hw => ?_)
                  refine lv_aload_n (pc := 246) hx hb dX11_findHands_246 rfl (lv_at hl 1 rfl) ?_
                  refine lv_iload (pc := 247) hx hb dX11_findHands_247 (lv_at hl 5 rfl) ?_
                  obtain ⟨v34, h35, ev, hs⟩ := q_cal2 hs
                  refine q_callV (pc := 249) (q := 72) (As := [.int x18]) (rest := [.int v32, .ref (G.2.2.1 72)]) (rs := [.int v34, .int v32, .ref (G.2.2.1 72)]) hx hb hml hl.1 hts hown hK hSt hN hw (c_X11_costOf l G x18 h33 v34 h35 ev) rfl rfl cv_X11_102 (rm_ok hR (by decide)) rfl (Nat.le_of_ble_eq_true rfl) rfl rfl dX11_findHands_249 (fun H locs hw => ?_)
                  refine lv_iadd (pc := 252) hx hb dX11_findHands_252 ?_
                  refine q_putI (pc := 253) (q := 72) hx hb hts hown hK hw rfl fp_X11_290 dX11_findHands_253 hs (fun h36 H locs hw hs => ?_)
                  exact hK28 _ hs _ _ hw _ (lv_sub hl [1, 2, 3, 4, 5] rfl)
            · intro K26 hK26 hs
              refine q_join1 (P0 := fun (h37 : Mem) => ∀ (H : Heap) (locs : List Loc), IW G s h37 H locs → ∀ ls : Array Slot, lv_has ls 6 [(0, .ref (G.2.2.1 72)), (1, .int a1), (2, .int a2), (3, .int x13), (4, .int x18)] → W p l e R s m args below meth c H locs 0 0 Q (F0 m 216 ls [])) hs ?_ ?_
              · intro h37 hs H locs hw ls hl
                refine lv_iconst (pc := 216) (v := (iI 0)) hx hb dX11_findHands_216 rfl ?_
                exact hK26 _ _ hs _ _ hw _ (lv_sub hl [0, 1, 2, 3, 4] rfl)
              · intro K38 hK38 hs
                refine lv_if_eq (pc := 162) (tgt := 216) hx hb dX11_findHands_162 (by decide) (fun hc => ?_) (fun hc => ?_)
                · replace hs := q_t hc hs
                  exact hK38 _ hs _ _ hw _ (lv_sub hl [0, 1, 2, 3, 4] rfl)
                · replace hs := q_f hc hs
                  refine lv_aload_n (pc := 165) hx hb dX11_findHands_165 rfl (lv_at hl 0 rfl) ?_
                  refine lv_iload (pc := 166) hx hb dX11_findHands_166 (lv_at hl 4 rfl) ?_
                  obtain ⟨v39, ev, hs⟩ := q_cal hs
                  refine q_callV (pc := 168) (q := 72) (As := [.int x18]) (rest := []) (rs := [.int v39]) hx hb hml hl.1 hts hown hK hSt hN hw (c_X11_canTurn l G x18 h19 v39 ev) rfl rfl cv_X11_99 (rm_ok hR (by decide)) rfl (Nat.le_of_ble_eq_true rfl) rfl rfl dX11_findHands_168 (fun H locs hw => ?_)
                  refine lv_if_eq (pc := 171) (tgt := 216) hx hb dX11_findHands_171 (by decide) (fun hc => ?_) (fun hc => ?_)
                  · replace hs := q_t hc hs
                    exact hK38 _ hs _ _ hw _ (lv_sub hl [0, 1, 2, 3, 4] rfl)
                  · replace hs := q_f hc hs
                    refine lv_aload_n (pc := 174) hx hb dX11_findHands_174 rfl (lv_at hl 0 rfl) ?_
                    refine q_getI (pc := 175) (q := 72) hx hb hts hown hK hw rfl fg_X11_284 dX11_findHands_175 ?_
                    refine q_join1 (P0 := fun (h40 : Mem) => ∀ (H : Heap) (locs : List Loc), IW G s h40 H locs → ∀ ls : Array Slot, lv_has ls 6 [(0, .ref (G.2.2.1 72)), (1, .int a1), (2, .int a2), (3, .int x13), (4, .int x18)] → W p l e R s m args below meth c H locs 0 0 Q (F0 m 200 ls [])) hs ?_ ?_
                    · intro h40 hs H locs hw ls hl
                      refine lv_aload_n (pc := 200) hx hb dX11_findHands_200 rfl (lv_at hl 0 rfl) ?_
                      refine lv_iload_n (pc := 201) hx hb dX11_findHands_201 rfl (lv_at hl 1 rfl) ?_
                      refine lv_iload_n (pc := 202) hx hb dX11_findHands_202 rfl (lv_at hl 2 rfl) ?_
                      refine lv_iload_n (pc := 203) hx hb dX11_findHands_203 rfl (lv_at hl 3 rfl) ?_
                      refine lv_iload (pc := 204) hx hb dX11_findHands_204 (lv_at hl 4 rfl) ?_
                      obtain ⟨v42, h43, ev, hs⟩ := q_cal2 hs
                      refine q_callV (pc := 206) (q := 72) (As := [.int a1, .int a2, .int x13, .int x18]) (rest := []) (rs := [.int v42]) hx hb hml hl.1 hts hown hK hSt hN hw (c_X11_lights l G a1 a2 x13 x18 h40 v42 h43 ev) rfl rfl cv_X11_280 (rm_ok hR (by decide)) rfl (Nat.le_of_ble_eq_true rfl) rfl rfl dX11_findHands_206 (fun H locs hw => ?_)
                      refine lv_if_eq (pc := 209) (tgt := 216) hx hb dX11_findHands_209 (by decide) (fun hc => ?_) (fun hc => ?_)
                      · replace hs := q_t hc hs
                        exact hK38 _ hs _ _ hw _ (lv_sub hl [0, 1, 2, 3, 4] rfl)
                      · replace hs := q_f hc hs
                        refine lv_iconst (pc := 212) (v := (iI 1)) hx hb dX11_findHands_212 rfl ?_
                        refine lv_goto (pc := 213) (tgt := 217) hx hb dX11_findHands_213 (by decide) ?_
                        exact hK26 _ _ hs _ _ hw _ (lv_sub hl [0, 1, 2, 3, 4] rfl)
                    · intro K41 hK41 hs
                      refine lv_if_lt (pc := 178) (tgt := 200) hx hb dX11_findHands_178 (by decide) (fun hc => ?_) (fun hc => ?_)
                      · replace hs := q_t hc hs
                        exact hK41 _ hs _ _ hw _ (lv_sub hl [0, 1, 2, 3, 4] rfl)
                      · replace hs := q_f hc hs
                        refine lv_aload_n (pc := 181) hx hb dX11_findHands_181 rfl (lv_at hl 0 rfl) ?_
                        refine lv_iload_n (pc := 182) hx hb dX11_findHands_182 rfl (lv_at hl 3 rfl) ?_
                        obtain ⟨v44, h45, ev, hs⟩ := q_cal2 hs
                        refine q_callV (pc := 183) (q := 72) (As := [.int x13]) (rest := []) (rs := [.int v44]) hx hb hml hl.1 hts hown hK hSt hN hw (c_X11_costOf l G x13 h19 v44 h45 ev) rfl rfl cv_X11_102 (rm_ok hR (by decide)) rfl (Nat.le_of_ble_eq_true rfl) rfl rfl dX11_findHands_183 (fun H locs hw => ?_)
                        refine lv_aload_n (pc := 186) hx hb dX11_findHands_186 rfl (lv_at hl 0 rfl) ?_
                        refine lv_iload (pc := 187) hx hb dX11_findHands_187 (lv_at hl 4 rfl) ?_
                        obtain ⟨v46, h47, ev, hs⟩ := q_cal2 hs
                        refine q_callV (pc := 189) (q := 72) (As := [.int x18]) (rest := [.int v44]) (rs := [.int v46, .int v44]) hx hb hml hl.1 hts hown hK hSt hN hw (c_X11_costOf l G x18 h45 v46 h47 ev) rfl rfl cv_X11_102 (rm_ok hR (by decide)) rfl (Nat.le_of_ble_eq_true rfl) rfl rfl dX11_findHands_189 (fun H locs hw => ?_)
                        refine lv_iadd (pc := 192) hx hb dX11_findHands_192 ?_
                        refine lv_aload_n (pc := 193) hx hb dX11_findHands_193 rfl (lv_at hl 0 rfl) ?_
                        refine q_getI (pc := 194) (q := 72) hx hb hts hown hK hw rfl fg_X11_290 dX11_findHands_194 ?_
                        refine lv_icmp_ge (pc := 197) (tgt := 216) hx hb dX11_findHands_197 (by decide) (fun hc => ?_) (fun hc => ?_)
                        · replace hs := q_t hc hs
                          exact hK38 _ hs _ _ hw _ (lv_sub hl [0, 1, 2, 3, 4] rfl)
                        · replace hs := q_f hc hs
                          exact hK41 _ hs _ _ hw _ (lv_sub hl [0, 1, 2, 3, 4] rfl)
      · replace hs := q_f hc hs
        exact q_vret hret dX11_findHands_132 hw hs
    · intro K12 hK12 hs
      refine lv_icmp_ge (pc := 37) (tgt := 125) hx hb dX11_findHands_37 (by decide) (fun hc => ?_) (fun hc => ?_)
      · replace hs := q_t hc hs
        exact hK12 hs _ _ hw _ (lv_sub hl [0, 1, 2] rfl)
      · replace hs := q_f hc hs
        refine lv_aload_n (pc := 40) hx hb dX11_findHands_40 rfl (lv_at hl 0 rfl) ?_
        refine q_getI (pc := 41) (q := 72) hx hb hts hown hK hw rfl fg_X11_284 dX11_findHands_41 ?_
        refine lv_if_eq (pc := 44) (tgt := 125) hx hb dX11_findHands_44 (by decide) (fun hc => ?_) (fun hc => ?_)
        · replace hs := q_t hc hs
          exact hK12 hs _ _ hw _ (lv_sub hl [0, 1, 2] rfl)
        · replace hs := q_f hc hs
          refine lv_aload_n (pc := 47) hx hb dX11_findHands_47 rfl (lv_at hl 0 rfl) ?_
          refine lv_iload_n (pc := 48) hx hb dX11_findHands_48 rfl (lv_at hl 3 rfl) ?_
          obtain ⟨v48, ev, hs⟩ := q_cal hs
          refine q_callV (pc := 49) (q := 72) (As := [.int x8]) (rest := []) (rs := [.int v48]) hx hb hml hl.1 hts hown hK hSt hN hw (c_X11_canTurn l G x8 h9 v48 ev) rfl rfl cv_X11_99 (rm_ok hR (by decide)) rfl (Nat.le_of_ble_eq_true rfl) rfl rfl dX11_findHands_49 (fun H locs hw => ?_)
          refine q_join2 (P0 := fun (x49 : Int32) (h50 : Mem) => ∀ (H : Heap) (locs : List Loc), IW G s h50 H locs → ∀ ls : Array Slot, lv_has ls 6 [(0, .ref (G.2.2.1 72)), (1, .int a1), (2, .int a2), (3, .int x8)] → W p l e R s m args below meth c H locs 0 0 Q (F0 m 90 ls [.int x49])) hs ?_ ?_
          · intro x49 h50 hs H locs hw ls hl
            unfold f_X11_findHands_k51 at hs
            refine lv_istore (pc := 90) (lv' := [(4, .int x49), (0, .ref (G.2.2.1 72)), (1, .int a1), (2, .int a2), (3, .int x8)]) hx hb dX11_findHands_90 hl (by decide) rfl (fun ls hl => ?_)
            refine lv_iload (pc := 92) hx hb dX11_findHands_92 (lv_at hl 0 rfl) ?_
            refine q_join1 (P0 := fun (h52 : Mem) => ∀ (H : Heap) (locs : List Loc), IW G s h52 H locs → ∀ ls : Array Slot, lv_has ls 6 [(0, .ref (G.2.2.1 72)), (1, .int a1), (2, .int a2), (3, .int x8)] → W p l e R s m args below meth c H locs 0 0 Q (F0 m 119 ls [])) hs ?_ ?_
            · intro h52 hs H locs hw ls hl
              obtain ⟨x54, ex54, hs⟩ := q_nm hs
              refine lv_iinc (pc := 119) (v := x54) (lv' := [(3, .int x54), (0, .ref (G.2.2.1 72)), (1, .int a1), (2, .int a2)]) hx hb dX11_findHands_119 hl (k := 3) rfl ex54 (by decide) rfl (fun ls hl => ?_)
              refine lv_goto (pc := 122) (tgt := 32) hx hb dX11_findHands_122 (by decide) ?_
              exact hK10 _ _ hs _ _ hw _ (lv_sub hl [1, 2, 3, 0] rfl)
            · intro K53 hK53 hs
              refine lv_if_eq (pc := 94) (tgt := 119) hx hb dX11_findHands_94 (by decide) (fun hc => ?_) (fun hc => ?_)
              · replace hs := q_t hc hs
                exact hK53 _ hs _ _ hw _ (lv_sub hl [1, 2, 3, 4] rfl)
              · replace hs := q_f hc hs
                refine lv_aload_n (pc := 97) hx hb dX11_findHands_97 rfl (lv_at hl 1 rfl) ?_
                refine lv_iconst (pc := 98) (v := (iI 1)) hx hb dX11_findHands_98 rfl ?_
                refine q_putI (pc := 99) (q := 72) hx hb hts hown hK hw rfl fp_X11_284 dX11_findHands_99 hs (fun h55 H locs hw hs => ?_)
                refine lv_aload_n (pc := 102) hx hb dX11_findHands_102 rfl (lv_at hl 1 rfl) ?_
                refine lv_bipush (pc := 103) (v := (iI 101)) hx hb dX11_findHands_103 (by decide) ?_
                refine lv_iload_n (pc := 105) hx hb dX11_findHands_105 rfl (lv_at hl 4 rfl) ?_
                refine lv_imul (pc := 106) hx hb dX11_findHands_106 ?_
                refine q_putI (pc := 107) (q := 72) hx hb hts hown hK hw rfl fp_X11_287 dX11_findHands_107 hs (fun h56 H locs hw hs => ?_)
                refine lv_aload_n (pc := 110) hx hb dX11_findHands_110 rfl (lv_at hl 1 rfl) ?_
                refine lv_aload_n (pc := 111) hx hb dX11_findHands_111 rfl (lv_at hl 1 rfl) ?_
                refine lv_iload_n (pc := 112) hx hb dX11_findHands_112 rfl (lv_at hl 4 rfl) ?_
                obtain ⟨v57, h58, ev, hs⟩ := q_cal2 hs
                refine q_callV (pc := 113) (q := 72) (As := [.int x8]) (rest := [.ref (G.2.2.1 72)]) (rs := [.int v57, .ref (G.2.2.1 72)]) hx hb hml hl.1 hts hown hK hSt hN hw (c_X11_costOf l G x8 h56 v57 h58 ev) rfl rfl cv_X11_102 (rm_ok hR (by decide)) rfl (Nat.le_of_ble_eq_true rfl) rfl rfl dX11_findHands_113 (fun H locs hw => ?_)
                refine q_putI (pc := 116) (q := 72) hx hb hts hown hK hw rfl fp_X11_290 dX11_findHands_116 hs (fun h59 H locs hw hs => ?_)
                exact hK53 _ hs _ _ hw _ (lv_sub hl [1, 2, 3, 4] rfl)
          · intro K51 hK51 hs
            refine q_join1 (P0 := fun (h60 : Mem) => ∀ (H : Heap) (locs : List Loc), IW G s h60 H locs → ∀ ls : Array Slot, lv_has ls 6 [(0, .ref (G.2.2.1 72)), (1, .int a1), (2, .int a2), (3, .int x8)] → W p l e R s m args below meth c H locs 0 0 Q (F0 m 89 ls [])) hs ?_ ?_
            · intro h60 hs H locs hw ls hl
              refine lv_iconst (pc := 89) (v := (iI 0)) hx hb dX11_findHands_89 rfl ?_
              exact hK51 _ _ hs _ _ hw _ (lv_sub hl [0, 1, 2, 3] rfl)
            · intro K61 hK61 hs
              refine lv_if_eq (pc := 52) (tgt := 89) hx hb dX11_findHands_52 (by decide) (fun hc => ?_) (fun hc => ?_)
              · replace hs := q_t hc hs
                exact hK61 _ hs _ _ hw _ (lv_sub hl [0, 1, 2, 3] rfl)
              · replace hs := q_f hc hs
                refine lv_aload_n (pc := 55) hx hb dX11_findHands_55 rfl (lv_at hl 0 rfl) ?_
                refine q_getI (pc := 56) (q := 72) hx hb hts hown hK hw rfl fg_X11_284 dX11_findHands_56 ?_
                refine q_join1 (P0 := fun (h62 : Mem) => ∀ (H : Heap) (locs : List Loc), IW G s h62 H locs → ∀ ls : Array Slot, lv_has ls 6 [(0, .ref (G.2.2.1 72)), (1, .int a1), (2, .int a2), (3, .int x8)] → W p l e R s m args below meth c H locs 0 0 Q (F0 m 74 ls [])) hs ?_ ?_
                · intro h62 hs H locs hw ls hl
                  refine lv_aload_n (pc := 74) hx hb dX11_findHands_74 rfl (lv_at hl 0 rfl) ?_
                  refine lv_iload_n (pc := 75) hx hb dX11_findHands_75 rfl (lv_at hl 1 rfl) ?_
                  refine lv_iload_n (pc := 76) hx hb dX11_findHands_76 rfl (lv_at hl 2 rfl) ?_
                  refine lv_iload_n (pc := 77) hx hb dX11_findHands_77 rfl (lv_at hl 3 rfl) ?_
                  refine lv_iconst (pc := 78) (v := (iI (-1))) hx hb dX11_findHands_78 rfl ?_
                  obtain ⟨v64, h65, ev, hs⟩ := q_cal2 hs
                  refine q_callV (pc := 79) (q := 72) (As := [.int a1, .int a2, .int x8, .int (iI (-1))]) (rest := []) (rs := [.int v64]) hx hb hml hl.1 hts hown hK hSt hN hw (c_X11_lights l G a1 a2 x8 (iI (-1)) h62 v64 h65 ev) rfl rfl cv_X11_280 (rm_ok hR (by decide)) rfl (Nat.le_of_ble_eq_true rfl) rfl rfl dX11_findHands_79 (fun H locs hw => ?_)
                  refine lv_if_eq (pc := 82) (tgt := 89) hx hb dX11_findHands_82 (by decide) (fun hc => ?_) (fun hc => ?_)
                  · replace hs := q_t hc hs
                    exact hK61 _ hs _ _ hw _ (lv_sub hl [0, 1, 2, 3] rfl)
                  · replace hs := q_f hc hs
                    refine lv_iconst (pc := 85) (v := (iI 1)) hx hb dX11_findHands_85 rfl ?_
                    refine lv_goto (pc := 86) (tgt := 90) hx hb dX11_findHands_86 (by decide) ?_
                    exact hK51 _ _ hs _ _ hw _ (lv_sub hl [0, 1, 2, 3] rfl)
                · intro K63 hK63 hs
                  refine lv_if_lt (pc := 59) (tgt := 74) hx hb dX11_findHands_59 (by decide) (fun hc => ?_) (fun hc => ?_)
                  · replace hs := q_t hc hs
                    exact hK63 _ hs _ _ hw _ (lv_sub hl [0, 1, 2, 3] rfl)
                  · replace hs := q_f hc hs
                    refine lv_aload_n (pc := 62) hx hb dX11_findHands_62 rfl (lv_at hl 0 rfl) ?_
                    refine lv_iload_n (pc := 63) hx hb dX11_findHands_63 rfl (lv_at hl 3 rfl) ?_
                    obtain ⟨v66, h67, ev, hs⟩ := q_cal2 hs
                    refine q_callV (pc := 64) (q := 72) (As := [.int x8]) (rest := []) (rs := [.int v66]) hx hb hml hl.1 hts hown hK hSt hN hw (c_X11_costOf l G x8 h9 v66 h67 ev) rfl rfl cv_X11_102 (rm_ok hR (by decide)) rfl (Nat.le_of_ble_eq_true rfl) rfl rfl dX11_findHands_64 (fun H locs hw => ?_)
                    refine lv_aload_n (pc := 67) hx hb dX11_findHands_67 rfl (lv_at hl 0 rfl) ?_
                    refine q_getI (pc := 68) (q := 72) hx hb hts hown hK hw rfl fg_X11_290 dX11_findHands_68 ?_
                    refine lv_icmp_ge (pc := 71) (tgt := 89) hx hb dX11_findHands_71 (by decide) (fun hc => ?_) (fun hc => ?_)
                    · replace hs := q_t hc hs
                      exact hK61 _ hs _ _ hw _ (lv_sub hl [0, 1, 2, 3] rfl)
                    · replace hs := q_f hc hs
                      exact hK63 _ hs _ _ hw _ (lv_sub hl [0, 1, 2, 3] rfl)
  · intro K4 hK4 hs
    refine lv_if_eq (pc := 9) (tgt := 16) hx hb dX11_findHands_9 (by decide) (fun hc => ?_) (fun hc => ?_)
    · replace hs := q_t hc hs
      refine lv_iconst (pc := 16) (v := (iI (-1))) hx hb dX11_findHands_16 rfl ?_
      exact hK4 _ hs _ _ hw _ (lv_sub hl [0, 1, 2] rfl)
    · replace hs := q_f hc hs
      refine lv_iconst (pc := 12) (v := (iI 0)) hx hb dX11_findHands_12 rfl ?_
      refine lv_goto (pc := 13) (tgt := 17) hx hb dX11_findHands_13 (by decide) ?_
      exact hK4 _ hs _ _ hw _ (lv_sub hl [0, 1, 2] rfl)

set_option maxHeartbeats 4000000 in
theorem c_X11_throne (l : Launch) (G : GG) (a1 : Int32) (a2 : Int32) (a3 : Int32) (h : Mem) (v : Int32) (h' : Mem) (hs : f_X11_throne h a1 a2 a3 = some (v, h')) : Sat l G yX11_throne cX11_throne 4 (some .int) 56 [.ref (G.2.2.1 72), .int a1, .int a2, .int a3] h (some (.int v)) h' := by
  refine Sat.mkI (by decide) (Nat.le_of_ble_eq_true rfl) ?_
  intro p e R s m args below meth c Q F hret hw ls hl
  obtain ⟨hx, hb, hml, hown, hts, hK, hSt, hN, hR⟩ := F
  have hl : lv_has ls 4 [(0, .ref (G.2.2.1 72)), (1, .int a1), (2, .int a2), (3, .int a3)] := hl
  unfold f_X11_throne at hs
  refine lv_aload_n (pc := 0) hx hb dX11_throne_0 rfl (lv_at hl 0 rfl) ?_
  refine lv_iload_n (pc := 1) hx hb dX11_throne_1 rfl (lv_at hl 1 rfl) ?_
  obtain ⟨v1, ev, hs⟩ := q_cal hs
  refine q_callV (pc := 2) (q := 72) (As := [.int a1]) (rest := []) (rs := [.int v1]) hx hb hml hl.1 hts hown hK hSt hN hw (c_X11_isSquare l G a1 h v1 ev) rfl rfl cv_X11_83 (rm_ok hR (by decide)) rfl (Nat.le_of_ble_eq_true rfl) rfl rfl dX11_throne_2 (fun H locs hw => ?_)
  refine q_join0 (P0 := ∀ (H : Heap) (locs : List Loc), IW G s h H locs → ∀ ls : Array Slot, lv_has ls 4 [(0, .ref (G.2.2.1 72))] → W p l e R s m args below meth c H locs 0 0 Q (F0 m 25 ls [])) hs ?_ ?_
  · intro  hs H locs hw ls hl
    refine lv_aload_n (pc := 25) hx hb dX11_throne_25 rfl (lv_at hl 0 rfl) ?_
    refine lv_ldc (pc := 26) (v := (iI (-1000000001))) hx hb hown (hts _ ki_X11_78) dX11_throne_26 ?_
    obtain ⟨v3, h4, ev, hs⟩ := q_cal2 hs
    refine q_callV (pc := 28) (q := 72) (As := [.int (iI (-1000000001))]) (rest := []) (rs := [.int v3]) hx hb hml hl.1 hts hown hK hSt hN hw (c_X11_errs l G (iI (-1000000001)) h v3 h4 ev) rfl rfl cv_X11_79 (rm_ok hR (by decide)) rfl (Nat.le_of_ble_eq_true rfl) rfl rfl dX11_throne_28 (fun H locs hw => ?_)
    exact q_iretW hret dX11_throne_31 hw hs
  · intro K2 hK2 hs
    refine lv_if_eq (pc := 5) (tgt := 25) hx hb dX11_throne_5 (by decide) (fun hc => ?_) (fun hc => ?_)
    · replace hs := q_t hc hs
      exact hK2 hs _ _ hw _ (lv_sub hl [0] rfl)
    · replace hs := q_f hc hs
      refine lv_aload_n (pc := 8) hx hb dX11_throne_8 rfl (lv_at hl 0 rfl) ?_
      refine lv_iload_n (pc := 9) hx hb dX11_throne_9 rfl (lv_at hl 2 rfl) ?_
      obtain ⟨v5, ev, hs⟩ := q_cal hs
      refine q_callV (pc := 10) (q := 72) (As := [.int a2]) (rest := []) (rs := [.int v5]) hx hb hml hl.1 hts hown hK hSt hN hw (c_X11_isWindow l G a2 h v5 ev) rfl rfl cv_X11_182 (rm_ok hR (by decide)) rfl (Nat.le_of_ble_eq_true rfl) rfl rfl dX11_throne_10 (fun H locs hw => ?_)
      refine lv_if_eq (pc := 13) (tgt := 25) hx hb dX11_throne_13 (by decide) (fun hc => ?_) (fun hc => ?_)
      · replace hs := q_t hc hs
        exact hK2 hs _ _ hw _ (lv_sub hl [0] rfl)
      · replace hs := q_f hc hs
        refine lv_iload_n (pc := 16) hx hb dX11_throne_16 rfl (lv_at hl 3 rfl) ?_
        refine lv_iconst (pc := 17) (v := (iI 0)) hx hb dX11_throne_17 rfl ?_
        refine lv_iconst (pc := 18) (v := (iI 2)) hx hb dX11_throne_18 rfl ?_
        obtain ⟨v6, ev, hs⟩ := q_cal hs
        refine q_callS (pc := 19) (As := [.int a3, .int (iI 0), .int (iI 2)]) (rest := []) (rs := [.int v6]) hx hb hml hl.1 hts hown hK hSt hN hw (c_X11_in l G a3 (iI 0) (iI 2) h v6 ev) cs_X11_71 (rm_ok hR (by decide)) rfl (Nat.le_of_ble_eq_true rfl) rfl rfl dX11_throne_19 (fun H locs hw => ?_)
        refine lv_if_ne (pc := 22) (tgt := 32) hx hb dX11_throne_22 (by decide) (fun hc => ?_) (fun hc => ?_)
        · replace hs := q_t hc hs
          refine lv_aload_n (pc := 32) hx hb dX11_throne_32 rfl (lv_at hl 0 rfl) ?_
          refine lv_iload_n (pc := 33) hx hb dX11_throne_33 rfl (lv_at hl 1 rfl) ?_
          refine lv_iload_n (pc := 34) hx hb dX11_throne_34 rfl (lv_at hl 2 rfl) ?_
          obtain ⟨h7, ev, hs⟩ := q_cal hs
          refine q_callV (pc := 35) (q := 72) (As := [.int a1, .int a2]) (rest := []) (rs := []) hx hb hml hl.1 hts hown hK hSt hN hw (c_X11_findHands l G a1 a2 h h7 ev) rfl rfl cv_X11_293 (rm_ok hR (by decide)) rfl (Nat.le_of_ble_eq_true rfl) rfl rfl dX11_throne_35 (fun H locs hw => ?_)
          refine lv_aload_n (pc := 38) hx hb dX11_throne_38 rfl (lv_at hl 0 rfl) ?_
          refine q_getI (pc := 39) (q := 72) hx hb hts hown hK hw rfl fg_X11_284 dX11_throne_39 ?_
          refine lv_if_ge (pc := 42) (tgt := 52) hx hb dX11_throne_42 (by decide) (fun hc => ?_) (fun hc => ?_)
          · replace hs := q_t hc hs
            refine lv_iload_n (pc := 52) hx hb dX11_throne_52 rfl (lv_at hl 3 rfl) ?_
            refine lv_if_ne (pc := 53) (tgt := 63) hx hb dX11_throne_53 (by decide) (fun hc => ?_) (fun hc => ?_)
            · replace hs := q_t hc hs
              refine lv_iload_n (pc := 63) hx hb dX11_throne_63 rfl (lv_at hl 3 rfl) ?_
              refine lv_iconst (pc := 64) (v := (iI 1)) hx hb dX11_throne_64 rfl ?_
              refine lv_icmp_ne (pc := 65) (tgt := 75) hx hb dX11_throne_65 (by decide) (fun hc => ?_) (fun hc => ?_)
              · replace hs := q_t hc hs
                refine lv_aload_n (pc := 75) hx hb dX11_throne_75 rfl (lv_at hl 0 rfl) ?_
                refine q_getI (pc := 76) (q := 72) hx hb hts hown hK hw rfl fg_X11_290 dX11_throne_76 ?_
                exact q_iretW hret dX11_throne_79 hw hs
              · replace hs := q_f (fun z => z hc) hs
                refine lv_aload_n (pc := 68) hx hb dX11_throne_68 rfl (lv_at hl 0 rfl) ?_
                refine q_getI (pc := 69) (q := 72) hx hb hts hown hK hw rfl fg_X11_287 dX11_throne_69 ?_
                refine lv_goto (pc := 72) (tgt := 79) hx hb dX11_throne_72 (by decide) ?_
                exact q_iretW hret dX11_throne_79 hw hs
            · replace hs := q_f (fun z => z hc) hs
              refine lv_aload_n (pc := 56) hx hb dX11_throne_56 rfl (lv_at hl 0 rfl) ?_
              refine q_getI (pc := 57) (q := 72) hx hb hts hown hK hw rfl fg_X11_284 dX11_throne_57 ?_
              refine lv_goto (pc := 60) (tgt := 79) hx hb dX11_throne_60 (by decide) ?_
              exact q_iretW hret dX11_throne_79 hw hs
          · replace hs := q_f hc hs
            refine lv_aload_n (pc := 45) hx hb dX11_throne_45 rfl (lv_at hl 0 rfl) ?_
            refine lv_ldc (pc := 46) (v := (iI (-1000000002))) hx hb hown (hts _ ki_X11_195) dX11_throne_46 ?_
            obtain ⟨v8, h9, ev, hs⟩ := q_cal2 hs
            refine q_callV (pc := 48) (q := 72) (As := [.int (iI (-1000000002))]) (rest := []) (rs := [.int v8]) hx hb hml hl.1 hts hown hK hSt hN hw (c_X11_errs l G (iI (-1000000002)) h7 v8 h9 ev) rfl rfl cv_X11_79 (rm_ok hR (by decide)) rfl (Nat.le_of_ble_eq_true rfl) rfl rfl dX11_throne_48 (fun H locs hw => ?_)
            exact q_iretW hret dX11_throne_51 hw hs
        · replace hs := q_f (fun z => z hc) hs
          exact hK2 hs _ _ hw _ (lv_sub hl [0] rfl)

set_option maxHeartbeats 4000000 in
set_option maxRecDepth 100000 in
theorem c_X11_days (l : Launch) (G : GG) (a1 : Int32) (h : Mem) (v : Int32) (h' : Mem) (hs : f_X11_days h a1 = some (v, h')) : Sat l G yX11_days cX11_days 6 (some .int) 56 [.ref (G.2.2.1 72), .int a1] h (some (.int v)) h' := by
  refine Sat.mkI (by decide) (Nat.le_of_ble_eq_true rfl) ?_
  intro p e R s m args below meth c Q F hret hw ls hl
  obtain ⟨hx, hb, hml, hown, hts, hK, hSt, hN, hR⟩ := F
  have hl : lv_has ls 6 [(0, .ref (G.2.2.1 72)), (1, .int a1)] := hl
  unfold f_X11_days at hs
  refine lv_iload_n (pc := 0) hx hb dX11_days_0 rfl (lv_at hl 1 rfl) ?_
  refine lv_iconst (pc := 1) (v := (iI 1)) hx hb dX11_days_1 rfl ?_
  refine lv_sipush (pc := 2) (v := (iI 200)) hx hb dX11_days_2 (by decide) ?_
  obtain ⟨v1, ev, hs⟩ := q_cal hs
  refine q_callS (pc := 5) (As := [.int a1, .int (iI 1), .int (iI 200)]) (rest := []) (rs := [.int v1]) hx hb hml hl.1 hts hown hK hSt hN hw (c_X11_in l G a1 (iI 1) (iI 200) h v1 ev) cs_X11_71 (rm_ok hR (by decide)) rfl (Nat.le_of_ble_eq_true rfl) rfl rfl dX11_days_5 (fun H locs hw => ?_)
  refine lv_if_ne (pc := 8) (tgt := 18) hx hb dX11_days_8 (by decide) (fun hc => ?_) (fun hc => ?_)
  · replace hs := q_t hc hs
    refine lv_aload_n (pc := 18) hx hb dX11_days_18 rfl (lv_at hl 0 rfl) ?_
    refine q_getR (pc := 19) (q := 72) (o := 1) hx hb hts hown hK hw rfl fg_X11_7 dX11_days_19 ?_
    refine lv_iconst (pc := 22) (v := (iI 3)) hx hb dX11_days_22 rfl ?_
    refine q_ald (pc := 23) (q := 73) (n := 305) hx hb hK hw rfl dX11_days_23 hs (fun v2 hs => ?_)
    refine lv_iload_n (pc := 24) hx hb dX11_days_24 rfl (lv_at hl 1 rfl) ?_
    refine lv_iadd (pc := 25) hx hb dX11_days_25 ?_
    refine lv_sipush (pc := 26) (v := (iI 9999)) hx hb dX11_days_26 (by decide) ?_
    refine lv_icmp_le (pc := 29) (tgt := 39) hx hb dX11_days_29 (by decide) (fun hc => ?_) (fun hc => ?_)
    · replace hs := q_t hc hs
      refine lv_iconst (pc := 39) (v := (iI 0)) hx hb dX11_days_39 rfl ?_
      refine lv_istore_n (pc := 40) (lv' := [(2, .int (iI 0)), (0, .ref (G.2.2.1 72)), (1, .int a1)]) hx hb dX11_days_40 rfl hl (by decide) rfl (fun ls hl => ?_)
      refine (q_lo2 (P0 := fun (x3 : Int32) (h4 : Mem) => ∀ (H : Heap) (locs : List Loc), IW G s h4 H locs → ∀ ls : Array Slot, lv_has ls 6 [(0, .ref (G.2.2.1 72)), (1, .int a1), (2, .int x3)] → W p l e R s m args below meth c H locs 0 0 Q (F0 m 41 ls [])) hs ?_) _ _ hw _ (lv_sub hl [1, 2, 0] rfl)
      intro K5 hK5 x3 h4 hs H locs hw ls hl
      unfold f_X11_days_k5 at hs
      refine lv_iload_n (pc := 41) hx hb dX11_days_41 rfl (lv_at hl 2 rfl) ?_
      refine lv_iload_n (pc := 42) hx hb dX11_days_42 rfl (lv_at hl 1 rfl) ?_
      refine lv_icmp_ge (pc := 43) (tgt := 111) hx hb dX11_days_43 (by decide) (fun hc => ?_) (fun hc => ?_)
      · replace hs := q_t hc hs
        refine lv_aload_n (pc := 111) hx hb dX11_days_111 rfl (lv_at hl 0 rfl) ?_
        refine q_getR (pc := 112) (q := 72) (o := 1) hx hb hts hown hK hw rfl fg_X11_7 dX11_days_112 ?_
        refine lv_iconst (pc := 115) (v := (iI 2)) hx hb dX11_days_115 rfl ?_
        refine q_ald (pc := 116) (q := 73) (n := 305) hx hb hK hw rfl dX11_days_116 hs (fun v6 hs => ?_)
        exact q_iretW hret dX11_days_117 hw hs
      · replace hs := q_f hc hs
        refine lv_aload_n (pc := 46) hx hb dX11_days_46 rfl (lv_at hl 0 rfl) ?_
        refine lv_aload_n (pc := 47) hx hb dX11_days_47 rfl (lv_at hl 0 rfl) ?_
        obtain ⟨v7, ev, hs⟩ := q_cal hs
        refine q_callV (pc := 48) (q := 72) (As := []) (rest := [.ref (G.2.2.1 72)]) (rs := [.int v7, .ref (G.2.2.1 72)]) hx hb hml hl.1 hts hown hK hSt hN hw (c_X11_many l G h4 v7 ev) rfl rfl cv_X11_67 (rm_ok hR (by decide)) rfl (Nat.le_of_ble_eq_true rfl) rfl rfl dX11_days_48 (fun H locs hw => ?_)
        obtain ⟨v8, h9, ev, hs⟩ := q_cal2 hs
        refine q_callV (pc := 51) (q := 72) (As := [.int v7]) (rest := []) (rs := [.int v8]) hx hb hml hl.1 hts hown hK hSt hN hw (c_X11_drawn l G v7 h4 v8 h9 ev) rfl rfl cv_X11_343 (rm_ok hR (by decide)) rfl (Nat.le_of_ble_eq_true rfl) rfl rfl dX11_days_51 (fun H locs hw => ?_)
        refine lv_istore_n (pc := 54) (lv' := [(3, .int v8), (0, .ref (G.2.2.1 72)), (1, .int a1), (2, .int x3)]) hx hb dX11_days_54 rfl hl (by decide) rfl (fun ls hl => ?_)
        refine lv_aload_n (pc := 55) hx hb dX11_days_55 rfl (lv_at hl 1 rfl) ?_
        refine lv_aload_n (pc := 56) hx hb dX11_days_56 rfl (lv_at hl 1 rfl) ?_
        obtain ⟨v10, ev, hs⟩ := q_cal hs
        refine q_callV (pc := 57) (q := 72) (As := []) (rest := [.ref (G.2.2.1 72)]) (rs := [.int v10, .ref (G.2.2.1 72)]) hx hb hml hl.1 hts hown hK hSt hN hw (c_X11_windows l G h9 v10 ev) rfl rfl cv_X11_75 (rm_ok hR (by decide)) rfl (Nat.le_of_ble_eq_true rfl) rfl rfl dX11_days_57 (fun H locs hw => ?_)
        obtain ⟨v11, h12, ev, hs⟩ := q_cal2 hs
        refine q_callV (pc := 60) (q := 72) (As := [.int v10]) (rest := []) (rs := [.int v11]) hx hb hml hl.1 hts hown hK hSt hN hw (c_X11_drawn l G v10 h9 v11 h12 ev) rfl rfl cv_X11_343 (rm_ok hR (by decide)) rfl (Nat.le_of_ble_eq_true rfl) rfl rfl dX11_days_60 (fun H locs hw => ?_)
        refine lv_istore (pc := 63) (lv' := [(4, .int v11), (3, .int v8), (0, .ref (G.2.2.1 72)), (1, .int a1), (2, .int x3)]) hx hb dX11_days_63 hl (by decide) rfl (fun ls hl => ?_)
        refine lv_aload_n (pc := 65) hx hb dX11_days_65 rfl (lv_at hl 2 rfl) ?_
        refine lv_iload_n (pc := 66) hx hb dX11_days_66 rfl (lv_at hl 1 rfl) ?_
        obtain ⟨v13, ev, hs⟩ := q_cal hs
        refine q_callV (pc := 67) (q := 72) (As := [.int v8]) (rest := []) (rs := [.int v13]) hx hb hml hl.1 hts hown hK hSt hN hw (c_X11_canTurn l G v8 h12 v13 ev) rfl rfl cv_X11_99 (rm_ok hR (by decide)) rfl (Nat.le_of_ble_eq_true rfl) rfl rfl dX11_days_67 (fun H locs hw => ?_)
        refine q_join1 (P0 := fun (h14 : Mem) => ∀ (H : Heap) (locs : List Loc), IW G s h14 H locs → ∀ ls : Array Slot, lv_has ls 6 [(0, .ref (G.2.2.1 72)), (1, .int a1), (2, .int x3), (4, .int v11)] → W p l e R s m args below meth c H locs 0 0 Q (F0 m 78 ls [])) hs ?_ ?_
        · intro h14 hs H locs hw ls hl
          unfold f_X11_days_k15 at hs
          refine lv_aload_n (pc := 78) hx hb dX11_days_78 rfl (lv_at hl 0 rfl) ?_
          refine lv_iload (pc := 79) hx hb dX11_days_79 (lv_at hl 3 rfl) ?_
          obtain ⟨v16, h17, ev, hs⟩ := q_cal2 hs
          refine q_callV (pc := 81) (q := 72) (As := [.int v11]) (rest := []) (rs := [.int v16]) hx hb hml hl.1 hts hown hK hSt hN hw (c_X11_letIn l G v11 h14 v16 h17 ev) rfl rfl cv_X11_185 (rm_ok hR (by decide)) rfl (Nat.le_of_ble_eq_true rfl) rfl rfl dX11_days_81 (fun H locs hw => ?_)
          refine lv_istore (pc := 84) (lv' := [(5, .int v16), (0, .ref (G.2.2.1 72)), (1, .int a1), (2, .int x3), (4, .int v11)]) hx hb dX11_days_84 hl (by decide) rfl (fun ls hl => ?_)
          refine lv_aload_n (pc := 86) hx hb dX11_days_86 rfl (lv_at hl 1 rfl) ?_
          refine q_getR (pc := 87) (q := 72) (o := 1) hx hb hts hown hK hw rfl fg_X11_7 dX11_days_87 ?_
          refine lv_iconst (pc := 90) (v := (iI 3)) hx hb dX11_days_90 rfl ?_
          refine lv_dup2_11 (pc := 91) hx hb dX11_days_91 rfl rfl ?_
          refine q_ald (pc := 92) (q := 73) (n := 305) hx hb hK hw rfl dX11_days_92 hs (fun v18 hs => ?_)
          refine lv_iload (pc := 93) hx hb dX11_days_93 (lv_at hl 0 rfl) ?_
          refine q_join1 (P0 := fun (x19 : Int32) => ∀ (H : Heap) (locs : List Loc), IW G s h17 H locs → ∀ ls : Array Slot, lv_has ls 6 [(0, .ref (G.2.2.1 72)), (1, .int a1), (2, .int x3)] → W p l e R s m args below meth c H locs 0 0 Q (F0 m 103 ls [.int x19, .int v18, .int (iI 3), .ref (G.2.2.1 73)])) hs ?_ ?_
          · intro x19 hs H locs hw ls hl
            refine lv_iadd (pc := 103) hx hb dX11_days_103 ?_
            refine q_ast (pc := 104) (q := 73) (n := 305) hx hb hK hw rfl dX11_days_104 hs (fun h21 H locs hw hs => ?_)
            obtain ⟨x22, ex22, hs⟩ := q_nm hs
            refine lv_iinc (pc := 105) (v := x22) (lv' := [(2, .int x22), (0, .ref (G.2.2.1 72)), (1, .int a1)]) hx hb dX11_days_105 hl (k := 2) rfl ex22 (by decide) rfl (fun ls hl => ?_)
            refine lv_goto (pc := 108) (tgt := 41) hx hb dX11_days_108 (by decide) ?_
            exact hK5 _ _ hs _ _ hw _ (lv_sub hl [1, 2, 0] rfl)
          · intro K20 hK20 hs
            refine lv_if_ge (pc := 95) (tgt := 102) hx hb dX11_days_95 (by decide) (fun hc => ?_) (fun hc => ?_)
            · replace hs := q_t hc hs
              refine lv_iconst (pc := 102) (v := (iI 1)) hx hb dX11_days_102 rfl ?_
              exact hK20 _ hs _ _ hw _ (lv_sub hl [1, 2, 3] rfl)
            · replace hs := q_f hc hs
              refine lv_iconst (pc := 98) (v := (iI 0)) hx hb dX11_days_98 rfl ?_
              refine lv_goto (pc := 99) (tgt := 103) hx hb dX11_days_99 (by decide) ?_
              exact hK20 _ hs _ _ hw _ (lv_sub hl [1, 2, 3] rfl)
        · intro K15 hK15 hs
          refine lv_if_eq (pc := 70) (tgt := 78) hx hb dX11_days_70 (by decide) (fun hc => ?_) (fun hc => ?_)
          · replace hs := q_t hc hs
            exact hK15 _ hs _ _ hw _ (lv_sub hl [2, 3, 4, 0] rfl)
          · replace hs := q_f hc hs
            refine lv_aload_n (pc := 73) hx hb dX11_days_73 rfl (lv_at hl 2 rfl) ?_
            refine lv_iload_n (pc := 74) hx hb dX11_days_74 rfl (lv_at hl 1 rfl) ?_
            obtain ⟨h23, ev, hs⟩ := q_cal hs
            refine q_callV (pc := 75) (q := 72) (As := [.int v8]) (rest := []) (rs := []) hx hb hml hl.1 hts hown hK hSt hN hw (c_X11_hands l G v8 h12 h23 ev) rfl rfl cv_X11_129 (rm_ok hR (by decide)) rfl (Nat.le_of_ble_eq_true rfl) rfl rfl dX11_days_75 (fun H locs hw => ?_)
            exact hK15 _ hs _ _ hw _ (lv_sub hl [2, 3, 4, 0] rfl)
    · replace hs := q_f hc hs
      refine lv_aload_n (pc := 32) hx hb dX11_days_32 rfl (lv_at hl 0 rfl) ?_
      refine lv_ldc (pc := 33) (v := (iI (-1000000003))) hx hb hown (hts _ ki_X11_128) dX11_days_33 ?_
      obtain ⟨v24, h25, ev, hs⟩ := q_cal2 hs
      refine q_callV (pc := 35) (q := 72) (As := [.int (iI (-1000000003))]) (rest := []) (rs := [.int v24]) hx hb hml hl.1 hts hown hK hSt hN hw (c_X11_errs l G (iI (-1000000003)) h v24 h25 ev) rfl rfl cv_X11_79 (rm_ok hR (by decide)) rfl (Nat.le_of_ble_eq_true rfl) rfl rfl dX11_days_35 (fun H locs hw => ?_)
      exact q_iretW hret dX11_days_38 hw hs
  · replace hs := q_f (fun z => z hc) hs
    refine lv_aload_n (pc := 11) hx hb dX11_days_11 rfl (lv_at hl 0 rfl) ?_
    refine lv_ldc (pc := 12) (v := (iI (-1000000001))) hx hb hown (hts _ ki_X11_78) dX11_days_12 ?_
    obtain ⟨v26, h27, ev, hs⟩ := q_cal2 hs
    refine q_callV (pc := 14) (q := 72) (As := [.int (iI (-1000000001))]) (rest := []) (rs := [.int v26]) hx hb hml hl.1 hts hown hK hSt hN hw (c_X11_errs l G (iI (-1000000001)) h v26 h27 ev) rfl rfl cv_X11_79 (rm_ok hR (by decide)) rfl (Nat.le_of_ble_eq_true rfl) rfl rfl dX11_days_14 (fun H locs hw => ?_)
    exact q_iretW hret dX11_days_17 hw hs

set_option maxHeartbeats 4000000 in
theorem c_X11_lets (l : Launch) (G : GG) (a1 : Int32) (h : Mem) (v : Int32) (h' : Mem) (hs : f_X11_lets h a1 = some (v, h')) : Sat l G yX11_lets cX11_lets 4 (some .int) 55 [.ref (G.2.2.1 72), .int a1] h (some (.int v)) h' := by
  refine Sat.mkI (by decide) (Nat.le_of_ble_eq_true rfl) ?_
  intro p e R s m args below meth c Q F hret hw ls hl
  obtain ⟨hx, hb, hml, hown, hts, hK, hSt, hN, hR⟩ := F
  have hl : lv_has ls 4 [(0, .ref (G.2.2.1 72)), (1, .int a1)] := hl
  unfold f_X11_lets at hs
  refine lv_iload_n (pc := 0) hx hb dX11_lets_0 rfl (lv_at hl 1 rfl) ?_
  obtain ⟨v1, ev, hs⟩ := q_cal hs
  refine q_callS (pc := 1) (As := [.int a1]) (rest := []) (rs := [.int v1]) hx hb hml hl.1 hts hown hK hSt hN hw (c_X11_isSheet l G a1 h v1 ev) cs_X11_333 (rm_ok hR (by decide)) rfl (Nat.le_of_ble_eq_true rfl) rfl rfl dX11_lets_1 (fun H locs hw => ?_)
  refine lv_if_ne (pc := 4) (tgt := 14) hx hb dX11_lets_4 (by decide) (fun hc => ?_) (fun hc => ?_)
  · replace hs := q_t hc hs
    refine lv_aload_n (pc := 14) hx hb dX11_lets_14 rfl (lv_at hl 0 rfl) ?_
    refine q_getR (pc := 15) (q := 72) (o := 11) hx hb hts hown hK hw rfl fg_X11_48 dX11_lets_15 ?_
    refine lv_iload_n (pc := 18) hx hb dX11_lets_18 rfl (lv_at hl 1 rfl) ?_
    refine q_ald (pc := 19) (q := 83) (n := 4) hx hb hK hw rfl dX11_lets_19 hs (fun v2 hs => ?_)
    refine lv_if_ne (pc := 20) (tgt := 30) hx hb dX11_lets_20 (by decide) (fun hc => ?_) (fun hc => ?_)
    · replace hs := q_t hc hs
      refine lv_iconst (pc := 30) (v := (iI 0)) hx hb dX11_lets_30 rfl ?_
      refine lv_istore_n (pc := 31) (lv' := [(2, .int (iI 0)), (0, .ref (G.2.2.1 72)), (1, .int a1)]) hx hb dX11_lets_31 rfl hl (by decide) rfl (fun ls hl => ?_)
      refine (q_lo2 (P0 := fun (x3 : Int32) (h4 : Mem) => ∀ (H : Heap) (locs : List Loc), IW G s h4 H locs → ∀ ls : Array Slot, lv_has ls 4 [(0, .ref (G.2.2.1 72)), (1, .int a1), (2, .int x3)] → W p l e R s m args below meth c H locs 0 0 Q (F0 m 32 ls [])) hs ?_) _ _ hw _ (lv_sub hl [1, 2, 0] rfl)
      intro K5 hK5 x3 h4 hs H locs hw ls hl
      unfold f_X11_lets_k5 at hs
      refine lv_iload_n (pc := 32) hx hb dX11_lets_32 rfl (lv_at hl 2 rfl) ?_
      refine lv_aload_n (pc := 33) hx hb dX11_lets_33 rfl (lv_at hl 0 rfl) ?_
      refine q_getR (pc := 34) (q := 72) (o := 12) hx hb hts hown hK hw rfl fg_X11_51 dX11_lets_34 ?_
      refine lv_iload_n (pc := 37) hx hb dX11_lets_37 rfl (lv_at hl 1 rfl) ?_
      refine q_ald (pc := 38) (q := 84) (n := 4) hx hb hK hw rfl dX11_lets_38 hs (fun v6 hs => ?_)
      refine lv_icmp_ge (pc := 39) (tgt := 91) hx hb dX11_lets_39 (by decide) (fun hc => ?_) (fun hc => ?_)
      · replace hs := q_t hc hs
        refine lv_iload_n (pc := 91) hx hb dX11_lets_91 rfl (lv_at hl 2 rfl) ?_
        exact q_iretW hret dX11_lets_92 hw hs
      · replace hs := q_f hc hs
        refine lv_aload_n (pc := 42) hx hb dX11_lets_42 rfl (lv_at hl 0 rfl) ?_
        refine lv_aload_n (pc := 43) hx hb dX11_lets_43 rfl (lv_at hl 0 rfl) ?_
        refine q_getR (pc := 44) (q := 72) (o := 13) hx hb hts hown hK hw rfl fg_X11_54 dX11_lets_44 ?_
        refine lv_bipush (pc := 47) (v := (iI 40)) hx hb dX11_lets_47 (by decide) ?_
        refine lv_iload_n (pc := 49) hx hb dX11_lets_49 rfl (lv_at hl 1 rfl) ?_
        refine lv_imul (pc := 50) hx hb dX11_lets_50 ?_
        refine lv_iload_n (pc := 51) hx hb dX11_lets_51 rfl (lv_at hl 2 rfl) ?_
        refine lv_iadd (pc := 52) hx hb dX11_lets_52 ?_
        refine q_ald (pc := 53) (q := 85) (n := 160) hx hb hK hw rfl dX11_lets_53 hs (fun v7 hs => ?_)
        obtain ⟨v8, ev, hs⟩ := q_cal hs
        refine q_callV (pc := 54) (q := 72) (As := [.int v7]) (rest := []) (rs := [.int v8]) hx hb hml hl.1 hts hown hK hSt hN hw (c_X11_isWindow l G v7 h4 v8 ev) rfl rfl cv_X11_182 (rm_ok hR (by decide)) rfl (Nat.le_of_ble_eq_true rfl) rfl rfl dX11_lets_54 (fun H locs hw => ?_)
        refine lv_if_eq (pc := 57) (tgt := 91) hx hb dX11_lets_57 (by decide) (fun hc => ?_) (fun hc => ?_)
        · replace hs := q_t hc hs
          refine lv_iload_n (pc := 91) hx hb dX11_lets_91 rfl (lv_at hl 2 rfl) ?_
          exact q_iretW hret dX11_lets_92 hw hs
        · replace hs := q_f hc hs
          refine lv_aload_n (pc := 60) hx hb dX11_lets_60 rfl (lv_at hl 0 rfl) ?_
          refine lv_aload_n (pc := 61) hx hb dX11_lets_61 rfl (lv_at hl 0 rfl) ?_
          refine q_getR (pc := 62) (q := 72) (o := 13) hx hb hts hown hK hw rfl fg_X11_54 dX11_lets_62 ?_
          refine lv_bipush (pc := 65) (v := (iI 40)) hx hb dX11_lets_65 (by decide) ?_
          refine lv_iload_n (pc := 67) hx hb dX11_lets_67 rfl (lv_at hl 1 rfl) ?_
          refine lv_imul (pc := 68) hx hb dX11_lets_68 ?_
          refine lv_iload_n (pc := 69) hx hb dX11_lets_69 rfl (lv_at hl 2 rfl) ?_
          refine lv_iadd (pc := 70) hx hb dX11_lets_70 ?_
          refine q_ald (pc := 71) (q := 85) (n := 160) hx hb hK hw rfl dX11_lets_71 hs (fun v9 hs => ?_)
          obtain ⟨v10, h11, ev, hs⟩ := q_cal2 hs
          refine q_callV (pc := 72) (q := 72) (As := [.int v9]) (rest := []) (rs := [.int v10]) hx hb hml hl.1 hts hown hK hSt hN hw (c_X11_letIn l G v9 h4 v10 h11 ev) rfl rfl cv_X11_185 (rm_ok hR (by decide)) rfl (Nat.le_of_ble_eq_true rfl) rfl rfl dX11_lets_72 (fun H locs hw => ?_)
          refine lv_istore_n (pc := 75) (lv' := [(3, .int v10), (0, .ref (G.2.2.1 72)), (1, .int a1), (2, .int x3)]) hx hb dX11_lets_75 rfl hl (by decide) rfl (fun ls hl => ?_)
          refine lv_iload_n (pc := 76) hx hb dX11_lets_76 rfl (lv_at hl 3 rfl) ?_
          refine lv_iload_n (pc := 77) hx hb dX11_lets_77 rfl (lv_at hl 0 rfl) ?_
          refine q_join1 (P0 := fun (x12 : Int32) => ∀ (H : Heap) (locs : List Loc), IW G s h11 H locs → ∀ ls : Array Slot, lv_has ls 4 [(0, .ref (G.2.2.1 72)), (1, .int a1)] → W p l e R s m args below meth c H locs 0 0 Q (F0 m 86 ls [.int x12, .int x3])) hs ?_ ?_
          · intro x12 hs H locs hw ls hl
            refine lv_iadd (pc := 86) hx hb dX11_lets_86 ?_
            obtain ⟨x14, ex14, hs⟩ := q_nm hs
            refine q_topI ex14 ?_
            refine lv_istore_n (pc := 87) (lv' := [(2, .int x14), (0, .ref (G.2.2.1 72)), (1, .int a1)]) hx hb dX11_lets_87 rfl hl (by decide) rfl (fun ls hl => ?_)
            refine lv_goto (pc := 88) (tgt := 32) hx hb dX11_lets_88 (by decide) ?_
            exact hK5 _ _ hs _ _ hw _ (lv_sub hl [1, 2, 0] rfl)
          · intro K13 hK13 hs
            refine lv_if_ge (pc := 78) (tgt := 85) hx hb dX11_lets_78 (by decide) (fun hc => ?_) (fun hc => ?_)
            · replace hs := q_t hc hs
              refine lv_iconst (pc := 85) (v := (iI 1)) hx hb dX11_lets_85 rfl ?_
              exact hK13 _ hs _ _ hw _ (lv_sub hl [1, 2] rfl)
            · replace hs := q_f hc hs
              refine lv_iconst (pc := 81) (v := (iI 0)) hx hb dX11_lets_81 rfl ?_
              refine lv_goto (pc := 82) (tgt := 86) hx hb dX11_lets_82 (by decide) ?_
              exact hK13 _ hs _ _ hw _ (lv_sub hl [1, 2] rfl)
    · replace hs := q_f (fun z => z hc) hs
      refine lv_aload_n (pc := 23) hx hb dX11_lets_23 rfl (lv_at hl 0 rfl) ?_
      refine lv_ldc (pc := 24) (v := (iI (-1000000002))) hx hb hown (hts _ ki_X11_195) dX11_lets_24 ?_
      obtain ⟨v15, h16, ev, hs⟩ := q_cal2 hs
      refine q_callV (pc := 26) (q := 72) (As := [.int (iI (-1000000002))]) (rest := []) (rs := [.int v15]) hx hb hml hl.1 hts hown hK hSt hN hw (c_X11_errs l G (iI (-1000000002)) h v15 h16 ev) rfl rfl cv_X11_79 (rm_ok hR (by decide)) rfl (Nat.le_of_ble_eq_true rfl) rfl rfl dX11_lets_26 (fun H locs hw => ?_)
      exact q_iretW hret dX11_lets_29 hw hs
  · replace hs := q_f (fun z => z hc) hs
    refine lv_aload_n (pc := 7) hx hb dX11_lets_7 rfl (lv_at hl 0 rfl) ?_
    refine lv_ldc (pc := 8) (v := (iI (-1000000001))) hx hb hown (hts _ ki_X11_78) dX11_lets_8 ?_
    obtain ⟨v17, h18, ev, hs⟩ := q_cal2 hs
    refine q_callV (pc := 10) (q := 72) (As := [.int (iI (-1000000001))]) (rest := []) (rs := [.int v17]) hx hb hml hl.1 hts hown hK hSt hN hw (c_X11_errs l G (iI (-1000000001)) h v17 h18 ev) rfl rfl cv_X11_79 (rm_ok hR (by decide)) rfl (Nat.le_of_ble_eq_true rfl) rfl rfl dX11_lets_10 (fun H locs hw => ?_)
    exact q_iretW hret dX11_lets_13 hw hs

