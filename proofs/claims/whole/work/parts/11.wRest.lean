set_option maxHeartbeats 4000000 in
theorem c_X1_choices (l : Launch) (G : GG)  (h : Mem) (v : Int32)  (hs : f_X1_choices h  = some v) : Sat l G yX1_choices cX1_choices 1 (some .int) 0 [.ref (G.2.2.1 56)] h (some (.int v)) h := by
  refine Sat.mkI (by decide) (Nat.le_of_ble_eq_true rfl) ?_
  intro p e R s m args below meth c Q F hret hw ls hl
  obtain ⟨hx, hb, hml, hown, hts, hK, hSt, hN, hR⟩ := F
  have hl : lv_has ls 1 [(0, .ref (G.2.2.1 56))] := hl
  unfold f_X1_choices at hs
  refine lv_iconst (pc := 0) (v := (iI 1)) hx hb dX1_choices_0 rfl ?_
  refine lv_aload_n (pc := 1) hx hb dX1_choices_1 rfl (lv_at hl 0 rfl) ?_
  refine q_getI (pc := 2) (q := 56) hx hb hts hown hK hw rfl fg_X1_27 dX1_choices_2 ?_
  refine q_ishl (pc := 5) hx hb dX1_choices_5 ?_
  exact q_iret hret dX1_choices_6 hw hs

set_option maxHeartbeats 4000000 in
theorem c_X2_note (l : Launch) (G : GG)  (h : Mem) (h' : Mem) (hs : f_X2_note h  = some h') : Sat l G yX2_note cX2_note 2 none 0 [.ref (G.2.2.1 39)] h none h' := by
  refine Sat.mkV (by decide) (Nat.le_of_ble_eq_true rfl) ?_
  intro p e R s m args below meth c Q F hret hw ls hl
  obtain ⟨hx, hb, hml, hown, hts, hK, hSt, hN, hR⟩ := F
  have hl : lv_has ls 2 [(0, .ref (G.2.2.1 39))] := hl
  unfold f_X2_note at hs
  refine lv_iconst (pc := 0) (v := (iI 0)) hx hb dX2_note_0 rfl ?_
  refine lv_istore_n (pc := 1) (lv' := [(1, .int (iI 0)), (0, .ref (G.2.2.1 39))]) hx hb dX2_note_1 rfl hl (by decide) rfl (fun ls hl => ?_)
  refine (q_lo1 (P0 := fun (x1 : Int32) => ∀ (H : Heap) (locs : List Loc), IW G s h H locs → ∀ ls : Array Slot, lv_has ls 2 [(0, .ref (G.2.2.1 39)), (1, .int x1)] → W p l e R s m args below meth c H locs 0 0 Q (F0 m 2 ls [])) hs ?_) _ _ hw _ (lv_sub hl [1, 0] rfl)
  intro K2 hK2 x1 hs H locs hw ls hl
  unfold f_X2_note_k2 at hs
  refine lv_iload_n (pc := 2) hx hb dX2_note_2 rfl (lv_at hl 1 rfl) ?_
  refine lv_aload_n (pc := 3) hx hb dX2_note_3 rfl (lv_at hl 0 rfl) ?_
  refine q_getI (pc := 4) (q := 39) hx hb hts hown hK hw rfl fg_X2_40 dX2_note_4 ?_
  refine q_join0 (P0 := ∀ (H : Heap) (locs : List Loc), IW G s h H locs → ∀ ls : Array Slot, lv_has ls 2 [(0, .ref (G.2.2.1 39))] → W p l e R s m args below meth c H locs 0 0 Q (F0 m 59 ls [])) hs ?_ ?_
  · intro  hs H locs hw ls hl
    unfold f_X2_note_k3 at hs
    refine lv_aload_n (pc := 59) hx hb dX2_note_59 rfl (lv_at hl 0 rfl) ?_
    refine q_getI (pc := 60) (q := 39) hx hb hts hown hK hw rfl fg_X2_40 dX2_note_60 ?_
    refine lv_aload_n (pc := 63) hx hb dX2_note_63 rfl (lv_at hl 0 rfl) ?_
    refine q_getR (pc := 64) (q := 39) (o := 9) hx hb hts hown hK hw rfl fg_X2_34 dX2_note_64 ?_
    refine q_alen (pc := 67) (q := 48) (n := 201) hx hb hK hw rfl dX2_note_67 ?_
    refine lv_icmp_ge (pc := 68) (tgt := 113) hx hb dX2_note_68 (by decide) (fun hc => ?_) (fun hc => ?_)
    · replace hs := q_t hc hs
      exact q_vret hret dX2_note_113 hw hs
    · replace hs := q_f hc hs
      refine lv_aload_n (pc := 71) hx hb dX2_note_71 rfl (lv_at hl 0 rfl) ?_
      refine q_getR (pc := 72) (q := 39) (o := 9) hx hb hts hown hK hw rfl fg_X2_34 dX2_note_72 ?_
      refine lv_aload_n (pc := 75) hx hb dX2_note_75 rfl (lv_at hl 0 rfl) ?_
      refine q_getI (pc := 76) (q := 39) hx hb hts hown hK hw rfl fg_X2_40 dX2_note_76 ?_
      refine lv_aload_n (pc := 79) hx hb dX2_note_79 rfl (lv_at hl 0 rfl) ?_
      refine q_getR (pc := 80) (q := 39) (o := 1) hx hb hts hown hK hw rfl fg_X2_10 dX2_note_80 ?_
      refine q_getI (pc := 83) (q := 40) hx hb hts hown hK hw rfl fg_X2_69 dX2_note_83 ?_
      refine q_ast (pc := 86) (q := 48) (n := 201) hx hb hK hw rfl dX2_note_86 hs (fun h4 H locs hw hs => ?_)
      refine lv_aload_n (pc := 87) hx hb dX2_note_87 rfl (lv_at hl 0 rfl) ?_
      refine q_getR (pc := 88) (q := 39) (o := 10) hx hb hts hown hK hw rfl fg_X2_37 dX2_note_88 ?_
      refine lv_aload_n (pc := 91) hx hb dX2_note_91 rfl (lv_at hl 0 rfl) ?_
      refine q_getI (pc := 92) (q := 39) hx hb hts hown hK hw rfl fg_X2_40 dX2_note_92 ?_
      refine lv_aload_n (pc := 95) hx hb dX2_note_95 rfl (lv_at hl 0 rfl) ?_
      refine q_getR (pc := 96) (q := 39) (o := 1) hx hb hts hown hK hw rfl fg_X2_10 dX2_note_96 ?_
      refine q_getL (pc := 99) (q := 40) hx hb hts hown hK hw rfl fg_X2_72 dX2_note_99 ?_
      refine q_astL (pc := 102) (q := 49) (n := 201) hx hb hK hw rfl dX2_note_102 hs (fun h5 H locs hw hs => ?_)
      refine lv_aload_n (pc := 103) hx hb dX2_note_103 rfl (lv_at hl 0 rfl) ?_
      refine lv_dup (pc := 104) hx hb dX2_note_104 rfl ?_
      refine q_getI (pc := 105) (q := 39) hx hb hts hown hK hw rfl fg_X2_40 dX2_note_105 ?_
      refine lv_iconst (pc := 108) (v := (iI 1)) hx hb dX2_note_108 rfl ?_
      refine lv_iadd (pc := 109) hx hb dX2_note_109 ?_
      refine q_putI (pc := 110) (q := 39) hx hb hts hown hK hw rfl fp_X2_40 dX2_note_110 hs (fun h6 H locs hw hs => ?_)
      exact q_vret hret dX2_note_113 hw hs
  · intro K3 hK3 hs
    refine lv_icmp_ge (pc := 7) (tgt := 59) hx hb dX2_note_7 (by decide) (fun hc => ?_) (fun hc => ?_)
    · replace hs := q_t hc hs
      exact hK3 hs _ _ hw _ (lv_sub hl [0] rfl)
    · replace hs := q_f hc hs
      refine lv_iload_n (pc := 10) hx hb dX2_note_10 rfl (lv_at hl 1 rfl) ?_
      refine lv_aload_n (pc := 11) hx hb dX2_note_11 rfl (lv_at hl 0 rfl) ?_
      refine q_getR (pc := 12) (q := 39) (o := 9) hx hb hts hown hK hw rfl fg_X2_34 dX2_note_12 ?_
      refine q_alen (pc := 15) (q := 48) (n := 201) hx hb hK hw rfl dX2_note_15 ?_
      refine lv_icmp_ge (pc := 16) (tgt := 59) hx hb dX2_note_16 (by decide) (fun hc => ?_) (fun hc => ?_)
      · replace hs := q_t hc hs
        exact hK3 hs _ _ hw _ (lv_sub hl [0] rfl)
      · replace hs := q_f hc hs
        refine lv_aload_n (pc := 19) hx hb dX2_note_19 rfl (lv_at hl 0 rfl) ?_
        refine q_getR (pc := 20) (q := 39) (o := 9) hx hb hts hown hK hw rfl fg_X2_34 dX2_note_20 ?_
        refine lv_iload_n (pc := 23) hx hb dX2_note_23 rfl (lv_at hl 1 rfl) ?_
        refine q_ald (pc := 24) (q := 48) (n := 201) hx hb hK hw rfl dX2_note_24 hs (fun v7 hs => ?_)
        refine lv_aload_n (pc := 25) hx hb dX2_note_25 rfl (lv_at hl 0 rfl) ?_
        refine q_getR (pc := 26) (q := 39) (o := 1) hx hb hts hown hK hw rfl fg_X2_10 dX2_note_26 ?_
        refine q_getI (pc := 29) (q := 40) hx hb hts hown hK hw rfl fg_X2_69 dX2_note_29 ?_
        refine q_join0 (P0 := ∀ (H : Heap) (locs : List Loc), IW G s h H locs → ∀ ls : Array Slot, lv_has ls 2 [(0, .ref (G.2.2.1 39)), (1, .int x1)] → W p l e R s m args below meth c H locs 0 0 Q (F0 m 53 ls [])) hs ?_ ?_
        · intro  hs H locs hw ls hl
          obtain ⟨x9, ex9, hs⟩ := q_nm hs
          refine lv_iinc (pc := 53) (v := x9) (lv' := [(1, .int x9), (0, .ref (G.2.2.1 39))]) hx hb dX2_note_53 hl (k := 1) rfl ex9 (by decide) rfl (fun ls hl => ?_)
          refine lv_goto (pc := 56) (tgt := 2) hx hb dX2_note_56 (by decide) ?_
          exact hK2 _ hs _ _ hw _ (lv_sub hl [1, 0] rfl)
        · intro K8 hK8 hs
          refine lv_icmp_ne (pc := 32) (tgt := 53) hx hb dX2_note_32 (by decide) (fun hc => ?_) (fun hc => ?_)
          · replace hs := q_t hc hs
            exact hK8 hs _ _ hw _ (lv_sub hl [0, 1] rfl)
          · replace hs := q_f (fun z => z hc) hs
            refine lv_aload_n (pc := 35) hx hb dX2_note_35 rfl (lv_at hl 0 rfl) ?_
            refine q_getR (pc := 36) (q := 39) (o := 10) hx hb hts hown hK hw rfl fg_X2_37 dX2_note_36 ?_
            refine lv_iload_n (pc := 39) hx hb dX2_note_39 rfl (lv_at hl 1 rfl) ?_
            refine q_aldL (pc := 40) (q := 49) (n := 201) hx hb hK hw rfl dX2_note_40 hs (fun w10 hs => ?_)
            refine lv_aload_n (pc := 41) hx hb dX2_note_41 rfl (lv_at hl 0 rfl) ?_
            refine q_getR (pc := 42) (q := 39) (o := 1) hx hb hts hown hK hw rfl fg_X2_10 dX2_note_42 ?_
            refine q_getL (pc := 45) (q := 40) hx hb hts hown hK hw rfl fg_X2_72 dX2_note_45 ?_
            refine W.lcmp (pc := 48) hx hb dX2_note_48 ?_
            refine lv_if_ne (pc := 49) (tgt := 53) hx hb dX2_note_49 (by decide) (fun hc => ?_) (fun hc => ?_)
            · replace hs := q_t hc hs
              exact hK8 hs _ _ hw _ (lv_sub hl [0, 1] rfl)
            · replace hs := q_f (fun z => z hc) hs
              exact q_vret hret dX2_note_52 hw hs

set_option maxHeartbeats 4000000 in
theorem c_X4_offer (l : Launch) (G : GG) (a1 : Int32) (a2 : Int32) (a3 : Int32) (h : Mem) (h' : Mem) (hs : f_X4_offer h a1 a2 a3 = some h') : Sat l G yX4_offer cX4_offer 4 none 0 [.ref (G.2.2.1 50), .int a1, .int a2, .int a3] h none h' := by
  refine Sat.mkV (by decide) (Nat.le_of_ble_eq_true rfl) ?_
  intro p e R s m args below meth c Q F hret hw ls hl
  obtain ⟨hx, hb, hml, hown, hts, hK, hSt, hN, hR⟩ := F
  have hl : lv_has ls 4 [(0, .ref (G.2.2.1 50)), (1, .int a1), (2, .int a2), (3, .int a3)] := hl
  unfold f_X4_offer at hs
  refine lv_aload_n (pc := 0) hx hb dX4_offer_0 rfl (lv_at hl 0 rfl) ?_
  refine q_getI (pc := 1) (q := 50) hx hb hts hown hK hw rfl fg_X4_30 dX4_offer_1 ?_
  refine q_join0 (P0 := ∀ (H : Heap) (locs : List Loc), IW G s h H locs → ∀ ls : Array Slot, lv_has ls 4 [(0, .ref (G.2.2.1 50)), (1, .int a1), (2, .int a2), (3, .int a3)] → W p l e R s m args below meth c H locs 0 0 Q (F0 m 15 ls [])) hs ?_ ?_
  · intro  hs H locs hw ls hl
    refine lv_aload_n (pc := 15) hx hb dX4_offer_15 rfl (lv_at hl 0 rfl) ?_
    refine lv_iload_n (pc := 16) hx hb dX4_offer_16 rfl (lv_at hl 1 rfl) ?_
    refine q_putI (pc := 17) (q := 50) hx hb hts hown hK hw rfl fp_X4_30 dX4_offer_17 hs (fun h2 H locs hw hs => ?_)
    refine lv_aload_n (pc := 20) hx hb dX4_offer_20 rfl (lv_at hl 0 rfl) ?_
    refine lv_iload_n (pc := 21) hx hb dX4_offer_21 rfl (lv_at hl 2 rfl) ?_
    refine q_putI (pc := 22) (q := 50) hx hb hts hown hK hw rfl fp_X4_33 dX4_offer_22 hs (fun h3 H locs hw hs => ?_)
    refine lv_aload_n (pc := 25) hx hb dX4_offer_25 rfl (lv_at hl 0 rfl) ?_
    refine lv_iload_n (pc := 26) hx hb dX4_offer_26 rfl (lv_at hl 3 rfl) ?_
    refine q_putI (pc := 27) (q := 50) hx hb hts hown hK hw rfl fp_X4_36 dX4_offer_27 hs (fun h4 H locs hw hs => ?_)
    exact q_vret hret dX4_offer_30 hw hs
  · intro K1 hK1 hs
    refine lv_if_eq (pc := 4) (tgt := 15) hx hb dX4_offer_4 (by decide) (fun hc => ?_) (fun hc => ?_)
    · replace hs := q_t hc hs
      exact hK1 hs _ _ hw _ (lv_sub hl [0, 1, 2, 3] rfl)
    · replace hs := q_f hc hs
      refine lv_iload_n (pc := 7) hx hb dX4_offer_7 rfl (lv_at hl 3 rfl) ?_
      refine lv_aload_n (pc := 8) hx hb dX4_offer_8 rfl (lv_at hl 0 rfl) ?_
      refine q_getI (pc := 9) (q := 50) hx hb hts hown hK hw rfl fg_X4_36 dX4_offer_9 ?_
      refine lv_icmp_ge (pc := 12) (tgt := 30) hx hb dX4_offer_12 (by decide) (fun hc => ?_) (fun hc => ?_)
      · replace hs := q_t hc hs
        exact q_vret hret dX4_offer_30 hw hs
      · replace hs := q_f hc hs
        exact hK1 hs _ _ hw _ (lv_sub hl [0, 1, 2, 3] rfl)

set_option maxHeartbeats 4000000 in
theorem c_X6_joinsAt (l : Launch) (G : GG) (a0 : Int32) (a1 : Int32) (h : Mem) (v : Int32)  (hs : f_X6_joinsAt h a0 a1 = some v) : Sat l G yX6_joinsAt cX6_joinsAt 2 (some .boolean) 0 [.int a0, .int a1] h (some (.int v)) h := by
  refine Sat.mkZ (by decide) (Nat.le_of_ble_eq_true rfl) ?_
  intro p e R s m args below meth c Q F hret hw ls hl
  obtain ⟨hx, hb, hml, hown, hts, hK, hSt, hN, hR⟩ := F
  have hl : lv_has ls 2 [(0, .int a0), (1, .int a1)] := hl
  unfold f_X6_joinsAt at hs
  refine lv_iload_n (pc := 0) hx hb dX6_joinsAt_0 rfl (lv_at hl 1 rfl) ?_
  by_cases hc0 : a1 = iI 37
  · replace hs := q_t hc0 hs
    refine lv_lookup (pc := 1) (off := 134) (tgt := 135) hx hb dX6_joinsAt_1 (by decide) (by rw [hc0]; decide) (by decide) ?_
    refine lv_iload_n (pc := 135) hx hb dX6_joinsAt_135 rfl (lv_at hl 0 rfl) ?_
    refine lv_iconst (pc := 136) (v := (iI 4)) hx hb dX6_joinsAt_136 rfl ?_
    refine lv_icmp_ne (pc := 137) (tgt := 144) hx hb dX6_joinsAt_137 (by decide) (fun hc => ?_) (fun hc => ?_)
    · replace hs := q_t hc hs
      refine lv_iconst (pc := 144) (v := (iI 0)) hx hb dX6_joinsAt_144 rfl ?_
      exact q_zret hret dX6_joinsAt_145 hw hs
    · replace hs := q_f (fun z => z hc) hs
      refine lv_iconst (pc := 140) (v := (iI 1)) hx hb dX6_joinsAt_140 rfl ?_
      refine lv_goto (pc := 141) (tgt := 145) hx hb dX6_joinsAt_141 (by decide) ?_
      exact q_zret hret dX6_joinsAt_145 hw hs
  replace hs := q_f hc0 hs
  by_cases hc1 : a1 = iI 38
  · replace hs := q_t hc1 hs
    refine lv_lookup (pc := 1) (off := 101) (tgt := 102) hx hb dX6_joinsAt_1 (by decide) (by rw [hc1]; decide) (by decide) ?_
    refine lv_iload_n (pc := 102) hx hb dX6_joinsAt_102 rfl (lv_at hl 0 rfl) ?_
    refine lv_iconst (pc := 103) (v := (iI 1)) hx hb dX6_joinsAt_103 rfl ?_
    refine lv_icmp_ne (pc := 104) (tgt := 111) hx hb dX6_joinsAt_104 (by decide) (fun hc => ?_) (fun hc => ?_)
    · replace hs := q_t hc hs
      refine lv_iconst (pc := 111) (v := (iI 0)) hx hb dX6_joinsAt_111 rfl ?_
      exact q_zret hret dX6_joinsAt_112 hw hs
    · replace hs := q_f (fun z => z hc) hs
      refine lv_iconst (pc := 107) (v := (iI 1)) hx hb dX6_joinsAt_107 rfl ?_
      refine lv_goto (pc := 108) (tgt := 112) hx hb dX6_joinsAt_108 (by decide) ?_
      exact q_zret hret dX6_joinsAt_112 hw hs
  replace hs := q_f hc1 hs
  by_cases hc2 : a1 = iI 42
  · replace hs := q_t hc2 hs
    refine lv_lookup (pc := 1) (off := 134) (tgt := 135) hx hb dX6_joinsAt_1 (by decide) (by rw [hc2]; decide) (by decide) ?_
    refine lv_iload_n (pc := 135) hx hb dX6_joinsAt_135 rfl (lv_at hl 0 rfl) ?_
    refine lv_iconst (pc := 136) (v := (iI 4)) hx hb dX6_joinsAt_136 rfl ?_
    refine lv_icmp_ne (pc := 137) (tgt := 144) hx hb dX6_joinsAt_137 (by decide) (fun hc => ?_) (fun hc => ?_)
    · replace hs := q_t hc hs
      refine lv_iconst (pc := 144) (v := (iI 0)) hx hb dX6_joinsAt_144 rfl ?_
      exact q_zret hret dX6_joinsAt_145 hw hs
    · replace hs := q_f (fun z => z hc) hs
      refine lv_iconst (pc := 140) (v := (iI 1)) hx hb dX6_joinsAt_140 rfl ?_
      refine lv_goto (pc := 141) (tgt := 145) hx hb dX6_joinsAt_141 (by decide) ?_
      exact q_zret hret dX6_joinsAt_145 hw hs
  replace hs := q_f hc2 hs
  by_cases hc3 : a1 = iI 43
  · replace hs := q_t hc3 hs
    refine lv_lookup (pc := 1) (off := 123) (tgt := 124) hx hb dX6_joinsAt_1 (by decide) (by rw [hc3]; decide) (by decide) ?_
    refine lv_iload_n (pc := 124) hx hb dX6_joinsAt_124 rfl (lv_at hl 0 rfl) ?_
    refine lv_iconst (pc := 125) (v := (iI 3)) hx hb dX6_joinsAt_125 rfl ?_
    refine lv_icmp_ne (pc := 126) (tgt := 133) hx hb dX6_joinsAt_126 (by decide) (fun hc => ?_) (fun hc => ?_)
    · replace hs := q_t hc hs
      refine lv_iconst (pc := 133) (v := (iI 0)) hx hb dX6_joinsAt_133 rfl ?_
      exact q_zret hret dX6_joinsAt_134 hw hs
    · replace hs := q_f (fun z => z hc) hs
      refine lv_iconst (pc := 129) (v := (iI 1)) hx hb dX6_joinsAt_129 rfl ?_
      refine lv_goto (pc := 130) (tgt := 134) hx hb dX6_joinsAt_130 (by decide) ?_
      exact q_zret hret dX6_joinsAt_134 hw hs
  replace hs := q_f hc3 hs
  by_cases hc4 : a1 = iI 45
  · replace hs := q_t hc4 hs
    refine lv_lookup (pc := 1) (off := 123) (tgt := 124) hx hb dX6_joinsAt_1 (by decide) (by rw [hc4]; decide) (by decide) ?_
    refine lv_iload_n (pc := 124) hx hb dX6_joinsAt_124 rfl (lv_at hl 0 rfl) ?_
    refine lv_iconst (pc := 125) (v := (iI 3)) hx hb dX6_joinsAt_125 rfl ?_
    refine lv_icmp_ne (pc := 126) (tgt := 133) hx hb dX6_joinsAt_126 (by decide) (fun hc => ?_) (fun hc => ?_)
    · replace hs := q_t hc hs
      refine lv_iconst (pc := 133) (v := (iI 0)) hx hb dX6_joinsAt_133 rfl ?_
      exact q_zret hret dX6_joinsAt_134 hw hs
    · replace hs := q_f (fun z => z hc) hs
      refine lv_iconst (pc := 129) (v := (iI 1)) hx hb dX6_joinsAt_129 rfl ?_
      refine lv_goto (pc := 130) (tgt := 134) hx hb dX6_joinsAt_130 (by decide) ?_
      exact q_zret hret dX6_joinsAt_134 hw hs
  replace hs := q_f hc4 hs
  by_cases hc5 : a1 = iI 47
  · replace hs := q_t hc5 hs
    refine lv_lookup (pc := 1) (off := 134) (tgt := 135) hx hb dX6_joinsAt_1 (by decide) (by rw [hc5]; decide) (by decide) ?_
    refine lv_iload_n (pc := 135) hx hb dX6_joinsAt_135 rfl (lv_at hl 0 rfl) ?_
    refine lv_iconst (pc := 136) (v := (iI 4)) hx hb dX6_joinsAt_136 rfl ?_
    refine lv_icmp_ne (pc := 137) (tgt := 144) hx hb dX6_joinsAt_137 (by decide) (fun hc => ?_) (fun hc => ?_)
    · replace hs := q_t hc hs
      refine lv_iconst (pc := 144) (v := (iI 0)) hx hb dX6_joinsAt_144 rfl ?_
      exact q_zret hret dX6_joinsAt_145 hw hs
    · replace hs := q_f (fun z => z hc) hs
      refine lv_iconst (pc := 140) (v := (iI 1)) hx hb dX6_joinsAt_140 rfl ?_
      refine lv_goto (pc := 141) (tgt := 145) hx hb dX6_joinsAt_141 (by decide) ?_
      exact q_zret hret dX6_joinsAt_145 hw hs
  replace hs := q_f hc5 hs
  by_cases hc6 : a1 = iI 60
  · replace hs := q_t hc6 hs
    refine lv_lookup (pc := 1) (off := 112) (tgt := 113) hx hb dX6_joinsAt_1 (by decide) (by rw [hc6]; decide) (by decide) ?_
    refine lv_iload_n (pc := 113) hx hb dX6_joinsAt_113 rfl (lv_at hl 0 rfl) ?_
    refine lv_iconst (pc := 114) (v := (iI 2)) hx hb dX6_joinsAt_114 rfl ?_
    refine lv_icmp_ne (pc := 115) (tgt := 122) hx hb dX6_joinsAt_115 (by decide) (fun hc => ?_) (fun hc => ?_)
    · replace hs := q_t hc hs
      refine lv_iconst (pc := 122) (v := (iI 0)) hx hb dX6_joinsAt_122 rfl ?_
      exact q_zret hret dX6_joinsAt_123 hw hs
    · replace hs := q_f (fun z => z hc) hs
      refine lv_iconst (pc := 118) (v := (iI 1)) hx hb dX6_joinsAt_118 rfl ?_
      refine lv_goto (pc := 119) (tgt := 123) hx hb dX6_joinsAt_119 (by decide) ?_
      exact q_zret hret dX6_joinsAt_123 hw hs
  replace hs := q_f hc6 hs
  by_cases hc7 : a1 = iI 61
  · replace hs := q_t hc7 hs
    refine lv_lookup (pc := 1) (off := 112) (tgt := 113) hx hb dX6_joinsAt_1 (by decide) (by rw [hc7]; decide) (by decide) ?_
    refine lv_iload_n (pc := 113) hx hb dX6_joinsAt_113 rfl (lv_at hl 0 rfl) ?_
    refine lv_iconst (pc := 114) (v := (iI 2)) hx hb dX6_joinsAt_114 rfl ?_
    refine lv_icmp_ne (pc := 115) (tgt := 122) hx hb dX6_joinsAt_115 (by decide) (fun hc => ?_) (fun hc => ?_)
    · replace hs := q_t hc hs
      refine lv_iconst (pc := 122) (v := (iI 0)) hx hb dX6_joinsAt_122 rfl ?_
      exact q_zret hret dX6_joinsAt_123 hw hs
    · replace hs := q_f (fun z => z hc) hs
      refine lv_iconst (pc := 118) (v := (iI 1)) hx hb dX6_joinsAt_118 rfl ?_
      refine lv_goto (pc := 119) (tgt := 123) hx hb dX6_joinsAt_119 (by decide) ?_
      exact q_zret hret dX6_joinsAt_123 hw hs
  replace hs := q_f hc7 hs
  by_cases hc8 : a1 = iI 62
  · replace hs := q_t hc8 hs
    refine lv_lookup (pc := 1) (off := 112) (tgt := 113) hx hb dX6_joinsAt_1 (by decide) (by rw [hc8]; decide) (by decide) ?_
    refine lv_iload_n (pc := 113) hx hb dX6_joinsAt_113 rfl (lv_at hl 0 rfl) ?_
    refine lv_iconst (pc := 114) (v := (iI 2)) hx hb dX6_joinsAt_114 rfl ?_
    refine lv_icmp_ne (pc := 115) (tgt := 122) hx hb dX6_joinsAt_115 (by decide) (fun hc => ?_) (fun hc => ?_)
    · replace hs := q_t hc hs
      refine lv_iconst (pc := 122) (v := (iI 0)) hx hb dX6_joinsAt_122 rfl ?_
      exact q_zret hret dX6_joinsAt_123 hw hs
    · replace hs := q_f (fun z => z hc) hs
      refine lv_iconst (pc := 118) (v := (iI 1)) hx hb dX6_joinsAt_118 rfl ?_
      refine lv_goto (pc := 119) (tgt := 123) hx hb dX6_joinsAt_119 (by decide) ?_
      exact q_zret hret dX6_joinsAt_123 hw hs
  replace hs := q_f hc8 hs
  by_cases hc9 : a1 = iI 124
  · replace hs := q_t hc9 hs
    refine lv_lookup (pc := 1) (off := 91) (tgt := 92) hx hb dX6_joinsAt_1 (by decide) (by rw [hc9]; decide) (by decide) ?_
    refine lv_iload_n (pc := 92) hx hb dX6_joinsAt_92 rfl (lv_at hl 0 rfl) ?_
    refine lv_if_ne (pc := 93) (tgt := 100) hx hb dX6_joinsAt_93 (by decide) (fun hc => ?_) (fun hc => ?_)
    · replace hs := q_t hc hs
      refine lv_iconst (pc := 100) (v := (iI 0)) hx hb dX6_joinsAt_100 rfl ?_
      exact q_zret hret dX6_joinsAt_101 hw hs
    · replace hs := q_f (fun z => z hc) hs
      refine lv_iconst (pc := 96) (v := (iI 1)) hx hb dX6_joinsAt_96 rfl ?_
      refine lv_goto (pc := 97) (tgt := 101) hx hb dX6_joinsAt_97 (by decide) ?_
      exact q_zret hret dX6_joinsAt_101 hw hs
  replace hs := q_f hc9 hs
  refine lv_lookup (pc := 1) (off := 145) (tgt := 146) hx hb dX6_joinsAt_1 (by decide) ((lv_osw hc0 (by decide)).trans ((lv_osw hc1 (by decide)).trans ((lv_osw hc2 (by decide)).trans ((lv_osw hc3 (by decide)).trans ((lv_osw hc4 (by decide)).trans ((lv_osw hc5 (by decide)).trans ((lv_osw hc6 (by decide)).trans ((lv_osw hc7 (by decide)).trans ((lv_osw hc8 (by decide)).trans ((lv_osw hc9 (by decide)).trans rfl)))))))))) (by decide) ?_
  refine lv_iconst (pc := 146) (v := (iI 0)) hx hb dX6_joinsAt_146 rfl ?_
  exact q_zret hret dX6_joinsAt_147 hw hs

set_option maxHeartbeats 4000000 in
theorem c_X6_isDigit (l : Launch) (G : GG) (a0 : Int32) (h : Mem) (v : Int32)  (hs : f_X6_isDigit h a0 = some v) : Sat l G yX6_isDigit cX6_isDigit 1 (some .boolean) 0 [.int a0] h (some (.int v)) h := by
  refine Sat.mkZ (by decide) (Nat.le_of_ble_eq_true rfl) ?_
  intro p e R s m args below meth c Q F hret hw ls hl
  obtain ⟨hx, hb, hml, hown, hts, hK, hSt, hN, hR⟩ := F
  have hl : lv_has ls 1 [(0, .int a0)] := hl
  unfold f_X6_isDigit at hs
  refine lv_iload_n (pc := 0) hx hb dX6_isDigit_0 rfl (lv_at hl 0 rfl) ?_
  refine lv_bipush (pc := 1) (v := (iI 48)) hx hb dX6_isDigit_1 (by decide) ?_
  refine q_join0 (P0 := ∀ (H : Heap) (locs : List Loc), IW G s h H locs → ∀ ls : Array Slot, lv_has ls 1 [] → W p l e R s m args below meth c H locs 0 0 Q (F0 m 16 ls [])) hs ?_ ?_
  · intro  hs H locs hw ls hl
    refine lv_iconst (pc := 16) (v := (iI 0)) hx hb dX6_isDigit_16 rfl ?_
    exact q_zret hret dX6_isDigit_17 hw hs
  · intro K1 hK1 hs
    refine lv_icmp_lt (pc := 3) (tgt := 16) hx hb dX6_isDigit_3 (by decide) (fun hc => ?_) (fun hc => ?_)
    · replace hs := q_t hc hs
      exact hK1 hs _ _ hw _ (lv_sub hl [] rfl)
    · replace hs := q_f hc hs
      refine lv_iload_n (pc := 6) hx hb dX6_isDigit_6 rfl (lv_at hl 0 rfl) ?_
      refine lv_bipush (pc := 7) (v := (iI 57)) hx hb dX6_isDigit_7 (by decide) ?_
      refine lv_icmp_gt (pc := 9) (tgt := 16) hx hb dX6_isDigit_9 (by decide) (fun hc => ?_) (fun hc => ?_)
      · replace hs := q_t hc hs
        exact hK1 hs _ _ hw _ (lv_sub hl [] rfl)
      · replace hs := q_f hc hs
        refine lv_iconst (pc := 12) (v := (iI 1)) hx hb dX6_isDigit_12 rfl ?_
        refine lv_goto (pc := 13) (tgt := 17) hx hb dX6_isDigit_13 (by decide) ?_
        exact q_zret hret dX6_isDigit_17 hw hs

set_option maxHeartbeats 4000000 in
theorem c_X6_peek (l : Launch) (G : GG)  (h : Mem) (v : Int32)  (hs : f_X6_peek h  = some v) : Sat l G yX6_peek cX6_peek 1 (some .int) 0 [.ref (G.2.2.1 34)] h (some (.int v)) h := by
  refine Sat.mkI (by decide) (Nat.le_of_ble_eq_true rfl) ?_
  intro p e R s m args below meth c Q F hret hw ls hl
  obtain ⟨hx, hb, hml, hown, hts, hK, hSt, hN, hR⟩ := F
  have hl : lv_has ls 1 [(0, .ref (G.2.2.1 34))] := hl
  unfold f_X6_peek at hs
  refine lv_aload_n (pc := 0) hx hb dX6_peek_0 rfl (lv_at hl 0 rfl) ?_
  refine q_getI (pc := 1) (q := 34) hx hb hts hown hK hw rfl fg_X6_25 dX6_peek_1 ?_
  refine q_join0 (P0 := ∀ (H : Heap) (locs : List Loc), IW G s h H locs → ∀ ls : Array Slot, lv_has ls 1 [] → W p l e R s m args below meth c H locs 0 0 Q (F0 m 30 ls [])) hs ?_ ?_
  · intro  hs H locs hw ls hl
    refine lv_iconst (pc := 30) (v := (iI (-1))) hx hb dX6_peek_30 rfl ?_
    exact q_iret hret dX6_peek_31 hw hs
  · intro K1 hK1 hs
    refine lv_if_lt (pc := 4) (tgt := 30) hx hb dX6_peek_4 (by decide) (fun hc => ?_) (fun hc => ?_)
    · replace hs := q_t hc hs
      exact hK1 hs _ _ hw _ (lv_sub hl [] rfl)
    · replace hs := q_f hc hs
      refine lv_aload_n (pc := 7) hx hb dX6_peek_7 rfl (lv_at hl 0 rfl) ?_
      refine q_getI (pc := 8) (q := 34) hx hb hts hown hK hw rfl fg_X6_25 dX6_peek_8 ?_
      refine lv_aload_n (pc := 11) hx hb dX6_peek_11 rfl (lv_at hl 0 rfl) ?_
      refine q_getI (pc := 12) (q := 34) hx hb hts hown hK hw rfl fg_X6_22 dX6_peek_12 ?_
      refine lv_icmp_ge (pc := 15) (tgt := 30) hx hb dX6_peek_15 (by decide) (fun hc => ?_) (fun hc => ?_)
      · replace hs := q_t hc hs
        exact hK1 hs _ _ hw _ (lv_sub hl [] rfl)
      · replace hs := q_f hc hs
        refine lv_aload_n (pc := 18) hx hb dX6_peek_18 rfl (lv_at hl 0 rfl) ?_
        refine q_getR (pc := 19) (q := 34) (o := 2) hx hb hts hown hK hw rfl fg_X6_19 dX6_peek_19 ?_
        refine lv_aload_n (pc := 22) hx hb dX6_peek_22 rfl (lv_at hl 0 rfl) ?_
        refine q_getI (pc := 23) (q := 34) hx hb hts hown hK hw rfl fg_X6_25 dX6_peek_23 ?_
        refine q_ald (pc := 26) (q := 36) (n := 50) hx hb hK hw rfl dX6_peek_26 hs (fun v2 hs => ?_)
        refine lv_goto (pc := 27) (tgt := 31) hx hb dX6_peek_27 (by decide) ?_
        exact q_iret hret dX6_peek_31 hw hs

set_option maxHeartbeats 4000000 in
theorem c_X6_write (l : Launch) (G : GG) (a1 : Int32) (h : Mem) (h' : Mem) (hs : f_X6_write h a1 = some h') : Sat l G yX6_write cX6_write 2 none 0 [.ref (G.2.2.1 34), .int a1] h none h' := by
  refine Sat.mkV (by decide) (Nat.le_of_ble_eq_true rfl) ?_
  intro p e R s m args below meth c Q F hret hw ls hl
  obtain ⟨hx, hb, hml, hown, hts, hK, hSt, hN, hR⟩ := F
  have hl : lv_has ls 2 [(0, .ref (G.2.2.1 34)), (1, .int a1)] := hl
  unfold f_X6_write at hs
  refine lv_aload_n (pc := 0) hx hb dX6_write_0 rfl (lv_at hl 0 rfl) ?_
  refine q_getI (pc := 1) (q := 34) hx hb hts hown hK hw rfl fg_X6_15 dX6_write_1 ?_
  refine lv_aload_n (pc := 4) hx hb dX6_write_4 rfl (lv_at hl 0 rfl) ?_
  refine q_getR (pc := 5) (q := 34) (o := 1) hx hb hts hown hK hw rfl fg_X6_9 dX6_write_5 ?_
  refine q_alen (pc := 8) (q := 35) (n := 50) hx hb hK hw rfl dX6_write_8 ?_
  refine lv_icmp_ge (pc := 9) (tgt := 32) hx hb dX6_write_9 (by decide) (fun hc => ?_) (fun hc => ?_)
  · replace hs := q_t hc hs
    exact q_vret hret dX6_write_32 hw hs
  · replace hs := q_f hc hs
    refine lv_aload_n (pc := 12) hx hb dX6_write_12 rfl (lv_at hl 0 rfl) ?_
    refine q_getR (pc := 13) (q := 34) (o := 1) hx hb hts hown hK hw rfl fg_X6_9 dX6_write_13 ?_
    refine lv_aload_n (pc := 16) hx hb dX6_write_16 rfl (lv_at hl 0 rfl) ?_
    refine q_getI (pc := 17) (q := 34) hx hb hts hown hK hw rfl fg_X6_15 dX6_write_17 ?_
    refine lv_iload_n (pc := 20) hx hb dX6_write_20 rfl (lv_at hl 1 rfl) ?_
    refine q_ast (pc := 21) (q := 35) (n := 50) hx hb hK hw rfl dX6_write_21 hs (fun h1 H locs hw hs => ?_)
    refine lv_aload_n (pc := 22) hx hb dX6_write_22 rfl (lv_at hl 0 rfl) ?_
    refine lv_dup (pc := 23) hx hb dX6_write_23 rfl ?_
    refine q_getI (pc := 24) (q := 34) hx hb hts hown hK hw rfl fg_X6_15 dX6_write_24 ?_
    refine lv_iconst (pc := 27) (v := (iI 1)) hx hb dX6_write_27 rfl ?_
    refine lv_iadd (pc := 28) hx hb dX6_write_28 ?_
    refine q_putI (pc := 29) (q := 34) hx hb hts hown hK hw rfl fp_X6_15 dX6_write_29 hs (fun h2 H locs hw hs => ?_)
    exact q_vret hret dX6_write_32 hw hs

set_option maxHeartbeats 4000000 in
theorem c_X8_bodyOf (l : Launch) (G : GG) (a0 : Int32) (a1 : Int32) (h : Mem) (v : Int32)  (hs : f_X8_bodyOf h a0 a1 = some v) : Sat l G yX8_bodyOf cX8_bodyOf 5 (some .int) 2 [.int a0, .int a1] h (some (.int v)) h := by
  refine Sat.mkI (by decide) (Nat.le_of_ble_eq_true rfl) ?_
  intro p e R s m args below meth c Q F hret hw ls hl
  obtain ⟨hx, hb, hml, hown, hts, hK, hSt, hN, hR⟩ := F
  have hl : lv_has ls 5 [(0, .int a0), (1, .int a1)] := hl
  unfold f_X8_bodyOf at hs
  refine lv_iload_n (pc := 0) hx hb dX8_bodyOf_0 rfl (lv_at hl 0 rfl) ?_
  refine lv_istore_n (pc := 1) (lv' := [(2, .int a0), (0, .int a0), (1, .int a1)]) hx hb dX8_bodyOf_1 rfl hl (by decide) rfl (fun ls hl => ?_)
  refine lv_iconst (pc := 2) (v := (iI 0)) hx hb dX8_bodyOf_2 rfl ?_
  refine lv_istore_n (pc := 3) (lv' := [(3, .int (iI 0)), (2, .int a0), (0, .int a0), (1, .int a1)]) hx hb dX8_bodyOf_3 rfl hl (by decide) rfl (fun ls hl => ?_)
  refine (q_lo2 (P0 := fun (x1 : Int32) (x2 : Int32) => ∀ (H : Heap) (locs : List Loc), IW G s h H locs → ∀ ls : Array Slot, lv_has ls 5 [(1, .int a1), (2, .int x1), (3, .int x2)] → W p l e R s m args below meth c H locs 0 0 Q (F0 m 4 ls [])) hs ?_) _ _ hw _ (lv_sub hl [3, 1, 0] rfl)
  intro K3 hK3 x1 x2 hs H locs hw ls hl
  unfold f_X8_bodyOf_k3 at hs
  refine lv_iload_n (pc := 4) hx hb dX8_bodyOf_4 rfl (lv_at hl 2 rfl) ?_
  refine lv_bipush (pc := 5) (v := (iI 7)) hx hb dX8_bodyOf_5 (by decide) ?_
  refine lv_icmp_ge (pc := 7) (tgt := 63) hx hb dX8_bodyOf_7 (by decide) (fun hc => ?_) (fun hc => ?_)
  · replace hs := q_t hc hs
    refine lv_iconst (pc := 63) (v := (iI 0)) hx hb dX8_bodyOf_63 rfl ?_
    exact q_iret hret dX8_bodyOf_64 hw hs
  · replace hs := q_f hc hs
    refine lv_iload_n (pc := 10) hx hb dX8_bodyOf_10 rfl (lv_at hl 1 rfl) ?_
    refine lv_if_lt (pc := 11) (tgt := 63) hx hb dX8_bodyOf_11 (by decide) (fun hc => ?_) (fun hc => ?_)
    · replace hs := q_t hc hs
      refine lv_iconst (pc := 63) (v := (iI 0)) hx hb dX8_bodyOf_63 rfl ?_
      exact q_iret hret dX8_bodyOf_64 hw hs
    · replace hs := q_f hc hs
      refine lv_iload_n (pc := 14) hx hb dX8_bodyOf_14 rfl (lv_at hl 1 rfl) ?_
      refine lv_iconst (pc := 15) (v := (iI 4)) hx hb dX8_bodyOf_15 rfl ?_
      refine lv_imul (pc := 16) hx hb dX8_bodyOf_16 ?_
      refine lv_iload_n (pc := 17) hx hb dX8_bodyOf_17 rfl (lv_at hl 0 rfl) ?_
      refine lv_iadd (pc := 18) hx hb dX8_bodyOf_18 ?_
      obtain ⟨x4, ex4, hs⟩ := q_nm hs
      refine q_topI ex4 ?_
      refine lv_istore (pc := 19) (lv' := [(4, .int x4), (1, .int a1), (2, .int x1), (3, .int x2)]) hx hb dX8_bodyOf_19 hl (by decide) rfl (fun ls hl => ?_)
      refine lv_iload (pc := 21) hx hb dX8_bodyOf_21 (lv_at hl 0 rfl) ?_
      refine lv_iconst (pc := 23) (v := (iI 0)) hx hb dX8_bodyOf_23 rfl ?_
      refine q_gets (pc := 24) hx hb hts hown hw hSt.2.2.1 fs_X8_55 dX8_bodyOf_24 ?_
      refine q_tlen (pc := 27) hx hb hw hSt.2.2.2 dX8_bodyOf_27 ?_
      refine lv_iconst (pc := 28) (v := (iI 1)) hx hb dX8_bodyOf_28 rfl ?_
      refine lv_isub (pc := 29) hx hb dX8_bodyOf_29 ?_
      obtain ⟨v5, ev, hs⟩ := q_cal hs
      refine q_callN (pc := 30) (As := [.int x4, .int (iI 0), .int ((Int32.ofNat 28) - (iI 1))]) (rest := []) (rs := [.int v5]) hx hb hml hl.1 hts hown hK hSt hN hw (c_X10_within l G x4 (iI 0) ((Int32.ofNat 28) - (iI 1)) h v5 ev) cn_X8_58 (rm_ok hR (by decide)) rfl (Nat.le_of_ble_eq_true rfl) rfl rfl dX8_bodyOf_30 (fun H locs hw => ?_)
      refine q_join0 (P0 := ∀ (H : Heap) (locs : List Loc), IW G s h H locs → ∀ ls : Array Slot, lv_has ls 5 [(1, .int a1), (2, .int x1), (3, .int x2)] → W p l e R s m args below meth c H locs 0 0 Q (F0 m 52 ls [])) hs ?_ ?_
      · intro  hs H locs hw ls hl
        refine lv_iload_n (pc := 52) hx hb dX8_bodyOf_52 rfl (lv_at hl 1 rfl) ?_
        obtain ⟨v7, ev, hs⟩ := q_cal hs
        refine q_callS (pc := 53) (As := [.int x1]) (rest := []) (rs := [.int v7]) hx hb hml hl.1 hts hown hK hSt hN hw (c_X3_above l G x1 h v7 ev) cs_X8_52 (rm_ok hR (by decide)) rfl (Nat.le_of_ble_eq_true rfl) rfl rfl dX8_bodyOf_53 (fun H locs hw => ?_)
        refine lv_istore_n (pc := 56) (lv' := [(2, .int v7), (1, .int a1), (3, .int x2)]) hx hb dX8_bodyOf_56 rfl hl (by decide) rfl (fun ls hl => ?_)
        obtain ⟨x8, ex8, hs⟩ := q_nm hs
        refine lv_iinc (pc := 57) (v := x8) (lv' := [(3, .int x8), (2, .int v7), (1, .int a1)]) hx hb dX8_bodyOf_57 hl (k := 2) rfl ex8 (by decide) rfl (fun ls hl => ?_)
        refine lv_goto (pc := 60) (tgt := 4) hx hb dX8_bodyOf_60 (by decide) ?_
        exact hK3 _ _ hs _ _ hw _ (lv_sub hl [2, 1, 0] rfl)
      · intro K6 hK6 hs
        refine lv_if_eq (pc := 33) (tgt := 52) hx hb dX8_bodyOf_33 (by decide) (fun hc => ?_) (fun hc => ?_)
        · replace hs := q_t hc hs
          exact hK6 hs _ _ hw _ (lv_sub hl [1, 2, 3] rfl)
        · replace hs := q_f hc hs
          refine q_gets (pc := 36) hx hb hts hown hw hSt.2.2.1 fs_X8_55 dX8_bodyOf_36 ?_
          refine lv_iload (pc := 39) hx hb dX8_bodyOf_39 (lv_at hl 0 rfl) ?_
          refine q_tldI (pc := 41) hx hb hw hSt.2.2.2 dX8_bodyOf_41 hs (fun v9 hs => ?_)
          refine lv_if_eq (pc := 42) (tgt := 52) hx hb dX8_bodyOf_42 (by decide) (fun hc => ?_) (fun hc => ?_)
          · replace hs := q_t hc hs
            exact hK6 hs _ _ hw _ (lv_sub hl [1, 2, 3] rfl)
          · replace hs := q_f hc hs
            refine q_gets (pc := 45) hx hb hts hown hw hSt.2.2.1 fs_X8_55 dX8_bodyOf_45 ?_
            refine lv_iload (pc := 48) hx hb dX8_bodyOf_48 (lv_at hl 0 rfl) ?_
            refine q_tldI (pc := 50) hx hb hw hSt.2.2.2 dX8_bodyOf_50 hs (fun v10 hs => ?_)
            exact q_iret hret dX8_bodyOf_51 hw hs

set_option maxHeartbeats 4000000 in
theorem c_X9_lawOf (l : Launch) (G : GG) (q0 : Nat) (hq0 : LAY[q0]? = some (12, 0)) (a1 : Int32) (h : Mem) (v : Nat)  (hs : f_X9_lawOf h q0 a1 = some v) : Sat l G yX9_lawOf cX9_lawOf 2 (some (.object "TurnedBeam$Law")) 0 [.ref (G.2.2.1 q0), .int a1] h (some (.ref (G.2.2.1 v))) h := by
  refine Sat.mkA (by decide) (Nat.le_of_ble_eq_true rfl) ?_
  intro p e R s m args below meth c Q F hret hw ls hl
  obtain ⟨hx, hb, hml, hown, hts, hK, hSt, hN, hR⟩ := F
  have hl : lv_has ls 2 [(0, .ref (G.2.2.1 q0)), (1, .int a1)] := hl
  unfold f_X9_lawOf at hs
  refine lv_iload_n (pc := 0) hx hb dX9_lawOf_0 rfl (lv_at hl 1 rfl) ?_
  refine lv_if_ne (pc := 1) (tgt := 11) hx hb dX9_lawOf_1 (by decide) (fun hc => ?_) (fun hc => ?_)
  · replace hs := q_t hc hs
    refine lv_aload_n (pc := 11) hx hb dX9_lawOf_11 rfl (lv_at hl 0 rfl) ?_
    refine q_getR (pc := 12) (q := q0) (o := 8) hx hb hts hown hK hw hq0 fg_X9_25 dX9_lawOf_12 ?_
    exact q_aret hret dX9_lawOf_15 hw hs
  · replace hs := q_f (fun z => z hc) hs
    refine lv_aload_n (pc := 4) hx hb dX9_lawOf_4 rfl (lv_at hl 0 rfl) ?_
    refine q_getR (pc := 5) (q := q0) (o := 5) hx hb hts hown hK hw hq0 fg_X9_21 dX9_lawOf_5 ?_
    refine lv_goto (pc := 8) (tgt := 15) hx hb dX9_lawOf_8 (by decide) ?_
    exact q_aret hret dX9_lawOf_15 hw hs

set_option maxHeartbeats 4000000 in
theorem c_X9_feedBytes (l : Launch) (G : GG) (q0 : Nat) (hq0 : LAY[q0]? = some (12, 0)) (a1 : Int64) (a2 : Int32) (h : Mem) (v : Int32) (h' : Mem) (hs : f_X9_feedBytes h q0 a1 a2 = some (v, h')) : Sat l G yX9_feedBytes cX9_feedBytes 5 (some .boolean) 0 [.ref (G.2.2.1 q0), .long a1, .int a2] h (some (.int v)) h' := by
  refine Sat.mkZ (by decide) (Nat.le_of_ble_eq_true rfl) ?_
  intro p e R s m args below meth c Q F hret hw ls hl
  obtain ⟨hx, hb, hml, hown, hts, hK, hSt, hN, hR⟩ := F
  have hl : lv_has ls 5 [(0, .ref (G.2.2.1 q0)), (1, .long a1), (3, .int a2)] := hl
  unfold f_X9_feedBytes at hs
  refine lv_iload_n (pc := 0) hx hb dX9_feedBytes_0 rfl (lv_at hl 2 rfl) ?_
  refine lv_bipush (pc := 1) (v := (iI 50)) hx hb dX9_feedBytes_1 (by decide) ?_
  refine lv_aload_n (pc := 3) hx hb dX9_feedBytes_3 rfl (lv_at hl 0 rfl) ?_
  refine q_getI (pc := 4) (q := q0) hx hb hts hown hK hw hq0 fg_X9_32 dX9_feedBytes_4 ?_
  refine lv_isub (pc := 7) hx hb dX9_feedBytes_7 ?_
  refine lv_icmp_le (pc := 8) (tgt := 13) hx hb dX9_feedBytes_8 (by decide) (fun hc => ?_) (fun hc => ?_)
  · replace hs := q_t hc hs
    refine lv_iconst (pc := 13) (v := (iI 0)) hx hb dX9_feedBytes_13 rfl ?_
    refine lv_istore (pc := 14) (lv' := [(4, .int (iI 0)), (0, .ref (G.2.2.1 q0)), (1, .long a1), (3, .int a2)]) hx hb dX9_feedBytes_14 hl (by decide) rfl (fun ls hl => ?_)
    refine (q_lo2 (P0 := fun (x1 : Int32) (h2 : Mem) => ∀ (H : Heap) (locs : List Loc), IW G s h2 H locs → ∀ ls : Array Slot, lv_has ls 5 [(0, .ref (G.2.2.1 q0)), (1, .long a1), (3, .int a2), (4, .int x1)] → W p l e R s m args below meth c H locs 0 0 Q (F0 m 16 ls [])) hs ?_) _ _ hw _ (lv_sub hl [1, 2, 3, 0] rfl)
    intro K3 hK3 x1 h2 hs H locs hw ls hl
    unfold f_X9_feedBytes_k3 at hs
    refine lv_iload (pc := 16) hx hb dX9_feedBytes_16 (lv_at hl 3 rfl) ?_
    refine lv_iload_n (pc := 18) hx hb dX9_feedBytes_18 rfl (lv_at hl 2 rfl) ?_
    refine lv_icmp_ge (pc := 19) (tgt := 59) hx hb dX9_feedBytes_19 (by decide) (fun hc => ?_) (fun hc => ?_)
    · replace hs := q_t hc hs
      refine lv_iconst (pc := 59) (v := (iI 1)) hx hb dX9_feedBytes_59 rfl ?_
      exact q_zretW hret dX9_feedBytes_60 hw hs
    · replace hs := q_f hc hs
      refine lv_aload_n (pc := 22) hx hb dX9_feedBytes_22 rfl (lv_at hl 0 rfl) ?_
      refine q_getR (pc := 23) (q := q0) (o := 11) hx hb hts hown hK hw hq0 fg_X9_28 dX9_feedBytes_23 ?_
      refine lv_aload_n (pc := 26) hx hb dX9_feedBytes_26 rfl (lv_at hl 0 rfl) ?_
      refine q_getI (pc := 27) (q := q0) hx hb hts hown hK hw hq0 fg_X9_32 dX9_feedBytes_27 ?_
      refine lv_lload_n (pc := 30) hx hb dX9_feedBytes_30 rfl (lv_at hl 1 rfl) ?_
      refine lv_bipush (pc := 31) (v := (iI 8)) hx hb dX9_feedBytes_31 (by decide) ?_
      refine lv_iload (pc := 33) hx hb dX9_feedBytes_33 (lv_at hl 3 rfl) ?_
      refine lv_imul (pc := 35) hx hb dX9_feedBytes_35 ?_
      refine lv_lushr (pc := 36) (v := (ushL a1 ((iI 8) * x1))) hx hb dX9_feedBytes_36 rfl ?_
      refine lv_ldc2 (pc := 37) (v := (iL 255)) hx hb hown (hts _ kl_X9_64) dX9_feedBytes_37 ?_
      refine lv_land (pc := 40) hx hb dX9_feedBytes_40 ?_
      refine lv_l2i (pc := 41) hx hb dX9_feedBytes_41 rfl ?_
      refine q_ast (pc := 42) (q := (q0 + 11)) (n := 50) hx hb hK hw (wt_X9_tape _ hq0) dX9_feedBytes_42 hs (fun h4 H locs hw hs => ?_)
      refine lv_aload_n (pc := 43) hx hb dX9_feedBytes_43 rfl (lv_at hl 0 rfl) ?_
      refine lv_dup (pc := 44) hx hb dX9_feedBytes_44 rfl ?_
      refine q_getI (pc := 45) (q := q0) hx hb hts hown hK hw hq0 fg_X9_32 dX9_feedBytes_45 ?_
      refine lv_iconst (pc := 48) (v := (iI 1)) hx hb dX9_feedBytes_48 rfl ?_
      refine lv_iadd (pc := 49) hx hb dX9_feedBytes_49 ?_
      refine q_putI (pc := 50) (q := q0) hx hb hts hown hK hw hq0 fp_X9_32 dX9_feedBytes_50 hs (fun h5 H locs hw hs => ?_)
      obtain ⟨x6, ex6, hs⟩ := q_nm hs
      refine lv_iinc (pc := 53) (v := x6) (lv' := [(4, .int x6), (0, .ref (G.2.2.1 q0)), (1, .long a1), (3, .int a2)]) hx hb dX9_feedBytes_53 hl (k := 3) rfl ex6 (by decide) rfl (fun ls hl => ?_)
      refine lv_goto (pc := 56) (tgt := 16) hx hb dX9_feedBytes_56 (by decide) ?_
      exact hK3 _ _ hs _ _ hw _ (lv_sub hl [1, 2, 3, 0] rfl)
  · replace hs := q_f hc hs
    refine lv_iconst (pc := 11) (v := (iI 0)) hx hb dX9_feedBytes_11 rfl ?_
    exact q_zretW hret dX9_feedBytes_12 hw hs

set_option maxHeartbeats 4000000 in
theorem c_X9_addWaiting (l : Launch) (G : GG) (q0 : Nat) (hq0 : LAY[q0]? = some (12, 0)) (a1 : Int32) (h : Mem) (v : Int32) (h' : Mem) (hs : f_X9_addWaiting h q0 a1 = some (v, h')) : Sat l G yX9_addWaiting cX9_addWaiting 2 (some .boolean) 0 [.ref (G.2.2.1 q0), .int a1] h (some (.int v)) h' := by
  refine Sat.mkZ (by decide) (Nat.le_of_ble_eq_true rfl) ?_
  intro p e R s m args below meth c Q F hret hw ls hl
  obtain ⟨hx, hb, hml, hown, hts, hK, hSt, hN, hR⟩ := F
  have hl : lv_has ls 2 [(0, .ref (G.2.2.1 q0)), (1, .int a1)] := hl
  unfold f_X9_addWaiting at hs
  refine lv_aload_n (pc := 0) hx hb dX9_addWaiting_0 rfl (lv_at hl 0 rfl) ?_
  refine q_getI (pc := 1) (q := q0) hx hb hts hown hK hw hq0 fg_X9_39 dX9_addWaiting_1 ?_
  refine lv_bipush (pc := 4) (v := (iI 20)) hx hb dX9_addWaiting_4 (by decide) ?_
  refine lv_icmp_lt (pc := 6) (tgt := 11) hx hb dX9_addWaiting_6 (by decide) (fun hc => ?_) (fun hc => ?_)
  · replace hs := q_t hc hs
    refine lv_aload_n (pc := 11) hx hb dX9_addWaiting_11 rfl (lv_at hl 0 rfl) ?_
    refine q_getR (pc := 12) (q := q0) (o := 12) hx hb hts hown hK hw hq0 fg_X9_36 dX9_addWaiting_12 ?_
    refine lv_aload_n (pc := 15) hx hb dX9_addWaiting_15 rfl (lv_at hl 0 rfl) ?_
    refine q_getI (pc := 16) (q := q0) hx hb hts hown hK hw hq0 fg_X9_39 dX9_addWaiting_16 ?_
    refine lv_iload_n (pc := 19) hx hb dX9_addWaiting_19 rfl (lv_at hl 1 rfl) ?_
    refine q_ast (pc := 20) (q := (q0 + 12)) (n := 20) hx hb hK hw (wt_X9_waits _ hq0) dX9_addWaiting_20 hs (fun h1 H locs hw hs => ?_)
    refine lv_aload_n (pc := 21) hx hb dX9_addWaiting_21 rfl (lv_at hl 0 rfl) ?_
    refine lv_dup (pc := 22) hx hb dX9_addWaiting_22 rfl ?_
    refine q_getI (pc := 23) (q := q0) hx hb hts hown hK hw hq0 fg_X9_39 dX9_addWaiting_23 ?_
    refine lv_iconst (pc := 26) (v := (iI 1)) hx hb dX9_addWaiting_26 rfl ?_
    refine lv_iadd (pc := 27) hx hb dX9_addWaiting_27 ?_
    refine q_putI (pc := 28) (q := q0) hx hb hts hown hK hw hq0 fp_X9_39 dX9_addWaiting_28 hs (fun h2 H locs hw hs => ?_)
    refine lv_iconst (pc := 31) (v := (iI 1)) hx hb dX9_addWaiting_31 rfl ?_
    exact q_zretW hret dX9_addWaiting_32 hw hs
  · replace hs := q_f hc hs
    refine lv_iconst (pc := 9) (v := (iI 0)) hx hb dX9_addWaiting_9 rfl ?_
    exact q_zretW hret dX9_addWaiting_10 hw hs

set_option maxHeartbeats 4000000 in
theorem c_X9_draw (l : Launch) (G : GG) (q0 : Nat) (hq0 : LAY[q0]? = some (12, 0)) (h : Mem) (v : Int32) (h' : Mem) (hs : f_X9_draw h q0 = some (v, h')) : Sat l G yX9_draw cX9_draw 1 (some .int) 0 [.ref (G.2.2.1 q0)] h (some (.int v)) h' := by
  refine Sat.mkI (by decide) (Nat.le_of_ble_eq_true rfl) ?_
  intro p e R s m args below meth c Q F hret hw ls hl
  obtain ⟨hx, hb, hml, hown, hts, hK, hSt, hN, hR⟩ := F
  have hl : lv_has ls 1 [(0, .ref (G.2.2.1 q0))] := hl
  unfold f_X9_draw at hs
  refine lv_aload_n (pc := 0) hx hb dX9_draw_0 rfl (lv_at hl 0 rfl) ?_
  refine lv_aload_n (pc := 1) hx hb dX9_draw_1 rfl (lv_at hl 0 rfl) ?_
  refine q_getI (pc := 2) (q := q0) hx hb hts hown hK hw hq0 fg_X9_48 dX9_draw_2 ?_
  refine lv_ldc (pc := 5) (v := (iI 1103515245)) hx hb hown (hts _ ki_X9_125) dX9_draw_5 ?_
  refine lv_imul (pc := 7) hx hb dX9_draw_7 ?_
  refine lv_sipush (pc := 8) (v := (iI 12345)) hx hb dX9_draw_8 (by decide) ?_
  refine lv_iadd (pc := 11) hx hb dX9_draw_11 ?_
  refine q_putI (pc := 12) (q := q0) hx hb hts hown hK hw hq0 fp_X9_48 dX9_draw_12 hs (fun h1 H locs hw hs => ?_)
  refine lv_aload_n (pc := 15) hx hb dX9_draw_15 rfl (lv_at hl 0 rfl) ?_
  refine q_getI (pc := 16) (q := q0) hx hb hts hown hK hw hq0 fg_X9_48 dX9_draw_16 ?_
  refine lv_bipush (pc := 19) (v := (iI 8)) hx hb dX9_draw_19 (by decide) ?_
  refine lv_iushr (pc := 21) (v := (ushI (gI h1 q0 9) (iI 8))) hx hb dX9_draw_21 rfl ?_
  exact q_iretW hret dX9_draw_22 hw hs

set_option maxHeartbeats 4000000 in
theorem c_X9_earn (l : Launch) (G : GG) (q0 : Nat) (hq0 : LAY[q0]? = some (12, 0)) (a1 : Int32) (h : Mem) (h' : Mem) (hs : f_X9_earn h q0 a1 = some h') : Sat l G yX9_earn cX9_earn 2 none 2 [.ref (G.2.2.1 q0), .int a1] h none h' := by
  refine Sat.mkV (by decide) (Nat.le_of_ble_eq_true rfl) ?_
  intro p e R s m args below meth c Q F hret hw ls hl
  obtain ⟨hx, hb, hml, hown, hts, hK, hSt, hN, hR⟩ := F
  have hl : lv_has ls 2 [(0, .ref (G.2.2.1 q0)), (1, .int a1)] := hl
  unfold f_X9_earn at hs
  refine lv_aload_n (pc := 0) hx hb dX9_earn_0 rfl (lv_at hl 0 rfl) ?_
  refine lv_aload_n (pc := 1) hx hb dX9_earn_1 rfl (lv_at hl 0 rfl) ?_
  refine q_getI (pc := 2) (q := q0) hx hb hts hown hK hw hq0 fg_X9_42 dX9_earn_2 ?_
  refine lv_iload_n (pc := 5) hx hb dX9_earn_5 rfl (lv_at hl 1 rfl) ?_
  refine lv_iadd (pc := 6) hx hb dX9_earn_6 ?_
  refine lv_ldc (pc := 7) (v := (iI (-99999))) hx hb hown (hts _ ki_X9_126) dX9_earn_7 ?_
  refine lv_ldc (pc := 9) (v := (iI 99999)) hx hb hown (hts _ ki_X9_127) dX9_earn_9 ?_
  obtain ⟨v1, ev, hs⟩ := q_cal hs
  refine q_callN (pc := 11) (As := [.int ((gI h q0 7) + a1), .int (iI (-99999)), .int (iI 99999)]) (rest := [.ref (G.2.2.1 q0)]) (rs := [.int v1, .ref (G.2.2.1 q0)]) hx hb hml hl.1 hts hown hK hSt hN hw (c_X10_held l G ((gI h q0 7) + a1) (iI (-99999)) (iI 99999) h v1 ev) cn_X9_128 (rm_ok hR (by decide)) rfl (Nat.le_of_ble_eq_true rfl) rfl rfl dX9_earn_11 (fun H locs hw => ?_)
  refine q_putI (pc := 14) (q := q0) hx hb hts hown hK hw hq0 fp_X9_42 dX9_earn_14 hs (fun h2 H locs hw hs => ?_)
  exact q_vret hret dX9_earn_17 hw hs

set_option maxHeartbeats 4000000 in
theorem c_X1_standBy (l : Launch) (G : GG) (a1 : Int32) (h : Mem) (h' : Mem) (hs : f_X1_standBy h a1 = some h') : Sat l G yX1_standBy cX1_standBy 4 none 1 [.ref (G.2.2.1 56), .int a1] h none h' := by
  refine Sat.mkV (by decide) (Nat.le_of_ble_eq_true rfl) ?_
  intro p e R s m args below meth c Q F hret hw ls hl
  obtain ⟨hx, hb, hml, hown, hts, hK, hSt, hN, hR⟩ := F
  have hl : lv_has ls 4 [(0, .ref (G.2.2.1 56)), (1, .int a1)] := hl
  unfold f_X1_standBy at hs
  refine lv_aload_n (pc := 0) hx hb dX1_standBy_0 rfl (lv_at hl 0 rfl) ?_
  refine q_getI (pc := 1) (q := 56) hx hb hts hown hK hw rfl fg_X1_31 dX1_standBy_1 ?_
  obtain ⟨x1, ex1, hs⟩ := q_nm hs
  refine q_topI ex1 ?_
  refine lv_istore_n (pc := 4) (lv' := [(2, .int x1), (0, .ref (G.2.2.1 56)), (1, .int a1)]) hx hb dX1_standBy_4 rfl hl (by decide) rfl (fun ls hl => ?_)
  refine lv_iconst (pc := 5) (v := (iI 0)) hx hb dX1_standBy_5 rfl ?_
  refine lv_istore_n (pc := 6) (lv' := [(3, .int (iI 0)), (2, .int x1), (0, .ref (G.2.2.1 56)), (1, .int a1)]) hx hb dX1_standBy_6 rfl hl (by decide) rfl (fun ls hl => ?_)
  refine (q_lo2 (P0 := fun (x2 : Int32) (x3 : Int32) => ∀ (H : Heap) (locs : List Loc), IW G s h H locs → ∀ ls : Array Slot, lv_has ls 4 [(0, .ref (G.2.2.1 56)), (1, .int a1), (2, .int x2), (3, .int x3)] → W p l e R s m args below meth c H locs 0 0 Q (F0 m 7 ls [])) hs ?_) _ _ hw _ (lv_sub hl [2, 3, 1, 0] rfl)
  intro K4 hK4 x2 x3 hs H locs hw ls hl
  unfold f_X1_standBy_k4 at hs
  refine lv_iload_n (pc := 7) hx hb dX1_standBy_7 rfl (lv_at hl 3 rfl) ?_
  refine lv_aload_n (pc := 8) hx hb dX1_standBy_8 rfl (lv_at hl 0 rfl) ?_
  refine q_getI (pc := 9) (q := 56) hx hb hts hown hK hw rfl fg_X1_27 dX1_standBy_9 ?_
  refine lv_icmp_ge (pc := 12) (tgt := 47) hx hb dX1_standBy_12 (by decide) (fun hc => ?_) (fun hc => ?_)
  · replace hs := q_t hc hs
    refine lv_aload_n (pc := 47) hx hb dX1_standBy_47 rfl (lv_at hl 0 rfl) ?_
    refine q_getR (pc := 48) (q := 56) (o := 1) hx hb hts hown hK hw rfl fg_X1_10 dX1_standBy_48 ?_
    refine lv_iload_n (pc := 51) hx hb dX1_standBy_51 rfl (lv_at hl 2 rfl) ?_
    refine lv_aload_n (pc := 52) hx hb dX1_standBy_52 rfl (lv_at hl 0 rfl) ?_
    refine q_getL (pc := 53) (q := 56) hx hb hts hown hK hw rfl fg_X1_34 dX1_standBy_53 ?_
    obtain ⟨h5, ev, hs⟩ := q_cal hs
    refine q_callV (pc := 56) (q := 57) (As := [.int x2, .long (gL h 56 5)]) (rest := []) (rs := []) hx hb hml hl.1 hts hown hK hSt hN hw (c_X3_stand l G 57 rfl x2 (gL h 56 5) h h5 ev) rfl rfl cv_X1_74 (rm_ok hR (by decide)) rfl (Nat.le_of_ble_eq_true rfl) rfl rfl dX1_standBy_56 (fun H locs hw => ?_)
    exact q_vret hret dX1_standBy_59 hw hs
  · replace hs := q_f hc hs
    refine lv_iload_n (pc := 15) hx hb dX1_standBy_15 rfl (lv_at hl 2 rfl) ?_
    refine lv_iconst (pc := 16) (v := (iI 1)) hx hb dX1_standBy_16 rfl ?_
    refine lv_aload_n (pc := 17) hx hb dX1_standBy_17 rfl (lv_at hl 0 rfl) ?_
    refine q_getR (pc := 18) (q := 56) (o := 6) hx hb hts hown hK hw rfl fg_X1_23 dX1_standBy_18 ?_
    refine lv_iload_n (pc := 21) hx hb dX1_standBy_21 rfl (lv_at hl 3 rfl) ?_
    refine q_ald (pc := 22) (q := 62) (n := 5) hx hb hK hw rfl dX1_standBy_22 hs (fun v6 hs => ?_)
    refine q_ishl (pc := 23) hx hb dX1_standBy_23 ?_
    refine lv_iconst (pc := 24) (v := (iI (-1))) hx hb dX1_standBy_24 rfl ?_
    refine lv_ixor (pc := 25) hx hb dX1_standBy_25 ?_
    refine lv_iand (pc := 26) hx hb dX1_standBy_26 ?_
    refine lv_iload_n (pc := 27) hx hb dX1_standBy_27 rfl (lv_at hl 1 rfl) ?_
    refine lv_iload_n (pc := 28) hx hb dX1_standBy_28 rfl (lv_at hl 3 rfl) ?_
    refine lv_iushr (pc := 29) (v := (ushI a1 x3)) hx hb dX1_standBy_29 rfl ?_
    refine lv_iconst (pc := 30) (v := (iI 1)) hx hb dX1_standBy_30 rfl ?_
    refine lv_iand (pc := 31) hx hb dX1_standBy_31 ?_
    refine lv_aload_n (pc := 32) hx hb dX1_standBy_32 rfl (lv_at hl 0 rfl) ?_
    refine q_getR (pc := 33) (q := 56) (o := 6) hx hb hts hown hK hw rfl fg_X1_23 dX1_standBy_33 ?_
    refine lv_iload_n (pc := 36) hx hb dX1_standBy_36 rfl (lv_at hl 3 rfl) ?_
    refine q_ald (pc := 37) (q := 62) (n := 5) hx hb hK hw rfl dX1_standBy_37 hs (fun v7 hs => ?_)
    refine q_ishl (pc := 38) hx hb dX1_standBy_38 ?_
    refine lv_ior (pc := 39) hx hb dX1_standBy_39 ?_
    obtain ⟨x8, ex8, hs⟩ := q_nm hs
    refine q_topI ex8 ?_
    refine lv_istore_n (pc := 40) (lv' := [(2, .int x8), (0, .ref (G.2.2.1 56)), (1, .int a1), (3, .int x3)]) hx hb dX1_standBy_40 rfl hl (by decide) rfl (fun ls hl => ?_)
    obtain ⟨x9, ex9, hs⟩ := q_nm hs
    refine lv_iinc (pc := 41) (v := x9) (lv' := [(3, .int x9), (2, .int x8), (0, .ref (G.2.2.1 56)), (1, .int a1)]) hx hb dX1_standBy_41 hl (k := 3) rfl ex9 (by decide) rfl (fun ls hl => ?_)
    refine lv_goto (pc := 44) (tgt := 7) hx hb dX1_standBy_44 (by decide) ?_
    exact hK4 _ _ hs _ _ hw _ (lv_sub hl [2, 3, 1, 0] rfl)

set_option maxHeartbeats 4000000 in
theorem c_X1_canRead (l : Launch) (G : GG) (q1 : Nat) (hq1 : LAY[q1]? = some (10, 0)) (q2 : Nat) (hq2 : LAY[q2]? = some (6, 0)) (h : Mem) (v : Int32)  (hs : f_X1_canRead h q1 q2 = some v) : Sat l G yX1_canRead cX1_canRead 6 (some .boolean) 2 [.ref (G.2.2.1 56), .ref (G.2.2.1 q1), .ref (G.2.2.1 q2)] h (some (.int v)) h := by
  refine Sat.mkZ (by decide) (Nat.le_of_ble_eq_true rfl) ?_
  intro p e R s m args below meth c Q F hret hw ls hl
  obtain ⟨hx, hb, hml, hown, hts, hK, hSt, hN, hR⟩ := F
  have hl : lv_has ls 6 [(0, .ref (G.2.2.1 56)), (1, .ref (G.2.2.1 q1)), (2, .ref (G.2.2.1 q2))] := hl
  unfold f_X1_canRead at hs
  refine lv_iconst (pc := 0) (v := (iI 0)) hx hb dX1_canRead_0 rfl ?_
  refine lv_istore_n (pc := 1) (lv' := [(3, .int (iI 0)), (0, .ref (G.2.2.1 56)), (1, .ref (G.2.2.1 q1)), (2, .ref (G.2.2.1 q2))]) hx hb dX1_canRead_1 rfl hl (by decide) rfl (fun ls hl => ?_)
  refine (q_lo1 (P0 := fun (x1 : Int32) => ∀ (H : Heap) (locs : List Loc), IW G s h H locs → ∀ ls : Array Slot, lv_has ls 6 [(1, .ref (G.2.2.1 q1)), (2, .ref (G.2.2.1 q2)), (3, .int x1)] → W p l e R s m args below meth c H locs 0 0 Q (F0 m 2 ls [])) hs ?_) _ _ hw _ (lv_sub hl [2, 3, 0] rfl)
  intro K2 hK2 x1 hs H locs hw ls hl
  unfold f_X1_canRead_k2 at hs
  refine lv_iload_n (pc := 2) hx hb dX1_canRead_2 rfl (lv_at hl 2 rfl) ?_
  refine lv_iconst (pc := 3) (v := (iI 1)) hx hb dX1_canRead_3 rfl ?_
  refine lv_iadd (pc := 4) hx hb dX1_canRead_4 ?_
  refine lv_aload_n (pc := 5) hx hb dX1_canRead_5 rfl (lv_at hl 0 rfl) ?_
  refine q_getI (pc := 6) (q := q1) hx hb hts hown hK hw hq1 fg_X1_89 dX1_canRead_6 ?_
  refine lv_icmp_ge (pc := 9) (tgt := 71) hx hb dX1_canRead_9 (by decide) (fun hc => ?_) (fun hc => ?_)
  · replace hs := q_t hc hs
    refine lv_aload_n (pc := 71) hx hb dX1_canRead_71 rfl (lv_at hl 0 rfl) ?_
    obtain ⟨v3, ev, hs⟩ := q_cal hs
    refine q_callV (pc := 72) (q := q1) (As := []) (rest := []) (rs := [.int v3]) hx hb hml hl.1 hts hown hK hSt hN hw (c_X7_isMissing l G q1 hq1 h v3 ev) hq1 rfl cv_X1_100 (rm_ok hR (by decide)) rfl (Nat.le_of_ble_eq_true rfl) rfl rfl dX1_canRead_72 (fun H locs hw => ?_)
    refine lv_if_ne (pc := 75) (tgt := 82) hx hb dX1_canRead_75 (by decide) (fun hc => ?_) (fun hc => ?_)
    · replace hs := q_t hc hs
      refine lv_iconst (pc := 82) (v := (iI 0)) hx hb dX1_canRead_82 rfl ?_
      exact q_zret hret dX1_canRead_83 hw hs
    · replace hs := q_f (fun z => z hc) hs
      refine lv_iconst (pc := 78) (v := (iI 1)) hx hb dX1_canRead_78 rfl ?_
      refine lv_goto (pc := 79) (tgt := 83) hx hb dX1_canRead_79 (by decide) ?_
      exact q_zret hret dX1_canRead_83 hw hs
  · replace hs := q_f hc hs
    refine lv_aload_n (pc := 12) hx hb dX1_canRead_12 rfl (lv_at hl 0 rfl) ?_
    refine q_getR (pc := 13) (q := q1) (o := 1) hx hb hts hown hK hw hq1 fg_X1_94 dX1_canRead_13 ?_
    refine lv_iload_n (pc := 16) hx hb dX1_canRead_16 rfl (lv_at hl 2 rfl) ?_
    refine lv_iconst (pc := 17) (v := (iI 1)) hx hb dX1_canRead_17 rfl ?_
    refine lv_iadd (pc := 18) hx hb dX1_canRead_18 ?_
    refine q_ald (pc := 19) (q := (q1 + 1)) (n := 40) hx hb hK hw (wt_X7_numbers _ hq1) dX1_canRead_19 hs (fun v4 hs => ?_)
    refine lv_istore (pc := 20) (lv' := [(4, .int v4), (1, .ref (G.2.2.1 q1)), (2, .ref (G.2.2.1 q2)), (3, .int x1)]) hx hb dX1_canRead_20 hl (by decide) rfl (fun ls hl => ?_)
    refine lv_aload_n (pc := 22) hx hb dX1_canRead_22 rfl (lv_at hl 2 rfl) ?_
    refine lv_iload (pc := 23) hx hb dX1_canRead_23 (lv_at hl 0 rfl) ?_
    obtain ⟨v5, ev, hs⟩ := q_cal hs
    refine q_callV (pc := 25) (q := q2) (As := [.int v4]) (rest := []) (rs := [.int v5]) hx hb hml hl.1 hts hown hK hSt hN hw (c_X3_hasWindow l G q2 hq2 v4 h v5 ev) hq2 rfl cv_X1_97 (rm_ok hR (by decide)) rfl (Nat.le_of_ble_eq_true rfl) rfl rfl dX1_canRead_25 (fun H locs hw => ?_)
    refine q_join1 (P0 := fun (x6 : Int32) => ∀ (H : Heap) (locs : List Loc), IW G s h H locs → ∀ ls : Array Slot, lv_has ls 6 [(1, .ref (G.2.2.1 q1)), (2, .ref (G.2.2.1 q2)), (3, .int x1)] → W p l e R s m args below meth c H locs 0 0 Q (F0 m 43 ls [.int x6])) hs ?_ ?_
    · intro x6 hs H locs hw ls hl
      unfold f_X1_canRead_k7 at hs
      refine lv_istore (pc := 43) (lv' := [(5, .int x6), (1, .ref (G.2.2.1 q1)), (2, .ref (G.2.2.1 q2)), (3, .int x1)]) hx hb dX1_canRead_43 hl (by decide) rfl (fun ls hl => ?_)
      refine lv_aload_n (pc := 45) hx hb dX1_canRead_45 rfl (lv_at hl 2 rfl) ?_
      refine lv_aload_n (pc := 46) hx hb dX1_canRead_46 rfl (lv_at hl 1 rfl) ?_
      refine q_getR (pc := 47) (q := q1) (o := 1) hx hb hts hown hK hw hq1 fg_X1_94 dX1_canRead_47 ?_
      refine lv_iload_n (pc := 50) hx hb dX1_canRead_50 rfl (lv_at hl 3 rfl) ?_
      refine q_ald (pc := 51) (q := (q1 + 1)) (n := 40) hx hb hK hw (wt_X7_numbers _ hq1) dX1_canRead_51 hs (fun v8 hs => ?_)
      obtain ⟨v9, ev, hs⟩ := q_cal hs
      refine q_callV (pc := 52) (q := q2) (As := [.int v8]) (rest := []) (rs := [.int v9]) hx hb hml hl.1 hts hown hK hSt hN hw (c_X3_hasWindow l G q2 hq2 v8 h v9 ev) hq2 rfl cv_X1_97 (rm_ok hR (by decide)) rfl (Nat.le_of_ble_eq_true rfl) rfl rfl dX1_canRead_52 (fun H locs hw => ?_)
      refine lv_if_eq (pc := 55) (tgt := 63) hx hb dX1_canRead_55 (by decide) (fun hc => ?_) (fun hc => ?_)
      · replace hs := q_t hc hs
        refine lv_iconst (pc := 63) (v := (iI 0)) hx hb dX1_canRead_63 rfl ?_
        exact q_zret hret dX1_canRead_64 hw hs
      · replace hs := q_f hc hs
        refine lv_iload (pc := 58) hx hb dX1_canRead_58 (lv_at hl 0 rfl) ?_
        refine lv_if_ne (pc := 60) (tgt := 65) hx hb dX1_canRead_60 (by decide) (fun hc => ?_) (fun hc => ?_)
        · replace hs := q_t hc hs
          obtain ⟨x10, ex10, hs⟩ := q_nm hs
          refine lv_iinc (pc := 65) (v := x10) (lv' := [(3, .int x10), (5, .int x6), (1, .ref (G.2.2.1 q1)), (2, .ref (G.2.2.1 q2))]) hx hb dX1_canRead_65 hl (k := 3) rfl ex10 (by decide) rfl (fun ls hl => ?_)
          refine lv_goto (pc := 68) (tgt := 2) hx hb dX1_canRead_68 (by decide) ?_
          exact hK2 _ hs _ _ hw _ (lv_sub hl [2, 3, 0] rfl)
        · replace hs := q_f (fun z => z hc) hs
          refine lv_iconst (pc := 63) (v := (iI 0)) hx hb dX1_canRead_63 rfl ?_
          exact q_zret hret dX1_canRead_64 hw hs
    · intro K7 hK7 hs
      refine q_join0 (P0 := ∀ (H : Heap) (locs : List Loc), IW G s h H locs → ∀ ls : Array Slot, lv_has ls 6 [(1, .ref (G.2.2.1 q1)), (2, .ref (G.2.2.1 q2)), (3, .int x1)] → W p l e R s m args below meth c H locs 0 0 Q (F0 m 38 ls [])) hs ?_ ?_
      · intro  hs H locs hw ls hl
        refine lv_iconst (pc := 38) (v := (iI 1)) hx hb dX1_canRead_38 rfl ?_
        refine lv_goto (pc := 39) (tgt := 43) hx hb dX1_canRead_39 (by decide) ?_
        exact hK7 _ hs _ _ hw _ (lv_sub hl [0, 1, 2] rfl)
      · intro K11 hK11 hs
        refine lv_if_ne (pc := 28) (tgt := 38) hx hb dX1_canRead_28 (by decide) (fun hc => ?_) (fun hc => ?_)
        · replace hs := q_t hc hs
          exact hK11 hs _ _ hw _ (lv_sub hl [1, 2, 3] rfl)
        · replace hs := q_f (fun z => z hc) hs
          refine lv_iload (pc := 31) hx hb dX1_canRead_31 (lv_at hl 0 rfl) ?_
          refine lv_bipush (pc := 33) (v := (iI 100)) hx hb dX1_canRead_33 (by decide) ?_
          refine lv_icmp_ne (pc := 35) (tgt := 42) hx hb dX1_canRead_35 (by decide) (fun hc => ?_) (fun hc => ?_)
          · replace hs := q_t hc hs
            refine lv_iconst (pc := 42) (v := (iI 0)) hx hb dX1_canRead_42 rfl ?_
            exact hK7 _ hs _ _ hw _ (lv_sub hl [1, 2, 3] rfl)
          · replace hs := q_f (fun z => z hc) hs
            exact hK11 hs _ _ hw _ (lv_sub hl [1, 2, 3] rfl)

set_option maxHeartbeats 4000000 in
theorem c_X6_readNumber (l : Launch) (G : GG)  (h : Mem) (h' : Mem) (hs : f_X6_readNumber h  = some h') : Sat l G yX6_readNumber cX6_readNumber 3 none 1 [.ref (G.2.2.1 34)] h none h' := by
  refine Sat.mkV (by decide) (Nat.le_of_ble_eq_true rfl) ?_
  intro p e R s m args below meth c Q F hret hw ls hl
  obtain ⟨hx, hb, hml, hown, hts, hK, hSt, hN, hR⟩ := F
  have hl : lv_has ls 3 [(0, .ref (G.2.2.1 34))] := hl
  unfold f_X6_readNumber at hs
  refine lv_iconst (pc := 0) (v := (iI 0)) hx hb dX6_readNumber_0 rfl ?_
  refine lv_istore_n (pc := 1) (lv' := [(1, .int (iI 0)), (0, .ref (G.2.2.1 34))]) hx hb dX6_readNumber_1 rfl hl (by decide) rfl (fun ls hl => ?_)
  refine lv_iconst (pc := 2) (v := (iI 0)) hx hb dX6_readNumber_2 rfl ?_
  refine lv_istore_n (pc := 3) (lv' := [(2, .int (iI 0)), (1, .int (iI 0)), (0, .ref (G.2.2.1 34))]) hx hb dX6_readNumber_3 rfl hl (by decide) rfl (fun ls hl => ?_)
  refine (q_lo3 (P0 := fun (x1 : Int32) (x2 : Int32) (h3 : Mem) => ∀ (H : Heap) (locs : List Loc), IW G s h3 H locs → ∀ ls : Array Slot, lv_has ls 3 [(0, .ref (G.2.2.1 34)), (1, .int x1), (2, .int x2)] → W p l e R s m args below meth c H locs 0 0 Q (F0 m 4 ls [])) hs ?_) _ _ hw _ (lv_sub hl [2, 1, 0] rfl)
  intro K4 hK4 x1 x2 h3 hs H locs hw ls hl
  unfold f_X6_readNumber_k4 at hs
  refine lv_iload_n (pc := 4) hx hb dX6_readNumber_4 rfl (lv_at hl 2 rfl) ?_
  refine lv_iconst (pc := 5) (v := (iI 4)) hx hb dX6_readNumber_5 rfl ?_
  refine q_join0 (P0 := ∀ (H : Heap) (locs : List Loc), IW G s h3 H locs → ∀ ls : Array Slot, lv_has ls 3 [(0, .ref (G.2.2.1 34)), (1, .int x1)] → W p l e R s m args below meth c H locs 0 0 Q (F0 m 48 ls [])) hs ?_ ?_
  · intro  hs H locs hw ls hl
    refine lv_aload_n (pc := 48) hx hb dX6_readNumber_48 rfl (lv_at hl 0 rfl) ?_
    refine lv_iload_n (pc := 49) hx hb dX6_readNumber_49 rfl (lv_at hl 1 rfl) ?_
    obtain ⟨h6, ev, hs⟩ := q_cal hs
    refine q_callV (pc := 50) (q := 34) (As := [.int x1]) (rest := []) (rs := []) hx hb hml hl.1 hts hown hK hSt hN hw (c_X6_write l G x1 h3 h6 ev) rfl rfl cv_X6_68 (rm_ok hR (by decide)) rfl (Nat.le_of_ble_eq_true rfl) rfl rfl dX6_readNumber_50 (fun H locs hw => ?_)
    exact q_vret hret dX6_readNumber_53 hw hs
  · intro K5 hK5 hs
    refine lv_icmp_ge (pc := 6) (tgt := 48) hx hb dX6_readNumber_6 (by decide) (fun hc => ?_) (fun hc => ?_)
    · replace hs := q_t hc hs
      exact hK5 hs _ _ hw _ (lv_sub hl [0, 1] rfl)
    · replace hs := q_f hc hs
      refine lv_aload_n (pc := 9) hx hb dX6_readNumber_9 rfl (lv_at hl 0 rfl) ?_
      obtain ⟨v7, ev, hs⟩ := q_cal hs
      refine q_callV (pc := 10) (q := 34) (As := []) (rest := []) (rs := [.int v7]) hx hb hml hl.1 hts hown hK hSt hN hw (c_X6_peek l G h3 v7 ev) rfl rfl cv_X6_60 (rm_ok hR (by decide)) rfl (Nat.le_of_ble_eq_true rfl) rfl rfl dX6_readNumber_10 (fun H locs hw => ?_)
      obtain ⟨v8, ev, hs⟩ := q_cal hs
      refine q_callS (pc := 13) (As := [.int v7]) (rest := []) (rs := [.int v8]) hx hb hml hl.1 hts hown hK hSt hN hw (c_X6_isDigit l G v7 h3 v8 ev) cs_X6_75 (rm_ok hR (by decide)) rfl (Nat.le_of_ble_eq_true rfl) rfl rfl dX6_readNumber_13 (fun H locs hw => ?_)
      refine lv_if_eq (pc := 16) (tgt := 48) hx hb dX6_readNumber_16 (by decide) (fun hc => ?_) (fun hc => ?_)
      · replace hs := q_t hc hs
        exact hK5 hs _ _ hw _ (lv_sub hl [0, 1] rfl)
      · replace hs := q_f hc hs
        refine lv_iload_n (pc := 19) hx hb dX6_readNumber_19 rfl (lv_at hl 1 rfl) ?_
        refine lv_bipush (pc := 20) (v := (iI 10)) hx hb dX6_readNumber_20 (by decide) ?_
        refine lv_imul (pc := 22) hx hb dX6_readNumber_22 ?_
        refine lv_aload_n (pc := 23) hx hb dX6_readNumber_23 rfl (lv_at hl 0 rfl) ?_
        obtain ⟨v9, ev, hs⟩ := q_cal hs
        refine q_callV (pc := 24) (q := 34) (As := []) (rest := [.int (x1 * (iI 10))]) (rs := [.int v9, .int (x1 * (iI 10))]) hx hb hml hl.1 hts hown hK hSt hN hw (c_X6_peek l G h3 v9 ev) rfl rfl cv_X6_60 (rm_ok hR (by decide)) rfl (Nat.le_of_ble_eq_true rfl) rfl rfl dX6_readNumber_24 (fun H locs hw => ?_)
        refine lv_iadd (pc := 27) hx hb dX6_readNumber_27 ?_
        refine lv_bipush (pc := 28) (v := (iI 48)) hx hb dX6_readNumber_28 (by decide) ?_
        refine lv_isub (pc := 30) hx hb dX6_readNumber_30 ?_
        obtain ⟨x10, ex10, hs⟩ := q_nm hs
        refine q_topI ex10 ?_
        refine lv_istore_n (pc := 31) (lv' := [(1, .int x10), (0, .ref (G.2.2.1 34)), (2, .int x2)]) hx hb dX6_readNumber_31 rfl hl (by decide) rfl (fun ls hl => ?_)
        refine lv_aload_n (pc := 32) hx hb dX6_readNumber_32 rfl (lv_at hl 1 rfl) ?_
        refine lv_dup (pc := 33) hx hb dX6_readNumber_33 rfl ?_
        refine q_getI (pc := 34) (q := 34) hx hb hts hown hK hw rfl fg_X6_25 dX6_readNumber_34 ?_
        refine lv_iconst (pc := 37) (v := (iI 1)) hx hb dX6_readNumber_37 rfl ?_
        refine lv_iadd (pc := 38) hx hb dX6_readNumber_38 ?_
        refine q_putI (pc := 39) (q := 34) hx hb hts hown hK hw rfl fp_X6_25 dX6_readNumber_39 hs (fun h11 H locs hw hs => ?_)
        obtain ⟨x12, ex12, hs⟩ := q_nm hs
        refine lv_iinc (pc := 42) (v := x12) (lv' := [(2, .int x12), (1, .int x10), (0, .ref (G.2.2.1 34))]) hx hb dX6_readNumber_42 hl (k := 2) rfl ex12 (by decide) rfl (fun ls hl => ?_)
        refine lv_goto (pc := 45) (tgt := 4) hx hb dX6_readNumber_45 (by decide) ?_
        exact hK4 _ _ _ hs _ _ hw _ (lv_sub hl [2, 1, 0] rfl)

set_option maxHeartbeats 4000000 in
theorem c_X6_readName (l : Launch) (G : GG) (a1 : Int32) (h : Mem) (h' : Mem) (hs : f_X6_readName h a1 = some h') : Sat l G yX6_readName cX6_readName 4 none 1 [.ref (G.2.2.1 34), .int a1] h none h' := by
  refine Sat.mkV (by decide) (Nat.le_of_ble_eq_true rfl) ?_
  intro p e R s m args below meth c Q F hret hw ls hl
  obtain ⟨hx, hb, hml, hown, hts, hK, hSt, hN, hR⟩ := F
  have hl : lv_has ls 4 [(0, .ref (G.2.2.1 34)), (1, .int a1)] := hl
  unfold f_X6_readName at hs
  refine lv_iconst (pc := 0) (v := (iI 0)) hx hb dX6_readName_0 rfl ?_
  refine lv_istore_n (pc := 1) (lv' := [(2, .int (iI 0)), (0, .ref (G.2.2.1 34)), (1, .int a1)]) hx hb dX6_readName_1 rfl hl (by decide) rfl (fun ls hl => ?_)
  refine (q_lo1 (P0 := fun (x1 : Int32) => ∀ (H : Heap) (locs : List Loc), IW G s h H locs → ∀ ls : Array Slot, lv_has ls 4 [(0, .ref (G.2.2.1 34)), (1, .int a1), (2, .int x1)] → W p l e R s m args below meth c H locs 0 0 Q (F0 m 2 ls [])) hs ?_) _ _ hw _ (lv_sub hl [1, 2, 0] rfl)
  intro K2 hK2 x1 hs H locs hw ls hl
  unfold f_X6_readName_k2 at hs
  refine lv_iload_n (pc := 2) hx hb dX6_readName_2 rfl (lv_at hl 2 rfl) ?_
  refine lv_iconst (pc := 3) (v := (iI 3)) hx hb dX6_readName_3 rfl ?_
  refine lv_icmp_ge (pc := 4) (tgt := 63) hx hb dX6_readName_4 (by decide) (fun hc => ?_) (fun hc => ?_)
  · replace hs := q_t hc hs
    refine lv_aload_n (pc := 63) hx hb dX6_readName_63 rfl (lv_at hl 0 rfl) ?_
    refine lv_iconst (pc := 64) (v := (iI 1)) hx hb dX6_readName_64 rfl ?_
    refine q_putZ (pc := 65) (q := 34) hx hb hts hown hK hw rfl fp_X6_31 dX6_readName_65 hs (fun h3 H locs hw hs => ?_)
    exact q_vret hret dX6_readName_68 hw hs
  · replace hs := q_f hc hs
    refine lv_aload_n (pc := 7) hx hb dX6_readName_7 rfl (lv_at hl 0 rfl) ?_
    refine q_getI (pc := 8) (q := 34) hx hb hts hown hK hw rfl fg_X6_28 dX6_readName_8 ?_
    refine lv_iconst (pc := 11) (v := (iI 3)) hx hb dX6_readName_11 rfl ?_
    refine lv_imul (pc := 12) hx hb dX6_readName_12 ?_
    refine lv_iload_n (pc := 13) hx hb dX6_readName_13 rfl (lv_at hl 2 rfl) ?_
    refine lv_iadd (pc := 14) hx hb dX6_readName_14 ?_
    obtain ⟨x4, ex4, hs⟩ := q_nm hs
    refine q_topI ex4 ?_
    refine lv_istore_n (pc := 15) (lv' := [(3, .int x4), (0, .ref (G.2.2.1 34)), (1, .int a1), (2, .int x1)]) hx hb dX6_readName_15 rfl hl (by decide) rfl (fun ls hl => ?_)
    refine lv_iload_n (pc := 16) hx hb dX6_readName_16 rfl (lv_at hl 0 rfl) ?_
    refine lv_iconst (pc := 17) (v := (iI 0)) hx hb dX6_readName_17 rfl ?_
    refine q_gets (pc := 18) hx hb hts hown hw hSt.2.1.1 fs_X6_88 dX6_readName_18 ?_
    refine q_tlen (pc := 21) hx hb hw hSt.2.1.2 dX6_readName_21 ?_
    refine lv_iconst (pc := 22) (v := (iI 1)) hx hb dX6_readName_22 rfl ?_
    refine lv_isub (pc := 23) hx hb dX6_readName_23 ?_
    obtain ⟨v5, ev, hs⟩ := q_cal hs
    refine q_callN (pc := 24) (As := [.int x4, .int (iI 0), .int ((Int32.ofNat 6) - (iI 1))]) (rest := []) (rs := [.int v5]) hx hb hml hl.1 hts hown hK hSt hN hw (c_X10_within l G x4 (iI 0) ((Int32.ofNat 6) - (iI 1)) h v5 ev) cn_X6_92 (rm_ok hR (by decide)) rfl (Nat.le_of_ble_eq_true rfl) rfl rfl dX6_readName_24 (fun H locs hw => ?_)
    refine q_join0 (P0 := ∀ (H : Heap) (locs : List Loc), IW G s h H locs → ∀ ls : Array Slot, lv_has ls 4 [(0, .ref (G.2.2.1 34)), (1, .int a1), (2, .int x1)] → W p l e R s m args below meth c H locs 0 0 Q (F0 m 57 ls [])) hs ?_ ?_
    · intro  hs H locs hw ls hl
      obtain ⟨x7, ex7, hs⟩ := q_nm hs
      refine lv_iinc (pc := 57) (v := x7) (lv' := [(2, .int x7), (0, .ref (G.2.2.1 34)), (1, .int a1)]) hx hb dX6_readName_57 hl (k := 2) rfl ex7 (by decide) rfl (fun ls hl => ?_)
      refine lv_goto (pc := 60) (tgt := 2) hx hb dX6_readName_60 (by decide) ?_
      exact hK2 _ hs _ _ hw _ (lv_sub hl [1, 2, 0] rfl)
    · intro K6 hK6 hs
      refine lv_if_eq (pc := 27) (tgt := 57) hx hb dX6_readName_27 (by decide) (fun hc => ?_) (fun hc => ?_)
      · replace hs := q_t hc hs
        exact hK6 hs _ _ hw _ (lv_sub hl [1, 2, 3] rfl)
      · replace hs := q_f hc hs
        refine q_gets (pc := 30) hx hb hts hown hw hSt.2.1.1 fs_X6_88 dX6_readName_30 ?_
        refine lv_iload_n (pc := 33) hx hb dX6_readName_33 rfl (lv_at hl 0 rfl) ?_
        refine q_tldC (pc := 34) hx hb hw hSt.2.1.2 dX6_readName_34 hs (fun v8 hs => ?_)
        refine lv_iload_n (pc := 35) hx hb dX6_readName_35 rfl (lv_at hl 2 rfl) ?_
        refine lv_icmp_ne (pc := 36) (tgt := 57) hx hb dX6_readName_36 (by decide) (fun hc => ?_) (fun hc => ?_)
        · replace hs := q_t hc hs
          exact hK6 hs _ _ hw _ (lv_sub hl [1, 2, 3] rfl)
        · replace hs := q_f (fun z => z hc) hs
          refine lv_aload_n (pc := 39) hx hb dX6_readName_39 rfl (lv_at hl 1 rfl) ?_
          refine lv_dup (pc := 40) hx hb dX6_readName_40 rfl ?_
          refine q_getI (pc := 41) (q := 34) hx hb hts hown hK hw rfl fg_X6_25 dX6_readName_41 ?_
          refine lv_iconst (pc := 44) (v := (iI 1)) hx hb dX6_readName_44 rfl ?_
          refine lv_iadd (pc := 45) hx hb dX6_readName_45 ?_
          refine q_putI (pc := 46) (q := 34) hx hb hts hown hK hw rfl fp_X6_25 dX6_readName_46 hs (fun h9 H locs hw hs => ?_)
          refine lv_aload_n (pc := 49) hx hb dX6_readName_49 rfl (lv_at hl 1 rfl) ?_
          refine lv_iconst (pc := 50) (v := (iI (-1))) hx hb dX6_readName_50 rfl ?_
          refine lv_iload_n (pc := 51) hx hb dX6_readName_51 rfl (lv_at hl 3 rfl) ?_
          refine lv_isub (pc := 52) hx hb dX6_readName_52 ?_
          obtain ⟨h10, ev, hs⟩ := q_cal hs
          refine q_callV (pc := 53) (q := 34) (As := [.int ((iI (-1)) - x1)]) (rest := []) (rs := []) hx hb hml hl.1 hts hown hK hSt hN hw (c_X6_write l G ((iI (-1)) - x1) h9 h10 ev) rfl rfl cv_X6_68 (rm_ok hR (by decide)) rfl (Nat.le_of_ble_eq_true rfl) rfl rfl dX6_readName_53 (fun H locs hw => ?_)
          exact q_vret hret dX6_readName_56 hw hs

def RC_READ (l : Launch) (G : GG) (rec : Nat → Int32 → Int32 → Mem → Option Mem) (d : Nat) : Prop :=
  (∀ (a1 : Int32) (a2 : Int32) (h : Mem) (h' : Mem), rec 0 a1 a2 h = some h' → Sat l G yX6_readJoined cX6_readJoined 5 none d [.ref (G.2.2.1 34), .int a1, .int a2] h none h') ∧
  (∀ (a1 : Int32) (a2 : Int32) (h : Mem) (h' : Mem), rec 1 a1 a2 h = some h' → Sat l G yX6_readPart cX6_readPart 3 none d [.ref (G.2.2.1 34), .int a1, .int a2] h none h') ∧
  (∀ (a1 : Int32) (h : Mem) (h' : Mem), rec 2 a1 (iI 0) h = some h' → Sat l G yX6_readLeaf cX6_readLeaf 3 none d [.ref (G.2.2.1 34), .int a1] h none h') ∧
  (∀ (a1 : Int32) (a2 : Int32) (h : Mem) (h' : Mem), rec 3 a1 a2 h = some h' → Sat l G yX6_readOpened cX6_readOpened 3 none d [.ref (G.2.2.1 34), .int a1, .int a2] h none h')

set_option maxHeartbeats 4000000 in
theorem cb_X6_readJoined (l : Launch) (G : GG) (d : Nat) (rec : Nat → Int32 → Int32 → Mem → Option Mem) (hrec : RC_READ l G rec d) (hd : 2 ≤ d) (a1 : Int32) (a2 : Int32) (h : Mem) (h' : Mem) (hs : b_X6_readJoined rec a1 a2 h = some h') : Sat l G yX6_readJoined cX6_readJoined 5 none (d + 1) [.ref (G.2.2.1 34), .int a1, .int a2] h none h' := by
  refine Sat.mkV (by decide) (Nat.le_of_ble_eq_true rfl) ?_
  intro p e R s m args below meth c Q F hret hw ls hl
  obtain ⟨hx, hb, hml, hown, hts, hK, hSt, hN, hR⟩ := F
  have hl : lv_has ls 5 [(0, .ref (G.2.2.1 34)), (1, .int a1), (2, .int a2)] := hl
  unfold b_X6_readJoined at hs
  refine lv_aload_n (pc := 0) hx hb dX6_readJoined_0 rfl (lv_at hl 0 rfl) ?_
  refine lv_iload_n (pc := 1) hx hb dX6_readJoined_1 rfl (lv_at hl 1 rfl) ?_
  refine lv_iconst (pc := 2) (v := (iI 1)) hx hb dX6_readJoined_2 rfl ?_
  refine lv_iadd (pc := 3) hx hb dX6_readJoined_3 ?_
  refine lv_iload_n (pc := 4) hx hb dX6_readJoined_4 rfl (lv_at hl 2 rfl) ?_
  obtain ⟨h1, ev, hs⟩ := q_cal hs
  refine q_callV (pc := 5) (q := 34) (As := [.int (a1 + (iI 1)), .int a2]) (rest := []) (rs := []) hx hb hml hl.1 hts hown hK hSt hN hw (hrec.2.1 (a1 + (iI 1)) a2 h h1 ev) rfl rfl cv_X6_57 (rm_ok hR (by omega)) rfl (Nat.le_of_ble_eq_true rfl) rfl rfl dX6_readJoined_5 (fun H locs hw => ?_)
  refine lv_iconst (pc := 8) (v := (iI 0)) hx hb dX6_readJoined_8 rfl ?_
  refine lv_istore_n (pc := 9) (lv' := [(3, .int (iI 0)), (0, .ref (G.2.2.1 34)), (1, .int a1), (2, .int a2)]) hx hb dX6_readJoined_9 rfl hl (by decide) rfl (fun ls hl => ?_)
  refine (q_lo2 (P0 := fun (x2 : Int32) (h3 : Mem) => ∀ (H : Heap) (locs : List Loc), IW G s h3 H locs → ∀ ls : Array Slot, lv_has ls 5 [(0, .ref (G.2.2.1 34)), (1, .int a1), (2, .int a2), (3, .int x2)] → W p l e R s m args below meth c H locs 0 0 Q (F0 m 10 ls [])) hs ?_) _ _ hw _ (lv_sub hl [1, 2, 3, 0] rfl)
  intro K4 hK4 x2 h3 hs H locs hw ls hl
  unfold b_X6_readJoined_k4 at hs
  refine lv_iload_n (pc := 10) hx hb dX6_readJoined_10 rfl (lv_at hl 3 rfl) ?_
  refine lv_aload_n (pc := 11) hx hb dX6_readJoined_11 rfl (lv_at hl 0 rfl) ?_
  refine q_getI (pc := 12) (q := 34) hx hb hts hown hK hw rfl fg_X6_22 dX6_readJoined_12 ?_
  refine lv_icmp_ge (pc := 15) (tgt := 82) hx hb dX6_readJoined_15 (by decide) (fun hc => ?_) (fun hc => ?_)
  · replace hs := q_t hc hs
    exact q_vret hret dX6_readJoined_82 hw hs
  · replace hs := q_f hc hs
    refine lv_aload_n (pc := 18) hx hb dX6_readJoined_18 rfl (lv_at hl 0 rfl) ?_
    refine q_getI (pc := 19) (q := 34) hx hb hts hown hK hw rfl fg_X6_31 dX6_readJoined_19 ?_
    refine lv_if_ne (pc := 22) (tgt := 82) hx hb dX6_readJoined_22 (by decide) (fun hc => ?_) (fun hc => ?_)
    · replace hs := q_t hc hs
      exact q_vret hret dX6_readJoined_82 hw hs
    · replace hs := q_f (fun z => z hc) hs
      refine lv_iload_n (pc := 25) hx hb dX6_readJoined_25 rfl (lv_at hl 1 rfl) ?_
      refine lv_aload_n (pc := 26) hx hb dX6_readJoined_26 rfl (lv_at hl 0 rfl) ?_
      obtain ⟨v5, ev, hs⟩ := q_cal hs
      refine q_callV (pc := 27) (q := 34) (As := []) (rest := [.int a1]) (rs := [.int v5, .int a1]) hx hb hml hl.1 hts hown hK hSt hN hw (c_X6_peek l G h3 v5 ev) rfl rfl cv_X6_60 (rm_ok hR (by omega)) rfl (Nat.le_of_ble_eq_true rfl) rfl rfl dX6_readJoined_27 (fun H locs hw => ?_)
      obtain ⟨v6, ev, hs⟩ := q_cal hs
      refine q_callS (pc := 30) (As := [.int a1, .int v5]) (rest := []) (rs := [.int v6]) hx hb hml hl.1 hts hown hK hSt hN hw (c_X6_joinsAt l G a1 v5 h3 v6 ev) cs_X6_64 (rm_ok hR (by omega)) rfl (Nat.le_of_ble_eq_true rfl) rfl rfl dX6_readJoined_30 (fun H locs hw => ?_)
      refine lv_if_eq (pc := 33) (tgt := 82) hx hb dX6_readJoined_33 (by decide) (fun hc => ?_) (fun hc => ?_)
      · replace hs := q_t hc hs
        exact q_vret hret dX6_readJoined_82 hw hs
      · replace hs := q_f hc hs
        refine lv_aload_n (pc := 36) hx hb dX6_readJoined_36 rfl (lv_at hl 0 rfl) ?_
        obtain ⟨v7, ev, hs⟩ := q_cal hs
        refine q_callV (pc := 37) (q := 34) (As := []) (rest := []) (rs := [.int v7]) hx hb hml hl.1 hts hown hK hSt hN hw (c_X6_peek l G h3 v7 ev) rfl rfl cv_X6_60 (rm_ok hR (by omega)) rfl (Nat.le_of_ble_eq_true rfl) rfl rfl dX6_readJoined_37 (fun H locs hw => ?_)
        refine lv_istore (pc := 40) (lv' := [(4, .int v7), (0, .ref (G.2.2.1 34)), (1, .int a1), (2, .int a2), (3, .int x2)]) hx hb dX6_readJoined_40 hl (by decide) rfl (fun ls hl => ?_)
        refine lv_aload_n (pc := 42) hx hb dX6_readJoined_42 rfl (lv_at hl 1 rfl) ?_
        refine lv_dup (pc := 43) hx hb dX6_readJoined_43 rfl ?_
        refine q_getI (pc := 44) (q := 34) hx hb hts hown hK hw rfl fg_X6_25 dX6_readJoined_44 ?_
        refine lv_iconst (pc := 47) (v := (iI 1)) hx hb dX6_readJoined_47 rfl ?_
        refine lv_iadd (pc := 48) hx hb dX6_readJoined_48 ?_
        refine q_putI (pc := 49) (q := 34) hx hb hts hown hK hw rfl fp_X6_25 dX6_readJoined_49 hs (fun h8 H locs hw hs => ?_)
        refine lv_aload_n (pc := 52) hx hb dX6_readJoined_52 rfl (lv_at hl 1 rfl) ?_
        refine lv_iload_n (pc := 53) hx hb dX6_readJoined_53 rfl (lv_at hl 2 rfl) ?_
        refine lv_iconst (pc := 54) (v := (iI 1)) hx hb dX6_readJoined_54 rfl ?_
        refine lv_iadd (pc := 55) hx hb dX6_readJoined_55 ?_
        refine lv_iload_n (pc := 56) hx hb dX6_readJoined_56 rfl (lv_at hl 3 rfl) ?_
        obtain ⟨h9, ev, hs⟩ := q_cal hs
        refine q_callV (pc := 57) (q := 34) (As := [.int (a1 + (iI 1)), .int a2]) (rest := []) (rs := []) hx hb hml hl.1 hts hown hK hSt hN hw (hrec.2.1 (a1 + (iI 1)) a2 h8 h9 ev) rfl rfl cv_X6_57 (rm_ok hR (by omega)) rfl (Nat.le_of_ble_eq_true rfl) rfl rfl dX6_readJoined_57 (fun H locs hw => ?_)
        refine lv_aload_n (pc := 60) hx hb dX6_readJoined_60 rfl (lv_at hl 1 rfl) ?_
        refine lv_sipush (pc := 61) (v := (iI 10000)) hx hb dX6_readJoined_61 (by decide) ?_
        refine lv_iload (pc := 64) hx hb dX6_readJoined_64 (lv_at hl 0 rfl) ?_
        refine lv_iadd (pc := 66) hx hb dX6_readJoined_66 ?_
        obtain ⟨h10, ev, hs⟩ := q_cal hs
        refine q_callV (pc := 67) (q := 34) (As := [.int ((iI 10000) + v7)]) (rest := []) (rs := []) hx hb hml hl.1 hts hown hK hSt hN hw (c_X6_write l G ((iI 10000) + v7) h9 h10 ev) rfl rfl cv_X6_68 (rm_ok hR (by omega)) rfl (Nat.le_of_ble_eq_true rfl) rfl rfl dX6_readJoined_67 (fun H locs hw => ?_)
        refine lv_iload_n (pc := 70) hx hb dX6_readJoined_70 rfl (lv_at hl 2 rfl) ?_
        refine lv_iconst (pc := 71) (v := (iI 2)) hx hb dX6_readJoined_71 rfl ?_
        refine lv_icmp_ne (pc := 72) (tgt := 76) hx hb dX6_readJoined_72 (by decide) (fun hc => ?_) (fun hc => ?_)
        · replace hs := q_t hc hs
          obtain ⟨x11, ex11, hs⟩ := q_nm hs
          refine lv_iinc (pc := 76) (v := x11) (lv' := [(3, .int x11), (4, .int v7), (0, .ref (G.2.2.1 34)), (1, .int a1), (2, .int a2)]) hx hb dX6_readJoined_76 hl (k := 4) rfl ex11 (by decide) rfl (fun ls hl => ?_)
          refine lv_goto (pc := 79) (tgt := 10) hx hb dX6_readJoined_79 (by decide) ?_
          exact hK4 _ _ hs _ _ hw _ (lv_sub hl [2, 3, 4, 0] rfl)
        · replace hs := q_f (fun z => z hc) hs
          exact q_vret hret dX6_readJoined_75 hw hs

set_option maxHeartbeats 4000000 in
theorem cb_X6_readPart (l : Launch) (G : GG) (d : Nat) (rec : Nat → Int32 → Int32 → Mem → Option Mem) (hrec : RC_READ l G rec d) (hd : 2 ≤ d) (a1 : Int32) (a2 : Int32) (h : Mem) (h' : Mem) (hs : b_X6_readPart rec a1 a2 h = some h') : Sat l G yX6_readPart cX6_readPart 3 none (d + 1) [.ref (G.2.2.1 34), .int a1, .int a2] h none h' := by
  refine Sat.mkV (by decide) (Nat.le_of_ble_eq_true rfl) ?_
  intro p e R s m args below meth c Q F hret hw ls hl
  obtain ⟨hx, hb, hml, hown, hts, hK, hSt, hN, hR⟩ := F
  have hl : lv_has ls 3 [(0, .ref (G.2.2.1 34)), (1, .int a1), (2, .int a2)] := hl
  unfold b_X6_readPart at hs
  refine lv_iload_n (pc := 0) hx hb dX6_readPart_0 rfl (lv_at hl 1 rfl) ?_
  refine lv_iconst (pc := 1) (v := (iI 4)) hx hb dX6_readPart_1 rfl ?_
  refine lv_icmp_le (pc := 2) (tgt := 13) hx hb dX6_readPart_2 (by decide) (fun hc => ?_) (fun hc => ?_)
  · replace hs := q_t hc hs
    refine lv_aload_n (pc := 13) hx hb dX6_readPart_13 rfl (lv_at hl 0 rfl) ?_
    refine lv_iload_n (pc := 14) hx hb dX6_readPart_14 rfl (lv_at hl 1 rfl) ?_
    refine lv_iload_n (pc := 15) hx hb dX6_readPart_15 rfl (lv_at hl 2 rfl) ?_
    obtain ⟨h1, ev, hs⟩ := q_cal hs
    refine q_callV (pc := 16) (q := 34) (As := [.int a1, .int a2]) (rest := []) (rs := []) hx hb hml hl.1 hts hown hK hSt hN hw (hrec.1 a1 a2 h h1 ev) rfl rfl cv_X6_53 (rm_ok hR (by omega)) rfl (Nat.le_of_ble_eq_true rfl) rfl rfl dX6_readPart_16 (fun H locs hw => ?_)
    exact q_vret hret dX6_readPart_19 hw hs
  · replace hs := q_f hc hs
    refine lv_aload_n (pc := 5) hx hb dX6_readPart_5 rfl (lv_at hl 0 rfl) ?_
    refine lv_iload_n (pc := 6) hx hb dX6_readPart_6 rfl (lv_at hl 2 rfl) ?_
    obtain ⟨h2, ev, hs⟩ := q_cal hs
    refine q_callV (pc := 7) (q := 34) (As := [.int a2]) (rest := []) (rs := []) hx hb hml hl.1 hts hown hK hSt hN hw (hrec.2.2.1 a2 h h2 ev) rfl rfl cv_X6_72 (rm_ok hR (by omega)) rfl (Nat.le_of_ble_eq_true rfl) rfl rfl dX6_readPart_7 (fun H locs hw => ?_)
    refine lv_goto (pc := 10) (tgt := 19) hx hb dX6_readPart_10 (by decide) ?_
    exact q_vret hret dX6_readPart_19 hw hs

set_option maxHeartbeats 4000000 in
theorem cb_X6_readLeaf (l : Launch) (G : GG) (d : Nat) (rec : Nat → Int32 → Int32 → Mem → Option Mem) (hrec : RC_READ l G rec d) (hd : 2 ≤ d) (a1 : Int32) (h : Mem) (h' : Mem) (hs : b_X6_readLeaf rec a1 h = some h') : Sat l G yX6_readLeaf cX6_readLeaf 3 none (d + 1) [.ref (G.2.2.1 34), .int a1] h none h' := by
  refine Sat.mkV (by decide) (Nat.le_of_ble_eq_true rfl) ?_
  intro p e R s m args below meth c Q F hret hw ls hl
  obtain ⟨hx, hb, hml, hown, hts, hK, hSt, hN, hR⟩ := F
  have hl : lv_has ls 3 [(0, .ref (G.2.2.1 34)), (1, .int a1)] := hl
  unfold b_X6_readLeaf at hs
  refine lv_aload_n (pc := 0) hx hb dX6_readLeaf_0 rfl (lv_at hl 0 rfl) ?_
  obtain ⟨v1, ev, hs⟩ := q_cal hs
  refine q_callV (pc := 1) (q := 34) (As := []) (rest := []) (rs := [.int v1]) hx hb hml hl.1 hts hown hK hSt hN hw (c_X6_peek l G h v1 ev) rfl rfl cv_X6_60 (rm_ok hR (by omega)) rfl (Nat.le_of_ble_eq_true rfl) rfl rfl dX6_readLeaf_1 (fun H locs hw => ?_)
  refine lv_istore_n (pc := 4) (lv' := [(2, .int v1), (0, .ref (G.2.2.1 34)), (1, .int a1)]) hx hb dX6_readLeaf_4 rfl hl (by decide) rfl (fun ls hl => ?_)
  refine lv_iload_n (pc := 5) hx hb dX6_readLeaf_5 rfl (lv_at hl 0 rfl) ?_
  obtain ⟨v2, ev, hs⟩ := q_cal hs
  refine q_callS (pc := 6) (As := [.int v1]) (rest := []) (rs := [.int v2]) hx hb hml hl.1 hts hown hK hSt hN hw (c_X6_isDigit l G v1 h v2 ev) cs_X6_75 (rm_ok hR (by omega)) rfl (Nat.le_of_ble_eq_true rfl) rfl rfl dX6_readLeaf_6 (fun H locs hw => ?_)
  refine lv_if_eq (pc := 9) (tgt := 19) hx hb dX6_readLeaf_9 (by decide) (fun hc => ?_) (fun hc => ?_)
  · replace hs := q_t hc hs
    refine lv_iload_n (pc := 19) hx hb dX6_readLeaf_19 rfl (lv_at hl 0 rfl) ?_
    refine lv_bipush (pc := 20) (v := (iI 33)) hx hb dX6_readLeaf_20 (by decide) ?_
    refine q_join0 (P0 := ∀ (H : Heap) (locs : List Loc), IW G s h H locs → ∀ ls : Array Slot, lv_has ls 3 [(0, .ref (G.2.2.1 34)), (1, .int a1), (2, .int v1)] → W p l e R s m args below meth c H locs 0 0 Q (F0 m 31 ls [])) hs ?_ ?_
    · intro  hs H locs hw ls hl
      refine lv_aload_n (pc := 31) hx hb dX6_readLeaf_31 rfl (lv_at hl 0 rfl) ?_
      refine lv_iload_n (pc := 32) hx hb dX6_readLeaf_32 rfl (lv_at hl 2 rfl) ?_
      refine lv_iload_n (pc := 33) hx hb dX6_readLeaf_33 rfl (lv_at hl 1 rfl) ?_
      obtain ⟨h4, ev, hs⟩ := q_cal hs
      refine q_callV (pc := 34) (q := 34) (As := [.int v1, .int a1]) (rest := []) (rs := []) hx hb hml hl.1 hts hown hK hSt hN hw (hrec.2.2.2 v1 a1 h h4 ev) rfl rfl cv_X6_82 (rm_ok hR (by omega)) rfl (Nat.le_of_ble_eq_true rfl) rfl rfl dX6_readLeaf_34 (fun H locs hw => ?_)
      refine lv_goto (pc := 37) (tgt := 45) hx hb dX6_readLeaf_37 (by decide) ?_
      exact q_vret hret dX6_readLeaf_45 hw hs
    · intro K3 hK3 hs
      refine lv_icmp_eq (pc := 22) (tgt := 31) hx hb dX6_readLeaf_22 (by decide) (fun hc => ?_) (fun hc => ?_)
      · replace hs := q_t hc hs
        exact hK3 hs _ _ hw _ (lv_sub hl [1, 2, 0] rfl)
      · replace hs := q_f hc hs
        refine lv_iload_n (pc := 25) hx hb dX6_readLeaf_25 rfl (lv_at hl 0 rfl) ?_
        refine lv_bipush (pc := 26) (v := (iI 40)) hx hb dX6_readLeaf_26 (by decide) ?_
        refine lv_icmp_ne (pc := 28) (tgt := 40) hx hb dX6_readLeaf_28 (by decide) (fun hc => ?_) (fun hc => ?_)
        · replace hs := q_t hc hs
          refine lv_aload_n (pc := 40) hx hb dX6_readLeaf_40 rfl (lv_at hl 1 rfl) ?_
          refine lv_iload_n (pc := 41) hx hb dX6_readLeaf_41 rfl (lv_at hl 0 rfl) ?_
          obtain ⟨h5, ev, hs⟩ := q_cal hs
          refine q_callV (pc := 42) (q := 34) (As := [.int v1]) (rest := []) (rs := []) hx hb hml hl.1 hts hown hK hSt hN hw (c_X6_readName l G v1 h h5 ev) rfl rfl cv_X6_85 (rm_ok hR (by omega)) rfl (Nat.le_of_ble_eq_true rfl) rfl rfl dX6_readLeaf_42 (fun H locs hw => ?_)
          exact q_vret hret dX6_readLeaf_45 hw hs
        · replace hs := q_f (fun z => z hc) hs
          exact hK3 hs _ _ hw _ (lv_sub hl [1, 2, 0] rfl)
  · replace hs := q_f hc hs
    refine lv_aload_n (pc := 12) hx hb dX6_readLeaf_12 rfl (lv_at hl 1 rfl) ?_
    obtain ⟨h6, ev, hs⟩ := q_cal hs
    refine q_callV (pc := 13) (q := 34) (As := []) (rest := []) (rs := []) hx hb hml hl.1 hts hown hK hSt hN hw (c_X6_readNumber l G h h6 ev) rfl rfl cv_X6_79 (rm_ok hR (by omega)) rfl (Nat.le_of_ble_eq_true rfl) rfl rfl dX6_readLeaf_13 (fun H locs hw => ?_)
    refine lv_goto (pc := 16) (tgt := 45) hx hb dX6_readLeaf_16 (by decide) ?_
    exact q_vret hret dX6_readLeaf_45 hw hs

set_option maxHeartbeats 4000000 in
theorem cb_X6_readOpened (l : Launch) (G : GG) (d : Nat) (rec : Nat → Int32 → Int32 → Mem → Option Mem) (hrec : RC_READ l G rec d) (hd : 2 ≤ d) (a1 : Int32) (a2 : Int32) (h : Mem) (h' : Mem) (hs : b_X6_readOpened rec a1 a2 h = some h') : Sat l G yX6_readOpened cX6_readOpened 3 none (d + 1) [.ref (G.2.2.1 34), .int a1, .int a2] h none h' := by
  refine Sat.mkV (by decide) (Nat.le_of_ble_eq_true rfl) ?_
  intro p e R s m args below meth c Q F hret hw ls hl
  obtain ⟨hx, hb, hml, hown, hts, hK, hSt, hN, hR⟩ := F
  have hl : lv_has ls 3 [(0, .ref (G.2.2.1 34)), (1, .int a1), (2, .int a2)] := hl
  unfold b_X6_readOpened at hs
  refine lv_iload_n (pc := 0) hx hb dX6_readOpened_0 rfl (lv_at hl 2 rfl) ?_
  refine lv_iconst (pc := 1) (v := (iI 5)) hx hb dX6_readOpened_1 rfl ?_
  refine lv_icmp_lt (pc := 2) (tgt := 11) hx hb dX6_readOpened_2 (by decide) (fun hc => ?_) (fun hc => ?_)
  · replace hs := q_t hc hs
    refine lv_aload_n (pc := 11) hx hb dX6_readOpened_11 rfl (lv_at hl 0 rfl) ?_
    refine lv_dup (pc := 12) hx hb dX6_readOpened_12 rfl ?_
    refine q_getI (pc := 13) (q := 34) hx hb hts hown hK hw rfl fg_X6_25 dX6_readOpened_13 ?_
    refine lv_iconst (pc := 16) (v := (iI 1)) hx hb dX6_readOpened_16 rfl ?_
    refine lv_iadd (pc := 17) hx hb dX6_readOpened_17 ?_
    refine q_putI (pc := 18) (q := 34) hx hb hts hown hK hw rfl fp_X6_25 dX6_readOpened_18 hs (fun h1 H locs hw hs => ?_)
    refine lv_iload_n (pc := 21) hx hb dX6_readOpened_21 rfl (lv_at hl 1 rfl) ?_
    refine lv_bipush (pc := 22) (v := (iI 33)) hx hb dX6_readOpened_22 (by decide) ?_
    refine lv_icmp_ne (pc := 24) (tgt := 44) hx hb dX6_readOpened_24 (by decide) (fun hc => ?_) (fun hc => ?_)
    · replace hs := q_t hc hs
      refine lv_aload_n (pc := 44) hx hb dX6_readOpened_44 rfl (lv_at hl 0 rfl) ?_
      refine lv_iconst (pc := 45) (v := (iI 0)) hx hb dX6_readOpened_45 rfl ?_
      refine lv_iload_n (pc := 46) hx hb dX6_readOpened_46 rfl (lv_at hl 2 rfl) ?_
      refine lv_iconst (pc := 47) (v := (iI 1)) hx hb dX6_readOpened_47 rfl ?_
      refine lv_iadd (pc := 48) hx hb dX6_readOpened_48 ?_
      obtain ⟨h2, ev, hs⟩ := q_cal hs
      refine q_callV (pc := 49) (q := 34) (As := [.int (iI 0), .int (a2 + (iI 1))]) (rest := []) (rs := []) hx hb hml hl.1 hts hown hK hSt hN hw (hrec.1 (iI 0) (a2 + (iI 1)) h1 h2 ev) rfl rfl cv_X6_53 (rm_ok hR (by omega)) rfl (Nat.le_of_ble_eq_true rfl) rfl rfl dX6_readOpened_49 (fun H locs hw => ?_)
      refine lv_aload_n (pc := 52) hx hb dX6_readOpened_52 rfl (lv_at hl 0 rfl) ?_
      refine q_getI (pc := 53) (q := 34) hx hb hts hown hK hw rfl fg_X6_31 dX6_readOpened_53 ?_
      refine q_join0 (P0 := ∀ (H : Heap) (locs : List Loc), IW G s h2 H locs → ∀ ls : Array Slot, lv_has ls 3 [(0, .ref (G.2.2.1 34))] → W p l e R s m args below meth c H locs 0 0 Q (F0 m 68 ls [])) hs ?_ ?_
      · intro  hs H locs hw ls hl
        refine lv_aload_n (pc := 68) hx hb dX6_readOpened_68 rfl (lv_at hl 0 rfl) ?_
        refine lv_iconst (pc := 69) (v := (iI 1)) hx hb dX6_readOpened_69 rfl ?_
        refine q_putZ (pc := 70) (q := 34) hx hb hts hown hK hw rfl fp_X6_31 dX6_readOpened_70 hs (fun h4 H locs hw hs => ?_)
        exact q_vret hret dX6_readOpened_73 hw hs
      · intro K3 hK3 hs
        refine lv_if_ne (pc := 56) (tgt := 68) hx hb dX6_readOpened_56 (by decide) (fun hc => ?_) (fun hc => ?_)
        · replace hs := q_t hc hs
          exact hK3 hs _ _ hw _ (lv_sub hl [0] rfl)
        · replace hs := q_f (fun z => z hc) hs
          refine lv_aload_n (pc := 59) hx hb dX6_readOpened_59 rfl (lv_at hl 0 rfl) ?_
          obtain ⟨v5, ev, hs⟩ := q_cal hs
          refine q_callV (pc := 60) (q := 34) (As := []) (rest := []) (rs := [.int v5]) hx hb hml hl.1 hts hown hK hSt hN hw (c_X6_peek l G h2 v5 ev) rfl rfl cv_X6_60 (rm_ok hR (by omega)) rfl (Nat.le_of_ble_eq_true rfl) rfl rfl dX6_readOpened_60 (fun H locs hw => ?_)
          refine lv_bipush (pc := 63) (v := (iI 41)) hx hb dX6_readOpened_63 (by decide) ?_
          refine lv_icmp_eq (pc := 65) (tgt := 74) hx hb dX6_readOpened_65 (by decide) (fun hc => ?_) (fun hc => ?_)
          · replace hs := q_t hc hs
            refine lv_aload_n (pc := 74) hx hb dX6_readOpened_74 rfl (lv_at hl 0 rfl) ?_
            refine lv_dup (pc := 75) hx hb dX6_readOpened_75 rfl ?_
            refine q_getI (pc := 76) (q := 34) hx hb hts hown hK hw rfl fg_X6_25 dX6_readOpened_76 ?_
            refine lv_iconst (pc := 79) (v := (iI 1)) hx hb dX6_readOpened_79 rfl ?_
            refine lv_iadd (pc := 80) hx hb dX6_readOpened_80 ?_
            refine q_putI (pc := 81) (q := 34) hx hb hts hown hK hw rfl fp_X6_25 dX6_readOpened_81 hs (fun h6 H locs hw hs => ?_)
            exact q_vret hret dX6_readOpened_84 hw hs
          · replace hs := q_f hc hs
            exact hK3 hs _ _ hw _ (lv_sub hl [0] rfl)
    · replace hs := q_f (fun z => z hc) hs
      refine lv_aload_n (pc := 27) hx hb dX6_readOpened_27 rfl (lv_at hl 0 rfl) ?_
      refine lv_iload_n (pc := 28) hx hb dX6_readOpened_28 rfl (lv_at hl 2 rfl) ?_
      refine lv_iconst (pc := 29) (v := (iI 1)) hx hb dX6_readOpened_29 rfl ?_
      refine lv_iadd (pc := 30) hx hb dX6_readOpened_30 ?_
      obtain ⟨h7, ev, hs⟩ := q_cal hs
      refine q_callV (pc := 31) (q := 34) (As := [.int (a2 + (iI 1))]) (rest := []) (rs := []) hx hb hml hl.1 hts hown hK hSt hN hw (hrec.2.2.1 (a2 + (iI 1)) h1 h7 ev) rfl rfl cv_X6_72 (rm_ok hR (by omega)) rfl (Nat.le_of_ble_eq_true rfl) rfl rfl dX6_readOpened_31 (fun H locs hw => ?_)
      refine lv_aload_n (pc := 34) hx hb dX6_readOpened_34 rfl (lv_at hl 0 rfl) ?_
      refine lv_sipush (pc := 35) (v := (iI 10000)) hx hb dX6_readOpened_35 (by decide) ?_
      refine lv_iload_n (pc := 38) hx hb dX6_readOpened_38 rfl (lv_at hl 1 rfl) ?_
      refine lv_iadd (pc := 39) hx hb dX6_readOpened_39 ?_
      obtain ⟨h8, ev, hs⟩ := q_cal hs
      refine q_callV (pc := 40) (q := 34) (As := [.int ((iI 10000) + a1)]) (rest := []) (rs := []) hx hb hml hl.1 hts hown hK hSt hN hw (c_X6_write l G ((iI 10000) + a1) h7 h8 ev) rfl rfl cv_X6_68 (rm_ok hR (by omega)) rfl (Nat.le_of_ble_eq_true rfl) rfl rfl dX6_readOpened_40 (fun H locs hw => ?_)
      exact q_vret hret dX6_readOpened_43 hw hs
  · replace hs := q_f hc hs
    refine lv_aload_n (pc := 5) hx hb dX6_readOpened_5 rfl (lv_at hl 0 rfl) ?_
    refine lv_iconst (pc := 6) (v := (iI 1)) hx hb dX6_readOpened_6 rfl ?_
    refine q_putZ (pc := 7) (q := 34) hx hb hts hown hK hw rfl fp_X6_31 dX6_readOpened_7 hs (fun h9 H locs hw hs => ?_)
    exact q_vret hret dX6_readOpened_10 hw hs

theorem rc_READ (l : Launch) (G : GG) : ∀ n : Nat, RC_READ l G (g_READ n) (n + 2)
  | 0 => ⟨fun _ _ _ _ hs => (by cases hs), fun _ _ _ _ hs => (by cases hs), fun _ _ _ hs => (by cases hs), fun _ _ _ _ hs => (by cases hs)⟩
  | n + 1 => by
    have ih := rc_READ l G n
    rw [show n + 1 + 2 = n + 2 + 1 by omega]
    exact ⟨fun a1 a2 h h' hs => cb_X6_readJoined l G (n + 2) (g_READ n) ih (by omega) a1 a2 h h' hs, fun a1 a2 h h' hs => cb_X6_readPart l G (n + 2) (g_READ n) ih (by omega) a1 a2 h h' hs, fun a1 h h' hs => cb_X6_readLeaf l G (n + 2) (g_READ n) ih (by omega) a1 h h' hs, fun a1 a2 h h' hs => cb_X6_readOpened l G (n + 2) (g_READ n) ih (by omega) a1 a2 h h' hs⟩

def RC_VOICE (l : Launch) (G : GG) (rec : Nat → Int32 → Int32 → Int32 → Int32 → Mem → Option (Int32 × Mem)) (d : Nat) : Prop :=
  (∀ (a1 : Int32) (a2 : Int32) (a3 : Int32) (a4 : Int32) (h : Mem) (v : Int32) (h' : Mem), rec 0 a1 a2 a3 a4 h = some (v, h') → Sat l G yX8_spoken cX8_spoken 6 (some .int) d [.ref (G.2.2.1 37), .int a1, .int a2, .int a3, .int a4] h (some (.int v)) h') ∧
  (∀ (a1 : Int32) (a2 : Int32) (a3 : Int32) (h : Mem) (v : Int32) (h' : Mem), rec 1 a1 a2 a3 (iI 0) h = some (v, h') → Sat l G yX8_worked cX8_worked 4 (some .int) d [.ref (G.2.2.1 37), .int a1, .int a2, .int a3] h (some (.int v)) h') ∧
  (∀ (a1 : Int32) (a2 : Int32) (a3 : Int32) (h : Mem) (v : Int32) (h' : Mem), rec 2 a1 a2 a3 (iI 0) h = some (v, h') → Sat l G yX8_own cX8_own 4 (some .int) d [.ref (G.2.2.1 37), .int a1, .int a2, .int a3] h (some (.int v)) h') ∧
  (∀ (a1 : Int32) (a2 : Int32) (a3 : Int32) (a4 : Int32) (h : Mem) (v : Int32) (h' : Mem), rec 3 a1 a2 a3 a4 h = some (v, h') → Sat l G yX8_above cX8_above 5 (some .int) d [.ref (G.2.2.1 37), .int a1, .int a2, .int a3, .int a4] h (some (.int v)) h')

set_option maxHeartbeats 4000000 in
theorem cb_X8_spoken (l : Launch) (G : GG) (d : Nat) (rec : Nat → Int32 → Int32 → Int32 → Int32 → Mem → Option (Int32 × Mem)) (hrec : RC_VOICE l G rec d) (hd : 3 ≤ d) (a1 : Int32) (a2 : Int32) (a3 : Int32) (a4 : Int32) (h : Mem) (v : Int32) (h' : Mem) (hs : b_X8_spoken rec a1 a2 a3 a4 h = some (v, h')) : Sat l G yX8_spoken cX8_spoken 6 (some .int) (d + 1) [.ref (G.2.2.1 37), .int a1, .int a2, .int a3, .int a4] h (some (.int v)) h' := by
  refine Sat.mkI (by decide) (Nat.le_of_ble_eq_true rfl) ?_
  intro p e R s m args below meth c Q F hret hw ls hl
  obtain ⟨hx, hb, hml, hown, hts, hK, hSt, hN, hR⟩ := F
  have hl : lv_has ls 6 [(0, .ref (G.2.2.1 37)), (1, .int a1), (2, .int a2), (3, .int a3), (4, .int a4)] := hl
  unfold b_X8_spoken at hs
  refine lv_iload_n (pc := 0) hx hb dX8_spoken_0 rfl (lv_at hl 1 rfl) ?_
  refine lv_iload_n (pc := 1) hx hb dX8_spoken_1 rfl (lv_at hl 2 rfl) ?_
  obtain ⟨v1, ev, hs⟩ := q_cal hs
  refine q_callS (pc := 2) (As := [.int a1, .int a2]) (rest := []) (rs := [.int v1]) hx hb hml hl.1 hts hown hK hSt hN hw (c_X8_bodyOf l G a1 a2 h v1 ev) cs_X8_38 (rm_ok hR (by omega)) rfl (Nat.le_of_ble_eq_true rfl) rfl rfl dX8_spoken_2 (fun H locs hw => ?_)
  refine lv_istore (pc := 5) (lv' := [(5, .int v1), (0, .ref (G.2.2.1 37)), (1, .int a1), (2, .int a2), (3, .int a3), (4, .int a4)]) hx hb dX8_spoken_5 hl (by decide) rfl (fun ls hl => ?_)
  refine lv_iload (pc := 7) hx hb dX8_spoken_7 (lv_at hl 0 rfl) ?_
  refine lv_if_eq (pc := 9) (tgt := 19) hx hb dX8_spoken_9 (by decide) (fun hc => ?_) (fun hc => ?_)
  · replace hs := q_t hc hs
    refine lv_iconst (pc := 19) (v := (iI 0)) hx hb dX8_spoken_19 rfl ?_
    exact q_iretW hret dX8_spoken_20 hw hs
  · replace hs := q_f hc hs
    refine lv_iload (pc := 12) hx hb dX8_spoken_12 (lv_at hl 5 rfl) ?_
    refine lv_bipush (pc := 14) (v := (iI 40)) hx hb dX8_spoken_14 (by decide) ?_
    refine lv_icmp_le (pc := 16) (tgt := 21) hx hb dX8_spoken_16 (by decide) (fun hc => ?_) (fun hc => ?_)
    · replace hs := q_t hc hs
      refine lv_aload_n (pc := 21) hx hb dX8_spoken_21 rfl (lv_at hl 1 rfl) ?_
      refine q_getI (pc := 22) (q := 37) hx hb hts hown hK hw rfl fg_X8_13 dX8_spoken_22 ?_
      refine lv_bipush (pc := 25) (v := (iI 40)) hx hb dX8_spoken_25 (by decide) ?_
      refine q_join1 (P0 := fun (h2 : Mem) => ∀ (H : Heap) (locs : List Loc), IW G s h2 H locs → ∀ ls : Array Slot, lv_has ls 6 [(0, .ref (G.2.2.1 37)), (3, .int a3), (4, .int a4), (5, .int v1)] → W p l e R s m args below meth c H locs 0 0 Q (F0 m 51 ls [])) hs ?_ ?_
      · intro h2 hs H locs hw ls hl
        refine lv_aload_n (pc := 51) hx hb dX8_spoken_51 rfl (lv_at hl 0 rfl) ?_
        refine lv_iload (pc := 52) hx hb dX8_spoken_52 (lv_at hl 3 rfl) ?_
        refine lv_iload_n (pc := 54) hx hb dX8_spoken_54 rfl (lv_at hl 1 rfl) ?_
        refine lv_iload (pc := 55) hx hb dX8_spoken_55 (lv_at hl 2 rfl) ?_
        refine lv_iconst (pc := 57) (v := (iI 1)) hx hb dX8_spoken_57 rfl ?_
        refine lv_iadd (pc := 58) hx hb dX8_spoken_58 ?_
        obtain ⟨v4, h5, ev, hs⟩ := q_cal2 hs
        refine q_callV (pc := 59) (q := 37) (As := [.int v1, .int a3, .int (a4 + (iI 1))]) (rest := []) (rs := [.int v4]) hx hb hml hl.1 hts hown hK hSt hN hw (hrec.2.1 v1 a3 (a4 + (iI 1)) h2 v4 h5 ev) rfl rfl cv_X8_42 (rm_ok hR (by omega)) rfl (Nat.le_of_ble_eq_true rfl) rfl rfl dX8_spoken_59 (fun H locs hw => ?_)
        exact q_iretW hret dX8_spoken_62 hw hs
      · intro K3 hK3 hs
        refine lv_icmp_ge (pc := 27) (tgt := 51) hx hb dX8_spoken_27 (by decide) (fun hc => ?_) (fun hc => ?_)
        · replace hs := q_t hc hs
          exact hK3 _ hs _ _ hw _ (lv_sub hl [1, 4, 5, 0] rfl)
        · replace hs := q_f hc hs
          refine lv_aload_n (pc := 30) hx hb dX8_spoken_30 rfl (lv_at hl 1 rfl) ?_
          refine q_getR (pc := 31) (q := 37) (o := 1) hx hb hts hown hK hw rfl fg_X8_9 dX8_spoken_31 ?_
          refine lv_aload_n (pc := 34) hx hb dX8_spoken_34 rfl (lv_at hl 1 rfl) ?_
          refine q_getI (pc := 35) (q := 37) hx hb hts hown hK hw rfl fg_X8_13 dX8_spoken_35 ?_
          refine lv_iload (pc := 38) hx hb dX8_spoken_38 (lv_at hl 0 rfl) ?_
          refine q_ast (pc := 40) (q := 38) (n := 40) hx hb hK hw rfl dX8_spoken_40 hs (fun h6 H locs hw hs => ?_)
          refine lv_aload_n (pc := 41) hx hb dX8_spoken_41 rfl (lv_at hl 1 rfl) ?_
          refine lv_dup (pc := 42) hx hb dX8_spoken_42 rfl ?_
          refine q_getI (pc := 43) (q := 37) hx hb hts hown hK hw rfl fg_X8_13 dX8_spoken_43 ?_
          refine lv_iconst (pc := 46) (v := (iI 1)) hx hb dX8_spoken_46 rfl ?_
          refine lv_iadd (pc := 47) hx hb dX8_spoken_47 ?_
          refine q_putI (pc := 48) (q := 37) hx hb hts hown hK hw rfl fp_X8_13 dX8_spoken_48 hs (fun h7 H locs hw hs => ?_)
          exact hK3 _ hs _ _ hw _ (lv_sub hl [1, 4, 5, 0] rfl)
    · replace hs := q_f hc hs
      refine lv_iconst (pc := 19) (v := (iI 0)) hx hb dX8_spoken_19 rfl ?_
      exact q_iretW hret dX8_spoken_20 hw hs

set_option maxHeartbeats 4000000 in
set_option maxRecDepth 100000 in
theorem cb_X8_worked (l : Launch) (G : GG) (d : Nat) (rec : Nat → Int32 → Int32 → Int32 → Int32 → Mem → Option (Int32 × Mem)) (hrec : RC_VOICE l G rec d) (hd : 3 ≤ d) (a1 : Int32) (a2 : Int32) (a3 : Int32) (h : Mem) (v : Int32) (h' : Mem) (hs : b_X8_worked rec a1 a2 a3 h = some (v, h')) : Sat l G yX8_worked cX8_worked 4 (some .int) (d + 1) [.ref (G.2.2.1 37), .int a1, .int a2, .int a3] h (some (.int v)) h' := by
  refine Sat.mkI (by decide) (Nat.le_of_ble_eq_true rfl) ?_
  intro p e R s m args below meth c Q F hret hw ls hl
  obtain ⟨hx, hb, hml, hown, hts, hK, hSt, hN, hR⟩ := F
  have hl : lv_has ls 4 [(0, .ref (G.2.2.1 37)), (1, .int a1), (2, .int a2), (3, .int a3)] := hl
  unfold b_X8_worked at hs
  refine lv_iload_n (pc := 0) hx hb dX8_worked_0 rfl (lv_at hl 1 rfl) ?_
  by_cases hc0 : a1 = iI 10
  · replace hs := q_t hc0 hs
    refine lv_lookup (pc := 1) (off := 91) (tgt := 92) hx hb dX8_worked_1 (by decide) (by rw [hc0]; decide) (by decide) ?_
    refine lv_iload_n (pc := 92) hx hb dX8_worked_92 rfl (lv_at hl 2 rfl) ?_
    refine lv_aload_n (pc := 93) hx hb dX8_worked_93 rfl (lv_at hl 0 rfl) ?_
    refine q_getI (pc := 94) (q := 37) hx hb hts hown hK hw rfl fg_X8_20 dX8_worked_94 ?_
    refine lv_iadd (pc := 97) hx hb dX8_worked_97 ?_
    exact q_iretW hret dX8_worked_98 hw hs
  replace hs := q_f hc0 hs
  by_cases hc1 : a1 = iI 11
  · replace hs := q_t hc1 hs
    refine lv_lookup (pc := 1) (off := 98) (tgt := 99) hx hb dX8_worked_1 (by decide) (by rw [hc1]; decide) (by decide) ?_
    refine lv_aload_n (pc := 99) hx hb dX8_worked_99 rfl (lv_at hl 0 rfl) ?_
    refine lv_iconst (pc := 100) (v := (iI 0)) hx hb dX8_worked_100 rfl ?_
    refine lv_iload_n (pc := 101) hx hb dX8_worked_101 rfl (lv_at hl 2 rfl) ?_
    refine lv_iload_n (pc := 102) hx hb dX8_worked_102 rfl (lv_at hl 3 rfl) ?_
    obtain ⟨v1, h2, ev, hs⟩ := q_cal2 hs
    refine q_callV (pc := 103) (q := 37) (As := [.int (iI 0), .int a2, .int a3]) (rest := []) (rs := [.int v1]) hx hb hml hl.1 hts hown hK hSt hN hw (hrec.2.2.1 (iI 0) a2 a3 h v1 h2 ev) rfl rfl cv_X8_46 (rm_ok hR (by omega)) rfl (Nat.le_of_ble_eq_true rfl) rfl rfl dX8_worked_103 (fun H locs hw => ?_)
    refine lv_iconst (pc := 106) (v := (iI 2)) hx hb dX8_worked_106 rfl ?_
    refine lv_imul (pc := 107) hx hb dX8_worked_107 ?_
    exact q_iretW hret dX8_worked_108 hw hs
  replace hs := q_f hc1 hs
  by_cases hc2 : a1 = iI 12
  · replace hs := q_t hc2 hs
    refine lv_lookup (pc := 1) (off := 108) (tgt := 109) hx hb dX8_worked_1 (by decide) (by rw [hc2]; decide) (by decide) ?_
    refine lv_iload_n (pc := 109) hx hb dX8_worked_109 rfl (lv_at hl 2 rfl) ?_
    refine lv_aload_n (pc := 110) hx hb dX8_worked_110 rfl (lv_at hl 0 rfl) ?_
    refine q_getI (pc := 111) (q := 37) hx hb hts hown hK hw rfl fg_X8_23 dX8_worked_111 ?_
    refine lv_isub (pc := 114) hx hb dX8_worked_114 ?_
    exact q_iretW hret dX8_worked_115 hw hs
  replace hs := q_f hc2 hs
  by_cases hc3 : a1 = iI 13
  · replace hs := q_t hc3 hs
    refine lv_lookup (pc := 1) (off := 115) (tgt := 116) hx hb dX8_worked_1 (by decide) (by rw [hc3]; decide) (by decide) ?_
    refine lv_aload_n (pc := 116) hx hb dX8_worked_116 rfl (lv_at hl 0 rfl) ?_
    refine lv_iconst (pc := 117) (v := (iI 1)) hx hb dX8_worked_117 rfl ?_
    refine lv_iload_n (pc := 118) hx hb dX8_worked_118 rfl (lv_at hl 2 rfl) ?_
    refine lv_iload_n (pc := 119) hx hb dX8_worked_119 rfl (lv_at hl 3 rfl) ?_
    obtain ⟨v3, h4, ev, hs⟩ := q_cal2 hs
    refine q_callV (pc := 120) (q := 37) (As := [.int (iI 1), .int a2, .int a3]) (rest := []) (rs := [.int v3]) hx hb hml hl.1 hts hown hK hSt hN hw (hrec.2.2.1 (iI 1) a2 a3 h v3 h4 ev) rfl rfl cv_X8_46 (rm_ok hR (by omega)) rfl (Nat.le_of_ble_eq_true rfl) rfl rfl dX8_worked_120 (fun H locs hw => ?_)
    refine lv_aload_n (pc := 123) hx hb dX8_worked_123 rfl (lv_at hl 0 rfl) ?_
    refine lv_iconst (pc := 124) (v := (iI 2)) hx hb dX8_worked_124 rfl ?_
    refine lv_iload_n (pc := 125) hx hb dX8_worked_125 rfl (lv_at hl 2 rfl) ?_
    refine lv_iload_n (pc := 126) hx hb dX8_worked_126 rfl (lv_at hl 3 rfl) ?_
    obtain ⟨v5, h6, ev, hs⟩ := q_cal2 hs
    refine q_callV (pc := 127) (q := 37) (As := [.int (iI 2), .int a2, .int a3]) (rest := [.int v3]) (rs := [.int v5, .int v3]) hx hb hml hl.1 hts hown hK hSt hN hw (hrec.2.2.1 (iI 2) a2 a3 h4 v5 h6 ev) rfl rfl cv_X8_46 (rm_ok hR (by omega)) rfl (Nat.le_of_ble_eq_true rfl) rfl rfl dX8_worked_127 (fun H locs hw => ?_)
    refine lv_ixor (pc := 130) hx hb dX8_worked_130 ?_
    exact q_iretW hret dX8_worked_131 hw hs
  replace hs := q_f hc3 hs
  by_cases hc4 : a1 = iI 20
  · replace hs := q_t hc4 hs
    refine lv_lookup (pc := 1) (off := 131) (tgt := 132) hx hb dX8_worked_1 (by decide) (by rw [hc4]; decide) (by decide) ?_
    refine lv_aload_n (pc := 132) hx hb dX8_worked_132 rfl (lv_at hl 0 rfl) ?_
    refine lv_iconst (pc := 133) (v := (iI 1)) hx hb dX8_worked_133 rfl ?_
    refine lv_iconst (pc := 134) (v := (iI 1)) hx hb dX8_worked_134 rfl ?_
    refine lv_iload_n (pc := 135) hx hb dX8_worked_135 rfl (lv_at hl 2 rfl) ?_
    refine lv_iload_n (pc := 136) hx hb dX8_worked_136 rfl (lv_at hl 3 rfl) ?_
    obtain ⟨v7, h8, ev, hs⟩ := q_cal2 hs
    refine q_callV (pc := 137) (q := 37) (As := [.int (iI 1), .int (iI 1), .int a2, .int a3]) (rest := []) (rs := [.int v7]) hx hb hml hl.1 hts hown hK hSt hN hw (hrec.2.2.2 (iI 1) (iI 1) a2 a3 h v7 h8 ev) rfl rfl cv_X8_49 (rm_ok hR (by omega)) rfl (Nat.le_of_ble_eq_true rfl) rfl rfl dX8_worked_137 (fun H locs hw => ?_)
    refine lv_aload_n (pc := 140) hx hb dX8_worked_140 rfl (lv_at hl 0 rfl) ?_
    refine lv_iconst (pc := 141) (v := (iI 2)) hx hb dX8_worked_141 rfl ?_
    refine lv_iconst (pc := 142) (v := (iI 1)) hx hb dX8_worked_142 rfl ?_
    refine lv_iload_n (pc := 143) hx hb dX8_worked_143 rfl (lv_at hl 3 rfl) ?_
    obtain ⟨v9, h10, ev, hs⟩ := q_cal2 hs
    refine q_callV (pc := 144) (q := 37) (As := [.int (iI 2), .int (iI 1), .int a3]) (rest := [.int v7]) (rs := [.int v9, .int v7]) hx hb hml hl.1 hts hown hK hSt hN hw (hrec.2.2.1 (iI 2) (iI 1) a3 h8 v9 h10 ev) rfl rfl cv_X8_46 (rm_ok hR (by omega)) rfl (Nat.le_of_ble_eq_true rfl) rfl rfl dX8_worked_144 (fun H locs hw => ?_)
    refine lv_isub (pc := 147) hx hb dX8_worked_147 ?_
    exact q_iretW hret dX8_worked_148 hw hs
  replace hs := q_f hc4 hs
  by_cases hc5 : a1 = iI 30
  · replace hs := q_t hc5 hs
    refine lv_lookup (pc := 1) (off := 148) (tgt := 149) hx hb dX8_worked_1 (by decide) (by rw [hc5]; decide) (by decide) ?_
    refine lv_aload_n (pc := 149) hx hb dX8_worked_149 rfl (lv_at hl 0 rfl) ?_
    refine lv_iconst (pc := 150) (v := (iI 2)) hx hb dX8_worked_150 rfl ?_
    refine lv_iconst (pc := 151) (v := (iI 0)) hx hb dX8_worked_151 rfl ?_
    refine lv_iload_n (pc := 152) hx hb dX8_worked_152 rfl (lv_at hl 2 rfl) ?_
    refine lv_iload_n (pc := 153) hx hb dX8_worked_153 rfl (lv_at hl 3 rfl) ?_
    obtain ⟨v11, h12, ev, hs⟩ := q_cal2 hs
    refine q_callV (pc := 154) (q := 37) (As := [.int (iI 2), .int (iI 0), .int a2, .int a3]) (rest := []) (rs := [.int v11]) hx hb hml hl.1 hts hown hK hSt hN hw (hrec.2.2.2 (iI 2) (iI 0) a2 a3 h v11 h12 ev) rfl rfl cv_X8_49 (rm_ok hR (by omega)) rfl (Nat.le_of_ble_eq_true rfl) rfl rfl dX8_worked_154 (fun H locs hw => ?_)
    refine lv_iconst (pc := 157) (v := (iI 3)) hx hb dX8_worked_157 rfl ?_
    refine lv_imul (pc := 158) hx hb dX8_worked_158 ?_
    exact q_iretW hret dX8_worked_159 hw hs
  replace hs := q_f hc5 hs
  by_cases hc6 : a1 = iI 40
  · replace hs := q_t hc6 hs
    refine lv_lookup (pc := 1) (off := 159) (tgt := 160) hx hb dX8_worked_1 (by decide) (by rw [hc6]; decide) (by decide) ?_
    refine lv_aload_n (pc := 160) hx hb dX8_worked_160 rfl (lv_at hl 0 rfl) ?_
    refine lv_iconst (pc := 161) (v := (iI 3)) hx hb dX8_worked_161 rfl ?_
    refine lv_iconst (pc := 162) (v := (iI 2)) hx hb dX8_worked_162 rfl ?_
    refine lv_iload_n (pc := 163) hx hb dX8_worked_163 rfl (lv_at hl 2 rfl) ?_
    refine lv_iload_n (pc := 164) hx hb dX8_worked_164 rfl (lv_at hl 3 rfl) ?_
    obtain ⟨v13, h14, ev, hs⟩ := q_cal2 hs
    refine q_callV (pc := 165) (q := 37) (As := [.int (iI 3), .int (iI 2), .int a2, .int a3]) (rest := []) (rs := [.int v13]) hx hb hml hl.1 hts hown hK hSt hN hw (hrec.2.2.2 (iI 3) (iI 2) a2 a3 h v13 h14 ev) rfl rfl cv_X8_49 (rm_ok hR (by omega)) rfl (Nat.le_of_ble_eq_true rfl) rfl rfl dX8_worked_165 (fun H locs hw => ?_)
    refine lv_ineg (pc := 168) hx hb dX8_worked_168 ?_
    exact q_iretW hret dX8_worked_169 hw hs
  replace hs := q_f hc6 hs
  by_cases hc7 : a1 = iI 50
  · replace hs := q_t hc7 hs
    refine lv_lookup (pc := 1) (off := 169) (tgt := 170) hx hb dX8_worked_1 (by decide) (by rw [hc7]; decide) (by decide) ?_
    refine lv_aload_n (pc := 170) hx hb dX8_worked_170 rfl (lv_at hl 0 rfl) ?_
    refine lv_iconst (pc := 171) (v := (iI 4)) hx hb dX8_worked_171 rfl ?_
    refine lv_iconst (pc := 172) (v := (iI 1)) hx hb dX8_worked_172 rfl ?_
    refine lv_iload_n (pc := 173) hx hb dX8_worked_173 rfl (lv_at hl 2 rfl) ?_
    refine lv_iconst (pc := 174) (v := (iI 1)) hx hb dX8_worked_174 rfl ?_
    refine lv_iadd (pc := 175) hx hb dX8_worked_175 ?_
    refine lv_iload_n (pc := 176) hx hb dX8_worked_176 rfl (lv_at hl 3 rfl) ?_
    obtain ⟨v15, h16, ev, hs⟩ := q_cal2 hs
    refine q_callV (pc := 177) (q := 37) (As := [.int (iI 4), .int (iI 1), .int (a2 + (iI 1)), .int a3]) (rest := []) (rs := [.int v15]) hx hb hml hl.1 hts hown hK hSt hN hw (hrec.2.2.2 (iI 4) (iI 1) (a2 + (iI 1)) a3 h v15 h16 ev) rfl rfl cv_X8_49 (rm_ok hR (by omega)) rfl (Nat.le_of_ble_eq_true rfl) rfl rfl dX8_worked_177 (fun H locs hw => ?_)
    exact q_iretW hret dX8_worked_180 hw hs
  replace hs := q_f hc7 hs
  by_cases hc8 : a1 = iI 60
  · replace hs := q_t hc8 hs
    refine lv_lookup (pc := 1) (off := 180) (tgt := 181) hx hb dX8_worked_1 (by decide) (by rw [hc8]; decide) (by decide) ?_
    refine lv_aload_n (pc := 181) hx hb dX8_worked_181 rfl (lv_at hl 0 rfl) ?_
    refine lv_iconst (pc := 182) (v := (iI 5)) hx hb dX8_worked_182 rfl ?_
    refine lv_iconst (pc := 183) (v := (iI 3)) hx hb dX8_worked_183 rfl ?_
    refine lv_iload_n (pc := 184) hx hb dX8_worked_184 rfl (lv_at hl 2 rfl) ?_
    refine lv_iload_n (pc := 185) hx hb dX8_worked_185 rfl (lv_at hl 3 rfl) ?_
    obtain ⟨v17, h18, ev, hs⟩ := q_cal2 hs
    refine q_callV (pc := 186) (q := 37) (As := [.int (iI 5), .int (iI 3), .int a2, .int a3]) (rest := []) (rs := [.int v17]) hx hb hml hl.1 hts hown hK hSt hN hw (hrec.2.2.2 (iI 5) (iI 3) a2 a3 h v17 h18 ev) rfl rfl cv_X8_49 (rm_ok hR (by omega)) rfl (Nat.le_of_ble_eq_true rfl) rfl rfl dX8_worked_186 (fun H locs hw => ?_)
    refine lv_aload_n (pc := 189) hx hb dX8_worked_189 rfl (lv_at hl 0 rfl) ?_
    refine lv_iconst (pc := 190) (v := (iI 0)) hx hb dX8_worked_190 rfl ?_
    refine lv_iconst (pc := 191) (v := (iI 2)) hx hb dX8_worked_191 rfl ?_
    refine lv_iload_n (pc := 192) hx hb dX8_worked_192 rfl (lv_at hl 3 rfl) ?_
    obtain ⟨v19, h20, ev, hs⟩ := q_cal2 hs
    refine q_callV (pc := 193) (q := 37) (As := [.int (iI 0), .int (iI 2), .int a3]) (rest := [.int v17]) (rs := [.int v19, .int v17]) hx hb hml hl.1 hts hown hK hSt hN hw (hrec.2.2.1 (iI 0) (iI 2) a3 h18 v19 h20 ev) rfl rfl cv_X8_46 (rm_ok hR (by omega)) rfl (Nat.le_of_ble_eq_true rfl) rfl rfl dX8_worked_193 (fun H locs hw => ?_)
    refine lv_isub (pc := 196) hx hb dX8_worked_196 ?_
    exact q_iretW hret dX8_worked_197 hw hs
  replace hs := q_f hc8 hs
  by_cases hc9 : a1 = iI 70
  · replace hs := q_t hc9 hs
    refine lv_lookup (pc := 1) (off := 197) (tgt := 198) hx hb dX8_worked_1 (by decide) (by rw [hc9]; decide) (by decide) ?_
    refine lv_aload_n (pc := 198) hx hb dX8_worked_198 rfl (lv_at hl 0 rfl) ?_
    refine lv_bipush (pc := 199) (v := (iI 6)) hx hb dX8_worked_199 (by decide) ?_
    refine lv_iconst (pc := 201) (v := (iI 2)) hx hb dX8_worked_201 rfl ?_
    refine lv_iload_n (pc := 202) hx hb dX8_worked_202 rfl (lv_at hl 2 rfl) ?_
    refine lv_iload_n (pc := 203) hx hb dX8_worked_203 rfl (lv_at hl 3 rfl) ?_
    obtain ⟨v21, h22, ev, hs⟩ := q_cal2 hs
    refine q_callV (pc := 204) (q := 37) (As := [.int (iI 6), .int (iI 2), .int a2, .int a3]) (rest := []) (rs := [.int v21]) hx hb hml hl.1 hts hown hK hSt hN hw (hrec.2.2.2 (iI 6) (iI 2) a2 a3 h v21 h22 ev) rfl rfl cv_X8_49 (rm_ok hR (by omega)) rfl (Nat.le_of_ble_eq_true rfl) rfl rfl dX8_worked_204 (fun H locs hw => ?_)
    refine lv_aload_n (pc := 207) hx hb dX8_worked_207 rfl (lv_at hl 0 rfl) ?_
    refine q_getI (pc := 208) (q := 37) hx hb hts hown hK hw rfl fg_X8_20 dX8_worked_208 ?_
    refine lv_ixor (pc := 211) hx hb dX8_worked_211 ?_
    exact q_iretW hret dX8_worked_212 hw hs
  replace hs := q_f hc9 hs
  refine lv_lookup (pc := 1) (off := 212) (tgt := 213) hx hb dX8_worked_1 (by decide) ((lv_osw hc0 (by decide)).trans ((lv_osw hc1 (by decide)).trans ((lv_osw hc2 (by decide)).trans ((lv_osw hc3 (by decide)).trans ((lv_osw hc4 (by decide)).trans ((lv_osw hc5 (by decide)).trans ((lv_osw hc6 (by decide)).trans ((lv_osw hc7 (by decide)).trans ((lv_osw hc8 (by decide)).trans ((lv_osw hc9 (by decide)).trans rfl)))))))))) (by decide) ?_
  refine lv_aload_n (pc := 213) hx hb dX8_worked_213 rfl (lv_at hl 0 rfl) ?_
  refine lv_iconst (pc := 214) (v := (iI 1)) hx hb dX8_worked_214 rfl ?_
  refine lv_iload_n (pc := 215) hx hb dX8_worked_215 rfl (lv_at hl 2 rfl) ?_
  refine lv_iload_n (pc := 216) hx hb dX8_worked_216 rfl (lv_at hl 3 rfl) ?_
  obtain ⟨v23, h24, ev, hs⟩ := q_cal2 hs
  refine q_callV (pc := 217) (q := 37) (As := [.int (iI 1), .int a2, .int a3]) (rest := []) (rs := [.int v23]) hx hb hml hl.1 hts hown hK hSt hN hw (hrec.2.2.1 (iI 1) a2 a3 h v23 h24 ev) rfl rfl cv_X8_46 (rm_ok hR (by omega)) rfl (Nat.le_of_ble_eq_true rfl) rfl rfl dX8_worked_217 (fun H locs hw => ?_)
  refine lv_aload_n (pc := 220) hx hb dX8_worked_220 rfl (lv_at hl 0 rfl) ?_
  refine lv_bipush (pc := 221) (v := (iI 6)) hx hb dX8_worked_221 (by decide) ?_
  refine lv_iconst (pc := 223) (v := (iI 3)) hx hb dX8_worked_223 rfl ?_
  refine lv_iload_n (pc := 224) hx hb dX8_worked_224 rfl (lv_at hl 2 rfl) ?_
  refine lv_iload_n (pc := 225) hx hb dX8_worked_225 rfl (lv_at hl 3 rfl) ?_
  obtain ⟨v25, h26, ev, hs⟩ := q_cal2 hs
  refine q_callV (pc := 226) (q := 37) (As := [.int (iI 6), .int (iI 3), .int a2, .int a3]) (rest := [.int v23]) (rs := [.int v25, .int v23]) hx hb hml hl.1 hts hown hK hSt hN hw (hrec.2.2.2 (iI 6) (iI 3) a2 a3 h24 v25 h26 ev) rfl rfl cv_X8_49 (rm_ok hR (by omega)) rfl (Nat.le_of_ble_eq_true rfl) rfl rfl dX8_worked_226 (fun H locs hw => ?_)
  refine lv_isub (pc := 229) hx hb dX8_worked_229 ?_
  exact q_iretW hret dX8_worked_230 hw hs

set_option maxHeartbeats 4000000 in
theorem cb_X8_own (l : Launch) (G : GG) (d : Nat) (rec : Nat → Int32 → Int32 → Int32 → Int32 → Mem → Option (Int32 × Mem)) (hrec : RC_VOICE l G rec d) (hd : 3 ≤ d) (a1 : Int32) (a2 : Int32) (a3 : Int32) (h : Mem) (v : Int32) (h' : Mem) (hs : b_X8_own rec a1 a2 a3 h = some (v, h')) : Sat l G yX8_own cX8_own 4 (some .int) (d + 1) [.ref (G.2.2.1 37), .int a1, .int a2, .int a3] h (some (.int v)) h' := by
  refine Sat.mkI (by decide) (Nat.le_of_ble_eq_true rfl) ?_
  intro p e R s m args below meth c Q F hret hw ls hl
  obtain ⟨hx, hb, hml, hown, hts, hK, hSt, hN, hR⟩ := F
  have hl : lv_has ls 4 [(0, .ref (G.2.2.1 37)), (1, .int a1), (2, .int a2), (3, .int a3)] := hl
  unfold b_X8_own at hs
  refine lv_aload_n (pc := 0) hx hb dX8_own_0 rfl (lv_at hl 0 rfl) ?_
  refine lv_aload_n (pc := 1) hx hb dX8_own_1 rfl (lv_at hl 0 rfl) ?_
  refine q_getI (pc := 2) (q := 37) hx hb hts hown hK hw rfl fg_X8_17 dX8_own_2 ?_
  refine lv_iload_n (pc := 5) hx hb dX8_own_5 rfl (lv_at hl 1 rfl) ?_
  refine lv_iload_n (pc := 6) hx hb dX8_own_6 rfl (lv_at hl 2 rfl) ?_
  refine lv_iload_n (pc := 7) hx hb dX8_own_7 rfl (lv_at hl 3 rfl) ?_
  obtain ⟨v1, h2, ev, hs⟩ := q_cal2 hs
  refine q_callV (pc := 8) (q := 37) (As := [.int (gI h 37 2), .int a1, .int a2, .int a3]) (rest := []) (rs := [.int v1]) hx hb hml hl.1 hts hown hK hSt hN hw (hrec.1 (gI h 37 2) a1 a2 a3 h v1 h2 ev) rfl rfl cv_X8_34 (rm_ok hR (by omega)) rfl (Nat.le_of_ble_eq_true rfl) rfl rfl dX8_own_8 (fun H locs hw => ?_)
  exact q_iretW hret dX8_own_11 hw hs

set_option maxHeartbeats 4000000 in
theorem cb_X8_above (l : Launch) (G : GG) (d : Nat) (rec : Nat → Int32 → Int32 → Int32 → Int32 → Mem → Option (Int32 × Mem)) (hrec : RC_VOICE l G rec d) (hd : 3 ≤ d) (a1 : Int32) (a2 : Int32) (a3 : Int32) (a4 : Int32) (h : Mem) (v : Int32) (h' : Mem) (hs : b_X8_above rec a1 a2 a3 a4 h = some (v, h')) : Sat l G yX8_above cX8_above 5 (some .int) (d + 1) [.ref (G.2.2.1 37), .int a1, .int a2, .int a3, .int a4] h (some (.int v)) h' := by
  refine Sat.mkI (by decide) (Nat.le_of_ble_eq_true rfl) ?_
  intro p e R s m args below meth c Q F hret hw ls hl
  obtain ⟨hx, hb, hml, hown, hts, hK, hSt, hN, hR⟩ := F
  have hl : lv_has ls 5 [(0, .ref (G.2.2.1 37)), (1, .int a1), (2, .int a2), (3, .int a3), (4, .int a4)] := hl
  unfold b_X8_above at hs
  refine lv_aload_n (pc := 0) hx hb dX8_above_0 rfl (lv_at hl 0 rfl) ?_
  refine lv_iload_n (pc := 1) hx hb dX8_above_1 rfl (lv_at hl 1 rfl) ?_
  obtain ⟨v1, ev, hs⟩ := q_cal hs
  refine q_callS (pc := 2) (As := [.int a1]) (rest := [.ref (G.2.2.1 37)]) (rs := [.int v1, .ref (G.2.2.1 37)]) hx hb hml hl.1 hts hown hK hSt hN hw (c_X3_above l G a1 h v1 ev) cs_X8_52 (rm_ok hR (by omega)) rfl (Nat.le_of_ble_eq_true rfl) rfl rfl dX8_above_2 (fun H locs hw => ?_)
  refine lv_iload_n (pc := 5) hx hb dX8_above_5 rfl (lv_at hl 2 rfl) ?_
  refine lv_iload_n (pc := 6) hx hb dX8_above_6 rfl (lv_at hl 3 rfl) ?_
  refine lv_iload (pc := 7) hx hb dX8_above_7 (lv_at hl 4 rfl) ?_
  obtain ⟨v2, h3, ev, hs⟩ := q_cal2 hs
  refine q_callV (pc := 9) (q := 37) (As := [.int v1, .int a2, .int a3, .int a4]) (rest := []) (rs := [.int v2]) hx hb hml hl.1 hts hown hK hSt hN hw (hrec.1 v1 a2 a3 a4 h v2 h3 ev) rfl rfl cv_X8_34 (rm_ok hR (by omega)) rfl (Nat.le_of_ble_eq_true rfl) rfl rfl dX8_above_9 (fun H locs hw => ?_)
  exact q_iretW hret dX8_above_12 hw hs

theorem rc_VOICE (l : Launch) (G : GG) : ∀ n : Nat, RC_VOICE l G (g_VOICE n) (n + 3)
  | 0 => ⟨fun _ _ _ _ _ _ _ hs => (by cases hs), fun _ _ _ _ _ _ hs => (by cases hs), fun _ _ _ _ _ _ hs => (by cases hs), fun _ _ _ _ _ _ _ hs => (by cases hs)⟩
  | n + 1 => by
    have ih := rc_VOICE l G n
    rw [show n + 1 + 3 = n + 3 + 1 by omega]
    exact ⟨fun a1 a2 a3 a4 h v h' hs => cb_X8_spoken l G (n + 3) (g_VOICE n) ih (by omega) a1 a2 a3 a4 h v h' hs, fun a1 a2 a3 h v h' hs => cb_X8_worked l G (n + 3) (g_VOICE n) ih (by omega) a1 a2 a3 h v h' hs, fun a1 a2 a3 h v h' hs => cb_X8_own l G (n + 3) (g_VOICE n) ih (by omega) a1 a2 a3 h v h' hs, fun a1 a2 a3 a4 h v h' hs => cb_X8_above l G (n + 3) (g_VOICE n) ih (by omega) a1 a2 a3 a4 h v h' hs⟩

set_option maxHeartbeats 4000000 in
set_option maxRecDepth 100000 in
theorem c_X1_weigh (l : Launch) (G : GG) (a1 : Int32) (a2 : Int32) (h : Mem) (h' : Mem) (hs : f_X1_weigh h a1 a2 = some h') : Sat l G yX1_weigh cX1_weigh 4 none 3 [.ref (G.2.2.1 56), .int a1, .int a2] h none h' := by
  refine Sat.mkV (by decide) (Nat.le_of_ble_eq_true rfl) ?_
  intro p e R s m args below meth c Q F hret hw ls hl
  obtain ⟨hx, hb, hml, hown, hts, hK, hSt, hN, hR⟩ := F
  have hl : lv_has ls 4 [(0, .ref (G.2.2.1 56)), (1, .int a1), (2, .int a2)] := hl
  unfold f_X1_weigh at hs
  refine lv_aload_n (pc := 0) hx hb dX1_weigh_0 rfl (lv_at hl 0 rfl) ?_
  refine lv_iconst (pc := 1) (v := (iI 0)) hx hb dX1_weigh_1 rfl ?_
  refine q_putI (pc := 2) (q := 56) hx hb hts hown hK hw rfl fp_X1_41 dX1_weigh_2 hs (fun h1 H locs hw hs => ?_)
  refine lv_aload_n (pc := 5) hx hb dX1_weigh_5 rfl (lv_at hl 0 rfl) ?_
  refine lv_aload_n (pc := 6) hx hb dX1_weigh_6 rfl (lv_at hl 0 rfl) ?_
  obtain ⟨v2, ev, hs⟩ := q_cal hs
  refine q_callV (pc := 7) (q := 56) (As := []) (rest := [.ref (G.2.2.1 56)]) (rs := [.int v2, .ref (G.2.2.1 56)]) hx hb hml hl.1 hts hown hK hSt hN hw (c_X1_choices l G h1 v2 ev) rfl rfl cv_X1_78 (rm_ok hR (by decide)) rfl (Nat.le_of_ble_eq_true rfl) rfl rfl dX1_weigh_7 (fun H locs hw => ?_)
  refine q_putI (pc := 10) (q := 56) hx hb hts hown hK hw rfl fp_X1_44 dX1_weigh_10 hs (fun h3 H locs hw hs => ?_)
  refine lv_iconst (pc := 13) (v := (iI 0)) hx hb dX1_weigh_13 rfl ?_
  refine lv_istore_n (pc := 14) (lv' := [(3, .int (iI 0)), (0, .ref (G.2.2.1 56)), (1, .int a1), (2, .int a2)]) hx hb dX1_weigh_14 rfl hl (by decide) rfl (fun ls hl => ?_)
  refine (q_lo2 (P0 := fun (x4 : Int32) (h5 : Mem) => ∀ (H : Heap) (locs : List Loc), IW G s h5 H locs → ∀ ls : Array Slot, lv_has ls 4 [(0, .ref (G.2.2.1 56)), (1, .int a1), (2, .int a2), (3, .int x4)] → W p l e R s m args below meth c H locs 0 0 Q (F0 m 15 ls [])) hs ?_) _ _ hw _ (lv_sub hl [1, 2, 3, 0] rfl)
  intro K6 hK6 x4 h5 hs H locs hw ls hl
  unfold f_X1_weigh_k6 at hs
  refine lv_iload_n (pc := 15) hx hb dX1_weigh_15 rfl (lv_at hl 3 rfl) ?_
  refine lv_aload_n (pc := 16) hx hb dX1_weigh_16 rfl (lv_at hl 0 rfl) ?_
  obtain ⟨v7, ev, hs⟩ := q_cal hs
  refine q_callV (pc := 17) (q := 56) (As := []) (rest := [.int x4]) (rs := [.int v7, .int x4]) hx hb hml hl.1 hts hown hK hSt hN hw (c_X1_choices l G h5 v7 ev) rfl rfl cv_X1_78 (rm_ok hR (by decide)) rfl (Nat.le_of_ble_eq_true rfl) rfl rfl dX1_weigh_17 (fun H locs hw => ?_)
  refine lv_icmp_ge (pc := 20) (tgt := 64) hx hb dX1_weigh_20 (by decide) (fun hc => ?_) (fun hc => ?_)
  · replace hs := q_t hc hs
    refine lv_iconst (pc := 64) (v := (iI 0)) hx hb dX1_weigh_64 rfl ?_
    refine lv_istore_n (pc := 65) (lv' := [(3, .int (iI 0)), (0, .ref (G.2.2.1 56)), (1, .int a1), (2, .int a2)]) hx hb dX1_weigh_65 rfl hl (by decide) rfl (fun ls hl => ?_)
    refine (q_lo2 (P0 := fun (x8 : Int32) (h9 : Mem) => ∀ (H : Heap) (locs : List Loc), IW G s h9 H locs → ∀ ls : Array Slot, lv_has ls 4 [(0, .ref (G.2.2.1 56)), (3, .int x8)] → W p l e R s m args below meth c H locs 0 0 Q (F0 m 66 ls [])) hs ?_) _ _ hw _ (lv_sub hl [1, 0] rfl)
    intro K10 hK10 x8 h9 hs H locs hw ls hl
    unfold f_X1_weigh_k10 at hs
    refine lv_iload_n (pc := 66) hx hb dX1_weigh_66 rfl (lv_at hl 1 rfl) ?_
    refine lv_iconst (pc := 67) (v := (iI 5)) hx hb dX1_weigh_67 rfl ?_
    refine lv_icmp_ge (pc := 68) (tgt := 111) hx hb dX1_weigh_68 (by decide) (fun hc => ?_) (fun hc => ?_)
    · replace hs := q_t hc hs
      exact q_vret hret dX1_weigh_111 hw hs
    · replace hs := q_f hc hs
      refine lv_aload_n (pc := 71) hx hb dX1_weigh_71 rfl (lv_at hl 0 rfl) ?_
      refine q_getI (pc := 72) (q := 56) hx hb hts hown hK hw rfl fg_X1_41 dX1_weigh_72 ?_
      refine lv_aload_n (pc := 75) hx hb dX1_weigh_75 rfl (lv_at hl 0 rfl) ?_
      refine q_getI (pc := 76) (q := 56) hx hb hts hown hK hw rfl fg_X1_44 dX1_weigh_76 ?_
      refine lv_ior (pc := 79) hx hb dX1_weigh_79 ?_
      refine lv_iconst (pc := 80) (v := (iI 1)) hx hb dX1_weigh_80 rfl ?_
      refine lv_iand (pc := 81) hx hb dX1_weigh_81 ?_
      refine lv_if_ne (pc := 82) (tgt := 111) hx hb dX1_weigh_82 (by decide) (fun hc => ?_) (fun hc => ?_)
      · replace hs := q_t hc hs
        exact q_vret hret dX1_weigh_111 hw hs
      · replace hs := q_f (fun z => z hc) hs
        refine lv_aload_n (pc := 85) hx hb dX1_weigh_85 rfl (lv_at hl 0 rfl) ?_
        refine lv_dup (pc := 86) hx hb dX1_weigh_86 rfl ?_
        refine q_getI (pc := 87) (q := 56) hx hb hts hown hK hw rfl fg_X1_41 dX1_weigh_87 ?_
        refine lv_iconst (pc := 90) (v := (iI 2)) hx hb dX1_weigh_90 rfl ?_
        obtain ⟨hne, hs⟩ := q_nz hs
        refine lv_idiv (pc := 91) hx hb dX1_weigh_91 hne ?_
        refine q_putI (pc := 92) (q := 56) hx hb hts hown hK hw rfl fp_X1_41 dX1_weigh_92 hs (fun h11 H locs hw hs => ?_)
        refine lv_aload_n (pc := 95) hx hb dX1_weigh_95 rfl (lv_at hl 0 rfl) ?_
        refine lv_dup (pc := 96) hx hb dX1_weigh_96 rfl ?_
        refine q_getI (pc := 97) (q := 56) hx hb hts hown hK hw rfl fg_X1_44 dX1_weigh_97 ?_
        refine lv_iconst (pc := 100) (v := (iI 2)) hx hb dX1_weigh_100 rfl ?_
        obtain ⟨hne, hs⟩ := q_nz hs
        refine lv_idiv (pc := 101) hx hb dX1_weigh_101 hne ?_
        refine q_putI (pc := 102) (q := 56) hx hb hts hown hK hw rfl fp_X1_44 dX1_weigh_102 hs (fun h12 H locs hw hs => ?_)
        obtain ⟨x13, ex13, hs⟩ := q_nm hs
        refine lv_iinc (pc := 105) (v := x13) (lv' := [(3, .int x13), (0, .ref (G.2.2.1 56))]) hx hb dX1_weigh_105 hl (k := 1) rfl ex13 (by decide) rfl (fun ls hl => ?_)
        refine lv_goto (pc := 108) (tgt := 66) hx hb dX1_weigh_108 (by decide) ?_
        exact hK10 _ _ hs _ _ hw _ (lv_sub hl [1, 0] rfl)
  · replace hs := q_f hc hs
    refine lv_aload_n (pc := 23) hx hb dX1_weigh_23 rfl (lv_at hl 0 rfl) ?_
    refine lv_iload_n (pc := 24) hx hb dX1_weigh_24 rfl (lv_at hl 3 rfl) ?_
    obtain ⟨h14, ev, hs⟩ := q_cal hs
    refine q_callV (pc := 25) (q := 56) (As := [.int x4]) (rest := []) (rs := []) hx hb hml hl.1 hts hown hK hSt hN hw (c_X1_standBy l G x4 h5 h14 ev) rfl rfl cv_X1_81 (rm_ok hR (by decide)) rfl (Nat.le_of_ble_eq_true rfl) rfl rfl dX1_weigh_25 (fun H locs hw => ?_)
    refine lv_aload_n (pc := 28) hx hb dX1_weigh_28 rfl (lv_at hl 0 rfl) ?_
    refine lv_dup (pc := 29) hx hb dX1_weigh_29 rfl ?_
    refine q_getI (pc := 30) (q := 56) hx hb hts hown hK hw rfl fg_X1_41 dX1_weigh_30 ?_
    refine lv_aload_n (pc := 33) hx hb dX1_weigh_33 rfl (lv_at hl 0 rfl) ?_
    refine q_getR (pc := 34) (q := 56) (o := 5) hx hb hts hown hK hw rfl fg_X1_19 dX1_weigh_34 ?_
    refine lv_aload_n (pc := 37) hx hb dX1_weigh_37 rfl (lv_at hl 0 rfl) ?_
    refine q_getR (pc := 38) (q := 56) (o := 1) hx hb hts hown hK hw rfl fg_X1_10 dX1_weigh_38 ?_
    refine lv_iload_n (pc := 41) hx hb dX1_weigh_41 rfl (lv_at hl 1 rfl) ?_
    obtain ⟨v15, h16, ev, hs⟩ := q_cal2 hs
    refine q_callV (pc := 42) (q := 61) (As := [.ref (G.2.2.1 57), .int a1]) (rest := [.int (gI h14 56 7), .ref (G.2.2.1 56)]) (rs := [.int v15, .int (gI h14 56 7), .ref (G.2.2.1 56)]) hx hb hml hl.1 hts hown hK hSt hN hw (c_X0_run l G 61 rfl 57 rfl a1 h14 v15 h16 ev) rfl rfl cv_X1_85 (rm_ok hR (by decide)) rfl (Nat.le_of_ble_eq_true rfl) rfl rfl dX1_weigh_42 (fun H locs hw => ?_)
    refine lv_iload_n (pc := 45) hx hb dX1_weigh_45 rfl (lv_at hl 2 rfl) ?_
    refine q_join1 (P0 := fun (x17 : Int32) => ∀ (H : Heap) (locs : List Loc), IW G s h16 H locs → ∀ ls : Array Slot, lv_has ls 4 [(0, .ref (G.2.2.1 56)), (1, .int a1), (2, .int a2), (3, .int x4)] → W p l e R s m args below meth c H locs 0 0 Q (F0 m 54 ls [.int x17, .int (gI h14 56 7), .ref (G.2.2.1 56)])) hs ?_ ?_
    · intro x17 hs H locs hw ls hl
      refine lv_iadd (pc := 54) hx hb dX1_weigh_54 ?_
      refine q_putI (pc := 55) (q := 56) hx hb hts hown hK hw rfl fp_X1_41 dX1_weigh_55 hs (fun h19 H locs hw hs => ?_)
      obtain ⟨x20, ex20, hs⟩ := q_nm hs
      refine lv_iinc (pc := 58) (v := x20) (lv' := [(3, .int x20), (0, .ref (G.2.2.1 56)), (1, .int a1), (2, .int a2)]) hx hb dX1_weigh_58 hl (k := 3) rfl ex20 (by decide) rfl (fun ls hl => ?_)
      refine lv_goto (pc := 61) (tgt := 15) hx hb dX1_weigh_61 (by decide) ?_
      exact hK6 _ _ hs _ _ hw _ (lv_sub hl [1, 2, 3, 0] rfl)
    · intro K18 hK18 hs
      refine lv_icmp_ne (pc := 46) (tgt := 53) hx hb dX1_weigh_46 (by decide) (fun hc => ?_) (fun hc => ?_)
      · replace hs := q_t hc hs
        refine lv_iconst (pc := 53) (v := (iI 0)) hx hb dX1_weigh_53 rfl ?_
        exact hK18 _ hs _ _ hw _ (lv_sub hl [0, 1, 2, 3] rfl)
      · replace hs := q_f (fun z => z hc) hs
        refine lv_iconst (pc := 49) (v := (iI 1)) hx hb dX1_weigh_49 rfl ?_
        refine lv_goto (pc := 50) (tgt := 54) hx hb dX1_weigh_50 (by decide) ?_
        exact hK18 _ hs _ _ hw _ (lv_sub hl [0, 1, 2, 3] rfl)

set_option maxHeartbeats 4000000 in
theorem c_X1_isFitting (l : Launch) (G : GG) (q1 : Nat) (hq1 : LAY[q1]? = some (10, 0)) (a2 : Int32) (h : Mem) (v : Int32) (h' : Mem) (hs : f_X1_isFitting h q1 a2 = some (v, h')) : Sat l G yX1_isFitting cX1_isFitting 4 (some .boolean) 3 [.ref (G.2.2.1 56), .ref (G.2.2.1 q1), .int a2] h (some (.int v)) h' := by
  refine Sat.mkZ (by decide) (Nat.le_of_ble_eq_true rfl) ?_
  intro p e R s m args below meth c Q F hret hw ls hl
  obtain ⟨hx, hb, hml, hown, hts, hK, hSt, hN, hR⟩ := F
  have hl : lv_has ls 4 [(0, .ref (G.2.2.1 56)), (1, .ref (G.2.2.1 q1)), (2, .int a2)] := hl
  unfold f_X1_isFitting at hs
  refine lv_aload_n (pc := 0) hx hb dX1_isFitting_0 rfl (lv_at hl 0 rfl) ?_
  refine lv_iload_n (pc := 1) hx hb dX1_isFitting_1 rfl (lv_at hl 2 rfl) ?_
  obtain ⟨h1, ev, hs⟩ := q_cal hs
  refine q_callV (pc := 2) (q := 56) (As := [.int a2]) (rest := []) (rs := []) hx hb hml hl.1 hts hown hK hSt hN hw (c_X1_standBy l G a2 h h1 ev) rfl rfl cv_X1_81 (rm_ok hR (by decide)) rfl (Nat.le_of_ble_eq_true rfl) rfl rfl dX1_isFitting_2 (fun H locs hw => ?_)
  refine lv_iconst (pc := 5) (v := (iI 0)) hx hb dX1_isFitting_5 rfl ?_
  refine lv_istore_n (pc := 6) (lv' := [(3, .int (iI 0)), (0, .ref (G.2.2.1 56)), (1, .ref (G.2.2.1 q1)), (2, .int a2)]) hx hb dX1_isFitting_6 rfl hl (by decide) rfl (fun ls hl => ?_)
  refine (q_lo2 (P0 := fun (x2 : Int32) (h3 : Mem) => ∀ (H : Heap) (locs : List Loc), IW G s h3 H locs → ∀ ls : Array Slot, lv_has ls 4 [(0, .ref (G.2.2.1 56)), (1, .ref (G.2.2.1 q1)), (3, .int x2)] → W p l e R s m args below meth c H locs 0 0 Q (F0 m 7 ls [])) hs ?_) _ _ hw _ (lv_sub hl [1, 2, 0] rfl)
  intro K4 hK4 x2 h3 hs H locs hw ls hl
  unfold f_X1_isFitting_k4 at hs
  refine lv_iload_n (pc := 7) hx hb dX1_isFitting_7 rfl (lv_at hl 2 rfl) ?_
  refine lv_iconst (pc := 8) (v := (iI 1)) hx hb dX1_isFitting_8 rfl ?_
  refine lv_iadd (pc := 9) hx hb dX1_isFitting_9 ?_
  refine lv_aload_n (pc := 10) hx hb dX1_isFitting_10 rfl (lv_at hl 1 rfl) ?_
  refine q_getI (pc := 11) (q := q1) hx hb hts hown hK hw hq1 fg_X1_89 dX1_isFitting_11 ?_
  refine lv_icmp_ge (pc := 14) (tgt := 53) hx hb dX1_isFitting_14 (by decide) (fun hc => ?_) (fun hc => ?_)
  · replace hs := q_t hc hs
    refine lv_iconst (pc := 53) (v := (iI 1)) hx hb dX1_isFitting_53 rfl ?_
    exact q_zretW hret dX1_isFitting_54 hw hs
  · replace hs := q_f hc hs
    refine lv_aload_n (pc := 17) hx hb dX1_isFitting_17 rfl (lv_at hl 0 rfl) ?_
    refine q_getR (pc := 18) (q := 56) (o := 5) hx hb hts hown hK hw rfl fg_X1_19 dX1_isFitting_18 ?_
    refine lv_aload_n (pc := 21) hx hb dX1_isFitting_21 rfl (lv_at hl 0 rfl) ?_
    refine q_getR (pc := 22) (q := 56) (o := 1) hx hb hts hown hK hw rfl fg_X1_10 dX1_isFitting_22 ?_
    refine lv_aload_n (pc := 25) hx hb dX1_isFitting_25 rfl (lv_at hl 1 rfl) ?_
    refine q_getR (pc := 26) (q := q1) (o := 1) hx hb hts hown hK hw hq1 fg_X1_94 dX1_isFitting_26 ?_
    refine lv_iload_n (pc := 29) hx hb dX1_isFitting_29 rfl (lv_at hl 2 rfl) ?_
    refine q_ald (pc := 30) (q := (q1 + 1)) (n := 40) hx hb hK hw (wt_X7_numbers _ hq1) dX1_isFitting_30 hs (fun v5 hs => ?_)
    obtain ⟨v6, h7, ev, hs⟩ := q_cal2 hs
    refine q_callV (pc := 31) (q := 61) (As := [.ref (G.2.2.1 57), .int v5]) (rest := []) (rs := [.int v6]) hx hb hml hl.1 hts hown hK hSt hN hw (c_X0_run l G 61 rfl 57 rfl v5 h3 v6 h7 ev) rfl rfl cv_X1_85 (rm_ok hR (by decide)) rfl (Nat.le_of_ble_eq_true rfl) rfl rfl dX1_isFitting_31 (fun H locs hw => ?_)
    refine lv_aload_n (pc := 34) hx hb dX1_isFitting_34 rfl (lv_at hl 1 rfl) ?_
    refine q_getR (pc := 35) (q := q1) (o := 1) hx hb hts hown hK hw hq1 fg_X1_94 dX1_isFitting_35 ?_
    refine lv_iload_n (pc := 38) hx hb dX1_isFitting_38 rfl (lv_at hl 2 rfl) ?_
    refine lv_iconst (pc := 39) (v := (iI 1)) hx hb dX1_isFitting_39 rfl ?_
    refine lv_iadd (pc := 40) hx hb dX1_isFitting_40 ?_
    refine q_ald (pc := 41) (q := (q1 + 1)) (n := 40) hx hb hK hw (wt_X7_numbers _ hq1) dX1_isFitting_41 hs (fun v8 hs => ?_)
    refine lv_icmp_eq (pc := 42) (tgt := 47) hx hb dX1_isFitting_42 (by decide) (fun hc => ?_) (fun hc => ?_)
    · replace hs := q_t hc hs
      obtain ⟨x9, ex9, hs⟩ := q_nm hs
      refine lv_iinc (pc := 47) (v := x9) (lv' := [(3, .int x9), (0, .ref (G.2.2.1 56)), (1, .ref (G.2.2.1 q1))]) hx hb dX1_isFitting_47 hl (k := 2) rfl ex9 (by decide) rfl (fun ls hl => ?_)
      refine lv_goto (pc := 50) (tgt := 7) hx hb dX1_isFitting_50 (by decide) ?_
      exact hK4 _ _ hs _ _ hw _ (lv_sub hl [1, 2, 0] rfl)
    · replace hs := q_f hc hs
      refine lv_iconst (pc := 45) (v := (iI 0)) hx hb dX1_isFitting_45 rfl ?_
      exact q_zretW hret dX1_isFitting_46 hw hs

set_option maxHeartbeats 4000000 in
theorem c_X1_noteOuts (l : Launch) (G : GG)  (h : Mem) (h' : Mem) (hs : f_X1_noteOuts h  = some h') : Sat l G yX1_noteOuts cX1_noteOuts 5 none 3 [.ref (G.2.2.1 56)] h none h' := by
  refine Sat.mkV (by decide) (Nat.le_of_ble_eq_true rfl) ?_
  intro p e R s m args below meth c Q F hret hw ls hl
  obtain ⟨hx, hb, hml, hown, hts, hK, hSt, hN, hR⟩ := F
  have hl : lv_has ls 5 [(0, .ref (G.2.2.1 56))] := hl
  unfold f_X1_noteOuts at hs
  refine lv_aload_n (pc := 0) hx hb dX1_noteOuts_0 rfl (lv_at hl 0 rfl) ?_
  refine q_getR (pc := 1) (q := 56) (o := 1) hx hb hts hown hK hw rfl fg_X1_10 dX1_noteOuts_1 ?_
  refine q_getI (pc := 4) (q := 57) hx hb hts hown hK hw rfl fg_X1_57 dX1_noteOuts_4 ?_
  obtain ⟨x1, ex1, hs⟩ := q_nm hs
  refine q_topI ex1 ?_
  refine lv_istore_n (pc := 7) (lv' := [(1, .int x1), (0, .ref (G.2.2.1 56))]) hx hb dX1_noteOuts_7 rfl hl (by decide) rfl (fun ls hl => ?_)
  refine lv_aload_n (pc := 8) hx hb dX1_noteOuts_8 rfl (lv_at hl 1 rfl) ?_
  refine q_getR (pc := 9) (q := 56) (o := 1) hx hb hts hown hK hw rfl fg_X1_10 dX1_noteOuts_9 ?_
  refine q_getL (pc := 12) (q := 57) hx hb hts hown hK hw rfl fg_X1_60 dX1_noteOuts_12 ?_
  obtain ⟨y2, ey2, hs⟩ := q_nm hs
  refine q_topL ey2 ?_
  refine lv_lstore_n (pc := 15) (lv' := [(2, .long y2), (1, .int x1), (0, .ref (G.2.2.1 56))]) hx hb dX1_noteOuts_15 rfl hl (by decide) rfl (fun ls hl => ?_)
  refine lv_iconst (pc := 16) (v := (iI 0)) hx hb dX1_noteOuts_16 rfl ?_
  refine lv_istore (pc := 17) (lv' := [(4, .int (iI 0)), (2, .long y2), (1, .int x1), (0, .ref (G.2.2.1 56))]) hx hb dX1_noteOuts_17 hl (by decide) rfl (fun ls hl => ?_)
  refine (q_lo2 (P0 := fun (x3 : Int32) (h4 : Mem) => ∀ (H : Heap) (locs : List Loc), IW G s h4 H locs → ∀ ls : Array Slot, lv_has ls 5 [(0, .ref (G.2.2.1 56)), (1, .int x1), (2, .long y2), (4, .int x3)] → W p l e R s m args below meth c H locs 0 0 Q (F0 m 19 ls [])) hs ?_) _ _ hw _ (lv_sub hl [3, 2, 1, 0] rfl)
  intro K5 hK5 x3 h4 hs H locs hw ls hl
  unfold f_X1_noteOuts_k5 at hs
  refine lv_iload (pc := 19) hx hb dX1_noteOuts_19 (lv_at hl 3 rfl) ?_
  refine lv_aload_n (pc := 21) hx hb dX1_noteOuts_21 rfl (lv_at hl 0 rfl) ?_
  refine q_getR (pc := 22) (q := 56) (o := 1) hx hb hts hown hK hw rfl fg_X1_10 dX1_noteOuts_22 ?_
  obtain ⟨v6, ev, hs⟩ := q_cal hs
  refine q_callV (pc := 25) (q := 57) (As := []) (rest := [.int x3]) (rs := [.int v6, .int x3]) hx hb hml hl.1 hts hown hK hSt hN hw (c_X3_windows l G 57 rfl h4 v6 ev) rfl rfl cv_X1_117 (rm_ok hR (by decide)) rfl (Nat.le_of_ble_eq_true rfl) rfl rfl dX1_noteOuts_25 (fun H locs hw => ?_)
  refine lv_icmp_ge (pc := 28) (tgt := 83) hx hb dX1_noteOuts_28 (by decide) (fun hc => ?_) (fun hc => ?_)
  · replace hs := q_t hc hs
    exact q_vret hret dX1_noteOuts_83 hw hs
  · replace hs := q_f hc hs
    refine lv_iload (pc := 31) hx hb dX1_noteOuts_31 (lv_at hl 3 rfl) ?_
    refine lv_bipush (pc := 33) (v := (iI 20)) hx hb dX1_noteOuts_33 (by decide) ?_
    refine lv_icmp_ge (pc := 35) (tgt := 83) hx hb dX1_noteOuts_35 (by decide) (fun hc => ?_) (fun hc => ?_)
    · replace hs := q_t hc hs
      exact q_vret hret dX1_noteOuts_83 hw hs
    · replace hs := q_f hc hs
      refine lv_aload_n (pc := 38) hx hb dX1_noteOuts_38 rfl (lv_at hl 0 rfl) ?_
      refine q_getR (pc := 39) (q := 56) (o := 1) hx hb hts hown hK hw rfl fg_X1_10 dX1_noteOuts_39 ?_
      refine lv_iload_n (pc := 42) hx hb dX1_noteOuts_42 rfl (lv_at hl 1 rfl) ?_
      refine lv_lload_n (pc := 43) hx hb dX1_noteOuts_43 rfl (lv_at hl 2 rfl) ?_
      obtain ⟨h7, ev, hs⟩ := q_cal hs
      refine q_callV (pc := 44) (q := 57) (As := [.int x1, .long y2]) (rest := []) (rs := []) hx hb hml hl.1 hts hown hK hSt hN hw (c_X3_stand l G 57 rfl x1 y2 h4 h7 ev) rfl rfl cv_X1_74 (rm_ok hR (by decide)) rfl (Nat.le_of_ble_eq_true rfl) rfl rfl dX1_noteOuts_44 (fun H locs hw => ?_)
      refine lv_aload_n (pc := 47) hx hb dX1_noteOuts_47 rfl (lv_at hl 0 rfl) ?_
      refine q_getR (pc := 48) (q := 56) (o := 7) hx hb hts hown hK hw rfl fg_X1_38 dX1_noteOuts_48 ?_
      refine lv_iload (pc := 51) hx hb dX1_noteOuts_51 (lv_at hl 3 rfl) ?_
      refine lv_dup2_11 (pc := 53) hx hb dX1_noteOuts_53 rfl rfl ?_
      refine q_ald (pc := 54) (q := 63) (n := 20) hx hb hK hw rfl dX1_noteOuts_54 hs (fun v8 hs => ?_)
      refine lv_iconst (pc := 55) (v := (iI 1)) hx hb dX1_noteOuts_55 rfl ?_
      refine lv_bipush (pc := 56) (v := (iI 20)) hx hb dX1_noteOuts_56 (by decide) ?_
      refine lv_aload_n (pc := 58) hx hb dX1_noteOuts_58 rfl (lv_at hl 0 rfl) ?_
      refine q_getR (pc := 59) (q := 56) (o := 5) hx hb hts hown hK hw rfl fg_X1_19 dX1_noteOuts_59 ?_
      refine lv_aload_n (pc := 62) hx hb dX1_noteOuts_62 rfl (lv_at hl 0 rfl) ?_
      refine q_getR (pc := 63) (q := 56) (o := 1) hx hb hts hown hK hw rfl fg_X1_10 dX1_noteOuts_63 ?_
      refine lv_iload (pc := 66) hx hb dX1_noteOuts_66 (lv_at hl 3 rfl) ?_
      obtain ⟨v9, h10, ev, hs⟩ := q_cal2 hs
      refine q_callV (pc := 68) (q := 61) (As := [.ref (G.2.2.1 57), .int x3]) (rest := [.int (iI 20), .int (iI 1), .int v8, .int x3, .ref (G.2.2.1 63)]) (rs := [.int v9, .int (iI 20), .int (iI 1), .int v8, .int x3, .ref (G.2.2.1 63)]) hx hb hml hl.1 hts hown hK hSt hN hw (c_X0_run l G 61 rfl 57 rfl x3 h7 v9 h10 ev) rfl rfl cv_X1_85 (rm_ok hR (by decide)) rfl (Nat.le_of_ble_eq_true rfl) rfl rfl dX1_noteOuts_68 (fun H locs hw => ?_)
      refine q_min (pc := 71) (rest := [.int (iI 1), .int v8, .int x3, .ref (G.2.2.1 63)]) hx hb hml hl.1 hts hown (rm_mm hR (by decide) (Nat.le_of_ble_eq_true rfl)) mt_X1_126 dX1_noteOuts_71 ?_
      refine q_ishl (pc := 74) hx hb dX1_noteOuts_74 ?_
      refine lv_ior (pc := 75) hx hb dX1_noteOuts_75 ?_
      refine q_ast (pc := 76) (q := 63) (n := 20) hx hb hK hw rfl dX1_noteOuts_76 hs (fun h11 H locs hw hs => ?_)
      obtain ⟨x12, ex12, hs⟩ := q_nm hs
      refine lv_iinc (pc := 77) (v := x12) (lv' := [(4, .int x12), (0, .ref (G.2.2.1 56)), (1, .int x1), (2, .long y2)]) hx hb dX1_noteOuts_77 hl (k := 3) rfl ex12 (by decide) rfl (fun ls hl => ?_)
      refine lv_goto (pc := 80) (tgt := 19) hx hb dX1_noteOuts_80 (by decide) ?_
      exact hK5 _ _ hs _ _ hw _ (lv_sub hl [1, 2, 3, 0] rfl)

def RC_LEADS (l : Launch) (G : GG) (rec : Nat → Int32 → Int32 → Nat → Mem → Option (Int32 × Mem)) (d : Nat) : Prop :=
  (∀ (a1 : Int32) (a2 : Int32) (q3 : Nat) (hq3 : LAY[q3]? = some (6, 0)) (h : Mem) (v : Int32) (h' : Mem), rec 0 a1 a2 q3 h = some (v, h') → Sat l G yX2_leads cX2_leads 4 (some .boolean) d [.ref (G.2.2.1 39), .int a1, .int a2, .ref (G.2.2.1 q3)] h (some (.int v)) h') ∧
  (∀ (a1 : Int32) (a2 : Int32) (q3 : Nat) (hq3 : LAY[q3]? = some (6, 0)) (h : Mem) (v : Int32) (h' : Mem), rec 1 a1 a2 q3 h = some (v, h') → Sat l G yX2_leadsByWindow cX2_leadsByWindow 5 (some .boolean) d [.ref (G.2.2.1 39), .int a1, .int a2, .ref (G.2.2.1 q3)] h (some (.int v)) h')

set_option maxHeartbeats 4000000 in
theorem cb_X2_leads (l : Launch) (G : GG) (d : Nat) (rec : Nat → Int32 → Int32 → Nat → Mem → Option (Int32 × Mem)) (hrec : RC_LEADS l G rec d) (hd : 3 ≤ d) (a1 : Int32) (a2 : Int32) (q3 : Nat) (hq3 : LAY[q3]? = some (6, 0)) (h : Mem) (v : Int32) (h' : Mem) (hs : b_X2_leads rec a1 a2 q3 h = some (v, h')) : Sat l G yX2_leads cX2_leads 4 (some .boolean) (d + 1) [.ref (G.2.2.1 39), .int a1, .int a2, .ref (G.2.2.1 q3)] h (some (.int v)) h' := by
  refine Sat.mkZ (by decide) (Nat.le_of_ble_eq_true rfl) ?_
  intro p e R s m args below meth c Q F hret hw ls hl
  obtain ⟨hx, hb, hml, hown, hts, hK, hSt, hN, hR⟩ := F
  have hl : lv_has ls 4 [(0, .ref (G.2.2.1 39)), (1, .int a1), (2, .int a2), (3, .ref (G.2.2.1 q3))] := hl
  unfold b_X2_leads at hs
  refine lv_iload_n (pc := 0) hx hb dX2_leads_0 rfl (lv_at hl 1 rfl) ?_
  refine lv_iload_n (pc := 1) hx hb dX2_leads_1 rfl (lv_at hl 2 rfl) ?_
  refine q_join0 (P0 := ∀ (H : Heap) (locs : List Loc), IW G s h H locs → ∀ ls : Array Slot, lv_has ls 4 [(0, .ref (G.2.2.1 39)), (3, .ref (G.2.2.1 q3))] → W p l e R s m args below meth c H locs 0 0 Q (F0 m 10 ls [])) hs ?_ ?_
  · intro  hs H locs hw ls hl
    refine lv_aload_n (pc := 10) hx hb dX2_leads_10 rfl (lv_at hl 0 rfl) ?_
    refine q_getR (pc := 11) (q := 39) (o := 1) hx hb hts hown hK hw rfl fg_X2_10 dX2_leads_11 ?_
    refine lv_aload_n (pc := 14) hx hb dX2_leads_14 rfl (lv_at hl 1 rfl) ?_
    obtain ⟨v2, ev, hs⟩ := q_cal hs
    refine q_callV (pc := 15) (q := 40) (As := [.ref (G.2.2.1 q3)]) (rest := []) (rs := [.int v2]) hx hb hml hl.1 hts hown hK hSt hN hw (c_X3_standsAs l G 40 rfl q3 hq3 h v2 ev) rfl rfl cv_X2_58 (rm_ok hR (by omega)) rfl (Nat.le_of_ble_eq_true rfl) rfl rfl dX2_leads_15 (fun H locs hw => ?_)
    refine lv_goto (pc := 18) (tgt := 28) hx hb dX2_leads_18 (by decide) ?_
    exact q_zretW hret dX2_leads_28 hw hs
  · intro K1 hK1 hs
    refine lv_icmp_ge (pc := 2) (tgt := 10) hx hb dX2_leads_2 (by decide) (fun hc => ?_) (fun hc => ?_)
    · replace hs := q_t hc hs
      exact hK1 hs _ _ hw _ (lv_sub hl [0, 3] rfl)
    · replace hs := q_f hc hs
      refine lv_iload_n (pc := 5) hx hb dX2_leads_5 rfl (lv_at hl 1 rfl) ?_
      refine lv_iconst (pc := 6) (v := (iI 3)) hx hb dX2_leads_6 rfl ?_
      refine lv_icmp_lt (pc := 7) (tgt := 21) hx hb dX2_leads_7 (by decide) (fun hc => ?_) (fun hc => ?_)
      · replace hs := q_t hc hs
        refine lv_aload_n (pc := 21) hx hb dX2_leads_21 rfl (lv_at hl 0 rfl) ?_
        refine lv_iload_n (pc := 22) hx hb dX2_leads_22 rfl (lv_at hl 1 rfl) ?_
        refine lv_iload_n (pc := 23) hx hb dX2_leads_23 rfl (lv_at hl 2 rfl) ?_
        refine lv_aload_n (pc := 24) hx hb dX2_leads_24 rfl (lv_at hl 3 rfl) ?_
        obtain ⟨v3, h4, ev, hs⟩ := q_cal2 hs
        refine q_callV (pc := 25) (q := 39) (As := [.int a1, .int a2, .ref (G.2.2.1 q3)]) (rest := []) (rs := [.int v3]) hx hb hml hl.1 hts hown hK hSt hN hw (hrec.2 a1 a2 q3 hq3 h v3 h4 ev) rfl rfl cv_X2_66 (rm_ok hR (by omega)) rfl (Nat.le_of_ble_eq_true rfl) rfl rfl dX2_leads_25 (fun H locs hw => ?_)
        exact q_zretW hret dX2_leads_28 hw hs
      · replace hs := q_f hc hs
        exact hK1 hs _ _ hw _ (lv_sub hl [0, 3] rfl)

set_option maxHeartbeats 4000000 in
theorem cb_X2_leadsByWindow (l : Launch) (G : GG) (d : Nat) (rec : Nat → Int32 → Int32 → Nat → Mem → Option (Int32 × Mem)) (hrec : RC_LEADS l G rec d) (hd : 3 ≤ d) (a1 : Int32) (a2 : Int32) (q3 : Nat) (hq3 : LAY[q3]? = some (6, 0)) (h : Mem) (v : Int32) (h' : Mem) (hs : b_X2_leadsByWindow rec a1 a2 q3 h = some (v, h')) : Sat l G yX2_leadsByWindow cX2_leadsByWindow 5 (some .boolean) (d + 1) [.ref (G.2.2.1 39), .int a1, .int a2, .ref (G.2.2.1 q3)] h (some (.int v)) h' := by
  refine Sat.mkZ (by decide) (Nat.le_of_ble_eq_true rfl) ?_
  intro p e R s m args below meth c Q F hret hw ls hl
  obtain ⟨hx, hb, hml, hown, hts, hK, hSt, hN, hR⟩ := F
  have hl : lv_has ls 5 [(0, .ref (G.2.2.1 39)), (1, .int a1), (2, .int a2), (3, .ref (G.2.2.1 q3))] := hl
  unfold b_X2_leadsByWindow at hs
  refine lv_aload_n (pc := 0) hx hb dX2_leadsByWindow_0 rfl (lv_at hl 0 rfl) ?_
  refine q_getR (pc := 1) (q := 39) (o := 7) hx hb hts hown hK hw rfl fg_X2_27 dX2_leadsByWindow_1 ?_
  refine lv_iload_n (pc := 4) hx hb dX2_leadsByWindow_4 rfl (lv_at hl 1 rfl) ?_
  refine lv_aload_n (pc := 5) hx hb dX2_leadsByWindow_5 rfl (lv_at hl 0 rfl) ?_
  refine q_getR (pc := 6) (q := 39) (o := 1) hx hb hts hown hK hw rfl fg_X2_10 dX2_leadsByWindow_6 ?_
  refine q_getI (pc := 9) (q := 40) hx hb hts hown hK hw rfl fg_X2_69 dX2_leadsByWindow_9 ?_
  refine q_ast (pc := 12) (q := 46) (n := 3) hx hb hK hw rfl dX2_leadsByWindow_12 hs (fun h1 H locs hw hs => ?_)
  refine lv_aload_n (pc := 13) hx hb dX2_leadsByWindow_13 rfl (lv_at hl 0 rfl) ?_
  refine q_getR (pc := 14) (q := 39) (o := 8) hx hb hts hown hK hw rfl fg_X2_30 dX2_leadsByWindow_14 ?_
  refine lv_iload_n (pc := 17) hx hb dX2_leadsByWindow_17 rfl (lv_at hl 1 rfl) ?_
  refine lv_aload_n (pc := 18) hx hb dX2_leadsByWindow_18 rfl (lv_at hl 0 rfl) ?_
  refine q_getR (pc := 19) (q := 39) (o := 1) hx hb hts hown hK hw rfl fg_X2_10 dX2_leadsByWindow_19 ?_
  refine q_getL (pc := 22) (q := 40) hx hb hts hown hK hw rfl fg_X2_72 dX2_leadsByWindow_22 ?_
  refine q_astL (pc := 25) (q := 47) (n := 3) hx hb hK hw rfl dX2_leadsByWindow_25 hs (fun h2 H locs hw hs => ?_)
  refine lv_iconst (pc := 26) (v := (iI 0)) hx hb dX2_leadsByWindow_26 rfl ?_
  refine lv_istore (pc := 27) (lv' := [(4, .int (iI 0)), (0, .ref (G.2.2.1 39)), (1, .int a1), (2, .int a2), (3, .ref (G.2.2.1 q3))]) hx hb dX2_leadsByWindow_27 hl (by decide) rfl (fun ls hl => ?_)
  refine (q_lo2 (P0 := fun (x3 : Int32) (h4 : Mem) => ∀ (H : Heap) (locs : List Loc), IW G s h4 H locs → ∀ ls : Array Slot, lv_has ls 5 [(0, .ref (G.2.2.1 39)), (1, .int a1), (2, .int a2), (3, .ref (G.2.2.1 q3)), (4, .int x3)] → W p l e R s m args below meth c H locs 0 0 Q (F0 m 29 ls [])) hs ?_) _ _ hw _ (lv_sub hl [1, 2, 3, 4, 0] rfl)
  intro K5 hK5 x3 h4 hs H locs hw ls hl
  unfold b_X2_leadsByWindow_k5 at hs
  refine lv_iload (pc := 29) hx hb dX2_leadsByWindow_29 (lv_at hl 4 rfl) ?_
  refine lv_aload_n (pc := 31) hx hb dX2_leadsByWindow_31 rfl (lv_at hl 0 rfl) ?_
  refine q_getR (pc := 32) (q := 39) (o := 1) hx hb hts hown hK hw rfl fg_X2_10 dX2_leadsByWindow_32 ?_
  obtain ⟨v6, ev, hs⟩ := q_cal hs
  refine q_callV (pc := 35) (q := 40) (As := []) (rest := [.int x3]) (rs := [.int v6, .int x3]) hx hb hml hl.1 hts hown hK hSt hN hw (c_X3_windows l G 40 rfl h4 v6 ev) rfl rfl cv_X2_76 (rm_ok hR (by omega)) rfl (Nat.le_of_ble_eq_true rfl) rfl rfl dX2_leadsByWindow_35 (fun H locs hw => ?_)
  refine lv_icmp_ge (pc := 38) (tgt := 102) hx hb dX2_leadsByWindow_38 (by decide) (fun hc => ?_) (fun hc => ?_)
  · replace hs := q_t hc hs
    refine lv_iconst (pc := 102) (v := (iI 0)) hx hb dX2_leadsByWindow_102 rfl ?_
    exact q_zretW hret dX2_leadsByWindow_103 hw hs
  · replace hs := q_f hc hs
    refine lv_aload_n (pc := 41) hx hb dX2_leadsByWindow_41 rfl (lv_at hl 0 rfl) ?_
    refine q_getR (pc := 42) (q := 39) (o := 1) hx hb hts hown hK hw rfl fg_X2_10 dX2_leadsByWindow_42 ?_
    refine lv_aload_n (pc := 45) hx hb dX2_leadsByWindow_45 rfl (lv_at hl 0 rfl) ?_
    refine q_getR (pc := 46) (q := 39) (o := 7) hx hb hts hown hK hw rfl fg_X2_27 dX2_leadsByWindow_46 ?_
    refine lv_iload_n (pc := 49) hx hb dX2_leadsByWindow_49 rfl (lv_at hl 1 rfl) ?_
    refine q_ald (pc := 50) (q := 46) (n := 3) hx hb hK hw rfl dX2_leadsByWindow_50 hs (fun v7 hs => ?_)
    refine lv_aload_n (pc := 51) hx hb dX2_leadsByWindow_51 rfl (lv_at hl 0 rfl) ?_
    refine q_getR (pc := 52) (q := 39) (o := 8) hx hb hts hown hK hw rfl fg_X2_30 dX2_leadsByWindow_52 ?_
    refine lv_iload_n (pc := 55) hx hb dX2_leadsByWindow_55 rfl (lv_at hl 1 rfl) ?_
    refine q_aldL (pc := 56) (q := 47) (n := 3) hx hb hK hw rfl dX2_leadsByWindow_56 hs (fun w8 hs => ?_)
    obtain ⟨h9, ev, hs⟩ := q_cal hs
    refine q_callV (pc := 57) (q := 40) (As := [.int v7, .long w8]) (rest := []) (rs := []) hx hb hml hl.1 hts hown hK hSt hN hw (c_X3_stand l G 40 rfl v7 w8 h4 h9 ev) rfl rfl cv_X2_80 (rm_ok hR (by omega)) rfl (Nat.le_of_ble_eq_true rfl) rfl rfl dX2_leadsByWindow_57 (fun H locs hw => ?_)
    refine lv_aload_n (pc := 60) hx hb dX2_leadsByWindow_60 rfl (lv_at hl 0 rfl) ?_
    refine q_getR (pc := 61) (q := 39) (o := 5) hx hb hts hown hK hw rfl fg_X2_19 dX2_leadsByWindow_61 ?_
    refine lv_aload_n (pc := 64) hx hb dX2_leadsByWindow_64 rfl (lv_at hl 0 rfl) ?_
    refine q_getR (pc := 65) (q := 39) (o := 1) hx hb hts hown hK hw rfl fg_X2_10 dX2_leadsByWindow_65 ?_
    refine lv_iload (pc := 68) hx hb dX2_leadsByWindow_68 (lv_at hl 4 rfl) ?_
    obtain ⟨v10, h11, ev, hs⟩ := q_cal2 hs
    refine q_callV (pc := 70) (q := 44) (As := [.ref (G.2.2.1 40), .int x3]) (rest := []) (rs := [.int v10]) hx hb hml hl.1 hts hown hK hSt hN hw (c_X0_run l G 44 rfl 40 rfl x3 h9 v10 h11 ev) rfl rfl cv_X2_54 (rm_ok hR (by omega)) rfl (Nat.le_of_ble_eq_true rfl) rfl rfl dX2_leadsByWindow_70 (fun H locs hw => ?_)
    refine lv_pop (pc := 73) hx hb dX2_leadsByWindow_73 rfl ?_
    refine lv_aload_n (pc := 74) hx hb dX2_leadsByWindow_74 rfl (lv_at hl 0 rfl) ?_
    refine q_getR (pc := 75) (q := 39) (o := 6) hx hb hts hown hK hw rfl fg_X2_23 dX2_leadsByWindow_75 ?_
    refine lv_iload_n (pc := 78) hx hb dX2_leadsByWindow_78 rfl (lv_at hl 1 rfl) ?_
    refine lv_iload (pc := 79) hx hb dX2_leadsByWindow_79 (lv_at hl 4 rfl) ?_
    refine q_ast (pc := 81) (q := 45) (n := 3) hx hb hK hw rfl dX2_leadsByWindow_81 hs (fun h12 H locs hw hs => ?_)
    refine lv_aload_n (pc := 82) hx hb dX2_leadsByWindow_82 rfl (lv_at hl 0 rfl) ?_
    refine lv_iload_n (pc := 83) hx hb dX2_leadsByWindow_83 rfl (lv_at hl 1 rfl) ?_
    refine lv_iconst (pc := 84) (v := (iI 1)) hx hb dX2_leadsByWindow_84 rfl ?_
    refine lv_iadd (pc := 85) hx hb dX2_leadsByWindow_85 ?_
    refine lv_iload_n (pc := 86) hx hb dX2_leadsByWindow_86 rfl (lv_at hl 2 rfl) ?_
    refine lv_aload_n (pc := 87) hx hb dX2_leadsByWindow_87 rfl (lv_at hl 3 rfl) ?_
    obtain ⟨v13, h14, ev, hs⟩ := q_cal2 hs
    refine q_callV (pc := 88) (q := 39) (As := [.int (a1 + (iI 1)), .int a2, .ref (G.2.2.1 q3)]) (rest := []) (rs := [.int v13]) hx hb hml hl.1 hts hown hK hSt hN hw (hrec.1 (a1 + (iI 1)) a2 q3 hq3 h12 v13 h14 ev) rfl rfl cv_X2_62 (rm_ok hR (by omega)) rfl (Nat.le_of_ble_eq_true rfl) rfl rfl dX2_leadsByWindow_88 (fun H locs hw => ?_)
    refine lv_if_eq (pc := 91) (tgt := 96) hx hb dX2_leadsByWindow_91 (by decide) (fun hc => ?_) (fun hc => ?_)
    · replace hs := q_t hc hs
      obtain ⟨x15, ex15, hs⟩ := q_nm hs
      refine lv_iinc (pc := 96) (v := x15) (lv' := [(4, .int x15), (0, .ref (G.2.2.1 39)), (1, .int a1), (2, .int a2), (3, .ref (G.2.2.1 q3))]) hx hb dX2_leadsByWindow_96 hl (k := 4) rfl ex15 (by decide) rfl (fun ls hl => ?_)
      refine lv_goto (pc := 99) (tgt := 29) hx hb dX2_leadsByWindow_99 (by decide) ?_
      exact hK5 _ _ hs _ _ hw _ (lv_sub hl [1, 2, 3, 4, 0] rfl)
    · replace hs := q_f hc hs
      refine lv_iconst (pc := 94) (v := (iI 1)) hx hb dX2_leadsByWindow_94 rfl ?_
      exact q_zretW hret dX2_leadsByWindow_95 hw hs

theorem rc_LEADS (l : Launch) (G : GG) : ∀ n : Nat, RC_LEADS l G (g_LEADS n) (n + 3)
  | 0 => ⟨fun _ _ _ _ _ _ _ hs => (by cases hs), fun _ _ _ _ _ _ _ hs => (by cases hs)⟩
  | n + 1 => by
    have ih := rc_LEADS l G n
    rw [show n + 1 + 3 = n + 3 + 1 by omega]
    exact ⟨fun a1 a2 q3 hq3 h v h' hs => cb_X2_leads l G (n + 3) (g_LEADS n) ih (by omega) a1 a2 q3 hq3 h v h' hs, fun a1 a2 q3 hq3 h v h' hs => cb_X2_leadsByWindow l G (n + 3) (g_LEADS n) ih (by omega) a1 a2 q3 hq3 h v h' hs⟩

set_option maxHeartbeats 4000000 in
theorem c_X4_isLit (l : Launch) (G : GG) (q1 : Nat) (hq1 : LAY[q1]? = some (6, 0)) (a2 : Int32) (h : Mem) (v : Int32) (h' : Mem) (hs : f_X4_isLit h q1 a2 = some (v, h')) : Sat l G yX4_isLit cX4_isLit 3 (some .boolean) 3 [.ref (G.2.2.1 50), .ref (G.2.2.1 q1), .int a2] h (some (.int v)) h' := by
  refine Sat.mkZ (by decide) (Nat.le_of_ble_eq_true rfl) ?_
  intro p e R s m args below meth c Q F hret hw ls hl
  obtain ⟨hx, hb, hml, hown, hts, hK, hSt, hN, hR⟩ := F
  have hl : lv_has ls 3 [(0, .ref (G.2.2.1 50)), (1, .ref (G.2.2.1 q1)), (2, .int a2)] := hl
  unfold f_X4_isLit at hs
  refine lv_aload_n (pc := 0) hx hb dX4_isLit_0 rfl (lv_at hl 0 rfl) ?_
  refine q_getR (pc := 1) (q := 50) (o := 1) hx hb hts hown hK hw rfl fg_X4_10 dX4_isLit_1 ?_
  refine lv_aload_n (pc := 4) hx hb dX4_isLit_4 rfl (lv_at hl 1 rfl) ?_
  refine q_getI (pc := 5) (q := q1) hx hb hts hown hK hw hq1 fg_X4_59 dX4_isLit_5 ?_
  refine lv_iload_n (pc := 8) hx hb dX4_isLit_8 rfl (lv_at hl 2 rfl) ?_
  refine lv_ixor (pc := 9) hx hb dX4_isLit_9 ?_
  refine lv_aload_n (pc := 10) hx hb dX4_isLit_10 rfl (lv_at hl 1 rfl) ?_
  refine q_getL (pc := 11) (q := q1) hx hb hts hown hK hw hq1 fg_X4_62 dX4_isLit_11 ?_
  obtain ⟨h1, ev, hs⟩ := q_cal hs
  refine q_callV (pc := 14) (q := 51) (As := [.int ((gI h q1 5) ^^^ a2), .long (gL h q1 6)]) (rest := []) (rs := []) hx hb hml hl.1 hts hown hK hSt hN hw (c_X3_stand l G 51 rfl ((gI h q1 5) ^^^ a2) (gL h q1 6) h h1 ev) rfl rfl cv_X4_66 (rm_ok hR (by decide)) rfl (Nat.le_of_ble_eq_true rfl) rfl rfl dX4_isLit_14 (fun H locs hw => ?_)
  refine lv_aload_n (pc := 17) hx hb dX4_isLit_17 rfl (lv_at hl 0 rfl) ?_
  refine q_getR (pc := 18) (q := 50) (o := 5) hx hb hts hown hK hw rfl fg_X4_19 dX4_isLit_18 ?_
  refine lv_aload_n (pc := 21) hx hb dX4_isLit_21 rfl (lv_at hl 0 rfl) ?_
  refine q_getR (pc := 22) (q := 50) (o := 1) hx hb hts hown hK hw rfl fg_X4_10 dX4_isLit_22 ?_
  refine lv_aload_n (pc := 25) hx hb dX4_isLit_25 rfl (lv_at hl 0 rfl) ?_
  refine q_getI (pc := 26) (q := 50) hx hb hts hown hK hw rfl fg_X4_27 dX4_isLit_26 ?_
  obtain ⟨v2, h3, ev, hs⟩ := q_cal2 hs
  refine q_callV (pc := 29) (q := 55) (As := [.ref (G.2.2.1 51), .int (gI h1 50 3)]) (rest := []) (rs := [.int v2]) hx hb hml hl.1 hts hown hK hSt hN hw (c_X0_run l G 55 rfl 51 rfl (gI h1 50 3) h1 v2 h3 ev) rfl rfl cv_X4_70 (rm_ok hR (by decide)) rfl (Nat.le_of_ble_eq_true rfl) rfl rfl dX4_isLit_29 (fun H locs hw => ?_)
  refine lv_pop (pc := 32) hx hb dX4_isLit_32 rfl ?_
  refine lv_aload_n (pc := 33) hx hb dX4_isLit_33 rfl (lv_at hl 0 rfl) ?_
  refine q_getR (pc := 34) (q := 50) (o := 5) hx hb hts hown hK hw rfl fg_X4_19 dX4_isLit_34 ?_
  refine q_getI (pc := 37) (q := 55) hx hb hts hown hK hw rfl fg_X4_74 dX4_isLit_37 ?_
  refine lv_aload_n (pc := 40) hx hb dX4_isLit_40 rfl (lv_at hl 0 rfl) ?_
  refine q_getI (pc := 41) (q := 50) hx hb hts hown hK hw rfl fg_X4_23 dX4_isLit_41 ?_
  refine lv_iushr (pc := 44) (v := (ushI (gI h3 55 5) (gI h3 50 2))) hx hb dX4_isLit_44 rfl ?_
  refine lv_iconst (pc := 45) (v := (iI 1)) hx hb dX4_isLit_45 rfl ?_
  refine lv_iand (pc := 46) hx hb dX4_isLit_46 ?_
  refine lv_iconst (pc := 47) (v := (iI 1)) hx hb dX4_isLit_47 rfl ?_
  refine lv_icmp_ne (pc := 48) (tgt := 55) hx hb dX4_isLit_48 (by decide) (fun hc => ?_) (fun hc => ?_)
  · replace hs := q_t hc hs
    refine lv_iconst (pc := 55) (v := (iI 0)) hx hb dX4_isLit_55 rfl ?_
    exact q_zretW hret dX4_isLit_56 hw hs
  · replace hs := q_f (fun z => z hc) hs
    refine lv_iconst (pc := 51) (v := (iI 1)) hx hb dX4_isLit_51 rfl ?_
    refine lv_goto (pc := 52) (tgt := 56) hx hb dX4_isLit_52 (by decide) ?_
    exact q_zretW hret dX4_isLit_56 hw hs

set_option maxHeartbeats 4000000 in
theorem c_X6_faultIn (l : Launch) (G : GG) (q1 n1 : Nat) (hq1 : LAY[q1]? = some (0, n1)) (a2 : Int32) (a3 : Int32) (h : Mem) (v : Int32) (h' : Mem) (hs : f_X6_faultIn h q1 n1 a2 a3 = some (v, h')) : Sat l G yX6_faultIn cX6_faultIn 4 (some .int) 99 [.ref (G.2.2.1 34), .ref (G.2.2.1 q1), .int a2, .int a3] h (some (.int v)) h' := by
  refine Sat.mkI (by decide) (Nat.le_of_ble_eq_true rfl) ?_
  intro p e R s m args below meth c Q F hret hw ls hl
  obtain ⟨hx, hb, hml, hown, hts, hK, hSt, hN, hR⟩ := F
  have hl : lv_has ls 4 [(0, .ref (G.2.2.1 34)), (1, .ref (G.2.2.1 q1)), (2, .int a2), (3, .int a3)] := hl
  unfold f_X6_faultIn at hs
  refine lv_aload_n (pc := 0) hx hb dX6_faultIn_0 rfl (lv_at hl 0 rfl) ?_
  refine lv_iload_n (pc := 1) hx hb dX6_faultIn_1 rfl (lv_at hl 2 rfl) ?_
  refine lv_iconst (pc := 2) (v := (iI 0)) hx hb dX6_faultIn_2 rfl ?_
  refine lv_aload_n (pc := 3) hx hb dX6_faultIn_3 rfl (lv_at hl 1 rfl) ?_
  refine q_alen (pc := 4) (q := q1) (n := n1) hx hb hK hw hq1 dX6_faultIn_4 ?_
  refine lv_aload_n (pc := 5) hx hb dX6_faultIn_5 rfl (lv_at hl 0 rfl) ?_
  refine q_getR (pc := 6) (q := 34) (o := 2) hx hb hts hown hK hw rfl fg_X6_19 dX6_faultIn_6 ?_
  refine q_alen (pc := 9) (q := 36) (n := 50) hx hb hK hw rfl dX6_faultIn_9 ?_
  refine q_min (pc := 10) (rest := [.int (iI 0), .int a2, .ref (G.2.2.1 34)]) hx hb hml hl.1 hts hown (rm_mm hR (by decide) (Nat.le_of_ble_eq_true rfl)) mt_X6_35 dX6_faultIn_10 ?_
  obtain ⟨v1, ev, hs⟩ := q_cal hs
  refine q_callN (pc := 13) (As := [.int a2, .int (iI 0), .int (mnI (Int32.ofNat n1) (Int32.ofNat 50))]) (rest := [.ref (G.2.2.1 34)]) (rs := [.int v1, .ref (G.2.2.1 34)]) hx hb hml hl.1 hts hown hK hSt hN hw (c_X10_held l G a2 (iI 0) (mnI (Int32.ofNat n1) (Int32.ofNat 50)) h v1 ev) cn_X6_41 (rm_ok hR (by decide)) rfl (Nat.le_of_ble_eq_true rfl) rfl rfl dX6_faultIn_13 (fun H locs hw => ?_)
  refine q_putI (pc := 16) (q := 34) hx hb hts hown hK hw rfl fp_X6_22 dX6_faultIn_16 hs (fun h2 H locs hw hs => ?_)
  refine lv_aload_n (pc := 19) hx hb dX6_faultIn_19 rfl (lv_at hl 1 rfl) ?_
  refine lv_iconst (pc := 20) (v := (iI 0)) hx hb dX6_faultIn_20 rfl ?_
  refine lv_aload_n (pc := 21) hx hb dX6_faultIn_21 rfl (lv_at hl 0 rfl) ?_
  refine q_getR (pc := 22) (q := 34) (o := 2) hx hb hts hown hK hw rfl fg_X6_19 dX6_faultIn_22 ?_
  refine lv_iconst (pc := 25) (v := (iI 0)) hx hb dX6_faultIn_25 rfl ?_
  refine lv_aload_n (pc := 26) hx hb dX6_faultIn_26 rfl (lv_at hl 0 rfl) ?_
  refine q_getI (pc := 27) (q := 34) hx hb hts hown hK hw rfl fg_X6_22 dX6_faultIn_27 ?_
  refine q_acp (pc := 30) (a := q1) (b := 36) (an := n1) (bn := 50) hx hb hml hl.1 hts hown hK hw hq1 rfl ac_X6_47 (rm_ac hR (by decide)) dX6_faultIn_30 hs (fun h3 H locs hw hs => ?_)
  refine lv_aload_n (pc := 33) hx hb dX6_faultIn_33 rfl (lv_at hl 0 rfl) ?_
  refine lv_iload_n (pc := 34) hx hb dX6_faultIn_34 rfl (lv_at hl 3 rfl) ?_
  refine q_putI (pc := 35) (q := 34) hx hb hts hown hK hw rfl fp_X6_28 dX6_faultIn_35 hs (fun h4 H locs hw hs => ?_)
  refine lv_aload_n (pc := 38) hx hb dX6_faultIn_38 rfl (lv_at hl 0 rfl) ?_
  refine lv_iconst (pc := 39) (v := (iI 0)) hx hb dX6_faultIn_39 rfl ?_
  refine q_putI (pc := 40) (q := 34) hx hb hts hown hK hw rfl fp_X6_25 dX6_faultIn_40 hs (fun h5 H locs hw hs => ?_)
  refine lv_aload_n (pc := 43) hx hb dX6_faultIn_43 rfl (lv_at hl 0 rfl) ?_
  refine lv_iconst (pc := 44) (v := (iI 0)) hx hb dX6_faultIn_44 rfl ?_
  refine q_putI (pc := 45) (q := 34) hx hb hts hown hK hw rfl fp_X6_15 dX6_faultIn_45 hs (fun h6 H locs hw hs => ?_)
  refine lv_aload_n (pc := 48) hx hb dX6_faultIn_48 rfl (lv_at hl 0 rfl) ?_
  refine lv_iconst (pc := 49) (v := (iI 0)) hx hb dX6_faultIn_49 rfl ?_
  refine q_putZ (pc := 50) (q := 34) hx hb hts hown hK hw rfl fp_X6_31 dX6_faultIn_50 hs (fun h7 H locs hw hs => ?_)
  refine lv_aload_n (pc := 53) hx hb dX6_faultIn_53 rfl (lv_at hl 0 rfl) ?_
  refine lv_iconst (pc := 54) (v := (iI 0)) hx hb dX6_faultIn_54 rfl ?_
  refine lv_iconst (pc := 55) (v := (iI 0)) hx hb dX6_faultIn_55 rfl ?_
  obtain ⟨h8, ev, hs⟩ := q_cal hs
  refine q_callV (pc := 56) (q := 34) (As := [.int (iI 0), .int (iI 0)]) (rest := []) (rs := []) hx hb hml hl.1 hts hown hK hSt hN hw ((rc_READ l G 96).1 (iI 0) (iI 0) h7 h8 ev) rfl rfl cv_X6_53 (rm_ok hR (by decide)) rfl (Nat.le_of_ble_eq_true rfl) rfl rfl dX6_faultIn_56 (fun H locs hw => ?_)
  refine lv_aload_n (pc := 59) hx hb dX6_faultIn_59 rfl (lv_at hl 0 rfl) ?_
  refine q_getI (pc := 60) (q := 34) hx hb hts hown hK hw rfl fg_X6_31 dX6_faultIn_60 ?_
  refine q_join0 (P0 := ∀ (H : Heap) (locs : List Loc), IW G s h8 H locs → ∀ ls : Array Slot, lv_has ls 4 [(0, .ref (G.2.2.1 34))] → W p l e R s m args below meth c H locs 0 0 Q (F0 m 77 ls [])) hs ?_ ?_
  · intro  hs H locs hw ls hl
    refine lv_aload_n (pc := 77) hx hb dX6_faultIn_77 rfl (lv_at hl 0 rfl) ?_
    refine q_getI (pc := 78) (q := 34) hx hb hts hown hK hw rfl fg_X6_25 dX6_faultIn_78 ?_
    refine lv_goto (pc := 81) (tgt := 85) hx hb dX6_faultIn_81 (by decide) ?_
    exact q_iretW hret dX6_faultIn_85 hw hs
  · intro K9 hK9 hs
    refine lv_if_ne (pc := 63) (tgt := 77) hx hb dX6_faultIn_63 (by decide) (fun hc => ?_) (fun hc => ?_)
    · replace hs := q_t hc hs
      exact hK9 hs _ _ hw _ (lv_sub hl [0] rfl)
    · replace hs := q_f (fun z => z hc) hs
      refine lv_aload_n (pc := 66) hx hb dX6_faultIn_66 rfl (lv_at hl 0 rfl) ?_
      refine q_getI (pc := 67) (q := 34) hx hb hts hown hK hw rfl fg_X6_25 dX6_faultIn_67 ?_
      refine lv_aload_n (pc := 70) hx hb dX6_faultIn_70 rfl (lv_at hl 0 rfl) ?_
      refine q_getI (pc := 71) (q := 34) hx hb hts hown hK hw rfl fg_X6_22 dX6_faultIn_71 ?_
      refine lv_icmp_ge (pc := 74) (tgt := 84) hx hb dX6_faultIn_74 (by decide) (fun hc => ?_) (fun hc => ?_)
      · replace hs := q_t hc hs
        refine lv_iconst (pc := 84) (v := (iI (-1))) hx hb dX6_faultIn_84 rfl ?_
        exact q_iretW hret dX6_faultIn_85 hw hs
      · replace hs := q_f hc hs
        exact hK9 hs _ _ hw _ (lv_sub hl [0] rfl)

set_option maxHeartbeats 4000000 in
theorem c_X8_speakFor (l : Launch) (G : GG) (q1 : Nat) (hq1 : LAY[q1]? = some (6, 0)) (a2 : Int32) (a3 : Int32) (a4 : Int32) (h : Mem) (v : Int32) (h' : Mem) (hs : f_X8_speakFor h q1 a2 a3 a4 = some (v, h')) : Sat l G yX8_speakFor cX8_speakFor 5 (some .int) 104 [.ref (G.2.2.1 37), .ref (G.2.2.1 q1), .int a2, .int a3, .int a4] h (some (.int v)) h' := by
  refine Sat.mkI (by decide) (Nat.le_of_ble_eq_true rfl) ?_
  intro p e R s m args below meth c Q F hret hw ls hl
  obtain ⟨hx, hb, hml, hown, hts, hK, hSt, hN, hR⟩ := F
  have hl : lv_has ls 5 [(0, .ref (G.2.2.1 37)), (1, .ref (G.2.2.1 q1)), (2, .int a2), (3, .int a3), (4, .int a4)] := hl
  unfold f_X8_speakFor at hs
  refine lv_aload_n (pc := 0) hx hb dX8_speakFor_0 rfl (lv_at hl 0 rfl) ?_
  refine lv_aload_n (pc := 1) hx hb dX8_speakFor_1 rfl (lv_at hl 1 rfl) ?_
  refine q_getR (pc := 2) (q := q1) (o := 1) hx hb hts hown hK hw hq1 fg_X8_26 dX8_speakFor_2 ?_
  refine lv_iload_n (pc := 5) hx hb dX8_speakFor_5 rfl (lv_at hl 2 rfl) ?_
  refine q_ald (pc := 6) (q := (q1 + 1)) (n := 25) hx hb hK hw (wt_X3_kinds _ hq1) dX8_speakFor_6 hs (fun v1 hs => ?_)
  refine q_putI (pc := 7) (q := 37) hx hb hts hown hK hw rfl fp_X8_17 dX8_speakFor_7 hs (fun h2 H locs hw hs => ?_)
  refine lv_aload_n (pc := 10) hx hb dX8_speakFor_10 rfl (lv_at hl 0 rfl) ?_
  refine lv_iload_n (pc := 11) hx hb dX8_speakFor_11 rfl (lv_at hl 2 rfl) ?_
  refine q_putI (pc := 12) (q := 37) hx hb hts hown hK hw rfl fp_X8_20 dX8_speakFor_12 hs (fun h3 H locs hw hs => ?_)
  refine lv_aload_n (pc := 15) hx hb dX8_speakFor_15 rfl (lv_at hl 0 rfl) ?_
  refine lv_aload_n (pc := 16) hx hb dX8_speakFor_16 rfl (lv_at hl 1 rfl) ?_
  refine q_getR (pc := 17) (q := q1) (o := 2) hx hb hts hown hK hw hq1 fg_X8_31 dX8_speakFor_17 ?_
  refine lv_iload_n (pc := 20) hx hb dX8_speakFor_20 rfl (lv_at hl 2 rfl) ?_
  refine q_ald (pc := 21) (q := (q1 + 2)) (n := 25) hx hb hK hw (wt_X3_numbers _ hq1) dX8_speakFor_21 hs (fun v4 hs => ?_)
  refine q_putI (pc := 22) (q := 37) hx hb hts hown hK hw rfl fp_X8_23 dX8_speakFor_22 hs (fun h5 H locs hw hs => ?_)
  refine lv_aload_n (pc := 25) hx hb dX8_speakFor_25 rfl (lv_at hl 0 rfl) ?_
  refine lv_iconst (pc := 26) (v := (iI 0)) hx hb dX8_speakFor_26 rfl ?_
  refine q_putI (pc := 27) (q := 37) hx hb hts hown hK hw rfl fp_X8_13 dX8_speakFor_27 hs (fun h6 H locs hw hs => ?_)
  refine lv_aload_n (pc := 30) hx hb dX8_speakFor_30 rfl (lv_at hl 0 rfl) ?_
  refine lv_aload_n (pc := 31) hx hb dX8_speakFor_31 rfl (lv_at hl 0 rfl) ?_
  refine q_getI (pc := 32) (q := 37) hx hb hts hown hK hw rfl fg_X8_17 dX8_speakFor_32 ?_
  refine lv_iload_n (pc := 35) hx hb dX8_speakFor_35 rfl (lv_at hl 3 rfl) ?_
  refine lv_iload (pc := 36) hx hb dX8_speakFor_36 (lv_at hl 4 rfl) ?_
  refine lv_iconst (pc := 38) (v := (iI 0)) hx hb dX8_speakFor_38 rfl ?_
  obtain ⟨v7, h8, ev, hs⟩ := q_cal2 hs
  refine q_callV (pc := 39) (q := 37) (As := [.int (gI h6 37 2), .int a3, .int a4, .int (iI 0)]) (rest := []) (rs := [.int v7]) hx hb hml hl.1 hts hown hK hSt hN hw ((rc_VOICE l G 100).1 (gI h6 37 2) a3 a4 (iI 0) h6 v7 h8 ev) rfl rfl cv_X8_34 (rm_ok hR (by decide)) rfl (Nat.le_of_ble_eq_true rfl) rfl rfl dX8_speakFor_39 (fun H locs hw => ?_)
  exact q_iretW hret dX8_speakFor_42 hw hs

set_option maxHeartbeats 4000000 in
theorem c_X9_copyFrom (l : Launch) (G : GG) (q0 : Nat) (hq0 : LAY[q0]? = some (12, 0)) (q1 : Nat) (hq1 : LAY[q1]? = some (12, 0)) (h : Mem) (h' : Mem) (hs : f_X9_copyFrom h q0 q1 = some h') : Sat l G yX9_copyFrom cX9_copyFrom 2 none 4 [.ref (G.2.2.1 q0), .ref (G.2.2.1 q1)] h none h' := by
  refine Sat.mkV (by decide) (Nat.le_of_ble_eq_true rfl) ?_
  intro p e R s m args below meth c Q F hret hw ls hl
  obtain ⟨hx, hb, hml, hown, hts, hK, hSt, hN, hR⟩ := F
  have hl : lv_has ls 2 [(0, .ref (G.2.2.1 q0)), (1, .ref (G.2.2.1 q1))] := hl
  unfold f_X9_copyFrom at hs
  refine lv_aload_n (pc := 0) hx hb dX9_copyFrom_0 rfl (lv_at hl 0 rfl) ?_
  refine q_getR (pc := 1) (q := q0) (o := 1) hx hb hts hown hK hw hq0 fg_X9_10 dX9_copyFrom_1 ?_
  refine lv_aload_n (pc := 4) hx hb dX9_copyFrom_4 rfl (lv_at hl 1 rfl) ?_
  refine q_getR (pc := 5) (q := q1) (o := 1) hx hb hts hown hK hw hq1 fg_X9_10 dX9_copyFrom_5 ?_
  obtain ⟨h1, ev, hs⟩ := q_cal hs
  refine q_callV (pc := 8) (q := (q0 + 1)) (As := [.ref (G.2.2.1 (q1 + 1))]) (rest := []) (rs := []) hx hb hml hl.1 hts hown hK hSt hN hw (c_X3_copyFrom l G (q0 + 1) (wt_X9_hall _ hq0) (q1 + 1) (wt_X9_hall _ hq1) h h1 ev) (wt_X9_hall _ hq0) rfl cv_X9_51 (rm_ok hR (by decide)) rfl (Nat.le_of_ble_eq_true rfl) rfl rfl dX9_copyFrom_8 (fun H locs hw => ?_)
  refine lv_aload_n (pc := 11) hx hb dX9_copyFrom_11 rfl (lv_at hl 0 rfl) ?_
  refine q_getR (pc := 12) (q := q0) (o := 5) hx hb hts hown hK hw hq0 fg_X9_21 dX9_copyFrom_12 ?_
  refine lv_aload_n (pc := 15) hx hb dX9_copyFrom_15 rfl (lv_at hl 1 rfl) ?_
  refine q_getR (pc := 16) (q := q1) (o := 5) hx hb hts hown hK hw hq1 fg_X9_21 dX9_copyFrom_16 ?_
  obtain ⟨h2, ev, hs⟩ := q_cal hs
  refine q_callV (pc := 19) (q := (q0 + 5)) (As := [.ref (G.2.2.1 (q1 + 5))]) (rest := []) (rs := []) hx hb hml hl.1 hts hown hK hSt hN hw (c_X5_copyFrom l G (q0 + 5) (wt_X9_handLaw _ hq0) (q1 + 5) (wt_X9_handLaw _ hq1) h1 h2 ev) (wt_X9_handLaw _ hq0) rfl cv_X9_55 (rm_ok hR (by decide)) rfl (Nat.le_of_ble_eq_true rfl) rfl rfl dX9_copyFrom_19 (fun H locs hw => ?_)
  refine lv_aload_n (pc := 22) hx hb dX9_copyFrom_22 rfl (lv_at hl 0 rfl) ?_
  refine q_getR (pc := 23) (q := q0) (o := 8) hx hb hts hown hK hw hq0 fg_X9_25 dX9_copyFrom_23 ?_
  refine lv_aload_n (pc := 26) hx hb dX9_copyFrom_26 rfl (lv_at hl 1 rfl) ?_
  refine q_getR (pc := 27) (q := q1) (o := 8) hx hb hts hown hK hw hq1 fg_X9_25 dX9_copyFrom_27 ?_
  obtain ⟨h3, ev, hs⟩ := q_cal hs
  refine q_callV (pc := 30) (q := (q0 + 8)) (As := [.ref (G.2.2.1 (q1 + 8))]) (rest := []) (rs := []) hx hb hml hl.1 hts hown hK hSt hN hw (c_X5_copyFrom l G (q0 + 8) (wt_X9_betLaw _ hq0) (q1 + 8) (wt_X9_betLaw _ hq1) h2 h3 ev) (wt_X9_betLaw _ hq0) rfl cv_X9_55 (rm_ok hR (by decide)) rfl (Nat.le_of_ble_eq_true rfl) rfl rfl dX9_copyFrom_30 (fun H locs hw => ?_)
  refine lv_aload_n (pc := 33) hx hb dX9_copyFrom_33 rfl (lv_at hl 1 rfl) ?_
  refine q_getR (pc := 34) (q := q1) (o := 11) hx hb hts hown hK hw hq1 fg_X9_28 dX9_copyFrom_34 ?_
  refine lv_iconst (pc := 37) (v := (iI 0)) hx hb dX9_copyFrom_37 rfl ?_
  refine lv_aload_n (pc := 38) hx hb dX9_copyFrom_38 rfl (lv_at hl 0 rfl) ?_
  refine q_getR (pc := 39) (q := q0) (o := 11) hx hb hts hown hK hw hq0 fg_X9_28 dX9_copyFrom_39 ?_
  refine lv_iconst (pc := 42) (v := (iI 0)) hx hb dX9_copyFrom_42 rfl ?_
  refine lv_bipush (pc := 43) (v := (iI 50)) hx hb dX9_copyFrom_43 (by decide) ?_
  refine q_acp (pc := 45) (a := (q1 + 11)) (b := (q0 + 11)) (an := 50) (bn := 50) hx hb hml hl.1 hts hown hK hw (wt_X9_tape _ hq1) (wt_X9_tape _ hq0) ac_X9_58 (rm_ac hR (by decide)) dX9_copyFrom_45 hs (fun h4 H locs hw hs => ?_)
  refine lv_aload_n (pc := 48) hx hb dX9_copyFrom_48 rfl (lv_at hl 0 rfl) ?_
  refine lv_aload_n (pc := 49) hx hb dX9_copyFrom_49 rfl (lv_at hl 1 rfl) ?_
  refine q_getI (pc := 50) (q := q1) hx hb hts hown hK hw hq1 fg_X9_32 dX9_copyFrom_50 ?_
  refine q_putI (pc := 53) (q := q0) hx hb hts hown hK hw hq0 fp_X9_32 dX9_copyFrom_53 hs (fun h5 H locs hw hs => ?_)
  refine lv_aload_n (pc := 56) hx hb dX9_copyFrom_56 rfl (lv_at hl 1 rfl) ?_
  refine q_getR (pc := 57) (q := q1) (o := 12) hx hb hts hown hK hw hq1 fg_X9_36 dX9_copyFrom_57 ?_
  refine lv_iconst (pc := 60) (v := (iI 0)) hx hb dX9_copyFrom_60 rfl ?_
  refine lv_aload_n (pc := 61) hx hb dX9_copyFrom_61 rfl (lv_at hl 0 rfl) ?_
  refine q_getR (pc := 62) (q := q0) (o := 12) hx hb hts hown hK hw hq0 fg_X9_36 dX9_copyFrom_62 ?_
  refine lv_iconst (pc := 65) (v := (iI 0)) hx hb dX9_copyFrom_65 rfl ?_
  refine lv_bipush (pc := 66) (v := (iI 20)) hx hb dX9_copyFrom_66 (by decide) ?_
  refine q_acp (pc := 68) (a := (q1 + 12)) (b := (q0 + 12)) (an := 20) (bn := 20) hx hb hml hl.1 hts hown hK hw (wt_X9_waits _ hq1) (wt_X9_waits _ hq0) ac_X9_58 (rm_ac hR (by decide)) dX9_copyFrom_68 hs (fun h6 H locs hw hs => ?_)
  refine lv_aload_n (pc := 71) hx hb dX9_copyFrom_71 rfl (lv_at hl 0 rfl) ?_
  refine lv_aload_n (pc := 72) hx hb dX9_copyFrom_72 rfl (lv_at hl 1 rfl) ?_
  refine q_getI (pc := 73) (q := q1) hx hb hts hown hK hw hq1 fg_X9_39 dX9_copyFrom_73 ?_
  refine q_putI (pc := 76) (q := q0) hx hb hts hown hK hw hq0 fp_X9_39 dX9_copyFrom_76 hs (fun h7 H locs hw hs => ?_)
  refine lv_aload_n (pc := 79) hx hb dX9_copyFrom_79 rfl (lv_at hl 0 rfl) ?_
  refine lv_aload_n (pc := 80) hx hb dX9_copyFrom_80 rfl (lv_at hl 1 rfl) ?_
  refine q_getI (pc := 81) (q := q1) hx hb hts hown hK hw hq1 fg_X9_42 dX9_copyFrom_81 ?_
  refine q_putI (pc := 84) (q := q0) hx hb hts hown hK hw hq0 fp_X9_42 dX9_copyFrom_84 hs (fun h8 H locs hw hs => ?_)
  refine lv_aload_n (pc := 87) hx hb dX9_copyFrom_87 rfl (lv_at hl 0 rfl) ?_
  refine lv_aload_n (pc := 88) hx hb dX9_copyFrom_88 rfl (lv_at hl 1 rfl) ?_
  refine q_getI (pc := 89) (q := q1) hx hb hts hown hK hw hq1 fg_X9_45 dX9_copyFrom_89 ?_
  refine q_putI (pc := 92) (q := q0) hx hb hts hown hK hw hq0 fp_X9_45 dX9_copyFrom_92 hs (fun h9 H locs hw hs => ?_)
  refine lv_aload_n (pc := 95) hx hb dX9_copyFrom_95 rfl (lv_at hl 0 rfl) ?_
  refine lv_aload_n (pc := 96) hx hb dX9_copyFrom_96 rfl (lv_at hl 1 rfl) ?_
  refine q_getI (pc := 97) (q := q1) hx hb hts hown hK hw hq1 fg_X9_48 dX9_copyFrom_97 ?_
  refine q_putI (pc := 100) (q := q0) hx hb hts hown hK hw hq0 fp_X9_48 dX9_copyFrom_100 hs (fun h10 H locs hw hs => ?_)
  exact q_vret hret dX9_copyFrom_103 hw hs

set_option maxHeartbeats 4000000 in
theorem c_X9_handCost (l : Launch) (G : GG) (q0 : Nat) (hq0 : LAY[q0]? = some (12, 0)) (a1 : Int32) (h : Mem) (v : Int32) (h' : Mem) (hs : f_X9_handCost h q0 a1 = some (v, h')) : Sat l G yX9_handCost cX9_handCost 4 (some .int) 3 [.ref (G.2.2.1 q0), .int a1] h (some (.int v)) h' := by
  refine Sat.mkI (by decide) (Nat.le_of_ble_eq_true rfl) ?_
  intro p e R s m args below meth c Q F hret hw ls hl
  obtain ⟨hx, hb, hml, hown, hts, hK, hSt, hN, hR⟩ := F
  have hl : lv_has ls 4 [(0, .ref (G.2.2.1 q0)), (1, .int a1)] := hl
  unfold f_X9_handCost at hs
  refine lv_iload_n (pc := 0) hx hb dX9_handCost_0 rfl (lv_at hl 1 rfl) ?_
  refine lv_aload_n (pc := 1) hx hb dX9_handCost_1 rfl (lv_at hl 0 rfl) ?_
  refine q_getR (pc := 2) (q := q0) (o := 1) hx hb hts hown hK hw hq0 fg_X9_10 dX9_handCost_2 ?_
  refine q_getI (pc := 5) (q := (q0 + 1)) hx hb hts hown hK hw (wt_X9_hall _ hq0) fg_X9_66 dX9_handCost_5 ?_
  obtain ⟨v1, ev, hs⟩ := q_cal hs
  refine q_callN (pc := 8) (As := [.int a1, .int (gI h (q0 + 1) 1)]) (rest := []) (rs := [.int v1]) hx hb hml hl.1 hts hown hK hSt hN hw (c_X10_quotient l G a1 (gI h (q0 + 1) 1) h v1 ev) cn_X9_69 (rm_ok hR (by decide)) rfl (Nat.le_of_ble_eq_true rfl) rfl rfl dX9_handCost_8 (fun H locs hw => ?_)
  refine lv_istore_n (pc := 11) (lv' := [(2, .int v1), (0, .ref (G.2.2.1 q0)), (1, .int a1)]) hx hb dX9_handCost_11 rfl hl (by decide) rfl (fun ls hl => ?_)
  refine lv_iload_n (pc := 12) hx hb dX9_handCost_12 rfl (lv_at hl 2 rfl) ?_
  refine lv_aload_n (pc := 13) hx hb dX9_handCost_13 rfl (lv_at hl 1 rfl) ?_
  refine q_getR (pc := 14) (q := q0) (o := 1) hx hb hts hown hK hw hq0 fg_X9_10 dX9_handCost_14 ?_
  refine q_getI (pc := 17) (q := (q0 + 1)) hx hb hts hown hK hw (wt_X9_hall _ hq0) fg_X9_66 dX9_handCost_17 ?_
  obtain ⟨v2, ev, hs⟩ := q_cal hs
  refine q_callN (pc := 20) (As := [.int a1, .int (gI h (q0 + 1) 1)]) (rest := []) (rs := [.int v2]) hx hb hml hl.1 hts hown hK hSt hN hw (c_X10_rest l G a1 (gI h (q0 + 1) 1) h v2 ev) cn_X9_75 (rm_ok hR (by decide)) rfl (Nat.le_of_ble_eq_true rfl) rfl rfl dX9_handCost_20 (fun H locs hw => ?_)
  refine lv_istore_n (pc := 23) (lv' := [(3, .int v2), (2, .int v1), (0, .ref (G.2.2.1 q0)), (1, .int a1)]) hx hb dX9_handCost_23 rfl hl (by decide) rfl (fun ls hl => ?_)
  refine lv_aload_n (pc := 24) hx hb dX9_handCost_24 rfl (lv_at hl 2 rfl) ?_
  refine q_getR (pc := 25) (q := q0) (o := 5) hx hb hts hown hK hw hq0 fg_X9_21 dX9_handCost_25 ?_
  refine lv_iload_n (pc := 28) hx hb dX9_handCost_28 rfl (lv_at hl 1 rfl) ?_
  refine lv_iload_n (pc := 29) hx hb dX9_handCost_29 rfl (lv_at hl 0 rfl) ?_
  refine lv_aload_n (pc := 30) hx hb dX9_handCost_30 rfl (lv_at hl 2 rfl) ?_
  refine q_getR (pc := 31) (q := q0) (o := 1) hx hb hts hown hK hw hq0 fg_X9_10 dX9_handCost_31 ?_
  refine q_getR (pc := 34) (q := (q0 + 1)) (o := 2) hx hb hts hown hK hw (wt_X9_hall _ hq0) fg_X9_78 dX9_handCost_34 ?_
  refine lv_iload_n (pc := 37) hx hb dX9_handCost_37 rfl (lv_at hl 3 rfl) ?_
  refine q_ald (pc := 38) (q := (q0 + 3)) (n := 25) hx hb hK hw (wt_X3_numbers _ (wt_X9_hall _ hq0)) dX9_handCost_38 hs (fun v3 hs => ?_)
  obtain ⟨v4, h5, ev, hs⟩ := q_cal2 hs
  refine q_callV (pc := 39) (q := (q0 + 5)) (As := [.int v1, .int v2, .int v3]) (rest := []) (rs := [.int v4]) hx hb hml hl.1 hts hown hK hSt hN hw (c_X5_gives l G (q0 + 5) (wt_X9_handLaw _ hq0) v1 v2 v3 h v4 h5 ev) (wt_X9_handLaw _ hq0) rfl cv_X9_81 (rm_ok hR (by decide)) rfl (Nat.le_of_ble_eq_true rfl) rfl rfl dX9_handCost_39 (fun H locs hw => ?_)
  exact q_iretW hret dX9_handCost_42 hw hs

set_option maxHeartbeats 4000000 in
theorem c_X9_handTurns (l : Launch) (G : GG) (q0 : Nat) (hq0 : LAY[q0]? = some (12, 0)) (a1 : Int32) (h : Mem) (v : Int32) (h' : Mem) (hs : f_X9_handTurns h q0 a1 = some (v, h')) : Sat l G yX9_handTurns cX9_handTurns 2 (some .boolean) 4 [.ref (G.2.2.1 q0), .int a1] h (some (.int v)) h' := by
  refine Sat.mkZ (by decide) (Nat.le_of_ble_eq_true rfl) ?_
  intro p e R s m args below meth c Q F hret hw ls hl
  obtain ⟨hx, hb, hml, hown, hts, hK, hSt, hN, hR⟩ := F
  have hl : lv_has ls 2 [(0, .ref (G.2.2.1 q0)), (1, .int a1)] := hl
  unfold f_X9_handTurns at hs
  refine lv_aload_n (pc := 0) hx hb dX9_handTurns_0 rfl (lv_at hl 0 rfl) ?_
  refine q_getR (pc := 1) (q := q0) (o := 1) hx hb hts hown hK hw hq0 fg_X9_10 dX9_handTurns_1 ?_
  refine lv_iload_n (pc := 4) hx hb dX9_handTurns_4 rfl (lv_at hl 1 rfl) ?_
  obtain ⟨v1, ev, hs⟩ := q_cal hs
  refine q_callV (pc := 5) (q := (q0 + 1)) (As := [.int a1]) (rest := []) (rs := [.int v1]) hx hb hml hl.1 hts hown hK hSt hN hw (c_X3_handCan l G (q0 + 1) (wt_X9_hall _ hq0) a1 h v1 ev) (wt_X9_hall _ hq0) rfl cv_X9_85 (rm_ok hR (by decide)) rfl (Nat.le_of_ble_eq_true rfl) rfl rfl dX9_handTurns_5 (fun H locs hw => ?_)
  refine lv_if_ne (pc := 8) (tgt := 13) hx hb dX9_handTurns_8 (by decide) (fun hc => ?_) (fun hc => ?_)
  · replace hs := q_t hc hs
    refine lv_aload_n (pc := 13) hx hb dX9_handTurns_13 rfl (lv_at hl 0 rfl) ?_
    refine lv_aload_n (pc := 14) hx hb dX9_handTurns_14 rfl (lv_at hl 0 rfl) ?_
    refine lv_iload_n (pc := 15) hx hb dX9_handTurns_15 rfl (lv_at hl 1 rfl) ?_
    obtain ⟨v2, h3, ev, hs⟩ := q_cal2 hs
    refine q_callV (pc := 16) (q := q0) (As := [.int a1]) (rest := [.ref (G.2.2.1 q0)]) (rs := [.int v2, .ref (G.2.2.1 q0)]) hx hb hml hl.1 hts hown hK hSt hN hw (c_X9_handCost l G q0 hq0 a1 h v2 h3 ev) hq0 rfl cv_X9_89 (rm_ok hR (by decide)) rfl (Nat.le_of_ble_eq_true rfl) rfl rfl dX9_handTurns_16 (fun H locs hw => ?_)
    refine lv_ineg (pc := 19) hx hb dX9_handTurns_19 ?_
    obtain ⟨h4, ev, hs⟩ := q_cal hs
    refine q_callV (pc := 20) (q := q0) (As := [.int (-v2)]) (rest := []) (rs := []) hx hb hml hl.1 hts hown hK hSt hN hw (c_X9_earn l G q0 hq0 (-v2) h3 h4 ev) hq0 rfl cv_X9_93 (rm_ok hR (by decide)) rfl (Nat.le_of_ble_eq_true rfl) rfl rfl dX9_handTurns_20 (fun H locs hw => ?_)
    refine lv_aload_n (pc := 23) hx hb dX9_handTurns_23 rfl (lv_at hl 0 rfl) ?_
    refine q_getR (pc := 24) (q := q0) (o := 1) hx hb hts hown hK hw hq0 fg_X9_10 dX9_handTurns_24 ?_
    refine lv_iload_n (pc := 27) hx hb dX9_handTurns_27 rfl (lv_at hl 1 rfl) ?_
    obtain ⟨h5, ev, hs⟩ := q_cal hs
    refine q_callV (pc := 28) (q := (q0 + 1)) (As := [.int a1]) (rest := []) (rs := []) hx hb hml hl.1 hts hown hK hSt hN hw (c_X3_flip l G (q0 + 1) (wt_X9_hall _ hq0) a1 h4 h5 ev) (wt_X9_hall _ hq0) rfl cv_X9_96 (rm_ok hR (by decide)) rfl (Nat.le_of_ble_eq_true rfl) rfl rfl dX9_handTurns_28 (fun H locs hw => ?_)
    refine lv_iconst (pc := 31) (v := (iI 1)) hx hb dX9_handTurns_31 rfl ?_
    exact q_zretW hret dX9_handTurns_32 hw hs
  · replace hs := q_f (fun z => z hc) hs
    refine lv_iconst (pc := 11) (v := (iI 0)) hx hb dX9_handTurns_11 rfl ?_
    exact q_zretW hret dX9_handTurns_12 hw hs

set_option maxHeartbeats 4000000 in
theorem c_X9_rayIn (l : Launch) (G : GG) (q0 : Nat) (hq0 : LAY[q0]? = some (12, 0)) (q1 : Nat) (hq1 : LAY[q1]? = some (3, 0)) (a2 : Int32) (h : Mem) (v : Int32) (h' : Mem) (hs : f_X9_rayIn h q0 q1 a2 = some (v, h')) : Sat l G yX9_rayIn cX9_rayIn 4 (some .int) 3 [.ref (G.2.2.1 q0), .ref (G.2.2.1 q1), .int a2] h (some (.int v)) h' := by
  refine Sat.mkI (by decide) (Nat.le_of_ble_eq_true rfl) ?_
  intro p e R s m args below meth c Q F hret hw ls hl
  obtain ⟨hx, hb, hml, hown, hts, hK, hSt, hN, hR⟩ := F
  have hl : lv_has ls 4 [(0, .ref (G.2.2.1 q0)), (1, .ref (G.2.2.1 q1)), (2, .int a2)] := hl
  unfold f_X9_rayIn at hs
  refine lv_aload_n (pc := 0) hx hb dX9_rayIn_0 rfl (lv_at hl 1 rfl) ?_
  refine lv_aload_n (pc := 1) hx hb dX9_rayIn_1 rfl (lv_at hl 0 rfl) ?_
  refine q_getR (pc := 2) (q := q0) (o := 1) hx hb hts hown hK hw hq0 fg_X9_10 dX9_rayIn_2 ?_
  refine lv_iload_n (pc := 5) hx hb dX9_rayIn_5 rfl (lv_at hl 2 rfl) ?_
  obtain ⟨v1, h2, ev, hs⟩ := q_cal2 hs
  refine q_callV (pc := 6) (q := q1) (As := [.ref (G.2.2.1 (q0 + 1)), .int a2]) (rest := []) (rs := [.int v1]) hx hb hml hl.1 hts hown hK hSt hN hw (c_X0_run l G q1 hq1 (q0 + 1) (wt_X9_hall _ hq0) a2 h v1 h2 ev) hq1 rfl cv_X9_99 (rm_ok hR (by decide)) rfl (Nat.le_of_ble_eq_true rfl) rfl rfl dX9_rayIn_6 (fun H locs hw => ?_)
  refine lv_istore_n (pc := 9) (lv' := [(3, .int v1), (0, .ref (G.2.2.1 q0)), (1, .ref (G.2.2.1 q1)), (2, .int a2)]) hx hb dX9_rayIn_9 rfl hl (by decide) rfl (fun ls hl => ?_)
  refine lv_aload_n (pc := 10) hx hb dX9_rayIn_10 rfl (lv_at hl 1 rfl) ?_
  refine lv_aload_n (pc := 11) hx hb dX9_rayIn_11 rfl (lv_at hl 1 rfl) ?_
  refine q_getR (pc := 12) (q := q0) (o := 8) hx hb hts hown hK hw hq0 fg_X9_25 dX9_rayIn_12 ?_
  refine lv_iload_n (pc := 15) hx hb dX9_rayIn_15 rfl (lv_at hl 3 rfl) ?_
  refine lv_iload_n (pc := 16) hx hb dX9_rayIn_16 rfl (lv_at hl 0 rfl) ?_
  refine lv_aload_n (pc := 17) hx hb dX9_rayIn_17 rfl (lv_at hl 2 rfl) ?_
  refine q_getI (pc := 18) (q := q1) hx hb hts hown hK hw hq1 fg_X9_105 dX9_rayIn_18 ?_
  obtain ⟨v3, h4, ev, hs⟩ := q_cal2 hs
  refine q_callV (pc := 21) (q := (q0 + 8)) (As := [.int a2, .int v1, .int (gI h2 q1 4)]) (rest := [.ref (G.2.2.1 q0)]) (rs := [.int v3, .ref (G.2.2.1 q0)]) hx hb hml hl.1 hts hown hK hSt hN hw (c_X5_gives l G (q0 + 8) (wt_X9_betLaw _ hq0) a2 v1 (gI h2 q1 4) h2 v3 h4 ev) (wt_X9_betLaw _ hq0) rfl cv_X9_81 (rm_ok hR (by decide)) rfl (Nat.le_of_ble_eq_true rfl) rfl rfl dX9_rayIn_21 (fun H locs hw => ?_)
  obtain ⟨h5, ev, hs⟩ := q_cal hs
  refine q_callV (pc := 24) (q := q0) (As := [.int v3]) (rest := []) (rs := []) hx hb hml hl.1 hts hown hK hSt hN hw (c_X9_earn l G q0 hq0 v3 h4 h5 ev) hq0 rfl cv_X9_93 (rm_ok hR (by decide)) rfl (Nat.le_of_ble_eq_true rfl) rfl rfl dX9_rayIn_24 (fun H locs hw => ?_)
  refine lv_iload_n (pc := 27) hx hb dX9_rayIn_27 rfl (lv_at hl 0 rfl) ?_
  exact q_iretW hret dX9_rayIn_28 hw hs

set_option maxHeartbeats 4000000 in
theorem c_X9_liveDay (l : Launch) (G : GG) (q0 : Nat) (hq0 : LAY[q0]? = some (12, 0)) (q1 : Nat) (hq1 : LAY[q1]? = some (3, 0)) (h : Mem) (h' : Mem) (hs : f_X9_liveDay h q0 q1 = some h') : Sat l G yX9_liveDay cX9_liveDay 4 none 5 [.ref (G.2.2.1 q0), .ref (G.2.2.1 q1)] h none h' := by
  refine Sat.mkV (by decide) (Nat.le_of_ble_eq_true rfl) ?_
  intro p e R s m args below meth c Q F hret hw ls hl
  obtain ⟨hx, hb, hml, hown, hts, hK, hSt, hN, hR⟩ := F
  have hl : lv_has ls 4 [(0, .ref (G.2.2.1 q0)), (1, .ref (G.2.2.1 q1))] := hl
  unfold f_X9_liveDay at hs
  refine lv_aload_n (pc := 0) hx hb dX9_liveDay_0 rfl (lv_at hl 0 rfl) ?_
  obtain ⟨v1, h2, ev, hs⟩ := q_cal2 hs
  refine q_callV (pc := 1) (q := q0) (As := []) (rest := []) (rs := [.int v1]) hx hb hml hl.1 hts hown hK hSt hN hw (c_X9_draw l G q0 hq0 h v1 h2 ev) hq0 rfl cv_X9_108 (rm_ok hR (by decide)) rfl (Nat.le_of_ble_eq_true rfl) rfl rfl dX9_liveDay_1 (fun H locs hw => ?_)
  refine lv_aload_n (pc := 4) hx hb dX9_liveDay_4 rfl (lv_at hl 0 rfl) ?_
  refine q_getR (pc := 5) (q := q0) (o := 1) hx hb hts hown hK hw hq0 fg_X9_10 dX9_liveDay_5 ?_
  obtain ⟨v3, ev, hs⟩ := q_cal hs
  refine q_callV (pc := 8) (q := (q0 + 1)) (As := []) (rest := [.int v1]) (rs := [.int v3, .int v1]) hx hb hml hl.1 hts hown hK hSt hN hw (c_X3_squares l G (q0 + 1) (wt_X9_hall _ hq0) h2 v3 ev) (wt_X9_hall _ hq0) rfl cv_X9_112 (rm_ok hR (by decide)) rfl (Nat.le_of_ble_eq_true rfl) rfl rfl dX9_liveDay_8 (fun H locs hw => ?_)
  obtain ⟨v4, ev, hs⟩ := q_cal hs
  refine q_callN (pc := 11) (As := [.int v1, .int v3]) (rest := []) (rs := [.int v4]) hx hb hml hl.1 hts hown hK hSt hN hw (c_X10_rest l G v1 v3 h2 v4 ev) cn_X9_75 (rm_ok hR (by decide)) rfl (Nat.le_of_ble_eq_true rfl) rfl rfl dX9_liveDay_11 (fun H locs hw => ?_)
  refine lv_istore_n (pc := 14) (lv' := [(2, .int v4), (0, .ref (G.2.2.1 q0)), (1, .ref (G.2.2.1 q1))]) hx hb dX9_liveDay_14 rfl hl (by decide) rfl (fun ls hl => ?_)
  refine lv_aload_n (pc := 15) hx hb dX9_liveDay_15 rfl (lv_at hl 1 rfl) ?_
  obtain ⟨v5, h6, ev, hs⟩ := q_cal2 hs
  refine q_callV (pc := 16) (q := q0) (As := []) (rest := []) (rs := [.int v5]) hx hb hml hl.1 hts hown hK hSt hN hw (c_X9_draw l G q0 hq0 h2 v5 h6 ev) hq0 rfl cv_X9_108 (rm_ok hR (by decide)) rfl (Nat.le_of_ble_eq_true rfl) rfl rfl dX9_liveDay_16 (fun H locs hw => ?_)
  refine lv_aload_n (pc := 19) hx hb dX9_liveDay_19 rfl (lv_at hl 1 rfl) ?_
  refine q_getR (pc := 20) (q := q0) (o := 1) hx hb hts hown hK hw hq0 fg_X9_10 dX9_liveDay_20 ?_
  obtain ⟨v7, ev, hs⟩ := q_cal hs
  refine q_callV (pc := 23) (q := (q0 + 1)) (As := []) (rest := [.int v5]) (rs := [.int v7, .int v5]) hx hb hml hl.1 hts hown hK hSt hN hw (c_X3_windows l G (q0 + 1) (wt_X9_hall _ hq0) h6 v7 ev) (wt_X9_hall _ hq0) rfl cv_X9_115 (rm_ok hR (by decide)) rfl (Nat.le_of_ble_eq_true rfl) rfl rfl dX9_liveDay_23 (fun H locs hw => ?_)
  obtain ⟨v8, ev, hs⟩ := q_cal hs
  refine q_callN (pc := 26) (As := [.int v5, .int v7]) (rest := []) (rs := [.int v8]) hx hb hml hl.1 hts hown hK hSt hN hw (c_X10_rest l G v5 v7 h6 v8 ev) cn_X9_75 (rm_ok hR (by decide)) rfl (Nat.le_of_ble_eq_true rfl) rfl rfl dX9_liveDay_26 (fun H locs hw => ?_)
  refine lv_istore_n (pc := 29) (lv' := [(3, .int v8), (2, .int v4), (0, .ref (G.2.2.1 q0)), (1, .ref (G.2.2.1 q1))]) hx hb dX9_liveDay_29 rfl hl (by decide) rfl (fun ls hl => ?_)
  refine lv_aload_n (pc := 30) hx hb dX9_liveDay_30 rfl (lv_at hl 2 rfl) ?_
  refine lv_iload_n (pc := 31) hx hb dX9_liveDay_31 rfl (lv_at hl 1 rfl) ?_
  obtain ⟨v9, h10, ev, hs⟩ := q_cal2 hs
  refine q_callV (pc := 32) (q := q0) (As := [.int v4]) (rest := []) (rs := [.int v9]) hx hb hml hl.1 hts hown hK hSt hN hw (c_X9_handTurns l G q0 hq0 v4 h6 v9 h10 ev) hq0 rfl cv_X9_118 (rm_ok hR (by decide)) rfl (Nat.le_of_ble_eq_true rfl) rfl rfl dX9_liveDay_32 (fun H locs hw => ?_)
  refine lv_pop (pc := 35) hx hb dX9_liveDay_35 rfl ?_
  refine lv_aload_n (pc := 36) hx hb dX9_liveDay_36 rfl (lv_at hl 2 rfl) ?_
  refine lv_aload_n (pc := 37) hx hb dX9_liveDay_37 rfl (lv_at hl 3 rfl) ?_
  refine lv_iload_n (pc := 38) hx hb dX9_liveDay_38 rfl (lv_at hl 0 rfl) ?_
  obtain ⟨v11, h12, ev, hs⟩ := q_cal2 hs
  refine q_callV (pc := 39) (q := q0) (As := [.ref (G.2.2.1 q1), .int v8]) (rest := []) (rs := [.int v11]) hx hb hml hl.1 hts hown hK hSt hN hw (c_X9_rayIn l G q0 hq0 q1 hq1 v8 h10 v11 h12 ev) hq0 rfl cv_X9_121 (rm_ok hR (by decide)) rfl (Nat.le_of_ble_eq_true rfl) rfl rfl dX9_liveDay_39 (fun H locs hw => ?_)
  refine lv_pop (pc := 42) hx hb dX9_liveDay_42 rfl ?_
  refine lv_aload_n (pc := 43) hx hb dX9_liveDay_43 rfl (lv_at hl 2 rfl) ?_
  refine lv_dup (pc := 44) hx hb dX9_liveDay_44 rfl ?_
  refine q_getI (pc := 45) (q := q0) hx hb hts hown hK hw hq0 fg_X9_45 dX9_liveDay_45 ?_
  refine lv_iconst (pc := 48) (v := (iI 1)) hx hb dX9_liveDay_48 rfl ?_
  refine lv_iadd (pc := 49) hx hb dX9_liveDay_49 ?_
  refine q_putI (pc := 50) (q := q0) hx hb hts hown hK hw hq0 fp_X9_45 dX9_liveDay_50 hs (fun h13 H locs hw hs => ?_)
  exact q_vret hret dX9_liveDay_53 hw hs

set_option maxHeartbeats 4000000 in
theorem c_X1_suppose (l : Launch) (G : GG) (q1 : Nat) (hq1 : LAY[q1]? = some (6, 0)) (a2 : Int32) (h : Mem) (h' : Mem) (hs : f_X1_suppose h q1 a2 = some h') : Sat l G yX1_suppose cX1_suppose 4 none 3 [.ref (G.2.2.1 56), .ref (G.2.2.1 q1), .int a2] h none h' := by
  refine Sat.mkV (by decide) (Nat.le_of_ble_eq_true rfl) ?_
  intro p e R s m args below meth c Q F hret hw ls hl
  obtain ⟨hx, hb, hml, hown, hts, hK, hSt, hN, hR⟩ := F
  have hl : lv_has ls 4 [(0, .ref (G.2.2.1 56)), (1, .ref (G.2.2.1 q1)), (2, .int a2)] := hl
  unfold f_X1_suppose at hs
  refine lv_aload_n (pc := 0) hx hb dX1_suppose_0 rfl (lv_at hl 0 rfl) ?_
  refine q_getR (pc := 1) (q := 56) (o := 1) hx hb hts hown hK hw rfl fg_X1_10 dX1_suppose_1 ?_
  refine lv_aload_n (pc := 4) hx hb dX1_suppose_4 rfl (lv_at hl 1 rfl) ?_
  obtain ⟨h1, ev, hs⟩ := q_cal hs
  refine q_callV (pc := 5) (q := 57) (As := [.ref (G.2.2.1 q1)]) (rest := []) (rs := []) hx hb hml hl.1 hts hown hK hSt hN hw (c_X3_copyFrom l G 57 rfl q1 hq1 h h1 ev) rfl rfl cv_X1_53 (rm_ok hR (by decide)) rfl (Nat.le_of_ble_eq_true rfl) rfl rfl dX1_suppose_5 (fun H locs hw => ?_)
  refine lv_aload_n (pc := 8) hx hb dX1_suppose_8 rfl (lv_at hl 0 rfl) ?_
  refine lv_aload_n (pc := 9) hx hb dX1_suppose_9 rfl (lv_at hl 1 rfl) ?_
  refine q_getI (pc := 10) (q := q1) hx hb hts hown hK hw hq1 fg_X1_57 dX1_suppose_10 ?_
  refine q_putI (pc := 13) (q := 56) hx hb hts hown hK hw rfl fp_X1_31 dX1_suppose_13 hs (fun h2 H locs hw hs => ?_)
  refine lv_aload_n (pc := 16) hx hb dX1_suppose_16 rfl (lv_at hl 0 rfl) ?_
  refine lv_aload_n (pc := 17) hx hb dX1_suppose_17 rfl (lv_at hl 1 rfl) ?_
  refine q_getL (pc := 18) (q := q1) hx hb hts hown hK hw hq1 fg_X1_60 dX1_suppose_18 ?_
  refine q_putL (pc := 21) (q := 56) hx hb hts hown hK hw rfl fp_X1_34 dX1_suppose_21 hs (fun h3 H locs hw hs => ?_)
  refine lv_aload_n (pc := 24) hx hb dX1_suppose_24 rfl (lv_at hl 0 rfl) ?_
  refine lv_iconst (pc := 25) (v := (iI 0)) hx hb dX1_suppose_25 rfl ?_
  refine q_putI (pc := 26) (q := 56) hx hb hts hown hK hw rfl fp_X1_27 dX1_suppose_26 hs (fun h4 H locs hw hs => ?_)
  refine lv_iconst (pc := 29) (v := (iI 0)) hx hb dX1_suppose_29 rfl ?_
  refine lv_istore_n (pc := 30) (lv' := [(3, .int (iI 0)), (0, .ref (G.2.2.1 56)), (1, .ref (G.2.2.1 q1)), (2, .int a2)]) hx hb dX1_suppose_30 rfl hl (by decide) rfl (fun ls hl => ?_)
  refine (q_lo2 (P0 := fun (x5 : Int32) (h6 : Mem) => ∀ (H : Heap) (locs : List Loc), IW G s h6 H locs → ∀ ls : Array Slot, lv_has ls 4 [(0, .ref (G.2.2.1 56)), (1, .ref (G.2.2.1 q1)), (2, .int a2), (3, .int x5)] → W p l e R s m args below meth c H locs 0 0 Q (F0 m 31 ls [])) hs ?_) _ _ hw _ (lv_sub hl [1, 2, 3, 0] rfl)
  intro K7 hK7 x5 h6 hs H locs hw ls hl
  unfold f_X1_suppose_k7 at hs
  refine lv_iload_n (pc := 31) hx hb dX1_suppose_31 rfl (lv_at hl 3 rfl) ?_
  refine lv_aload_n (pc := 32) hx hb dX1_suppose_32 rfl (lv_at hl 1 rfl) ?_
  obtain ⟨v8, ev, hs⟩ := q_cal hs
  refine q_callV (pc := 33) (q := q1) (As := []) (rest := [.int x5]) (rs := [.int v8, .int x5]) hx hb hml hl.1 hts hown hK hSt hN hw (c_X3_squares l G q1 hq1 h6 v8 ev) hq1 rfl cv_X1_63 (rm_ok hR (by decide)) rfl (Nat.le_of_ble_eq_true rfl) rfl rfl dX1_suppose_33 (fun H locs hw => ?_)
  refine lv_icmp_ge (pc := 36) (tgt := 94) hx hb dX1_suppose_36 (by decide) (fun hc => ?_) (fun hc => ?_)
  · replace hs := q_t hc hs
    exact q_vret hret dX1_suppose_94 hw hs
  · replace hs := q_f hc hs
    refine lv_aload_n (pc := 39) hx hb dX1_suppose_39 rfl (lv_at hl 0 rfl) ?_
    refine q_getI (pc := 40) (q := 56) hx hb hts hown hK hw rfl fg_X1_27 dX1_suppose_40 ?_
    refine lv_iconst (pc := 43) (v := (iI 5)) hx hb dX1_suppose_43 rfl ?_
    refine lv_icmp_ge (pc := 44) (tgt := 94) hx hb dX1_suppose_44 (by decide) (fun hc => ?_) (fun hc => ?_)
    · replace hs := q_t hc hs
      exact q_vret hret dX1_suppose_94 hw hs
    · replace hs := q_f hc hs
      refine lv_iload_n (pc := 47) hx hb dX1_suppose_47 rfl (lv_at hl 2 rfl) ?_
      refine lv_iload_n (pc := 48) hx hb dX1_suppose_48 rfl (lv_at hl 3 rfl) ?_
      refine lv_iushr (pc := 49) (v := (ushI a2 x5)) hx hb dX1_suppose_49 rfl ?_
      refine lv_iconst (pc := 50) (v := (iI 1)) hx hb dX1_suppose_50 rfl ?_
      refine lv_iand (pc := 51) hx hb dX1_suppose_51 ?_
      refine lv_iconst (pc := 52) (v := (iI 1)) hx hb dX1_suppose_52 rfl ?_
      refine q_join1 (P0 := fun (h9 : Mem) => ∀ (H : Heap) (locs : List Loc), IW G s h9 H locs → ∀ ls : Array Slot, lv_has ls 4 [(0, .ref (G.2.2.1 56)), (1, .ref (G.2.2.1 q1)), (2, .int a2), (3, .int x5)] → W p l e R s m args below meth c H locs 0 0 Q (F0 m 88 ls [])) hs ?_ ?_
      · intro h9 hs H locs hw ls hl
        obtain ⟨x11, ex11, hs⟩ := q_nm hs
        refine lv_iinc (pc := 88) (v := x11) (lv' := [(3, .int x11), (0, .ref (G.2.2.1 56)), (1, .ref (G.2.2.1 q1)), (2, .int a2)]) hx hb dX1_suppose_88 hl (k := 3) rfl ex11 (by decide) rfl (fun ls hl => ?_)
        refine lv_goto (pc := 91) (tgt := 31) hx hb dX1_suppose_91 (by decide) ?_
        exact hK7 _ _ hs _ _ hw _ (lv_sub hl [1, 2, 3, 0] rfl)
      · intro K10 hK10 hs
        refine lv_icmp_ne (pc := 53) (tgt := 88) hx hb dX1_suppose_53 (by decide) (fun hc => ?_) (fun hc => ?_)
        · replace hs := q_t hc hs
          exact hK10 _ hs _ _ hw _ (lv_sub hl [0, 1, 2, 3] rfl)
        · replace hs := q_f (fun z => z hc) hs
          refine lv_aload_n (pc := 56) hx hb dX1_suppose_56 rfl (lv_at hl 1 rfl) ?_
          refine q_getR (pc := 57) (q := q1) (o := 1) hx hb hts hown hK hw hq1 fg_X1_67 dX1_suppose_57 ?_
          refine lv_iload_n (pc := 60) hx hb dX1_suppose_60 rfl (lv_at hl 3 rfl) ?_
          refine q_ald (pc := 61) (q := (q1 + 1)) (n := 25) hx hb hK hw (wt_X3_kinds _ hq1) dX1_suppose_61 hs (fun v12 hs => ?_)
          obtain ⟨v13, ev, hs⟩ := q_cal hs
          refine q_callS (pc := 62) (As := [.int v12]) (rest := []) (rs := [.int v13]) hx hb hml hl.1 hts hown hK hSt hN hw (c_X3_throwsRays l G v12 h6 v13 ev) cs_X1_70 (rm_ok hR (by decide)) rfl (Nat.le_of_ble_eq_true rfl) rfl rfl dX1_suppose_62 (fun H locs hw => ?_)
          refine lv_if_eq (pc := 65) (tgt := 88) hx hb dX1_suppose_65 (by decide) (fun hc => ?_) (fun hc => ?_)
          · replace hs := q_t hc hs
            exact hK10 _ hs _ _ hw _ (lv_sub hl [0, 1, 2, 3] rfl)
          · replace hs := q_f hc hs
            refine lv_aload_n (pc := 68) hx hb dX1_suppose_68 rfl (lv_at hl 0 rfl) ?_
            refine q_getR (pc := 69) (q := 56) (o := 6) hx hb hts hown hK hw rfl fg_X1_23 dX1_suppose_69 ?_
            refine lv_aload_n (pc := 72) hx hb dX1_suppose_72 rfl (lv_at hl 0 rfl) ?_
            refine q_getI (pc := 73) (q := 56) hx hb hts hown hK hw rfl fg_X1_27 dX1_suppose_73 ?_
            refine lv_iload_n (pc := 76) hx hb dX1_suppose_76 rfl (lv_at hl 3 rfl) ?_
            refine q_ast (pc := 77) (q := 62) (n := 5) hx hb hK hw rfl dX1_suppose_77 hs (fun h14 H locs hw hs => ?_)
            refine lv_aload_n (pc := 78) hx hb dX1_suppose_78 rfl (lv_at hl 0 rfl) ?_
            refine lv_dup (pc := 79) hx hb dX1_suppose_79 rfl ?_
            refine q_getI (pc := 80) (q := 56) hx hb hts hown hK hw rfl fg_X1_27 dX1_suppose_80 ?_
            refine lv_iconst (pc := 83) (v := (iI 1)) hx hb dX1_suppose_83 rfl ?_
            refine lv_iadd (pc := 84) hx hb dX1_suppose_84 ?_
            refine q_putI (pc := 85) (q := 56) hx hb hts hown hK hw rfl fp_X1_27 dX1_suppose_85 hs (fun h15 H locs hw hs => ?_)
            exact hK10 _ hs _ _ hw _ (lv_sub hl [0, 1, 2, 3] rfl)

set_option maxHeartbeats 4000000 in
theorem c_X1_fitting (l : Launch) (G : GG) (q1 : Nat) (hq1 : LAY[q1]? = some (10, 0)) (h : Mem) (v : Int32) (h' : Mem) (hs : f_X1_fitting h q1 = some (v, h')) : Sat l G yX1_fitting cX1_fitting 4 (some .int) 4 [.ref (G.2.2.1 56), .ref (G.2.2.1 q1)] h (some (.int v)) h' := by
  refine Sat.mkI (by decide) (Nat.le_of_ble_eq_true rfl) ?_
  intro p e R s m args below meth c Q F hret hw ls hl
  obtain ⟨hx, hb, hml, hown, hts, hK, hSt, hN, hR⟩ := F
  have hl : lv_has ls 4 [(0, .ref (G.2.2.1 56)), (1, .ref (G.2.2.1 q1))] := hl
  unfold f_X1_fitting at hs
  refine lv_iconst (pc := 0) (v := (iI 0)) hx hb dX1_fitting_0 rfl ?_
  refine lv_istore_n (pc := 1) (lv' := [(2, .int (iI 0)), (0, .ref (G.2.2.1 56)), (1, .ref (G.2.2.1 q1))]) hx hb dX1_fitting_1 rfl hl (by decide) rfl (fun ls hl => ?_)
  refine lv_iconst (pc := 2) (v := (iI 0)) hx hb dX1_fitting_2 rfl ?_
  refine lv_istore_n (pc := 3) (lv' := [(3, .int (iI 0)), (2, .int (iI 0)), (0, .ref (G.2.2.1 56)), (1, .ref (G.2.2.1 q1))]) hx hb dX1_fitting_3 rfl hl (by decide) rfl (fun ls hl => ?_)
  refine (q_lo3 (P0 := fun (x1 : Int32) (x2 : Int32) (h3 : Mem) => ∀ (H : Heap) (locs : List Loc), IW G s h3 H locs → ∀ ls : Array Slot, lv_has ls 4 [(0, .ref (G.2.2.1 56)), (1, .ref (G.2.2.1 q1)), (2, .int x1), (3, .int x2)] → W p l e R s m args below meth c H locs 0 0 Q (F0 m 4 ls [])) hs ?_) _ _ hw _ (lv_sub hl [2, 3, 1, 0] rfl)
  intro K4 hK4 x1 x2 h3 hs H locs hw ls hl
  unfold f_X1_fitting_k4 at hs
  refine lv_iload_n (pc := 4) hx hb dX1_fitting_4 rfl (lv_at hl 3 rfl) ?_
  refine lv_aload_n (pc := 5) hx hb dX1_fitting_5 rfl (lv_at hl 0 rfl) ?_
  obtain ⟨v5, ev, hs⟩ := q_cal hs
  refine q_callV (pc := 6) (q := 56) (As := []) (rest := [.int x2]) (rs := [.int v5, .int x2]) hx hb hml hl.1 hts hown hK hSt hN hw (c_X1_choices l G h3 v5 ev) rfl rfl cv_X1_78 (rm_ok hR (by decide)) rfl (Nat.le_of_ble_eq_true rfl) rfl rfl dX1_fitting_6 (fun H locs hw => ?_)
  refine lv_icmp_ge (pc := 9) (tgt := 35) hx hb dX1_fitting_9 (by decide) (fun hc => ?_) (fun hc => ?_)
  · replace hs := q_t hc hs
    refine lv_iload_n (pc := 35) hx hb dX1_fitting_35 rfl (lv_at hl 2 rfl) ?_
    exact q_iretW hret dX1_fitting_36 hw hs
  · replace hs := q_f hc hs
    refine lv_iload_n (pc := 12) hx hb dX1_fitting_12 rfl (lv_at hl 2 rfl) ?_
    refine lv_aload_n (pc := 13) hx hb dX1_fitting_13 rfl (lv_at hl 0 rfl) ?_
    refine lv_aload_n (pc := 14) hx hb dX1_fitting_14 rfl (lv_at hl 1 rfl) ?_
    refine lv_iload_n (pc := 15) hx hb dX1_fitting_15 rfl (lv_at hl 3 rfl) ?_
    obtain ⟨v6, h7, ev, hs⟩ := q_cal2 hs
    refine q_callV (pc := 16) (q := 56) (As := [.ref (G.2.2.1 q1), .int x2]) (rest := [.int x1]) (rs := [.int v6, .int x1]) hx hb hml hl.1 hts hown hK hSt hN hw (c_X1_isFitting l G q1 hq1 x2 h3 v6 h7 ev) rfl rfl cv_X1_104 (rm_ok hR (by decide)) rfl (Nat.le_of_ble_eq_true rfl) rfl rfl dX1_fitting_16 (fun H locs hw => ?_)
    refine q_join1 (P0 := fun (x8 : Int32) => ∀ (H : Heap) (locs : List Loc), IW G s h7 H locs → ∀ ls : Array Slot, lv_has ls 4 [(0, .ref (G.2.2.1 56)), (1, .ref (G.2.2.1 q1)), (3, .int x2)] → W p l e R s m args below meth c H locs 0 0 Q (F0 m 27 ls [.int x8, .int x1])) hs ?_ ?_
    · intro x8 hs H locs hw ls hl
      refine lv_iadd (pc := 27) hx hb dX1_fitting_27 ?_
      obtain ⟨x10, ex10, hs⟩ := q_nm hs
      refine q_topI ex10 ?_
      refine lv_istore_n (pc := 28) (lv' := [(2, .int x10), (0, .ref (G.2.2.1 56)), (1, .ref (G.2.2.1 q1)), (3, .int x2)]) hx hb dX1_fitting_28 rfl hl (by decide) rfl (fun ls hl => ?_)
      obtain ⟨x11, ex11, hs⟩ := q_nm hs
      refine lv_iinc (pc := 29) (v := x11) (lv' := [(3, .int x11), (2, .int x10), (0, .ref (G.2.2.1 56)), (1, .ref (G.2.2.1 q1))]) hx hb dX1_fitting_29 hl (k := 3) rfl ex11 (by decide) rfl (fun ls hl => ?_)
      refine lv_goto (pc := 32) (tgt := 4) hx hb dX1_fitting_32 (by decide) ?_
      exact hK4 _ _ _ hs _ _ hw _ (lv_sub hl [2, 3, 1, 0] rfl)
    · intro K9 hK9 hs
      refine lv_if_eq (pc := 19) (tgt := 26) hx hb dX1_fitting_19 (by decide) (fun hc => ?_) (fun hc => ?_)
      · replace hs := q_t hc hs
        refine lv_iconst (pc := 26) (v := (iI 0)) hx hb dX1_fitting_26 rfl ?_
        exact hK9 _ hs _ _ hw _ (lv_sub hl [0, 1, 3] rfl)
      · replace hs := q_f hc hs
        refine lv_iconst (pc := 22) (v := (iI 1)) hx hb dX1_fitting_22 rfl ?_
        refine lv_goto (pc := 23) (tgt := 27) hx hb dX1_fitting_23 (by decide) ?_
        exact hK9 _ hs _ _ hw _ (lv_sub hl [0, 1, 3] rfl)

set_option maxHeartbeats 4000000 in
theorem c_X1_findTelling (l : Launch) (G : GG) (q1 : Nat) (hq1 : LAY[q1]? = some (10, 0)) (h : Mem) (v : Int32) (h' : Mem) (hs : f_X1_findTelling h q1 = some (v, h')) : Sat l G yX1_findTelling cX1_findTelling 5 (some .boolean) 4 [.ref (G.2.2.1 56), .ref (G.2.2.1 q1)] h (some (.int v)) h' := by
  refine Sat.mkZ (by decide) (Nat.le_of_ble_eq_true rfl) ?_
  intro p e R s m args below meth c Q F hret hw ls hl
  obtain ⟨hx, hb, hml, hown, hts, hK, hSt, hN, hR⟩ := F
  have hl : lv_has ls 5 [(0, .ref (G.2.2.1 56)), (1, .ref (G.2.2.1 q1))] := hl
  unfold f_X1_findTelling at hs
  refine lv_iconst (pc := 0) (v := (iI 0)) hx hb dX1_findTelling_0 rfl ?_
  refine lv_istore_n (pc := 1) (lv' := [(2, .int (iI 0)), (0, .ref (G.2.2.1 56)), (1, .ref (G.2.2.1 q1))]) hx hb dX1_findTelling_1 rfl hl (by decide) rfl (fun ls hl => ?_)
  refine lv_aload_n (pc := 2) hx hb dX1_findTelling_2 rfl (lv_at hl 1 rfl) ?_
  refine q_getR (pc := 3) (q := 56) (o := 7) hx hb hts hown hK hw rfl fg_X1_38 dX1_findTelling_3 ?_
  refine lv_iconst (pc := 6) (v := (iI 0)) hx hb dX1_findTelling_6 rfl ?_
  obtain ⟨h1, ev, hs⟩ := q_cal hs
  refine q_callS (pc := 7) (As := [.ref (G.2.2.1 63), .int (iI 0)]) (rest := []) (rs := []) hx hb hml hl.1 hts hown hK hSt hN hw (c_J7_fill_53178 l G 63 20 rfl (iI 0) h h1 ev) cs_X1_108 (rm_ok hR (by decide)) rfl (Nat.le_of_ble_eq_true rfl) rfl rfl dX1_findTelling_7 (fun H locs hw => ?_)
  refine lv_iconst (pc := 10) (v := (iI 0)) hx hb dX1_findTelling_10 rfl ?_
  refine lv_istore_n (pc := 11) (lv' := [(3, .int (iI 0)), (2, .int (iI 0)), (0, .ref (G.2.2.1 56)), (1, .ref (G.2.2.1 q1))]) hx hb dX1_findTelling_11 rfl hl (by decide) rfl (fun ls hl => ?_)
  refine (q_lo3 (P0 := fun (x2 : Int32) (x3 : Int32) (h4 : Mem) => ∀ (H : Heap) (locs : List Loc), IW G s h4 H locs → ∀ ls : Array Slot, lv_has ls 5 [(0, .ref (G.2.2.1 56)), (1, .ref (G.2.2.1 q1)), (2, .int x2), (3, .int x3)] → W p l e R s m args below meth c H locs 0 0 Q (F0 m 12 ls [])) hs ?_) _ _ hw _ (lv_sub hl [2, 3, 1, 0] rfl)
  intro K5 hK5 x2 x3 h4 hs H locs hw ls hl
  unfold f_X1_findTelling_k5 at hs
  refine lv_iload_n (pc := 12) hx hb dX1_findTelling_12 rfl (lv_at hl 3 rfl) ?_
  refine lv_aload_n (pc := 13) hx hb dX1_findTelling_13 rfl (lv_at hl 0 rfl) ?_
  obtain ⟨v6, ev, hs⟩ := q_cal hs
  refine q_callV (pc := 14) (q := 56) (As := []) (rest := [.int x3]) (rs := [.int v6, .int x3]) hx hb hml hl.1 hts hown hK hSt hN hw (c_X1_choices l G h4 v6 ev) rfl rfl cv_X1_78 (rm_ok hR (by decide)) rfl (Nat.le_of_ble_eq_true rfl) rfl rfl dX1_findTelling_14 (fun H locs hw => ?_)
  refine lv_icmp_ge (pc := 17) (tgt := 41) hx hb dX1_findTelling_17 (by decide) (fun hc => ?_) (fun hc => ?_)
  · replace hs := q_t hc hs
    refine lv_aload_n (pc := 41) hx hb dX1_findTelling_41 rfl (lv_at hl 0 rfl) ?_
    refine lv_iconst (pc := 42) (v := (iI 0)) hx hb dX1_findTelling_42 rfl ?_
    refine q_putI (pc := 43) (q := 56) hx hb hts hown hK hw rfl fp_X1_47 dX1_findTelling_43 hs (fun h7 H locs hw hs => ?_)
    refine lv_aload_n (pc := 46) hx hb dX1_findTelling_46 rfl (lv_at hl 0 rfl) ?_
    refine lv_iconst (pc := 47) (v := (iI 0)) hx hb dX1_findTelling_47 rfl ?_
    refine q_putI (pc := 48) (q := 56) hx hb hts hown hK hw rfl fp_X1_50 dX1_findTelling_48 hs (fun h8 H locs hw hs => ?_)
    refine lv_iconst (pc := 51) (v := (iI 0)) hx hb dX1_findTelling_51 rfl ?_
    refine lv_istore_n (pc := 52) (lv' := [(3, .int (iI 0)), (0, .ref (G.2.2.1 56)), (1, .ref (G.2.2.1 q1)), (2, .int x2)]) hx hb dX1_findTelling_52 rfl hl (by decide) rfl (fun ls hl => ?_)
    refine (q_lo2 (P0 := fun (x9 : Int32) (h10 : Mem) => ∀ (H : Heap) (locs : List Loc), IW G s h10 H locs → ∀ ls : Array Slot, lv_has ls 5 [(0, .ref (G.2.2.1 56)), (2, .int x2), (3, .int x9)] → W p l e R s m args below meth c H locs 0 0 Q (F0 m 53 ls [])) hs ?_) _ _ hw _ (lv_sub hl [1, 3, 0] rfl)
    intro K11 hK11 x9 h10 hs H locs hw ls hl
    unfold f_X1_findTelling_k11 at hs
    refine lv_iload_n (pc := 53) hx hb dX1_findTelling_53 rfl (lv_at hl 2 rfl) ?_
    refine lv_aload_n (pc := 54) hx hb dX1_findTelling_54 rfl (lv_at hl 0 rfl) ?_
    refine q_getR (pc := 55) (q := 56) (o := 1) hx hb hts hown hK hw rfl fg_X1_10 dX1_findTelling_55 ?_
    obtain ⟨v12, ev, hs⟩ := q_cal hs
    refine q_callV (pc := 58) (q := 57) (As := []) (rest := [.int x9]) (rs := [.int v12, .int x9]) hx hb hml hl.1 hts hown hK hSt hN hw (c_X3_windows l G 57 rfl h10 v12 ev) rfl rfl cv_X1_117 (rm_ok hR (by decide)) rfl (Nat.le_of_ble_eq_true rfl) rfl rfl dX1_findTelling_58 (fun H locs hw => ?_)
    refine lv_icmp_ge (pc := 61) (tgt := 107) hx hb dX1_findTelling_61 (by decide) (fun hc => ?_) (fun hc => ?_)
    · replace hs := q_t hc hs
      refine lv_iload_n (pc := 107) hx hb dX1_findTelling_107 rfl (lv_at hl 1 rfl) ?_
      exact q_zretW hret dX1_findTelling_108 hw hs
    · replace hs := q_f hc hs
      refine lv_iload_n (pc := 64) hx hb dX1_findTelling_64 rfl (lv_at hl 2 rfl) ?_
      refine lv_bipush (pc := 65) (v := (iI 20)) hx hb dX1_findTelling_65 (by decide) ?_
      refine lv_icmp_ge (pc := 67) (tgt := 107) hx hb dX1_findTelling_67 (by decide) (fun hc => ?_) (fun hc => ?_)
      · replace hs := q_t hc hs
        refine lv_iload_n (pc := 107) hx hb dX1_findTelling_107 rfl (lv_at hl 1 rfl) ?_
        exact q_zretW hret dX1_findTelling_108 hw hs
      · replace hs := q_f hc hs
        refine lv_aload_n (pc := 70) hx hb dX1_findTelling_70 rfl (lv_at hl 0 rfl) ?_
        refine q_getR (pc := 71) (q := 56) (o := 7) hx hb hts hown hK hw rfl fg_X1_38 dX1_findTelling_71 ?_
        refine lv_iload_n (pc := 74) hx hb dX1_findTelling_74 rfl (lv_at hl 2 rfl) ?_
        refine q_ald (pc := 75) (q := 63) (n := 20) hx hb hK hw rfl dX1_findTelling_75 hs (fun v13 hs => ?_)
        obtain ⟨v14, ev, hs⟩ := q_cal hs
        refine q_callS (pc := 76) (As := [.int v13]) (rest := []) (rs := [.int v14]) hx hb hml hl.1 hts hown hK hSt hN hw (c_J6_bitCount_0f7a4 l G v13 h10 v14 ev) cs_X1_120 (rm_ok hR (by decide)) rfl (Nat.le_of_ble_eq_true rfl) rfl rfl dX1_findTelling_76 (fun H locs hw => ?_)
        refine lv_istore (pc := 79) (lv' := [(4, .int v14), (0, .ref (G.2.2.1 56)), (2, .int x2), (3, .int x9)]) hx hb dX1_findTelling_79 hl (by decide) rfl (fun ls hl => ?_)
        refine lv_iload (pc := 81) hx hb dX1_findTelling_81 (lv_at hl 0 rfl) ?_
        refine lv_aload_n (pc := 83) hx hb dX1_findTelling_83 rfl (lv_at hl 1 rfl) ?_
        refine q_getI (pc := 84) (q := 56) hx hb hts hown hK hw rfl fg_X1_50 dX1_findTelling_84 ?_
        refine q_join1 (P0 := fun (h15 : Mem) => ∀ (H : Heap) (locs : List Loc), IW G s h15 H locs → ∀ ls : Array Slot, lv_has ls 5 [(0, .ref (G.2.2.1 56)), (2, .int x2), (3, .int x9)] → W p l e R s m args below meth c H locs 0 0 Q (F0 m 101 ls [])) hs ?_ ?_
        · intro h15 hs H locs hw ls hl
          obtain ⟨x17, ex17, hs⟩ := q_nm hs
          refine lv_iinc (pc := 101) (v := x17) (lv' := [(3, .int x17), (0, .ref (G.2.2.1 56)), (2, .int x2)]) hx hb dX1_findTelling_101 hl (k := 2) rfl ex17 (by decide) rfl (fun ls hl => ?_)
          refine lv_goto (pc := 104) (tgt := 53) hx hb dX1_findTelling_104 (by decide) ?_
          exact hK11 _ _ hs _ _ hw _ (lv_sub hl [1, 2, 0] rfl)
        · intro K16 hK16 hs
          refine lv_icmp_le (pc := 87) (tgt := 101) hx hb dX1_findTelling_87 (by decide) (fun hc => ?_) (fun hc => ?_)
          · replace hs := q_t hc hs
            exact hK16 _ hs _ _ hw _ (lv_sub hl [1, 2, 3] rfl)
          · replace hs := q_f hc hs
            refine lv_aload_n (pc := 90) hx hb dX1_findTelling_90 rfl (lv_at hl 1 rfl) ?_
            refine lv_iload (pc := 91) hx hb dX1_findTelling_91 (lv_at hl 0 rfl) ?_
            refine q_putI (pc := 93) (q := 56) hx hb hts hown hK hw rfl fp_X1_50 dX1_findTelling_93 hs (fun h18 H locs hw hs => ?_)
            refine lv_aload_n (pc := 96) hx hb dX1_findTelling_96 rfl (lv_at hl 1 rfl) ?_
            refine lv_iload_n (pc := 97) hx hb dX1_findTelling_97 rfl (lv_at hl 3 rfl) ?_
            refine q_putI (pc := 98) (q := 56) hx hb hts hown hK hw rfl fp_X1_47 dX1_findTelling_98 hs (fun h19 H locs hw hs => ?_)
            exact hK16 _ hs _ _ hw _ (lv_sub hl [1, 2, 3] rfl)
  · replace hs := q_f hc hs
    refine lv_aload_n (pc := 20) hx hb dX1_findTelling_20 rfl (lv_at hl 0 rfl) ?_
    refine lv_aload_n (pc := 21) hx hb dX1_findTelling_21 rfl (lv_at hl 1 rfl) ?_
    refine lv_iload_n (pc := 22) hx hb dX1_findTelling_22 rfl (lv_at hl 3 rfl) ?_
    obtain ⟨v20, h21, ev, hs⟩ := q_cal2 hs
    refine q_callV (pc := 23) (q := 56) (As := [.ref (G.2.2.1 q1), .int x3]) (rest := []) (rs := [.int v20]) hx hb hml hl.1 hts hown hK hSt hN hw (c_X1_isFitting l G q1 hq1 x3 h4 v20 h21 ev) rfl rfl cv_X1_104 (rm_ok hR (by decide)) rfl (Nat.le_of_ble_eq_true rfl) rfl rfl dX1_findTelling_23 (fun H locs hw => ?_)
    refine q_join2 (P0 := fun (x22 : Int32) (h23 : Mem) => ∀ (H : Heap) (locs : List Loc), IW G s h23 H locs → ∀ ls : Array Slot, lv_has ls 5 [(0, .ref (G.2.2.1 56)), (1, .ref (G.2.2.1 q1)), (2, .int x22), (3, .int x3)] → W p l e R s m args below meth c H locs 0 0 Q (F0 m 35 ls [])) hs ?_ ?_
    · intro x22 h23 hs H locs hw ls hl
      obtain ⟨x25, ex25, hs⟩ := q_nm hs
      refine lv_iinc (pc := 35) (v := x25) (lv' := [(3, .int x25), (0, .ref (G.2.2.1 56)), (1, .ref (G.2.2.1 q1)), (2, .int x22)]) hx hb dX1_findTelling_35 hl (k := 3) rfl ex25 (by decide) rfl (fun ls hl => ?_)
      refine lv_goto (pc := 38) (tgt := 12) hx hb dX1_findTelling_38 (by decide) ?_
      exact hK5 _ _ _ hs _ _ hw _ (lv_sub hl [1, 2, 3, 0] rfl)
    · intro K24 hK24 hs
      refine lv_if_eq (pc := 26) (tgt := 35) hx hb dX1_findTelling_26 (by decide) (fun hc => ?_) (fun hc => ?_)
      · replace hs := q_t hc hs
        exact hK24 _ _ hs _ _ hw _ (lv_sub hl [0, 1, 2, 3] rfl)
      · replace hs := q_f hc hs
        refine lv_iconst (pc := 29) (v := (iI 1)) hx hb dX1_findTelling_29 rfl ?_
        refine lv_istore_n (pc := 30) (lv' := [(2, .int (iI 1)), (0, .ref (G.2.2.1 56)), (1, .ref (G.2.2.1 q1)), (3, .int x3)]) hx hb dX1_findTelling_30 rfl hl (by decide) rfl (fun ls hl => ?_)
        refine lv_aload_n (pc := 31) hx hb dX1_findTelling_31 rfl (lv_at hl 1 rfl) ?_
        obtain ⟨h26, ev, hs⟩ := q_cal hs
        refine q_callV (pc := 32) (q := 56) (As := []) (rest := []) (rs := []) hx hb hml hl.1 hts hown hK hSt hN hw (c_X1_noteOuts l G h21 h26 ev) rfl rfl cv_X1_114 (rm_ok hR (by decide)) rfl (Nat.le_of_ble_eq_true rfl) rfl rfl dX1_findTelling_32 (fun H locs hw => ?_)
        exact hK24 _ _ hs _ _ hw _ (lv_sub hl [1, 2, 0, 3] rfl)

set_option maxHeartbeats 4000000 in
theorem c_X2_raysRound (l : Launch) (G : GG) (q1 : Nat) (hq1 : LAY[q1]? = some (6, 0)) (a2 : Int32) (h : Mem) (v : Int32) (h' : Mem) (hs : f_X2_raysRound h q1 a2 = some (v, h')) : Sat l G yX2_raysRound cX2_raysRound 4 (some .int) 3 [.ref (G.2.2.1 39), .ref (G.2.2.1 q1), .int a2] h (some (.int v)) h' := by
  refine Sat.mkI (by decide) (Nat.le_of_ble_eq_true rfl) ?_
  intro p e R s m args below meth c Q F hret hw ls hl
  obtain ⟨hx, hb, hml, hown, hts, hK, hSt, hN, hR⟩ := F
  have hl : lv_has ls 4 [(0, .ref (G.2.2.1 39)), (1, .ref (G.2.2.1 q1)), (2, .int a2)] := hl
  unfold f_X2_raysRound at hs
  refine lv_aload_n (pc := 0) hx hb dX2_raysRound_0 rfl (lv_at hl 0 rfl) ?_
  refine q_getR (pc := 1) (q := 39) (o := 1) hx hb hts hown hK hw rfl fg_X2_10 dX2_raysRound_1 ?_
  refine lv_aload_n (pc := 4) hx hb dX2_raysRound_4 rfl (lv_at hl 1 rfl) ?_
  obtain ⟨h1, ev, hs⟩ := q_cal hs
  refine q_callV (pc := 5) (q := 40) (As := [.ref (G.2.2.1 q1)]) (rest := []) (rs := []) hx hb hml hl.1 hts hown hK hSt hN hw (c_X3_copyFrom l G 40 rfl q1 hq1 h h1 ev) rfl rfl cv_X2_50 (rm_ok hR (by decide)) rfl (Nat.le_of_ble_eq_true rfl) rfl rfl dX2_raysRound_5 (fun H locs hw => ?_)
  refine lv_iconst (pc := 8) (v := (iI 1)) hx hb dX2_raysRound_8 rfl ?_
  refine lv_istore_n (pc := 9) (lv' := [(3, .int (iI 1)), (0, .ref (G.2.2.1 39)), (1, .ref (G.2.2.1 q1)), (2, .int a2)]) hx hb dX2_raysRound_9 rfl hl (by decide) rfl (fun ls hl => ?_)
  refine (q_lo2 (P0 := fun (x2 : Int32) (h3 : Mem) => ∀ (H : Heap) (locs : List Loc), IW G s h3 H locs → ∀ ls : Array Slot, lv_has ls 4 [(0, .ref (G.2.2.1 39)), (1, .ref (G.2.2.1 q1)), (2, .int a2), (3, .int x2)] → W p l e R s m args below meth c H locs 0 0 Q (F0 m 10 ls [])) hs ?_) _ _ hw _ (lv_sub hl [1, 2, 3, 0] rfl)
  intro K4 hK4 x2 h3 hs H locs hw ls hl
  unfold f_X2_raysRound_k4 at hs
  refine lv_iload_n (pc := 10) hx hb dX2_raysRound_10 rfl (lv_at hl 3 rfl) ?_
  refine lv_sipush (pc := 11) (v := (iI 400)) hx hb dX2_raysRound_11 (by decide) ?_
  refine lv_icmp_gt (pc := 14) (tgt := 49) hx hb dX2_raysRound_14 (by decide) (fun hc => ?_) (fun hc => ?_)
  · replace hs := q_t hc hs
    refine lv_iconst (pc := 49) (v := (iI 0)) hx hb dX2_raysRound_49 rfl ?_
    exact q_iretW hret dX2_raysRound_50 hw hs
  · replace hs := q_f hc hs
    refine lv_aload_n (pc := 17) hx hb dX2_raysRound_17 rfl (lv_at hl 0 rfl) ?_
    refine q_getR (pc := 18) (q := 39) (o := 5) hx hb hts hown hK hw rfl fg_X2_19 dX2_raysRound_18 ?_
    refine lv_aload_n (pc := 21) hx hb dX2_raysRound_21 rfl (lv_at hl 0 rfl) ?_
    refine q_getR (pc := 22) (q := 39) (o := 1) hx hb hts hown hK hw rfl fg_X2_10 dX2_raysRound_22 ?_
    refine lv_iload_n (pc := 25) hx hb dX2_raysRound_25 rfl (lv_at hl 2 rfl) ?_
    obtain ⟨v5, h6, ev, hs⟩ := q_cal2 hs
    refine q_callV (pc := 26) (q := 44) (As := [.ref (G.2.2.1 40), .int a2]) (rest := []) (rs := [.int v5]) hx hb hml hl.1 hts hown hK hSt hN hw (c_X0_run l G 44 rfl 40 rfl a2 h3 v5 h6 ev) rfl rfl cv_X2_54 (rm_ok hR (by decide)) rfl (Nat.le_of_ble_eq_true rfl) rfl rfl dX2_raysRound_26 (fun H locs hw => ?_)
    refine lv_pop (pc := 29) hx hb dX2_raysRound_29 rfl ?_
    refine lv_aload_n (pc := 30) hx hb dX2_raysRound_30 rfl (lv_at hl 0 rfl) ?_
    refine q_getR (pc := 31) (q := 39) (o := 1) hx hb hts hown hK hw rfl fg_X2_10 dX2_raysRound_31 ?_
    refine lv_aload_n (pc := 34) hx hb dX2_raysRound_34 rfl (lv_at hl 1 rfl) ?_
    obtain ⟨v7, ev, hs⟩ := q_cal hs
    refine q_callV (pc := 35) (q := 40) (As := [.ref (G.2.2.1 q1)]) (rest := []) (rs := [.int v7]) hx hb hml hl.1 hts hown hK hSt hN hw (c_X3_standsAs l G 40 rfl q1 hq1 h6 v7 ev) rfl rfl cv_X2_58 (rm_ok hR (by decide)) rfl (Nat.le_of_ble_eq_true rfl) rfl rfl dX2_raysRound_35 (fun H locs hw => ?_)
    refine lv_if_eq (pc := 38) (tgt := 43) hx hb dX2_raysRound_38 (by decide) (fun hc => ?_) (fun hc => ?_)
    · replace hs := q_t hc hs
      obtain ⟨x8, ex8, hs⟩ := q_nm hs
      refine lv_iinc (pc := 43) (v := x8) (lv' := [(3, .int x8), (0, .ref (G.2.2.1 39)), (1, .ref (G.2.2.1 q1)), (2, .int a2)]) hx hb dX2_raysRound_43 hl (k := 3) rfl ex8 (by decide) rfl (fun ls hl => ?_)
      refine lv_goto (pc := 46) (tgt := 10) hx hb dX2_raysRound_46 (by decide) ?_
      exact hK4 _ _ hs _ _ hw _ (lv_sub hl [1, 2, 3, 0] rfl)
    · replace hs := q_f hc hs
      refine lv_iload_n (pc := 41) hx hb dX2_raysRound_41 rfl (lv_at hl 3 rfl) ?_
      exact q_iretW hret dX2_raysRound_42 hw hs

set_option maxHeartbeats 4000000 in
theorem c_X2_raysBack (l : Launch) (G : GG) (q1 : Nat) (hq1 : LAY[q1]? = some (6, 0)) (q2 : Nat) (hq2 : LAY[q2]? = some (6, 0)) (h : Mem) (v : Int32) (h' : Mem) (hs : f_X2_raysBack h q1 q2 = some (v, h')) : Sat l G yX2_raysBack cX2_raysBack 4 (some .int) 16 [.ref (G.2.2.1 39), .ref (G.2.2.1 q1), .ref (G.2.2.1 q2)] h (some (.int v)) h' := by
  refine Sat.mkI (by decide) (Nat.le_of_ble_eq_true rfl) ?_
  intro p e R s m args below meth c Q F hret hw ls hl
  obtain ⟨hx, hb, hml, hown, hts, hK, hSt, hN, hR⟩ := F
  have hl : lv_has ls 4 [(0, .ref (G.2.2.1 39)), (1, .ref (G.2.2.1 q1)), (2, .ref (G.2.2.1 q2))] := hl
  unfold f_X2_raysBack at hs
  refine lv_iconst (pc := 0) (v := (iI 0)) hx hb dX2_raysBack_0 rfl ?_
  refine lv_istore_n (pc := 1) (lv' := [(3, .int (iI 0)), (0, .ref (G.2.2.1 39)), (1, .ref (G.2.2.1 q1)), (2, .ref (G.2.2.1 q2))]) hx hb dX2_raysBack_1 rfl hl (by decide) rfl (fun ls hl => ?_)
  refine (q_lo2 (P0 := fun (x1 : Int32) (h2 : Mem) => ∀ (H : Heap) (locs : List Loc), IW G s h2 H locs → ∀ ls : Array Slot, lv_has ls 4 [(0, .ref (G.2.2.1 39)), (1, .ref (G.2.2.1 q1)), (2, .ref (G.2.2.1 q2)), (3, .int x1)] → W p l e R s m args below meth c H locs 0 0 Q (F0 m 2 ls [])) hs ?_) _ _ hw _ (lv_sub hl [1, 2, 3, 0] rfl)
  intro K3 hK3 x1 h2 hs H locs hw ls hl
  unfold f_X2_raysBack_k3 at hs
  refine lv_iload_n (pc := 2) hx hb dX2_raysBack_2 rfl (lv_at hl 3 rfl) ?_
  refine lv_iconst (pc := 3) (v := (iI 3)) hx hb dX2_raysBack_3 rfl ?_
  refine lv_icmp_gt (pc := 4) (tgt := 33) hx hb dX2_raysBack_4 (by decide) (fun hc => ?_) (fun hc => ?_)
  · replace hs := q_t hc hs
    refine lv_iconst (pc := 33) (v := (iI (-1))) hx hb dX2_raysBack_33 rfl ?_
    exact q_iretW hret dX2_raysBack_34 hw hs
  · replace hs := q_f hc hs
    refine lv_aload_n (pc := 7) hx hb dX2_raysBack_7 rfl (lv_at hl 0 rfl) ?_
    refine q_getR (pc := 8) (q := 39) (o := 1) hx hb hts hown hK hw rfl fg_X2_10 dX2_raysBack_8 ?_
    refine lv_aload_n (pc := 11) hx hb dX2_raysBack_11 rfl (lv_at hl 1 rfl) ?_
    obtain ⟨h4, ev, hs⟩ := q_cal hs
    refine q_callV (pc := 12) (q := 40) (As := [.ref (G.2.2.1 q1)]) (rest := []) (rs := []) hx hb hml hl.1 hts hown hK hSt hN hw (c_X3_copyFrom l G 40 rfl q1 hq1 h2 h4 ev) rfl rfl cv_X2_50 (rm_ok hR (by decide)) rfl (Nat.le_of_ble_eq_true rfl) rfl rfl dX2_raysBack_12 (fun H locs hw => ?_)
    refine lv_aload_n (pc := 15) hx hb dX2_raysBack_15 rfl (lv_at hl 0 rfl) ?_
    refine lv_iconst (pc := 16) (v := (iI 0)) hx hb dX2_raysBack_16 rfl ?_
    refine lv_iload_n (pc := 17) hx hb dX2_raysBack_17 rfl (lv_at hl 3 rfl) ?_
    refine lv_aload_n (pc := 18) hx hb dX2_raysBack_18 rfl (lv_at hl 2 rfl) ?_
    obtain ⟨v5, h6, ev, hs⟩ := q_cal2 hs
    refine q_callV (pc := 19) (q := 39) (As := [.int (iI 0), .int x1, .ref (G.2.2.1 q2)]) (rest := []) (rs := [.int v5]) hx hb hml hl.1 hts hown hK hSt hN hw ((rc_LEADS l G 12).1 (iI 0) x1 q2 hq2 h4 v5 h6 ev) rfl rfl cv_X2_62 (rm_ok hR (by decide)) rfl (Nat.le_of_ble_eq_true rfl) rfl rfl dX2_raysBack_19 (fun H locs hw => ?_)
    refine lv_if_eq (pc := 22) (tgt := 27) hx hb dX2_raysBack_22 (by decide) (fun hc => ?_) (fun hc => ?_)
    · replace hs := q_t hc hs
      obtain ⟨x7, ex7, hs⟩ := q_nm hs
      refine lv_iinc (pc := 27) (v := x7) (lv' := [(3, .int x7), (0, .ref (G.2.2.1 39)), (1, .ref (G.2.2.1 q1)), (2, .ref (G.2.2.1 q2))]) hx hb dX2_raysBack_27 hl (k := 3) rfl ex7 (by decide) rfl (fun ls hl => ?_)
      refine lv_goto (pc := 30) (tgt := 2) hx hb dX2_raysBack_30 (by decide) ?_
      exact hK3 _ _ hs _ _ hw _ (lv_sub hl [1, 2, 3, 0] rfl)
    · replace hs := q_f hc hs
      refine lv_iload_n (pc := 25) hx hb dX2_raysBack_25 rfl (lv_at hl 3 rfl) ?_
      exact q_iretW hret dX2_raysBack_26 hw hs

set_option maxHeartbeats 4000000 in
theorem c_X2_standings (l : Launch) (G : GG) (q1 : Nat) (hq1 : LAY[q1]? = some (6, 0)) (h : Mem) (v : Int32) (h' : Mem) (hs : f_X2_standings h q1 = some (v, h')) : Sat l G yX2_standings cX2_standings 4 (some .int) 3 [.ref (G.2.2.1 39), .ref (G.2.2.1 q1)] h (some (.int v)) h' := by
  refine Sat.mkI (by decide) (Nat.le_of_ble_eq_true rfl) ?_
  intro p e R s m args below meth c Q F hret hw ls hl
  obtain ⟨hx, hb, hml, hown, hts, hK, hSt, hN, hR⟩ := F
  have hl : lv_has ls 4 [(0, .ref (G.2.2.1 39)), (1, .ref (G.2.2.1 q1))] := hl
  unfold f_X2_standings at hs
  refine lv_aload_n (pc := 0) hx hb dX2_standings_0 rfl (lv_at hl 0 rfl) ?_
  refine q_getR (pc := 1) (q := 39) (o := 1) hx hb hts hown hK hw rfl fg_X2_10 dX2_standings_1 ?_
  refine lv_aload_n (pc := 4) hx hb dX2_standings_4 rfl (lv_at hl 1 rfl) ?_
  obtain ⟨h1, ev, hs⟩ := q_cal hs
  refine q_callV (pc := 5) (q := 40) (As := [.ref (G.2.2.1 q1)]) (rest := []) (rs := []) hx hb hml hl.1 hts hown hK hSt hN hw (c_X3_copyFrom l G 40 rfl q1 hq1 h h1 ev) rfl rfl cv_X2_50 (rm_ok hR (by decide)) rfl (Nat.le_of_ble_eq_true rfl) rfl rfl dX2_standings_5 (fun H locs hw => ?_)
  refine lv_aload_n (pc := 8) hx hb dX2_standings_8 rfl (lv_at hl 0 rfl) ?_
  refine lv_iconst (pc := 9) (v := (iI 0)) hx hb dX2_standings_9 rfl ?_
  refine q_putI (pc := 10) (q := 39) hx hb hts hown hK hw rfl fp_X2_40 dX2_standings_10 hs (fun h2 H locs hw hs => ?_)
  refine lv_aload_n (pc := 13) hx hb dX2_standings_13 rfl (lv_at hl 0 rfl) ?_
  obtain ⟨h3, ev, hs⟩ := q_cal hs
  refine q_callV (pc := 14) (q := 39) (As := []) (rest := []) (rs := []) hx hb hml hl.1 hts hown hK hSt hN hw (c_X2_note l G h2 h3 ev) rfl rfl cv_X2_84 (rm_ok hR (by decide)) rfl (Nat.le_of_ble_eq_true rfl) rfl rfl dX2_standings_14 (fun H locs hw => ?_)
  refine lv_iconst (pc := 17) (v := (iI 0)) hx hb dX2_standings_17 rfl ?_
  refine lv_istore_n (pc := 18) (lv' := [(2, .int (iI 0)), (0, .ref (G.2.2.1 39)), (1, .ref (G.2.2.1 q1))]) hx hb dX2_standings_18 rfl hl (by decide) rfl (fun ls hl => ?_)
  refine (q_lo2 (P0 := fun (x4 : Int32) (h5 : Mem) => ∀ (H : Heap) (locs : List Loc), IW G s h5 H locs → ∀ ls : Array Slot, lv_has ls 4 [(0, .ref (G.2.2.1 39)), (2, .int x4)] → W p l e R s m args below meth c H locs 0 0 Q (F0 m 19 ls [])) hs ?_) _ _ hw _ (lv_sub hl [1, 0] rfl)
  intro K6 hK6 x4 h5 hs H locs hw ls hl
  unfold f_X2_standings_k6 at hs
  refine lv_iload_n (pc := 19) hx hb dX2_standings_19 rfl (lv_at hl 1 rfl) ?_
  refine lv_sipush (pc := 20) (v := (iI 200)) hx hb dX2_standings_20 (by decide) ?_
  refine lv_icmp_gt (pc := 23) (tgt := 105) hx hb dX2_standings_23 (by decide) (fun hc => ?_) (fun hc => ?_)
  · replace hs := q_t hc hs
    refine lv_aload_n (pc := 105) hx hb dX2_standings_105 rfl (lv_at hl 0 rfl) ?_
    refine q_getI (pc := 106) (q := 39) hx hb hts hown hK hw rfl fg_X2_40 dX2_standings_106 ?_
    exact q_iretW hret dX2_standings_109 hw hs
  · replace hs := q_f hc hs
    refine lv_iload_n (pc := 26) hx hb dX2_standings_26 rfl (lv_at hl 1 rfl) ?_
    refine lv_aload_n (pc := 27) hx hb dX2_standings_27 rfl (lv_at hl 0 rfl) ?_
    refine q_getI (pc := 28) (q := 39) hx hb hts hown hK hw rfl fg_X2_40 dX2_standings_28 ?_
    refine lv_icmp_ge (pc := 31) (tgt := 105) hx hb dX2_standings_31 (by decide) (fun hc => ?_) (fun hc => ?_)
    · replace hs := q_t hc hs
      refine lv_aload_n (pc := 105) hx hb dX2_standings_105 rfl (lv_at hl 0 rfl) ?_
      refine q_getI (pc := 106) (q := 39) hx hb hts hown hK hw rfl fg_X2_40 dX2_standings_106 ?_
      exact q_iretW hret dX2_standings_109 hw hs
    · replace hs := q_f hc hs
      refine lv_iconst (pc := 34) (v := (iI 0)) hx hb dX2_standings_34 rfl ?_
      refine lv_istore_n (pc := 35) (lv' := [(3, .int (iI 0)), (0, .ref (G.2.2.1 39)), (2, .int x4)]) hx hb dX2_standings_35 rfl hl (by decide) rfl (fun ls hl => ?_)
      refine (q_lo2 (P0 := fun (x7 : Int32) (h8 : Mem) => ∀ (H : Heap) (locs : List Loc), IW G s h8 H locs → ∀ ls : Array Slot, lv_has ls 4 [(0, .ref (G.2.2.1 39)), (2, .int x4), (3, .int x7)] → W p l e R s m args below meth c H locs 0 0 Q (F0 m 36 ls [])) hs ?_) _ _ hw _ (lv_sub hl [1, 2, 0] rfl)
      intro K9 hK9 x7 h8 hs H locs hw ls hl
      unfold f_X2_standings_k9 at hs
      refine lv_iload_n (pc := 36) hx hb dX2_standings_36 rfl (lv_at hl 2 rfl) ?_
      refine lv_aload_n (pc := 37) hx hb dX2_standings_37 rfl (lv_at hl 0 rfl) ?_
      refine q_getR (pc := 38) (q := 39) (o := 1) hx hb hts hown hK hw rfl fg_X2_10 dX2_standings_38 ?_
      obtain ⟨v10, ev, hs⟩ := q_cal hs
      refine q_callV (pc := 41) (q := 40) (As := []) (rest := [.int x7]) (rs := [.int v10, .int x7]) hx hb hml hl.1 hts hown hK hSt hN hw (c_X3_windows l G 40 rfl h8 v10 ev) rfl rfl cv_X2_76 (rm_ok hR (by decide)) rfl (Nat.le_of_ble_eq_true rfl) rfl rfl dX2_standings_41 (fun H locs hw => ?_)
      refine q_join0 (P0 := ∀ (H : Heap) (locs : List Loc), IW G s h8 H locs → ∀ ls : Array Slot, lv_has ls 4 [(0, .ref (G.2.2.1 39)), (2, .int x4)] → W p l e R s m args below meth c H locs 0 0 Q (F0 m 99 ls [])) hs ?_ ?_
      · intro  hs H locs hw ls hl
        obtain ⟨x12, ex12, hs⟩ := q_nm hs
        refine lv_iinc (pc := 99) (v := x12) (lv' := [(2, .int x12), (0, .ref (G.2.2.1 39))]) hx hb dX2_standings_99 hl (k := 1) rfl ex12 (by decide) rfl (fun ls hl => ?_)
        refine lv_goto (pc := 102) (tgt := 19) hx hb dX2_standings_102 (by decide) ?_
        exact hK6 _ _ hs _ _ hw _ (lv_sub hl [1, 0] rfl)
      · intro K11 hK11 hs
        refine lv_icmp_ge (pc := 44) (tgt := 99) hx hb dX2_standings_44 (by decide) (fun hc => ?_) (fun hc => ?_)
        · replace hs := q_t hc hs
          exact hK11 hs _ _ hw _ (lv_sub hl [0, 1] rfl)
        · replace hs := q_f hc hs
          refine lv_aload_n (pc := 47) hx hb dX2_standings_47 rfl (lv_at hl 0 rfl) ?_
          refine q_getI (pc := 48) (q := 39) hx hb hts hown hK hw rfl fg_X2_40 dX2_standings_48 ?_
          refine lv_sipush (pc := 51) (v := (iI 200)) hx hb dX2_standings_51 (by decide) ?_
          refine lv_icmp_gt (pc := 54) (tgt := 99) hx hb dX2_standings_54 (by decide) (fun hc => ?_) (fun hc => ?_)
          · replace hs := q_t hc hs
            exact hK11 hs _ _ hw _ (lv_sub hl [0, 1] rfl)
          · replace hs := q_f hc hs
            refine lv_aload_n (pc := 57) hx hb dX2_standings_57 rfl (lv_at hl 0 rfl) ?_
            refine q_getR (pc := 58) (q := 39) (o := 1) hx hb hts hown hK hw rfl fg_X2_10 dX2_standings_58 ?_
            refine lv_aload_n (pc := 61) hx hb dX2_standings_61 rfl (lv_at hl 0 rfl) ?_
            refine q_getR (pc := 62) (q := 39) (o := 9) hx hb hts hown hK hw rfl fg_X2_34 dX2_standings_62 ?_
            refine lv_iload_n (pc := 65) hx hb dX2_standings_65 rfl (lv_at hl 1 rfl) ?_
            refine q_ald (pc := 66) (q := 48) (n := 201) hx hb hK hw rfl dX2_standings_66 hs (fun v13 hs => ?_)
            refine lv_aload_n (pc := 67) hx hb dX2_standings_67 rfl (lv_at hl 0 rfl) ?_
            refine q_getR (pc := 68) (q := 39) (o := 10) hx hb hts hown hK hw rfl fg_X2_37 dX2_standings_68 ?_
            refine lv_iload_n (pc := 71) hx hb dX2_standings_71 rfl (lv_at hl 1 rfl) ?_
            refine q_aldL (pc := 72) (q := 49) (n := 201) hx hb hK hw rfl dX2_standings_72 hs (fun w14 hs => ?_)
            obtain ⟨h15, ev, hs⟩ := q_cal hs
            refine q_callV (pc := 73) (q := 40) (As := [.int v13, .long w14]) (rest := []) (rs := []) hx hb hml hl.1 hts hown hK hSt hN hw (c_X3_stand l G 40 rfl v13 w14 h8 h15 ev) rfl rfl cv_X2_80 (rm_ok hR (by decide)) rfl (Nat.le_of_ble_eq_true rfl) rfl rfl dX2_standings_73 (fun H locs hw => ?_)
            refine lv_aload_n (pc := 76) hx hb dX2_standings_76 rfl (lv_at hl 0 rfl) ?_
            refine q_getR (pc := 77) (q := 39) (o := 5) hx hb hts hown hK hw rfl fg_X2_19 dX2_standings_77 ?_
            refine lv_aload_n (pc := 80) hx hb dX2_standings_80 rfl (lv_at hl 0 rfl) ?_
            refine q_getR (pc := 81) (q := 39) (o := 1) hx hb hts hown hK hw rfl fg_X2_10 dX2_standings_81 ?_
            refine lv_iload_n (pc := 84) hx hb dX2_standings_84 rfl (lv_at hl 2 rfl) ?_
            obtain ⟨v16, h17, ev, hs⟩ := q_cal2 hs
            refine q_callV (pc := 85) (q := 44) (As := [.ref (G.2.2.1 40), .int x7]) (rest := []) (rs := [.int v16]) hx hb hml hl.1 hts hown hK hSt hN hw (c_X0_run l G 44 rfl 40 rfl x7 h15 v16 h17 ev) rfl rfl cv_X2_54 (rm_ok hR (by decide)) rfl (Nat.le_of_ble_eq_true rfl) rfl rfl dX2_standings_85 (fun H locs hw => ?_)
            refine lv_pop (pc := 88) hx hb dX2_standings_88 rfl ?_
            refine lv_aload_n (pc := 89) hx hb dX2_standings_89 rfl (lv_at hl 0 rfl) ?_
            obtain ⟨h18, ev, hs⟩ := q_cal hs
            refine q_callV (pc := 90) (q := 39) (As := []) (rest := []) (rs := []) hx hb hml hl.1 hts hown hK hSt hN hw (c_X2_note l G h17 h18 ev) rfl rfl cv_X2_84 (rm_ok hR (by decide)) rfl (Nat.le_of_ble_eq_true rfl) rfl rfl dX2_standings_90 (fun H locs hw => ?_)
            obtain ⟨x19, ex19, hs⟩ := q_nm hs
            refine lv_iinc (pc := 93) (v := x19) (lv' := [(3, .int x19), (0, .ref (G.2.2.1 39)), (2, .int x4)]) hx hb dX2_standings_93 hl (k := 2) rfl ex19 (by decide) rfl (fun ls hl => ?_)
            refine lv_goto (pc := 96) (tgt := 36) hx hb dX2_standings_96 (by decide) ?_
            exact hK9 _ _ hs _ _ hw _ (lv_sub hl [1, 2, 0] rfl)

set_option maxHeartbeats 4000000 in
theorem c_X2_findLongest (l : Launch) (G : GG) (q1 : Nat) (hq1 : LAY[q1]? = some (6, 0)) (h : Mem) (h' : Mem) (hs : f_X2_findLongest h q1 = some h') : Sat l G yX2_findLongest cX2_findLongest 3 none 3 [.ref (G.2.2.1 39), .ref (G.2.2.1 q1)] h none h' := by
  refine Sat.mkV (by decide) (Nat.le_of_ble_eq_true rfl) ?_
  intro p e R s m args below meth c Q F hret hw ls hl
  obtain ⟨hx, hb, hml, hown, hts, hK, hSt, hN, hR⟩ := F
  have hl : lv_has ls 3 [(0, .ref (G.2.2.1 39)), (1, .ref (G.2.2.1 q1))] := hl
  unfold f_X2_findLongest at hs
  refine lv_aload_n (pc := 0) hx hb dX2_findLongest_0 rfl (lv_at hl 0 rfl) ?_
  refine lv_iconst (pc := 1) (v := (iI 0)) hx hb dX2_findLongest_1 rfl ?_
  refine q_putI (pc := 2) (q := 39) hx hb hts hown hK hw rfl fp_X2_44 dX2_findLongest_2 hs (fun h1 H locs hw hs => ?_)
  refine lv_aload_n (pc := 5) hx hb dX2_findLongest_5 rfl (lv_at hl 0 rfl) ?_
  refine lv_iconst (pc := 6) (v := (iI 0)) hx hb dX2_findLongest_6 rfl ?_
  refine q_putI (pc := 7) (q := 39) hx hb hts hown hK hw rfl fp_X2_47 dX2_findLongest_7 hs (fun h2 H locs hw hs => ?_)
  refine lv_aload_n (pc := 10) hx hb dX2_findLongest_10 rfl (lv_at hl 0 rfl) ?_
  refine q_getR (pc := 11) (q := 39) (o := 1) hx hb hts hown hK hw rfl fg_X2_10 dX2_findLongest_11 ?_
  refine lv_aload_n (pc := 14) hx hb dX2_findLongest_14 rfl (lv_at hl 1 rfl) ?_
  obtain ⟨h3, ev, hs⟩ := q_cal hs
  refine q_callV (pc := 15) (q := 40) (As := [.ref (G.2.2.1 q1)]) (rest := []) (rs := []) hx hb hml hl.1 hts hown hK hSt hN hw (c_X3_copyFrom l G 40 rfl q1 hq1 h2 h3 ev) rfl rfl cv_X2_50 (rm_ok hR (by decide)) rfl (Nat.le_of_ble_eq_true rfl) rfl rfl dX2_findLongest_15 (fun H locs hw => ?_)
  refine lv_iconst (pc := 18) (v := (iI 0)) hx hb dX2_findLongest_18 rfl ?_
  refine lv_istore_n (pc := 19) (lv' := [(2, .int (iI 0)), (0, .ref (G.2.2.1 39)), (1, .ref (G.2.2.1 q1))]) hx hb dX2_findLongest_19 rfl hl (by decide) rfl (fun ls hl => ?_)
  refine (q_lo2 (P0 := fun (x4 : Int32) (h5 : Mem) => ∀ (H : Heap) (locs : List Loc), IW G s h5 H locs → ∀ ls : Array Slot, lv_has ls 3 [(0, .ref (G.2.2.1 39)), (1, .ref (G.2.2.1 q1)), (2, .int x4)] → W p l e R s m args below meth c H locs 0 0 Q (F0 m 20 ls [])) hs ?_) _ _ hw _ (lv_sub hl [1, 2, 0] rfl)
  intro K6 hK6 x4 h5 hs H locs hw ls hl
  unfold f_X2_findLongest_k6 at hs
  refine lv_iload_n (pc := 20) hx hb dX2_findLongest_20 rfl (lv_at hl 2 rfl) ?_
  refine lv_aload_n (pc := 21) hx hb dX2_findLongest_21 rfl (lv_at hl 1 rfl) ?_
  obtain ⟨v7, ev, hs⟩ := q_cal hs
  refine q_callV (pc := 22) (q := q1) (As := []) (rest := [.int x4]) (rs := [.int v7, .int x4]) hx hb hml hl.1 hts hown hK hSt hN hw (c_X3_windows l G q1 hq1 h5 v7 ev) hq1 rfl cv_X2_76 (rm_ok hR (by decide)) rfl (Nat.le_of_ble_eq_true rfl) rfl rfl dX2_findLongest_22 (fun H locs hw => ?_)
  refine lv_icmp_ge (pc := 25) (tgt := 85) hx hb dX2_findLongest_25 (by decide) (fun hc => ?_) (fun hc => ?_)
  · replace hs := q_t hc hs
    exact q_vret hret dX2_findLongest_85 hw hs
  · replace hs := q_f hc hs
    refine lv_aload_n (pc := 28) hx hb dX2_findLongest_28 rfl (lv_at hl 0 rfl) ?_
    refine q_getR (pc := 29) (q := 39) (o := 1) hx hb hts hown hK hw rfl fg_X2_10 dX2_findLongest_29 ?_
    refine lv_aload_n (pc := 32) hx hb dX2_findLongest_32 rfl (lv_at hl 1 rfl) ?_
    obtain ⟨h8, ev, hs⟩ := q_cal hs
    refine q_callV (pc := 33) (q := 40) (As := [.ref (G.2.2.1 q1)]) (rest := []) (rs := []) hx hb hml hl.1 hts hown hK hSt hN hw (c_X3_standAs l G 40 rfl q1 hq1 h5 h8 ev) rfl rfl cv_X2_87 (rm_ok hR (by decide)) rfl (Nat.le_of_ble_eq_true rfl) rfl rfl dX2_findLongest_33 (fun H locs hw => ?_)
    refine lv_aload_n (pc := 36) hx hb dX2_findLongest_36 rfl (lv_at hl 0 rfl) ?_
    refine q_getR (pc := 37) (q := 39) (o := 5) hx hb hts hown hK hw rfl fg_X2_19 dX2_findLongest_37 ?_
    refine lv_aload_n (pc := 40) hx hb dX2_findLongest_40 rfl (lv_at hl 0 rfl) ?_
    refine q_getR (pc := 41) (q := 39) (o := 1) hx hb hts hown hK hw rfl fg_X2_10 dX2_findLongest_41 ?_
    refine lv_iload_n (pc := 44) hx hb dX2_findLongest_44 rfl (lv_at hl 2 rfl) ?_
    obtain ⟨v9, h10, ev, hs⟩ := q_cal2 hs
    refine q_callV (pc := 45) (q := 44) (As := [.ref (G.2.2.1 40), .int x4]) (rest := []) (rs := [.int v9]) hx hb hml hl.1 hts hown hK hSt hN hw (c_X0_run l G 44 rfl 40 rfl x4 h8 v9 h10 ev) rfl rfl cv_X2_54 (rm_ok hR (by decide)) rfl (Nat.le_of_ble_eq_true rfl) rfl rfl dX2_findLongest_45 (fun H locs hw => ?_)
    refine lv_pop (pc := 48) hx hb dX2_findLongest_48 rfl ?_
    refine lv_aload_n (pc := 49) hx hb dX2_findLongest_49 rfl (lv_at hl 0 rfl) ?_
    refine q_getR (pc := 50) (q := 39) (o := 5) hx hb hts hown hK hw rfl fg_X2_19 dX2_findLongest_50 ?_
    refine q_getI (pc := 53) (q := 44) hx hb hts hown hK hw rfl fg_X2_90 dX2_findLongest_53 ?_
    refine lv_aload_n (pc := 56) hx hb dX2_findLongest_56 rfl (lv_at hl 0 rfl) ?_
    refine q_getI (pc := 57) (q := 39) hx hb hts hown hK hw rfl fg_X2_47 dX2_findLongest_57 ?_
    refine q_join1 (P0 := fun (h11 : Mem) => ∀ (H : Heap) (locs : List Loc), IW G s h11 H locs → ∀ ls : Array Slot, lv_has ls 3 [(0, .ref (G.2.2.1 39)), (1, .ref (G.2.2.1 q1)), (2, .int x4)] → W p l e R s m args below meth c H locs 0 0 Q (F0 m 79 ls [])) hs ?_ ?_
    · intro h11 hs H locs hw ls hl
      obtain ⟨x13, ex13, hs⟩ := q_nm hs
      refine lv_iinc (pc := 79) (v := x13) (lv' := [(2, .int x13), (0, .ref (G.2.2.1 39)), (1, .ref (G.2.2.1 q1))]) hx hb dX2_findLongest_79 hl (k := 2) rfl ex13 (by decide) rfl (fun ls hl => ?_)
      refine lv_goto (pc := 82) (tgt := 20) hx hb dX2_findLongest_82 (by decide) ?_
      exact hK6 _ _ hs _ _ hw _ (lv_sub hl [1, 2, 0] rfl)
    · intro K12 hK12 hs
      refine lv_icmp_le (pc := 60) (tgt := 79) hx hb dX2_findLongest_60 (by decide) (fun hc => ?_) (fun hc => ?_)
      · replace hs := q_t hc hs
        exact hK12 _ hs _ _ hw _ (lv_sub hl [0, 1, 2] rfl)
      · replace hs := q_f hc hs
        refine lv_aload_n (pc := 63) hx hb dX2_findLongest_63 rfl (lv_at hl 0 rfl) ?_
        refine lv_aload_n (pc := 64) hx hb dX2_findLongest_64 rfl (lv_at hl 0 rfl) ?_
        refine q_getR (pc := 65) (q := 39) (o := 5) hx hb hts hown hK hw rfl fg_X2_19 dX2_findLongest_65 ?_
        refine q_getI (pc := 68) (q := 44) hx hb hts hown hK hw rfl fg_X2_90 dX2_findLongest_68 ?_
        refine q_putI (pc := 71) (q := 39) hx hb hts hown hK hw rfl fp_X2_47 dX2_findLongest_71 hs (fun h14 H locs hw hs => ?_)
        refine lv_aload_n (pc := 74) hx hb dX2_findLongest_74 rfl (lv_at hl 0 rfl) ?_
        refine lv_iload_n (pc := 75) hx hb dX2_findLongest_75 rfl (lv_at hl 2 rfl) ?_
        refine q_putI (pc := 76) (q := 39) hx hb hts hown hK hw rfl fp_X2_44 dX2_findLongest_76 hs (fun h15 H locs hw hs => ?_)
        exact hK12 _ hs _ _ hw _ (lv_sub hl [0, 1, 2] rfl)

set_option maxHeartbeats 4000000 in
theorem c_X4_leadByOne (l : Launch) (G : GG) (q1 : Nat) (hq1 : LAY[q1]? = some (12, 0)) (h : Mem) (v : Int32) (h' : Mem) (hs : f_X4_leadByOne h q1 = some (v, h')) : Sat l G yX4_leadByOne cX4_leadByOne 4 (some .boolean) 4 [.ref (G.2.2.1 50), .ref (G.2.2.1 q1)] h (some (.int v)) h' := by
  refine Sat.mkZ (by decide) (Nat.le_of_ble_eq_true rfl) ?_
  intro p e R s m args below meth c Q F hret hw ls hl
  obtain ⟨hx, hb, hml, hown, hts, hK, hSt, hN, hR⟩ := F
  have hl : lv_has ls 4 [(0, .ref (G.2.2.1 50)), (1, .ref (G.2.2.1 q1))] := hl
  unfold f_X4_leadByOne at hs
  refine lv_aload_n (pc := 0) hx hb dX4_leadByOne_0 rfl (lv_at hl 1 rfl) ?_
  refine q_getR (pc := 1) (q := q1) (o := 1) hx hb hts hown hK hw hq1 fg_X4_39 dX4_leadByOne_1 ?_
  refine lv_astore_n (pc := 4) (lv' := [(2, .ref (G.2.2.1 (q1 + 1))), (0, .ref (G.2.2.1 50)), (1, .ref (G.2.2.1 q1))]) hx hb dX4_leadByOne_4 rfl hl (by decide) rfl (fun ls hl => ?_)
  refine lv_iconst (pc := 5) (v := (iI 0)) hx hb dX4_leadByOne_5 rfl ?_
  refine lv_istore_n (pc := 6) (lv' := [(3, .int (iI 0)), (2, .ref (G.2.2.1 (q1 + 1))), (0, .ref (G.2.2.1 50)), (1, .ref (G.2.2.1 q1))]) hx hb dX4_leadByOne_6 rfl hl (by decide) rfl (fun ls hl => ?_)
  refine (q_lo2 (P0 := fun (x1 : Int32) (h2 : Mem) => ∀ (H : Heap) (locs : List Loc), IW G s h2 H locs → ∀ ls : Array Slot, lv_has ls 4 [(0, .ref (G.2.2.1 50)), (1, .ref (G.2.2.1 q1)), (2, .ref (G.2.2.1 (q1 + 1))), (3, .int x1)] → W p l e R s m args below meth c H locs 0 0 Q (F0 m 7 ls [])) hs ?_) _ _ hw _ (lv_sub hl [2, 3, 1, 0] rfl)
  intro K3 hK3 x1 h2 hs H locs hw ls hl
  unfold f_X4_leadByOne_k3 at hs
  refine lv_iload_n (pc := 7) hx hb dX4_leadByOne_7 rfl (lv_at hl 3 rfl) ?_
  refine lv_aload_n (pc := 8) hx hb dX4_leadByOne_8 rfl (lv_at hl 2 rfl) ?_
  obtain ⟨v4, ev, hs⟩ := q_cal hs
  refine q_callV (pc := 9) (q := (q1 + 1)) (As := []) (rest := [.int x1]) (rs := [.int v4, .int x1]) hx hb hml hl.1 hts hown hK hSt hN hw (c_X3_squares l G (q1 + 1) (wt_X9_hall _ hq1) h2 v4 ev) (wt_X9_hall _ hq1) rfl cv_X4_77 (rm_ok hR (by decide)) rfl (Nat.le_of_ble_eq_true rfl) rfl rfl dX4_leadByOne_9 (fun H locs hw => ?_)
  refine lv_icmp_ge (pc := 12) (tgt := 56) hx hb dX4_leadByOne_12 (by decide) (fun hc => ?_) (fun hc => ?_)
  · replace hs := q_t hc hs
    refine lv_aload_n (pc := 56) hx hb dX4_leadByOne_56 rfl (lv_at hl 0 rfl) ?_
    refine q_getI (pc := 57) (q := 50) hx hb hts hown hK hw rfl fg_X4_30 dX4_leadByOne_57 ?_
    refine lv_if_le (pc := 60) (tgt := 67) hx hb dX4_leadByOne_60 (by decide) (fun hc => ?_) (fun hc => ?_)
    · replace hs := q_t hc hs
      refine lv_iconst (pc := 67) (v := (iI 0)) hx hb dX4_leadByOne_67 rfl ?_
      exact q_zretW hret dX4_leadByOne_68 hw hs
    · replace hs := q_f hc hs
      refine lv_iconst (pc := 63) (v := (iI 1)) hx hb dX4_leadByOne_63 rfl ?_
      refine lv_goto (pc := 64) (tgt := 68) hx hb dX4_leadByOne_64 (by decide) ?_
      exact q_zretW hret dX4_leadByOne_68 hw hs
  · replace hs := q_f hc hs
    refine lv_aload_n (pc := 15) hx hb dX4_leadByOne_15 rfl (lv_at hl 2 rfl) ?_
    refine lv_iload_n (pc := 16) hx hb dX4_leadByOne_16 rfl (lv_at hl 3 rfl) ?_
    obtain ⟨v5, ev, hs⟩ := q_cal hs
    refine q_callV (pc := 17) (q := (q1 + 1)) (As := [.int x1]) (rest := []) (rs := [.int v5]) hx hb hml hl.1 hts hown hK hSt hN hw (c_X3_handCan l G (q1 + 1) (wt_X9_hall _ hq1) x1 h2 v5 ev) (wt_X9_hall _ hq1) rfl cv_X4_80 (rm_ok hR (by decide)) rfl (Nat.le_of_ble_eq_true rfl) rfl rfl dX4_leadByOne_17 (fun H locs hw => ?_)
    refine q_join1 (P0 := fun (h6 : Mem) => ∀ (H : Heap) (locs : List Loc), IW G s h6 H locs → ∀ ls : Array Slot, lv_has ls 4 [(0, .ref (G.2.2.1 50)), (1, .ref (G.2.2.1 q1)), (2, .ref (G.2.2.1 (q1 + 1))), (3, .int x1)] → W p l e R s m args below meth c H locs 0 0 Q (F0 m 50 ls [])) hs ?_ ?_
    · intro h6 hs H locs hw ls hl
      obtain ⟨x8, ex8, hs⟩ := q_nm hs
      refine lv_iinc (pc := 50) (v := x8) (lv' := [(3, .int x8), (0, .ref (G.2.2.1 50)), (1, .ref (G.2.2.1 q1)), (2, .ref (G.2.2.1 (q1 + 1)))]) hx hb dX4_leadByOne_50 hl (k := 3) rfl ex8 (by decide) rfl (fun ls hl => ?_)
      refine lv_goto (pc := 53) (tgt := 7) hx hb dX4_leadByOne_53 (by decide) ?_
      exact hK3 _ _ hs _ _ hw _ (lv_sub hl [1, 2, 3, 0] rfl)
    · intro K7 hK7 hs
      refine lv_if_eq (pc := 20) (tgt := 50) hx hb dX4_leadByOne_20 (by decide) (fun hc => ?_) (fun hc => ?_)
      · replace hs := q_t hc hs
        exact hK7 _ hs _ _ hw _ (lv_sub hl [0, 1, 2, 3] rfl)
      · replace hs := q_f hc hs
        refine lv_aload_n (pc := 23) hx hb dX4_leadByOne_23 rfl (lv_at hl 0 rfl) ?_
        refine lv_aload_n (pc := 24) hx hb dX4_leadByOne_24 rfl (lv_at hl 2 rfl) ?_
        refine lv_iconst (pc := 25) (v := (iI 1)) hx hb dX4_leadByOne_25 rfl ?_
        refine lv_iload_n (pc := 26) hx hb dX4_leadByOne_26 rfl (lv_at hl 3 rfl) ?_
        refine q_ishl (pc := 27) hx hb dX4_leadByOne_27 ?_
        obtain ⟨v9, h10, ev, hs⟩ := q_cal2 hs
        refine q_callV (pc := 28) (q := 50) (As := [.ref (G.2.2.1 (q1 + 1)), .int (shlI (iI 1) x1)]) (rest := []) (rs := [.int v9]) hx hb hml hl.1 hts hown hK hSt hN hw (c_X4_isLit l G (q1 + 1) (wt_X9_hall _ hq1) (shlI (iI 1) x1) h2 v9 h10 ev) rfl rfl cv_X4_48 (rm_ok hR (by decide)) rfl (Nat.le_of_ble_eq_true rfl) rfl rfl dX4_leadByOne_28 (fun H locs hw => ?_)
        refine lv_if_eq (pc := 31) (tgt := 50) hx hb dX4_leadByOne_31 (by decide) (fun hc => ?_) (fun hc => ?_)
        · replace hs := q_t hc hs
          exact hK7 _ hs _ _ hw _ (lv_sub hl [0, 1, 2, 3] rfl)
        · replace hs := q_f hc hs
          refine lv_aload_n (pc := 34) hx hb dX4_leadByOne_34 rfl (lv_at hl 0 rfl) ?_
          refine lv_iconst (pc := 35) (v := (iI 1)) hx hb dX4_leadByOne_35 rfl ?_
          refine lv_bipush (pc := 36) (v := (iI 100)) hx hb dX4_leadByOne_36 (by decide) ?_
          refine lv_iload_n (pc := 38) hx hb dX4_leadByOne_38 rfl (lv_at hl 3 rfl) ?_
          refine lv_imul (pc := 39) hx hb dX4_leadByOne_39 ?_
          refine lv_iload_n (pc := 40) hx hb dX4_leadByOne_40 rfl (lv_at hl 3 rfl) ?_
          refine lv_iadd (pc := 41) hx hb dX4_leadByOne_41 ?_
          refine lv_aload_n (pc := 42) hx hb dX4_leadByOne_42 rfl (lv_at hl 1 rfl) ?_
          refine lv_iload_n (pc := 43) hx hb dX4_leadByOne_43 rfl (lv_at hl 3 rfl) ?_
          obtain ⟨v11, h12, ev, hs⟩ := q_cal2 hs
          refine q_callV (pc := 44) (q := q1) (As := [.int x1]) (rest := [.int (((iI 100) * x1) + x1), .int (iI 1), .ref (G.2.2.1 50)]) (rs := [.int v11, .int (((iI 100) * x1) + x1), .int (iI 1), .ref (G.2.2.1 50)]) hx hb hml hl.1 hts hown hK hSt hN hw (c_X9_handCost l G q1 hq1 x1 h10 v11 h12 ev) hq1 rfl cv_X4_84 (rm_ok hR (by decide)) rfl (Nat.le_of_ble_eq_true rfl) rfl rfl dX4_leadByOne_44 (fun H locs hw => ?_)
          obtain ⟨h13, ev, hs⟩ := q_cal hs
          refine q_callV (pc := 47) (q := 50) (As := [.int (iI 1), .int (((iI 100) * x1) + x1), .int v11]) (rest := []) (rs := []) hx hb hml hl.1 hts hown hK hSt hN hw (c_X4_offer l G (iI 1) (((iI 100) * x1) + x1) v11 h12 h13 ev) rfl rfl cv_X4_88 (rm_ok hR (by decide)) rfl (Nat.le_of_ble_eq_true rfl) rfl rfl dX4_leadByOne_47 (fun H locs hw => ?_)
          exact hK7 _ hs _ _ hw _ (lv_sub hl [0, 1, 2, 3] rfl)

set_option maxHeartbeats 4000000 in
set_option maxRecDepth 100000 in
theorem c_X4_leadByTwo (l : Launch) (G : GG) (q1 : Nat) (hq1 : LAY[q1]? = some (12, 0)) (h : Mem) (v : Int32) (h' : Mem) (hs : f_X4_leadByTwo h q1 = some (v, h')) : Sat l G yX4_leadByTwo cX4_leadByTwo 5 (some .boolean) 4 [.ref (G.2.2.1 50), .ref (G.2.2.1 q1)] h (some (.int v)) h' := by
  refine Sat.mkZ (by decide) (Nat.le_of_ble_eq_true rfl) ?_
  intro p e R s m args below meth c Q F hret hw ls hl
  obtain ⟨hx, hb, hml, hown, hts, hK, hSt, hN, hR⟩ := F
  have hl : lv_has ls 5 [(0, .ref (G.2.2.1 50)), (1, .ref (G.2.2.1 q1))] := hl
  unfold f_X4_leadByTwo at hs
  refine lv_aload_n (pc := 0) hx hb dX4_leadByTwo_0 rfl (lv_at hl 1 rfl) ?_
  refine q_getR (pc := 1) (q := q1) (o := 1) hx hb hts hown hK hw hq1 fg_X4_39 dX4_leadByTwo_1 ?_
  refine lv_astore_n (pc := 4) (lv' := [(2, .ref (G.2.2.1 (q1 + 1))), (0, .ref (G.2.2.1 50)), (1, .ref (G.2.2.1 q1))]) hx hb dX4_leadByTwo_4 rfl hl (by decide) rfl (fun ls hl => ?_)
  refine lv_iconst (pc := 5) (v := (iI 0)) hx hb dX4_leadByTwo_5 rfl ?_
  refine lv_istore_n (pc := 6) (lv' := [(3, .int (iI 0)), (2, .ref (G.2.2.1 (q1 + 1))), (0, .ref (G.2.2.1 50)), (1, .ref (G.2.2.1 q1))]) hx hb dX4_leadByTwo_6 rfl hl (by decide) rfl (fun ls hl => ?_)
  refine (q_lo2 (P0 := fun (x1 : Int32) (h2 : Mem) => ∀ (H : Heap) (locs : List Loc), IW G s h2 H locs → ∀ ls : Array Slot, lv_has ls 5 [(0, .ref (G.2.2.1 50)), (1, .ref (G.2.2.1 q1)), (2, .ref (G.2.2.1 (q1 + 1))), (3, .int x1)] → W p l e R s m args below meth c H locs 0 0 Q (F0 m 7 ls [])) hs ?_) _ _ hw _ (lv_sub hl [2, 3, 1, 0] rfl)
  intro K3 hK3 x1 h2 hs H locs hw ls hl
  unfold f_X4_leadByTwo_k3 at hs
  refine lv_iload_n (pc := 7) hx hb dX4_leadByTwo_7 rfl (lv_at hl 3 rfl) ?_
  refine lv_aload_n (pc := 8) hx hb dX4_leadByTwo_8 rfl (lv_at hl 2 rfl) ?_
  obtain ⟨v4, ev, hs⟩ := q_cal hs
  refine q_callV (pc := 9) (q := (q1 + 1)) (As := []) (rest := [.int x1]) (rs := [.int v4, .int x1]) hx hb hml hl.1 hts hown hK hSt hN hw (c_X3_squares l G (q1 + 1) (wt_X9_hall _ hq1) h2 v4 ev) (wt_X9_hall _ hq1) rfl cv_X4_77 (rm_ok hR (by decide)) rfl (Nat.le_of_ble_eq_true rfl) rfl rfl dX4_leadByTwo_9 (fun H locs hw => ?_)
  refine lv_icmp_ge (pc := 12) (tgt := 98) hx hb dX4_leadByTwo_12 (by decide) (fun hc => ?_) (fun hc => ?_)
  · replace hs := q_t hc hs
    refine lv_aload_n (pc := 98) hx hb dX4_leadByTwo_98 rfl (lv_at hl 0 rfl) ?_
    refine q_getI (pc := 99) (q := 50) hx hb hts hown hK hw rfl fg_X4_30 dX4_leadByTwo_99 ?_
    refine lv_if_le (pc := 102) (tgt := 109) hx hb dX4_leadByTwo_102 (by decide) (fun hc => ?_) (fun hc => ?_)
    · replace hs := q_t hc hs
      refine lv_iconst (pc := 109) (v := (iI 0)) hx hb dX4_leadByTwo_109 rfl ?_
      exact q_zretW hret dX4_leadByTwo_110 hw hs
    · replace hs := q_f hc hs
      refine lv_iconst (pc := 105) (v := (iI 1)) hx hb dX4_leadByTwo_105 rfl ?_
      refine lv_goto (pc := 106) (tgt := 110) hx hb dX4_leadByTwo_106 (by decide) ?_
      exact q_zretW hret dX4_leadByTwo_110 hw hs
  · replace hs := q_f hc hs
    refine lv_iload_n (pc := 15) hx hb dX4_leadByTwo_15 rfl (lv_at hl 3 rfl) ?_
    refine lv_iconst (pc := 16) (v := (iI 1)) hx hb dX4_leadByTwo_16 rfl ?_
    refine lv_iadd (pc := 17) hx hb dX4_leadByTwo_17 ?_
    obtain ⟨x5, ex5, hs⟩ := q_nm hs
    refine q_topI ex5 ?_
    refine lv_istore (pc := 18) (lv' := [(4, .int x5), (0, .ref (G.2.2.1 50)), (1, .ref (G.2.2.1 q1)), (2, .ref (G.2.2.1 (q1 + 1))), (3, .int x1)]) hx hb dX4_leadByTwo_18 hl (by decide) rfl (fun ls hl => ?_)
    refine (q_lo2 (P0 := fun (x6 : Int32) (h7 : Mem) => ∀ (H : Heap) (locs : List Loc), IW G s h7 H locs → ∀ ls : Array Slot, lv_has ls 5 [(0, .ref (G.2.2.1 50)), (1, .ref (G.2.2.1 q1)), (2, .ref (G.2.2.1 (q1 + 1))), (3, .int x1), (4, .int x6)] → W p l e R s m args below meth c H locs 0 0 Q (F0 m 20 ls [])) hs ?_) _ _ hw _ (lv_sub hl [1, 2, 3, 4, 0] rfl)
    intro K8 hK8 x6 h7 hs H locs hw ls hl
    unfold f_X4_leadByTwo_k8 at hs
    refine lv_iload (pc := 20) hx hb dX4_leadByTwo_20 (lv_at hl 4 rfl) ?_
    refine lv_aload_n (pc := 22) hx hb dX4_leadByTwo_22 rfl (lv_at hl 2 rfl) ?_
    obtain ⟨v9, ev, hs⟩ := q_cal hs
    refine q_callV (pc := 23) (q := (q1 + 1)) (As := []) (rest := [.int x6]) (rs := [.int v9, .int x6]) hx hb hml hl.1 hts hown hK hSt hN hw (c_X3_squares l G (q1 + 1) (wt_X9_hall _ hq1) h7 v9 ev) (wt_X9_hall _ hq1) rfl cv_X4_77 (rm_ok hR (by decide)) rfl (Nat.le_of_ble_eq_true rfl) rfl rfl dX4_leadByTwo_23 (fun H locs hw => ?_)
    refine q_join0 (P0 := ∀ (H : Heap) (locs : List Loc), IW G s h7 H locs → ∀ ls : Array Slot, lv_has ls 5 [(0, .ref (G.2.2.1 50)), (1, .ref (G.2.2.1 q1)), (2, .ref (G.2.2.1 (q1 + 1))), (3, .int x1)] → W p l e R s m args below meth c H locs 0 0 Q (F0 m 92 ls [])) hs ?_ ?_
    · intro  hs H locs hw ls hl
      obtain ⟨x11, ex11, hs⟩ := q_nm hs
      refine lv_iinc (pc := 92) (v := x11) (lv' := [(3, .int x11), (0, .ref (G.2.2.1 50)), (1, .ref (G.2.2.1 q1)), (2, .ref (G.2.2.1 (q1 + 1)))]) hx hb dX4_leadByTwo_92 hl (k := 3) rfl ex11 (by decide) rfl (fun ls hl => ?_)
      refine lv_goto (pc := 95) (tgt := 7) hx hb dX4_leadByTwo_95 (by decide) ?_
      exact hK3 _ _ hs _ _ hw _ (lv_sub hl [1, 2, 3, 0] rfl)
    · intro K10 hK10 hs
      refine lv_icmp_ge (pc := 26) (tgt := 92) hx hb dX4_leadByTwo_26 (by decide) (fun hc => ?_) (fun hc => ?_)
      · replace hs := q_t hc hs
        exact hK10 hs _ _ hw _ (lv_sub hl [0, 1, 2, 3] rfl)
      · replace hs := q_f hc hs
        refine lv_aload_n (pc := 29) hx hb dX4_leadByTwo_29 rfl (lv_at hl 2 rfl) ?_
        refine lv_iload_n (pc := 30) hx hb dX4_leadByTwo_30 rfl (lv_at hl 3 rfl) ?_
        obtain ⟨v12, ev, hs⟩ := q_cal hs
        refine q_callV (pc := 31) (q := (q1 + 1)) (As := [.int x1]) (rest := []) (rs := [.int v12]) hx hb hml hl.1 hts hown hK hSt hN hw (c_X3_handCan l G (q1 + 1) (wt_X9_hall _ hq1) x1 h7 v12 ev) (wt_X9_hall _ hq1) rfl cv_X4_80 (rm_ok hR (by decide)) rfl (Nat.le_of_ble_eq_true rfl) rfl rfl dX4_leadByTwo_31 (fun H locs hw => ?_)
        refine lv_if_eq (pc := 34) (tgt := 92) hx hb dX4_leadByTwo_34 (by decide) (fun hc => ?_) (fun hc => ?_)
        · replace hs := q_t hc hs
          exact hK10 hs _ _ hw _ (lv_sub hl [0, 1, 2, 3] rfl)
        · replace hs := q_f hc hs
          refine lv_aload_n (pc := 37) hx hb dX4_leadByTwo_37 rfl (lv_at hl 2 rfl) ?_
          refine lv_iload (pc := 38) hx hb dX4_leadByTwo_38 (lv_at hl 4 rfl) ?_
          obtain ⟨v13, ev, hs⟩ := q_cal hs
          refine q_callV (pc := 40) (q := (q1 + 1)) (As := [.int x6]) (rest := []) (rs := [.int v13]) hx hb hml hl.1 hts hown hK hSt hN hw (c_X3_handCan l G (q1 + 1) (wt_X9_hall _ hq1) x6 h7 v13 ev) (wt_X9_hall _ hq1) rfl cv_X4_80 (rm_ok hR (by decide)) rfl (Nat.le_of_ble_eq_true rfl) rfl rfl dX4_leadByTwo_40 (fun H locs hw => ?_)
          refine q_join1 (P0 := fun (h14 : Mem) => ∀ (H : Heap) (locs : List Loc), IW G s h14 H locs → ∀ ls : Array Slot, lv_has ls 5 [(0, .ref (G.2.2.1 50)), (1, .ref (G.2.2.1 q1)), (2, .ref (G.2.2.1 (q1 + 1))), (3, .int x1), (4, .int x6)] → W p l e R s m args below meth c H locs 0 0 Q (F0 m 86 ls [])) hs ?_ ?_
          · intro h14 hs H locs hw ls hl
            obtain ⟨x16, ex16, hs⟩ := q_nm hs
            refine lv_iinc (pc := 86) (v := x16) (lv' := [(4, .int x16), (0, .ref (G.2.2.1 50)), (1, .ref (G.2.2.1 q1)), (2, .ref (G.2.2.1 (q1 + 1))), (3, .int x1)]) hx hb dX4_leadByTwo_86 hl (k := 4) rfl ex16 (by decide) rfl (fun ls hl => ?_)
            refine lv_goto (pc := 89) (tgt := 20) hx hb dX4_leadByTwo_89 (by decide) ?_
            exact hK8 _ _ hs _ _ hw _ (lv_sub hl [1, 2, 3, 4, 0] rfl)
          · intro K15 hK15 hs
            refine lv_if_eq (pc := 43) (tgt := 86) hx hb dX4_leadByTwo_43 (by decide) (fun hc => ?_) (fun hc => ?_)
            · replace hs := q_t hc hs
              exact hK15 _ hs _ _ hw _ (lv_sub hl [0, 1, 2, 3, 4] rfl)
            · replace hs := q_f hc hs
              refine lv_aload_n (pc := 46) hx hb dX4_leadByTwo_46 rfl (lv_at hl 0 rfl) ?_
              refine lv_aload_n (pc := 47) hx hb dX4_leadByTwo_47 rfl (lv_at hl 2 rfl) ?_
              refine lv_iconst (pc := 48) (v := (iI 1)) hx hb dX4_leadByTwo_48 rfl ?_
              refine lv_iload_n (pc := 49) hx hb dX4_leadByTwo_49 rfl (lv_at hl 3 rfl) ?_
              refine q_ishl (pc := 50) hx hb dX4_leadByTwo_50 ?_
              refine lv_iconst (pc := 51) (v := (iI 1)) hx hb dX4_leadByTwo_51 rfl ?_
              refine lv_iload (pc := 52) hx hb dX4_leadByTwo_52 (lv_at hl 4 rfl) ?_
              refine q_ishl (pc := 54) hx hb dX4_leadByTwo_54 ?_
              refine lv_ior (pc := 55) hx hb dX4_leadByTwo_55 ?_
              obtain ⟨v17, h18, ev, hs⟩ := q_cal2 hs
              refine q_callV (pc := 56) (q := 50) (As := [.ref (G.2.2.1 (q1 + 1)), .int ((shlI (iI 1) x1) ||| (shlI (iI 1) x6))]) (rest := []) (rs := [.int v17]) hx hb hml hl.1 hts hown hK hSt hN hw (c_X4_isLit l G (q1 + 1) (wt_X9_hall _ hq1) ((shlI (iI 1) x1) ||| (shlI (iI 1) x6)) h7 v17 h18 ev) rfl rfl cv_X4_48 (rm_ok hR (by decide)) rfl (Nat.le_of_ble_eq_true rfl) rfl rfl dX4_leadByTwo_56 (fun H locs hw => ?_)
              refine lv_if_eq (pc := 59) (tgt := 86) hx hb dX4_leadByTwo_59 (by decide) (fun hc => ?_) (fun hc => ?_)
              · replace hs := q_t hc hs
                exact hK15 _ hs _ _ hw _ (lv_sub hl [0, 1, 2, 3, 4] rfl)
              · replace hs := q_f hc hs
                refine lv_aload_n (pc := 62) hx hb dX4_leadByTwo_62 rfl (lv_at hl 0 rfl) ?_
                refine lv_iconst (pc := 63) (v := (iI 2)) hx hb dX4_leadByTwo_63 rfl ?_
                refine lv_bipush (pc := 64) (v := (iI 100)) hx hb dX4_leadByTwo_64 (by decide) ?_
                refine lv_iload_n (pc := 66) hx hb dX4_leadByTwo_66 rfl (lv_at hl 3 rfl) ?_
                refine lv_imul (pc := 67) hx hb dX4_leadByTwo_67 ?_
                refine lv_iload (pc := 68) hx hb dX4_leadByTwo_68 (lv_at hl 4 rfl) ?_
                refine lv_iadd (pc := 70) hx hb dX4_leadByTwo_70 ?_
                refine lv_aload_n (pc := 71) hx hb dX4_leadByTwo_71 rfl (lv_at hl 1 rfl) ?_
                refine lv_iload_n (pc := 72) hx hb dX4_leadByTwo_72 rfl (lv_at hl 3 rfl) ?_
                obtain ⟨v19, h20, ev, hs⟩ := q_cal2 hs
                refine q_callV (pc := 73) (q := q1) (As := [.int x1]) (rest := [.int (((iI 100) * x1) + x6), .int (iI 2), .ref (G.2.2.1 50)]) (rs := [.int v19, .int (((iI 100) * x1) + x6), .int (iI 2), .ref (G.2.2.1 50)]) hx hb hml hl.1 hts hown hK hSt hN hw (c_X9_handCost l G q1 hq1 x1 h18 v19 h20 ev) hq1 rfl cv_X4_84 (rm_ok hR (by decide)) rfl (Nat.le_of_ble_eq_true rfl) rfl rfl dX4_leadByTwo_73 (fun H locs hw => ?_)
                refine lv_aload_n (pc := 76) hx hb dX4_leadByTwo_76 rfl (lv_at hl 1 rfl) ?_
                refine lv_iload (pc := 77) hx hb dX4_leadByTwo_77 (lv_at hl 4 rfl) ?_
                obtain ⟨v21, h22, ev, hs⟩ := q_cal2 hs
                refine q_callV (pc := 79) (q := q1) (As := [.int x6]) (rest := [.int v19, .int (((iI 100) * x1) + x6), .int (iI 2), .ref (G.2.2.1 50)]) (rs := [.int v21, .int v19, .int (((iI 100) * x1) + x6), .int (iI 2), .ref (G.2.2.1 50)]) hx hb hml hl.1 hts hown hK hSt hN hw (c_X9_handCost l G q1 hq1 x6 h20 v21 h22 ev) hq1 rfl cv_X4_84 (rm_ok hR (by decide)) rfl (Nat.le_of_ble_eq_true rfl) rfl rfl dX4_leadByTwo_79 (fun H locs hw => ?_)
                refine lv_iadd (pc := 82) hx hb dX4_leadByTwo_82 ?_
                obtain ⟨h23, ev, hs⟩ := q_cal hs
                refine q_callV (pc := 83) (q := 50) (As := [.int (iI 2), .int (((iI 100) * x1) + x6), .int (v19 + v21)]) (rest := []) (rs := []) hx hb hml hl.1 hts hown hK hSt hN hw (c_X4_offer l G (iI 2) (((iI 100) * x1) + x6) (v19 + v21) h22 h23 ev) rfl rfl cv_X4_88 (rm_ok hR (by decide)) rfl (Nat.le_of_ble_eq_true rfl) rfl rfl dX4_leadByTwo_83 (fun H locs hw => ?_)
                exact hK15 _ hs _ _ hw _ (lv_sub hl [0, 1, 2, 3, 4] rfl)

set_option maxHeartbeats 4000000 in
theorem c_X4_lead (l : Launch) (G : GG) (q1 : Nat) (hq1 : LAY[q1]? = some (12, 0)) (a2 : Int32) (a3 : Int32) (h : Mem) (v : Int32) (h' : Mem) (hs : f_X4_lead h q1 a2 a3 = some (v, h')) : Sat l G yX4_lead cX4_lead 4 (some .boolean) 5 [.ref (G.2.2.1 50), .ref (G.2.2.1 q1), .int a2, .int a3] h (some (.int v)) h' := by
  refine Sat.mkZ (by decide) (Nat.le_of_ble_eq_true rfl) ?_
  intro p e R s m args below meth c Q F hret hw ls hl
  obtain ⟨hx, hb, hml, hown, hts, hK, hSt, hN, hR⟩ := F
  have hl : lv_has ls 4 [(0, .ref (G.2.2.1 50)), (1, .ref (G.2.2.1 q1)), (2, .int a2), (3, .int a3)] := hl
  unfold f_X4_lead at hs
  refine lv_aload_n (pc := 0) hx hb dX4_lead_0 rfl (lv_at hl 0 rfl) ?_
  refine lv_iload_n (pc := 1) hx hb dX4_lead_1 rfl (lv_at hl 2 rfl) ?_
  refine q_putI (pc := 2) (q := 50) hx hb hts hown hK hw rfl fp_X4_23 dX4_lead_2 hs (fun h1 H locs hw hs => ?_)
  refine lv_aload_n (pc := 5) hx hb dX4_lead_5 rfl (lv_at hl 0 rfl) ?_
  refine lv_iload_n (pc := 6) hx hb dX4_lead_6 rfl (lv_at hl 3 rfl) ?_
  refine q_putI (pc := 7) (q := 50) hx hb hts hown hK hw rfl fp_X4_27 dX4_lead_7 hs (fun h2 H locs hw hs => ?_)
  refine lv_aload_n (pc := 10) hx hb dX4_lead_10 rfl (lv_at hl 0 rfl) ?_
  refine lv_iconst (pc := 11) (v := (iI 0)) hx hb dX4_lead_11 rfl ?_
  refine q_putI (pc := 12) (q := 50) hx hb hts hown hK hw rfl fp_X4_30 dX4_lead_12 hs (fun h3 H locs hw hs => ?_)
  refine lv_aload_n (pc := 15) hx hb dX4_lead_15 rfl (lv_at hl 0 rfl) ?_
  refine lv_iconst (pc := 16) (v := (iI (-1))) hx hb dX4_lead_16 rfl ?_
  refine q_putI (pc := 17) (q := 50) hx hb hts hown hK hw rfl fp_X4_33 dX4_lead_17 hs (fun h4 H locs hw hs => ?_)
  refine lv_aload_n (pc := 20) hx hb dX4_lead_20 rfl (lv_at hl 0 rfl) ?_
  refine lv_iconst (pc := 21) (v := (iI 0)) hx hb dX4_lead_21 rfl ?_
  refine q_putI (pc := 22) (q := 50) hx hb hts hown hK hw rfl fp_X4_36 dX4_lead_22 hs (fun h5 H locs hw hs => ?_)
  refine lv_aload_n (pc := 25) hx hb dX4_lead_25 rfl (lv_at hl 0 rfl) ?_
  refine q_getR (pc := 26) (q := 50) (o := 1) hx hb hts hown hK hw rfl fg_X4_10 dX4_lead_26 ?_
  refine lv_aload_n (pc := 29) hx hb dX4_lead_29 rfl (lv_at hl 1 rfl) ?_
  refine q_getR (pc := 30) (q := q1) (o := 1) hx hb hts hown hK hw hq1 fg_X4_39 dX4_lead_30 ?_
  obtain ⟨h6, ev, hs⟩ := q_cal hs
  refine q_callV (pc := 33) (q := 51) (As := [.ref (G.2.2.1 (q1 + 1))]) (rest := []) (rs := []) hx hb hml hl.1 hts hown hK hSt hN hw (c_X3_copyFrom l G 51 rfl (q1 + 1) (wt_X9_hall _ hq1) h5 h6 ev) rfl rfl cv_X4_44 (rm_ok hR (by decide)) rfl (Nat.le_of_ble_eq_true rfl) rfl rfl dX4_lead_33 (fun H locs hw => ?_)
  refine lv_aload_n (pc := 36) hx hb dX4_lead_36 rfl (lv_at hl 0 rfl) ?_
  refine lv_aload_n (pc := 37) hx hb dX4_lead_37 rfl (lv_at hl 1 rfl) ?_
  refine q_getR (pc := 38) (q := q1) (o := 1) hx hb hts hown hK hw hq1 fg_X4_39 dX4_lead_38 ?_
  refine lv_iconst (pc := 41) (v := (iI 0)) hx hb dX4_lead_41 rfl ?_
  obtain ⟨v7, h8, ev, hs⟩ := q_cal2 hs
  refine q_callV (pc := 42) (q := 50) (As := [.ref (G.2.2.1 (q1 + 1)), .int (iI 0)]) (rest := []) (rs := [.int v7]) hx hb hml hl.1 hts hown hK hSt hN hw (c_X4_isLit l G (q1 + 1) (wt_X9_hall _ hq1) (iI 0) h6 v7 h8 ev) rfl rfl cv_X4_48 (rm_ok hR (by decide)) rfl (Nat.le_of_ble_eq_true rfl) rfl rfl dX4_lead_42 (fun H locs hw => ?_)
  refine q_join1 (P0 := fun (h9 : Mem) => ∀ (H : Heap) (locs : List Loc), IW G s h9 H locs → ∀ ls : Array Slot, lv_has ls 4 [] → W p l e R s m args below meth c H locs 0 0 Q (F0 m 64 ls [])) hs ?_ ?_
  · intro h9 hs H locs hw ls hl
    refine lv_iconst (pc := 64) (v := (iI 1)) hx hb dX4_lead_64 rfl ?_
    refine lv_goto (pc := 65) (tgt := 69) hx hb dX4_lead_65 (by decide) ?_
    exact q_zretW hret dX4_lead_69 hw hs
  · intro K10 hK10 hs
    refine lv_if_ne (pc := 45) (tgt := 64) hx hb dX4_lead_45 (by decide) (fun hc => ?_) (fun hc => ?_)
    · replace hs := q_t hc hs
      exact hK10 _ hs _ _ hw _ (lv_sub hl [] rfl)
    · replace hs := q_f (fun z => z hc) hs
      refine lv_aload_n (pc := 48) hx hb dX4_lead_48 rfl (lv_at hl 0 rfl) ?_
      refine lv_aload_n (pc := 49) hx hb dX4_lead_49 rfl (lv_at hl 1 rfl) ?_
      obtain ⟨v11, h12, ev, hs⟩ := q_cal2 hs
      refine q_callV (pc := 50) (q := 50) (As := [.ref (G.2.2.1 q1)]) (rest := []) (rs := [.int v11]) hx hb hml hl.1 hts hown hK hSt hN hw (c_X4_leadByOne l G q1 hq1 h8 v11 h12 ev) rfl rfl cv_X4_52 (rm_ok hR (by decide)) rfl (Nat.le_of_ble_eq_true rfl) rfl rfl dX4_lead_50 (fun H locs hw => ?_)
      refine lv_if_ne (pc := 53) (tgt := 64) hx hb dX4_lead_53 (by decide) (fun hc => ?_) (fun hc => ?_)
      · replace hs := q_t hc hs
        exact hK10 _ hs _ _ hw _ (lv_sub hl [] rfl)
      · replace hs := q_f (fun z => z hc) hs
        refine lv_aload_n (pc := 56) hx hb dX4_lead_56 rfl (lv_at hl 0 rfl) ?_
        refine lv_aload_n (pc := 57) hx hb dX4_lead_57 rfl (lv_at hl 1 rfl) ?_
        obtain ⟨v13, h14, ev, hs⟩ := q_cal2 hs
        refine q_callV (pc := 58) (q := 50) (As := [.ref (G.2.2.1 q1)]) (rest := []) (rs := [.int v13]) hx hb hml hl.1 hts hown hK hSt hN hw (c_X4_leadByTwo l G q1 hq1 h12 v13 h14 ev) rfl rfl cv_X4_56 (rm_ok hR (by decide)) rfl (Nat.le_of_ble_eq_true rfl) rfl rfl dX4_lead_58 (fun H locs hw => ?_)
        refine lv_if_eq (pc := 61) (tgt := 68) hx hb dX4_lead_61 (by decide) (fun hc => ?_) (fun hc => ?_)
        · replace hs := q_t hc hs
          refine lv_iconst (pc := 68) (v := (iI 0)) hx hb dX4_lead_68 rfl ?_
          exact q_zretW hret dX4_lead_69 hw hs
        · replace hs := q_f hc hs
          exact hK10 _ hs _ _ hw _ (lv_sub hl [] rfl)

