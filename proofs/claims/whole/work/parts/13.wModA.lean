set_option maxHeartbeats 4000000 in
theorem c_X11_in (l : Launch) (G : GG) (a0 : Int32) (a1 : Int32) (a2 : Int32) (h : Mem) (v : Int32)  (hs : f_X11_in h a0 a1 a2 = some v) : Sat l G yX11_in cX11_in 3 (some .boolean) 0 [.int a0, .int a1, .int a2] h (some (.int v)) h := by
  refine Sat.mkZ (by decide) (Nat.le_of_ble_eq_true rfl) ?_
  intro p e R s m args below meth c Q F hret hw ls hl
  obtain ⟨hx, hb, hml, hown, hts, hK, hSt, hN, hR⟩ := F
  have hl : lv_has ls 3 [(0, .int a0), (1, .int a1), (2, .int a2)] := hl
  unfold f_X11_in at hs
  refine lv_iload_n (pc := 0) hx hb dX11_in_0 rfl (lv_at hl 0 rfl) ?_
  refine lv_iload_n (pc := 1) hx hb dX11_in_1 rfl (lv_at hl 1 rfl) ?_
  refine q_join0 (P0 := ∀ (H : Heap) (locs : List Loc), IW G s h H locs → ∀ ls : Array Slot, lv_has ls 3 [] → W p l e R s m args below meth c H locs 0 0 Q (F0 m 14 ls [])) hs ?_ ?_
  · intro  hs H locs hw ls hl
    refine lv_iconst (pc := 14) (v := (iI 0)) hx hb dX11_in_14 rfl ?_
    exact q_zret hret dX11_in_15 hw hs
  · intro K1 hK1 hs
    refine lv_icmp_lt (pc := 2) (tgt := 14) hx hb dX11_in_2 (by decide) (fun hc => ?_) (fun hc => ?_)
    · replace hs := q_t hc hs
      exact hK1 hs _ _ hw _ (lv_sub hl [] rfl)
    · replace hs := q_f hc hs
      refine lv_iload_n (pc := 5) hx hb dX11_in_5 rfl (lv_at hl 0 rfl) ?_
      refine lv_iload_n (pc := 6) hx hb dX11_in_6 rfl (lv_at hl 2 rfl) ?_
      refine lv_icmp_gt (pc := 7) (tgt := 14) hx hb dX11_in_7 (by decide) (fun hc => ?_) (fun hc => ?_)
      · replace hs := q_t hc hs
        exact hK1 hs _ _ hw _ (lv_sub hl [] rfl)
      · replace hs := q_f hc hs
        refine lv_iconst (pc := 10) (v := (iI 1)) hx hb dX11_in_10 rfl ?_
        refine lv_goto (pc := 11) (tgt := 15) hx hb dX11_in_11 (by decide) ?_
        exact q_zret hret dX11_in_15 hw hs

set_option maxHeartbeats 4000000 in
theorem c_X11_errs (l : Launch) (G : GG) (a1 : Int32) (h : Mem) (v : Int32) (h' : Mem) (hs : f_X11_errs h a1 = some (v, h')) : Sat l G yX11_errs cX11_errs 2 (some .int) 0 [.ref (G.2.2.1 72), .int a1] h (some (.int v)) h' := by
  refine Sat.mkI (by decide) (Nat.le_of_ble_eq_true rfl) ?_
  intro p e R s m args below meth c Q F hret hw ls hl
  obtain ⟨hx, hb, hml, hown, hts, hK, hSt, hN, hR⟩ := F
  have hl : lv_has ls 2 [(0, .ref (G.2.2.1 72)), (1, .int a1)] := hl
  unfold f_X11_errs at hs
  refine lv_aload_n (pc := 0) hx hb dX11_errs_0 rfl (lv_at hl 0 rfl) ?_
  refine q_getR (pc := 1) (q := 72) (o := 5) hx hb hts hown hK hw rfl fg_X11_22 dX11_errs_1 ?_
  refine lv_ldc (pc := 4) (v := (iI (-1000000000))) hx hb hown (hts _ ki_X11_66) dX11_errs_4 ?_
  refine lv_iload_n (pc := 6) hx hb dX11_errs_6 rfl (lv_at hl 1 rfl) ?_
  refine lv_isub (pc := 7) hx hb dX11_errs_7 ?_
  refine lv_dup2_11 (pc := 8) hx hb dX11_errs_8 rfl rfl ?_
  refine q_ald (pc := 9) (q := 77) (n := 6) hx hb hK hw rfl dX11_errs_9 hs (fun v1 hs => ?_)
  refine lv_iconst (pc := 10) (v := (iI 1)) hx hb dX11_errs_10 rfl ?_
  refine lv_iadd (pc := 11) hx hb dX11_errs_11 ?_
  refine q_ast (pc := 12) (q := 77) (n := 6) hx hb hK hw rfl dX11_errs_12 hs (fun h2 H locs hw hs => ?_)
  refine lv_iload_n (pc := 13) hx hb dX11_errs_13 rfl (lv_at hl 1 rfl) ?_
  exact q_iretW hret dX11_errs_14 hw hs

set_option maxHeartbeats 4000000 in
theorem c_X11_held (l : Launch) (G : GG) (a0 : Int32) (a1 : Int32) (a2 : Int32) (h : Mem) (v : Int32)  (hs : f_X11_held h a0 a1 a2 = some v) : Sat l G yX11_held cX11_held 3 (some .int) 0 [.int a0, .int a1, .int a2] h (some (.int v)) h := by
  refine Sat.mkI (by decide) (Nat.le_of_ble_eq_true rfl) ?_
  intro p e R s m args below meth c Q F hret hw ls hl
  obtain ⟨hx, hb, hml, hown, hts, hK, hSt, hN, hR⟩ := F
  have hl : lv_has ls 3 [(0, .int a0), (1, .int a1), (2, .int a2)] := hl
  unfold f_X11_held at hs
  refine lv_iload_n (pc := 0) hx hb dX11_held_0 rfl (lv_at hl 0 rfl) ?_
  refine lv_iload_n (pc := 1) hx hb dX11_held_1 rfl (lv_at hl 1 rfl) ?_
  refine lv_icmp_ge (pc := 2) (tgt := 9) hx hb dX11_held_2 (by decide) (fun hc => ?_) (fun hc => ?_)
  · replace hs := q_t hc hs
    refine lv_iload_n (pc := 9) hx hb dX11_held_9 rfl (lv_at hl 0 rfl) ?_
    refine lv_iload_n (pc := 10) hx hb dX11_held_10 rfl (lv_at hl 2 rfl) ?_
    refine lv_icmp_le (pc := 11) (tgt := 18) hx hb dX11_held_11 (by decide) (fun hc => ?_) (fun hc => ?_)
    · replace hs := q_t hc hs
      refine lv_iload_n (pc := 18) hx hb dX11_held_18 rfl (lv_at hl 0 rfl) ?_
      exact q_iret hret dX11_held_19 hw hs
    · replace hs := q_f hc hs
      refine lv_iload_n (pc := 14) hx hb dX11_held_14 rfl (lv_at hl 2 rfl) ?_
      refine lv_goto (pc := 15) (tgt := 19) hx hb dX11_held_15 (by decide) ?_
      exact q_iret hret dX11_held_19 hw hs
  · replace hs := q_f hc hs
    refine lv_iload_n (pc := 5) hx hb dX11_held_5 rfl (lv_at hl 1 rfl) ?_
    refine lv_goto (pc := 6) (tgt := 19) hx hb dX11_held_6 (by decide) ?_
    exact q_iret hret dX11_held_19 hw hs

set_option maxHeartbeats 4000000 in
theorem c_X11_moveAll (l : Launch) (G : GG) (q1 n1 : Nat) (hq1 : LAY[q1]? = some (0, n1)) (q2 n2 : Nat) (hq2 : LAY[q2]? = some (0, n2)) (h : Mem) (h' : Mem) (hs : f_X11_moveAll h q1 n1 q2 n2 = some h') : Sat l G yX11_moveAll cX11_moveAll 4 none 0 [.ref (G.2.2.1 72), .ref (G.2.2.1 q1), .ref (G.2.2.1 q2)] h none h' := by
  refine Sat.mkV (by decide) (Nat.le_of_ble_eq_true rfl) ?_
  intro p e R s m args below meth c Q F hret hw ls hl
  obtain ⟨hx, hb, hml, hown, hts, hK, hSt, hN, hR⟩ := F
  have hl : lv_has ls 4 [(0, .ref (G.2.2.1 72)), (1, .ref (G.2.2.1 q1)), (2, .ref (G.2.2.1 q2))] := hl
  unfold f_X11_moveAll at hs
  refine lv_iconst (pc := 0) (v := (iI 0)) hx hb dX11_moveAll_0 rfl ?_
  refine lv_istore_n (pc := 1) (lv' := [(3, .int (iI 0)), (0, .ref (G.2.2.1 72)), (1, .ref (G.2.2.1 q1)), (2, .ref (G.2.2.1 q2))]) hx hb dX11_moveAll_1 rfl hl (by decide) rfl (fun ls hl => ?_)
  refine (q_lo2 (P0 := fun (x1 : Int32) (h2 : Mem) => ∀ (H : Heap) (locs : List Loc), IW G s h2 H locs → ∀ ls : Array Slot, lv_has ls 4 [(1, .ref (G.2.2.1 q1)), (2, .ref (G.2.2.1 q2)), (3, .int x1)] → W p l e R s m args below meth c H locs 0 0 Q (F0 m 2 ls [])) hs ?_) _ _ hw _ (lv_sub hl [2, 3, 0] rfl)
  intro K3 hK3 x1 h2 hs H locs hw ls hl
  unfold f_X11_moveAll_k3 at hs
  refine lv_iload_n (pc := 2) hx hb dX11_moveAll_2 rfl (lv_at hl 2 rfl) ?_
  refine lv_sipush (pc := 3) (v := (iI 305)) hx hb dX11_moveAll_3 (by decide) ?_
  refine lv_icmp_ge (pc := 6) (tgt := 21) hx hb dX11_moveAll_6 (by decide) (fun hc => ?_) (fun hc => ?_)
  · replace hs := q_t hc hs
    exact q_vret hret dX11_moveAll_21 hw hs
  · replace hs := q_f hc hs
    refine lv_aload_n (pc := 9) hx hb dX11_moveAll_9 rfl (lv_at hl 1 rfl) ?_
    refine lv_iload_n (pc := 10) hx hb dX11_moveAll_10 rfl (lv_at hl 2 rfl) ?_
    refine lv_aload_n (pc := 11) hx hb dX11_moveAll_11 rfl (lv_at hl 0 rfl) ?_
    refine lv_iload_n (pc := 12) hx hb dX11_moveAll_12 rfl (lv_at hl 2 rfl) ?_
    refine q_ald (pc := 13) (q := q1) (n := n1) hx hb hK hw hq1 dX11_moveAll_13 hs (fun v4 hs => ?_)
    refine q_ast (pc := 14) (q := q2) (n := n2) hx hb hK hw hq2 dX11_moveAll_14 hs (fun h5 H locs hw hs => ?_)
    obtain ⟨x6, ex6, hs⟩ := q_nm hs
    refine lv_iinc (pc := 15) (v := x6) (lv' := [(3, .int x6), (1, .ref (G.2.2.1 q1)), (2, .ref (G.2.2.1 q2))]) hx hb dX11_moveAll_15 hl (k := 2) rfl ex6 (by decide) rfl (fun ls hl => ?_)
    refine lv_goto (pc := 18) (tgt := 2) hx hb dX11_moveAll_18 (by decide) ?_
    exact hK3 _ _ hs _ _ hw _ (lv_sub hl [1, 2, 0] rfl)

set_option maxHeartbeats 4000000 in
theorem c_X11_many (l : Launch) (G : GG)  (h : Mem) (v : Int32)  (hs : f_X11_many h  = some v) : Sat l G yX11_many cX11_many 1 (some .int) 0 [.ref (G.2.2.1 72)] h (some (.int v)) h := by
  refine Sat.mkI (by decide) (Nat.le_of_ble_eq_true rfl) ?_
  intro p e R s m args below meth c Q F hret hw ls hl
  obtain ⟨hx, hb, hml, hown, hts, hK, hSt, hN, hR⟩ := F
  have hl : lv_has ls 1 [(0, .ref (G.2.2.1 72))] := hl
  unfold f_X11_many at hs
  refine lv_aload_n (pc := 0) hx hb dX11_many_0 rfl (lv_at hl 0 rfl) ?_
  refine q_getR (pc := 1) (q := 72) (o := 1) hx hb hts hown hK hw rfl fg_X11_7 dX11_many_1 ?_
  refine lv_iconst (pc := 4) (v := (iI 0)) hx hb dX11_many_4 rfl ?_
  refine q_ald (pc := 5) (q := 73) (n := 305) hx hb hK hw rfl dX11_many_5 hs (fun v1 hs => ?_)
  refine lv_aload_n (pc := 6) hx hb dX11_many_6 rfl (lv_at hl 0 rfl) ?_
  refine q_getR (pc := 7) (q := 72) (o := 1) hx hb hts hown hK hw rfl fg_X11_7 dX11_many_7 ?_
  refine lv_iconst (pc := 10) (v := (iI 1)) hx hb dX11_many_10 rfl ?_
  refine q_ald (pc := 11) (q := 73) (n := 305) hx hb hK hw rfl dX11_many_11 hs (fun v2 hs => ?_)
  refine lv_imul (pc := 12) hx hb dX11_many_12 ?_
  exact q_iret hret dX11_many_13 hw hs

set_option maxHeartbeats 4000000 in
theorem c_X11_windows (l : Launch) (G : GG)  (h : Mem) (v : Int32)  (hs : f_X11_windows h  = some v) : Sat l G yX11_windows cX11_windows 1 (some .int) 0 [.ref (G.2.2.1 72)] h (some (.int v)) h := by
  refine Sat.mkI (by decide) (Nat.le_of_ble_eq_true rfl) ?_
  intro p e R s m args below meth c Q F hret hw ls hl
  obtain ⟨hx, hb, hml, hown, hts, hK, hSt, hN, hR⟩ := F
  have hl : lv_has ls 1 [(0, .ref (G.2.2.1 72))] := hl
  unfold f_X11_windows at hs
  refine lv_iconst (pc := 0) (v := (iI 2)) hx hb dX11_windows_0 rfl ?_
  refine lv_aload_n (pc := 1) hx hb dX11_windows_1 rfl (lv_at hl 0 rfl) ?_
  refine q_getR (pc := 2) (q := 72) (o := 1) hx hb hts hown hK hw rfl fg_X11_7 dX11_windows_2 ?_
  refine lv_iconst (pc := 5) (v := (iI 0)) hx hb dX11_windows_5 rfl ?_
  refine q_ald (pc := 6) (q := 73) (n := 305) hx hb hK hw rfl dX11_windows_6 hs (fun v1 hs => ?_)
  refine lv_aload_n (pc := 7) hx hb dX11_windows_7 rfl (lv_at hl 0 rfl) ?_
  refine q_getR (pc := 8) (q := 72) (o := 1) hx hb hts hown hK hw rfl fg_X11_7 dX11_windows_8 ?_
  refine lv_iconst (pc := 11) (v := (iI 1)) hx hb dX11_windows_11 rfl ?_
  refine q_ald (pc := 12) (q := 73) (n := 305) hx hb hK hw rfl dX11_windows_12 hs (fun v2 hs => ?_)
  refine lv_iadd (pc := 13) hx hb dX11_windows_13 ?_
  refine lv_imul (pc := 14) hx hb dX11_windows_14 ?_
  exact q_iret hret dX11_windows_15 hw hs

set_option maxHeartbeats 4000000 in
theorem c_X11_isSquare (l : Launch) (G : GG) (a1 : Int32) (h : Mem) (v : Int32)  (hs : f_X11_isSquare h a1 = some v) : Sat l G yX11_isSquare cX11_isSquare 2 (some .boolean) 1 [.ref (G.2.2.1 72), .int a1] h (some (.int v)) h := by
  refine Sat.mkZ (by decide) (Nat.le_of_ble_eq_true rfl) ?_
  intro p e R s m args below meth c Q F hret hw ls hl
  obtain ⟨hx, hb, hml, hown, hts, hK, hSt, hN, hR⟩ := F
  have hl : lv_has ls 2 [(0, .ref (G.2.2.1 72)), (1, .int a1)] := hl
  unfold f_X11_isSquare at hs
  refine lv_iload_n (pc := 0) hx hb dX11_isSquare_0 rfl (lv_at hl 1 rfl) ?_
  refine lv_iconst (pc := 1) (v := (iI 0)) hx hb dX11_isSquare_1 rfl ?_
  refine lv_aload_n (pc := 2) hx hb dX11_isSquare_2 rfl (lv_at hl 0 rfl) ?_
  obtain ⟨v1, ev, hs⟩ := q_cal hs
  refine q_callV (pc := 3) (q := 72) (As := []) (rest := [.int (iI 0), .int a1]) (rs := [.int v1, .int (iI 0), .int a1]) hx hb hml hl.1 hts hown hK hSt hN hw (c_X11_many l G h v1 ev) rfl rfl cv_X11_67 (rm_ok hR (by decide)) rfl (Nat.le_of_ble_eq_true rfl) rfl rfl dX11_isSquare_3 (fun H locs hw => ?_)
  refine lv_iconst (pc := 6) (v := (iI 1)) hx hb dX11_isSquare_6 rfl ?_
  refine lv_isub (pc := 7) hx hb dX11_isSquare_7 ?_
  obtain ⟨v2, ev, hs⟩ := q_cal hs
  refine q_callS (pc := 8) (As := [.int a1, .int (iI 0), .int (v1 - (iI 1))]) (rest := []) (rs := [.int v2]) hx hb hml hl.1 hts hown hK hSt hN hw (c_X11_in l G a1 (iI 0) (v1 - (iI 1)) h v2 ev) cs_X11_71 (rm_ok hR (by decide)) rfl (Nat.le_of_ble_eq_true rfl) rfl rfl dX11_isSquare_8 (fun H locs hw => ?_)
  exact q_zret hret dX11_isSquare_11 hw hs

set_option maxHeartbeats 4000000 in
theorem c_X11_isWindow (l : Launch) (G : GG) (a1 : Int32) (h : Mem) (v : Int32)  (hs : f_X11_isWindow h a1 = some v) : Sat l G yX11_isWindow cX11_isWindow 2 (some .boolean) 1 [.ref (G.2.2.1 72), .int a1] h (some (.int v)) h := by
  refine Sat.mkZ (by decide) (Nat.le_of_ble_eq_true rfl) ?_
  intro p e R s m args below meth c Q F hret hw ls hl
  obtain ⟨hx, hb, hml, hown, hts, hK, hSt, hN, hR⟩ := F
  have hl : lv_has ls 2 [(0, .ref (G.2.2.1 72)), (1, .int a1)] := hl
  unfold f_X11_isWindow at hs
  refine lv_iload_n (pc := 0) hx hb dX11_isWindow_0 rfl (lv_at hl 1 rfl) ?_
  refine lv_iconst (pc := 1) (v := (iI 0)) hx hb dX11_isWindow_1 rfl ?_
  refine lv_aload_n (pc := 2) hx hb dX11_isWindow_2 rfl (lv_at hl 0 rfl) ?_
  obtain ⟨v1, ev, hs⟩ := q_cal hs
  refine q_callV (pc := 3) (q := 72) (As := []) (rest := [.int (iI 0), .int a1]) (rs := [.int v1, .int (iI 0), .int a1]) hx hb hml hl.1 hts hown hK hSt hN hw (c_X11_windows l G h v1 ev) rfl rfl cv_X11_75 (rm_ok hR (by decide)) rfl (Nat.le_of_ble_eq_true rfl) rfl rfl dX11_isWindow_3 (fun H locs hw => ?_)
  refine lv_iconst (pc := 6) (v := (iI 1)) hx hb dX11_isWindow_6 rfl ?_
  refine lv_isub (pc := 7) hx hb dX11_isWindow_7 ?_
  obtain ⟨v2, ev, hs⟩ := q_cal hs
  refine q_callS (pc := 8) (As := [.int a1, .int (iI 0), .int (v1 - (iI 1))]) (rest := []) (rs := [.int v2]) hx hb hml hl.1 hts hown hK hSt hN hw (c_X11_in l G a1 (iI 0) (v1 - (iI 1)) h v2 ev) cs_X11_71 (rm_ok hR (by decide)) rfl (Nat.le_of_ble_eq_true rfl) rfl rfl dX11_isWindow_8 (fun H locs hw => ?_)
  exact q_zret hret dX11_isWindow_11 hw hs

set_option maxHeartbeats 4000000 in
theorem c_X11_its (l : Launch) (G : GG) (a1 : Int32) (a2 : Int32) (h : Mem) (v : Int32)  (hs : f_X11_its h a1 a2 = some v) : Sat l G yX11_its cX11_its 3 (some .int) 0 [.ref (G.2.2.1 72), .int a1, .int a2] h (some (.int v)) h := by
  refine Sat.mkI (by decide) (Nat.le_of_ble_eq_true rfl) ?_
  intro p e R s m args below meth c Q F hret hw ls hl
  obtain ⟨hx, hb, hml, hown, hts, hK, hSt, hN, hR⟩ := F
  have hl : lv_has ls 3 [(0, .ref (G.2.2.1 72)), (1, .int a1), (2, .int a2)] := hl
  unfold f_X11_its at hs
  refine lv_aload_n (pc := 0) hx hb dX11_its_0 rfl (lv_at hl 0 rfl) ?_
  refine q_getR (pc := 1) (q := 72) (o := 1) hx hb hts hown hK hw rfl fg_X11_7 dX11_its_1 ?_
  refine lv_bipush (pc := 4) (v := (iI 10)) hx hb dX11_its_4 (by decide) ?_
  refine lv_iconst (pc := 6) (v := (iI 5)) hx hb dX11_its_6 rfl ?_
  refine lv_iload_n (pc := 7) hx hb dX11_its_7 rfl (lv_at hl 1 rfl) ?_
  refine lv_imul (pc := 8) hx hb dX11_its_8 ?_
  refine lv_iadd (pc := 9) hx hb dX11_its_9 ?_
  refine lv_iload_n (pc := 10) hx hb dX11_its_10 rfl (lv_at hl 2 rfl) ?_
  refine lv_iadd (pc := 11) hx hb dX11_its_11 ?_
  refine q_ald (pc := 12) (q := 73) (n := 305) hx hb hK hw rfl dX11_its_12 hs (fun v1 hs => ?_)
  exact q_iret hret dX11_its_13 hw hs

set_option maxHeartbeats 4000000 in
theorem c_X11_puts (l : Launch) (G : GG) (a1 : Int32) (a2 : Int32) (a3 : Int32) (h : Mem) (h' : Mem) (hs : f_X11_puts h a1 a2 a3 = some h') : Sat l G yX11_puts cX11_puts 4 none 0 [.ref (G.2.2.1 72), .int a1, .int a2, .int a3] h none h' := by
  refine Sat.mkV (by decide) (Nat.le_of_ble_eq_true rfl) ?_
  intro p e R s m args below meth c Q F hret hw ls hl
  obtain ⟨hx, hb, hml, hown, hts, hK, hSt, hN, hR⟩ := F
  have hl : lv_has ls 4 [(0, .ref (G.2.2.1 72)), (1, .int a1), (2, .int a2), (3, .int a3)] := hl
  unfold f_X11_puts at hs
  refine lv_aload_n (pc := 0) hx hb dX11_puts_0 rfl (lv_at hl 0 rfl) ?_
  refine q_getR (pc := 1) (q := 72) (o := 1) hx hb hts hown hK hw rfl fg_X11_7 dX11_puts_1 ?_
  refine lv_bipush (pc := 4) (v := (iI 10)) hx hb dX11_puts_4 (by decide) ?_
  refine lv_iconst (pc := 6) (v := (iI 5)) hx hb dX11_puts_6 rfl ?_
  refine lv_iload_n (pc := 7) hx hb dX11_puts_7 rfl (lv_at hl 1 rfl) ?_
  refine lv_imul (pc := 8) hx hb dX11_puts_8 ?_
  refine lv_iadd (pc := 9) hx hb dX11_puts_9 ?_
  refine lv_iload_n (pc := 10) hx hb dX11_puts_10 rfl (lv_at hl 2 rfl) ?_
  refine lv_iadd (pc := 11) hx hb dX11_puts_11 ?_
  refine lv_iload_n (pc := 12) hx hb dX11_puts_12 rfl (lv_at hl 3 rfl) ?_
  refine q_ast (pc := 13) (q := 73) (n := 305) hx hb hK hw rfl dX11_puts_13 hs (fun h1 H locs hw hs => ?_)
  exact q_vret hret dX11_puts_14 hw hs

set_option maxHeartbeats 4000000 in
theorem c_X11_hall (l : Launch) (G : GG) (a1 : Int32) (a2 : Int32) (h : Mem) (v : Int32) (h' : Mem) (hs : f_X11_hall h a1 a2 = some (v, h')) : Sat l G yX11_hall cX11_hall 4 (some .int) 1 [.ref (G.2.2.1 72), .int a1, .int a2] h (some (.int v)) h' := by
  refine Sat.mkI (by decide) (Nat.le_of_ble_eq_true rfl) ?_
  intro p e R s m args below meth c Q F hret hw ls hl
  obtain ⟨hx, hb, hml, hown, hts, hK, hSt, hN, hR⟩ := F
  have hl : lv_has ls 4 [(0, .ref (G.2.2.1 72)), (1, .int a1), (2, .int a2)] := hl
  unfold f_X11_hall at hs
  refine lv_iload_n (pc := 0) hx hb dX11_hall_0 rfl (lv_at hl 1 rfl) ?_
  refine lv_iconst (pc := 1) (v := (iI 1)) hx hb dX11_hall_1 rfl ?_
  refine lv_iconst (pc := 2) (v := (iI 5)) hx hb dX11_hall_2 rfl ?_
  obtain ⟨v1, ev, hs⟩ := q_cal hs
  refine q_callS (pc := 3) (As := [.int a1, .int (iI 1), .int (iI 5)]) (rest := []) (rs := [.int v1]) hx hb hml hl.1 hts hown hK hSt hN hw (c_X11_in l G a1 (iI 1) (iI 5) h v1 ev) cs_X11_71 (rm_ok hR (by decide)) rfl (Nat.le_of_ble_eq_true rfl) rfl rfl dX11_hall_3 (fun H locs hw => ?_)
  refine q_join0 (P0 := ∀ (H : Heap) (locs : List Loc), IW G s h H locs → ∀ ls : Array Slot, lv_has ls 4 [(0, .ref (G.2.2.1 72))] → W p l e R s m args below meth c H locs 0 0 Q (F0 m 18 ls [])) hs ?_ ?_
  · intro  hs H locs hw ls hl
    refine lv_aload_n (pc := 18) hx hb dX11_hall_18 rfl (lv_at hl 0 rfl) ?_
    refine lv_ldc (pc := 19) (v := (iI (-1000000001))) hx hb hown (hts _ ki_X11_78) dX11_hall_19 ?_
    obtain ⟨v3, h4, ev, hs⟩ := q_cal2 hs
    refine q_callV (pc := 21) (q := 72) (As := [.int (iI (-1000000001))]) (rest := []) (rs := [.int v3]) hx hb hml hl.1 hts hown hK hSt hN hw (c_X11_errs l G (iI (-1000000001)) h v3 h4 ev) rfl rfl cv_X11_79 (rm_ok hR (by decide)) rfl (Nat.le_of_ble_eq_true rfl) rfl rfl dX11_hall_21 (fun H locs hw => ?_)
    exact q_iretW hret dX11_hall_24 hw hs
  · intro K2 hK2 hs
    refine lv_if_eq (pc := 6) (tgt := 18) hx hb dX11_hall_6 (by decide) (fun hc => ?_) (fun hc => ?_)
    · replace hs := q_t hc hs
      exact hK2 hs _ _ hw _ (lv_sub hl [0] rfl)
    · replace hs := q_f hc hs
      refine lv_iload_n (pc := 9) hx hb dX11_hall_9 rfl (lv_at hl 2 rfl) ?_
      refine lv_iconst (pc := 10) (v := (iI 1)) hx hb dX11_hall_10 rfl ?_
      refine lv_iconst (pc := 11) (v := (iI 5)) hx hb dX11_hall_11 rfl ?_
      obtain ⟨v5, ev, hs⟩ := q_cal hs
      refine q_callS (pc := 12) (As := [.int a2, .int (iI 1), .int (iI 5)]) (rest := []) (rs := [.int v5]) hx hb hml hl.1 hts hown hK hSt hN hw (c_X11_in l G a2 (iI 1) (iI 5) h v5 ev) cs_X11_71 (rm_ok hR (by decide)) rfl (Nat.le_of_ble_eq_true rfl) rfl rfl dX11_hall_12 (fun H locs hw => ?_)
      refine lv_if_ne (pc := 15) (tgt := 25) hx hb dX11_hall_15 (by decide) (fun hc => ?_) (fun hc => ?_)
      · replace hs := q_t hc hs
        refine lv_aload_n (pc := 25) hx hb dX11_hall_25 rfl (lv_at hl 0 rfl) ?_
        refine q_getR (pc := 26) (q := 72) (o := 1) hx hb hts hown hK hw rfl fg_X11_7 dX11_hall_26 ?_
        refine lv_iconst (pc := 29) (v := (iI 0)) hx hb dX11_hall_29 rfl ?_
        refine lv_iload_n (pc := 30) hx hb dX11_hall_30 rfl (lv_at hl 1 rfl) ?_
        refine q_ast (pc := 31) (q := 73) (n := 305) hx hb hK hw rfl dX11_hall_31 hs (fun h6 H locs hw hs => ?_)
        refine lv_aload_n (pc := 32) hx hb dX11_hall_32 rfl (lv_at hl 0 rfl) ?_
        refine q_getR (pc := 33) (q := 72) (o := 1) hx hb hts hown hK hw rfl fg_X11_7 dX11_hall_33 ?_
        refine lv_iconst (pc := 36) (v := (iI 1)) hx hb dX11_hall_36 rfl ?_
        refine lv_iload_n (pc := 37) hx hb dX11_hall_37 rfl (lv_at hl 2 rfl) ?_
        refine q_ast (pc := 38) (q := 73) (n := 305) hx hb hK hw rfl dX11_hall_38 hs (fun h7 H locs hw hs => ?_)
        refine lv_bipush (pc := 39) (v := (iI 10)) hx hb dX11_hall_39 (by decide) ?_
        refine lv_istore_n (pc := 41) (lv' := [(3, .int (iI 10)), (0, .ref (G.2.2.1 72)), (1, .int a1), (2, .int a2)]) hx hb dX11_hall_41 rfl hl (by decide) rfl (fun ls hl => ?_)
        refine (q_lo2 (P0 := fun (x8 : Int32) (h9 : Mem) => ∀ (H : Heap) (locs : List Loc), IW G s h9 H locs → ∀ ls : Array Slot, lv_has ls 4 [(0, .ref (G.2.2.1 72)), (3, .int x8)] → W p l e R s m args below meth c H locs 0 0 Q (F0 m 42 ls [])) hs ?_) _ _ hw _ (lv_sub hl [1, 0] rfl)
        intro K10 hK10 x8 h9 hs H locs hw ls hl
        unfold f_X11_hall_k10 at hs
        refine lv_iload_n (pc := 42) hx hb dX11_hall_42 rfl (lv_at hl 1 rfl) ?_
        refine lv_sipush (pc := 43) (v := (iI 135)) hx hb dX11_hall_43 (by decide) ?_
        refine lv_icmp_ge (pc := 46) (tgt := 62) hx hb dX11_hall_46 (by decide) (fun hc => ?_) (fun hc => ?_)
        · replace hs := q_t hc hs
          refine lv_aload_n (pc := 62) hx hb dX11_hall_62 rfl (lv_at hl 0 rfl) ?_
          obtain ⟨v11, ev, hs⟩ := q_cal hs
          refine q_callV (pc := 63) (q := 72) (As := []) (rest := []) (rs := [.int v11]) hx hb hml hl.1 hts hown hK hSt hN hw (c_X11_windows l G h9 v11 ev) rfl rfl cv_X11_75 (rm_ok hR (by decide)) rfl (Nat.le_of_ble_eq_true rfl) rfl rfl dX11_hall_63 (fun H locs hw => ?_)
          exact q_iretW hret dX11_hall_66 hw hs
        · replace hs := q_f hc hs
          refine lv_aload_n (pc := 49) hx hb dX11_hall_49 rfl (lv_at hl 0 rfl) ?_
          refine q_getR (pc := 50) (q := 72) (o := 1) hx hb hts hown hK hw rfl fg_X11_7 dX11_hall_50 ?_
          refine lv_iload_n (pc := 53) hx hb dX11_hall_53 rfl (lv_at hl 1 rfl) ?_
          refine lv_iconst (pc := 54) (v := (iI 0)) hx hb dX11_hall_54 rfl ?_
          refine q_ast (pc := 55) (q := 73) (n := 305) hx hb hK hw rfl dX11_hall_55 hs (fun h12 H locs hw hs => ?_)
          obtain ⟨x13, ex13, hs⟩ := q_nm hs
          refine lv_iinc (pc := 56) (v := x13) (lv' := [(3, .int x13), (0, .ref (G.2.2.1 72))]) hx hb dX11_hall_56 hl (k := 1) rfl ex13 (by decide) rfl (fun ls hl => ?_)
          refine lv_goto (pc := 59) (tgt := 42) hx hb dX11_hall_59 (by decide) ?_
          exact hK10 _ _ hs _ _ hw _ (lv_sub hl [1, 0] rfl)
      · replace hs := q_f (fun z => z hc) hs
        exact hK2 hs _ _ hw _ (lv_sub hl [0] rfl)

set_option maxHeartbeats 4000000 in
theorem c_X11_square (l : Launch) (G : GG) (a1 : Int32) (a2 : Int32) (a3 : Int32) (h : Mem) (v : Int32) (h' : Mem) (hs : f_X11_square h a1 a2 a3 = some (v, h')) : Sat l G yX11_square cX11_square 5 (some .int) 2 [.ref (G.2.2.1 72), .int a1, .int a2, .int a3] h (some (.int v)) h' := by
  refine Sat.mkI (by decide) (Nat.le_of_ble_eq_true rfl) ?_
  intro p e R s m args below meth c Q F hret hw ls hl
  obtain ⟨hx, hb, hml, hown, hts, hK, hSt, hN, hR⟩ := F
  have hl : lv_has ls 5 [(0, .ref (G.2.2.1 72)), (1, .int a1), (2, .int a2), (3, .int a3)] := hl
  unfold f_X11_square at hs
  refine lv_aload_n (pc := 0) hx hb dX11_square_0 rfl (lv_at hl 0 rfl) ?_
  refine lv_iload_n (pc := 1) hx hb dX11_square_1 rfl (lv_at hl 1 rfl) ?_
  obtain ⟨v1, ev, hs⟩ := q_cal hs
  refine q_callV (pc := 2) (q := 72) (As := [.int a1]) (rest := []) (rs := [.int v1]) hx hb hml hl.1 hts hown hK hSt hN hw (c_X11_isSquare l G a1 h v1 ev) rfl rfl cv_X11_83 (rm_ok hR (by decide)) rfl (Nat.le_of_ble_eq_true rfl) rfl rfl dX11_square_2 (fun H locs hw => ?_)
  refine q_join0 (P0 := ∀ (H : Heap) (locs : List Loc), IW G s h H locs → ∀ ls : Array Slot, lv_has ls 5 [(0, .ref (G.2.2.1 72))] → W p l e R s m args below meth c H locs 0 0 Q (F0 m 27 ls [])) hs ?_ ?_
  · intro  hs H locs hw ls hl
    refine lv_aload_n (pc := 27) hx hb dX11_square_27 rfl (lv_at hl 0 rfl) ?_
    refine lv_ldc (pc := 28) (v := (iI (-1000000001))) hx hb hown (hts _ ki_X11_78) dX11_square_28 ?_
    obtain ⟨v3, h4, ev, hs⟩ := q_cal2 hs
    refine q_callV (pc := 30) (q := 72) (As := [.int (iI (-1000000001))]) (rest := []) (rs := [.int v3]) hx hb hml hl.1 hts hown hK hSt hN hw (c_X11_errs l G (iI (-1000000001)) h v3 h4 ev) rfl rfl cv_X11_79 (rm_ok hR (by decide)) rfl (Nat.le_of_ble_eq_true rfl) rfl rfl dX11_square_30 (fun H locs hw => ?_)
    exact q_iretW hret dX11_square_33 hw hs
  · intro K2 hK2 hs
    refine lv_if_eq (pc := 5) (tgt := 27) hx hb dX11_square_5 (by decide) (fun hc => ?_) (fun hc => ?_)
    · replace hs := q_t hc hs
      exact hK2 hs _ _ hw _ (lv_sub hl [0] rfl)
    · replace hs := q_f hc hs
      refine lv_iload_n (pc := 8) hx hb dX11_square_8 rfl (lv_at hl 2 rfl) ?_
      refine lv_iconst (pc := 9) (v := (iI 0)) hx hb dX11_square_9 rfl ?_
      refine lv_bipush (pc := 10) (v := (iI 69)) hx hb dX11_square_10 (by decide) ?_
      obtain ⟨v5, ev, hs⟩ := q_cal hs
      refine q_callS (pc := 12) (As := [.int a2, .int (iI 0), .int (iI 69)]) (rest := []) (rs := [.int v5]) hx hb hml hl.1 hts hown hK hSt hN hw (c_X11_in l G a2 (iI 0) (iI 69) h v5 ev) cs_X11_71 (rm_ok hR (by decide)) rfl (Nat.le_of_ble_eq_true rfl) rfl rfl dX11_square_12 (fun H locs hw => ?_)
      refine lv_if_eq (pc := 15) (tgt := 27) hx hb dX11_square_15 (by decide) (fun hc => ?_) (fun hc => ?_)
      · replace hs := q_t hc hs
        exact hK2 hs _ _ hw _ (lv_sub hl [0] rfl)
      · replace hs := q_f hc hs
        refine lv_iload_n (pc := 18) hx hb dX11_square_18 rfl (lv_at hl 3 rfl) ?_
        refine lv_iconst (pc := 19) (v := (iI 0)) hx hb dX11_square_19 rfl ?_
        refine lv_iconst (pc := 20) (v := (iI 1)) hx hb dX11_square_20 rfl ?_
        obtain ⟨v6, ev, hs⟩ := q_cal hs
        refine q_callS (pc := 21) (As := [.int a3, .int (iI 0), .int (iI 1)]) (rest := []) (rs := [.int v6]) hx hb hml hl.1 hts hown hK hSt hN hw (c_X11_in l G a3 (iI 0) (iI 1) h v6 ev) cs_X11_71 (rm_ok hR (by decide)) rfl (Nat.le_of_ble_eq_true rfl) rfl rfl dX11_square_21 (fun H locs hw => ?_)
        refine lv_if_ne (pc := 24) (tgt := 34) hx hb dX11_square_24 (by decide) (fun hc => ?_) (fun hc => ?_)
        · replace hs := q_t hc hs
          refine lv_aload_n (pc := 34) hx hb dX11_square_34 rfl (lv_at hl 0 rfl) ?_
          refine lv_iload_n (pc := 35) hx hb dX11_square_35 rfl (lv_at hl 1 rfl) ?_
          refine lv_iconst (pc := 36) (v := (iI 0)) hx hb dX11_square_36 rfl ?_
          obtain ⟨v7, ev, hs⟩ := q_cal hs
          refine q_callV (pc := 37) (q := 72) (As := [.int a1, .int (iI 0)]) (rest := []) (rs := [.int v7]) hx hb hml hl.1 hts hown hK hSt hN hw (c_X11_its l G a1 (iI 0) h v7 ev) rfl rfl cv_X11_87 (rm_ok hR (by decide)) rfl (Nat.le_of_ble_eq_true rfl) rfl rfl dX11_square_37 (fun H locs hw => ?_)
          refine lv_istore (pc := 40) (lv' := [(4, .int v7), (0, .ref (G.2.2.1 72)), (1, .int a1), (2, .int a2), (3, .int a3)]) hx hb dX11_square_40 hl (by decide) rfl (fun ls hl => ?_)
          refine lv_aload_n (pc := 42) hx hb dX11_square_42 rfl (lv_at hl 1 rfl) ?_
          refine lv_iload_n (pc := 43) hx hb dX11_square_43 rfl (lv_at hl 2 rfl) ?_
          refine lv_iconst (pc := 44) (v := (iI 0)) hx hb dX11_square_44 rfl ?_
          refine lv_iload_n (pc := 45) hx hb dX11_square_45 rfl (lv_at hl 3 rfl) ?_
          refine lv_bipush (pc := 46) (v := (iI 10)) hx hb dX11_square_46 (by decide) ?_
          obtain ⟨hne, hs⟩ := q_nz hs
          refine lv_idiv (pc := 48) hx hb dX11_square_48 hne ?_
          obtain ⟨h8, ev, hs⟩ := q_cal hs
          refine q_callV (pc := 49) (q := 72) (As := [.int a1, .int (iI 0), .int (a2 / (iI 10))]) (rest := []) (rs := []) hx hb hml hl.1 hts hown hK hSt hN hw (c_X11_puts l G a1 (iI 0) (a2 / (iI 10)) h h8 ev) rfl rfl cv_X11_91 (rm_ok hR (by decide)) rfl (Nat.le_of_ble_eq_true rfl) rfl rfl dX11_square_49 (fun H locs hw => ?_)
          refine lv_aload_n (pc := 52) hx hb dX11_square_52 rfl (lv_at hl 1 rfl) ?_
          refine lv_iload_n (pc := 53) hx hb dX11_square_53 rfl (lv_at hl 2 rfl) ?_
          refine lv_iconst (pc := 54) (v := (iI 1)) hx hb dX11_square_54 rfl ?_
          refine lv_iload_n (pc := 55) hx hb dX11_square_55 rfl (lv_at hl 3 rfl) ?_
          refine lv_bipush (pc := 56) (v := (iI 10)) hx hb dX11_square_56 (by decide) ?_
          obtain ⟨hne, hs⟩ := q_nz hs
          refine q_irem (pc := 58) hx hb dX11_square_58 hne ?_
          obtain ⟨h9, ev, hs⟩ := q_cal hs
          refine q_callV (pc := 59) (q := 72) (As := [.int a1, .int (iI 1), .int (rmI a2 (iI 10))]) (rest := []) (rs := []) hx hb hml hl.1 hts hown hK hSt hN hw (c_X11_puts l G a1 (iI 1) (rmI a2 (iI 10)) h8 h9 ev) rfl rfl cv_X11_91 (rm_ok hR (by decide)) rfl (Nat.le_of_ble_eq_true rfl) rfl rfl dX11_square_59 (fun H locs hw => ?_)
          refine lv_aload_n (pc := 62) hx hb dX11_square_62 rfl (lv_at hl 1 rfl) ?_
          refine lv_iload_n (pc := 63) hx hb dX11_square_63 rfl (lv_at hl 2 rfl) ?_
          refine lv_iconst (pc := 64) (v := (iI 2)) hx hb dX11_square_64 rfl ?_
          refine lv_iload_n (pc := 65) hx hb dX11_square_65 rfl (lv_at hl 4 rfl) ?_
          obtain ⟨h10, ev, hs⟩ := q_cal hs
          refine q_callV (pc := 66) (q := 72) (As := [.int a1, .int (iI 2), .int a3]) (rest := []) (rs := []) hx hb hml hl.1 hts hown hK hSt hN hw (c_X11_puts l G a1 (iI 2) a3 h9 h10 ev) rfl rfl cv_X11_91 (rm_ok hR (by decide)) rfl (Nat.le_of_ble_eq_true rfl) rfl rfl dX11_square_66 (fun H locs hw => ?_)
          refine lv_aload_n (pc := 69) hx hb dX11_square_69 rfl (lv_at hl 1 rfl) ?_
          refine lv_iload_n (pc := 70) hx hb dX11_square_70 rfl (lv_at hl 2 rfl) ?_
          refine lv_iconst (pc := 71) (v := (iI 3)) hx hb dX11_square_71 rfl ?_
          refine lv_iconst (pc := 72) (v := (iI 0)) hx hb dX11_square_72 rfl ?_
          obtain ⟨h11, ev, hs⟩ := q_cal hs
          refine q_callV (pc := 73) (q := 72) (As := [.int a1, .int (iI 3), .int (iI 0)]) (rest := []) (rs := []) hx hb hml hl.1 hts hown hK hSt hN hw (c_X11_puts l G a1 (iI 3) (iI 0) h10 h11 ev) rfl rfl cv_X11_91 (rm_ok hR (by decide)) rfl (Nat.le_of_ble_eq_true rfl) rfl rfl dX11_square_73 (fun H locs hw => ?_)
          refine lv_iload (pc := 76) hx hb dX11_square_76 (lv_at hl 0 rfl) ?_
          exact q_iretW hret dX11_square_78 hw hs
        · replace hs := q_f (fun z => z hc) hs
          exact hK2 hs _ _ hw _ (lv_sub hl [0] rfl)

set_option maxHeartbeats 4000000 in
theorem c_X11_doesThrow (l : Launch) (G : GG) (a1 : Int32) (h : Mem) (v : Int32)  (hs : f_X11_doesThrow h a1 = some v) : Sat l G yX11_doesThrow cX11_doesThrow 3 (some .boolean) 1 [.ref (G.2.2.1 72), .int a1] h (some (.int v)) h := by
  refine Sat.mkZ (by decide) (Nat.le_of_ble_eq_true rfl) ?_
  intro p e R s m args below meth c Q F hret hw ls hl
  obtain ⟨hx, hb, hml, hown, hts, hK, hSt, hN, hR⟩ := F
  have hl : lv_has ls 3 [(0, .ref (G.2.2.1 72)), (1, .int a1)] := hl
  unfold f_X11_doesThrow at hs
  refine lv_aload_n (pc := 0) hx hb dX11_doesThrow_0 rfl (lv_at hl 0 rfl) ?_
  refine lv_iload_n (pc := 1) hx hb dX11_doesThrow_1 rfl (lv_at hl 1 rfl) ?_
  refine lv_iconst (pc := 2) (v := (iI 0)) hx hb dX11_doesThrow_2 rfl ?_
  obtain ⟨v1, ev, hs⟩ := q_cal hs
  refine q_callV (pc := 3) (q := 72) (As := [.int a1, .int (iI 0)]) (rest := []) (rs := [.int v1]) hx hb hml hl.1 hts hown hK hSt hN hw (c_X11_its l G a1 (iI 0) h v1 ev) rfl rfl cv_X11_87 (rm_ok hR (by decide)) rfl (Nat.le_of_ble_eq_true rfl) rfl rfl dX11_doesThrow_3 (fun H locs hw => ?_)
  refine lv_istore_n (pc := 6) (lv' := [(2, .int v1), (0, .ref (G.2.2.1 72)), (1, .int a1)]) hx hb dX11_doesThrow_6 rfl hl (by decide) rfl (fun ls hl => ?_)
  refine lv_iload_n (pc := 7) hx hb dX11_doesThrow_7 rfl (lv_at hl 0 rfl) ?_
  refine lv_iconst (pc := 8) (v := (iI 1)) hx hb dX11_doesThrow_8 rfl ?_
  refine q_join0 (P0 := ∀ (H : Heap) (locs : List Loc), IW G s h H locs → ∀ ls : Array Slot, lv_has ls 3 [] → W p l e R s m args below meth c H locs 0 0 Q (F0 m 22 ls [])) hs ?_ ?_
  · intro  hs H locs hw ls hl
    refine lv_iconst (pc := 22) (v := (iI 1)) hx hb dX11_doesThrow_22 rfl ?_
    refine lv_goto (pc := 23) (tgt := 27) hx hb dX11_doesThrow_23 (by decide) ?_
    exact q_zret hret dX11_doesThrow_27 hw hs
  · intro K2 hK2 hs
    refine lv_icmp_eq (pc := 9) (tgt := 22) hx hb dX11_doesThrow_9 (by decide) (fun hc => ?_) (fun hc => ?_)
    · replace hs := q_t hc hs
      exact hK2 hs _ _ hw _ (lv_sub hl [] rfl)
    · replace hs := q_f hc hs
      refine lv_iload_n (pc := 12) hx hb dX11_doesThrow_12 rfl (lv_at hl 0 rfl) ?_
      refine lv_iconst (pc := 13) (v := (iI 4)) hx hb dX11_doesThrow_13 rfl ?_
      refine lv_icmp_eq (pc := 14) (tgt := 22) hx hb dX11_doesThrow_14 (by decide) (fun hc => ?_) (fun hc => ?_)
      · replace hs := q_t hc hs
        exact hK2 hs _ _ hw _ (lv_sub hl [] rfl)
      · replace hs := q_f hc hs
        refine lv_iload_n (pc := 17) hx hb dX11_doesThrow_17 rfl (lv_at hl 0 rfl) ?_
        refine lv_iconst (pc := 18) (v := (iI 5)) hx hb dX11_doesThrow_18 rfl ?_
        refine lv_icmp_ne (pc := 19) (tgt := 26) hx hb dX11_doesThrow_19 (by decide) (fun hc => ?_) (fun hc => ?_)
        · replace hs := q_t hc hs
          refine lv_iconst (pc := 26) (v := (iI 0)) hx hb dX11_doesThrow_26 rfl ?_
          exact q_zret hret dX11_doesThrow_27 hw hs
        · replace hs := q_f (fun z => z hc) hs
          exact hK2 hs _ _ hw _ (lv_sub hl [] rfl)

set_option maxHeartbeats 4000000 in
theorem c_X11_doesStop (l : Launch) (G : GG) (a1 : Int32) (h : Mem) (v : Int32)  (hs : f_X11_doesStop h a1 = some v) : Sat l G yX11_doesStop cX11_doesStop 3 (some .boolean) 1 [.ref (G.2.2.1 72), .int a1] h (some (.int v)) h := by
  refine Sat.mkZ (by decide) (Nat.le_of_ble_eq_true rfl) ?_
  intro p e R s m args below meth c Q F hret hw ls hl
  obtain ⟨hx, hb, hml, hown, hts, hK, hSt, hN, hR⟩ := F
  have hl : lv_has ls 3 [(0, .ref (G.2.2.1 72)), (1, .int a1)] := hl
  unfold f_X11_doesStop at hs
  refine lv_aload_n (pc := 0) hx hb dX11_doesStop_0 rfl (lv_at hl 0 rfl) ?_
  refine lv_iload_n (pc := 1) hx hb dX11_doesStop_1 rfl (lv_at hl 1 rfl) ?_
  refine lv_iconst (pc := 2) (v := (iI 0)) hx hb dX11_doesStop_2 rfl ?_
  obtain ⟨v1, ev, hs⟩ := q_cal hs
  refine q_callV (pc := 3) (q := 72) (As := [.int a1, .int (iI 0)]) (rest := []) (rs := [.int v1]) hx hb hml hl.1 hts hown hK hSt hN hw (c_X11_its l G a1 (iI 0) h v1 ev) rfl rfl cv_X11_87 (rm_ok hR (by decide)) rfl (Nat.le_of_ble_eq_true rfl) rfl rfl dX11_doesStop_3 (fun H locs hw => ?_)
  refine lv_istore_n (pc := 6) (lv' := [(2, .int v1), (0, .ref (G.2.2.1 72)), (1, .int a1)]) hx hb dX11_doesStop_6 rfl hl (by decide) rfl (fun ls hl => ?_)
  refine lv_iload_n (pc := 7) hx hb dX11_doesStop_7 rfl (lv_at hl 0 rfl) ?_
  refine lv_iconst (pc := 8) (v := (iI 3)) hx hb dX11_doesStop_8 rfl ?_
  refine q_join0 (P0 := ∀ (H : Heap) (locs : List Loc), IW G s h H locs → ∀ ls : Array Slot, lv_has ls 3 [] → W p l e R s m args below meth c H locs 0 0 Q (F0 m 18 ls [])) hs ?_ ?_
  · intro  hs H locs hw ls hl
    refine lv_iconst (pc := 18) (v := (iI 1)) hx hb dX11_doesStop_18 rfl ?_
    refine lv_goto (pc := 19) (tgt := 23) hx hb dX11_doesStop_19 (by decide) ?_
    exact q_zret hret dX11_doesStop_23 hw hs
  · intro K2 hK2 hs
    refine lv_icmp_eq (pc := 9) (tgt := 18) hx hb dX11_doesStop_9 (by decide) (fun hc => ?_) (fun hc => ?_)
    · replace hs := q_t hc hs
      exact hK2 hs _ _ hw _ (lv_sub hl [] rfl)
    · replace hs := q_f hc hs
      refine lv_iload_n (pc := 12) hx hb dX11_doesStop_12 rfl (lv_at hl 0 rfl) ?_
      refine lv_bipush (pc := 13) (v := (iI 6)) hx hb dX11_doesStop_13 (by decide) ?_
      refine lv_icmp_ne (pc := 15) (tgt := 22) hx hb dX11_doesStop_15 (by decide) (fun hc => ?_) (fun hc => ?_)
      · replace hs := q_t hc hs
        refine lv_iconst (pc := 22) (v := (iI 0)) hx hb dX11_doesStop_22 rfl ?_
        exact q_zret hret dX11_doesStop_23 hw hs
      · replace hs := q_f (fun z => z hc) hs
        exact hK2 hs _ _ hw _ (lv_sub hl [] rfl)

set_option maxHeartbeats 4000000 in
theorem c_X11_canTurn (l : Launch) (G : GG) (a1 : Int32) (h : Mem) (v : Int32)  (hs : f_X11_canTurn h a1 = some v) : Sat l G yX11_canTurn cX11_canTurn 3 (some .boolean) 1 [.ref (G.2.2.1 72), .int a1] h (some (.int v)) h := by
  refine Sat.mkZ (by decide) (Nat.le_of_ble_eq_true rfl) ?_
  intro p e R s m args below meth c Q F hret hw ls hl
  obtain ⟨hx, hb, hml, hown, hts, hK, hSt, hN, hR⟩ := F
  have hl : lv_has ls 3 [(0, .ref (G.2.2.1 72)), (1, .int a1)] := hl
  unfold f_X11_canTurn at hs
  refine lv_aload_n (pc := 0) hx hb dX11_canTurn_0 rfl (lv_at hl 0 rfl) ?_
  refine lv_iload_n (pc := 1) hx hb dX11_canTurn_1 rfl (lv_at hl 1 rfl) ?_
  refine lv_iconst (pc := 2) (v := (iI 0)) hx hb dX11_canTurn_2 rfl ?_
  obtain ⟨v1, ev, hs⟩ := q_cal hs
  refine q_callV (pc := 3) (q := 72) (As := [.int a1, .int (iI 0)]) (rest := []) (rs := [.int v1]) hx hb hml hl.1 hts hown hK hSt hN hw (c_X11_its l G a1 (iI 0) h v1 ev) rfl rfl cv_X11_87 (rm_ok hR (by decide)) rfl (Nat.le_of_ble_eq_true rfl) rfl rfl dX11_canTurn_3 (fun H locs hw => ?_)
  refine lv_istore_n (pc := 6) (lv' := [(2, .int v1), (0, .ref (G.2.2.1 72)), (1, .int a1)]) hx hb dX11_canTurn_6 rfl hl (by decide) rfl (fun ls hl => ?_)
  refine lv_iload_n (pc := 7) hx hb dX11_canTurn_7 rfl (lv_at hl 0 rfl) ?_
  refine lv_iconst (pc := 8) (v := (iI 1)) hx hb dX11_canTurn_8 rfl ?_
  refine q_join0 (P0 := ∀ (H : Heap) (locs : List Loc), IW G s h H locs → ∀ ls : Array Slot, lv_has ls 3 [] → W p l e R s m args below meth c H locs 0 0 Q (F0 m 17 ls [])) hs ?_ ?_
  · intro  hs H locs hw ls hl
    refine lv_iconst (pc := 17) (v := (iI 1)) hx hb dX11_canTurn_17 rfl ?_
    refine lv_goto (pc := 18) (tgt := 22) hx hb dX11_canTurn_18 (by decide) ?_
    exact q_zret hret dX11_canTurn_22 hw hs
  · intro K2 hK2 hs
    refine lv_icmp_eq (pc := 9) (tgt := 17) hx hb dX11_canTurn_9 (by decide) (fun hc => ?_) (fun hc => ?_)
    · replace hs := q_t hc hs
      exact hK2 hs _ _ hw _ (lv_sub hl [] rfl)
    · replace hs := q_f hc hs
      refine lv_iload_n (pc := 12) hx hb dX11_canTurn_12 rfl (lv_at hl 0 rfl) ?_
      refine lv_iconst (pc := 13) (v := (iI 5)) hx hb dX11_canTurn_13 rfl ?_
      refine lv_icmp_ne (pc := 14) (tgt := 21) hx hb dX11_canTurn_14 (by decide) (fun hc => ?_) (fun hc => ?_)
      · replace hs := q_t hc hs
        refine lv_iconst (pc := 21) (v := (iI 0)) hx hb dX11_canTurn_21 rfl ?_
        exact q_zret hret dX11_canTurn_22 hw hs
      · replace hs := q_f (fun z => z hc) hs
        exact hK2 hs _ _ hw _ (lv_sub hl [] rfl)

set_option maxHeartbeats 4000000 in
theorem c_X11_above (l : Launch) (G : GG) (a0 : Int32) (h : Mem) (v : Int32)  (hs : f_X11_above h a0 = some v) : Sat l G yX11_above cX11_above 1 (some .int) 0 [.int a0] h (some (.int v)) h := by
  refine Sat.mkI (by decide) (Nat.le_of_ble_eq_true rfl) ?_
  intro p e R s m args below meth c Q F hret hw ls hl
  obtain ⟨hx, hb, hml, hown, hts, hK, hSt, hN, hR⟩ := F
  have hl : lv_has ls 1 [(0, .int a0)] := hl
  unfold f_X11_above at hs
  refine lv_iload_n (pc := 0) hx hb dX11_above_0 rfl (lv_at hl 0 rfl) ?_
  refine lv_if_ne (pc := 1) (tgt := 8) hx hb dX11_above_1 (by decide) (fun hc => ?_) (fun hc => ?_)
  · replace hs := q_t hc hs
    refine lv_iload_n (pc := 8) hx hb dX11_above_8 rfl (lv_at hl 0 rfl) ?_
    refine lv_iconst (pc := 9) (v := (iI 4)) hx hb dX11_above_9 rfl ?_
    refine q_join0 (P0 := ∀ (H : Heap) (locs : List Loc), IW G s h H locs → ∀ ls : Array Slot, lv_has ls 1 [] → W p l e R s m args below meth c H locs 0 0 Q (F0 m 18 ls [])) hs ?_ ?_
    · intro  hs H locs hw ls hl
      refine lv_iconst (pc := 18) (v := (iI 1)) hx hb dX11_above_18 rfl ?_
      refine lv_goto (pc := 19) (tgt := 33) hx hb dX11_above_19 (by decide) ?_
      exact q_iret hret dX11_above_33 hw hs
    · intro K1 hK1 hs
      refine lv_icmp_eq (pc := 10) (tgt := 18) hx hb dX11_above_10 (by decide) (fun hc => ?_) (fun hc => ?_)
      · replace hs := q_t hc hs
        exact hK1 hs _ _ hw _ (lv_sub hl [] rfl)
      · replace hs := q_f hc hs
        refine lv_iload_n (pc := 13) hx hb dX11_above_13 rfl (lv_at hl 0 rfl) ?_
        refine lv_iconst (pc := 14) (v := (iI 5)) hx hb dX11_above_14 rfl ?_
        refine lv_icmp_ne (pc := 15) (tgt := 22) hx hb dX11_above_15 (by decide) (fun hc => ?_) (fun hc => ?_)
        · replace hs := q_t hc hs
          refine lv_iload_n (pc := 22) hx hb dX11_above_22 rfl (lv_at hl 0 rfl) ?_
          refine lv_bipush (pc := 23) (v := (iI 6)) hx hb dX11_above_23 (by decide) ?_
          refine lv_icmp_ne (pc := 25) (tgt := 32) hx hb dX11_above_25 (by decide) (fun hc => ?_) (fun hc => ?_)
          · replace hs := q_t hc hs
            refine lv_iconst (pc := 32) (v := (iI 0)) hx hb dX11_above_32 rfl ?_
            exact q_iret hret dX11_above_33 hw hs
          · replace hs := q_f (fun z => z hc) hs
            refine lv_iconst (pc := 28) (v := (iI 2)) hx hb dX11_above_28 rfl ?_
            refine lv_goto (pc := 29) (tgt := 33) hx hb dX11_above_29 (by decide) ?_
            exact q_iret hret dX11_above_33 hw hs
        · replace hs := q_f (fun z => z hc) hs
          exact hK1 hs _ _ hw _ (lv_sub hl [] rfl)
  · replace hs := q_f (fun z => z hc) hs
    refine lv_iconst (pc := 4) (v := (iI (-1))) hx hb dX11_above_4 rfl ?_
    refine lv_goto (pc := 5) (tgt := 33) hx hb dX11_above_5 (by decide) ?_
    exact q_iret hret dX11_above_33 hw hs

set_option maxHeartbeats 4000000 in
theorem c_X11_as (l : Launch) (G : GG) (a1 : Int32) (a2 : Int32) (h : Mem) (v : Int32) (h' : Mem) (hs : f_X11_as h a1 a2 = some (v, h')) : Sat l G yX11_as cX11_as 4 (some .int) 2 [.ref (G.2.2.1 72), .int a1, .int a2] h (some (.int v)) h' := by
  refine Sat.mkI (by decide) (Nat.le_of_ble_eq_true rfl) ?_
  intro p e R s m args below meth c Q F hret hw ls hl
  obtain ⟨hx, hb, hml, hown, hts, hK, hSt, hN, hR⟩ := F
  have hl : lv_has ls 4 [(0, .ref (G.2.2.1 72)), (1, .int a1), (2, .int a2)] := hl
  unfold f_X11_as at hs
  refine lv_aload_n (pc := 0) hx hb dX11_as_0 rfl (lv_at hl 0 rfl) ?_
  refine lv_iload_n (pc := 1) hx hb dX11_as_1 rfl (lv_at hl 1 rfl) ?_
  obtain ⟨v1, ev, hs⟩ := q_cal hs
  refine q_callV (pc := 2) (q := 72) (As := [.int a1]) (rest := []) (rs := [.int v1]) hx hb hml hl.1 hts hown hK hSt hN hw (c_X11_isSquare l G a1 h v1 ev) rfl rfl cv_X11_83 (rm_ok hR (by decide)) rfl (Nat.le_of_ble_eq_true rfl) rfl rfl dX11_as_2 (fun H locs hw => ?_)
  refine q_join0 (P0 := ∀ (H : Heap) (locs : List Loc), IW G s h H locs → ∀ ls : Array Slot, lv_has ls 4 [(0, .ref (G.2.2.1 72))] → W p l e R s m args below meth c H locs 0 0 Q (F0 m 18 ls [])) hs ?_ ?_
  · intro  hs H locs hw ls hl
    refine lv_aload_n (pc := 18) hx hb dX11_as_18 rfl (lv_at hl 0 rfl) ?_
    refine lv_ldc (pc := 19) (v := (iI (-1000000001))) hx hb hown (hts _ ki_X11_78) dX11_as_19 ?_
    obtain ⟨v3, h4, ev, hs⟩ := q_cal2 hs
    refine q_callV (pc := 21) (q := 72) (As := [.int (iI (-1000000001))]) (rest := []) (rs := [.int v3]) hx hb hml hl.1 hts hown hK hSt hN hw (c_X11_errs l G (iI (-1000000001)) h v3 h4 ev) rfl rfl cv_X11_79 (rm_ok hR (by decide)) rfl (Nat.le_of_ble_eq_true rfl) rfl rfl dX11_as_21 (fun H locs hw => ?_)
    exact q_iretW hret dX11_as_24 hw hs
  · intro K2 hK2 hs
    refine lv_if_eq (pc := 5) (tgt := 18) hx hb dX11_as_5 (by decide) (fun hc => ?_) (fun hc => ?_)
    · replace hs := q_t hc hs
      exact hK2 hs _ _ hw _ (lv_sub hl [0] rfl)
    · replace hs := q_f hc hs
      refine lv_iload_n (pc := 8) hx hb dX11_as_8 rfl (lv_at hl 2 rfl) ?_
      refine lv_iconst (pc := 9) (v := (iI 0)) hx hb dX11_as_9 rfl ?_
      refine lv_bipush (pc := 10) (v := (iI 6)) hx hb dX11_as_10 (by decide) ?_
      obtain ⟨v5, ev, hs⟩ := q_cal hs
      refine q_callS (pc := 12) (As := [.int a2, .int (iI 0), .int (iI 6)]) (rest := []) (rs := [.int v5]) hx hb hml hl.1 hts hown hK hSt hN hw (c_X11_in l G a2 (iI 0) (iI 6) h v5 ev) cs_X11_71 (rm_ok hR (by decide)) rfl (Nat.le_of_ble_eq_true rfl) rfl rfl dX11_as_12 (fun H locs hw => ?_)
      refine lv_if_ne (pc := 15) (tgt := 25) hx hb dX11_as_15 (by decide) (fun hc => ?_) (fun hc => ?_)
      · replace hs := q_t hc hs
        refine lv_aload_n (pc := 25) hx hb dX11_as_25 rfl (lv_at hl 0 rfl) ?_
        refine lv_iload_n (pc := 26) hx hb dX11_as_26 rfl (lv_at hl 1 rfl) ?_
        refine lv_iconst (pc := 27) (v := (iI 0)) hx hb dX11_as_27 rfl ?_
        obtain ⟨v6, ev, hs⟩ := q_cal hs
        refine q_callV (pc := 28) (q := 72) (As := [.int a1, .int (iI 0)]) (rest := []) (rs := [.int v6]) hx hb hml hl.1 hts hown hK hSt hN hw (c_X11_its l G a1 (iI 0) h v6 ev) rfl rfl cv_X11_87 (rm_ok hR (by decide)) rfl (Nat.le_of_ble_eq_true rfl) rfl rfl dX11_as_28 (fun H locs hw => ?_)
        refine lv_istore_n (pc := 31) (lv' := [(3, .int v6), (0, .ref (G.2.2.1 72)), (1, .int a1), (2, .int a2)]) hx hb dX11_as_31 rfl hl (by decide) rfl (fun ls hl => ?_)
        refine (q_lo1 (P0 := fun (x7 : Int32) => ∀ (H : Heap) (locs : List Loc), IW G s h H locs → ∀ ls : Array Slot, lv_has ls 4 [(0, .ref (G.2.2.1 72)), (1, .int a1), (2, .int a2), (3, .int x7)] → W p l e R s m args below meth c H locs 0 0 Q (F0 m 32 ls [])) hs ?_) _ _ hw _ (lv_sub hl [1, 2, 3, 0] rfl)
        intro K8 hK8 x7 hs H locs hw ls hl
        unfold f_X11_as_k8 at hs
        refine lv_iload_n (pc := 32) hx hb dX11_as_32 rfl (lv_at hl 3 rfl) ?_
        refine q_join0 (P0 := ∀ (H : Heap) (locs : List Loc), IW G s h H locs → ∀ ls : Array Slot, lv_has ls 4 [(0, .ref (G.2.2.1 72)), (1, .int a1), (3, .int x7)] → W p l e R s m args below meth c H locs 0 0 Q (F0 m 49 ls [])) hs ?_ ?_
        · intro  hs H locs hw ls hl
          refine lv_iload_n (pc := 49) hx hb dX11_as_49 rfl (lv_at hl 2 rfl) ?_
          refine lv_if_ge (pc := 50) (tgt := 62) hx hb dX11_as_50 (by decide) (fun hc => ?_) (fun hc => ?_)
          · replace hs := q_t hc hs
            refine lv_aload_n (pc := 62) hx hb dX11_as_62 rfl (lv_at hl 0 rfl) ?_
            refine lv_iload_n (pc := 63) hx hb dX11_as_63 rfl (lv_at hl 1 rfl) ?_
            refine lv_iconst (pc := 64) (v := (iI 1)) hx hb dX11_as_64 rfl ?_
            obtain ⟨v10, ev, hs⟩ := q_cal hs
            refine q_callV (pc := 65) (q := 72) (As := [.int a1, .int (iI 1)]) (rest := []) (rs := [.int v10]) hx hb hml hl.1 hts hown hK hSt hN hw (c_X11_its l G a1 (iI 1) h v10 ev) rfl rfl cv_X11_87 (rm_ok hR (by decide)) rfl (Nat.le_of_ble_eq_true rfl) rfl rfl dX11_as_65 (fun H locs hw => ?_)
            exact q_iretW hret dX11_as_68 hw hs
          · replace hs := q_f hc hs
            refine lv_aload_n (pc := 53) hx hb dX11_as_53 rfl (lv_at hl 0 rfl) ?_
            refine lv_ldc (pc := 54) (v := (iI (-1000000005))) hx hb hown (hts _ ki_X11_114) dX11_as_54 ?_
            obtain ⟨v11, h12, ev, hs⟩ := q_cal2 hs
            refine q_callV (pc := 56) (q := 72) (As := [.int (iI (-1000000005))]) (rest := []) (rs := [.int v11]) hx hb hml hl.1 hts hown hK hSt hN hw (c_X11_errs l G (iI (-1000000005)) h v11 h12 ev) rfl rfl cv_X11_79 (rm_ok hR (by decide)) rfl (Nat.le_of_ble_eq_true rfl) rfl rfl dX11_as_56 (fun H locs hw => ?_)
            refine lv_goto (pc := 59) (tgt := 68) hx hb dX11_as_59 (by decide) ?_
            exact q_iretW hret dX11_as_68 hw hs
        · intro K9 hK9 hs
          refine lv_if_lt (pc := 33) (tgt := 49) hx hb dX11_as_33 (by decide) (fun hc => ?_) (fun hc => ?_)
          · replace hs := q_t hc hs
            exact hK9 hs _ _ hw _ (lv_sub hl [0, 1, 3] rfl)
          · replace hs := q_f hc hs
            refine lv_iload_n (pc := 36) hx hb dX11_as_36 rfl (lv_at hl 3 rfl) ?_
            refine lv_iload_n (pc := 37) hx hb dX11_as_37 rfl (lv_at hl 2 rfl) ?_
            refine lv_icmp_eq (pc := 38) (tgt := 49) hx hb dX11_as_38 (by decide) (fun hc => ?_) (fun hc => ?_)
            · replace hs := q_t hc hs
              exact hK9 hs _ _ hw _ (lv_sub hl [0, 1, 3] rfl)
            · replace hs := q_f hc hs
              refine lv_iload_n (pc := 41) hx hb dX11_as_41 rfl (lv_at hl 3 rfl) ?_
              obtain ⟨v13, ev, hs⟩ := q_cal hs
              refine q_callS (pc := 42) (As := [.int x7]) (rest := []) (rs := [.int v13]) hx hb hml hl.1 hts hown hK hSt hN hw (c_X11_above l G x7 h v13 ev) cs_X11_111 (rm_ok hR (by decide)) rfl (Nat.le_of_ble_eq_true rfl) rfl rfl dX11_as_42 (fun H locs hw => ?_)
              refine lv_istore_n (pc := 45) (lv' := [(3, .int v13), (0, .ref (G.2.2.1 72)), (1, .int a1), (2, .int a2)]) hx hb dX11_as_45 rfl hl (by decide) rfl (fun ls hl => ?_)
              refine lv_goto (pc := 46) (tgt := 32) hx hb dX11_as_46 (by decide) ?_
              exact hK8 _ hs _ _ hw _ (lv_sub hl [1, 2, 3, 0] rfl)
      · replace hs := q_f (fun z => z hc) hs
        exact hK2 hs _ _ hw _ (lv_sub hl [0] rfl)

set_option maxHeartbeats 4000000 in
theorem c_X11_takes (l : Launch) (G : GG) (a1 : Int32) (h : Mem) (h' : Mem) (hs : f_X11_takes h a1 = some h') : Sat l G yX11_takes cX11_takes 2 none 1 [.ref (G.2.2.1 72), .int a1] h none h' := by
  refine Sat.mkV (by decide) (Nat.le_of_ble_eq_true rfl) ?_
  intro p e R s m args below meth c Q F hret hw ls hl
  obtain ⟨hx, hb, hml, hown, hts, hK, hSt, hN, hR⟩ := F
  have hl : lv_has ls 2 [(0, .ref (G.2.2.1 72)), (1, .int a1)] := hl
  unfold f_X11_takes at hs
  refine lv_aload_n (pc := 0) hx hb dX11_takes_0 rfl (lv_at hl 0 rfl) ?_
  refine q_getR (pc := 1) (q := 72) (o := 1) hx hb hts hown hK hw rfl fg_X11_7 dX11_takes_1 ?_
  refine lv_iconst (pc := 4) (v := (iI 2)) hx hb dX11_takes_4 rfl ?_
  refine lv_aload_n (pc := 5) hx hb dX11_takes_5 rfl (lv_at hl 0 rfl) ?_
  refine q_getR (pc := 6) (q := 72) (o := 1) hx hb hts hown hK hw rfl fg_X11_7 dX11_takes_6 ?_
  refine lv_iconst (pc := 9) (v := (iI 2)) hx hb dX11_takes_9 rfl ?_
  refine q_ald (pc := 10) (q := 73) (n := 305) hx hb hK hw rfl dX11_takes_10 hs (fun v1 hs => ?_)
  refine lv_iload_n (pc := 11) hx hb dX11_takes_11 rfl (lv_at hl 1 rfl) ?_
  refine lv_iadd (pc := 12) hx hb dX11_takes_12 ?_
  refine lv_ldc (pc := 13) (v := (iI (-99999))) hx hb hown (hts _ ki_X11_115) dX11_takes_13 ?_
  refine lv_ldc (pc := 15) (v := (iI 99999)) hx hb hown (hts _ ki_X11_116) dX11_takes_15 ?_
  obtain ⟨v2, ev, hs⟩ := q_cal hs
  refine q_callS (pc := 17) (As := [.int (v1 + a1), .int (iI (-99999)), .int (iI 99999)]) (rest := [.int (iI 2), .ref (G.2.2.1 73)]) (rs := [.int v2, .int (iI 2), .ref (G.2.2.1 73)]) hx hb hml hl.1 hts hown hK hSt hN hw (c_X11_held l G (v1 + a1) (iI (-99999)) (iI 99999) h v2 ev) cs_X11_117 (rm_ok hR (by decide)) rfl (Nat.le_of_ble_eq_true rfl) rfl rfl dX11_takes_17 (fun H locs hw => ?_)
  refine q_ast (pc := 20) (q := 73) (n := 305) hx hb hK hw rfl dX11_takes_20 hs (fun h3 H locs hw hs => ?_)
  exact q_vret hret dX11_takes_21 hw hs

set_option maxHeartbeats 4000000 in
theorem c_X11_flips (l : Launch) (G : GG) (a1 : Int32) (h : Mem) (h' : Mem) (hs : f_X11_flips h a1 = some h') : Sat l G yX11_flips cX11_flips 2 none 1 [.ref (G.2.2.1 72), .int a1] h none h' := by
  refine Sat.mkV (by decide) (Nat.le_of_ble_eq_true rfl) ?_
  intro p e R s m args below meth c Q F hret hw ls hl
  obtain ⟨hx, hb, hml, hown, hts, hK, hSt, hN, hR⟩ := F
  have hl : lv_has ls 2 [(0, .ref (G.2.2.1 72)), (1, .int a1)] := hl
  unfold f_X11_flips at hs
  refine lv_aload_n (pc := 0) hx hb dX11_flips_0 rfl (lv_at hl 0 rfl) ?_
  refine lv_iload_n (pc := 1) hx hb dX11_flips_1 rfl (lv_at hl 1 rfl) ?_
  refine lv_iconst (pc := 2) (v := (iI 2)) hx hb dX11_flips_2 rfl ?_
  refine lv_iconst (pc := 3) (v := (iI 1)) hx hb dX11_flips_3 rfl ?_
  refine lv_aload_n (pc := 4) hx hb dX11_flips_4 rfl (lv_at hl 0 rfl) ?_
  refine lv_iload_n (pc := 5) hx hb dX11_flips_5 rfl (lv_at hl 1 rfl) ?_
  refine lv_iconst (pc := 6) (v := (iI 2)) hx hb dX11_flips_6 rfl ?_
  obtain ⟨v1, ev, hs⟩ := q_cal hs
  refine q_callV (pc := 7) (q := 72) (As := [.int a1, .int (iI 2)]) (rest := [.int (iI 1), .int (iI 2), .int a1, .ref (G.2.2.1 72)]) (rs := [.int v1, .int (iI 1), .int (iI 2), .int a1, .ref (G.2.2.1 72)]) hx hb hml hl.1 hts hown hK hSt hN hw (c_X11_its l G a1 (iI 2) h v1 ev) rfl rfl cv_X11_87 (rm_ok hR (by decide)) rfl (Nat.le_of_ble_eq_true rfl) rfl rfl dX11_flips_7 (fun H locs hw => ?_)
  refine lv_isub (pc := 10) hx hb dX11_flips_10 ?_
  obtain ⟨h2, ev, hs⟩ := q_cal hs
  refine q_callV (pc := 11) (q := 72) (As := [.int a1, .int (iI 2), .int ((iI 1) - v1)]) (rest := []) (rs := []) hx hb hml hl.1 hts hown hK hSt hN hw (c_X11_puts l G a1 (iI 2) ((iI 1) - v1) h h2 ev) rfl rfl cv_X11_91 (rm_ok hR (by decide)) rfl (Nat.le_of_ble_eq_true rfl) rfl rfl dX11_flips_11 (fun H locs hw => ?_)
  exact q_vret hret dX11_flips_14 hw hs

set_option maxHeartbeats 4000000 in
theorem c_X11_slantBits (l : Launch) (G : GG)  (h : Mem) (v : Int32)  (hs : f_X11_slantBits h  = some v) : Sat l G yX11_slantBits cX11_slantBits 3 (some .int) 1 [.ref (G.2.2.1 72)] h (some (.int v)) h := by
  refine Sat.mkI (by decide) (Nat.le_of_ble_eq_true rfl) ?_
  intro p e R s m args below meth c Q F hret hw ls hl
  obtain ⟨hx, hb, hml, hown, hts, hK, hSt, hN, hR⟩ := F
  have hl : lv_has ls 3 [(0, .ref (G.2.2.1 72))] := hl
  unfold f_X11_slantBits at hs
  refine lv_iconst (pc := 0) (v := (iI 0)) hx hb dX11_slantBits_0 rfl ?_
  refine lv_istore_n (pc := 1) (lv' := [(1, .int (iI 0)), (0, .ref (G.2.2.1 72))]) hx hb dX11_slantBits_1 rfl hl (by decide) rfl (fun ls hl => ?_)
  refine lv_iconst (pc := 2) (v := (iI 0)) hx hb dX11_slantBits_2 rfl ?_
  refine lv_istore_n (pc := 3) (lv' := [(2, .int (iI 0)), (1, .int (iI 0)), (0, .ref (G.2.2.1 72))]) hx hb dX11_slantBits_3 rfl hl (by decide) rfl (fun ls hl => ?_)
  refine (q_lo2 (P0 := fun (x1 : Int32) (x2 : Int32) => ∀ (H : Heap) (locs : List Loc), IW G s h H locs → ∀ ls : Array Slot, lv_has ls 3 [(0, .ref (G.2.2.1 72)), (1, .int x1), (2, .int x2)] → W p l e R s m args below meth c H locs 0 0 Q (F0 m 4 ls [])) hs ?_) _ _ hw _ (lv_sub hl [2, 1, 0] rfl)
  intro K3 hK3 x1 x2 hs H locs hw ls hl
  unfold f_X11_slantBits_k3 at hs
  refine lv_iload_n (pc := 4) hx hb dX11_slantBits_4 rfl (lv_at hl 2 rfl) ?_
  refine lv_aload_n (pc := 5) hx hb dX11_slantBits_5 rfl (lv_at hl 0 rfl) ?_
  obtain ⟨v4, ev, hs⟩ := q_cal hs
  refine q_callV (pc := 6) (q := 72) (As := []) (rest := [.int x2]) (rs := [.int v4, .int x2]) hx hb hml hl.1 hts hown hK hSt hN hw (c_X11_many l G h v4 ev) rfl rfl cv_X11_67 (rm_ok hR (by decide)) rfl (Nat.le_of_ble_eq_true rfl) rfl rfl dX11_slantBits_6 (fun H locs hw => ?_)
  refine lv_icmp_ge (pc := 9) (tgt := 29) hx hb dX11_slantBits_9 (by decide) (fun hc => ?_) (fun hc => ?_)
  · replace hs := q_t hc hs
    refine lv_iload_n (pc := 29) hx hb dX11_slantBits_29 rfl (lv_at hl 1 rfl) ?_
    exact q_iret hret dX11_slantBits_30 hw hs
  · replace hs := q_f hc hs
    refine lv_iload_n (pc := 12) hx hb dX11_slantBits_12 rfl (lv_at hl 1 rfl) ?_
    refine lv_aload_n (pc := 13) hx hb dX11_slantBits_13 rfl (lv_at hl 0 rfl) ?_
    refine lv_iload_n (pc := 14) hx hb dX11_slantBits_14 rfl (lv_at hl 2 rfl) ?_
    refine lv_iconst (pc := 15) (v := (iI 2)) hx hb dX11_slantBits_15 rfl ?_
    obtain ⟨v5, ev, hs⟩ := q_cal hs
    refine q_callV (pc := 16) (q := 72) (As := [.int x2, .int (iI 2)]) (rest := [.int x1]) (rs := [.int v5, .int x1]) hx hb hml hl.1 hts hown hK hSt hN hw (c_X11_its l G x2 (iI 2) h v5 ev) rfl rfl cv_X11_87 (rm_ok hR (by decide)) rfl (Nat.le_of_ble_eq_true rfl) rfl rfl dX11_slantBits_16 (fun H locs hw => ?_)
    refine lv_iload_n (pc := 19) hx hb dX11_slantBits_19 rfl (lv_at hl 2 rfl) ?_
    refine q_ishl (pc := 20) hx hb dX11_slantBits_20 ?_
    refine lv_ior (pc := 21) hx hb dX11_slantBits_21 ?_
    obtain ⟨x6, ex6, hs⟩ := q_nm hs
    refine q_topI ex6 ?_
    refine lv_istore_n (pc := 22) (lv' := [(1, .int x6), (0, .ref (G.2.2.1 72)), (2, .int x2)]) hx hb dX11_slantBits_22 rfl hl (by decide) rfl (fun ls hl => ?_)
    obtain ⟨x7, ex7, hs⟩ := q_nm hs
    refine lv_iinc (pc := 23) (v := x7) (lv' := [(2, .int x7), (1, .int x6), (0, .ref (G.2.2.1 72))]) hx hb dX11_slantBits_23 hl (k := 2) rfl ex7 (by decide) rfl (fun ls hl => ?_)
    refine lv_goto (pc := 26) (tgt := 4) hx hb dX11_slantBits_26 (by decide) ?_
    exact hK3 _ _ hs _ _ hw _ (lv_sub hl [2, 1, 0] rfl)

set_option maxHeartbeats 4000000 in
theorem c_X11_slants (l : Launch) (G : GG)  (h : Mem) (v : Int32)  (hs : f_X11_slants h  = some v) : Sat l G yX11_slants cX11_slants 1 (some .int) 2 [.ref (G.2.2.1 72)] h (some (.int v)) h := by
  refine Sat.mkI (by decide) (Nat.le_of_ble_eq_true rfl) ?_
  intro p e R s m args below meth c Q F hret hw ls hl
  obtain ⟨hx, hb, hml, hown, hts, hK, hSt, hN, hR⟩ := F
  have hl : lv_has ls 1 [(0, .ref (G.2.2.1 72))] := hl
  unfold f_X11_slants at hs
  refine lv_aload_n (pc := 0) hx hb dX11_slants_0 rfl (lv_at hl 0 rfl) ?_
  obtain ⟨v1, ev, hs⟩ := q_cal hs
  refine q_callV (pc := 1) (q := 72) (As := []) (rest := []) (rs := [.int v1]) hx hb hml hl.1 hts hown hK hSt hN hw (c_X11_slantBits l G h v1 ev) rfl rfl cv_X11_132 (rm_ok hR (by decide)) rfl (Nat.le_of_ble_eq_true rfl) rfl rfl dX11_slants_1 (fun H locs hw => ?_)
  exact q_iret hret dX11_slants_4 hw hs

set_option maxHeartbeats 4000000 in
set_option maxRecDepth 100000 in
theorem c_X11_enters (l : Launch) (G : GG) (a1 : Int32) (h : Mem) (h' : Mem) (hs : f_X11_enters h a1 = some h') : Sat l G yX11_enters cX11_enters 4 none 0 [.ref (G.2.2.1 72), .int a1] h none h' := by
  refine Sat.mkV (by decide) (Nat.le_of_ble_eq_true rfl) ?_
  intro p e R s m args below meth c Q F hret hw ls hl
  obtain ⟨hx, hb, hml, hown, hts, hK, hSt, hN, hR⟩ := F
  have hl : lv_has ls 4 [(0, .ref (G.2.2.1 72)), (1, .int a1)] := hl
  unfold f_X11_enters at hs
  refine lv_aload_n (pc := 0) hx hb dX11_enters_0 rfl (lv_at hl 0 rfl) ?_
  refine q_getR (pc := 1) (q := 72) (o := 1) hx hb hts hown hK hw rfl fg_X11_7 dX11_enters_1 ?_
  refine lv_iconst (pc := 4) (v := (iI 1)) hx hb dX11_enters_4 rfl ?_
  refine q_ald (pc := 5) (q := 73) (n := 305) hx hb hK hw rfl dX11_enters_5 hs (fun v1 hs => ?_)
  refine lv_istore_n (pc := 6) (lv' := [(2, .int v1), (0, .ref (G.2.2.1 72)), (1, .int a1)]) hx hb dX11_enters_6 rfl hl (by decide) rfl (fun ls hl => ?_)
  refine lv_aload_n (pc := 7) hx hb dX11_enters_7 rfl (lv_at hl 1 rfl) ?_
  refine q_getR (pc := 8) (q := 72) (o := 1) hx hb hts hown hK hw rfl fg_X11_7 dX11_enters_8 ?_
  refine lv_iconst (pc := 11) (v := (iI 0)) hx hb dX11_enters_11 rfl ?_
  refine q_ald (pc := 12) (q := 73) (n := 305) hx hb hK hw rfl dX11_enters_12 hs (fun v2 hs => ?_)
  refine lv_istore_n (pc := 13) (lv' := [(3, .int v2), (2, .int v1), (0, .ref (G.2.2.1 72)), (1, .int a1)]) hx hb dX11_enters_13 rfl hl (by decide) rfl (fun ls hl => ?_)
  refine lv_aload_n (pc := 14) hx hb dX11_enters_14 rfl (lv_at hl 2 rfl) ?_
  refine lv_iconst (pc := 15) (v := (iI 0)) hx hb dX11_enters_15 rfl ?_
  refine q_putI (pc := 16) (q := 72) hx hb hts hown hK hw rfl fp_X11_135 dX11_enters_16 hs (fun h3 H locs hw hs => ?_)
  refine lv_aload_n (pc := 19) hx hb dX11_enters_19 rfl (lv_at hl 2 rfl) ?_
  refine lv_iconst (pc := 20) (v := (iI 0)) hx hb dX11_enters_20 rfl ?_
  refine q_putI (pc := 21) (q := 72) hx hb hts hown hK hw rfl fp_X11_138 dX11_enters_21 hs (fun h4 H locs hw hs => ?_)
  refine lv_iload_n (pc := 24) hx hb dX11_enters_24 rfl (lv_at hl 3 rfl) ?_
  refine lv_iload_n (pc := 25) hx hb dX11_enters_25 rfl (lv_at hl 1 rfl) ?_
  refine lv_icmp_ge (pc := 26) (tgt := 47) hx hb dX11_enters_26 (by decide) (fun hc => ?_) (fun hc => ?_)
  · replace hs := q_t hc hs
    refine lv_iload_n (pc := 47) hx hb dX11_enters_47 rfl (lv_at hl 3 rfl) ?_
    refine lv_iload_n (pc := 48) hx hb dX11_enters_48 rfl (lv_at hl 1 rfl) ?_
    refine lv_iload_n (pc := 49) hx hb dX11_enters_49 rfl (lv_at hl 0 rfl) ?_
    refine lv_iadd (pc := 50) hx hb dX11_enters_50 ?_
    refine lv_icmp_ge (pc := 51) (tgt := 76) hx hb dX11_enters_51 (by decide) (fun hc => ?_) (fun hc => ?_)
    · replace hs := q_t hc hs
      refine lv_iload_n (pc := 76) hx hb dX11_enters_76 rfl (lv_at hl 3 rfl) ?_
      refine lv_iconst (pc := 77) (v := (iI 2)) hx hb dX11_enters_77 rfl ?_
      refine lv_iload_n (pc := 78) hx hb dX11_enters_78 rfl (lv_at hl 1 rfl) ?_
      refine lv_imul (pc := 79) hx hb dX11_enters_79 ?_
      refine lv_iload_n (pc := 80) hx hb dX11_enters_80 rfl (lv_at hl 0 rfl) ?_
      refine lv_iadd (pc := 81) hx hb dX11_enters_81 ?_
      refine lv_icmp_ge (pc := 82) (tgt := 109) hx hb dX11_enters_82 (by decide) (fun hc => ?_) (fun hc => ?_)
      · replace hs := q_t hc hs
        refine lv_aload_n (pc := 109) hx hb dX11_enters_109 rfl (lv_at hl 2 rfl) ?_
        refine lv_iload_n (pc := 110) hx hb dX11_enters_110 rfl (lv_at hl 3 rfl) ?_
        refine lv_iconst (pc := 111) (v := (iI 2)) hx hb dX11_enters_111 rfl ?_
        refine lv_iload_n (pc := 112) hx hb dX11_enters_112 rfl (lv_at hl 1 rfl) ?_
        refine lv_imul (pc := 113) hx hb dX11_enters_113 ?_
        refine lv_isub (pc := 114) hx hb dX11_enters_114 ?_
        refine lv_iload_n (pc := 115) hx hb dX11_enters_115 rfl (lv_at hl 0 rfl) ?_
        refine lv_isub (pc := 116) hx hb dX11_enters_116 ?_
        refine q_putI (pc := 117) (q := 72) hx hb hts hown hK hw rfl fp_X11_141 dX11_enters_117 hs (fun h5 H locs hw hs => ?_)
        refine lv_aload_n (pc := 120) hx hb dX11_enters_120 rfl (lv_at hl 2 rfl) ?_
        refine lv_iconst (pc := 121) (v := (iI 0)) hx hb dX11_enters_121 rfl ?_
        refine q_putI (pc := 122) (q := 72) hx hb hts hown hK hw rfl fp_X11_144 dX11_enters_122 hs (fun h6 H locs hw hs => ?_)
        refine lv_aload_n (pc := 125) hx hb dX11_enters_125 rfl (lv_at hl 2 rfl) ?_
        refine lv_iconst (pc := 126) (v := (iI 1)) hx hb dX11_enters_126 rfl ?_
        refine q_putI (pc := 127) (q := 72) hx hb hts hown hK hw rfl fp_X11_147 dX11_enters_127 hs (fun h7 H locs hw hs => ?_)
        exact q_vret hret dX11_enters_130 hw hs
      · replace hs := q_f hc hs
        refine lv_aload_n (pc := 85) hx hb dX11_enters_85 rfl (lv_at hl 2 rfl) ?_
        refine lv_iload_n (pc := 86) hx hb dX11_enters_86 rfl (lv_at hl 0 rfl) ?_
        refine lv_iconst (pc := 87) (v := (iI 1)) hx hb dX11_enters_87 rfl ?_
        refine lv_isub (pc := 88) hx hb dX11_enters_88 ?_
        refine q_putI (pc := 89) (q := 72) hx hb hts hown hK hw rfl fp_X11_141 dX11_enters_89 hs (fun h8 H locs hw hs => ?_)
        refine lv_aload_n (pc := 92) hx hb dX11_enters_92 rfl (lv_at hl 2 rfl) ?_
        refine lv_iload_n (pc := 93) hx hb dX11_enters_93 rfl (lv_at hl 3 rfl) ?_
        refine lv_iload_n (pc := 94) hx hb dX11_enters_94 rfl (lv_at hl 1 rfl) ?_
        refine lv_isub (pc := 95) hx hb dX11_enters_95 ?_
        refine lv_iload_n (pc := 96) hx hb dX11_enters_96 rfl (lv_at hl 0 rfl) ?_
        refine lv_isub (pc := 97) hx hb dX11_enters_97 ?_
        refine q_putI (pc := 98) (q := 72) hx hb hts hown hK hw rfl fp_X11_144 dX11_enters_98 hs (fun h9 H locs hw hs => ?_)
        refine lv_aload_n (pc := 101) hx hb dX11_enters_101 rfl (lv_at hl 2 rfl) ?_
        refine lv_iconst (pc := 102) (v := (iI 0)) hx hb dX11_enters_102 rfl ?_
        refine q_putI (pc := 103) (q := 72) hx hb hts hown hK hw rfl fp_X11_147 dX11_enters_103 hs (fun h10 H locs hw hs => ?_)
        refine lv_goto (pc := 106) (tgt := 130) hx hb dX11_enters_106 (by decide) ?_
        exact q_vret hret dX11_enters_130 hw hs
    · replace hs := q_f hc hs
      refine lv_aload_n (pc := 54) hx hb dX11_enters_54 rfl (lv_at hl 2 rfl) ?_
      refine lv_iload_n (pc := 55) hx hb dX11_enters_55 rfl (lv_at hl 3 rfl) ?_
      refine lv_iload_n (pc := 56) hx hb dX11_enters_56 rfl (lv_at hl 1 rfl) ?_
      refine lv_isub (pc := 57) hx hb dX11_enters_57 ?_
      refine q_putI (pc := 58) (q := 72) hx hb hts hown hK hw rfl fp_X11_141 dX11_enters_58 hs (fun h11 H locs hw hs => ?_)
      refine lv_aload_n (pc := 61) hx hb dX11_enters_61 rfl (lv_at hl 2 rfl) ?_
      refine lv_iload_n (pc := 62) hx hb dX11_enters_62 rfl (lv_at hl 1 rfl) ?_
      refine lv_iconst (pc := 63) (v := (iI 1)) hx hb dX11_enters_63 rfl ?_
      refine lv_isub (pc := 64) hx hb dX11_enters_64 ?_
      refine q_putI (pc := 65) (q := 72) hx hb hts hown hK hw rfl fp_X11_144 dX11_enters_65 hs (fun h12 H locs hw hs => ?_)
      refine lv_aload_n (pc := 68) hx hb dX11_enters_68 rfl (lv_at hl 2 rfl) ?_
      refine lv_iconst (pc := 69) (v := (iI 3)) hx hb dX11_enters_69 rfl ?_
      refine q_putI (pc := 70) (q := 72) hx hb hts hown hK hw rfl fp_X11_147 dX11_enters_70 hs (fun h13 H locs hw hs => ?_)
      refine lv_goto (pc := 73) (tgt := 130) hx hb dX11_enters_73 (by decide) ?_
      exact q_vret hret dX11_enters_130 hw hs
  · replace hs := q_f hc hs
    refine lv_aload_n (pc := 29) hx hb dX11_enters_29 rfl (lv_at hl 2 rfl) ?_
    refine lv_iconst (pc := 30) (v := (iI 0)) hx hb dX11_enters_30 rfl ?_
    refine q_putI (pc := 31) (q := 72) hx hb hts hown hK hw rfl fp_X11_141 dX11_enters_31 hs (fun h14 H locs hw hs => ?_)
    refine lv_aload_n (pc := 34) hx hb dX11_enters_34 rfl (lv_at hl 2 rfl) ?_
    refine lv_iload_n (pc := 35) hx hb dX11_enters_35 rfl (lv_at hl 3 rfl) ?_
    refine q_putI (pc := 36) (q := 72) hx hb hts hown hK hw rfl fp_X11_144 dX11_enters_36 hs (fun h15 H locs hw hs => ?_)
    refine lv_aload_n (pc := 39) hx hb dX11_enters_39 rfl (lv_at hl 2 rfl) ?_
    refine lv_iconst (pc := 40) (v := (iI 2)) hx hb dX11_enters_40 rfl ?_
    refine q_putI (pc := 41) (q := 72) hx hb hts hown hK hw rfl fp_X11_147 dX11_enters_41 hs (fun h16 H locs hw hs => ?_)
    refine lv_goto (pc := 44) (tgt := 130) hx hb dX11_enters_44 (by decide) ?_
    exact q_vret hret dX11_enters_130 hw hs

set_option maxHeartbeats 4000000 in
theorem c_X11_goesOn (l : Launch) (G : GG)  (h : Mem) (h' : Mem) (hs : f_X11_goesOn h  = some h') : Sat l G yX11_goesOn cX11_goesOn 1 none 0 [.ref (G.2.2.1 72)] h none h' := by
  refine Sat.mkV (by decide) (Nat.le_of_ble_eq_true rfl) ?_
  intro p e R s m args below meth c Q F hret hw ls hl
  obtain ⟨hx, hb, hml, hown, hts, hK, hSt, hN, hR⟩ := F
  have hl : lv_has ls 1 [(0, .ref (G.2.2.1 72))] := hl
  unfold f_X11_goesOn at hs
  refine lv_aload_n (pc := 0) hx hb dX11_goesOn_0 rfl (lv_at hl 0 rfl) ?_
  refine lv_dup (pc := 1) hx hb dX11_goesOn_1 rfl ?_
  refine q_getI (pc := 2) (q := 72) hx hb hts hown hK hw rfl fg_X11_141 dX11_goesOn_2 ?_
  refine lv_aload_n (pc := 5) hx hb dX11_goesOn_5 rfl (lv_at hl 0 rfl) ?_
  refine q_getI (pc := 6) (q := 72) hx hb hts hown hK hw rfl fg_X11_147 dX11_goesOn_6 ?_
  refine q_join1 (P0 := fun (x1 : Int32) => ∀ (H : Heap) (locs : List Loc), IW G s h H locs → ∀ ls : Array Slot, lv_has ls 1 [(0, .ref (G.2.2.1 72))] → W p l e R s m args below meth c H locs 0 0 Q (F0 m 29 ls [.int x1, .int (gI h 72 7), .ref (G.2.2.1 72)])) hs ?_ ?_
  · intro x1 hs H locs hw ls hl
    unfold f_X11_goesOn_k2 at hs
    refine lv_iadd (pc := 29) hx hb dX11_goesOn_29 ?_
    refine q_putI (pc := 30) (q := 72) hx hb hts hown hK hw rfl fp_X11_141 dX11_goesOn_30 hs (fun h3 H locs hw hs => ?_)
    refine lv_aload_n (pc := 33) hx hb dX11_goesOn_33 rfl (lv_at hl 0 rfl) ?_
    refine lv_dup (pc := 34) hx hb dX11_goesOn_34 rfl ?_
    refine q_getI (pc := 35) (q := 72) hx hb hts hown hK hw rfl fg_X11_144 dX11_goesOn_35 ?_
    refine lv_aload_n (pc := 38) hx hb dX11_goesOn_38 rfl (lv_at hl 0 rfl) ?_
    refine q_getI (pc := 39) (q := 72) hx hb hts hown hK hw rfl fg_X11_147 dX11_goesOn_39 ?_
    refine lv_iconst (pc := 42) (v := (iI 1)) hx hb dX11_goesOn_42 rfl ?_
    refine lv_icmp_ne (pc := 43) (tgt := 50) hx hb dX11_goesOn_43 (by decide) (fun hc => ?_) (fun hc => ?_)
    · replace hs := q_t hc hs
      refine lv_aload_n (pc := 50) hx hb dX11_goesOn_50 rfl (lv_at hl 0 rfl) ?_
      refine q_getI (pc := 51) (q := 72) hx hb hts hown hK hw rfl fg_X11_147 dX11_goesOn_51 ?_
      refine lv_iconst (pc := 54) (v := (iI 3)) hx hb dX11_goesOn_54 rfl ?_
      refine lv_icmp_ne (pc := 55) (tgt := 62) hx hb dX11_goesOn_55 (by decide) (fun hc => ?_) (fun hc => ?_)
      · replace hs := q_t hc hs
        refine lv_iconst (pc := 62) (v := (iI 0)) hx hb dX11_goesOn_62 rfl ?_
        refine lv_iadd (pc := 63) hx hb dX11_goesOn_63 ?_
        refine q_putI (pc := 64) (q := 72) hx hb hts hown hK hw rfl fp_X11_144 dX11_goesOn_64 hs (fun h4 H locs hw hs => ?_)
        exact q_vret hret dX11_goesOn_67 hw hs
      · replace hs := q_f (fun z => z hc) hs
        refine lv_iconst (pc := 58) (v := (iI (-1))) hx hb dX11_goesOn_58 rfl ?_
        refine lv_goto (pc := 59) (tgt := 63) hx hb dX11_goesOn_59 (by decide) ?_
        refine lv_iadd (pc := 63) hx hb dX11_goesOn_63 ?_
        refine q_putI (pc := 64) (q := 72) hx hb hts hown hK hw rfl fp_X11_144 dX11_goesOn_64 hs (fun h5 H locs hw hs => ?_)
        exact q_vret hret dX11_goesOn_67 hw hs
    · replace hs := q_f (fun z => z hc) hs
      refine lv_iconst (pc := 46) (v := (iI 1)) hx hb dX11_goesOn_46 rfl ?_
      refine lv_goto (pc := 47) (tgt := 63) hx hb dX11_goesOn_47 (by decide) ?_
      refine lv_iadd (pc := 63) hx hb dX11_goesOn_63 ?_
      refine q_putI (pc := 64) (q := 72) hx hb hts hown hK hw rfl fp_X11_144 dX11_goesOn_64 hs (fun h6 H locs hw hs => ?_)
      exact q_vret hret dX11_goesOn_67 hw hs
  · intro K2 hK2 hs
    refine lv_if_ne (pc := 9) (tgt := 16) hx hb dX11_goesOn_9 (by decide) (fun hc => ?_) (fun hc => ?_)
    · replace hs := q_t hc hs
      refine lv_aload_n (pc := 16) hx hb dX11_goesOn_16 rfl (lv_at hl 0 rfl) ?_
      refine q_getI (pc := 17) (q := 72) hx hb hts hown hK hw rfl fg_X11_147 dX11_goesOn_17 ?_
      refine lv_iconst (pc := 20) (v := (iI 2)) hx hb dX11_goesOn_20 rfl ?_
      refine lv_icmp_ne (pc := 21) (tgt := 28) hx hb dX11_goesOn_21 (by decide) (fun hc => ?_) (fun hc => ?_)
      · replace hs := q_t hc hs
        refine lv_iconst (pc := 28) (v := (iI 0)) hx hb dX11_goesOn_28 rfl ?_
        exact hK2 _ hs _ _ hw _ (lv_sub hl [0] rfl)
      · replace hs := q_f (fun z => z hc) hs
        refine lv_iconst (pc := 24) (v := (iI 1)) hx hb dX11_goesOn_24 rfl ?_
        refine lv_goto (pc := 25) (tgt := 29) hx hb dX11_goesOn_25 (by decide) ?_
        exact hK2 _ hs _ _ hw _ (lv_sub hl [0] rfl)
    · replace hs := q_f (fun z => z hc) hs
      refine lv_iconst (pc := 12) (v := (iI (-1))) hx hb dX11_goesOn_12 rfl ?_
      refine lv_goto (pc := 13) (tgt := 29) hx hb dX11_goesOn_13 (by decide) ?_
      exact hK2 _ hs _ _ hw _ (lv_sub hl [0] rfl)

set_option maxHeartbeats 4000000 in
theorem c_X11_isOut (l : Launch) (G : GG)  (h : Mem) (v : Int32)  (hs : f_X11_isOut h  = some v) : Sat l G yX11_isOut cX11_isOut 1 (some .boolean) 1 [.ref (G.2.2.1 72)] h (some (.int v)) h := by
  refine Sat.mkZ (by decide) (Nat.le_of_ble_eq_true rfl) ?_
  intro p e R s m args below meth c Q F hret hw ls hl
  obtain ⟨hx, hb, hml, hown, hts, hK, hSt, hN, hR⟩ := F
  have hl : lv_has ls 1 [(0, .ref (G.2.2.1 72))] := hl
  unfold f_X11_isOut at hs
  refine lv_aload_n (pc := 0) hx hb dX11_isOut_0 rfl (lv_at hl 0 rfl) ?_
  refine q_getI (pc := 1) (q := 72) hx hb hts hown hK hw rfl fg_X11_141 dX11_isOut_1 ?_
  refine lv_iconst (pc := 4) (v := (iI 0)) hx hb dX11_isOut_4 rfl ?_
  refine lv_aload_n (pc := 5) hx hb dX11_isOut_5 rfl (lv_at hl 0 rfl) ?_
  refine q_getR (pc := 6) (q := 72) (o := 1) hx hb hts hown hK hw rfl fg_X11_7 dX11_isOut_6 ?_
  refine lv_iconst (pc := 9) (v := (iI 0)) hx hb dX11_isOut_9 rfl ?_
  refine q_ald (pc := 10) (q := 73) (n := 305) hx hb hK hw rfl dX11_isOut_10 hs (fun v1 hs => ?_)
  refine lv_iconst (pc := 11) (v := (iI 1)) hx hb dX11_isOut_11 rfl ?_
  refine lv_isub (pc := 12) hx hb dX11_isOut_12 ?_
  obtain ⟨v2, ev, hs⟩ := q_cal hs
  refine q_callS (pc := 13) (As := [.int (gI h 72 7), .int (iI 0), .int (v1 - (iI 1))]) (rest := []) (rs := [.int v2]) hx hb hml hl.1 hts hown hK hSt hN hw (c_X11_in l G (gI h 72 7) (iI 0) (v1 - (iI 1)) h v2 ev) cs_X11_71 (rm_ok hR (by decide)) rfl (Nat.le_of_ble_eq_true rfl) rfl rfl dX11_isOut_13 (fun H locs hw => ?_)
  refine q_join0 (P0 := ∀ (H : Heap) (locs : List Loc), IW G s h H locs → ∀ ls : Array Slot, lv_has ls 1 [] → W p l e R s m args below meth c H locs 0 0 Q (F0 m 38 ls [])) hs ?_ ?_
  · intro  hs H locs hw ls hl
    refine lv_iconst (pc := 38) (v := (iI 1)) hx hb dX11_isOut_38 rfl ?_
    refine lv_goto (pc := 39) (tgt := 43) hx hb dX11_isOut_39 (by decide) ?_
    exact q_zret hret dX11_isOut_43 hw hs
  · intro K3 hK3 hs
    refine lv_if_eq (pc := 16) (tgt := 38) hx hb dX11_isOut_16 (by decide) (fun hc => ?_) (fun hc => ?_)
    · replace hs := q_t hc hs
      exact hK3 hs _ _ hw _ (lv_sub hl [] rfl)
    · replace hs := q_f hc hs
      refine lv_aload_n (pc := 19) hx hb dX11_isOut_19 rfl (lv_at hl 0 rfl) ?_
      refine q_getI (pc := 20) (q := 72) hx hb hts hown hK hw rfl fg_X11_144 dX11_isOut_20 ?_
      refine lv_iconst (pc := 23) (v := (iI 0)) hx hb dX11_isOut_23 rfl ?_
      refine lv_aload_n (pc := 24) hx hb dX11_isOut_24 rfl (lv_at hl 0 rfl) ?_
      refine q_getR (pc := 25) (q := 72) (o := 1) hx hb hts hown hK hw rfl fg_X11_7 dX11_isOut_25 ?_
      refine lv_iconst (pc := 28) (v := (iI 1)) hx hb dX11_isOut_28 rfl ?_
      refine q_ald (pc := 29) (q := 73) (n := 305) hx hb hK hw rfl dX11_isOut_29 hs (fun v4 hs => ?_)
      refine lv_iconst (pc := 30) (v := (iI 1)) hx hb dX11_isOut_30 rfl ?_
      refine lv_isub (pc := 31) hx hb dX11_isOut_31 ?_
      obtain ⟨v5, ev, hs⟩ := q_cal hs
      refine q_callS (pc := 32) (As := [.int (gI h 72 8), .int (iI 0), .int (v4 - (iI 1))]) (rest := []) (rs := [.int v5]) hx hb hml hl.1 hts hown hK hSt hN hw (c_X11_in l G (gI h 72 8) (iI 0) (v4 - (iI 1)) h v5 ev) cs_X11_71 (rm_ok hR (by decide)) rfl (Nat.le_of_ble_eq_true rfl) rfl rfl dX11_isOut_32 (fun H locs hw => ?_)
      refine lv_if_ne (pc := 35) (tgt := 42) hx hb dX11_isOut_35 (by decide) (fun hc => ?_) (fun hc => ?_)
      · replace hs := q_t hc hs
        refine lv_iconst (pc := 42) (v := (iI 0)) hx hb dX11_isOut_42 rfl ?_
        exact q_zret hret dX11_isOut_43 hw hs
      · replace hs := q_f (fun z => z hc) hs
        exact hK3 hs _ _ hw _ (lv_sub hl [] rfl)

set_option maxHeartbeats 4000000 in
theorem c_X11_windowThere (l : Launch) (G : GG)  (h : Mem) (v : Int32)  (hs : f_X11_windowThere h  = some v) : Sat l G yX11_windowThere cX11_windowThere 3 (some .int) 0 [.ref (G.2.2.1 72)] h (some (.int v)) h := by
  refine Sat.mkI (by decide) (Nat.le_of_ble_eq_true rfl) ?_
  intro p e R s m args below meth c Q F hret hw ls hl
  obtain ⟨hx, hb, hml, hown, hts, hK, hSt, hN, hR⟩ := F
  have hl : lv_has ls 3 [(0, .ref (G.2.2.1 72))] := hl
  unfold f_X11_windowThere at hs
  refine lv_aload_n (pc := 0) hx hb dX11_windowThere_0 rfl (lv_at hl 0 rfl) ?_
  refine q_getR (pc := 1) (q := 72) (o := 1) hx hb hts hown hK hw rfl fg_X11_7 dX11_windowThere_1 ?_
  refine lv_iconst (pc := 4) (v := (iI 1)) hx hb dX11_windowThere_4 rfl ?_
  refine q_ald (pc := 5) (q := 73) (n := 305) hx hb hK hw rfl dX11_windowThere_5 hs (fun v1 hs => ?_)
  refine lv_istore_n (pc := 6) (lv' := [(1, .int v1), (0, .ref (G.2.2.1 72))]) hx hb dX11_windowThere_6 rfl hl (by decide) rfl (fun ls hl => ?_)
  refine lv_aload_n (pc := 7) hx hb dX11_windowThere_7 rfl (lv_at hl 1 rfl) ?_
  refine q_getR (pc := 8) (q := 72) (o := 1) hx hb hts hown hK hw rfl fg_X11_7 dX11_windowThere_8 ?_
  refine lv_iconst (pc := 11) (v := (iI 0)) hx hb dX11_windowThere_11 rfl ?_
  refine q_ald (pc := 12) (q := 73) (n := 305) hx hb hK hw rfl dX11_windowThere_12 hs (fun v2 hs => ?_)
  refine lv_istore_n (pc := 13) (lv' := [(2, .int v2), (1, .int v1), (0, .ref (G.2.2.1 72))]) hx hb dX11_windowThere_13 rfl hl (by decide) rfl (fun ls hl => ?_)
  refine lv_aload_n (pc := 14) hx hb dX11_windowThere_14 rfl (lv_at hl 2 rfl) ?_
  refine q_getI (pc := 15) (q := 72) hx hb hts hown hK hw rfl fg_X11_147 dX11_windowThere_15 ?_
  refine lv_if_ne (pc := 18) (tgt := 28) hx hb dX11_windowThere_18 (by decide) (fun hc => ?_) (fun hc => ?_)
  · replace hs := q_t hc hs
    refine lv_aload_n (pc := 28) hx hb dX11_windowThere_28 rfl (lv_at hl 2 rfl) ?_
    refine q_getI (pc := 29) (q := 72) hx hb hts hown hK hw rfl fg_X11_147 dX11_windowThere_29 ?_
    refine lv_iconst (pc := 32) (v := (iI 1)) hx hb dX11_windowThere_32 rfl ?_
    refine lv_icmp_ne (pc := 33) (tgt := 45) hx hb dX11_windowThere_33 (by decide) (fun hc => ?_) (fun hc => ?_)
    · replace hs := q_t hc hs
      refine lv_aload_n (pc := 45) hx hb dX11_windowThere_45 rfl (lv_at hl 2 rfl) ?_
      refine q_getI (pc := 46) (q := 72) hx hb hts hown hK hw rfl fg_X11_147 dX11_windowThere_46 ?_
      refine lv_iconst (pc := 49) (v := (iI 2)) hx hb dX11_windowThere_49 rfl ?_
      refine lv_icmp_ne (pc := 50) (tgt := 64) hx hb dX11_windowThere_50 (by decide) (fun hc => ?_) (fun hc => ?_)
      · replace hs := q_t hc hs
        refine lv_iconst (pc := 64) (v := (iI 2)) hx hb dX11_windowThere_64 rfl ?_
        refine lv_iload_n (pc := 65) hx hb dX11_windowThere_65 rfl (lv_at hl 1 rfl) ?_
        refine lv_imul (pc := 66) hx hb dX11_windowThere_66 ?_
        refine lv_iload_n (pc := 67) hx hb dX11_windowThere_67 rfl (lv_at hl 0 rfl) ?_
        refine lv_iadd (pc := 68) hx hb dX11_windowThere_68 ?_
        refine lv_aload_n (pc := 69) hx hb dX11_windowThere_69 rfl (lv_at hl 2 rfl) ?_
        refine q_getI (pc := 70) (q := 72) hx hb hts hown hK hw rfl fg_X11_141 dX11_windowThere_70 ?_
        refine lv_iadd (pc := 73) hx hb dX11_windowThere_73 ?_
        exact q_iret hret dX11_windowThere_74 hw hs
      · replace hs := q_f (fun z => z hc) hs
        refine lv_iload_n (pc := 53) hx hb dX11_windowThere_53 rfl (lv_at hl 1 rfl) ?_
        refine lv_iload_n (pc := 54) hx hb dX11_windowThere_54 rfl (lv_at hl 0 rfl) ?_
        refine lv_iadd (pc := 55) hx hb dX11_windowThere_55 ?_
        refine lv_aload_n (pc := 56) hx hb dX11_windowThere_56 rfl (lv_at hl 2 rfl) ?_
        refine q_getI (pc := 57) (q := 72) hx hb hts hown hK hw rfl fg_X11_144 dX11_windowThere_57 ?_
        refine lv_iadd (pc := 60) hx hb dX11_windowThere_60 ?_
        refine lv_goto (pc := 61) (tgt := 74) hx hb dX11_windowThere_61 (by decide) ?_
        exact q_iret hret dX11_windowThere_74 hw hs
    · replace hs := q_f (fun z => z hc) hs
      refine lv_iload_n (pc := 36) hx hb dX11_windowThere_36 rfl (lv_at hl 1 rfl) ?_
      refine lv_aload_n (pc := 37) hx hb dX11_windowThere_37 rfl (lv_at hl 2 rfl) ?_
      refine q_getI (pc := 38) (q := 72) hx hb hts hown hK hw rfl fg_X11_141 dX11_windowThere_38 ?_
      refine lv_iadd (pc := 41) hx hb dX11_windowThere_41 ?_
      refine lv_goto (pc := 42) (tgt := 74) hx hb dX11_windowThere_42 (by decide) ?_
      exact q_iret hret dX11_windowThere_74 hw hs
  · replace hs := q_f (fun z => z hc) hs
    refine lv_aload_n (pc := 21) hx hb dX11_windowThere_21 rfl (lv_at hl 2 rfl) ?_
    refine q_getI (pc := 22) (q := 72) hx hb hts hown hK hw rfl fg_X11_144 dX11_windowThere_22 ?_
    refine lv_goto (pc := 25) (tgt := 74) hx hb dX11_windowThere_25 (by decide) ?_
    exact q_iret hret dX11_windowThere_74 hw hs

set_option maxHeartbeats 4000000 in
theorem c_X11_thrown (l : Launch) (G : GG) (a0 : Int32) (a1 : Int32) (h : Mem) (v : Int32)  (hs : f_X11_thrown h a0 a1 = some v) : Sat l G yX11_thrown cX11_thrown 2 (some .int) 0 [.int a0, .int a1] h (some (.int v)) h := by
  refine Sat.mkI (by decide) (Nat.le_of_ble_eq_true rfl) ?_
  intro p e R s m args below meth c Q F hret hw ls hl
  obtain ⟨hx, hb, hml, hown, hts, hK, hSt, hN, hR⟩ := F
  have hl : lv_has ls 2 [(0, .int a0), (1, .int a1)] := hl
  unfold f_X11_thrown at hs
  refine lv_iload_n (pc := 0) hx hb dX11_thrown_0 rfl (lv_at hl 1 rfl) ?_
  refine lv_if_ne (pc := 1) (tgt := 10) hx hb dX11_thrown_1 (by decide) (fun hc => ?_) (fun hc => ?_)
  · replace hs := q_t hc hs
    refine lv_iconst (pc := 10) (v := (iI 3)) hx hb dX11_thrown_10 rfl ?_
    refine lv_iload_n (pc := 11) hx hb dX11_thrown_11 rfl (lv_at hl 0 rfl) ?_
    refine lv_isub (pc := 12) hx hb dX11_thrown_12 ?_
    exact q_iret hret dX11_thrown_13 hw hs
  · replace hs := q_f (fun z => z hc) hs
    refine lv_iload_n (pc := 4) hx hb dX11_thrown_4 rfl (lv_at hl 0 rfl) ?_
    refine lv_iconst (pc := 5) (v := (iI 1)) hx hb dX11_thrown_5 rfl ?_
    refine lv_ixor (pc := 6) hx hb dX11_thrown_6 ?_
    refine lv_goto (pc := 7) (tgt := 13) hx hb dX11_thrown_7 (by decide) ?_
    exact q_iret hret dX11_thrown_13 hw hs

set_option maxHeartbeats 4000000 in
theorem c_X11_turns (l : Launch) (G : GG) (a1 : Int32) (h : Mem) (h' : Mem) (hs : f_X11_turns h a1 = some h') : Sat l G yX11_turns cX11_turns 3 none 2 [.ref (G.2.2.1 72), .int a1] h none h' := by
  refine Sat.mkV (by decide) (Nat.le_of_ble_eq_true rfl) ?_
  intro p e R s m args below meth c Q F hret hw ls hl
  obtain ⟨hx, hb, hml, hown, hts, hK, hSt, hN, hR⟩ := F
  have hl : lv_has ls 3 [(0, .ref (G.2.2.1 72)), (1, .int a1)] := hl
  unfold f_X11_turns at hs
  refine lv_aload_n (pc := 0) hx hb dX11_turns_0 rfl (lv_at hl 0 rfl) ?_
  refine lv_iload_n (pc := 1) hx hb dX11_turns_1 rfl (lv_at hl 1 rfl) ?_
  refine lv_iconst (pc := 2) (v := (iI 0)) hx hb dX11_turns_2 rfl ?_
  obtain ⟨v1, ev, hs⟩ := q_cal hs
  refine q_callV (pc := 3) (q := 72) (As := [.int a1, .int (iI 0)]) (rest := []) (rs := [.int v1]) hx hb hml hl.1 hts hown hK hSt hN hw (c_X11_its l G a1 (iI 0) h v1 ev) rfl rfl cv_X11_87 (rm_ok hR (by decide)) rfl (Nat.le_of_ble_eq_true rfl) rfl rfl dX11_turns_3 (fun H locs hw => ?_)
  refine lv_istore_n (pc := 6) (lv' := [(2, .int v1), (0, .ref (G.2.2.1 72)), (1, .int a1)]) hx hb dX11_turns_6 rfl hl (by decide) rfl (fun ls hl => ?_)
  refine lv_iload_n (pc := 7) hx hb dX11_turns_7 rfl (lv_at hl 0 rfl) ?_
  refine lv_iconst (pc := 8) (v := (iI 5)) hx hb dX11_turns_8 rfl ?_
  refine lv_icmp_ne (pc := 9) (tgt := 60) hx hb dX11_turns_9 (by decide) (fun hc => ?_) (fun hc => ?_)
  · replace hs := q_t hc hs
    refine lv_iload_n (pc := 60) hx hb dX11_turns_60 rfl (lv_at hl 0 rfl) ?_
    refine lv_iconst (pc := 61) (v := (iI 1)) hx hb dX11_turns_61 rfl ?_
    refine lv_icmp_ne (pc := 62) (tgt := 70) hx hb dX11_turns_62 (by decide) (fun hc => ?_) (fun hc => ?_)
    · replace hs := q_t hc hs
      exact q_vret hret dX11_turns_70 hw hs
    · replace hs := q_f (fun z => z hc) hs
      refine lv_aload_n (pc := 65) hx hb dX11_turns_65 rfl (lv_at hl 1 rfl) ?_
      refine lv_iload_n (pc := 66) hx hb dX11_turns_66 rfl (lv_at hl 2 rfl) ?_
      obtain ⟨h2, ev, hs⟩ := q_cal hs
      refine q_callV (pc := 67) (q := 72) (As := [.int a1]) (rest := []) (rs := []) hx hb hml hl.1 hts hown hK hSt hN hw (c_X11_flips l G a1 h h2 ev) rfl rfl cv_X11_125 (rm_ok hR (by decide)) rfl (Nat.le_of_ble_eq_true rfl) rfl rfl dX11_turns_67 (fun H locs hw => ?_)
      exact q_vret hret dX11_turns_70 hw hs
  · replace hs := q_f (fun z => z hc) hs
    refine lv_aload_n (pc := 12) hx hb dX11_turns_12 rfl (lv_at hl 1 rfl) ?_
    refine lv_iload_n (pc := 13) hx hb dX11_turns_13 rfl (lv_at hl 2 rfl) ?_
    refine lv_iconst (pc := 14) (v := (iI 3)) hx hb dX11_turns_14 rfl ?_
    refine lv_aload_n (pc := 15) hx hb dX11_turns_15 rfl (lv_at hl 1 rfl) ?_
    refine lv_iload_n (pc := 16) hx hb dX11_turns_16 rfl (lv_at hl 2 rfl) ?_
    refine lv_iconst (pc := 17) (v := (iI 3)) hx hb dX11_turns_17 rfl ?_
    obtain ⟨v3, ev, hs⟩ := q_cal hs
    refine q_callV (pc := 18) (q := 72) (As := [.int a1, .int (iI 3)]) (rest := [.int (iI 3), .int a1, .ref (G.2.2.1 72)]) (rs := [.int v3, .int (iI 3), .int a1, .ref (G.2.2.1 72)]) hx hb hml hl.1 hts hown hK hSt hN hw (c_X11_its l G a1 (iI 3) h v3 ev) rfl rfl cv_X11_87 (rm_ok hR (by decide)) rfl (Nat.le_of_ble_eq_true rfl) rfl rfl dX11_turns_18 (fun H locs hw => ?_)
    refine lv_iconst (pc := 21) (v := (iI 1)) hx hb dX11_turns_21 rfl ?_
    refine lv_iadd (pc := 22) hx hb dX11_turns_22 ?_
    obtain ⟨h4, ev, hs⟩ := q_cal hs
    refine q_callV (pc := 23) (q := 72) (As := [.int a1, .int (iI 3), .int (v3 + (iI 1))]) (rest := []) (rs := []) hx hb hml hl.1 hts hown hK hSt hN hw (c_X11_puts l G a1 (iI 3) (v3 + (iI 1)) h h4 ev) rfl rfl cv_X11_91 (rm_ok hR (by decide)) rfl (Nat.le_of_ble_eq_true rfl) rfl rfl dX11_turns_23 (fun H locs hw => ?_)
    refine lv_aload_n (pc := 26) hx hb dX11_turns_26 rfl (lv_at hl 1 rfl) ?_
    refine lv_iload_n (pc := 27) hx hb dX11_turns_27 rfl (lv_at hl 2 rfl) ?_
    refine lv_iconst (pc := 28) (v := (iI 3)) hx hb dX11_turns_28 rfl ?_
    obtain ⟨v5, ev, hs⟩ := q_cal hs
    refine q_callV (pc := 29) (q := 72) (As := [.int a1, .int (iI 3)]) (rest := []) (rs := [.int v5]) hx hb hml hl.1 hts hown hK hSt hN hw (c_X11_its l G a1 (iI 3) h4 v5 ev) rfl rfl cv_X11_87 (rm_ok hR (by decide)) rfl (Nat.le_of_ble_eq_true rfl) rfl rfl dX11_turns_29 (fun H locs hw => ?_)
    refine lv_iconst (pc := 32) (v := (iI 2)) hx hb dX11_turns_32 rfl ?_
    refine lv_aload_n (pc := 33) hx hb dX11_turns_33 rfl (lv_at hl 1 rfl) ?_
    refine lv_iload_n (pc := 34) hx hb dX11_turns_34 rfl (lv_at hl 2 rfl) ?_
    refine lv_iconst (pc := 35) (v := (iI 1)) hx hb dX11_turns_35 rfl ?_
    obtain ⟨v6, ev, hs⟩ := q_cal hs
    refine q_callV (pc := 36) (q := 72) (As := [.int a1, .int (iI 1)]) (rest := [.int (iI 2), .int v5]) (rs := [.int v6, .int (iI 2), .int v5]) hx hb hml hl.1 hts hown hK hSt hN hw (c_X11_its l G a1 (iI 1) h4 v6 ev) rfl rfl cv_X11_87 (rm_ok hR (by decide)) rfl (Nat.le_of_ble_eq_true rfl) rfl rfl dX11_turns_36 (fun H locs hw => ?_)
    refine lv_iconst (pc := 39) (v := (iI 3)) hx hb dX11_turns_39 rfl ?_
    obtain ⟨hne, hs⟩ := q_nz hs
    refine q_irem (pc := 40) hx hb dX11_turns_40 hne ?_
    refine lv_iadd (pc := 41) hx hb dX11_turns_41 ?_
    refine lv_icmp_ne (pc := 42) (tgt := 70) hx hb dX11_turns_42 (by decide) (fun hc => ?_) (fun hc => ?_)
    · replace hs := q_t hc hs
      exact q_vret hret dX11_turns_70 hw hs
    · replace hs := q_f (fun z => z hc) hs
      refine lv_aload_n (pc := 45) hx hb dX11_turns_45 rfl (lv_at hl 1 rfl) ?_
      refine lv_iload_n (pc := 46) hx hb dX11_turns_46 rfl (lv_at hl 2 rfl) ?_
      refine lv_iconst (pc := 47) (v := (iI 3)) hx hb dX11_turns_47 rfl ?_
      refine lv_iconst (pc := 48) (v := (iI 0)) hx hb dX11_turns_48 rfl ?_
      obtain ⟨h7, ev, hs⟩ := q_cal hs
      refine q_callV (pc := 49) (q := 72) (As := [.int a1, .int (iI 3), .int (iI 0)]) (rest := []) (rs := []) hx hb hml hl.1 hts hown hK hSt hN hw (c_X11_puts l G a1 (iI 3) (iI 0) h4 h7 ev) rfl rfl cv_X11_91 (rm_ok hR (by decide)) rfl (Nat.le_of_ble_eq_true rfl) rfl rfl dX11_turns_49 (fun H locs hw => ?_)
      refine lv_aload_n (pc := 52) hx hb dX11_turns_52 rfl (lv_at hl 1 rfl) ?_
      refine lv_iload_n (pc := 53) hx hb dX11_turns_53 rfl (lv_at hl 2 rfl) ?_
      obtain ⟨h8, ev, hs⟩ := q_cal hs
      refine q_callV (pc := 54) (q := 72) (As := [.int a1]) (rest := []) (rs := []) hx hb hml hl.1 hts hown hK hSt hN hw (c_X11_flips l G a1 h7 h8 ev) rfl rfl cv_X11_125 (rm_ok hR (by decide)) rfl (Nat.le_of_ble_eq_true rfl) rfl rfl dX11_turns_54 (fun H locs hw => ?_)
      refine lv_goto (pc := 57) (tgt := 70) hx hb dX11_turns_57 (by decide) ?_
      exact q_vret hret dX11_turns_70 hw hs

set_option maxHeartbeats 4000000 in
theorem c_X11_comesInto (l : Launch) (G : GG) (a1 : Int32) (h : Mem) (v : Int32) (h' : Mem) (hs : f_X11_comesInto h a1 = some (v, h')) : Sat l G yX11_comesInto cX11_comesInto 2 (some .boolean) 3 [.ref (G.2.2.1 72), .int a1] h (some (.int v)) h' := by
  refine Sat.mkZ (by decide) (Nat.le_of_ble_eq_true rfl) ?_
  intro p e R s m args below meth c Q F hret hw ls hl
  obtain ⟨hx, hb, hml, hown, hts, hK, hSt, hN, hR⟩ := F
  have hl : lv_has ls 2 [(0, .ref (G.2.2.1 72)), (1, .int a1)] := hl
  unfold f_X11_comesInto at hs
  refine lv_aload_n (pc := 0) hx hb dX11_comesInto_0 rfl (lv_at hl 0 rfl) ?_
  refine lv_dup (pc := 1) hx hb dX11_comesInto_1 rfl ?_
  refine q_getI (pc := 2) (q := 72) hx hb hts hown hK hw rfl fg_X11_135 dX11_comesInto_2 ?_
  refine lv_iconst (pc := 5) (v := (iI 1)) hx hb dX11_comesInto_5 rfl ?_
  refine lv_iadd (pc := 6) hx hb dX11_comesInto_6 ?_
  refine q_putI (pc := 7) (q := 72) hx hb hts hown hK hw rfl fp_X11_135 dX11_comesInto_7 hs (fun h1 H locs hw hs => ?_)
  refine lv_aload_n (pc := 10) hx hb dX11_comesInto_10 rfl (lv_at hl 0 rfl) ?_
  refine lv_iload_n (pc := 11) hx hb dX11_comesInto_11 rfl (lv_at hl 1 rfl) ?_
  refine lv_iconst (pc := 12) (v := (iI 4)) hx hb dX11_comesInto_12 rfl ?_
  refine lv_aload_n (pc := 13) hx hb dX11_comesInto_13 rfl (lv_at hl 0 rfl) ?_
  refine lv_iload_n (pc := 14) hx hb dX11_comesInto_14 rfl (lv_at hl 1 rfl) ?_
  refine lv_iconst (pc := 15) (v := (iI 4)) hx hb dX11_comesInto_15 rfl ?_
  obtain ⟨v2, ev, hs⟩ := q_cal hs
  refine q_callV (pc := 16) (q := 72) (As := [.int a1, .int (iI 4)]) (rest := [.int (iI 4), .int a1, .ref (G.2.2.1 72)]) (rs := [.int v2, .int (iI 4), .int a1, .ref (G.2.2.1 72)]) hx hb hml hl.1 hts hown hK hSt hN hw (c_X11_its l G a1 (iI 4) h1 v2 ev) rfl rfl cv_X11_87 (rm_ok hR (by decide)) rfl (Nat.le_of_ble_eq_true rfl) rfl rfl dX11_comesInto_16 (fun H locs hw => ?_)
  refine lv_sipush (pc := 19) (v := (iI 9999)) hx hb dX11_comesInto_19 (by decide) ?_
  refine q_join1 (P0 := fun (x3 : Int32) => ∀ (H : Heap) (locs : List Loc), IW G s h1 H locs → ∀ ls : Array Slot, lv_has ls 2 [(0, .ref (G.2.2.1 72)), (1, .int a1)] → W p l e R s m args below meth c H locs 0 0 Q (F0 m 39 ls [.int x3, .int (iI 4), .int a1, .ref (G.2.2.1 72)])) hs ?_ ?_
  · intro x3 hs H locs hw ls hl
    unfold f_X11_comesInto_k4 at hs
    obtain ⟨h5, ev, hs⟩ := q_cal hs
    refine q_callV (pc := 39) (q := 72) (As := [.int a1, .int (iI 4), .int x3]) (rest := []) (rs := []) hx hb hml hl.1 hts hown hK hSt hN hw (c_X11_puts l G a1 (iI 4) x3 h1 h5 ev) rfl rfl cv_X11_91 (rm_ok hR (by decide)) rfl (Nat.le_of_ble_eq_true rfl) rfl rfl dX11_comesInto_39 (fun H locs hw => ?_)
    refine lv_aload_n (pc := 42) hx hb dX11_comesInto_42 rfl (lv_at hl 0 rfl) ?_
    refine lv_iload_n (pc := 43) hx hb dX11_comesInto_43 rfl (lv_at hl 1 rfl) ?_
    obtain ⟨v6, ev, hs⟩ := q_cal hs
    refine q_callV (pc := 44) (q := 72) (As := [.int a1]) (rest := []) (rs := [.int v6]) hx hb hml hl.1 hts hown hK hSt hN hw (c_X11_doesThrow l G a1 h5 v6 ev) rfl rfl cv_X11_105 (rm_ok hR (by decide)) rfl (Nat.le_of_ble_eq_true rfl) rfl rfl dX11_comesInto_44 (fun H locs hw => ?_)
    refine q_join1 (P0 := fun (h7 : Mem) => ∀ (H : Heap) (locs : List Loc), IW G s h7 H locs → ∀ ls : Array Slot, lv_has ls 2 [(0, .ref (G.2.2.1 72)), (1, .int a1)] → W p l e R s m args below meth c H locs 0 0 Q (F0 m 82 ls [])) hs ?_ ?_
    · intro h7 hs H locs hw ls hl
      refine lv_aload_n (pc := 82) hx hb dX11_comesInto_82 rfl (lv_at hl 0 rfl) ?_
      refine lv_iload_n (pc := 83) hx hb dX11_comesInto_83 rfl (lv_at hl 1 rfl) ?_
      obtain ⟨v9, ev, hs⟩ := q_cal hs
      refine q_callV (pc := 84) (q := 72) (As := [.int a1]) (rest := []) (rs := [.int v9]) hx hb hml hl.1 hts hown hK hSt hN hw (c_X11_doesStop l G a1 h7 v9 ev) rfl rfl cv_X11_108 (rm_ok hR (by decide)) rfl (Nat.le_of_ble_eq_true rfl) rfl rfl dX11_comesInto_84 (fun H locs hw => ?_)
      exact q_zretW hret dX11_comesInto_87 hw hs
    · intro K8 hK8 hs
      refine lv_if_eq (pc := 47) (tgt := 82) hx hb dX11_comesInto_47 (by decide) (fun hc => ?_) (fun hc => ?_)
      · replace hs := q_t hc hs
        exact hK8 _ hs _ _ hw _ (lv_sub hl [0, 1] rfl)
      · replace hs := q_f hc hs
        refine lv_aload_n (pc := 50) hx hb dX11_comesInto_50 rfl (lv_at hl 0 rfl) ?_
        refine lv_aload_n (pc := 51) hx hb dX11_comesInto_51 rfl (lv_at hl 0 rfl) ?_
        refine q_getI (pc := 52) (q := 72) hx hb hts hown hK hw rfl fg_X11_147 dX11_comesInto_52 ?_
        refine lv_aload_n (pc := 55) hx hb dX11_comesInto_55 rfl (lv_at hl 0 rfl) ?_
        refine lv_iload_n (pc := 56) hx hb dX11_comesInto_56 rfl (lv_at hl 1 rfl) ?_
        refine lv_iconst (pc := 57) (v := (iI 2)) hx hb dX11_comesInto_57 rfl ?_
        obtain ⟨v10, ev, hs⟩ := q_cal hs
        refine q_callV (pc := 58) (q := 72) (As := [.int a1, .int (iI 2)]) (rest := [.int (gI h5 72 9), .ref (G.2.2.1 72)]) (rs := [.int v10, .int (gI h5 72 9), .ref (G.2.2.1 72)]) hx hb hml hl.1 hts hown hK hSt hN hw (c_X11_its l G a1 (iI 2) h5 v10 ev) rfl rfl cv_X11_87 (rm_ok hR (by decide)) rfl (Nat.le_of_ble_eq_true rfl) rfl rfl dX11_comesInto_58 (fun H locs hw => ?_)
        obtain ⟨v11, ev, hs⟩ := q_cal hs
        refine q_callS (pc := 61) (As := [.int (gI h5 72 9), .int v10]) (rest := [.ref (G.2.2.1 72)]) (rs := [.int v11, .ref (G.2.2.1 72)]) hx hb hml hl.1 hts hown hK hSt hN hw (c_X11_thrown l G (gI h5 72 9) v10 h5 v11 ev) cs_X11_150 (rm_ok hR (by decide)) rfl (Nat.le_of_ble_eq_true rfl) rfl rfl dX11_comesInto_61 (fun H locs hw => ?_)
        refine q_putI (pc := 64) (q := 72) hx hb hts hown hK hw rfl fp_X11_147 dX11_comesInto_64 hs (fun h12 H locs hw hs => ?_)
        refine lv_aload_n (pc := 67) hx hb dX11_comesInto_67 rfl (lv_at hl 0 rfl) ?_
        refine lv_dup (pc := 68) hx hb dX11_comesInto_68 rfl ?_
        refine q_getI (pc := 69) (q := 72) hx hb hts hown hK hw rfl fg_X11_138 dX11_comesInto_69 ?_
        refine lv_iconst (pc := 72) (v := (iI 1)) hx hb dX11_comesInto_72 rfl ?_
        refine lv_iadd (pc := 73) hx hb dX11_comesInto_73 ?_
        refine q_putI (pc := 74) (q := 72) hx hb hts hown hK hw rfl fp_X11_138 dX11_comesInto_74 hs (fun h13 H locs hw hs => ?_)
        refine lv_aload_n (pc := 77) hx hb dX11_comesInto_77 rfl (lv_at hl 0 rfl) ?_
        refine lv_iload_n (pc := 78) hx hb dX11_comesInto_78 rfl (lv_at hl 1 rfl) ?_
        obtain ⟨h14, ev, hs⟩ := q_cal hs
        refine q_callV (pc := 79) (q := 72) (As := [.int a1]) (rest := []) (rs := []) hx hb hml hl.1 hts hown hK hSt hN hw (c_X11_turns l G a1 h13 h14 ev) rfl rfl cv_X11_153 (rm_ok hR (by decide)) rfl (Nat.le_of_ble_eq_true rfl) rfl rfl dX11_comesInto_79 (fun H locs hw => ?_)
        exact hK8 _ hs _ _ hw _ (lv_sub hl [0, 1] rfl)
  · intro K4 hK4 hs
    refine lv_icmp_ge (pc := 22) (tgt := 36) hx hb dX11_comesInto_22 (by decide) (fun hc => ?_) (fun hc => ?_)
    · replace hs := q_t hc hs
      refine lv_sipush (pc := 36) (v := (iI 9999)) hx hb dX11_comesInto_36 (by decide) ?_
      exact hK4 _ hs _ _ hw _ (lv_sub hl [0, 1] rfl)
    · replace hs := q_f hc hs
      refine lv_aload_n (pc := 25) hx hb dX11_comesInto_25 rfl (lv_at hl 0 rfl) ?_
      refine lv_iload_n (pc := 26) hx hb dX11_comesInto_26 rfl (lv_at hl 1 rfl) ?_
      refine lv_iconst (pc := 27) (v := (iI 4)) hx hb dX11_comesInto_27 rfl ?_
      obtain ⟨v15, ev, hs⟩ := q_cal hs
      refine q_callV (pc := 28) (q := 72) (As := [.int a1, .int (iI 4)]) (rest := [.int (iI 4), .int a1, .ref (G.2.2.1 72)]) (rs := [.int v15, .int (iI 4), .int a1, .ref (G.2.2.1 72)]) hx hb hml hl.1 hts hown hK hSt hN hw (c_X11_its l G a1 (iI 4) h1 v15 ev) rfl rfl cv_X11_87 (rm_ok hR (by decide)) rfl (Nat.le_of_ble_eq_true rfl) rfl rfl dX11_comesInto_28 (fun H locs hw => ?_)
      refine lv_iconst (pc := 31) (v := (iI 1)) hx hb dX11_comesInto_31 rfl ?_
      refine lv_iadd (pc := 32) hx hb dX11_comesInto_32 ?_
      refine lv_goto (pc := 33) (tgt := 39) hx hb dX11_comesInto_33 (by decide) ?_
      exact hK4 _ hs _ _ hw _ (lv_sub hl [0, 1] rfl)

set_option maxHeartbeats 4000000 in
set_option maxRecDepth 100000 in
theorem c_X11_goes (l : Launch) (G : GG) (a1 : Int32) (h : Mem) (v : Int32) (h' : Mem) (hs : f_X11_goes h a1 = some (v, h')) : Sat l G yX11_goes cX11_goes 4 (some .int) 4 [.ref (G.2.2.1 72), .int a1] h (some (.int v)) h' := by
  refine Sat.mkI (by decide) (Nat.le_of_ble_eq_true rfl) ?_
  intro p e R s m args below meth c Q F hret hw ls hl
  obtain ⟨hx, hb, hml, hown, hts, hK, hSt, hN, hR⟩ := F
  have hl : lv_has ls 4 [(0, .ref (G.2.2.1 72)), (1, .int a1)] := hl
  unfold f_X11_goes at hs
  refine lv_aload_n (pc := 0) hx hb dX11_goes_0 rfl (lv_at hl 0 rfl) ?_
  refine lv_iload_n (pc := 1) hx hb dX11_goes_1 rfl (lv_at hl 1 rfl) ?_
  obtain ⟨h1, ev, hs⟩ := q_cal hs
  refine q_callV (pc := 2) (q := 72) (As := [.int a1]) (rest := []) (rs := []) hx hb hml hl.1 hts hown hK hSt hN hw (c_X11_enters l G a1 h h1 ev) rfl rfl cv_X11_156 (rm_ok hR (by decide)) rfl (Nat.le_of_ble_eq_true rfl) rfl rfl dX11_goes_2 (fun H locs hw => ?_)
  refine lv_aload_n (pc := 5) hx hb dX11_goes_5 rfl (lv_at hl 0 rfl) ?_
  refine lv_iconst (pc := 6) (v := (iI 0)) hx hb dX11_goes_6 rfl ?_
  refine q_putZ (pc := 7) (q := 72) hx hb hts hown hK hw rfl fp_X11_159 dX11_goes_7 hs (fun h2 H locs hw hs => ?_)
  refine lv_aload_n (pc := 10) hx hb dX11_goes_10 rfl (lv_at hl 0 rfl) ?_
  refine lv_iconst (pc := 11) (v := (iI (-1))) hx hb dX11_goes_11 rfl ?_
  refine q_putI (pc := 12) (q := 72) hx hb hts hown hK hw rfl fp_X11_163 dX11_goes_12 hs (fun h3 H locs hw hs => ?_)
  refine lv_iconst (pc := 15) (v := (iI 0)) hx hb dX11_goes_15 rfl ?_
  refine lv_istore_n (pc := 16) (lv' := [(2, .int (iI 0)), (0, .ref (G.2.2.1 72)), (1, .int a1)]) hx hb dX11_goes_16 rfl hl (by decide) rfl (fun ls hl => ?_)
  refine (q_lo2 (P0 := fun (x4 : Int32) (h5 : Mem) => ∀ (H : Heap) (locs : List Loc), IW G s h5 H locs → ∀ ls : Array Slot, lv_has ls 4 [(0, .ref (G.2.2.1 72)), (2, .int x4)] → W p l e R s m args below meth c H locs 0 0 Q (F0 m 17 ls [])) hs ?_) _ _ hw _ (lv_sub hl [1, 0] rfl)
  intro K6 hK6 x4 h5 hs H locs hw ls hl
  unfold f_X11_goes_k6 at hs
  refine lv_iload_n (pc := 17) hx hb dX11_goes_17 rfl (lv_at hl 1 rfl) ?_
  refine q_join0 (P0 := ∀ (H : Heap) (locs : List Loc), IW G s h5 H locs → ∀ ls : Array Slot, lv_has ls 4 [(0, .ref (G.2.2.1 72)), (2, .int x4)] → W p l e R s m args below meth c H locs 0 0 Q (F0 m 129 ls [])) hs ?_ ?_
  · intro  hs H locs hw ls hl
    refine lv_iload_n (pc := 129) hx hb dX11_goes_129 rfl (lv_at hl 1 rfl) ?_
    refine lv_if_eq (pc := 130) (tgt := 138) hx hb dX11_goes_130 (by decide) (fun hc => ?_) (fun hc => ?_)
    · replace hs := q_t hc hs
      refine lv_aload_n (pc := 138) hx hb dX11_goes_138 rfl (lv_at hl 0 rfl) ?_
      obtain ⟨v8, ev, hs⟩ := q_cal hs
      refine q_callV (pc := 139) (q := 72) (As := []) (rest := []) (rs := [.int v8]) hx hb hml hl.1 hts hown hK hSt hN hw (c_X11_windowThere l G h5 v8 ev) rfl rfl cv_X11_176 (rm_ok hR (by decide)) rfl (Nat.le_of_ble_eq_true rfl) rfl rfl dX11_goes_139 (fun H locs hw => ?_)
      exact q_iretW hret dX11_goes_142 hw hs
    · replace hs := q_f hc hs
      refine lv_bipush (pc := 133) (v := (iI 100)) hx hb dX11_goes_133 (by decide) ?_
      refine lv_goto (pc := 135) (tgt := 142) hx hb dX11_goes_135 (by decide) ?_
      exact q_iretW hret dX11_goes_142 hw hs
  · intro K7 hK7 hs
    refine lv_if_ne (pc := 18) (tgt := 129) hx hb dX11_goes_18 (by decide) (fun hc => ?_) (fun hc => ?_)
    · replace hs := q_t hc hs
      exact hK7 hs _ _ hw _ (lv_sub hl [0, 1] rfl)
    · replace hs := q_f (fun z => z hc) hs
      refine lv_aload_n (pc := 21) hx hb dX11_goes_21 rfl (lv_at hl 0 rfl) ?_
      obtain ⟨v9, ev, hs⟩ := q_cal hs
      refine q_callV (pc := 22) (q := 72) (As := []) (rest := []) (rs := [.int v9]) hx hb hml hl.1 hts hown hK hSt hN hw (c_X11_isOut l G h5 v9 ev) rfl rfl cv_X11_166 (rm_ok hR (by decide)) rfl (Nat.le_of_ble_eq_true rfl) rfl rfl dX11_goes_22 (fun H locs hw => ?_)
      refine lv_if_ne (pc := 25) (tgt := 129) hx hb dX11_goes_25 (by decide) (fun hc => ?_) (fun hc => ?_)
      · replace hs := q_t hc hs
        exact hK7 hs _ _ hw _ (lv_sub hl [0, 1] rfl)
      · replace hs := q_f (fun z => z hc) hs
        refine lv_aload_n (pc := 28) hx hb dX11_goes_28 rfl (lv_at hl 0 rfl) ?_
        refine q_getI (pc := 29) (q := 72) hx hb hts hown hK hw rfl fg_X11_135 dX11_goes_29 ?_
        refine lv_sipush (pc := 32) (v := (iI 5000)) hx hb dX11_goes_32 (by decide) ?_
        refine q_join1 (P0 := fun (x10 : Int32) => ∀ (H : Heap) (locs : List Loc), IW G s h5 H locs → ∀ ls : Array Slot, lv_has ls 4 [(0, .ref (G.2.2.1 72))] → W p l e R s m args below meth c H locs 0 0 Q (F0 m 43 ls [.int x10])) hs ?_ ?_
        · intro x10 hs H locs hw ls hl
          unfold f_X11_goes_k11 at hs
          refine lv_istore_n (pc := 43) (lv' := [(2, .int x10), (0, .ref (G.2.2.1 72))]) hx hb dX11_goes_43 rfl hl (by decide) rfl (fun ls hl => ?_)
          refine lv_iload_n (pc := 44) hx hb dX11_goes_44 rfl (lv_at hl 0 rfl) ?_
          refine q_join2 (P0 := fun (x12 : Int32) (h13 : Mem) => ∀ (H : Heap) (locs : List Loc), IW G s h13 H locs → ∀ ls : Array Slot, lv_has ls 4 [(0, .ref (G.2.2.1 72)), (2, .int x12)] → W p l e R s m args below meth c H locs 0 0 Q (F0 m 118 ls [])) hs ?_ ?_
          · intro x12 h13 hs H locs hw ls hl
            refine lv_iload_n (pc := 118) hx hb dX11_goes_118 rfl (lv_at hl 1 rfl) ?_
            refine lv_if_ne (pc := 119) (tgt := 17) hx hb dX11_goes_119 (by decide) (fun hc => ?_) (fun hc => ?_)
            · replace hs := q_t hc hs
              exact hK6 _ _ hs _ _ hw _ (lv_sub hl [0, 1] rfl)
            · replace hs := q_f (fun z => z hc) hs
              refine lv_aload_n (pc := 122) hx hb dX11_goes_122 rfl (lv_at hl 0 rfl) ?_
              obtain ⟨h15, ev, hs⟩ := q_cal hs
              refine q_callV (pc := 123) (q := 72) (As := []) (rest := []) (rs := []) hx hb hml hl.1 hts hown hK hSt hN hw (c_X11_goesOn l G h13 h15 ev) rfl rfl cv_X11_173 (rm_ok hR (by decide)) rfl (Nat.le_of_ble_eq_true rfl) rfl rfl dX11_goes_123 (fun H locs hw => ?_)
              refine lv_goto (pc := 126) (tgt := 17) hx hb dX11_goes_126 (by decide) ?_
              exact hK6 _ _ hs _ _ hw _ (lv_sub hl [0, 1] rfl)
          · intro K14 hK14 hs
            refine lv_if_ne (pc := 45) (tgt := 118) hx hb dX11_goes_45 (by decide) (fun hc => ?_) (fun hc => ?_)
            · replace hs := q_t hc hs
              exact hK14 _ _ hs _ _ hw _ (lv_sub hl [1, 0] rfl)
            · replace hs := q_f (fun z => z hc) hs
              refine lv_aload_n (pc := 48) hx hb dX11_goes_48 rfl (lv_at hl 1 rfl) ?_
              refine q_getR (pc := 49) (q := 72) (o := 1) hx hb hts hown hK hw rfl fg_X11_7 dX11_goes_49 ?_
              refine lv_iconst (pc := 52) (v := (iI 1)) hx hb dX11_goes_52 rfl ?_
              refine q_ald (pc := 53) (q := 73) (n := 305) hx hb hK hw rfl dX11_goes_53 hs (fun v16 hs => ?_)
              refine lv_aload_n (pc := 54) hx hb dX11_goes_54 rfl (lv_at hl 1 rfl) ?_
              refine q_getI (pc := 55) (q := 72) hx hb hts hown hK hw rfl fg_X11_141 dX11_goes_55 ?_
              refine lv_imul (pc := 58) hx hb dX11_goes_58 ?_
              refine lv_aload_n (pc := 59) hx hb dX11_goes_59 rfl (lv_at hl 1 rfl) ?_
              refine q_getI (pc := 60) (q := 72) hx hb hts hown hK hw rfl fg_X11_144 dX11_goes_60 ?_
              refine lv_iadd (pc := 63) hx hb dX11_goes_63 ?_
              obtain ⟨x17, ex17, hs⟩ := q_nm hs
              refine q_topI ex17 ?_
              refine lv_istore_n (pc := 64) (lv' := [(3, .int x17), (2, .int x10), (0, .ref (G.2.2.1 72))]) hx hb dX11_goes_64 rfl hl (by decide) rfl (fun ls hl => ?_)
              refine lv_aload_n (pc := 65) hx hb dX11_goes_65 rfl (lv_at hl 2 rfl) ?_
              refine lv_aload_n (pc := 66) hx hb dX11_goes_66 rfl (lv_at hl 2 rfl) ?_
              refine q_getI (pc := 67) (q := 72) hx hb hts hown hK hw rfl fg_X11_159 dX11_goes_67 ?_
              refine q_join1 (P0 := fun (x18 : Int32) => ∀ (H : Heap) (locs : List Loc), IW G s h5 H locs → ∀ ls : Array Slot, lv_has ls 4 [(0, .ref (G.2.2.1 72)), (3, .int x17)] → W p l e R s m args below meth c H locs 0 0 Q (F0 m 86 ls [.int x18, .ref (G.2.2.1 72)])) hs ?_ ?_
              · intro x18 hs H locs hw ls hl
                unfold f_X11_goes_k19 at hs
                refine q_putZ (pc := 86) (q := 72) hx hb hts hown hK hw rfl fp_X11_159 dX11_goes_86 hs (fun h20 H locs hw hs => ?_)
                refine lv_aload_n (pc := 89) hx hb dX11_goes_89 rfl (lv_at hl 0 rfl) ?_
                refine lv_aload_n (pc := 90) hx hb dX11_goes_90 rfl (lv_at hl 0 rfl) ?_
                refine q_getI (pc := 91) (q := 72) hx hb hts hown hK hw rfl fg_X11_135 dX11_goes_91 ?_
                refine lv_aload_n (pc := 94) hx hb dX11_goes_94 rfl (lv_at hl 0 rfl) ?_
                refine q_getI (pc := 95) (q := 72) hx hb hts hown hK hw rfl fg_X11_29 dX11_goes_95 ?_
                refine q_join1 (P0 := fun (x21 : Int32) => ∀ (H : Heap) (locs : List Loc), IW G s h20 H locs → ∀ ls : Array Slot, lv_has ls 4 [(0, .ref (G.2.2.1 72)), (3, .int x17)] → W p l e R s m args below meth c H locs 0 0 Q (F0 m 109 ls [.int x21, .ref (G.2.2.1 72)])) hs ?_ ?_
                · intro x21 hs H locs hw ls hl
                  refine q_putI (pc := 109) (q := 72) hx hb hts hown hK hw rfl fp_X11_163 dX11_goes_109 hs (fun h23 H locs hw hs => ?_)
                  refine lv_aload_n (pc := 112) hx hb dX11_goes_112 rfl (lv_at hl 0 rfl) ?_
                  refine lv_iload_n (pc := 113) hx hb dX11_goes_113 rfl (lv_at hl 1 rfl) ?_
                  obtain ⟨v24, h25, ev, hs⟩ := q_cal2 hs
                  refine q_callV (pc := 114) (q := 72) (As := [.int x17]) (rest := []) (rs := [.int v24]) hx hb hml hl.1 hts hown hK hSt hN hw (c_X11_comesInto l G x17 h23 v24 h25 ev) rfl rfl cv_X11_170 (rm_ok hR (by decide)) rfl (Nat.le_of_ble_eq_true rfl) rfl rfl dX11_goes_114 (fun H locs hw => ?_)
                  refine lv_istore_n (pc := 117) (lv' := [(2, .int v24), (0, .ref (G.2.2.1 72)), (3, .int x17)]) hx hb dX11_goes_117 rfl hl (by decide) rfl (fun ls hl => ?_)
                  exact hK14 _ _ hs _ _ hw _ (lv_sub hl [1, 0] rfl)
                · intro K22 hK22 hs
                  refine lv_icmp_ne (pc := 98) (tgt := 105) hx hb dX11_goes_98 (by decide) (fun hc => ?_) (fun hc => ?_)
                  · replace hs := q_t hc hs
                    refine lv_aload_n (pc := 105) hx hb dX11_goes_105 rfl (lv_at hl 0 rfl) ?_
                    refine q_getI (pc := 106) (q := 72) hx hb hts hown hK hw rfl fg_X11_163 dX11_goes_106 ?_
                    exact hK22 _ hs _ _ hw _ (lv_sub hl [0, 1] rfl)
                  · replace hs := q_f (fun z => z hc) hs
                    refine lv_iload_n (pc := 101) hx hb dX11_goes_101 rfl (lv_at hl 1 rfl) ?_
                    refine lv_goto (pc := 102) (tgt := 109) hx hb dX11_goes_102 (by decide) ?_
                    exact hK22 _ hs _ _ hw _ (lv_sub hl [0, 1] rfl)
              · intro K19 hK19 hs
                refine q_join0 (P0 := ∀ (H : Heap) (locs : List Loc), IW G s h5 H locs → ∀ ls : Array Slot, lv_has ls 4 [(0, .ref (G.2.2.1 72)), (3, .int x17)] → W p l e R s m args below meth c H locs 0 0 Q (F0 m 81 ls [.ref (G.2.2.1 72)])) hs ?_ ?_
                · intro  hs H locs hw ls hl
                  refine lv_iconst (pc := 81) (v := (iI 1)) hx hb dX11_goes_81 rfl ?_
                  refine lv_goto (pc := 82) (tgt := 86) hx hb dX11_goes_82 (by decide) ?_
                  exact hK19 _ hs _ _ hw _ (lv_sub hl [0, 1] rfl)
                · intro K26 hK26 hs
                  refine lv_if_ne (pc := 70) (tgt := 81) hx hb dX11_goes_70 (by decide) (fun hc => ?_) (fun hc => ?_)
                  · replace hs := q_t hc hs
                    exact hK26 hs _ _ hw _ (lv_sub hl [2, 0] rfl)
                  · replace hs := q_f (fun z => z hc) hs
                    refine lv_iload_n (pc := 73) hx hb dX11_goes_73 rfl (lv_at hl 0 rfl) ?_
                    refine lv_aload_n (pc := 74) hx hb dX11_goes_74 rfl (lv_at hl 2 rfl) ?_
                    refine q_getI (pc := 75) (q := 72) hx hb hts hown hK hw rfl fg_X11_25 dX11_goes_75 ?_
                    refine lv_icmp_ne (pc := 78) (tgt := 85) hx hb dX11_goes_78 (by decide) (fun hc => ?_) (fun hc => ?_)
                    · replace hs := q_t hc hs
                      refine lv_iconst (pc := 85) (v := (iI 0)) hx hb dX11_goes_85 rfl ?_
                      exact hK19 _ hs _ _ hw _ (lv_sub hl [2, 0] rfl)
                    · replace hs := q_f (fun z => z hc) hs
                      exact hK26 hs _ _ hw _ (lv_sub hl [2, 0] rfl)
        · intro K11 hK11 hs
          refine lv_icmp_ne (pc := 35) (tgt := 42) hx hb dX11_goes_35 (by decide) (fun hc => ?_) (fun hc => ?_)
          · replace hs := q_t hc hs
            refine lv_iconst (pc := 42) (v := (iI 0)) hx hb dX11_goes_42 rfl ?_
            exact hK11 _ hs _ _ hw _ (lv_sub hl [0] rfl)
          · replace hs := q_f (fun z => z hc) hs
            refine lv_iconst (pc := 38) (v := (iI 1)) hx hb dX11_goes_38 rfl ?_
            refine lv_goto (pc := 39) (tgt := 43) hx hb dX11_goes_39 (by decide) ?_
            exact hK11 _ hs _ _ hw _ (lv_sub hl [0] rfl)

set_option maxHeartbeats 4000000 in
theorem c_X11_bits (l : Launch) (G : GG) (a0 : Int32) (h : Mem) (v : Int32)  (hs : f_X11_bits h a0 = some v) : Sat l G yX11_bits cX11_bits 3 (some .int) 0 [.int a0] h (some (.int v)) h := by
  refine Sat.mkI (by decide) (Nat.le_of_ble_eq_true rfl) ?_
  intro p e R s m args below meth c Q F hret hw ls hl
  obtain ⟨hx, hb, hml, hown, hts, hK, hSt, hN, hR⟩ := F
  have hl : lv_has ls 3 [(0, .int a0)] := hl
  unfold f_X11_bits at hs
  refine lv_iconst (pc := 0) (v := (iI 0)) hx hb dX11_bits_0 rfl ?_
  refine lv_istore_n (pc := 1) (lv' := [(1, .int (iI 0)), (0, .int a0)]) hx hb dX11_bits_1 rfl hl (by decide) rfl (fun ls hl => ?_)
  refine lv_iconst (pc := 2) (v := (iI 0)) hx hb dX11_bits_2 rfl ?_
  refine lv_istore_n (pc := 3) (lv' := [(2, .int (iI 0)), (1, .int (iI 0)), (0, .int a0)]) hx hb dX11_bits_3 rfl hl (by decide) rfl (fun ls hl => ?_)
  refine (q_lo2 (P0 := fun (x1 : Int32) (x2 : Int32) => ∀ (H : Heap) (locs : List Loc), IW G s h H locs → ∀ ls : Array Slot, lv_has ls 3 [(0, .int a0), (1, .int x1), (2, .int x2)] → W p l e R s m args below meth c H locs 0 0 Q (F0 m 4 ls [])) hs ?_) _ _ hw _ (lv_sub hl [2, 1, 0] rfl)
  intro K3 hK3 x1 x2 hs H locs hw ls hl
  unfold f_X11_bits_k3 at hs
  refine lv_iload_n (pc := 4) hx hb dX11_bits_4 rfl (lv_at hl 2 rfl) ?_
  refine lv_bipush (pc := 5) (v := (iI 25)) hx hb dX11_bits_5 (by decide) ?_
  refine lv_icmp_ge (pc := 7) (tgt := 24) hx hb dX11_bits_7 (by decide) (fun hc => ?_) (fun hc => ?_)
  · replace hs := q_t hc hs
    refine lv_iload_n (pc := 24) hx hb dX11_bits_24 rfl (lv_at hl 1 rfl) ?_
    exact q_iret hret dX11_bits_25 hw hs
  · replace hs := q_f hc hs
    refine lv_iload_n (pc := 10) hx hb dX11_bits_10 rfl (lv_at hl 1 rfl) ?_
    refine lv_iload_n (pc := 11) hx hb dX11_bits_11 rfl (lv_at hl 0 rfl) ?_
    refine lv_iload_n (pc := 12) hx hb dX11_bits_12 rfl (lv_at hl 2 rfl) ?_
    refine q_ishr (pc := 13) hx hb dX11_bits_13 ?_
    refine lv_iconst (pc := 14) (v := (iI 1)) hx hb dX11_bits_14 rfl ?_
    refine lv_iand (pc := 15) hx hb dX11_bits_15 ?_
    refine lv_iadd (pc := 16) hx hb dX11_bits_16 ?_
    obtain ⟨x4, ex4, hs⟩ := q_nm hs
    refine q_topI ex4 ?_
    refine lv_istore_n (pc := 17) (lv' := [(1, .int x4), (0, .int a0), (2, .int x2)]) hx hb dX11_bits_17 rfl hl (by decide) rfl (fun ls hl => ?_)
    obtain ⟨x5, ex5, hs⟩ := q_nm hs
    refine lv_iinc (pc := 18) (v := x5) (lv' := [(2, .int x5), (1, .int x4), (0, .int a0)]) hx hb dX11_bits_18 hl (k := 2) rfl ex5 (by decide) rfl (fun ls hl => ?_)
    refine lv_goto (pc := 21) (tgt := 4) hx hb dX11_bits_21 (by decide) ?_
    exact hK3 _ _ hs _ _ hw _ (lv_sub hl [2, 1, 0] rfl)

set_option maxHeartbeats 4000000 in
theorem c_X11_out (l : Launch) (G : GG) (a1 : Int32) (a2 : Int32) (h : Mem) (v : Int32) (h' : Mem) (hs : f_X11_out h a1 a2 = some (v, h')) : Sat l G yX11_out cX11_out 6 (some .int) 5 [.ref (G.2.2.1 72), .int a1, .int a2] h (some (.int v)) h' := by
  refine Sat.mkI (by decide) (Nat.le_of_ble_eq_true rfl) ?_
  intro p e R s m args below meth c Q F hret hw ls hl
  obtain ⟨hx, hb, hml, hown, hts, hK, hSt, hN, hR⟩ := F
  have hl : lv_has ls 6 [(0, .ref (G.2.2.1 72)), (1, .int a1), (2, .int a2)] := hl
  unfold f_X11_out at hs
  refine lv_aload_n (pc := 0) hx hb dX11_out_0 rfl (lv_at hl 0 rfl) ?_
  refine lv_iload_n (pc := 1) hx hb dX11_out_1 rfl (lv_at hl 1 rfl) ?_
  obtain ⟨v1, ev, hs⟩ := q_cal hs
  refine q_callV (pc := 2) (q := 72) (As := [.int a1]) (rest := []) (rs := [.int v1]) hx hb hml hl.1 hts hown hK hSt hN hw (c_X11_isWindow l G a1 h v1 ev) rfl rfl cv_X11_182 (rm_ok hR (by decide)) rfl (Nat.le_of_ble_eq_true rfl) rfl rfl dX11_out_2 (fun H locs hw => ?_)
  refine q_join0 (P0 := ∀ (H : Heap) (locs : List Loc), IW G s h H locs → ∀ ls : Array Slot, lv_has ls 6 [(0, .ref (G.2.2.1 72))] → W p l e R s m args below meth c H locs 0 0 Q (F0 m 17 ls [])) hs ?_ ?_
  · intro  hs H locs hw ls hl
    refine lv_aload_n (pc := 17) hx hb dX11_out_17 rfl (lv_at hl 0 rfl) ?_
    refine lv_ldc (pc := 18) (v := (iI (-1000000001))) hx hb hown (hts _ ki_X11_78) dX11_out_18 ?_
    obtain ⟨v3, h4, ev, hs⟩ := q_cal2 hs
    refine q_callV (pc := 20) (q := 72) (As := [.int (iI (-1000000001))]) (rest := []) (rs := [.int v3]) hx hb hml hl.1 hts hown hK hSt hN hw (c_X11_errs l G (iI (-1000000001)) h v3 h4 ev) rfl rfl cv_X11_79 (rm_ok hR (by decide)) rfl (Nat.le_of_ble_eq_true rfl) rfl rfl dX11_out_20 (fun H locs hw => ?_)
    exact q_iretW hret dX11_out_23 hw hs
  · intro K2 hK2 hs
    refine lv_if_eq (pc := 5) (tgt := 17) hx hb dX11_out_5 (by decide) (fun hc => ?_) (fun hc => ?_)
    · replace hs := q_t hc hs
      exact hK2 hs _ _ hw _ (lv_sub hl [0] rfl)
    · replace hs := q_f hc hs
      refine lv_iload_n (pc := 8) hx hb dX11_out_8 rfl (lv_at hl 2 rfl) ?_
      refine lv_iconst (pc := 9) (v := (iI 0)) hx hb dX11_out_9 rfl ?_
      refine lv_iconst (pc := 10) (v := (iI 3)) hx hb dX11_out_10 rfl ?_
      obtain ⟨v5, ev, hs⟩ := q_cal hs
      refine q_callS (pc := 11) (As := [.int a2, .int (iI 0), .int (iI 3)]) (rest := []) (rs := [.int v5]) hx hb hml hl.1 hts hown hK hSt hN hw (c_X11_in l G a2 (iI 0) (iI 3) h v5 ev) cs_X11_71 (rm_ok hR (by decide)) rfl (Nat.le_of_ble_eq_true rfl) rfl rfl dX11_out_11 (fun H locs hw => ?_)
      refine lv_if_ne (pc := 14) (tgt := 24) hx hb dX11_out_14 (by decide) (fun hc => ?_) (fun hc => ?_)
      · replace hs := q_t hc hs
        refine lv_aload_n (pc := 24) hx hb dX11_out_24 rfl (lv_at hl 0 rfl) ?_
        refine lv_aload_n (pc := 25) hx hb dX11_out_25 rfl (lv_at hl 0 rfl) ?_
        refine q_getR (pc := 26) (q := 72) (o := 1) hx hb hts hown hK hw rfl fg_X11_7 dX11_out_26 ?_
        refine lv_aload_n (pc := 29) hx hb dX11_out_29 rfl (lv_at hl 0 rfl) ?_
        refine q_getR (pc := 30) (q := 72) (o := 3) hx hb hts hown hK hw rfl fg_X11_16 dX11_out_30 ?_
        obtain ⟨h6, ev, hs⟩ := q_cal hs
        refine q_callV (pc := 33) (q := 72) (As := [.ref (G.2.2.1 73), .ref (G.2.2.1 75)]) (rest := []) (rs := []) hx hb hml hl.1 hts hown hK hSt hN hw (c_X11_moveAll l G 73 305 rfl 75 305 rfl h h6 ev) rfl rfl cv_X11_188 (rm_ok hR (by decide)) rfl (Nat.le_of_ble_eq_true rfl) rfl rfl dX11_out_33 (fun H locs hw => ?_)
        refine lv_aload_n (pc := 36) hx hb dX11_out_36 rfl (lv_at hl 0 rfl) ?_
        obtain ⟨v7, ev, hs⟩ := q_cal hs
        refine q_callV (pc := 37) (q := 72) (As := []) (rest := []) (rs := [.int v7]) hx hb hml hl.1 hts hown hK hSt hN hw (c_X11_slantBits l G h6 v7 ev) rfl rfl cv_X11_132 (rm_ok hR (by decide)) rfl (Nat.le_of_ble_eq_true rfl) rfl rfl dX11_out_37 (fun H locs hw => ?_)
        refine lv_istore_n (pc := 40) (lv' := [(3, .int v7), (0, .ref (G.2.2.1 72)), (1, .int a1), (2, .int a2)]) hx hb dX11_out_40 rfl hl (by decide) rfl (fun ls hl => ?_)
        refine lv_aload_n (pc := 41) hx hb dX11_out_41 rfl (lv_at hl 1 rfl) ?_
        refine lv_iload_n (pc := 42) hx hb dX11_out_42 rfl (lv_at hl 2 rfl) ?_
        obtain ⟨v8, h9, ev, hs⟩ := q_cal2 hs
        refine q_callV (pc := 43) (q := 72) (As := [.int a1]) (rest := []) (rs := [.int v8]) hx hb hml hl.1 hts hown hK hSt hN hw (c_X11_goes l G a1 h6 v8 h9 ev) rfl rfl cv_X11_179 (rm_ok hR (by decide)) rfl (Nat.le_of_ble_eq_true rfl) rfl rfl dX11_out_43 (fun H locs hw => ?_)
        refine lv_istore (pc := 46) (lv' := [(4, .int v8), (3, .int v7), (0, .ref (G.2.2.1 72)), (1, .int a1), (2, .int a2)]) hx hb dX11_out_46 hl (by decide) rfl (fun ls hl => ?_)
        refine lv_iload_n (pc := 48) hx hb dX11_out_48 rfl (lv_at hl 1 rfl) ?_
        refine lv_aload_n (pc := 49) hx hb dX11_out_49 rfl (lv_at hl 2 rfl) ?_
        obtain ⟨v10, ev, hs⟩ := q_cal hs
        refine q_callV (pc := 50) (q := 72) (As := []) (rest := [.int v7]) (rs := [.int v10, .int v7]) hx hb hml hl.1 hts hown hK hSt hN hw (c_X11_slantBits l G h9 v10 ev) rfl rfl cv_X11_132 (rm_ok hR (by decide)) rfl (Nat.le_of_ble_eq_true rfl) rfl rfl dX11_out_50 (fun H locs hw => ?_)
        refine lv_ixor (pc := 53) hx hb dX11_out_53 ?_
        obtain ⟨v11, ev, hs⟩ := q_cal hs
        refine q_callS (pc := 54) (As := [.int (v7 ^^^ v10)]) (rest := []) (rs := [.int v11]) hx hb hml hl.1 hts hown hK hSt hN hw (c_X11_bits l G (v7 ^^^ v10) h9 v11 ev) cs_X11_192 (rm_ok hR (by decide)) rfl (Nat.le_of_ble_eq_true rfl) rfl rfl dX11_out_54 (fun H locs hw => ?_)
        refine lv_istore (pc := 57) (lv' := [(5, .int v11), (4, .int v8), (3, .int v7), (0, .ref (G.2.2.1 72)), (1, .int a1), (2, .int a2)]) hx hb dX11_out_57 hl (by decide) rfl (fun ls hl => ?_)
        refine lv_aload_n (pc := 59) hx hb dX11_out_59 rfl (lv_at hl 3 rfl) ?_
        refine lv_aload_n (pc := 60) hx hb dX11_out_60 rfl (lv_at hl 3 rfl) ?_
        refine q_getR (pc := 61) (q := 72) (o := 3) hx hb hts hown hK hw rfl fg_X11_16 dX11_out_61 ?_
        refine lv_aload_n (pc := 64) hx hb dX11_out_64 rfl (lv_at hl 3 rfl) ?_
        refine q_getR (pc := 65) (q := 72) (o := 1) hx hb hts hown hK hw rfl fg_X11_7 dX11_out_65 ?_
        obtain ⟨h12, ev, hs⟩ := q_cal hs
        refine q_callV (pc := 68) (q := 72) (As := [.ref (G.2.2.1 75), .ref (G.2.2.1 73)]) (rest := []) (rs := []) hx hb hml hl.1 hts hown hK hSt hN hw (c_X11_moveAll l G 75 305 rfl 73 305 rfl h9 h12 ev) rfl rfl cv_X11_188 (rm_ok hR (by decide)) rfl (Nat.le_of_ble_eq_true rfl) rfl rfl dX11_out_68 (fun H locs hw => ?_)
        refine lv_iload_n (pc := 71) hx hb dX11_out_71 rfl (lv_at hl 5 rfl) ?_
        refine lv_if_ne (pc := 72) (tgt := 80) hx hb dX11_out_72 (by decide) (fun hc => ?_) (fun hc => ?_)
        · replace hs := q_t hc hs
          refine lv_iload_n (pc := 80) hx hb dX11_out_80 rfl (lv_at hl 5 rfl) ?_
          refine lv_iconst (pc := 81) (v := (iI 1)) hx hb dX11_out_81 rfl ?_
          refine lv_icmp_ne (pc := 82) (tgt := 92) hx hb dX11_out_82 (by decide) (fun hc => ?_) (fun hc => ?_)
          · replace hs := q_t hc hs
            refine lv_iload_n (pc := 92) hx hb dX11_out_92 rfl (lv_at hl 5 rfl) ?_
            refine lv_iconst (pc := 93) (v := (iI 2)) hx hb dX11_out_93 rfl ?_
            refine lv_icmp_ne (pc := 94) (tgt := 104) hx hb dX11_out_94 (by decide) (fun hc => ?_) (fun hc => ?_)
            · replace hs := q_t hc hs
              refine lv_iload (pc := 104) hx hb dX11_out_104 (lv_at hl 0 rfl) ?_
              exact q_iretW hret dX11_out_106 hw hs
            · replace hs := q_f (fun z => z hc) hs
              refine lv_aload_n (pc := 97) hx hb dX11_out_97 rfl (lv_at hl 3 rfl) ?_
              refine q_getI (pc := 98) (q := 72) hx hb hts hown hK hw rfl fg_X11_138 dX11_out_98 ?_
              refine lv_goto (pc := 101) (tgt := 106) hx hb dX11_out_101 (by decide) ?_
              exact q_iretW hret dX11_out_106 hw hs
          · replace hs := q_f (fun z => z hc) hs
            refine lv_aload_n (pc := 85) hx hb dX11_out_85 rfl (lv_at hl 3 rfl) ?_
            refine q_getI (pc := 86) (q := 72) hx hb hts hown hK hw rfl fg_X11_135 dX11_out_86 ?_
            refine lv_goto (pc := 89) (tgt := 106) hx hb dX11_out_89 (by decide) ?_
            exact q_iretW hret dX11_out_106 hw hs
        · replace hs := q_f (fun z => z hc) hs
          refine lv_iload (pc := 75) hx hb dX11_out_75 (lv_at hl 1 rfl) ?_
          refine lv_goto (pc := 77) (tgt := 106) hx hb dX11_out_77 (by decide) ?_
          exact q_iretW hret dX11_out_106 hw hs
      · replace hs := q_f (fun z => z hc) hs
        exact hK2 hs _ _ hw _ (lv_sub hl [0] rfl)

set_option maxHeartbeats 4000000 in
theorem c_X11_way (l : Launch) (G : GG) (a1 : Int32) (a2 : Int32) (h : Mem) (v : Int32) (h' : Mem) (hs : f_X11_way h a1 a2 = some (v, h')) : Sat l G yX11_way cX11_way 4 (some .int) 5 [.ref (G.2.2.1 72), .int a1, .int a2] h (some (.int v)) h' := by
  refine Sat.mkI (by decide) (Nat.le_of_ble_eq_true rfl) ?_
  intro p e R s m args below meth c Q F hret hw ls hl
  obtain ⟨hx, hb, hml, hown, hts, hK, hSt, hN, hR⟩ := F
  have hl : lv_has ls 4 [(0, .ref (G.2.2.1 72)), (1, .int a1), (2, .int a2)] := hl
  unfold f_X11_way at hs
  refine lv_aload_n (pc := 0) hx hb dX11_way_0 rfl (lv_at hl 0 rfl) ?_
  refine lv_iload_n (pc := 1) hx hb dX11_way_1 rfl (lv_at hl 1 rfl) ?_
  obtain ⟨v1, ev, hs⟩ := q_cal hs
  refine q_callV (pc := 2) (q := 72) (As := [.int a1]) (rest := []) (rs := [.int v1]) hx hb hml hl.1 hts hown hK hSt hN hw (c_X11_isWindow l G a1 h v1 ev) rfl rfl cv_X11_182 (rm_ok hR (by decide)) rfl (Nat.le_of_ble_eq_true rfl) rfl rfl dX11_way_2 (fun H locs hw => ?_)
  refine q_join0 (P0 := ∀ (H : Heap) (locs : List Loc), IW G s h H locs → ∀ ls : Array Slot, lv_has ls 4 [(0, .ref (G.2.2.1 72))] → W p l e R s m args below meth c H locs 0 0 Q (F0 m 12 ls [])) hs ?_ ?_
  · intro  hs H locs hw ls hl
    refine lv_aload_n (pc := 12) hx hb dX11_way_12 rfl (lv_at hl 0 rfl) ?_
    refine lv_ldc (pc := 13) (v := (iI (-1000000001))) hx hb hown (hts _ ki_X11_78) dX11_way_13 ?_
    obtain ⟨v3, h4, ev, hs⟩ := q_cal2 hs
    refine q_callV (pc := 15) (q := 72) (As := [.int (iI (-1000000001))]) (rest := []) (rs := [.int v3]) hx hb hml hl.1 hts hown hK hSt hN hw (c_X11_errs l G (iI (-1000000001)) h v3 h4 ev) rfl rfl cv_X11_79 (rm_ok hR (by decide)) rfl (Nat.le_of_ble_eq_true rfl) rfl rfl dX11_way_15 (fun H locs hw => ?_)
    exact q_iretW hret dX11_way_18 hw hs
  · intro K2 hK2 hs
    refine lv_if_eq (pc := 5) (tgt := 12) hx hb dX11_way_5 (by decide) (fun hc => ?_) (fun hc => ?_)
    · replace hs := q_t hc hs
      exact hK2 hs _ _ hw _ (lv_sub hl [0] rfl)
    · replace hs := q_f hc hs
      refine lv_iload_n (pc := 8) hx hb dX11_way_8 rfl (lv_at hl 2 rfl) ?_
      refine lv_if_ge (pc := 9) (tgt := 19) hx hb dX11_way_9 (by decide) (fun hc => ?_) (fun hc => ?_)
      · replace hs := q_t hc hs
        refine lv_aload_n (pc := 19) hx hb dX11_way_19 rfl (lv_at hl 0 rfl) ?_
        refine lv_aload_n (pc := 20) hx hb dX11_way_20 rfl (lv_at hl 0 rfl) ?_
        refine q_getR (pc := 21) (q := 72) (o := 1) hx hb hts hown hK hw rfl fg_X11_7 dX11_way_21 ?_
        refine lv_aload_n (pc := 24) hx hb dX11_way_24 rfl (lv_at hl 0 rfl) ?_
        refine q_getR (pc := 25) (q := 72) (o := 3) hx hb hts hown hK hw rfl fg_X11_16 dX11_way_25 ?_
        obtain ⟨h5, ev, hs⟩ := q_cal hs
        refine q_callV (pc := 28) (q := 72) (As := [.ref (G.2.2.1 73), .ref (G.2.2.1 75)]) (rest := []) (rs := []) hx hb hml hl.1 hts hown hK hSt hN hw (c_X11_moveAll l G 73 305 rfl 75 305 rfl h h5 ev) rfl rfl cv_X11_188 (rm_ok hR (by decide)) rfl (Nat.le_of_ble_eq_true rfl) rfl rfl dX11_way_28 (fun H locs hw => ?_)
        refine lv_aload_n (pc := 31) hx hb dX11_way_31 rfl (lv_at hl 0 rfl) ?_
        refine lv_iload_n (pc := 32) hx hb dX11_way_32 rfl (lv_at hl 2 rfl) ?_
        refine q_putI (pc := 33) (q := 72) hx hb hts hown hK hw rfl fp_X11_29 dX11_way_33 hs (fun h6 H locs hw hs => ?_)
        refine lv_aload_n (pc := 36) hx hb dX11_way_36 rfl (lv_at hl 0 rfl) ?_
        refine lv_iload_n (pc := 37) hx hb dX11_way_37 rfl (lv_at hl 1 rfl) ?_
        obtain ⟨v7, h8, ev, hs⟩ := q_cal2 hs
        refine q_callV (pc := 38) (q := 72) (As := [.int a1]) (rest := []) (rs := [.int v7]) hx hb hml hl.1 hts hown hK hSt hN hw (c_X11_goes l G a1 h6 v7 h8 ev) rfl rfl cv_X11_179 (rm_ok hR (by decide)) rfl (Nat.le_of_ble_eq_true rfl) rfl rfl dX11_way_38 (fun H locs hw => ?_)
        refine lv_istore_n (pc := 41) (lv' := [(3, .int v7), (0, .ref (G.2.2.1 72)), (1, .int a1), (2, .int a2)]) hx hb dX11_way_41 rfl hl (by decide) rfl (fun ls hl => ?_)
        refine lv_aload_n (pc := 42) hx hb dX11_way_42 rfl (lv_at hl 1 rfl) ?_
        refine lv_iconst (pc := 43) (v := (iI (-1))) hx hb dX11_way_43 rfl ?_
        refine q_putI (pc := 44) (q := 72) hx hb hts hown hK hw rfl fp_X11_29 dX11_way_44 hs (fun h9 H locs hw hs => ?_)
        refine lv_aload_n (pc := 47) hx hb dX11_way_47 rfl (lv_at hl 1 rfl) ?_
        refine lv_aload_n (pc := 48) hx hb dX11_way_48 rfl (lv_at hl 1 rfl) ?_
        refine q_getR (pc := 49) (q := 72) (o := 3) hx hb hts hown hK hw rfl fg_X11_16 dX11_way_49 ?_
        refine lv_aload_n (pc := 52) hx hb dX11_way_52 rfl (lv_at hl 1 rfl) ?_
        refine q_getR (pc := 53) (q := 72) (o := 1) hx hb hts hown hK hw rfl fg_X11_7 dX11_way_53 ?_
        obtain ⟨h10, ev, hs⟩ := q_cal hs
        refine q_callV (pc := 56) (q := 72) (As := [.ref (G.2.2.1 75), .ref (G.2.2.1 73)]) (rest := []) (rs := []) hx hb hml hl.1 hts hown hK hSt hN hw (c_X11_moveAll l G 75 305 rfl 73 305 rfl h9 h10 ev) rfl rfl cv_X11_188 (rm_ok hR (by decide)) rfl (Nat.le_of_ble_eq_true rfl) rfl rfl dX11_way_56 (fun H locs hw => ?_)
        refine lv_iload_n (pc := 59) hx hb dX11_way_59 rfl (lv_at hl 0 rfl) ?_
        refine q_join0 (P0 := ∀ (H : Heap) (locs : List Loc), IW G s h10 H locs → ∀ ls : Array Slot, lv_has ls 4 [(0, .ref (G.2.2.1 72))] → W p l e R s m args below meth c H locs 0 0 Q (F0 m 70 ls [])) hs ?_ ?_
        · intro  hs H locs hw ls hl
          refine lv_aload_n (pc := 70) hx hb dX11_way_70 rfl (lv_at hl 0 rfl) ?_
          refine lv_ldc (pc := 71) (v := (iI (-1000000002))) hx hb hown (hts _ ki_X11_195) dX11_way_71 ?_
          obtain ⟨v12, h13, ev, hs⟩ := q_cal2 hs
          refine q_callV (pc := 73) (q := 72) (As := [.int (iI (-1000000002))]) (rest := []) (rs := [.int v12]) hx hb hml hl.1 hts hown hK hSt hN hw (c_X11_errs l G (iI (-1000000002)) h10 v12 h13 ev) rfl rfl cv_X11_79 (rm_ok hR (by decide)) rfl (Nat.le_of_ble_eq_true rfl) rfl rfl dX11_way_73 (fun H locs hw => ?_)
          refine lv_goto (pc := 76) (tgt := 83) hx hb dX11_way_76 (by decide) ?_
          exact q_iretW hret dX11_way_83 hw hs
        · intro K11 hK11 hs
          refine lv_if_lt (pc := 60) (tgt := 70) hx hb dX11_way_60 (by decide) (fun hc => ?_) (fun hc => ?_)
          · replace hs := q_t hc hs
            exact hK11 hs _ _ hw _ (lv_sub hl [1] rfl)
          · replace hs := q_f hc hs
            refine lv_aload_n (pc := 63) hx hb dX11_way_63 rfl (lv_at hl 1 rfl) ?_
            refine q_getI (pc := 64) (q := 72) hx hb hts hown hK hw rfl fg_X11_163 dX11_way_64 ?_
            refine lv_if_ge (pc := 67) (tgt := 79) hx hb dX11_way_67 (by decide) (fun hc => ?_) (fun hc => ?_)
            · replace hs := q_t hc hs
              refine lv_aload_n (pc := 79) hx hb dX11_way_79 rfl (lv_at hl 1 rfl) ?_
              refine q_getI (pc := 80) (q := 72) hx hb hts hown hK hw rfl fg_X11_163 dX11_way_80 ?_
              exact q_iretW hret dX11_way_83 hw hs
            · replace hs := q_f hc hs
              exact hK11 hs _ _ hw _ (lv_sub hl [1] rfl)
      · replace hs := q_f hc hs
        exact hK2 hs _ _ hw _ (lv_sub hl [0] rfl)

set_option maxHeartbeats 4000000 in
set_option maxRecDepth 100000 in
theorem c_X11_comesBack (l : Launch) (G : GG) (a1 : Int32) (a2 : Int32) (h : Mem) (h' : Mem) (hs : f_X11_comesBack h a1 a2 = some h') : Sat l G yX11_comesBack cX11_comesBack 5 none 2 [.ref (G.2.2.1 72), .int a1, .int a2] h none h' := by
  refine Sat.mkV (by decide) (Nat.le_of_ble_eq_true rfl) ?_
  intro p e R s m args below meth c Q F hret hw ls hl
  obtain ⟨hx, hb, hml, hown, hts, hK, hSt, hN, hR⟩ := F
  have hl : lv_has ls 5 [(0, .ref (G.2.2.1 72)), (1, .int a1), (2, .int a2)] := hl
  unfold f_X11_comesBack at hs
  refine lv_aload_n (pc := 0) hx hb dX11_comesBack_0 rfl (lv_at hl 0 rfl) ?_
  refine lv_iload_n (pc := 1) hx hb dX11_comesBack_1 rfl (lv_at hl 1 rfl) ?_
  refine lv_iconst (pc := 2) (v := (iI 0)) hx hb dX11_comesBack_2 rfl ?_
  obtain ⟨v1, ev, hs⟩ := q_cal hs
  refine q_callV (pc := 3) (q := 72) (As := [.int a1, .int (iI 0)]) (rest := []) (rs := [.int v1]) hx hb hml hl.1 hts hown hK hSt hN hw (c_X11_its l G a1 (iI 0) h v1 ev) rfl rfl cv_X11_87 (rm_ok hR (by decide)) rfl (Nat.le_of_ble_eq_true rfl) rfl rfl dX11_comesBack_3 (fun H locs hw => ?_)
  refine lv_istore_n (pc := 6) (lv' := [(3, .int v1), (0, .ref (G.2.2.1 72)), (1, .int a1), (2, .int a2)]) hx hb dX11_comesBack_6 rfl hl (by decide) rfl (fun ls hl => ?_)
  refine lv_aload_n (pc := 7) hx hb dX11_comesBack_7 rfl (lv_at hl 1 rfl) ?_
  refine lv_iload_n (pc := 8) hx hb dX11_comesBack_8 rfl (lv_at hl 2 rfl) ?_
  refine lv_iconst (pc := 9) (v := (iI 4)) hx hb dX11_comesBack_9 rfl ?_
  refine lv_aload_n (pc := 10) hx hb dX11_comesBack_10 rfl (lv_at hl 1 rfl) ?_
  refine lv_iload_n (pc := 11) hx hb dX11_comesBack_11 rfl (lv_at hl 2 rfl) ?_
  refine lv_iconst (pc := 12) (v := (iI 4)) hx hb dX11_comesBack_12 rfl ?_
  obtain ⟨v2, ev, hs⟩ := q_cal hs
  refine q_callV (pc := 13) (q := 72) (As := [.int a1, .int (iI 4)]) (rest := [.int (iI 4), .int a1, .ref (G.2.2.1 72)]) (rs := [.int v2, .int (iI 4), .int a1, .ref (G.2.2.1 72)]) hx hb hml hl.1 hts hown hK hSt hN hw (c_X11_its l G a1 (iI 4) h v2 ev) rfl rfl cv_X11_87 (rm_ok hR (by decide)) rfl (Nat.le_of_ble_eq_true rfl) rfl rfl dX11_comesBack_13 (fun H locs hw => ?_)
  refine q_join1 (P0 := fun (x3 : Int32) => ∀ (H : Heap) (locs : List Loc), IW G s h H locs → ∀ ls : Array Slot, lv_has ls 5 [(0, .ref (G.2.2.1 72)), (1, .int a1), (2, .int a2), (3, .int v1)] → W p l e R s m args below meth c H locs 0 0 Q (F0 m 31 ls [.int x3, .int (iI 4), .int a1, .ref (G.2.2.1 72)])) hs ?_ ?_
  · intro x3 hs H locs hw ls hl
    unfold f_X11_comesBack_k4 at hs
    obtain ⟨h5, ev, hs⟩ := q_cal hs
    refine q_callV (pc := 31) (q := 72) (As := [.int a1, .int (iI 4), .int x3]) (rest := []) (rs := []) hx hb hml hl.1 hts hown hK hSt hN hw (c_X11_puts l G a1 (iI 4) x3 h h5 ev) rfl rfl cv_X11_91 (rm_ok hR (by decide)) rfl (Nat.le_of_ble_eq_true rfl) rfl rfl dX11_comesBack_31 (fun H locs hw => ?_)
    refine lv_iload_n (pc := 34) hx hb dX11_comesBack_34 rfl (lv_at hl 3 rfl) ?_
    refine lv_iconst (pc := 35) (v := (iI 5)) hx hb dX11_comesBack_35 rfl ?_
    refine q_join1 (P0 := fun (h6 : Mem) => ∀ (H : Heap) (locs : List Loc), IW G s h6 H locs → ∀ ls : Array Slot, lv_has ls 5 [(0, .ref (G.2.2.1 72)), (1, .int a1), (2, .int a2)] → W p l e R s m args below meth c H locs 0 0 Q (F0 m 104 ls [])) hs ?_ ?_
    · intro h6 hs H locs hw ls hl
      unfold f_X11_comesBack_k7 at hs
      refine lv_aload_n (pc := 104) hx hb dX11_comesBack_104 rfl (lv_at hl 0 rfl) ?_
      refine lv_iload_n (pc := 105) hx hb dX11_comesBack_105 rfl (lv_at hl 1 rfl) ?_
      obtain ⟨v8, ev, hs⟩ := q_cal hs
      refine q_callV (pc := 106) (q := 72) (As := [.int a1]) (rest := []) (rs := [.int v8]) hx hb hml hl.1 hts hown hK hSt hN hw (c_X11_doesThrow l G a1 h6 v8 ev) rfl rfl cv_X11_105 (rm_ok hR (by decide)) rfl (Nat.le_of_ble_eq_true rfl) rfl rfl dX11_comesBack_106 (fun H locs hw => ?_)
      refine q_join1 (P0 := fun (x9 : Int32) => ∀ (H : Heap) (locs : List Loc), IW G s h6 H locs → ∀ ls : Array Slot, lv_has ls 5 [(0, .ref (G.2.2.1 72))] → W p l e R s m args below meth c H locs 0 0 Q (F0 m 126 ls [.int x9])) hs ?_ ?_
      · intro x9 hs H locs hw ls hl
        refine lv_istore (pc := 126) (lv' := [(4, .int x9), (0, .ref (G.2.2.1 72))]) hx hb dX11_comesBack_126 hl (by decide) rfl (fun ls hl => ?_)
        refine lv_aload_n (pc := 128) hx hb dX11_comesBack_128 rfl (lv_at hl 1 rfl) ?_
        refine lv_iload (pc := 129) hx hb dX11_comesBack_129 (lv_at hl 0 rfl) ?_
        refine lv_iconst (pc := 131) (v := (iI 2)) hx hb dX11_comesBack_131 rfl ?_
        refine lv_iadd (pc := 132) hx hb dX11_comesBack_132 ?_
        refine lv_iconst (pc := 133) (v := (iI 4)) hx hb dX11_comesBack_133 rfl ?_
        obtain ⟨hne, hs⟩ := q_nz hs
        refine q_irem (pc := 134) hx hb dX11_comesBack_134 hne ?_
        refine q_putI (pc := 135) (q := 72) hx hb hts hown hK hw rfl fp_X11_147 dX11_comesBack_135 hs (fun h11 H locs hw hs => ?_)
        exact q_vret hret dX11_comesBack_138 hw hs
      · intro K10 hK10 hs
        refine lv_if_eq (pc := 109) (tgt := 125) hx hb dX11_comesBack_109 (by decide) (fun hc => ?_) (fun hc => ?_)
        · replace hs := q_t hc hs
          refine lv_iload_n (pc := 125) hx hb dX11_comesBack_125 rfl (lv_at hl 2 rfl) ?_
          exact hK10 _ hs _ _ hw _ (lv_sub hl [0] rfl)
        · replace hs := q_f hc hs
          refine lv_iload_n (pc := 112) hx hb dX11_comesBack_112 rfl (lv_at hl 2 rfl) ?_
          refine lv_aload_n (pc := 113) hx hb dX11_comesBack_113 rfl (lv_at hl 0 rfl) ?_
          refine lv_iload_n (pc := 114) hx hb dX11_comesBack_114 rfl (lv_at hl 1 rfl) ?_
          refine lv_iconst (pc := 115) (v := (iI 2)) hx hb dX11_comesBack_115 rfl ?_
          obtain ⟨v12, ev, hs⟩ := q_cal hs
          refine q_callV (pc := 116) (q := 72) (As := [.int a1, .int (iI 2)]) (rest := [.int a2]) (rs := [.int v12, .int a2]) hx hb hml hl.1 hts hown hK hSt hN hw (c_X11_its l G a1 (iI 2) h6 v12 ev) rfl rfl cv_X11_87 (rm_ok hR (by decide)) rfl (Nat.le_of_ble_eq_true rfl) rfl rfl dX11_comesBack_116 (fun H locs hw => ?_)
          obtain ⟨v13, ev, hs⟩ := q_cal hs
          refine q_callS (pc := 119) (As := [.int a2, .int v12]) (rest := []) (rs := [.int v13]) hx hb hml hl.1 hts hown hK hSt hN hw (c_X11_thrown l G a2 v12 h6 v13 ev) cs_X11_150 (rm_ok hR (by decide)) rfl (Nat.le_of_ble_eq_true rfl) rfl rfl dX11_comesBack_119 (fun H locs hw => ?_)
          refine lv_goto (pc := 122) (tgt := 126) hx hb dX11_comesBack_122 (by decide) ?_
          exact hK10 _ hs _ _ hw _ (lv_sub hl [0] rfl)
    · intro K7 hK7 hs
      refine q_join0 (P0 := ∀ (H : Heap) (locs : List Loc), IW G s h5 H locs → ∀ ls : Array Slot, lv_has ls 5 [(0, .ref (G.2.2.1 72)), (1, .int a1), (2, .int a2), (3, .int v1)] → W p l e R s m args below meth c H locs 0 0 Q (F0 m 65 ls [])) hs ?_ ?_
      · intro  hs H locs hw ls hl
        unfold f_X11_comesBack_k14 at hs
        refine lv_iload_n (pc := 65) hx hb dX11_comesBack_65 rfl (lv_at hl 3 rfl) ?_
        refine lv_iconst (pc := 66) (v := (iI 5)) hx hb dX11_comesBack_66 rfl ?_
        refine lv_icmp_ne (pc := 67) (tgt := 94) hx hb dX11_comesBack_67 (by decide) (fun hc => ?_) (fun hc => ?_)
        · replace hs := q_t hc hs
          refine lv_iload_n (pc := 94) hx hb dX11_comesBack_94 rfl (lv_at hl 3 rfl) ?_
          refine lv_iconst (pc := 95) (v := (iI 1)) hx hb dX11_comesBack_95 rfl ?_
          refine lv_icmp_ne (pc := 96) (tgt := 104) hx hb dX11_comesBack_96 (by decide) (fun hc => ?_) (fun hc => ?_)
          · replace hs := q_t hc hs
            exact hK7 _ hs _ _ hw _ (lv_sub hl [0, 1, 2] rfl)
          · replace hs := q_f (fun z => z hc) hs
            refine lv_aload_n (pc := 99) hx hb dX11_comesBack_99 rfl (lv_at hl 0 rfl) ?_
            refine lv_iload_n (pc := 100) hx hb dX11_comesBack_100 rfl (lv_at hl 1 rfl) ?_
            obtain ⟨h15, ev, hs⟩ := q_cal hs
            refine q_callV (pc := 101) (q := 72) (As := [.int a1]) (rest := []) (rs := []) hx hb hml hl.1 hts hown hK hSt hN hw (c_X11_flips l G a1 h5 h15 ev) rfl rfl cv_X11_125 (rm_ok hR (by decide)) rfl (Nat.le_of_ble_eq_true rfl) rfl rfl dX11_comesBack_101 (fun H locs hw => ?_)
            exact hK7 _ hs _ _ hw _ (lv_sub hl [0, 1, 2] rfl)
        · replace hs := q_f (fun z => z hc) hs
          refine lv_aload_n (pc := 70) hx hb dX11_comesBack_70 rfl (lv_at hl 0 rfl) ?_
          refine lv_iload_n (pc := 71) hx hb dX11_comesBack_71 rfl (lv_at hl 1 rfl) ?_
          refine lv_iconst (pc := 72) (v := (iI 3)) hx hb dX11_comesBack_72 rfl ?_
          refine lv_iconst (pc := 73) (v := (iI 1)) hx hb dX11_comesBack_73 rfl ?_
          refine lv_aload_n (pc := 74) hx hb dX11_comesBack_74 rfl (lv_at hl 0 rfl) ?_
          refine lv_iload_n (pc := 75) hx hb dX11_comesBack_75 rfl (lv_at hl 1 rfl) ?_
          refine lv_iconst (pc := 76) (v := (iI 1)) hx hb dX11_comesBack_76 rfl ?_
          obtain ⟨v16, ev, hs⟩ := q_cal hs
          refine q_callV (pc := 77) (q := 72) (As := [.int a1, .int (iI 1)]) (rest := [.int (iI 1), .int (iI 3), .int a1, .ref (G.2.2.1 72)]) (rs := [.int v16, .int (iI 1), .int (iI 3), .int a1, .ref (G.2.2.1 72)]) hx hb hml hl.1 hts hown hK hSt hN hw (c_X11_its l G a1 (iI 1) h5 v16 ev) rfl rfl cv_X11_87 (rm_ok hR (by decide)) rfl (Nat.le_of_ble_eq_true rfl) rfl rfl dX11_comesBack_77 (fun H locs hw => ?_)
          refine lv_iconst (pc := 80) (v := (iI 3)) hx hb dX11_comesBack_80 rfl ?_
          obtain ⟨hne, hs⟩ := q_nz hs
          refine q_irem (pc := 81) hx hb dX11_comesBack_81 hne ?_
          refine lv_iadd (pc := 82) hx hb dX11_comesBack_82 ?_
          obtain ⟨h17, ev, hs⟩ := q_cal hs
          refine q_callV (pc := 83) (q := 72) (As := [.int a1, .int (iI 3), .int ((iI 1) + (rmI v16 (iI 3)))]) (rest := []) (rs := []) hx hb hml hl.1 hts hown hK hSt hN hw (c_X11_puts l G a1 (iI 3) ((iI 1) + (rmI v16 (iI 3))) h5 h17 ev) rfl rfl cv_X11_91 (rm_ok hR (by decide)) rfl (Nat.le_of_ble_eq_true rfl) rfl rfl dX11_comesBack_83 (fun H locs hw => ?_)
          refine lv_aload_n (pc := 86) hx hb dX11_comesBack_86 rfl (lv_at hl 0 rfl) ?_
          refine lv_iload_n (pc := 87) hx hb dX11_comesBack_87 rfl (lv_at hl 1 rfl) ?_
          obtain ⟨h18, ev, hs⟩ := q_cal hs
          refine q_callV (pc := 88) (q := 72) (As := [.int a1]) (rest := []) (rs := []) hx hb hml hl.1 hts hown hK hSt hN hw (c_X11_flips l G a1 h17 h18 ev) rfl rfl cv_X11_125 (rm_ok hR (by decide)) rfl (Nat.le_of_ble_eq_true rfl) rfl rfl dX11_comesBack_88 (fun H locs hw => ?_)
          refine lv_goto (pc := 91) (tgt := 104) hx hb dX11_comesBack_91 (by decide) ?_
          exact hK7 _ hs _ _ hw _ (lv_sub hl [0, 1, 2] rfl)
      · intro K14 hK14 hs
        refine lv_icmp_ne (pc := 36) (tgt := 65) hx hb dX11_comesBack_36 (by decide) (fun hc => ?_) (fun hc => ?_)
        · replace hs := q_t hc hs
          exact hK14 hs _ _ hw _ (lv_sub hl [0, 1, 2, 3] rfl)
        · replace hs := q_f (fun z => z hc) hs
          refine lv_aload_n (pc := 39) hx hb dX11_comesBack_39 rfl (lv_at hl 0 rfl) ?_
          refine lv_iload_n (pc := 40) hx hb dX11_comesBack_40 rfl (lv_at hl 1 rfl) ?_
          refine lv_iconst (pc := 41) (v := (iI 3)) hx hb dX11_comesBack_41 rfl ?_
          obtain ⟨v19, ev, hs⟩ := q_cal hs
          refine q_callV (pc := 42) (q := 72) (As := [.int a1, .int (iI 3)]) (rest := []) (rs := [.int v19]) hx hb hml hl.1 hts hown hK hSt hN hw (c_X11_its l G a1 (iI 3) h5 v19 ev) rfl rfl cv_X11_87 (rm_ok hR (by decide)) rfl (Nat.le_of_ble_eq_true rfl) rfl rfl dX11_comesBack_42 (fun H locs hw => ?_)
          refine lv_if_le (pc := 45) (tgt := 65) hx hb dX11_comesBack_45 (by decide) (fun hc => ?_) (fun hc => ?_)
          · replace hs := q_t hc hs
            exact hK14 hs _ _ hw _ (lv_sub hl [0, 1, 2, 3] rfl)
          · replace hs := q_f hc hs
            refine lv_aload_n (pc := 48) hx hb dX11_comesBack_48 rfl (lv_at hl 0 rfl) ?_
            refine lv_iload_n (pc := 49) hx hb dX11_comesBack_49 rfl (lv_at hl 1 rfl) ?_
            refine lv_iconst (pc := 50) (v := (iI 3)) hx hb dX11_comesBack_50 rfl ?_
            refine lv_aload_n (pc := 51) hx hb dX11_comesBack_51 rfl (lv_at hl 0 rfl) ?_
            refine lv_iload_n (pc := 52) hx hb dX11_comesBack_52 rfl (lv_at hl 1 rfl) ?_
            refine lv_iconst (pc := 53) (v := (iI 3)) hx hb dX11_comesBack_53 rfl ?_
            obtain ⟨v20, ev, hs⟩ := q_cal hs
            refine q_callV (pc := 54) (q := 72) (As := [.int a1, .int (iI 3)]) (rest := [.int (iI 3), .int a1, .ref (G.2.2.1 72)]) (rs := [.int v20, .int (iI 3), .int a1, .ref (G.2.2.1 72)]) hx hb hml hl.1 hts hown hK hSt hN hw (c_X11_its l G a1 (iI 3) h5 v20 ev) rfl rfl cv_X11_87 (rm_ok hR (by decide)) rfl (Nat.le_of_ble_eq_true rfl) rfl rfl dX11_comesBack_54 (fun H locs hw => ?_)
            refine lv_iconst (pc := 57) (v := (iI 1)) hx hb dX11_comesBack_57 rfl ?_
            refine lv_isub (pc := 58) hx hb dX11_comesBack_58 ?_
            obtain ⟨h21, ev, hs⟩ := q_cal hs
            refine q_callV (pc := 59) (q := 72) (As := [.int a1, .int (iI 3), .int (v20 - (iI 1))]) (rest := []) (rs := []) hx hb hml hl.1 hts hown hK hSt hN hw (c_X11_puts l G a1 (iI 3) (v20 - (iI 1)) h5 h21 ev) rfl rfl cv_X11_91 (rm_ok hR (by decide)) rfl (Nat.le_of_ble_eq_true rfl) rfl rfl dX11_comesBack_59 (fun H locs hw => ?_)
            refine lv_goto (pc := 62) (tgt := 104) hx hb dX11_comesBack_62 (by decide) ?_
            exact hK7 _ hs _ _ hw _ (lv_sub hl [0, 1, 2] rfl)
  · intro K4 hK4 hs
    refine lv_if_le (pc := 16) (tgt := 30) hx hb dX11_comesBack_16 (by decide) (fun hc => ?_) (fun hc => ?_)
    · replace hs := q_t hc hs
      refine lv_iconst (pc := 30) (v := (iI 0)) hx hb dX11_comesBack_30 rfl ?_
      exact hK4 _ hs _ _ hw _ (lv_sub hl [1, 2, 3, 0] rfl)
    · replace hs := q_f hc hs
      refine lv_aload_n (pc := 19) hx hb dX11_comesBack_19 rfl (lv_at hl 1 rfl) ?_
      refine lv_iload_n (pc := 20) hx hb dX11_comesBack_20 rfl (lv_at hl 2 rfl) ?_
      refine lv_iconst (pc := 21) (v := (iI 4)) hx hb dX11_comesBack_21 rfl ?_
      obtain ⟨v22, ev, hs⟩ := q_cal hs
      refine q_callV (pc := 22) (q := 72) (As := [.int a1, .int (iI 4)]) (rest := [.int (iI 4), .int a1, .ref (G.2.2.1 72)]) (rs := [.int v22, .int (iI 4), .int a1, .ref (G.2.2.1 72)]) hx hb hml hl.1 hts hown hK hSt hN hw (c_X11_its l G a1 (iI 4) h v22 ev) rfl rfl cv_X11_87 (rm_ok hR (by decide)) rfl (Nat.le_of_ble_eq_true rfl) rfl rfl dX11_comesBack_22 (fun H locs hw => ?_)
      refine lv_iconst (pc := 25) (v := (iI 1)) hx hb dX11_comesBack_25 rfl ?_
      refine lv_isub (pc := 26) hx hb dX11_comesBack_26 ?_
      refine lv_goto (pc := 27) (tgt := 31) hx hb dX11_comesBack_27 (by decide) ?_
      exact hK4 _ hs _ _ hw _ (lv_sub hl [1, 2, 3, 0] rfl)

set_option maxHeartbeats 4000000 in
set_option maxRecDepth 100000 in
theorem c_X11_undo (l : Launch) (G : GG) (a1 : Int32) (h : Mem) (v : Int32) (h' : Mem) (hs : f_X11_undo h a1 = some (v, h')) : Sat l G yX11_undo cX11_undo 4 (some .int) 3 [.ref (G.2.2.1 72), .int a1] h (some (.int v)) h' := by
  refine Sat.mkI (by decide) (Nat.le_of_ble_eq_true rfl) ?_
  intro p e R s m args below meth c Q F hret hw ls hl
  obtain ⟨hx, hb, hml, hown, hts, hK, hSt, hN, hR⟩ := F
  have hl : lv_has ls 4 [(0, .ref (G.2.2.1 72)), (1, .int a1)] := hl
  unfold f_X11_undo at hs
  refine lv_aload_n (pc := 0) hx hb dX11_undo_0 rfl (lv_at hl 0 rfl) ?_
  refine lv_iload_n (pc := 1) hx hb dX11_undo_1 rfl (lv_at hl 1 rfl) ?_
  obtain ⟨v1, ev, hs⟩ := q_cal hs
  refine q_callV (pc := 2) (q := 72) (As := [.int a1]) (rest := []) (rs := [.int v1]) hx hb hml hl.1 hts hown hK hSt hN hw (c_X11_isWindow l G a1 h v1 ev) rfl rfl cv_X11_182 (rm_ok hR (by decide)) rfl (Nat.le_of_ble_eq_true rfl) rfl rfl dX11_undo_2 (fun H locs hw => ?_)
  refine lv_if_ne (pc := 5) (tgt := 15) hx hb dX11_undo_5 (by decide) (fun hc => ?_) (fun hc => ?_)
  · replace hs := q_t hc hs
    refine lv_aload_n (pc := 15) hx hb dX11_undo_15 rfl (lv_at hl 0 rfl) ?_
    refine lv_aload_n (pc := 16) hx hb dX11_undo_16 rfl (lv_at hl 0 rfl) ?_
    refine q_getR (pc := 17) (q := 72) (o := 1) hx hb hts hown hK hw rfl fg_X11_7 dX11_undo_17 ?_
    refine lv_aload_n (pc := 20) hx hb dX11_undo_20 rfl (lv_at hl 0 rfl) ?_
    refine q_getR (pc := 21) (q := 72) (o := 3) hx hb hts hown hK hw rfl fg_X11_16 dX11_undo_21 ?_
    obtain ⟨h2, ev, hs⟩ := q_cal hs
    refine q_callV (pc := 24) (q := 72) (As := [.ref (G.2.2.1 73), .ref (G.2.2.1 75)]) (rest := []) (rs := []) hx hb hml hl.1 hts hown hK hSt hN hw (c_X11_moveAll l G 73 305 rfl 75 305 rfl h h2 ev) rfl rfl cv_X11_188 (rm_ok hR (by decide)) rfl (Nat.le_of_ble_eq_true rfl) rfl rfl dX11_undo_24 (fun H locs hw => ?_)
    refine lv_aload_n (pc := 27) hx hb dX11_undo_27 rfl (lv_at hl 0 rfl) ?_
    refine lv_iload_n (pc := 28) hx hb dX11_undo_28 rfl (lv_at hl 1 rfl) ?_
    obtain ⟨h3, ev, hs⟩ := q_cal hs
    refine q_callV (pc := 29) (q := 72) (As := [.int a1]) (rest := []) (rs := []) hx hb hml hl.1 hts hown hK hSt hN hw (c_X11_enters l G a1 h2 h3 ev) rfl rfl cv_X11_156 (rm_ok hR (by decide)) rfl (Nat.le_of_ble_eq_true rfl) rfl rfl dX11_undo_29 (fun H locs hw => ?_)
    refine lv_iconst (pc := 32) (v := (iI 1)) hx hb dX11_undo_32 rfl ?_
    refine lv_istore_n (pc := 33) (lv' := [(2, .int (iI 1)), (0, .ref (G.2.2.1 72)), (1, .int a1)]) hx hb dX11_undo_33 rfl hl (by decide) rfl (fun ls hl => ?_)
    refine (q_lo2 (P0 := fun (x4 : Int32) (h5 : Mem) => ∀ (H : Heap) (locs : List Loc), IW G s h5 H locs → ∀ ls : Array Slot, lv_has ls 4 [(0, .ref (G.2.2.1 72)), (2, .int x4)] → W p l e R s m args below meth c H locs 0 0 Q (F0 m 34 ls [])) hs ?_) _ _ hw _ (lv_sub hl [1, 0] rfl)
    intro K6 hK6 x4 h5 hs H locs hw ls hl
    unfold f_X11_undo_k6 at hs
    refine lv_iload_n (pc := 34) hx hb dX11_undo_34 rfl (lv_at hl 1 rfl) ?_
    refine q_join0 (P0 := ∀ (H : Heap) (locs : List Loc), IW G s h5 H locs → ∀ ls : Array Slot, lv_has ls 4 [(0, .ref (G.2.2.1 72)), (2, .int x4)] → W p l e R s m args below meth c H locs 0 0 Q (F0 m 120 ls [])) hs ?_ ?_
    · intro  hs H locs hw ls hl
      unfold f_X11_undo_k7 at hs
      refine lv_iload_n (pc := 120) hx hb dX11_undo_120 rfl (lv_at hl 1 rfl) ?_
      refine lv_if_ne (pc := 121) (tgt := 143) hx hb dX11_undo_121 (by decide) (fun hc => ?_) (fun hc => ?_)
      · replace hs := q_t hc hs
        refine lv_aload_n (pc := 143) hx hb dX11_undo_143 rfl (lv_at hl 0 rfl) ?_
        obtain ⟨v8, ev, hs⟩ := q_cal hs
        refine q_callV (pc := 144) (q := 72) (As := []) (rest := []) (rs := [.int v8]) hx hb hml hl.1 hts hown hK hSt hN hw (c_X11_windowThere l G h5 v8 ev) rfl rfl cv_X11_176 (rm_ok hR (by decide)) rfl (Nat.le_of_ble_eq_true rfl) rfl rfl dX11_undo_144 (fun H locs hw => ?_)
        exact q_iretW hret dX11_undo_147 hw hs
      · replace hs := q_f (fun z => z hc) hs
        refine lv_aload_n (pc := 124) hx hb dX11_undo_124 rfl (lv_at hl 0 rfl) ?_
        refine lv_aload_n (pc := 125) hx hb dX11_undo_125 rfl (lv_at hl 0 rfl) ?_
        refine q_getR (pc := 126) (q := 72) (o := 3) hx hb hts hown hK hw rfl fg_X11_16 dX11_undo_126 ?_
        refine lv_aload_n (pc := 129) hx hb dX11_undo_129 rfl (lv_at hl 0 rfl) ?_
        refine q_getR (pc := 130) (q := 72) (o := 1) hx hb hts hown hK hw rfl fg_X11_7 dX11_undo_130 ?_
        obtain ⟨h9, ev, hs⟩ := q_cal hs
        refine q_callV (pc := 133) (q := 72) (As := [.ref (G.2.2.1 75), .ref (G.2.2.1 73)]) (rest := []) (rs := []) hx hb hml hl.1 hts hown hK hSt hN hw (c_X11_moveAll l G 75 305 rfl 73 305 rfl h5 h9 ev) rfl rfl cv_X11_188 (rm_ok hR (by decide)) rfl (Nat.le_of_ble_eq_true rfl) rfl rfl dX11_undo_133 (fun H locs hw => ?_)
        refine lv_aload_n (pc := 136) hx hb dX11_undo_136 rfl (lv_at hl 0 rfl) ?_
        refine lv_ldc (pc := 137) (v := (iI (-1000000003))) hx hb hown (hts _ ki_X11_128) dX11_undo_137 ?_
        obtain ⟨v10, h11, ev, hs⟩ := q_cal2 hs
        refine q_callV (pc := 139) (q := 72) (As := [.int (iI (-1000000003))]) (rest := []) (rs := [.int v10]) hx hb hml hl.1 hts hown hK hSt hN hw (c_X11_errs l G (iI (-1000000003)) h9 v10 h11 ev) rfl rfl cv_X11_79 (rm_ok hR (by decide)) rfl (Nat.le_of_ble_eq_true rfl) rfl rfl dX11_undo_139 (fun H locs hw => ?_)
        exact q_iretW hret dX11_undo_142 hw hs
    · intro K7 hK7 hs
      refine lv_if_eq (pc := 35) (tgt := 120) hx hb dX11_undo_35 (by decide) (fun hc => ?_) (fun hc => ?_)
      · replace hs := q_t hc hs
        exact hK7 hs _ _ hw _ (lv_sub hl [0, 1] rfl)
      · replace hs := q_f hc hs
        refine lv_aload_n (pc := 38) hx hb dX11_undo_38 rfl (lv_at hl 0 rfl) ?_
        obtain ⟨v12, ev, hs⟩ := q_cal hs
        refine q_callV (pc := 39) (q := 72) (As := []) (rest := []) (rs := [.int v12]) hx hb hml hl.1 hts hown hK hSt hN hw (c_X11_isOut l G h5 v12 ev) rfl rfl cv_X11_166 (rm_ok hR (by decide)) rfl (Nat.le_of_ble_eq_true rfl) rfl rfl dX11_undo_39 (fun H locs hw => ?_)
        refine lv_if_ne (pc := 42) (tgt := 120) hx hb dX11_undo_42 (by decide) (fun hc => ?_) (fun hc => ?_)
        · replace hs := q_t hc hs
          exact hK7 hs _ _ hw _ (lv_sub hl [0, 1] rfl)
        · replace hs := q_f (fun z => z hc) hs
          refine lv_aload_n (pc := 45) hx hb dX11_undo_45 rfl (lv_at hl 0 rfl) ?_
          refine q_getR (pc := 46) (q := 72) (o := 1) hx hb hts hown hK hw rfl fg_X11_7 dX11_undo_46 ?_
          refine lv_iconst (pc := 49) (v := (iI 1)) hx hb dX11_undo_49 rfl ?_
          refine q_ald (pc := 50) (q := 73) (n := 305) hx hb hK hw rfl dX11_undo_50 hs (fun v13 hs => ?_)
          refine lv_aload_n (pc := 51) hx hb dX11_undo_51 rfl (lv_at hl 0 rfl) ?_
          refine q_getI (pc := 52) (q := 72) hx hb hts hown hK hw rfl fg_X11_141 dX11_undo_52 ?_
          refine lv_imul (pc := 55) hx hb dX11_undo_55 ?_
          refine lv_aload_n (pc := 56) hx hb dX11_undo_56 rfl (lv_at hl 0 rfl) ?_
          refine q_getI (pc := 57) (q := 72) hx hb hts hown hK hw rfl fg_X11_144 dX11_undo_57 ?_
          refine lv_iadd (pc := 60) hx hb dX11_undo_60 ?_
          obtain ⟨x14, ex14, hs⟩ := q_nm hs
          refine q_topI ex14 ?_
          refine lv_istore_n (pc := 61) (lv' := [(3, .int x14), (0, .ref (G.2.2.1 72)), (2, .int x4)]) hx hb dX11_undo_61 rfl hl (by decide) rfl (fun ls hl => ?_)
          refine lv_aload_n (pc := 62) hx hb dX11_undo_62 rfl (lv_at hl 1 rfl) ?_
          refine lv_iload_n (pc := 63) hx hb dX11_undo_63 rfl (lv_at hl 0 rfl) ?_
          obtain ⟨v15, ev, hs⟩ := q_cal hs
          refine q_callV (pc := 64) (q := 72) (As := [.int x14]) (rest := []) (rs := [.int v15]) hx hb hml hl.1 hts hown hK hSt hN hw (c_X11_doesStop l G x14 h5 v15 ev) rfl rfl cv_X11_108 (rm_ok hR (by decide)) rfl (Nat.le_of_ble_eq_true rfl) rfl rfl dX11_undo_64 (fun H locs hw => ?_)
          refine q_join1 (P0 := fun (x16 : Int32) => ∀ (H : Heap) (locs : List Loc), IW G s h5 H locs → ∀ ls : Array Slot, lv_has ls 4 [(0, .ref (G.2.2.1 72)), (3, .int x14)] → W p l e R s m args below meth c H locs 0 0 Q (F0 m 85 ls [.int x16])) hs ?_ ?_
          · intro x16 hs H locs hw ls hl
            unfold f_X11_undo_k17 at hs
            refine lv_istore_n (pc := 85) (lv' := [(2, .int x16), (0, .ref (G.2.2.1 72)), (3, .int x14)]) hx hb dX11_undo_85 rfl hl (by decide) rfl (fun ls hl => ?_)
            refine lv_iload_n (pc := 86) hx hb dX11_undo_86 rfl (lv_at hl 0 rfl) ?_
            refine lv_if_eq (pc := 87) (tgt := 117) hx hb dX11_undo_87 (by decide) (fun hc => ?_) (fun hc => ?_)
            · replace hs := q_t hc hs
              refine lv_goto (pc := 117) (tgt := 34) hx hb dX11_undo_117 (by decide) ?_
              exact hK6 _ _ hs _ _ hw _ (lv_sub hl [1, 0] rfl)
            · replace hs := q_f hc hs
              refine lv_aload_n (pc := 90) hx hb dX11_undo_90 rfl (lv_at hl 1 rfl) ?_
              refine lv_dup (pc := 91) hx hb dX11_undo_91 rfl ?_
              refine q_getI (pc := 92) (q := 72) hx hb hts hown hK hw rfl fg_X11_135 dX11_undo_92 ?_
              refine lv_iconst (pc := 95) (v := (iI 1)) hx hb dX11_undo_95 rfl ?_
              refine lv_iadd (pc := 96) hx hb dX11_undo_96 ?_
              refine q_putI (pc := 97) (q := 72) hx hb hts hown hK hw rfl fp_X11_135 dX11_undo_97 hs (fun h18 H locs hw hs => ?_)
              refine lv_aload_n (pc := 100) hx hb dX11_undo_100 rfl (lv_at hl 1 rfl) ?_
              refine lv_iload_n (pc := 101) hx hb dX11_undo_101 rfl (lv_at hl 2 rfl) ?_
              refine lv_aload_n (pc := 102) hx hb dX11_undo_102 rfl (lv_at hl 1 rfl) ?_
              refine q_getI (pc := 103) (q := 72) hx hb hts hown hK hw rfl fg_X11_147 dX11_undo_103 ?_
              refine lv_iconst (pc := 106) (v := (iI 2)) hx hb dX11_undo_106 rfl ?_
              refine lv_iadd (pc := 107) hx hb dX11_undo_107 ?_
              refine lv_iconst (pc := 108) (v := (iI 4)) hx hb dX11_undo_108 rfl ?_
              obtain ⟨hne, hs⟩ := q_nz hs
              refine q_irem (pc := 109) hx hb dX11_undo_109 hne ?_
              obtain ⟨h19, ev, hs⟩ := q_cal hs
              refine q_callV (pc := 110) (q := 72) (As := [.int x14, .int (rmI ((gI h18 72 9) + (iI 2)) (iI 4))]) (rest := []) (rs := []) hx hb hml hl.1 hts hown hK hSt hN hw (c_X11_comesBack l G x14 (rmI ((gI h18 72 9) + (iI 2)) (iI 4)) h18 h19 ev) rfl rfl cv_X11_196 (rm_ok hR (by decide)) rfl (Nat.le_of_ble_eq_true rfl) rfl rfl dX11_undo_110 (fun H locs hw => ?_)
              refine lv_aload_n (pc := 113) hx hb dX11_undo_113 rfl (lv_at hl 1 rfl) ?_
              obtain ⟨h20, ev, hs⟩ := q_cal hs
              refine q_callV (pc := 114) (q := 72) (As := []) (rest := []) (rs := []) hx hb hml hl.1 hts hown hK hSt hN hw (c_X11_goesOn l G h19 h20 ev) rfl rfl cv_X11_173 (rm_ok hR (by decide)) rfl (Nat.le_of_ble_eq_true rfl) rfl rfl dX11_undo_114 (fun H locs hw => ?_)
              refine lv_goto (pc := 117) (tgt := 34) hx hb dX11_undo_117 (by decide) ?_
              exact hK6 _ _ hs _ _ hw _ (lv_sub hl [1, 0] rfl)
          · intro K17 hK17 hs
            refine q_join0 (P0 := ∀ (H : Heap) (locs : List Loc), IW G s h5 H locs → ∀ ls : Array Slot, lv_has ls 4 [(0, .ref (G.2.2.1 72)), (3, .int x14)] → W p l e R s m args below meth c H locs 0 0 Q (F0 m 84 ls [])) hs ?_ ?_
            · intro  hs H locs hw ls hl
              refine lv_iconst (pc := 84) (v := (iI 0)) hx hb dX11_undo_84 rfl ?_
              exact hK17 _ hs _ _ hw _ (lv_sub hl [0, 1] rfl)
            · intro K21 hK21 hs
              refine lv_if_ne (pc := 67) (tgt := 84) hx hb dX11_undo_67 (by decide) (fun hc => ?_) (fun hc => ?_)
              · replace hs := q_t hc hs
                exact hK21 hs _ _ hw _ (lv_sub hl [1, 0] rfl)
              · replace hs := q_f (fun z => z hc) hs
                refine lv_aload_n (pc := 70) hx hb dX11_undo_70 rfl (lv_at hl 1 rfl) ?_
                refine q_getI (pc := 71) (q := 72) hx hb hts hown hK hw rfl fg_X11_135 dX11_undo_71 ?_
                refine lv_sipush (pc := 74) (v := (iI 5000)) hx hb dX11_undo_74 (by decide) ?_
                refine lv_icmp_ge (pc := 77) (tgt := 84) hx hb dX11_undo_77 (by decide) (fun hc => ?_) (fun hc => ?_)
                · replace hs := q_t hc hs
                  exact hK21 hs _ _ hw _ (lv_sub hl [1, 0] rfl)
                · replace hs := q_f hc hs
                  refine lv_iconst (pc := 80) (v := (iI 1)) hx hb dX11_undo_80 rfl ?_
                  refine lv_goto (pc := 81) (tgt := 85) hx hb dX11_undo_81 (by decide) ?_
                  exact hK17 _ hs _ _ hw _ (lv_sub hl [1, 0] rfl)
  · replace hs := q_f (fun z => z hc) hs
    refine lv_aload_n (pc := 8) hx hb dX11_undo_8 rfl (lv_at hl 0 rfl) ?_
    refine lv_ldc (pc := 9) (v := (iI (-1000000001))) hx hb hown (hts _ ki_X11_78) dX11_undo_9 ?_
    obtain ⟨v22, h23, ev, hs⟩ := q_cal2 hs
    refine q_callV (pc := 11) (q := 72) (As := [.int (iI (-1000000001))]) (rest := []) (rs := [.int v22]) hx hb hml hl.1 hts hown hK hSt hN hw (c_X11_errs l G (iI (-1000000001)) h v22 h23 ev) rfl rfl cv_X11_79 (rm_ok hR (by decide)) rfl (Nat.le_of_ble_eq_true rfl) rfl rfl dX11_undo_11 (fun H locs hw => ?_)
    exact q_iretW hret dX11_undo_14 hw hs

set_option maxHeartbeats 4000000 in
theorem c_X11_byteAt (l : Launch) (G : GG) (a1 : Int32) (h : Mem) (v : Int32)  (hs : f_X11_byteAt h a1 = some v) : Sat l G yX11_byteAt cX11_byteAt 2 (some .int) 0 [.ref (G.2.2.1 72), .int a1] h (some (.int v)) h := by
  refine Sat.mkI (by decide) (Nat.le_of_ble_eq_true rfl) ?_
  intro p e R s m args below meth c Q F hret hw ls hl
  obtain ⟨hx, hb, hml, hown, hts, hK, hSt, hN, hR⟩ := F
  have hl : lv_has ls 2 [(0, .ref (G.2.2.1 72)), (1, .int a1)] := hl
  unfold f_X11_byteAt at hs
  refine lv_iload_n (pc := 0) hx hb dX11_byteAt_0 rfl (lv_at hl 1 rfl) ?_
  refine lv_aload_n (pc := 1) hx hb dX11_byteAt_1 rfl (lv_at hl 0 rfl) ?_
  refine q_getI (pc := 2) (q := 72) hx hb hts hown hK hw rfl fg_X11_200 dX11_byteAt_2 ?_
  refine lv_icmp_ge (pc := 5) (tgt := 29) hx hb dX11_byteAt_5 (by decide) (fun hc => ?_) (fun hc => ?_)
  · replace hs := q_t hc hs
    refine lv_iconst (pc := 29) (v := (iI (-1))) hx hb dX11_byteAt_29 rfl ?_
    exact q_iret hret dX11_byteAt_30 hw hs
  · replace hs := q_f hc hs
    refine lv_aload_n (pc := 8) hx hb dX11_byteAt_8 rfl (lv_at hl 0 rfl) ?_
    refine q_getR (pc := 9) (q := 72) (o := 1) hx hb hts hown hK hw rfl fg_X11_7 dX11_byteAt_9 ?_
    refine lv_sipush (pc := 12) (v := (iI 205)) hx hb dX11_byteAt_12 (by decide) ?_
    refine lv_bipush (pc := 15) (v := (iI 50)) hx hb dX11_byteAt_15 (by decide) ?_
    refine lv_aload_n (pc := 17) hx hb dX11_byteAt_17 rfl (lv_at hl 0 rfl) ?_
    refine q_getI (pc := 18) (q := 72) hx hb hts hown hK hw rfl fg_X11_203 dX11_byteAt_18 ?_
    refine lv_imul (pc := 21) hx hb dX11_byteAt_21 ?_
    refine lv_iadd (pc := 22) hx hb dX11_byteAt_22 ?_
    refine lv_iload_n (pc := 23) hx hb dX11_byteAt_23 rfl (lv_at hl 1 rfl) ?_
    refine lv_iadd (pc := 24) hx hb dX11_byteAt_24 ?_
    refine q_ald (pc := 25) (q := 73) (n := 305) hx hb hK hw rfl dX11_byteAt_25 hs (fun v1 hs => ?_)
    refine lv_goto (pc := 26) (tgt := 30) hx hb dX11_byteAt_26 (by decide) ?_
    exact q_iret hret dX11_byteAt_30 hw hs

set_option maxHeartbeats 4000000 in
theorem c_X11_isDigit (l : Launch) (G : GG) (a0 : Int32) (h : Mem) (v : Int32)  (hs : f_X11_isDigit h a0 = some v) : Sat l G yX11_isDigit cX11_isDigit 1 (some .boolean) 1 [.int a0] h (some (.int v)) h := by
  refine Sat.mkZ (by decide) (Nat.le_of_ble_eq_true rfl) ?_
  intro p e R s m args below meth c Q F hret hw ls hl
  obtain ⟨hx, hb, hml, hown, hts, hK, hSt, hN, hR⟩ := F
  have hl : lv_has ls 1 [(0, .int a0)] := hl
  unfold f_X11_isDigit at hs
  refine lv_iload_n (pc := 0) hx hb dX11_isDigit_0 rfl (lv_at hl 0 rfl) ?_
  refine lv_bipush (pc := 1) (v := (iI 48)) hx hb dX11_isDigit_1 (by decide) ?_
  refine lv_bipush (pc := 3) (v := (iI 57)) hx hb dX11_isDigit_3 (by decide) ?_
  obtain ⟨v1, ev, hs⟩ := q_cal hs
  refine q_callS (pc := 5) (As := [.int a0, .int (iI 48), .int (iI 57)]) (rest := []) (rs := [.int v1]) hx hb hml hl.1 hts hown hK hSt hN hw (c_X11_in l G a0 (iI 48) (iI 57) h v1 ev) cs_X11_71 (rm_ok hR (by decide)) rfl (Nat.le_of_ble_eq_true rfl) rfl rfl dX11_isDigit_5 (fun H locs hw => ?_)
  exact q_zret hret dX11_isDigit_8 hw hs

set_option maxHeartbeats 4000000 in
theorem c_X11_fails (l : Launch) (G : GG)  (h : Mem) (v : Int32) (h' : Mem) (hs : f_X11_fails h  = some (v, h')) : Sat l G yX11_fails cX11_fails 1 (some .int) 0 [.ref (G.2.2.1 72)] h (some (.int v)) h' := by
  refine Sat.mkI (by decide) (Nat.le_of_ble_eq_true rfl) ?_
  intro p e R s m args below meth c Q F hret hw ls hl
  obtain ⟨hx, hb, hml, hown, hts, hK, hSt, hN, hR⟩ := F
  have hl : lv_has ls 1 [(0, .ref (G.2.2.1 72))] := hl
  unfold f_X11_fails at hs
  refine lv_aload_n (pc := 0) hx hb dX11_fails_0 rfl (lv_at hl 0 rfl) ?_
  refine lv_iconst (pc := 1) (v := (iI 0)) hx hb dX11_fails_1 rfl ?_
  refine q_putZ (pc := 2) (q := 72) hx hb hts hown hK hw rfl fp_X11_206 dX11_fails_2 hs (fun h1 H locs hw hs => ?_)
  refine lv_iconst (pc := 5) (v := (iI 0)) hx hb dX11_fails_5 rfl ?_
  exact q_iretW hret dX11_fails_6 hw hs

set_option maxHeartbeats 4000000 in
theorem c_X11_number (l : Launch) (G : GG)  (h : Mem) (v : Int32) (h' : Mem) (hs : f_X11_number h  = some (v, h')) : Sat l G yX11_number cX11_number 3 (some .int) 2 [.ref (G.2.2.1 72)] h (some (.int v)) h' := by
  refine Sat.mkI (by decide) (Nat.le_of_ble_eq_true rfl) ?_
  intro p e R s m args below meth c Q F hret hw ls hl
  obtain ⟨hx, hb, hml, hown, hts, hK, hSt, hN, hR⟩ := F
  have hl : lv_has ls 3 [(0, .ref (G.2.2.1 72))] := hl
  unfold f_X11_number at hs
  refine lv_iconst (pc := 0) (v := (iI 0)) hx hb dX11_number_0 rfl ?_
  refine lv_istore_n (pc := 1) (lv' := [(1, .int (iI 0)), (0, .ref (G.2.2.1 72))]) hx hb dX11_number_1 rfl hl (by decide) rfl (fun ls hl => ?_)
  refine lv_iconst (pc := 2) (v := (iI 0)) hx hb dX11_number_2 rfl ?_
  refine lv_istore_n (pc := 3) (lv' := [(2, .int (iI 0)), (1, .int (iI 0)), (0, .ref (G.2.2.1 72))]) hx hb dX11_number_3 rfl hl (by decide) rfl (fun ls hl => ?_)
  refine (q_lo3 (P0 := fun (x1 : Int32) (x2 : Int32) (h3 : Mem) => ∀ (H : Heap) (locs : List Loc), IW G s h3 H locs → ∀ ls : Array Slot, lv_has ls 3 [(0, .ref (G.2.2.1 72)), (1, .int x1), (2, .int x2)] → W p l e R s m args below meth c H locs 0 0 Q (F0 m 4 ls [])) hs ?_) _ _ hw _ (lv_sub hl [2, 1, 0] rfl)
  intro K4 hK4 x1 x2 h3 hs H locs hw ls hl
  unfold f_X11_number_k4 at hs
  refine lv_iload_n (pc := 4) hx hb dX11_number_4 rfl (lv_at hl 2 rfl) ?_
  refine lv_iconst (pc := 5) (v := (iI 4)) hx hb dX11_number_5 rfl ?_
  refine lv_icmp_ge (pc := 6) (tgt := 56) hx hb dX11_number_6 (by decide) (fun hc => ?_) (fun hc => ?_)
  · replace hs := q_t hc hs
    refine lv_iload_n (pc := 56) hx hb dX11_number_56 rfl (lv_at hl 1 rfl) ?_
    exact q_iretW hret dX11_number_57 hw hs
  · replace hs := q_f hc hs
    refine lv_aload_n (pc := 9) hx hb dX11_number_9 rfl (lv_at hl 0 rfl) ?_
    refine lv_aload_n (pc := 10) hx hb dX11_number_10 rfl (lv_at hl 0 rfl) ?_
    refine q_getI (pc := 11) (q := 72) hx hb hts hown hK hw rfl fg_X11_209 dX11_number_11 ?_
    obtain ⟨v5, ev, hs⟩ := q_cal hs
    refine q_callV (pc := 14) (q := 72) (As := [.int (gI h3 72 17)]) (rest := []) (rs := [.int v5]) hx hb hml hl.1 hts hown hK hSt hN hw (c_X11_byteAt l G (gI h3 72 17) h3 v5 ev) rfl rfl cv_X11_212 (rm_ok hR (by decide)) rfl (Nat.le_of_ble_eq_true rfl) rfl rfl dX11_number_14 (fun H locs hw => ?_)
    obtain ⟨v6, ev, hs⟩ := q_cal hs
    refine q_callS (pc := 17) (As := [.int v5]) (rest := []) (rs := [.int v6]) hx hb hml hl.1 hts hown hK hSt hN hw (c_X11_isDigit l G v5 h3 v6 ev) cs_X11_215 (rm_ok hR (by decide)) rfl (Nat.le_of_ble_eq_true rfl) rfl rfl dX11_number_17 (fun H locs hw => ?_)
    refine lv_if_eq (pc := 20) (tgt := 56) hx hb dX11_number_20 (by decide) (fun hc => ?_) (fun hc => ?_)
    · replace hs := q_t hc hs
      refine lv_iload_n (pc := 56) hx hb dX11_number_56 rfl (lv_at hl 1 rfl) ?_
      exact q_iretW hret dX11_number_57 hw hs
    · replace hs := q_f hc hs
      refine lv_bipush (pc := 23) (v := (iI 10)) hx hb dX11_number_23 (by decide) ?_
      refine lv_iload_n (pc := 25) hx hb dX11_number_25 rfl (lv_at hl 1 rfl) ?_
      refine lv_imul (pc := 26) hx hb dX11_number_26 ?_
      refine lv_aload_n (pc := 27) hx hb dX11_number_27 rfl (lv_at hl 0 rfl) ?_
      refine lv_aload_n (pc := 28) hx hb dX11_number_28 rfl (lv_at hl 0 rfl) ?_
      refine q_getI (pc := 29) (q := 72) hx hb hts hown hK hw rfl fg_X11_209 dX11_number_29 ?_
      obtain ⟨v7, ev, hs⟩ := q_cal hs
      refine q_callV (pc := 32) (q := 72) (As := [.int (gI h3 72 17)]) (rest := [.int ((iI 10) * x1)]) (rs := [.int v7, .int ((iI 10) * x1)]) hx hb hml hl.1 hts hown hK hSt hN hw (c_X11_byteAt l G (gI h3 72 17) h3 v7 ev) rfl rfl cv_X11_212 (rm_ok hR (by decide)) rfl (Nat.le_of_ble_eq_true rfl) rfl rfl dX11_number_32 (fun H locs hw => ?_)
      refine lv_iadd (pc := 35) hx hb dX11_number_35 ?_
      refine lv_bipush (pc := 36) (v := (iI 48)) hx hb dX11_number_36 (by decide) ?_
      refine lv_isub (pc := 38) hx hb dX11_number_38 ?_
      obtain ⟨x8, ex8, hs⟩ := q_nm hs
      refine q_topI ex8 ?_
      refine lv_istore_n (pc := 39) (lv' := [(1, .int x8), (0, .ref (G.2.2.1 72)), (2, .int x2)]) hx hb dX11_number_39 rfl hl (by decide) rfl (fun ls hl => ?_)
      refine lv_aload_n (pc := 40) hx hb dX11_number_40 rfl (lv_at hl 1 rfl) ?_
      refine lv_dup (pc := 41) hx hb dX11_number_41 rfl ?_
      refine q_getI (pc := 42) (q := 72) hx hb hts hown hK hw rfl fg_X11_209 dX11_number_42 ?_
      refine lv_iconst (pc := 45) (v := (iI 1)) hx hb dX11_number_45 rfl ?_
      refine lv_iadd (pc := 46) hx hb dX11_number_46 ?_
      refine q_putI (pc := 47) (q := 72) hx hb hts hown hK hw rfl fp_X11_209 dX11_number_47 hs (fun h9 H locs hw hs => ?_)
      obtain ⟨x10, ex10, hs⟩ := q_nm hs
      refine lv_iinc (pc := 50) (v := x10) (lv' := [(2, .int x10), (1, .int x8), (0, .ref (G.2.2.1 72))]) hx hb dX11_number_50 hl (k := 2) rfl ex10 (by decide) rfl (fun ls hl => ?_)
      refine lv_goto (pc := 53) (tgt := 4) hx hb dX11_number_53 (by decide) ?_
      exact hK4 _ _ _ hs _ _ hw _ (lv_sub hl [2, 1, 0] rfl)

set_option maxHeartbeats 4000000 in
set_option maxRecDepth 100000 in
theorem c_X11_named (l : Launch) (G : GG) (a1 : Int32) (h : Mem) (v : Int32) (h' : Mem) (hs : f_X11_named h a1 = some (v, h')) : Sat l G yX11_named cX11_named 5 (some .int) 1 [.ref (G.2.2.1 72), .int a1] h (some (.int v)) h' := by
  refine Sat.mkI (by decide) (Nat.le_of_ble_eq_true rfl) ?_
  intro p e R s m args below meth c Q F hret hw ls hl
  obtain ⟨hx, hb, hml, hown, hts, hK, hSt, hN, hR⟩ := F
  have hl : lv_has ls 5 [(0, .ref (G.2.2.1 72)), (1, .int a1)] := hl
  unfold f_X11_named at hs
  refine lv_iload_n (pc := 0) hx hb dX11_named_0 rfl (lv_at hl 1 rfl) ?_
  refine lv_aload_n (pc := 1) hx hb dX11_named_1 rfl (lv_at hl 0 rfl) ?_
  refine q_getI (pc := 2) (q := 72) hx hb hts hown hK hw rfl fg_X11_203 dX11_named_2 ?_
  refine q_join1 (P0 := fun (x1 : Int32) => ∀ (H : Heap) (locs : List Loc), IW G s h H locs → ∀ ls : Array Slot, lv_has ls 5 [(0, .ref (G.2.2.1 72)), (1, .int a1)] → W p l e R s m args below meth c H locs 0 0 Q (F0 m 15 ls [.int x1, .int a1])) hs ?_ ?_
  · intro x1 hs H locs hw ls hl
    refine q_join1 (P0 := fun (x3 : Int32) => ∀ (H : Heap) (locs : List Loc), IW G s h H locs → ∀ ls : Array Slot, lv_has ls 5 [(0, .ref (G.2.2.1 72)), (1, .int a1)] → W p l e R s m args below meth c H locs 0 0 Q (F0 m 23 ls [.int x3])) hs ?_ ?_
    · intro x3 hs H locs hw ls hl
      unfold f_X11_named_k4 at hs
      refine lv_istore_n (pc := 23) (lv' := [(2, .int x3), (0, .ref (G.2.2.1 72)), (1, .int a1)]) hx hb dX11_named_23 rfl hl (by decide) rfl (fun ls hl => ?_)
      refine lv_iload_n (pc := 24) hx hb dX11_named_24 rfl (lv_at hl 2 rfl) ?_
      refine lv_aload_n (pc := 25) hx hb dX11_named_25 rfl (lv_at hl 1 rfl) ?_
      refine q_getI (pc := 26) (q := 72) hx hb hts hown hK hw rfl fg_X11_203 dX11_named_26 ?_
      refine q_join1 (P0 := fun (x5 : Int32) => ∀ (H : Heap) (locs : List Loc), IW G s h H locs → ∀ ls : Array Slot, lv_has ls 5 [(0, .ref (G.2.2.1 72)), (1, .int a1), (2, .int x3)] → W p l e R s m args below meth c H locs 0 0 Q (F0 m 39 ls [.int x5, .int a1])) hs ?_ ?_
      · intro x5 hs H locs hw ls hl
        refine q_join1 (P0 := fun (x7 : Int32) => ∀ (H : Heap) (locs : List Loc), IW G s h H locs → ∀ ls : Array Slot, lv_has ls 5 [(0, .ref (G.2.2.1 72)), (1, .int a1), (2, .int x3)] → W p l e R s m args below meth c H locs 0 0 Q (F0 m 47 ls [.int x7])) hs ?_ ?_
        · intro x7 hs H locs hw ls hl
          unfold f_X11_named_k8 at hs
          refine lv_istore_n (pc := 47) (lv' := [(3, .int x7), (0, .ref (G.2.2.1 72)), (1, .int a1), (2, .int x3)]) hx hb dX11_named_47 rfl hl (by decide) rfl (fun ls hl => ?_)
          refine lv_iload_n (pc := 48) hx hb dX11_named_48 rfl (lv_at hl 2 rfl) ?_
          refine lv_aload_n (pc := 49) hx hb dX11_named_49 rfl (lv_at hl 1 rfl) ?_
          refine q_getI (pc := 50) (q := 72) hx hb hts hown hK hw rfl fg_X11_203 dX11_named_50 ?_
          refine q_join1 (P0 := fun (x9 : Int32) => ∀ (H : Heap) (locs : List Loc), IW G s h H locs → ∀ ls : Array Slot, lv_has ls 5 [(0, .ref (G.2.2.1 72)), (2, .int x3), (3, .int x7)] → W p l e R s m args below meth c H locs 0 0 Q (F0 m 63 ls [.int x9, .int a1])) hs ?_ ?_
          · intro x9 hs H locs hw ls hl
            refine q_join1 (P0 := fun (x11 : Int32) => ∀ (H : Heap) (locs : List Loc), IW G s h H locs → ∀ ls : Array Slot, lv_has ls 5 [(0, .ref (G.2.2.1 72)), (2, .int x3), (3, .int x7)] → W p l e R s m args below meth c H locs 0 0 Q (F0 m 71 ls [.int x11])) hs ?_ ?_
            · intro x11 hs H locs hw ls hl
              unfold f_X11_named_k12 at hs
              refine lv_istore (pc := 71) (lv' := [(4, .int x11), (0, .ref (G.2.2.1 72)), (2, .int x3), (3, .int x7)]) hx hb dX11_named_71 hl (by decide) rfl (fun ls hl => ?_)
              refine lv_iload_n (pc := 73) hx hb dX11_named_73 rfl (lv_at hl 2 rfl) ?_
              refine q_join0 (P0 := ∀ (H : Heap) (locs : List Loc), IW G s h H locs → ∀ ls : Array Slot, lv_has ls 5 [(0, .ref (G.2.2.1 72)), (2, .int x3), (3, .int x7)] → W p l e R s m args below meth c H locs 0 0 Q (F0 m 91 ls [])) hs ?_ ?_
              · intro  hs H locs hw ls hl
                unfold f_X11_named_k13 at hs
                refine lv_aload_n (pc := 91) hx hb dX11_named_91 rfl (lv_at hl 0 rfl) ?_
                refine lv_dup (pc := 92) hx hb dX11_named_92 rfl ?_
                refine q_getI (pc := 93) (q := 72) hx hb hts hown hK hw rfl fg_X11_209 dX11_named_93 ?_
                refine lv_iconst (pc := 96) (v := (iI 1)) hx hb dX11_named_96 rfl ?_
                refine lv_iadd (pc := 97) hx hb dX11_named_97 ?_
                refine q_putI (pc := 98) (q := 72) hx hb hts hown hK hw rfl fp_X11_209 dX11_named_98 hs (fun h14 H locs hw hs => ?_)
                refine lv_iload_n (pc := 101) hx hb dX11_named_101 rfl (lv_at hl 1 rfl) ?_
                refine lv_if_eq (pc := 102) (tgt := 112) hx hb dX11_named_102 (by decide) (fun hc => ?_) (fun hc => ?_)
                · replace hs := q_t hc hs
                  refine lv_iload_n (pc := 112) hx hb dX11_named_112 rfl (lv_at hl 2 rfl) ?_
                  refine lv_if_eq (pc := 113) (tgt := 123) hx hb dX11_named_113 (by decide) (fun hc => ?_) (fun hc => ?_)
                  · replace hs := q_t hc hs
                    refine lv_aload_n (pc := 123) hx hb dX11_named_123 rfl (lv_at hl 0 rfl) ?_
                    refine q_getI (pc := 124) (q := 72) hx hb hts hown hK hw rfl fg_X11_227 dX11_named_124 ?_
                    exact q_iretW hret dX11_named_127 hw hs
                  · replace hs := q_f hc hs
                    refine lv_aload_n (pc := 116) hx hb dX11_named_116 rfl (lv_at hl 0 rfl) ?_
                    refine q_getI (pc := 117) (q := 72) hx hb hts hown hK hw rfl fg_X11_224 dX11_named_117 ?_
                    refine lv_goto (pc := 120) (tgt := 127) hx hb dX11_named_120 (by decide) ?_
                    exact q_iretW hret dX11_named_127 hw hs
                · replace hs := q_f hc hs
                  refine lv_aload_n (pc := 105) hx hb dX11_named_105 rfl (lv_at hl 0 rfl) ?_
                  refine q_getI (pc := 106) (q := 72) hx hb hts hown hK hw rfl fg_X11_221 dX11_named_106 ?_
                  refine lv_goto (pc := 109) (tgt := 127) hx hb dX11_named_109 (by decide) ?_
                  exact q_iretW hret dX11_named_127 hw hs
              · intro K13 hK13 hs
                refine lv_if_ne (pc := 74) (tgt := 91) hx hb dX11_named_74 (by decide) (fun hc => ?_) (fun hc => ?_)
                · replace hs := q_t hc hs
                  exact hK13 hs _ _ hw _ (lv_sub hl [1, 2, 3] rfl)
                · replace hs := q_f (fun z => z hc) hs
                  refine lv_iload_n (pc := 77) hx hb dX11_named_77 rfl (lv_at hl 3 rfl) ?_
                  refine lv_if_ne (pc := 78) (tgt := 91) hx hb dX11_named_78 (by decide) (fun hc => ?_) (fun hc => ?_)
                  · replace hs := q_t hc hs
                    exact hK13 hs _ _ hw _ (lv_sub hl [1, 2, 3] rfl)
                  · replace hs := q_f (fun z => z hc) hs
                    refine lv_iload (pc := 81) hx hb dX11_named_81 (lv_at hl 0 rfl) ?_
                    refine lv_if_ne (pc := 83) (tgt := 91) hx hb dX11_named_83 (by decide) (fun hc => ?_) (fun hc => ?_)
                    · replace hs := q_t hc hs
                      exact hK13 hs _ _ hw _ (lv_sub hl [1, 2, 3] rfl)
                    · replace hs := q_f (fun z => z hc) hs
                      refine lv_aload_n (pc := 86) hx hb dX11_named_86 rfl (lv_at hl 1 rfl) ?_
                      obtain ⟨v15, h16, ev, hs⟩ := q_cal2 hs
                      refine q_callV (pc := 87) (q := 72) (As := []) (rest := []) (rs := [.int v15]) hx hb hml hl.1 hts hown hK hSt hN hw (c_X11_fails l G h v15 h16 ev) rfl rfl cv_X11_218 (rm_ok hR (by decide)) rfl (Nat.le_of_ble_eq_true rfl) rfl rfl dX11_named_87 (fun H locs hw => ?_)
                      exact q_iretW hret dX11_named_90 hw hs
            · intro K12 hK12 hs
              refine lv_icmp_ne (pc := 63) (tgt := 70) hx hb dX11_named_63 (by decide) (fun hc => ?_) (fun hc => ?_)
              · replace hs := q_t hc hs
                refine lv_iconst (pc := 70) (v := (iI 0)) hx hb dX11_named_70 rfl ?_
                exact hK12 _ hs _ _ hw _ (lv_sub hl [0, 1, 2] rfl)
              · replace hs := q_f (fun z => z hc) hs
                refine lv_iconst (pc := 66) (v := (iI 1)) hx hb dX11_named_66 rfl ?_
                refine lv_goto (pc := 67) (tgt := 71) hx hb dX11_named_67 (by decide) ?_
                exact hK12 _ hs _ _ hw _ (lv_sub hl [0, 1, 2] rfl)
          · intro K10 hK10 hs
            refine lv_if_ne (pc := 53) (tgt := 61) hx hb dX11_named_53 (by decide) (fun hc => ?_) (fun hc => ?_)
            · replace hs := q_t hc hs
              refine lv_bipush (pc := 61) (v := (iI 116)) hx hb dX11_named_61 (by decide) ?_
              exact hK10 _ hs _ _ hw _ (lv_sub hl [1, 3, 0] rfl)
            · replace hs := q_f (fun z => z hc) hs
              refine lv_bipush (pc := 56) (v := (iI 109)) hx hb dX11_named_56 (by decide) ?_
              refine lv_goto (pc := 58) (tgt := 63) hx hb dX11_named_58 (by decide) ?_
              exact hK10 _ hs _ _ hw _ (lv_sub hl [1, 3, 0] rfl)
        · intro K8 hK8 hs
          refine lv_icmp_ne (pc := 39) (tgt := 46) hx hb dX11_named_39 (by decide) (fun hc => ?_) (fun hc => ?_)
          · replace hs := q_t hc hs
            refine lv_iconst (pc := 46) (v := (iI 0)) hx hb dX11_named_46 rfl ?_
            exact hK8 _ hs _ _ hw _ (lv_sub hl [0, 1, 2] rfl)
          · replace hs := q_f (fun z => z hc) hs
            refine lv_iconst (pc := 42) (v := (iI 1)) hx hb dX11_named_42 rfl ?_
            refine lv_goto (pc := 43) (tgt := 47) hx hb dX11_named_43 (by decide) ?_
            exact hK8 _ hs _ _ hw _ (lv_sub hl [0, 1, 2] rfl)
      · intro K6 hK6 hs
        refine lv_if_ne (pc := 29) (tgt := 37) hx hb dX11_named_29 (by decide) (fun hc => ?_) (fun hc => ?_)
        · replace hs := q_t hc hs
          refine lv_bipush (pc := 37) (v := (iI 111)) hx hb dX11_named_37 (by decide) ?_
          exact hK6 _ hs _ _ hw _ (lv_sub hl [1, 2, 0] rfl)
        · replace hs := q_f (fun z => z hc) hs
          refine lv_bipush (pc := 32) (v := (iI 99)) hx hb dX11_named_32 (by decide) ?_
          refine lv_goto (pc := 34) (tgt := 39) hx hb dX11_named_34 (by decide) ?_
          exact hK6 _ hs _ _ hw _ (lv_sub hl [1, 2, 0] rfl)
    · intro K4 hK4 hs
      refine lv_icmp_ne (pc := 15) (tgt := 22) hx hb dX11_named_15 (by decide) (fun hc => ?_) (fun hc => ?_)
      · replace hs := q_t hc hs
        refine lv_iconst (pc := 22) (v := (iI 0)) hx hb dX11_named_22 rfl ?_
        exact hK4 _ hs _ _ hw _ (lv_sub hl [0, 1] rfl)
      · replace hs := q_f (fun z => z hc) hs
        refine lv_iconst (pc := 18) (v := (iI 1)) hx hb dX11_named_18 rfl ?_
        refine lv_goto (pc := 19) (tgt := 23) hx hb dX11_named_19 (by decide) ?_
        exact hK4 _ hs _ _ hw _ (lv_sub hl [0, 1] rfl)
  · intro K2 hK2 hs
    refine lv_if_ne (pc := 5) (tgt := 13) hx hb dX11_named_5 (by decide) (fun hc => ?_) (fun hc => ?_)
    · replace hs := q_t hc hs
      refine lv_bipush (pc := 13) (v := (iI 105)) hx hb dX11_named_13 (by decide) ?_
      exact hK2 _ hs _ _ hw _ (lv_sub hl [0, 1] rfl)
    · replace hs := q_f (fun z => z hc) hs
      refine lv_bipush (pc := 8) (v := (iI 114)) hx hb dX11_named_8 (by decide) ?_
      refine lv_goto (pc := 10) (tgt := 15) hx hb dX11_named_10 (by decide) ?_
      exact hK2 _ hs _ _ hw _ (lv_sub hl [0, 1] rfl)

def RC_WALK (l : Launch) (G : GG) (rec : Nat → Mem → Option (Int32 × Mem)) (d : Nat) : Prop :=
  (∀  (h : Mem) (v : Int32) (h' : Mem), rec 0 h = some (v, h') → Sat l G yX11_factor cX11_factor 3 (some .int) d [.ref (G.2.2.1 72)] h (some (.int v)) h') ∧
  (∀  (h : Mem) (v : Int32) (h' : Mem), rec 1 h = some (v, h') → Sat l G yX11_product cX11_product 4 (some .int) d [.ref (G.2.2.1 72)] h (some (.int v)) h') ∧
  (∀  (h : Mem) (v : Int32) (h' : Mem), rec 2 h = some (v, h') → Sat l G yX11_sum cX11_sum 4 (some .int) d [.ref (G.2.2.1 72)] h (some (.int v)) h') ∧
  (∀  (h : Mem) (v : Int32) (h' : Mem), rec 3 h = some (v, h') → Sat l G yX11_compared cX11_compared 5 (some .int) d [.ref (G.2.2.1 72)] h (some (.int v)) h') ∧
  (∀  (h : Mem) (v : Int32) (h' : Mem), rec 4 h = some (v, h') → Sat l G yX11_both cX11_both 3 (some .int) d [.ref (G.2.2.1 72)] h (some (.int v)) h') ∧
  (∀  (h : Mem) (v : Int32) (h' : Mem), rec 5 h = some (v, h') → Sat l G yX11_whole cX11_whole 3 (some .int) d [.ref (G.2.2.1 72)] h (some (.int v)) h')

set_option maxHeartbeats 4000000 in
set_option maxRecDepth 100000 in
theorem cb_X11_factor (l : Launch) (G : GG) (d : Nat) (rec : Nat → Mem → Option (Int32 × Mem)) (hrec : RC_WALK l G rec d) (hd : 3 ≤ d)  (h : Mem) (v : Int32) (h' : Mem) (hs : b_X11_factor rec  h = some (v, h')) : Sat l G yX11_factor cX11_factor 3 (some .int) (d + 1) [.ref (G.2.2.1 72)] h (some (.int v)) h' := by
  refine Sat.mkI (by decide) (Nat.le_of_ble_eq_true rfl) ?_
  intro p e R s m args below meth c Q F hret hw ls hl
  obtain ⟨hx, hb, hml, hown, hts, hK, hSt, hN, hR⟩ := F
  have hl : lv_has ls 3 [(0, .ref (G.2.2.1 72))] := hl
  unfold b_X11_factor at hs
  refine lv_aload_n (pc := 0) hx hb dX11_factor_0 rfl (lv_at hl 0 rfl) ?_
  refine lv_aload_n (pc := 1) hx hb dX11_factor_1 rfl (lv_at hl 0 rfl) ?_
  refine q_getI (pc := 2) (q := 72) hx hb hts hown hK hw rfl fg_X11_209 dX11_factor_2 ?_
  obtain ⟨v1, ev, hs⟩ := q_cal hs
  refine q_callV (pc := 5) (q := 72) (As := [.int (gI h 72 17)]) (rest := []) (rs := [.int v1]) hx hb hml hl.1 hts hown hK hSt hN hw (c_X11_byteAt l G (gI h 72 17) h v1 ev) rfl rfl cv_X11_212 (rm_ok hR (by omega)) rfl (Nat.le_of_ble_eq_true rfl) rfl rfl dX11_factor_5 (fun H locs hw => ?_)
  refine lv_istore_n (pc := 8) (lv' := [(1, .int v1), (0, .ref (G.2.2.1 72))]) hx hb dX11_factor_8 rfl hl (by decide) rfl (fun ls hl => ?_)
  refine lv_iload_n (pc := 9) hx hb dX11_factor_9 rfl (lv_at hl 0 rfl) ?_
  obtain ⟨v2, ev, hs⟩ := q_cal hs
  refine q_callS (pc := 10) (As := [.int v1]) (rest := []) (rs := [.int v2]) hx hb hml hl.1 hts hown hK hSt hN hw (c_X11_isDigit l G v1 h v2 ev) cs_X11_215 (rm_ok hR (by omega)) rfl (Nat.le_of_ble_eq_true rfl) rfl rfl dX11_factor_10 (fun H locs hw => ?_)
  refine lv_if_eq (pc := 13) (tgt := 21) hx hb dX11_factor_13 (by decide) (fun hc => ?_) (fun hc => ?_)
  · replace hs := q_t hc hs
    refine lv_iload_n (pc := 21) hx hb dX11_factor_21 rfl (lv_at hl 0 rfl) ?_
    refine lv_bipush (pc := 22) (v := (iI 33)) hx hb dX11_factor_22 (by decide) ?_
    refine q_join0 (P0 := ∀ (H : Heap) (locs : List Loc), IW G s h H locs → ∀ ls : Array Slot, lv_has ls 3 [(0, .ref (G.2.2.1 72)), (1, .int v1)] → W p l e R s m args below meth c H locs 0 0 Q (F0 m 39 ls [])) hs ?_ ?_
    · intro  hs H locs hw ls hl
      unfold b_X11_factor_k3 at hs
      refine lv_aload_n (pc := 39) hx hb dX11_factor_39 rfl (lv_at hl 0 rfl) ?_
      refine q_getI (pc := 40) (q := 72) hx hb hts hown hK hw rfl fg_X11_236 dX11_factor_40 ?_
      refine lv_iconst (pc := 43) (v := (iI 5)) hx hb dX11_factor_43 rfl ?_
      refine lv_icmp_ne (pc := 44) (tgt := 52) hx hb dX11_factor_44 (by decide) (fun hc => ?_) (fun hc => ?_)
      · replace hs := q_t hc hs
        refine lv_aload_n (pc := 52) hx hb dX11_factor_52 rfl (lv_at hl 0 rfl) ?_
        refine lv_dup (pc := 53) hx hb dX11_factor_53 rfl ?_
        refine q_getI (pc := 54) (q := 72) hx hb hts hown hK hw rfl fg_X11_236 dX11_factor_54 ?_
        refine lv_iconst (pc := 57) (v := (iI 1)) hx hb dX11_factor_57 rfl ?_
        refine lv_iadd (pc := 58) hx hb dX11_factor_58 ?_
        refine q_putI (pc := 59) (q := 72) hx hb hts hown hK hw rfl fp_X11_236 dX11_factor_59 hs (fun h4 H locs hw hs => ?_)
        refine lv_aload_n (pc := 62) hx hb dX11_factor_62 rfl (lv_at hl 0 rfl) ?_
        refine lv_dup (pc := 63) hx hb dX11_factor_63 rfl ?_
        refine q_getI (pc := 64) (q := 72) hx hb hts hown hK hw rfl fg_X11_209 dX11_factor_64 ?_
        refine lv_iconst (pc := 67) (v := (iI 1)) hx hb dX11_factor_67 rfl ?_
        refine lv_iadd (pc := 68) hx hb dX11_factor_68 ?_
        refine q_putI (pc := 69) (q := 72) hx hb hts hown hK hw rfl fp_X11_209 dX11_factor_69 hs (fun h5 H locs hw hs => ?_)
        refine lv_iload_n (pc := 72) hx hb dX11_factor_72 rfl (lv_at hl 1 rfl) ?_
        refine lv_bipush (pc := 73) (v := (iI 33)) hx hb dX11_factor_73 (by decide) ?_
        refine q_join2 (P0 := fun (x6 : Int32) (h7 : Mem) => ∀ (H : Heap) (locs : List Loc), IW G s h7 H locs → ∀ ls : Array Slot, lv_has ls 3 [(0, .ref (G.2.2.1 72)), (1, .int v1)] → W p l e R s m args below meth c H locs 0 0 Q (F0 m 89 ls [.int x6])) hs ?_ ?_
        · intro x6 h7 hs H locs hw ls hl
          unfold b_X11_factor_k8 at hs
          refine lv_istore_n (pc := 89) (lv' := [(2, .int x6), (0, .ref (G.2.2.1 72)), (1, .int v1)]) hx hb dX11_factor_89 rfl hl (by decide) rfl (fun ls hl => ?_)
          refine lv_aload_n (pc := 90) hx hb dX11_factor_90 rfl (lv_at hl 1 rfl) ?_
          refine lv_dup (pc := 91) hx hb dX11_factor_91 rfl ?_
          refine q_getI (pc := 92) (q := 72) hx hb hts hown hK hw rfl fg_X11_236 dX11_factor_92 ?_
          refine lv_iconst (pc := 95) (v := (iI 1)) hx hb dX11_factor_95 rfl ?_
          refine lv_isub (pc := 96) hx hb dX11_factor_96 ?_
          refine q_putI (pc := 97) (q := 72) hx hb hts hown hK hw rfl fp_X11_236 dX11_factor_97 hs (fun h9 H locs hw hs => ?_)
          refine lv_iload_n (pc := 100) hx hb dX11_factor_100 rfl (lv_at hl 2 rfl) ?_
          refine lv_bipush (pc := 101) (v := (iI 33)) hx hb dX11_factor_101 (by decide) ?_
          refine lv_icmp_ne (pc := 103) (tgt := 116) hx hb dX11_factor_103 (by decide) (fun hc => ?_) (fun hc => ?_)
          · replace hs := q_t hc hs
            refine lv_aload_n (pc := 116) hx hb dX11_factor_116 rfl (lv_at hl 1 rfl) ?_
            refine q_getI (pc := 117) (q := 72) hx hb hts hown hK hw rfl fg_X11_206 dX11_factor_117 ?_
            refine lv_if_eq (pc := 120) (tgt := 148) hx hb dX11_factor_120 (by decide) (fun hc => ?_) (fun hc => ?_)
            · replace hs := q_t hc hs
              refine lv_aload_n (pc := 148) hx hb dX11_factor_148 rfl (lv_at hl 1 rfl) ?_
              obtain ⟨v10, h11, ev, hs⟩ := q_cal2 hs
              refine q_callV (pc := 149) (q := 72) (As := []) (rest := []) (rs := [.int v10]) hx hb hml hl.1 hts hown hK hSt hN hw (c_X11_fails l G h9 v10 h11 ev) rfl rfl cv_X11_218 (rm_ok hR (by omega)) rfl (Nat.le_of_ble_eq_true rfl) rfl rfl dX11_factor_149 (fun H locs hw => ?_)
              exact q_iretW hret dX11_factor_152 hw hs
            · replace hs := q_f hc hs
              refine lv_aload_n (pc := 123) hx hb dX11_factor_123 rfl (lv_at hl 1 rfl) ?_
              refine lv_aload_n (pc := 124) hx hb dX11_factor_124 rfl (lv_at hl 1 rfl) ?_
              refine q_getI (pc := 125) (q := 72) hx hb hts hown hK hw rfl fg_X11_209 dX11_factor_125 ?_
              obtain ⟨v12, ev, hs⟩ := q_cal hs
              refine q_callV (pc := 128) (q := 72) (As := [.int (gI h9 72 17)]) (rest := []) (rs := [.int v12]) hx hb hml hl.1 hts hown hK hSt hN hw (c_X11_byteAt l G (gI h9 72 17) h9 v12 ev) rfl rfl cv_X11_212 (rm_ok hR (by omega)) rfl (Nat.le_of_ble_eq_true rfl) rfl rfl dX11_factor_128 (fun H locs hw => ?_)
              refine lv_bipush (pc := 131) (v := (iI 41)) hx hb dX11_factor_131 (by decide) ?_
              refine lv_icmp_ne (pc := 133) (tgt := 148) hx hb dX11_factor_133 (by decide) (fun hc => ?_) (fun hc => ?_)
              · replace hs := q_t hc hs
                refine lv_aload_n (pc := 148) hx hb dX11_factor_148 rfl (lv_at hl 1 rfl) ?_
                obtain ⟨v13, h14, ev, hs⟩ := q_cal2 hs
                refine q_callV (pc := 149) (q := 72) (As := []) (rest := []) (rs := [.int v13]) hx hb hml hl.1 hts hown hK hSt hN hw (c_X11_fails l G h9 v13 h14 ev) rfl rfl cv_X11_218 (rm_ok hR (by omega)) rfl (Nat.le_of_ble_eq_true rfl) rfl rfl dX11_factor_149 (fun H locs hw => ?_)
                exact q_iretW hret dX11_factor_152 hw hs
              · replace hs := q_f (fun z => z hc) hs
                refine lv_aload_n (pc := 136) hx hb dX11_factor_136 rfl (lv_at hl 1 rfl) ?_
                refine lv_dup (pc := 137) hx hb dX11_factor_137 rfl ?_
                refine q_getI (pc := 138) (q := 72) hx hb hts hown hK hw rfl fg_X11_209 dX11_factor_138 ?_
                refine lv_iconst (pc := 141) (v := (iI 1)) hx hb dX11_factor_141 rfl ?_
                refine lv_iadd (pc := 142) hx hb dX11_factor_142 ?_
                refine q_putI (pc := 143) (q := 72) hx hb hts hown hK hw rfl fp_X11_209 dX11_factor_143 hs (fun h15 H locs hw hs => ?_)
                refine lv_iload_n (pc := 146) hx hb dX11_factor_146 rfl (lv_at hl 0 rfl) ?_
                exact q_iretW hret dX11_factor_147 hw hs
          · replace hs := q_f (fun z => z hc) hs
            refine lv_iload_n (pc := 106) hx hb dX11_factor_106 rfl (lv_at hl 0 rfl) ?_
            refine lv_if_ne (pc := 107) (tgt := 114) hx hb dX11_factor_107 (by decide) (fun hc => ?_) (fun hc => ?_)
            · replace hs := q_t hc hs
              refine lv_iconst (pc := 114) (v := (iI 0)) hx hb dX11_factor_114 rfl ?_
              exact q_iretW hret dX11_factor_115 hw hs
            · replace hs := q_f (fun z => z hc) hs
              refine lv_iconst (pc := 110) (v := (iI 1)) hx hb dX11_factor_110 rfl ?_
              refine lv_goto (pc := 111) (tgt := 115) hx hb dX11_factor_111 (by decide) ?_
              exact q_iretW hret dX11_factor_115 hw hs
        · intro K8 hK8 hs
          refine lv_icmp_ne (pc := 75) (tgt := 85) hx hb dX11_factor_75 (by decide) (fun hc => ?_) (fun hc => ?_)
          · replace hs := q_t hc hs
            refine lv_aload_n (pc := 85) hx hb dX11_factor_85 rfl (lv_at hl 0 rfl) ?_
            obtain ⟨v16, h17, ev, hs⟩ := q_cal2 hs
            refine q_callV (pc := 86) (q := 72) (As := []) (rest := []) (rs := [.int v16]) hx hb hml hl.1 hts hown hK hSt hN hw (hrec.2.2.2.2.2 h5 v16 h17 ev) rfl rfl cv_X11_242 (rm_ok hR (by omega)) rfl (Nat.le_of_ble_eq_true rfl) rfl rfl dX11_factor_86 (fun H locs hw => ?_)
            exact hK8 _ _ hs _ _ hw _ (lv_sub hl [0, 1] rfl)
          · replace hs := q_f (fun z => z hc) hs
            refine lv_aload_n (pc := 78) hx hb dX11_factor_78 rfl (lv_at hl 0 rfl) ?_
            obtain ⟨v18, h19, ev, hs⟩ := q_cal2 hs
            refine q_callV (pc := 79) (q := 72) (As := []) (rest := []) (rs := [.int v18]) hx hb hml hl.1 hts hown hK hSt hN hw (hrec.1 h5 v18 h19 ev) rfl rfl cv_X11_239 (rm_ok hR (by omega)) rfl (Nat.le_of_ble_eq_true rfl) rfl rfl dX11_factor_79 (fun H locs hw => ?_)
            refine lv_goto (pc := 82) (tgt := 89) hx hb dX11_factor_82 (by decide) ?_
            exact hK8 _ _ hs _ _ hw _ (lv_sub hl [0, 1] rfl)
      · replace hs := q_f (fun z => z hc) hs
        refine lv_aload_n (pc := 47) hx hb dX11_factor_47 rfl (lv_at hl 0 rfl) ?_
        obtain ⟨v20, h21, ev, hs⟩ := q_cal2 hs
        refine q_callV (pc := 48) (q := 72) (As := []) (rest := []) (rs := [.int v20]) hx hb hml hl.1 hts hown hK hSt hN hw (c_X11_fails l G h v20 h21 ev) rfl rfl cv_X11_218 (rm_ok hR (by omega)) rfl (Nat.le_of_ble_eq_true rfl) rfl rfl dX11_factor_48 (fun H locs hw => ?_)
        exact q_iretW hret dX11_factor_51 hw hs
    · intro K3 hK3 hs
      refine lv_icmp_eq (pc := 24) (tgt := 39) hx hb dX11_factor_24 (by decide) (fun hc => ?_) (fun hc => ?_)
      · replace hs := q_t hc hs
        exact hK3 hs _ _ hw _ (lv_sub hl [1, 0] rfl)
      · replace hs := q_f hc hs
        refine lv_iload_n (pc := 27) hx hb dX11_factor_27 rfl (lv_at hl 0 rfl) ?_
        refine lv_bipush (pc := 28) (v := (iI 40)) hx hb dX11_factor_28 (by decide) ?_
        refine lv_icmp_eq (pc := 30) (tgt := 39) hx hb dX11_factor_30 (by decide) (fun hc => ?_) (fun hc => ?_)
        · replace hs := q_t hc hs
          exact hK3 hs _ _ hw _ (lv_sub hl [1, 0] rfl)
        · replace hs := q_f hc hs
          refine lv_aload_n (pc := 33) hx hb dX11_factor_33 rfl (lv_at hl 1 rfl) ?_
          refine lv_iload_n (pc := 34) hx hb dX11_factor_34 rfl (lv_at hl 0 rfl) ?_
          obtain ⟨v22, h23, ev, hs⟩ := q_cal2 hs
          refine q_callV (pc := 35) (q := 72) (As := [.int v1]) (rest := []) (rs := [.int v22]) hx hb hml hl.1 hts hown hK hSt hN hw (c_X11_named l G v1 h v22 h23 ev) rfl rfl cv_X11_233 (rm_ok hR (by omega)) rfl (Nat.le_of_ble_eq_true rfl) rfl rfl dX11_factor_35 (fun H locs hw => ?_)
          exact q_iretW hret dX11_factor_38 hw hs
  · replace hs := q_f hc hs
    refine lv_aload_n (pc := 16) hx hb dX11_factor_16 rfl (lv_at hl 1 rfl) ?_
    obtain ⟨v24, h25, ev, hs⟩ := q_cal2 hs
    refine q_callV (pc := 17) (q := 72) (As := []) (rest := []) (rs := [.int v24]) hx hb hml hl.1 hts hown hK hSt hN hw (c_X11_number l G h v24 h25 ev) rfl rfl cv_X11_230 (rm_ok hR (by omega)) rfl (Nat.le_of_ble_eq_true rfl) rfl rfl dX11_factor_17 (fun H locs hw => ?_)
    exact q_iretW hret dX11_factor_20 hw hs

set_option maxHeartbeats 4000000 in
set_option maxRecDepth 100000 in
theorem cb_X11_product (l : Launch) (G : GG) (d : Nat) (rec : Nat → Mem → Option (Int32 × Mem)) (hrec : RC_WALK l G rec d) (hd : 3 ≤ d)  (h : Mem) (v : Int32) (h' : Mem) (hs : b_X11_product rec  h = some (v, h')) : Sat l G yX11_product cX11_product 4 (some .int) (d + 1) [.ref (G.2.2.1 72)] h (some (.int v)) h' := by
  refine Sat.mkI (by decide) (Nat.le_of_ble_eq_true rfl) ?_
  intro p e R s m args below meth c Q F hret hw ls hl
  obtain ⟨hx, hb, hml, hown, hts, hK, hSt, hN, hR⟩ := F
  have hl : lv_has ls 4 [(0, .ref (G.2.2.1 72))] := hl
  unfold b_X11_product at hs
  refine lv_aload_n (pc := 0) hx hb dX11_product_0 rfl (lv_at hl 0 rfl) ?_
  obtain ⟨v1, h2, ev, hs⟩ := q_cal2 hs
  refine q_callV (pc := 1) (q := 72) (As := []) (rest := []) (rs := [.int v1]) hx hb hml hl.1 hts hown hK hSt hN hw (hrec.1 h v1 h2 ev) rfl rfl cv_X11_239 (rm_ok hR (by omega)) rfl (Nat.le_of_ble_eq_true rfl) rfl rfl dX11_product_1 (fun H locs hw => ?_)
  refine lv_istore_n (pc := 4) (lv' := [(1, .int v1), (0, .ref (G.2.2.1 72))]) hx hb dX11_product_4 rfl hl (by decide) rfl (fun ls hl => ?_)
  refine (q_lo2 (P0 := fun (x3 : Int32) (h4 : Mem) => ∀ (H : Heap) (locs : List Loc), IW G s h4 H locs → ∀ ls : Array Slot, lv_has ls 4 [(0, .ref (G.2.2.1 72)), (1, .int x3)] → W p l e R s m args below meth c H locs 0 0 Q (F0 m 5 ls [])) hs ?_) _ _ hw _ (lv_sub hl [1, 0] rfl)
  intro K5 hK5 x3 h4 hs H locs hw ls hl
  unfold b_X11_product_k5 at hs
  refine lv_aload_n (pc := 5) hx hb dX11_product_5 rfl (lv_at hl 0 rfl) ?_
  refine q_getI (pc := 6) (q := 72) hx hb hts hown hK hw rfl fg_X11_206 dX11_product_6 ?_
  refine lv_if_eq (pc := 9) (tgt := 114) hx hb dX11_product_9 (by decide) (fun hc => ?_) (fun hc => ?_)
  · replace hs := q_t hc hs
    refine lv_iload_n (pc := 114) hx hb dX11_product_114 rfl (lv_at hl 1 rfl) ?_
    exact q_iretW hret dX11_product_115 hw hs
  · replace hs := q_f hc hs
    refine lv_aload_n (pc := 12) hx hb dX11_product_12 rfl (lv_at hl 0 rfl) ?_
    refine lv_aload_n (pc := 13) hx hb dX11_product_13 rfl (lv_at hl 0 rfl) ?_
    refine q_getI (pc := 14) (q := 72) hx hb hts hown hK hw rfl fg_X11_209 dX11_product_14 ?_
    obtain ⟨v6, ev, hs⟩ := q_cal hs
    refine q_callV (pc := 17) (q := 72) (As := [.int (gI h4 72 17)]) (rest := []) (rs := [.int v6]) hx hb hml hl.1 hts hown hK hSt hN hw (c_X11_byteAt l G (gI h4 72 17) h4 v6 ev) rfl rfl cv_X11_212 (rm_ok hR (by omega)) rfl (Nat.le_of_ble_eq_true rfl) rfl rfl dX11_product_17 (fun H locs hw => ?_)
    refine lv_bipush (pc := 20) (v := (iI 42)) hx hb dX11_product_20 (by decide) ?_
    refine q_join0 (P0 := ∀ (H : Heap) (locs : List Loc), IW G s h4 H locs → ∀ ls : Array Slot, lv_has ls 4 [(0, .ref (G.2.2.1 72)), (1, .int x3)] → W p l e R s m args below meth c H locs 0 0 Q (F0 m 51 ls [])) hs ?_ ?_
    · intro  hs H locs hw ls hl
      unfold b_X11_product_k7 at hs
      refine lv_aload_n (pc := 51) hx hb dX11_product_51 rfl (lv_at hl 0 rfl) ?_
      refine lv_aload_n (pc := 52) hx hb dX11_product_52 rfl (lv_at hl 0 rfl) ?_
      refine q_getI (pc := 53) (q := 72) hx hb hts hown hK hw rfl fg_X11_209 dX11_product_53 ?_
      obtain ⟨v8, ev, hs⟩ := q_cal hs
      refine q_callV (pc := 56) (q := 72) (As := [.int (gI h4 72 17)]) (rest := []) (rs := [.int v8]) hx hb hml hl.1 hts hown hK hSt hN hw (c_X11_byteAt l G (gI h4 72 17) h4 v8 ev) rfl rfl cv_X11_212 (rm_ok hR (by omega)) rfl (Nat.le_of_ble_eq_true rfl) rfl rfl dX11_product_56 (fun H locs hw => ?_)
      refine lv_istore_n (pc := 59) (lv' := [(2, .int v8), (0, .ref (G.2.2.1 72)), (1, .int x3)]) hx hb dX11_product_59 rfl hl (by decide) rfl (fun ls hl => ?_)
      refine lv_aload_n (pc := 60) hx hb dX11_product_60 rfl (lv_at hl 1 rfl) ?_
      refine lv_dup (pc := 61) hx hb dX11_product_61 rfl ?_
      refine q_getI (pc := 62) (q := 72) hx hb hts hown hK hw rfl fg_X11_209 dX11_product_62 ?_
      refine lv_iconst (pc := 65) (v := (iI 1)) hx hb dX11_product_65 rfl ?_
      refine lv_iadd (pc := 66) hx hb dX11_product_66 ?_
      refine q_putI (pc := 67) (q := 72) hx hb hts hown hK hw rfl fp_X11_209 dX11_product_67 hs (fun h9 H locs hw hs => ?_)
      refine lv_aload_n (pc := 70) hx hb dX11_product_70 rfl (lv_at hl 1 rfl) ?_
      obtain ⟨v10, h11, ev, hs⟩ := q_cal2 hs
      refine q_callV (pc := 71) (q := 72) (As := []) (rest := []) (rs := [.int v10]) hx hb hml hl.1 hts hown hK hSt hN hw (hrec.1 h9 v10 h11 ev) rfl rfl cv_X11_239 (rm_ok hR (by omega)) rfl (Nat.le_of_ble_eq_true rfl) rfl rfl dX11_product_71 (fun H locs hw => ?_)
      refine lv_istore_n (pc := 74) (lv' := [(3, .int v10), (2, .int v8), (0, .ref (G.2.2.1 72)), (1, .int x3)]) hx hb dX11_product_74 rfl hl (by decide) rfl (fun ls hl => ?_)
      refine lv_iload_n (pc := 75) hx hb dX11_product_75 rfl (lv_at hl 1 rfl) ?_
      refine lv_bipush (pc := 76) (v := (iI 42)) hx hb dX11_product_76 (by decide) ?_
      refine q_join1 (P0 := fun (x12 : Int32) => ∀ (H : Heap) (locs : List Loc), IW G s h11 H locs → ∀ ls : Array Slot, lv_has ls 4 [(0, .ref (G.2.2.1 72))] → W p l e R s m args below meth c H locs 0 0 Q (F0 m 110 ls [.int x12])) hs ?_ ?_
      · intro x12 hs H locs hw ls hl
        refine lv_istore_n (pc := 110) (lv' := [(1, .int x12), (0, .ref (G.2.2.1 72))]) hx hb dX11_product_110 rfl hl (by decide) rfl (fun ls hl => ?_)
        refine lv_goto (pc := 111) (tgt := 5) hx hb dX11_product_111 (by decide) ?_
        exact hK5 _ _ hs _ _ hw _ (lv_sub hl [1, 0] rfl)
      · intro K13 hK13 hs
        refine lv_icmp_ne (pc := 78) (tgt := 87) hx hb dX11_product_78 (by decide) (fun hc => ?_) (fun hc => ?_)
        · replace hs := q_t hc hs
          refine lv_iload_n (pc := 87) hx hb dX11_product_87 rfl (lv_at hl 0 rfl) ?_
          refine lv_if_ne (pc := 88) (tgt := 95) hx hb dX11_product_88 (by decide) (fun hc => ?_) (fun hc => ?_)
          · replace hs := q_t hc hs
            refine lv_iload_n (pc := 95) hx hb dX11_product_95 rfl (lv_at hl 1 rfl) ?_
            refine lv_bipush (pc := 96) (v := (iI 47)) hx hb dX11_product_96 (by decide) ?_
            refine lv_icmp_ne (pc := 98) (tgt := 107) hx hb dX11_product_98 (by decide) (fun hc => ?_) (fun hc => ?_)
            · replace hs := q_t hc hs
              refine lv_iload_n (pc := 107) hx hb dX11_product_107 rfl (lv_at hl 3 rfl) ?_
              refine lv_iload_n (pc := 108) hx hb dX11_product_108 rfl (lv_at hl 0 rfl) ?_
              obtain ⟨hne, hs⟩ := q_nz hs
              refine q_irem (pc := 109) hx hb dX11_product_109 hne ?_
              exact hK13 _ hs _ _ hw _ (lv_sub hl [2] rfl)
            · replace hs := q_f (fun z => z hc) hs
              refine lv_iload_n (pc := 101) hx hb dX11_product_101 rfl (lv_at hl 3 rfl) ?_
              refine lv_iload_n (pc := 102) hx hb dX11_product_102 rfl (lv_at hl 0 rfl) ?_
              obtain ⟨hne, hs⟩ := q_nz hs
              refine lv_idiv (pc := 103) hx hb dX11_product_103 hne ?_
              refine lv_goto (pc := 104) (tgt := 110) hx hb dX11_product_104 (by decide) ?_
              exact hK13 _ hs _ _ hw _ (lv_sub hl [2] rfl)
          · replace hs := q_f (fun z => z hc) hs
            refine lv_iconst (pc := 91) (v := (iI 0)) hx hb dX11_product_91 rfl ?_
            refine lv_goto (pc := 92) (tgt := 110) hx hb dX11_product_92 (by decide) ?_
            exact hK13 _ hs _ _ hw _ (lv_sub hl [2] rfl)
        · replace hs := q_f (fun z => z hc) hs
          refine lv_iload_n (pc := 81) hx hb dX11_product_81 rfl (lv_at hl 3 rfl) ?_
          refine lv_iload_n (pc := 82) hx hb dX11_product_82 rfl (lv_at hl 0 rfl) ?_
          refine lv_imul (pc := 83) hx hb dX11_product_83 ?_
          refine lv_goto (pc := 84) (tgt := 110) hx hb dX11_product_84 (by decide) ?_
          exact hK13 _ hs _ _ hw _ (lv_sub hl [2] rfl)
    · intro K7 hK7 hs
      refine lv_icmp_eq (pc := 22) (tgt := 51) hx hb dX11_product_22 (by decide) (fun hc => ?_) (fun hc => ?_)
      · replace hs := q_t hc hs
        exact hK7 hs _ _ hw _ (lv_sub hl [0, 1] rfl)
      · replace hs := q_f hc hs
        refine lv_aload_n (pc := 25) hx hb dX11_product_25 rfl (lv_at hl 0 rfl) ?_
        refine lv_aload_n (pc := 26) hx hb dX11_product_26 rfl (lv_at hl 0 rfl) ?_
        refine q_getI (pc := 27) (q := 72) hx hb hts hown hK hw rfl fg_X11_209 dX11_product_27 ?_
        obtain ⟨v14, ev, hs⟩ := q_cal hs
        refine q_callV (pc := 30) (q := 72) (As := [.int (gI h4 72 17)]) (rest := []) (rs := [.int v14]) hx hb hml hl.1 hts hown hK hSt hN hw (c_X11_byteAt l G (gI h4 72 17) h4 v14 ev) rfl rfl cv_X11_212 (rm_ok hR (by omega)) rfl (Nat.le_of_ble_eq_true rfl) rfl rfl dX11_product_30 (fun H locs hw => ?_)
        refine lv_bipush (pc := 33) (v := (iI 47)) hx hb dX11_product_33 (by decide) ?_
        refine lv_icmp_eq (pc := 35) (tgt := 51) hx hb dX11_product_35 (by decide) (fun hc => ?_) (fun hc => ?_)
        · replace hs := q_t hc hs
          exact hK7 hs _ _ hw _ (lv_sub hl [0, 1] rfl)
        · replace hs := q_f hc hs
          refine lv_aload_n (pc := 38) hx hb dX11_product_38 rfl (lv_at hl 0 rfl) ?_
          refine lv_aload_n (pc := 39) hx hb dX11_product_39 rfl (lv_at hl 0 rfl) ?_
          refine q_getI (pc := 40) (q := 72) hx hb hts hown hK hw rfl fg_X11_209 dX11_product_40 ?_
          obtain ⟨v15, ev, hs⟩ := q_cal hs
          refine q_callV (pc := 43) (q := 72) (As := [.int (gI h4 72 17)]) (rest := []) (rs := [.int v15]) hx hb hml hl.1 hts hown hK hSt hN hw (c_X11_byteAt l G (gI h4 72 17) h4 v15 ev) rfl rfl cv_X11_212 (rm_ok hR (by omega)) rfl (Nat.le_of_ble_eq_true rfl) rfl rfl dX11_product_43 (fun H locs hw => ?_)
          refine lv_bipush (pc := 46) (v := (iI 37)) hx hb dX11_product_46 (by decide) ?_
          refine lv_icmp_ne (pc := 48) (tgt := 114) hx hb dX11_product_48 (by decide) (fun hc => ?_) (fun hc => ?_)
          · replace hs := q_t hc hs
            refine lv_iload_n (pc := 114) hx hb dX11_product_114 rfl (lv_at hl 1 rfl) ?_
            exact q_iretW hret dX11_product_115 hw hs
          · replace hs := q_f (fun z => z hc) hs
            exact hK7 hs _ _ hw _ (lv_sub hl [0, 1] rfl)

set_option maxHeartbeats 4000000 in
theorem cb_X11_sum (l : Launch) (G : GG) (d : Nat) (rec : Nat → Mem → Option (Int32 × Mem)) (hrec : RC_WALK l G rec d) (hd : 3 ≤ d)  (h : Mem) (v : Int32) (h' : Mem) (hs : b_X11_sum rec  h = some (v, h')) : Sat l G yX11_sum cX11_sum 4 (some .int) (d + 1) [.ref (G.2.2.1 72)] h (some (.int v)) h' := by
  refine Sat.mkI (by decide) (Nat.le_of_ble_eq_true rfl) ?_
  intro p e R s m args below meth c Q F hret hw ls hl
  obtain ⟨hx, hb, hml, hown, hts, hK, hSt, hN, hR⟩ := F
  have hl : lv_has ls 4 [(0, .ref (G.2.2.1 72))] := hl
  unfold b_X11_sum at hs
  refine lv_aload_n (pc := 0) hx hb dX11_sum_0 rfl (lv_at hl 0 rfl) ?_
  obtain ⟨v1, h2, ev, hs⟩ := q_cal2 hs
  refine q_callV (pc := 1) (q := 72) (As := []) (rest := []) (rs := [.int v1]) hx hb hml hl.1 hts hown hK hSt hN hw (hrec.2.1 h v1 h2 ev) rfl rfl cv_X11_245 (rm_ok hR (by omega)) rfl (Nat.le_of_ble_eq_true rfl) rfl rfl dX11_sum_1 (fun H locs hw => ?_)
  refine lv_istore_n (pc := 4) (lv' := [(1, .int v1), (0, .ref (G.2.2.1 72))]) hx hb dX11_sum_4 rfl hl (by decide) rfl (fun ls hl => ?_)
  refine (q_lo2 (P0 := fun (x3 : Int32) (h4 : Mem) => ∀ (H : Heap) (locs : List Loc), IW G s h4 H locs → ∀ ls : Array Slot, lv_has ls 4 [(0, .ref (G.2.2.1 72)), (1, .int x3)] → W p l e R s m args below meth c H locs 0 0 Q (F0 m 5 ls [])) hs ?_) _ _ hw _ (lv_sub hl [1, 0] rfl)
  intro K5 hK5 x3 h4 hs H locs hw ls hl
  unfold b_X11_sum_k5 at hs
  refine lv_aload_n (pc := 5) hx hb dX11_sum_5 rfl (lv_at hl 0 rfl) ?_
  refine q_getI (pc := 6) (q := 72) hx hb hts hown hK hw rfl fg_X11_206 dX11_sum_6 ?_
  refine lv_if_eq (pc := 9) (tgt := 81) hx hb dX11_sum_9 (by decide) (fun hc => ?_) (fun hc => ?_)
  · replace hs := q_t hc hs
    refine lv_iload_n (pc := 81) hx hb dX11_sum_81 rfl (lv_at hl 1 rfl) ?_
    exact q_iretW hret dX11_sum_82 hw hs
  · replace hs := q_f hc hs
    refine lv_aload_n (pc := 12) hx hb dX11_sum_12 rfl (lv_at hl 0 rfl) ?_
    refine lv_aload_n (pc := 13) hx hb dX11_sum_13 rfl (lv_at hl 0 rfl) ?_
    refine q_getI (pc := 14) (q := 72) hx hb hts hown hK hw rfl fg_X11_209 dX11_sum_14 ?_
    obtain ⟨v6, ev, hs⟩ := q_cal hs
    refine q_callV (pc := 17) (q := 72) (As := [.int (gI h4 72 17)]) (rest := []) (rs := [.int v6]) hx hb hml hl.1 hts hown hK hSt hN hw (c_X11_byteAt l G (gI h4 72 17) h4 v6 ev) rfl rfl cv_X11_212 (rm_ok hR (by omega)) rfl (Nat.le_of_ble_eq_true rfl) rfl rfl dX11_sum_17 (fun H locs hw => ?_)
    refine lv_bipush (pc := 20) (v := (iI 43)) hx hb dX11_sum_20 (by decide) ?_
    refine q_join0 (P0 := ∀ (H : Heap) (locs : List Loc), IW G s h4 H locs → ∀ ls : Array Slot, lv_has ls 4 [(0, .ref (G.2.2.1 72)), (1, .int x3)] → W p l e R s m args below meth c H locs 0 0 Q (F0 m 38 ls [])) hs ?_ ?_
    · intro  hs H locs hw ls hl
      unfold b_X11_sum_k7 at hs
      refine lv_aload_n (pc := 38) hx hb dX11_sum_38 rfl (lv_at hl 0 rfl) ?_
      refine lv_aload_n (pc := 39) hx hb dX11_sum_39 rfl (lv_at hl 0 rfl) ?_
      refine q_getI (pc := 40) (q := 72) hx hb hts hown hK hw rfl fg_X11_209 dX11_sum_40 ?_
      obtain ⟨v8, ev, hs⟩ := q_cal hs
      refine q_callV (pc := 43) (q := 72) (As := [.int (gI h4 72 17)]) (rest := []) (rs := [.int v8]) hx hb hml hl.1 hts hown hK hSt hN hw (c_X11_byteAt l G (gI h4 72 17) h4 v8 ev) rfl rfl cv_X11_212 (rm_ok hR (by omega)) rfl (Nat.le_of_ble_eq_true rfl) rfl rfl dX11_sum_43 (fun H locs hw => ?_)
      refine lv_istore_n (pc := 46) (lv' := [(2, .int v8), (0, .ref (G.2.2.1 72)), (1, .int x3)]) hx hb dX11_sum_46 rfl hl (by decide) rfl (fun ls hl => ?_)
      refine lv_aload_n (pc := 47) hx hb dX11_sum_47 rfl (lv_at hl 1 rfl) ?_
      refine lv_dup (pc := 48) hx hb dX11_sum_48 rfl ?_
      refine q_getI (pc := 49) (q := 72) hx hb hts hown hK hw rfl fg_X11_209 dX11_sum_49 ?_
      refine lv_iconst (pc := 52) (v := (iI 1)) hx hb dX11_sum_52 rfl ?_
      refine lv_iadd (pc := 53) hx hb dX11_sum_53 ?_
      refine q_putI (pc := 54) (q := 72) hx hb hts hown hK hw rfl fp_X11_209 dX11_sum_54 hs (fun h9 H locs hw hs => ?_)
      refine lv_aload_n (pc := 57) hx hb dX11_sum_57 rfl (lv_at hl 1 rfl) ?_
      obtain ⟨v10, h11, ev, hs⟩ := q_cal2 hs
      refine q_callV (pc := 58) (q := 72) (As := []) (rest := []) (rs := [.int v10]) hx hb hml hl.1 hts hown hK hSt hN hw (hrec.2.1 h9 v10 h11 ev) rfl rfl cv_X11_245 (rm_ok hR (by omega)) rfl (Nat.le_of_ble_eq_true rfl) rfl rfl dX11_sum_58 (fun H locs hw => ?_)
      refine lv_istore_n (pc := 61) (lv' := [(3, .int v10), (2, .int v8), (0, .ref (G.2.2.1 72)), (1, .int x3)]) hx hb dX11_sum_61 rfl hl (by decide) rfl (fun ls hl => ?_)
      refine lv_iload_n (pc := 62) hx hb dX11_sum_62 rfl (lv_at hl 1 rfl) ?_
      refine lv_bipush (pc := 63) (v := (iI 43)) hx hb dX11_sum_63 (by decide) ?_
      refine q_join1 (P0 := fun (x12 : Int32) => ∀ (H : Heap) (locs : List Loc), IW G s h11 H locs → ∀ ls : Array Slot, lv_has ls 4 [(0, .ref (G.2.2.1 72))] → W p l e R s m args below meth c H locs 0 0 Q (F0 m 77 ls [.int x12])) hs ?_ ?_
      · intro x12 hs H locs hw ls hl
        refine lv_istore_n (pc := 77) (lv' := [(1, .int x12), (0, .ref (G.2.2.1 72))]) hx hb dX11_sum_77 rfl hl (by decide) rfl (fun ls hl => ?_)
        refine lv_goto (pc := 78) (tgt := 5) hx hb dX11_sum_78 (by decide) ?_
        exact hK5 _ _ hs _ _ hw _ (lv_sub hl [1, 0] rfl)
      · intro K13 hK13 hs
        refine lv_icmp_ne (pc := 65) (tgt := 74) hx hb dX11_sum_65 (by decide) (fun hc => ?_) (fun hc => ?_)
        · replace hs := q_t hc hs
          refine lv_iload_n (pc := 74) hx hb dX11_sum_74 rfl (lv_at hl 3 rfl) ?_
          refine lv_iload_n (pc := 75) hx hb dX11_sum_75 rfl (lv_at hl 0 rfl) ?_
          refine lv_isub (pc := 76) hx hb dX11_sum_76 ?_
          exact hK13 _ hs _ _ hw _ (lv_sub hl [2] rfl)
        · replace hs := q_f (fun z => z hc) hs
          refine lv_iload_n (pc := 68) hx hb dX11_sum_68 rfl (lv_at hl 3 rfl) ?_
          refine lv_iload_n (pc := 69) hx hb dX11_sum_69 rfl (lv_at hl 0 rfl) ?_
          refine lv_iadd (pc := 70) hx hb dX11_sum_70 ?_
          refine lv_goto (pc := 71) (tgt := 77) hx hb dX11_sum_71 (by decide) ?_
          exact hK13 _ hs _ _ hw _ (lv_sub hl [2] rfl)
    · intro K7 hK7 hs
      refine lv_icmp_eq (pc := 22) (tgt := 38) hx hb dX11_sum_22 (by decide) (fun hc => ?_) (fun hc => ?_)
      · replace hs := q_t hc hs
        exact hK7 hs _ _ hw _ (lv_sub hl [0, 1] rfl)
      · replace hs := q_f hc hs
        refine lv_aload_n (pc := 25) hx hb dX11_sum_25 rfl (lv_at hl 0 rfl) ?_
        refine lv_aload_n (pc := 26) hx hb dX11_sum_26 rfl (lv_at hl 0 rfl) ?_
        refine q_getI (pc := 27) (q := 72) hx hb hts hown hK hw rfl fg_X11_209 dX11_sum_27 ?_
        obtain ⟨v14, ev, hs⟩ := q_cal hs
        refine q_callV (pc := 30) (q := 72) (As := [.int (gI h4 72 17)]) (rest := []) (rs := [.int v14]) hx hb hml hl.1 hts hown hK hSt hN hw (c_X11_byteAt l G (gI h4 72 17) h4 v14 ev) rfl rfl cv_X11_212 (rm_ok hR (by omega)) rfl (Nat.le_of_ble_eq_true rfl) rfl rfl dX11_sum_30 (fun H locs hw => ?_)
        refine lv_bipush (pc := 33) (v := (iI 45)) hx hb dX11_sum_33 (by decide) ?_
        refine lv_icmp_ne (pc := 35) (tgt := 81) hx hb dX11_sum_35 (by decide) (fun hc => ?_) (fun hc => ?_)
        · replace hs := q_t hc hs
          refine lv_iload_n (pc := 81) hx hb dX11_sum_81 rfl (lv_at hl 1 rfl) ?_
          exact q_iretW hret dX11_sum_82 hw hs
        · replace hs := q_f (fun z => z hc) hs
          exact hK7 hs _ _ hw _ (lv_sub hl [0, 1] rfl)

set_option maxHeartbeats 4000000 in
set_option maxRecDepth 100000 in
theorem cb_X11_compared (l : Launch) (G : GG) (d : Nat) (rec : Nat → Mem → Option (Int32 × Mem)) (hrec : RC_WALK l G rec d) (hd : 3 ≤ d)  (h : Mem) (v : Int32) (h' : Mem) (hs : b_X11_compared rec  h = some (v, h')) : Sat l G yX11_compared cX11_compared 5 (some .int) (d + 1) [.ref (G.2.2.1 72)] h (some (.int v)) h' := by
  refine Sat.mkI (by decide) (Nat.le_of_ble_eq_true rfl) ?_
  intro p e R s m args below meth c Q F hret hw ls hl
  obtain ⟨hx, hb, hml, hown, hts, hK, hSt, hN, hR⟩ := F
  have hl : lv_has ls 5 [(0, .ref (G.2.2.1 72))] := hl
  unfold b_X11_compared at hs
  refine lv_aload_n (pc := 0) hx hb dX11_compared_0 rfl (lv_at hl 0 rfl) ?_
  obtain ⟨v1, h2, ev, hs⟩ := q_cal2 hs
  refine q_callV (pc := 1) (q := 72) (As := []) (rest := []) (rs := [.int v1]) hx hb hml hl.1 hts hown hK hSt hN hw (hrec.2.2.1 h v1 h2 ev) rfl rfl cv_X11_248 (rm_ok hR (by omega)) rfl (Nat.le_of_ble_eq_true rfl) rfl rfl dX11_compared_1 (fun H locs hw => ?_)
  refine lv_istore_n (pc := 4) (lv' := [(1, .int v1), (0, .ref (G.2.2.1 72))]) hx hb dX11_compared_4 rfl hl (by decide) rfl (fun ls hl => ?_)
  refine lv_aload_n (pc := 5) hx hb dX11_compared_5 rfl (lv_at hl 1 rfl) ?_
  refine q_getI (pc := 6) (q := 72) hx hb hts hown hK hw rfl fg_X11_206 dX11_compared_6 ?_
  refine q_join1 (P0 := fun (x3 : Int32) => ∀ (H : Heap) (locs : List Loc), IW G s h2 H locs → ∀ ls : Array Slot, lv_has ls 5 [(0, .ref (G.2.2.1 72)), (1, .int v1)] → W p l e R s m args below meth c H locs 0 0 Q (F0 m 24 ls [.int x3])) hs ?_ ?_
  · intro x3 hs H locs hw ls hl
    unfold b_X11_compared_k4 at hs
    refine lv_istore_n (pc := 24) (lv' := [(2, .int x3), (0, .ref (G.2.2.1 72)), (1, .int v1)]) hx hb dX11_compared_24 rfl hl (by decide) rfl (fun ls hl => ?_)
    refine lv_iload_n (pc := 25) hx hb dX11_compared_25 rfl (lv_at hl 0 rfl) ?_
    refine lv_bipush (pc := 26) (v := (iI 60)) hx hb dX11_compared_26 (by decide) ?_
    refine q_join0 (P0 := ∀ (H : Heap) (locs : List Loc), IW G s h2 H locs → ∀ ls : Array Slot, lv_has ls 5 [(0, .ref (G.2.2.1 72)), (1, .int v1), (2, .int x3)] → W p l e R s m args below meth c H locs 0 0 Q (F0 m 45 ls [])) hs ?_ ?_
    · intro  hs H locs hw ls hl
      unfold b_X11_compared_k5 at hs
      refine lv_aload_n (pc := 45) hx hb dX11_compared_45 rfl (lv_at hl 0 rfl) ?_
      refine lv_dup (pc := 46) hx hb dX11_compared_46 rfl ?_
      refine q_getI (pc := 47) (q := 72) hx hb hts hown hK hw rfl fg_X11_209 dX11_compared_47 ?_
      refine lv_iconst (pc := 50) (v := (iI 1)) hx hb dX11_compared_50 rfl ?_
      refine lv_iadd (pc := 51) hx hb dX11_compared_51 ?_
      refine q_putI (pc := 52) (q := 72) hx hb hts hown hK hw rfl fp_X11_209 dX11_compared_52 hs (fun h6 H locs hw hs => ?_)
      refine lv_aload_n (pc := 55) hx hb dX11_compared_55 rfl (lv_at hl 0 rfl) ?_
      obtain ⟨v7, h8, ev, hs⟩ := q_cal2 hs
      refine q_callV (pc := 56) (q := 72) (As := []) (rest := []) (rs := [.int v7]) hx hb hml hl.1 hts hown hK hSt hN hw (hrec.2.2.1 h6 v7 h8 ev) rfl rfl cv_X11_248 (rm_ok hR (by omega)) rfl (Nat.le_of_ble_eq_true rfl) rfl rfl dX11_compared_56 (fun H locs hw => ?_)
      refine lv_istore_n (pc := 59) (lv' := [(3, .int v7), (0, .ref (G.2.2.1 72)), (1, .int v1), (2, .int x3)]) hx hb dX11_compared_59 rfl hl (by decide) rfl (fun ls hl => ?_)
      refine lv_iload_n (pc := 60) hx hb dX11_compared_60 rfl (lv_at hl 3 rfl) ?_
      refine lv_bipush (pc := 61) (v := (iI 60)) hx hb dX11_compared_61 (by decide) ?_
      refine q_join1 (P0 := fun (x9 : Int32) => ∀ (H : Heap) (locs : List Loc), IW G s h8 H locs → ∀ ls : Array Slot, lv_has ls 5 [] → W p l e R s m args below meth c H locs 0 0 Q (F0 m 108 ls [.int x9])) hs ?_ ?_
      · intro x9 hs H locs hw ls hl
        refine lv_istore (pc := 108) (lv' := [(4, .int x9)]) hx hb dX11_compared_108 hl (by decide) rfl (fun ls hl => ?_)
        refine lv_iload (pc := 110) hx hb dX11_compared_110 (lv_at hl 0 rfl) ?_
        refine lv_if_eq (pc := 112) (tgt := 119) hx hb dX11_compared_112 (by decide) (fun hc => ?_) (fun hc => ?_)
        · replace hs := q_t hc hs
          refine lv_iconst (pc := 119) (v := (iI 0)) hx hb dX11_compared_119 rfl ?_
          exact q_iretW hret dX11_compared_120 hw hs
        · replace hs := q_f hc hs
          refine lv_iconst (pc := 115) (v := (iI 1)) hx hb dX11_compared_115 rfl ?_
          refine lv_goto (pc := 116) (tgt := 120) hx hb dX11_compared_116 (by decide) ?_
          exact q_iretW hret dX11_compared_120 hw hs
      · intro K10 hK10 hs
        refine lv_icmp_ne (pc := 63) (tgt := 79) hx hb dX11_compared_63 (by decide) (fun hc => ?_) (fun hc => ?_)
        · replace hs := q_t hc hs
          refine lv_iload_n (pc := 79) hx hb dX11_compared_79 rfl (lv_at hl 3 rfl) ?_
          refine lv_bipush (pc := 80) (v := (iI 61)) hx hb dX11_compared_80 (by decide) ?_
          refine lv_icmp_ne (pc := 82) (tgt := 98) hx hb dX11_compared_82 (by decide) (fun hc => ?_) (fun hc => ?_)
          · replace hs := q_t hc hs
            refine lv_iload_n (pc := 98) hx hb dX11_compared_98 rfl (lv_at hl 2 rfl) ?_
            refine lv_iload_n (pc := 99) hx hb dX11_compared_99 rfl (lv_at hl 0 rfl) ?_
            refine lv_icmp_le (pc := 100) (tgt := 107) hx hb dX11_compared_100 (by decide) (fun hc => ?_) (fun hc => ?_)
            · replace hs := q_t hc hs
              refine lv_iconst (pc := 107) (v := (iI 0)) hx hb dX11_compared_107 rfl ?_
              exact hK10 _ hs _ _ hw _ (lv_sub hl [] rfl)
            · replace hs := q_f hc hs
              refine lv_iconst (pc := 103) (v := (iI 1)) hx hb dX11_compared_103 rfl ?_
              refine lv_goto (pc := 104) (tgt := 108) hx hb dX11_compared_104 (by decide) ?_
              exact hK10 _ hs _ _ hw _ (lv_sub hl [] rfl)
          · replace hs := q_f (fun z => z hc) hs
            refine lv_iload_n (pc := 85) hx hb dX11_compared_85 rfl (lv_at hl 2 rfl) ?_
            refine lv_iload_n (pc := 86) hx hb dX11_compared_86 rfl (lv_at hl 0 rfl) ?_
            refine lv_icmp_ne (pc := 87) (tgt := 94) hx hb dX11_compared_87 (by decide) (fun hc => ?_) (fun hc => ?_)
            · replace hs := q_t hc hs
              refine lv_iconst (pc := 94) (v := (iI 0)) hx hb dX11_compared_94 rfl ?_
              refine lv_goto (pc := 95) (tgt := 108) hx hb dX11_compared_95 (by decide) ?_
              exact hK10 _ hs _ _ hw _ (lv_sub hl [] rfl)
            · replace hs := q_f (fun z => z hc) hs
              refine lv_iconst (pc := 90) (v := (iI 1)) hx hb dX11_compared_90 rfl ?_
              refine lv_goto (pc := 91) (tgt := 108) hx hb dX11_compared_91 (by decide) ?_
              exact hK10 _ hs _ _ hw _ (lv_sub hl [] rfl)
        · replace hs := q_f (fun z => z hc) hs
          refine lv_iload_n (pc := 66) hx hb dX11_compared_66 rfl (lv_at hl 2 rfl) ?_
          refine lv_iload_n (pc := 67) hx hb dX11_compared_67 rfl (lv_at hl 0 rfl) ?_
          refine lv_icmp_ge (pc := 68) (tgt := 75) hx hb dX11_compared_68 (by decide) (fun hc => ?_) (fun hc => ?_)
          · replace hs := q_t hc hs
            refine lv_iconst (pc := 75) (v := (iI 0)) hx hb dX11_compared_75 rfl ?_
            refine lv_goto (pc := 76) (tgt := 108) hx hb dX11_compared_76 (by decide) ?_
            exact hK10 _ hs _ _ hw _ (lv_sub hl [] rfl)
          · replace hs := q_f hc hs
            refine lv_iconst (pc := 71) (v := (iI 1)) hx hb dX11_compared_71 rfl ?_
            refine lv_goto (pc := 72) (tgt := 108) hx hb dX11_compared_72 (by decide) ?_
            exact hK10 _ hs _ _ hw _ (lv_sub hl [] rfl)
    · intro K5 hK5 hs
      refine lv_icmp_eq (pc := 28) (tgt := 45) hx hb dX11_compared_28 (by decide) (fun hc => ?_) (fun hc => ?_)
      · replace hs := q_t hc hs
        exact hK5 hs _ _ hw _ (lv_sub hl [1, 2, 0] rfl)
      · replace hs := q_f hc hs
        refine lv_iload_n (pc := 31) hx hb dX11_compared_31 rfl (lv_at hl 0 rfl) ?_
        refine lv_bipush (pc := 32) (v := (iI 61)) hx hb dX11_compared_32 (by decide) ?_
        refine lv_icmp_eq (pc := 34) (tgt := 45) hx hb dX11_compared_34 (by decide) (fun hc => ?_) (fun hc => ?_)
        · replace hs := q_t hc hs
          exact hK5 hs _ _ hw _ (lv_sub hl [1, 2, 0] rfl)
        · replace hs := q_f hc hs
          refine lv_iload_n (pc := 37) hx hb dX11_compared_37 rfl (lv_at hl 0 rfl) ?_
          refine lv_bipush (pc := 38) (v := (iI 62)) hx hb dX11_compared_38 (by decide) ?_
          refine lv_icmp_eq (pc := 40) (tgt := 45) hx hb dX11_compared_40 (by decide) (fun hc => ?_) (fun hc => ?_)
          · replace hs := q_t hc hs
            exact hK5 hs _ _ hw _ (lv_sub hl [1, 2, 0] rfl)
          · replace hs := q_f hc hs
            refine lv_iload_n (pc := 43) hx hb dX11_compared_43 rfl (lv_at hl 2 rfl) ?_
            exact q_iretW hret dX11_compared_44 hw hs
  · intro K4 hK4 hs
    refine lv_if_eq (pc := 9) (tgt := 23) hx hb dX11_compared_9 (by decide) (fun hc => ?_) (fun hc => ?_)
    · replace hs := q_t hc hs
      refine lv_iconst (pc := 23) (v := (iI (-1))) hx hb dX11_compared_23 rfl ?_
      exact hK4 _ hs _ _ hw _ (lv_sub hl [1, 0] rfl)
    · replace hs := q_f hc hs
      refine lv_aload_n (pc := 12) hx hb dX11_compared_12 rfl (lv_at hl 1 rfl) ?_
      refine lv_aload_n (pc := 13) hx hb dX11_compared_13 rfl (lv_at hl 1 rfl) ?_
      refine q_getI (pc := 14) (q := 72) hx hb hts hown hK hw rfl fg_X11_209 dX11_compared_14 ?_
      obtain ⟨v11, ev, hs⟩ := q_cal hs
      refine q_callV (pc := 17) (q := 72) (As := [.int (gI h2 72 17)]) (rest := []) (rs := [.int v11]) hx hb hml hl.1 hts hown hK hSt hN hw (c_X11_byteAt l G (gI h2 72 17) h2 v11 ev) rfl rfl cv_X11_212 (rm_ok hR (by omega)) rfl (Nat.le_of_ble_eq_true rfl) rfl rfl dX11_compared_17 (fun H locs hw => ?_)
      refine lv_goto (pc := 20) (tgt := 24) hx hb dX11_compared_20 (by decide) ?_
      exact hK4 _ hs _ _ hw _ (lv_sub hl [1, 0] rfl)

set_option maxHeartbeats 4000000 in
theorem cb_X11_both (l : Launch) (G : GG) (d : Nat) (rec : Nat → Mem → Option (Int32 × Mem)) (hrec : RC_WALK l G rec d) (hd : 3 ≤ d)  (h : Mem) (v : Int32) (h' : Mem) (hs : b_X11_both rec  h = some (v, h')) : Sat l G yX11_both cX11_both 3 (some .int) (d + 1) [.ref (G.2.2.1 72)] h (some (.int v)) h' := by
  refine Sat.mkI (by decide) (Nat.le_of_ble_eq_true rfl) ?_
  intro p e R s m args below meth c Q F hret hw ls hl
  obtain ⟨hx, hb, hml, hown, hts, hK, hSt, hN, hR⟩ := F
  have hl : lv_has ls 3 [(0, .ref (G.2.2.1 72))] := hl
  unfold b_X11_both at hs
  refine lv_aload_n (pc := 0) hx hb dX11_both_0 rfl (lv_at hl 0 rfl) ?_
  obtain ⟨v1, h2, ev, hs⟩ := q_cal2 hs
  refine q_callV (pc := 1) (q := 72) (As := []) (rest := []) (rs := [.int v1]) hx hb hml hl.1 hts hown hK hSt hN hw (hrec.2.2.2.1 h v1 h2 ev) rfl rfl cv_X11_251 (rm_ok hR (by omega)) rfl (Nat.le_of_ble_eq_true rfl) rfl rfl dX11_both_1 (fun H locs hw => ?_)
  refine lv_istore_n (pc := 4) (lv' := [(1, .int v1), (0, .ref (G.2.2.1 72))]) hx hb dX11_both_4 rfl hl (by decide) rfl (fun ls hl => ?_)
  refine (q_lo2 (P0 := fun (x3 : Int32) (h4 : Mem) => ∀ (H : Heap) (locs : List Loc), IW G s h4 H locs → ∀ ls : Array Slot, lv_has ls 3 [(0, .ref (G.2.2.1 72)), (1, .int x3)] → W p l e R s m args below meth c H locs 0 0 Q (F0 m 5 ls [])) hs ?_) _ _ hw _ (lv_sub hl [1, 0] rfl)
  intro K5 hK5 x3 h4 hs H locs hw ls hl
  unfold b_X11_both_k5 at hs
  refine lv_aload_n (pc := 5) hx hb dX11_both_5 rfl (lv_at hl 0 rfl) ?_
  refine q_getI (pc := 6) (q := 72) hx hb hts hown hK hw rfl fg_X11_206 dX11_both_6 ?_
  refine lv_if_eq (pc := 9) (tgt := 57) hx hb dX11_both_9 (by decide) (fun hc => ?_) (fun hc => ?_)
  · replace hs := q_t hc hs
    refine lv_iload_n (pc := 57) hx hb dX11_both_57 rfl (lv_at hl 1 rfl) ?_
    exact q_iretW hret dX11_both_58 hw hs
  · replace hs := q_f hc hs
    refine lv_aload_n (pc := 12) hx hb dX11_both_12 rfl (lv_at hl 0 rfl) ?_
    refine lv_aload_n (pc := 13) hx hb dX11_both_13 rfl (lv_at hl 0 rfl) ?_
    refine q_getI (pc := 14) (q := 72) hx hb hts hown hK hw rfl fg_X11_209 dX11_both_14 ?_
    obtain ⟨v6, ev, hs⟩ := q_cal hs
    refine q_callV (pc := 17) (q := 72) (As := [.int (gI h4 72 17)]) (rest := []) (rs := [.int v6]) hx hb hml hl.1 hts hown hK hSt hN hw (c_X11_byteAt l G (gI h4 72 17) h4 v6 ev) rfl rfl cv_X11_212 (rm_ok hR (by omega)) rfl (Nat.le_of_ble_eq_true rfl) rfl rfl dX11_both_17 (fun H locs hw => ?_)
    refine lv_bipush (pc := 20) (v := (iI 38)) hx hb dX11_both_20 (by decide) ?_
    refine lv_icmp_ne (pc := 22) (tgt := 57) hx hb dX11_both_22 (by decide) (fun hc => ?_) (fun hc => ?_)
    · replace hs := q_t hc hs
      refine lv_iload_n (pc := 57) hx hb dX11_both_57 rfl (lv_at hl 1 rfl) ?_
      exact q_iretW hret dX11_both_58 hw hs
    · replace hs := q_f (fun z => z hc) hs
      refine lv_aload_n (pc := 25) hx hb dX11_both_25 rfl (lv_at hl 0 rfl) ?_
      refine lv_dup (pc := 26) hx hb dX11_both_26 rfl ?_
      refine q_getI (pc := 27) (q := 72) hx hb hts hown hK hw rfl fg_X11_209 dX11_both_27 ?_
      refine lv_iconst (pc := 30) (v := (iI 1)) hx hb dX11_both_30 rfl ?_
      refine lv_iadd (pc := 31) hx hb dX11_both_31 ?_
      refine q_putI (pc := 32) (q := 72) hx hb hts hown hK hw rfl fp_X11_209 dX11_both_32 hs (fun h7 H locs hw hs => ?_)
      refine lv_aload_n (pc := 35) hx hb dX11_both_35 rfl (lv_at hl 0 rfl) ?_
      obtain ⟨v8, h9, ev, hs⟩ := q_cal2 hs
      refine q_callV (pc := 36) (q := 72) (As := []) (rest := []) (rs := [.int v8]) hx hb hml hl.1 hts hown hK hSt hN hw (hrec.2.2.2.1 h7 v8 h9 ev) rfl rfl cv_X11_251 (rm_ok hR (by omega)) rfl (Nat.le_of_ble_eq_true rfl) rfl rfl dX11_both_36 (fun H locs hw => ?_)
      refine lv_istore_n (pc := 39) (lv' := [(2, .int v8), (0, .ref (G.2.2.1 72)), (1, .int x3)]) hx hb dX11_both_39 rfl hl (by decide) rfl (fun ls hl => ?_)
      refine lv_iload_n (pc := 40) hx hb dX11_both_40 rfl (lv_at hl 2 rfl) ?_
      refine q_join1 (P0 := fun (x10 : Int32) => ∀ (H : Heap) (locs : List Loc), IW G s h9 H locs → ∀ ls : Array Slot, lv_has ls 3 [(0, .ref (G.2.2.1 72))] → W p l e R s m args below meth c H locs 0 0 Q (F0 m 53 ls [.int x10])) hs ?_ ?_
      · intro x10 hs H locs hw ls hl
        refine lv_istore_n (pc := 53) (lv' := [(1, .int x10), (0, .ref (G.2.2.1 72))]) hx hb dX11_both_53 rfl hl (by decide) rfl (fun ls hl => ?_)
        refine lv_goto (pc := 54) (tgt := 5) hx hb dX11_both_54 (by decide) ?_
        exact hK5 _ _ hs _ _ hw _ (lv_sub hl [1, 0] rfl)
      · intro K11 hK11 hs
        refine q_join0 (P0 := ∀ (H : Heap) (locs : List Loc), IW G s h9 H locs → ∀ ls : Array Slot, lv_has ls 3 [(0, .ref (G.2.2.1 72))] → W p l e R s m args below meth c H locs 0 0 Q (F0 m 52 ls [])) hs ?_ ?_
        · intro  hs H locs hw ls hl
          refine lv_iconst (pc := 52) (v := (iI 0)) hx hb dX11_both_52 rfl ?_
          exact hK11 _ hs _ _ hw _ (lv_sub hl [0] rfl)
        · intro K12 hK12 hs
          refine lv_if_eq (pc := 41) (tgt := 52) hx hb dX11_both_41 (by decide) (fun hc => ?_) (fun hc => ?_)
          · replace hs := q_t hc hs
            exact hK12 hs _ _ hw _ (lv_sub hl [1] rfl)
          · replace hs := q_f hc hs
            refine lv_iload_n (pc := 44) hx hb dX11_both_44 rfl (lv_at hl 0 rfl) ?_
            refine lv_if_eq (pc := 45) (tgt := 52) hx hb dX11_both_45 (by decide) (fun hc => ?_) (fun hc => ?_)
            · replace hs := q_t hc hs
              exact hK12 hs _ _ hw _ (lv_sub hl [1] rfl)
            · replace hs := q_f hc hs
              refine lv_iconst (pc := 48) (v := (iI 1)) hx hb dX11_both_48 rfl ?_
              refine lv_goto (pc := 49) (tgt := 53) hx hb dX11_both_49 (by decide) ?_
              exact hK11 _ hs _ _ hw _ (lv_sub hl [1] rfl)

set_option maxHeartbeats 4000000 in
theorem cb_X11_whole (l : Launch) (G : GG) (d : Nat) (rec : Nat → Mem → Option (Int32 × Mem)) (hrec : RC_WALK l G rec d) (hd : 3 ≤ d)  (h : Mem) (v : Int32) (h' : Mem) (hs : b_X11_whole rec  h = some (v, h')) : Sat l G yX11_whole cX11_whole 3 (some .int) (d + 1) [.ref (G.2.2.1 72)] h (some (.int v)) h' := by
  refine Sat.mkI (by decide) (Nat.le_of_ble_eq_true rfl) ?_
  intro p e R s m args below meth c Q F hret hw ls hl
  obtain ⟨hx, hb, hml, hown, hts, hK, hSt, hN, hR⟩ := F
  have hl : lv_has ls 3 [(0, .ref (G.2.2.1 72))] := hl
  unfold b_X11_whole at hs
  refine lv_aload_n (pc := 0) hx hb dX11_whole_0 rfl (lv_at hl 0 rfl) ?_
  obtain ⟨v1, h2, ev, hs⟩ := q_cal2 hs
  refine q_callV (pc := 1) (q := 72) (As := []) (rest := []) (rs := [.int v1]) hx hb hml hl.1 hts hown hK hSt hN hw (hrec.2.2.2.2.1 h v1 h2 ev) rfl rfl cv_X11_254 (rm_ok hR (by omega)) rfl (Nat.le_of_ble_eq_true rfl) rfl rfl dX11_whole_1 (fun H locs hw => ?_)
  refine lv_istore_n (pc := 4) (lv' := [(1, .int v1), (0, .ref (G.2.2.1 72))]) hx hb dX11_whole_4 rfl hl (by decide) rfl (fun ls hl => ?_)
  refine (q_lo2 (P0 := fun (x3 : Int32) (h4 : Mem) => ∀ (H : Heap) (locs : List Loc), IW G s h4 H locs → ∀ ls : Array Slot, lv_has ls 3 [(0, .ref (G.2.2.1 72)), (1, .int x3)] → W p l e R s m args below meth c H locs 0 0 Q (F0 m 5 ls [])) hs ?_) _ _ hw _ (lv_sub hl [1, 0] rfl)
  intro K5 hK5 x3 h4 hs H locs hw ls hl
  unfold b_X11_whole_k5 at hs
  refine lv_aload_n (pc := 5) hx hb dX11_whole_5 rfl (lv_at hl 0 rfl) ?_
  refine q_getI (pc := 6) (q := 72) hx hb hts hown hK hw rfl fg_X11_206 dX11_whole_6 ?_
  refine lv_if_eq (pc := 9) (tgt := 57) hx hb dX11_whole_9 (by decide) (fun hc => ?_) (fun hc => ?_)
  · replace hs := q_t hc hs
    refine lv_iload_n (pc := 57) hx hb dX11_whole_57 rfl (lv_at hl 1 rfl) ?_
    exact q_iretW hret dX11_whole_58 hw hs
  · replace hs := q_f hc hs
    refine lv_aload_n (pc := 12) hx hb dX11_whole_12 rfl (lv_at hl 0 rfl) ?_
    refine lv_aload_n (pc := 13) hx hb dX11_whole_13 rfl (lv_at hl 0 rfl) ?_
    refine q_getI (pc := 14) (q := 72) hx hb hts hown hK hw rfl fg_X11_209 dX11_whole_14 ?_
    obtain ⟨v6, ev, hs⟩ := q_cal hs
    refine q_callV (pc := 17) (q := 72) (As := [.int (gI h4 72 17)]) (rest := []) (rs := [.int v6]) hx hb hml hl.1 hts hown hK hSt hN hw (c_X11_byteAt l G (gI h4 72 17) h4 v6 ev) rfl rfl cv_X11_212 (rm_ok hR (by omega)) rfl (Nat.le_of_ble_eq_true rfl) rfl rfl dX11_whole_17 (fun H locs hw => ?_)
    refine lv_bipush (pc := 20) (v := (iI 124)) hx hb dX11_whole_20 (by decide) ?_
    refine lv_icmp_ne (pc := 22) (tgt := 57) hx hb dX11_whole_22 (by decide) (fun hc => ?_) (fun hc => ?_)
    · replace hs := q_t hc hs
      refine lv_iload_n (pc := 57) hx hb dX11_whole_57 rfl (lv_at hl 1 rfl) ?_
      exact q_iretW hret dX11_whole_58 hw hs
    · replace hs := q_f (fun z => z hc) hs
      refine lv_aload_n (pc := 25) hx hb dX11_whole_25 rfl (lv_at hl 0 rfl) ?_
      refine lv_dup (pc := 26) hx hb dX11_whole_26 rfl ?_
      refine q_getI (pc := 27) (q := 72) hx hb hts hown hK hw rfl fg_X11_209 dX11_whole_27 ?_
      refine lv_iconst (pc := 30) (v := (iI 1)) hx hb dX11_whole_30 rfl ?_
      refine lv_iadd (pc := 31) hx hb dX11_whole_31 ?_
      refine q_putI (pc := 32) (q := 72) hx hb hts hown hK hw rfl fp_X11_209 dX11_whole_32 hs (fun h7 H locs hw hs => ?_)
      refine lv_aload_n (pc := 35) hx hb dX11_whole_35 rfl (lv_at hl 0 rfl) ?_
      obtain ⟨v8, h9, ev, hs⟩ := q_cal2 hs
      refine q_callV (pc := 36) (q := 72) (As := []) (rest := []) (rs := [.int v8]) hx hb hml hl.1 hts hown hK hSt hN hw (hrec.2.2.2.2.1 h7 v8 h9 ev) rfl rfl cv_X11_254 (rm_ok hR (by omega)) rfl (Nat.le_of_ble_eq_true rfl) rfl rfl dX11_whole_36 (fun H locs hw => ?_)
      refine lv_istore_n (pc := 39) (lv' := [(2, .int v8), (0, .ref (G.2.2.1 72)), (1, .int x3)]) hx hb dX11_whole_39 rfl hl (by decide) rfl (fun ls hl => ?_)
      refine lv_iload_n (pc := 40) hx hb dX11_whole_40 rfl (lv_at hl 2 rfl) ?_
      refine q_join1 (P0 := fun (x10 : Int32) => ∀ (H : Heap) (locs : List Loc), IW G s h9 H locs → ∀ ls : Array Slot, lv_has ls 3 [(0, .ref (G.2.2.1 72))] → W p l e R s m args below meth c H locs 0 0 Q (F0 m 53 ls [.int x10])) hs ?_ ?_
      · intro x10 hs H locs hw ls hl
        refine lv_istore_n (pc := 53) (lv' := [(1, .int x10), (0, .ref (G.2.2.1 72))]) hx hb dX11_whole_53 rfl hl (by decide) rfl (fun ls hl => ?_)
        refine lv_goto (pc := 54) (tgt := 5) hx hb dX11_whole_54 (by decide) ?_
        exact hK5 _ _ hs _ _ hw _ (lv_sub hl [1, 0] rfl)
      · intro K11 hK11 hs
        refine q_join0 (P0 := ∀ (H : Heap) (locs : List Loc), IW G s h9 H locs → ∀ ls : Array Slot, lv_has ls 3 [(0, .ref (G.2.2.1 72))] → W p l e R s m args below meth c H locs 0 0 Q (F0 m 48 ls [])) hs ?_ ?_
        · intro  hs H locs hw ls hl
          refine lv_iconst (pc := 48) (v := (iI 1)) hx hb dX11_whole_48 rfl ?_
          refine lv_goto (pc := 49) (tgt := 53) hx hb dX11_whole_49 (by decide) ?_
          exact hK11 _ hs _ _ hw _ (lv_sub hl [0] rfl)
        · intro K12 hK12 hs
          refine lv_if_ne (pc := 41) (tgt := 48) hx hb dX11_whole_41 (by decide) (fun hc => ?_) (fun hc => ?_)
          · replace hs := q_t hc hs
            exact hK12 hs _ _ hw _ (lv_sub hl [1] rfl)
          · replace hs := q_f (fun z => z hc) hs
            refine lv_iload_n (pc := 44) hx hb dX11_whole_44 rfl (lv_at hl 0 rfl) ?_
            refine lv_if_eq (pc := 45) (tgt := 52) hx hb dX11_whole_45 (by decide) (fun hc => ?_) (fun hc => ?_)
            · replace hs := q_t hc hs
              refine lv_iconst (pc := 52) (v := (iI 0)) hx hb dX11_whole_52 rfl ?_
              exact hK11 _ hs _ _ hw _ (lv_sub hl [1] rfl)
            · replace hs := q_f hc hs
              exact hK12 hs _ _ hw _ (lv_sub hl [1] rfl)

theorem rc_WALK (l : Launch) (G : GG) : ∀ n : Nat, RC_WALK l G (g_WALK n) (n + 3)
  | 0 => ⟨fun _ _ _ hs => (by cases hs), fun _ _ _ hs => (by cases hs), fun _ _ _ hs => (by cases hs), fun _ _ _ hs => (by cases hs), fun _ _ _ hs => (by cases hs), fun _ _ _ hs => (by cases hs)⟩
  | n + 1 => by
    have ih := rc_WALK l G n
    rw [show n + 1 + 3 = n + 3 + 1 by omega]
    exact ⟨fun h v h' hs => cb_X11_factor l G (n + 3) (g_WALK n) ih (by omega) h v h' hs, fun h v h' hs => cb_X11_product l G (n + 3) (g_WALK n) ih (by omega) h v h' hs, fun h v h' hs => cb_X11_sum l G (n + 3) (g_WALK n) ih (by omega) h v h' hs, fun h v h' hs => cb_X11_compared l G (n + 3) (g_WALK n) ih (by omega) h v h' hs, fun h v h' hs => cb_X11_both l G (n + 3) (g_WALK n) ih (by omega) h v h' hs, fun h v h' hs => cb_X11_whole l G (n + 3) (g_WALK n) ih (by omega) h v h' hs⟩

set_option maxHeartbeats 4000000 in
theorem c_X11_walks (l : Launch) (G : GG) (a1 : Int32) (a2 : Int32) (a3 : Int32) (a4 : Int32) (h : Mem) (v : Int32) (h' : Mem) (hs : f_X11_walks h a1 a2 a3 a4 = some (v, h')) : Sat l G yX11_walks cX11_walks 6 (some .int) 52 [.ref (G.2.2.1 72), .int a1, .int a2, .int a3, .int a4] h (some (.int v)) h' := by
  refine Sat.mkI (by decide) (Nat.le_of_ble_eq_true rfl) ?_
  intro p e R s m args below meth c Q F hret hw ls hl
  obtain ⟨hx, hb, hml, hown, hts, hK, hSt, hN, hR⟩ := F
  have hl : lv_has ls 6 [(0, .ref (G.2.2.1 72)), (1, .int a1), (2, .int a2), (3, .int a3), (4, .int a4)] := hl
  unfold f_X11_walks at hs
  refine lv_aload_n (pc := 0) hx hb dX11_walks_0 rfl (lv_at hl 0 rfl) ?_
  refine lv_iload_n (pc := 1) hx hb dX11_walks_1 rfl (lv_at hl 1 rfl) ?_
  refine q_putI (pc := 2) (q := 72) hx hb hts hown hK hw rfl fp_X11_203 dX11_walks_2 hs (fun h1 H locs hw hs => ?_)
  refine lv_aload_n (pc := 5) hx hb dX11_walks_5 rfl (lv_at hl 0 rfl) ?_
  refine lv_iconst (pc := 6) (v := (iI 0)) hx hb dX11_walks_6 rfl ?_
  refine q_putI (pc := 7) (q := 72) hx hb hts hown hK hw rfl fp_X11_209 dX11_walks_7 hs (fun h2 H locs hw hs => ?_)
  refine lv_aload_n (pc := 10) hx hb dX11_walks_10 rfl (lv_at hl 0 rfl) ?_
  refine lv_aload_n (pc := 11) hx hb dX11_walks_11 rfl (lv_at hl 0 rfl) ?_
  refine q_getR (pc := 12) (q := 72) (o := 1) hx hb hts hown hK hw rfl fg_X11_7 dX11_walks_12 ?_
  refine lv_bipush (pc := 15) (v := (iI 7)) hx hb dX11_walks_15 (by decide) ?_
  refine lv_iload_n (pc := 17) hx hb dX11_walks_17 rfl (lv_at hl 1 rfl) ?_
  refine lv_iadd (pc := 18) hx hb dX11_walks_18 ?_
  refine q_ald (pc := 19) (q := 73) (n := 305) hx hb hK hw rfl dX11_walks_19 hs (fun v3 hs => ?_)
  refine q_putI (pc := 20) (q := 72) hx hb hts hown hK hw rfl fp_X11_200 dX11_walks_20 hs (fun h4 H locs hw hs => ?_)
  refine lv_aload_n (pc := 23) hx hb dX11_walks_23 rfl (lv_at hl 0 rfl) ?_
  refine lv_iconst (pc := 24) (v := (iI 0)) hx hb dX11_walks_24 rfl ?_
  refine q_putI (pc := 25) (q := 72) hx hb hts hown hK hw rfl fp_X11_236 dX11_walks_25 hs (fun h5 H locs hw hs => ?_)
  refine lv_aload_n (pc := 28) hx hb dX11_walks_28 rfl (lv_at hl 0 rfl) ?_
  refine lv_iconst (pc := 29) (v := (iI 1)) hx hb dX11_walks_29 rfl ?_
  refine q_putZ (pc := 30) (q := 72) hx hb hts hown hK hw rfl fp_X11_206 dX11_walks_30 hs (fun h6 H locs hw hs => ?_)
  refine lv_aload_n (pc := 33) hx hb dX11_walks_33 rfl (lv_at hl 0 rfl) ?_
  refine lv_iload_n (pc := 34) hx hb dX11_walks_34 rfl (lv_at hl 2 rfl) ?_
  refine q_putI (pc := 35) (q := 72) hx hb hts hown hK hw rfl fp_X11_221 dX11_walks_35 hs (fun h7 H locs hw hs => ?_)
  refine lv_aload_n (pc := 38) hx hb dX11_walks_38 rfl (lv_at hl 0 rfl) ?_
  refine lv_iload_n (pc := 39) hx hb dX11_walks_39 rfl (lv_at hl 3 rfl) ?_
  refine q_putI (pc := 40) (q := 72) hx hb hts hown hK hw rfl fp_X11_224 dX11_walks_40 hs (fun h8 H locs hw hs => ?_)
  refine lv_aload_n (pc := 43) hx hb dX11_walks_43 rfl (lv_at hl 0 rfl) ?_
  refine lv_iload (pc := 44) hx hb dX11_walks_44 (lv_at hl 4 rfl) ?_
  refine q_putI (pc := 46) (q := 72) hx hb hts hown hK hw rfl fp_X11_227 dX11_walks_46 hs (fun h9 H locs hw hs => ?_)
  refine lv_aload_n (pc := 49) hx hb dX11_walks_49 rfl (lv_at hl 0 rfl) ?_
  obtain ⟨v10, h11, ev, hs⟩ := q_cal2 hs
  refine q_callV (pc := 50) (q := 72) (As := []) (rest := []) (rs := [.int v10]) hx hb hml hl.1 hts hown hK hSt hN hw ((rc_WALK l G 48).2.2.2.2.2 h9 v10 h11 ev) rfl rfl cv_X11_242 (rm_ok hR (by decide)) rfl (Nat.le_of_ble_eq_true rfl) rfl rfl dX11_walks_50 (fun H locs hw => ?_)
  refine lv_istore (pc := 53) (lv' := [(5, .int v10), (0, .ref (G.2.2.1 72)), (1, .int a1), (2, .int a2), (3, .int a3), (4, .int a4)]) hx hb dX11_walks_53 hl (by decide) rfl (fun ls hl => ?_)
  refine lv_aload_n (pc := 55) hx hb dX11_walks_55 rfl (lv_at hl 1 rfl) ?_
  refine lv_aload_n (pc := 56) hx hb dX11_walks_56 rfl (lv_at hl 1 rfl) ?_
  refine q_getI (pc := 57) (q := 72) hx hb hts hown hK hw rfl fg_X11_206 dX11_walks_57 ?_
  refine q_join0 (P0 := ∀ (H : Heap) (locs : List Loc), IW G s h11 H locs → ∀ ls : Array Slot, lv_has ls 6 [(5, .int v10)] → W p l e R s m args below meth c H locs 0 0 Q (F0 m 78 ls [.ref (G.2.2.1 72)])) hs ?_ ?_
  · intro  hs H locs hw ls hl
    refine lv_iconst (pc := 78) (v := (iI 0)) hx hb dX11_walks_78 rfl ?_
    refine q_putZ (pc := 79) (q := 72) hx hb hts hown hK hw rfl fp_X11_206 dX11_walks_79 hs (fun h13 H locs hw hs => ?_)
    refine lv_iload (pc := 82) hx hb dX11_walks_82 (lv_at hl 0 rfl) ?_
    exact q_iretW hret dX11_walks_84 hw hs
  · intro K12 hK12 hs
    refine lv_if_eq (pc := 60) (tgt := 78) hx hb dX11_walks_60 (by decide) (fun hc => ?_) (fun hc => ?_)
    · replace hs := q_t hc hs
      exact hK12 hs _ _ hw _ (lv_sub hl [0] rfl)
    · replace hs := q_f hc hs
      refine lv_aload_n (pc := 63) hx hb dX11_walks_63 rfl (lv_at hl 1 rfl) ?_
      refine q_getI (pc := 64) (q := 72) hx hb hts hown hK hw rfl fg_X11_209 dX11_walks_64 ?_
      refine lv_aload_n (pc := 67) hx hb dX11_walks_67 rfl (lv_at hl 1 rfl) ?_
      refine q_getI (pc := 68) (q := 72) hx hb hts hown hK hw rfl fg_X11_200 dX11_walks_68 ?_
      refine lv_icmp_ne (pc := 71) (tgt := 78) hx hb dX11_walks_71 (by decide) (fun hc => ?_) (fun hc => ?_)
      · replace hs := q_t hc hs
        exact hK12 hs _ _ hw _ (lv_sub hl [0] rfl)
      · replace hs := q_f (fun z => z hc) hs
        refine lv_iconst (pc := 74) (v := (iI 1)) hx hb dX11_walks_74 rfl ?_
        refine lv_goto (pc := 75) (tgt := 79) hx hb dX11_walks_75 (by decide) ?_
        refine q_putZ (pc := 79) (q := 72) hx hb hts hown hK hw rfl fp_X11_206 dX11_walks_79 hs (fun h14 H locs hw hs => ?_)
        refine lv_iload (pc := 82) hx hb dX11_walks_82 (lv_at hl 0 rfl) ?_
        exact q_iretW hret dX11_walks_84 hw hs

set_option maxHeartbeats 4000000 in
theorem c_X11_lawOf (l : Launch) (G : GG) (a1 : Int32) (a2 : Int32) (a3 : Int32) (a4 : Int32) (h : Mem) (v : Int32) (h' : Mem) (hs : f_X11_lawOf h a1 a2 a3 a4 = some (v, h')) : Sat l G yX11_lawOf cX11_lawOf 5 (some .int) 53 [.ref (G.2.2.1 72), .int a1, .int a2, .int a3, .int a4] h (some (.int v)) h' := by
  refine Sat.mkI (by decide) (Nat.le_of_ble_eq_true rfl) ?_
  intro p e R s m args below meth c Q F hret hw ls hl
  obtain ⟨hx, hb, hml, hown, hts, hK, hSt, hN, hR⟩ := F
  have hl : lv_has ls 5 [(0, .ref (G.2.2.1 72)), (1, .int a1), (2, .int a2), (3, .int a3), (4, .int a4)] := hl
  unfold f_X11_lawOf at hs
  refine lv_aload_n (pc := 0) hx hb dX11_lawOf_0 rfl (lv_at hl 0 rfl) ?_
  refine q_getR (pc := 1) (q := 72) (o := 1) hx hb hts hown hK hw rfl fg_X11_7 dX11_lawOf_1 ?_
  refine lv_bipush (pc := 4) (v := (iI 7)) hx hb dX11_lawOf_4 (by decide) ?_
  refine lv_iload_n (pc := 6) hx hb dX11_lawOf_6 rfl (lv_at hl 1 rfl) ?_
  refine lv_iadd (pc := 7) hx hb dX11_lawOf_7 ?_
  refine q_ald (pc := 8) (q := 73) (n := 305) hx hb hK hw rfl dX11_lawOf_8 hs (fun v1 hs => ?_)
  refine lv_if_ge (pc := 9) (tgt := 31) hx hb dX11_lawOf_9 (by decide) (fun hc => ?_) (fun hc => ?_)
  · replace hs := q_t hc hs
    refine lv_aload_n (pc := 31) hx hb dX11_lawOf_31 rfl (lv_at hl 0 rfl) ?_
    refine lv_iload_n (pc := 32) hx hb dX11_lawOf_32 rfl (lv_at hl 1 rfl) ?_
    refine lv_iload_n (pc := 33) hx hb dX11_lawOf_33 rfl (lv_at hl 2 rfl) ?_
    refine lv_iload_n (pc := 34) hx hb dX11_lawOf_34 rfl (lv_at hl 3 rfl) ?_
    refine lv_iload (pc := 35) hx hb dX11_lawOf_35 (lv_at hl 4 rfl) ?_
    obtain ⟨v2, h3, ev, hs⟩ := q_cal2 hs
    refine q_callV (pc := 37) (q := 72) (As := [.int a1, .int a2, .int a3, .int a4]) (rest := []) (rs := [.int v2]) hx hb hml hl.1 hts hown hK hSt hN hw (c_X11_walks l G a1 a2 a3 a4 h v2 h3 ev) rfl rfl cv_X11_257 (rm_ok hR (by decide)) rfl (Nat.le_of_ble_eq_true rfl) rfl rfl dX11_lawOf_37 (fun H locs hw => ?_)
    refine lv_iload_n (pc := 40) hx hb dX11_lawOf_40 rfl (lv_at hl 1 rfl) ?_
    refine lv_if_ne (pc := 41) (tgt := 48) hx hb dX11_lawOf_41 (by decide) (fun hc => ?_) (fun hc => ?_)
    · replace hs := q_t hc hs
      refine lv_bipush (pc := 48) (v := (iI (-99))) hx hb dX11_lawOf_48 (by decide) ?_
      refine lv_bipush (pc := 50) (v := (iI 99)) hx hb dX11_lawOf_50 (by decide) ?_
      obtain ⟨v4, ev, hs⟩ := q_cal hs
      refine q_callS (pc := 52) (As := [.int v2, .int (iI (-99)), .int (iI 99)]) (rest := []) (rs := [.int v4]) hx hb hml hl.1 hts hown hK hSt hN hw (c_X11_held l G v2 (iI (-99)) (iI 99) h3 v4 ev) cs_X11_117 (rm_ok hR (by decide)) rfl (Nat.le_of_ble_eq_true rfl) rfl rfl dX11_lawOf_52 (fun H locs hw => ?_)
      exact q_iretW hret dX11_lawOf_55 hw hs
    · replace hs := q_f (fun z => z hc) hs
      refine lv_iconst (pc := 44) (v := (iI 0)) hx hb dX11_lawOf_44 rfl ?_
      refine lv_goto (pc := 45) (tgt := 50) hx hb dX11_lawOf_45 (by decide) ?_
      refine lv_bipush (pc := 50) (v := (iI 99)) hx hb dX11_lawOf_50 (by decide) ?_
      obtain ⟨v5, ev, hs⟩ := q_cal hs
      refine q_callS (pc := 52) (As := [.int v2, .int (iI 0), .int (iI 99)]) (rest := []) (rs := [.int v5]) hx hb hml hl.1 hts hown hK hSt hN hw (c_X11_held l G v2 (iI 0) (iI 99) h3 v5 ev) cs_X11_117 (rm_ok hR (by decide)) rfl (Nat.le_of_ble_eq_true rfl) rfl rfl dX11_lawOf_52 (fun H locs hw => ?_)
      exact q_iretW hret dX11_lawOf_55 hw hs
  · replace hs := q_f hc hs
    refine lv_iload_n (pc := 12) hx hb dX11_lawOf_12 rfl (lv_at hl 1 rfl) ?_
    refine lv_if_ne (pc := 13) (tgt := 29) hx hb dX11_lawOf_13 (by decide) (fun hc => ?_) (fun hc => ?_)
    · replace hs := q_t hc hs
      refine lv_iconst (pc := 29) (v := (iI 0)) hx hb dX11_lawOf_29 rfl ?_
      exact q_iretW hret dX11_lawOf_30 hw hs
    · replace hs := q_f (fun z => z hc) hs
      refine lv_iconst (pc := 16) (v := (iI 5)) hx hb dX11_lawOf_16 rfl ?_
      refine lv_iload (pc := 17) hx hb dX11_lawOf_17 (lv_at hl 4 rfl) ?_
      refine lv_iadd (pc := 19) hx hb dX11_lawOf_19 ?_
      refine lv_iconst (pc := 20) (v := (iI 0)) hx hb dX11_lawOf_20 rfl ?_
      refine lv_bipush (pc := 21) (v := (iI 99)) hx hb dX11_lawOf_21 (by decide) ?_
      obtain ⟨v6, ev, hs⟩ := q_cal hs
      refine q_callS (pc := 23) (As := [.int ((iI 5) + a4), .int (iI 0), .int (iI 99)]) (rest := []) (rs := [.int v6]) hx hb hml hl.1 hts hown hK hSt hN hw (c_X11_held l G ((iI 5) + a4) (iI 0) (iI 99) h v6 ev) cs_X11_117 (rm_ok hR (by decide)) rfl (Nat.le_of_ble_eq_true rfl) rfl rfl dX11_lawOf_23 (fun H locs hw => ?_)
      refine lv_goto (pc := 26) (tgt := 30) hx hb dX11_lawOf_26 (by decide) ?_
      exact q_iretW hret dX11_lawOf_30 hw hs

set_option maxHeartbeats 4000000 in
theorem c_X11_law (l : Launch) (G : GG) (a1 : Int32) (a2 : Int32) (a3 : Int32) (a4 : Int32) (h : Mem) (v : Int32) (h' : Mem) (hs : f_X11_law h a1 a2 a3 a4 = some (v, h')) : Sat l G yX11_law cX11_law 5 (some .int) 54 [.ref (G.2.2.1 72), .int a1, .int a2, .int a3, .int a4] h (some (.int v)) h' := by
  refine Sat.mkI (by decide) (Nat.le_of_ble_eq_true rfl) ?_
  intro p e R s m args below meth c Q F hret hw ls hl
  obtain ⟨hx, hb, hml, hown, hts, hK, hSt, hN, hR⟩ := F
  have hl : lv_has ls 5 [(0, .ref (G.2.2.1 72)), (1, .int a1), (2, .int a2), (3, .int a3), (4, .int a4)] := hl
  unfold f_X11_law at hs
  refine lv_iload_n (pc := 0) hx hb dX11_law_0 rfl (lv_at hl 1 rfl) ?_
  refine lv_iconst (pc := 1) (v := (iI 0)) hx hb dX11_law_1 rfl ?_
  refine lv_iconst (pc := 2) (v := (iI 1)) hx hb dX11_law_2 rfl ?_
  obtain ⟨v1, ev, hs⟩ := q_cal hs
  refine q_callS (pc := 3) (As := [.int a1, .int (iI 0), .int (iI 1)]) (rest := []) (rs := [.int v1]) hx hb hml hl.1 hts hown hK hSt hN hw (c_X11_in l G a1 (iI 0) (iI 1) h v1 ev) cs_X11_71 (rm_ok hR (by decide)) rfl (Nat.le_of_ble_eq_true rfl) rfl rfl dX11_law_3 (fun H locs hw => ?_)
  refine lv_if_eq (pc := 6) (tgt := 21) hx hb dX11_law_6 (by decide) (fun hc => ?_) (fun hc => ?_)
  · replace hs := q_t hc hs
    refine lv_aload_n (pc := 21) hx hb dX11_law_21 rfl (lv_at hl 0 rfl) ?_
    refine lv_ldc (pc := 22) (v := (iI (-1000000001))) hx hb hown (hts _ ki_X11_78) dX11_law_22 ?_
    obtain ⟨v2, h3, ev, hs⟩ := q_cal2 hs
    refine q_callV (pc := 24) (q := 72) (As := [.int (iI (-1000000001))]) (rest := []) (rs := [.int v2]) hx hb hml hl.1 hts hown hK hSt hN hw (c_X11_errs l G (iI (-1000000001)) h v2 h3 ev) rfl rfl cv_X11_79 (rm_ok hR (by decide)) rfl (Nat.le_of_ble_eq_true rfl) rfl rfl dX11_law_24 (fun H locs hw => ?_)
    exact q_iretW hret dX11_law_27 hw hs
  · replace hs := q_f hc hs
    refine lv_aload_n (pc := 9) hx hb dX11_law_9 rfl (lv_at hl 0 rfl) ?_
    refine lv_iload_n (pc := 10) hx hb dX11_law_10 rfl (lv_at hl 1 rfl) ?_
    refine lv_iload_n (pc := 11) hx hb dX11_law_11 rfl (lv_at hl 2 rfl) ?_
    refine lv_iload_n (pc := 12) hx hb dX11_law_12 rfl (lv_at hl 3 rfl) ?_
    refine lv_iload (pc := 13) hx hb dX11_law_13 (lv_at hl 4 rfl) ?_
    obtain ⟨v4, h5, ev, hs⟩ := q_cal2 hs
    refine q_callV (pc := 15) (q := 72) (As := [.int a1, .int a2, .int a3, .int a4]) (rest := []) (rs := [.int v4]) hx hb hml hl.1 hts hown hK hSt hN hw (c_X11_lawOf l G a1 a2 a3 a4 h v4 h5 ev) rfl rfl cv_X11_95 (rm_ok hR (by decide)) rfl (Nat.le_of_ble_eq_true rfl) rfl rfl dX11_law_15 (fun H locs hw => ?_)
    refine lv_goto (pc := 18) (tgt := 27) hx hb dX11_law_18 (by decide) ?_
    exact q_iretW hret dX11_law_27 hw hs

set_option maxHeartbeats 4000000 in
theorem c_X11_feed (l : Launch) (G : GG) (a1 : Int64) (a2 : Int32) (h : Mem) (v : Int32) (h' : Mem) (hs : f_X11_feed h a1 a2 = some (v, h')) : Sat l G yX11_feed cX11_feed 5 (some .int) 1 [.ref (G.2.2.1 72), .long a1, .int a2] h (some (.int v)) h' := by
  refine Sat.mkI (by decide) (Nat.le_of_ble_eq_true rfl) ?_
  intro p e R s m args below meth c Q F hret hw ls hl
  obtain ⟨hx, hb, hml, hown, hts, hK, hSt, hN, hR⟩ := F
  have hl : lv_has ls 5 [(0, .ref (G.2.2.1 72)), (1, .long a1), (3, .int a2)] := hl
  unfold f_X11_feed at hs
  refine lv_iload_n (pc := 0) hx hb dX11_feed_0 rfl (lv_at hl 2 rfl) ?_
  refine lv_iconst (pc := 1) (v := (iI 1)) hx hb dX11_feed_1 rfl ?_
  refine lv_bipush (pc := 2) (v := (iI 8)) hx hb dX11_feed_2 (by decide) ?_
  obtain ⟨v1, ev, hs⟩ := q_cal hs
  refine q_callS (pc := 4) (As := [.int a2, .int (iI 1), .int (iI 8)]) (rest := []) (rs := [.int v1]) hx hb hml hl.1 hts hown hK hSt hN hw (c_X11_in l G a2 (iI 1) (iI 8) h v1 ev) cs_X11_71 (rm_ok hR (by decide)) rfl (Nat.le_of_ble_eq_true rfl) rfl rfl dX11_feed_4 (fun H locs hw => ?_)
  refine lv_if_ne (pc := 7) (tgt := 17) hx hb dX11_feed_7 (by decide) (fun hc => ?_) (fun hc => ?_)
  · replace hs := q_t hc hs
    refine lv_aload_n (pc := 17) hx hb dX11_feed_17 rfl (lv_at hl 0 rfl) ?_
    refine q_getR (pc := 18) (q := 72) (o := 1) hx hb hts hown hK hw rfl fg_X11_7 dX11_feed_18 ?_
    refine lv_iconst (pc := 21) (v := (iI 5)) hx hb dX11_feed_21 rfl ?_
    refine q_ald (pc := 22) (q := 73) (n := 305) hx hb hK hw rfl dX11_feed_22 hs (fun v2 hs => ?_)
    refine lv_iload_n (pc := 23) hx hb dX11_feed_23 rfl (lv_at hl 2 rfl) ?_
    refine lv_iadd (pc := 24) hx hb dX11_feed_24 ?_
    refine lv_bipush (pc := 25) (v := (iI 50)) hx hb dX11_feed_25 (by decide) ?_
    refine lv_icmp_le (pc := 27) (tgt := 38) hx hb dX11_feed_27 (by decide) (fun hc => ?_) (fun hc => ?_)
    · replace hs := q_t hc hs
      refine lv_iconst (pc := 38) (v := (iI 0)) hx hb dX11_feed_38 rfl ?_
      refine lv_istore (pc := 39) (lv' := [(4, .int (iI 0)), (0, .ref (G.2.2.1 72)), (1, .long a1), (3, .int a2)]) hx hb dX11_feed_39 hl (by decide) rfl (fun ls hl => ?_)
      refine (q_lo2 (P0 := fun (x3 : Int32) (h4 : Mem) => ∀ (H : Heap) (locs : List Loc), IW G s h4 H locs → ∀ ls : Array Slot, lv_has ls 5 [(0, .ref (G.2.2.1 72)), (1, .long a1), (3, .int a2), (4, .int x3)] → W p l e R s m args below meth c H locs 0 0 Q (F0 m 41 ls [])) hs ?_) _ _ hw _ (lv_sub hl [1, 2, 3, 0] rfl)
      intro K5 hK5 x3 h4 hs H locs hw ls hl
      unfold f_X11_feed_k5 at hs
      refine lv_iload (pc := 41) hx hb dX11_feed_41 (lv_at hl 3 rfl) ?_
      refine lv_iload_n (pc := 43) hx hb dX11_feed_43 rfl (lv_at hl 2 rfl) ?_
      refine lv_icmp_ge (pc := 44) (tgt := 90) hx hb dX11_feed_44 (by decide) (fun hc => ?_) (fun hc => ?_)
      · replace hs := q_t hc hs
        refine lv_aload_n (pc := 90) hx hb dX11_feed_90 rfl (lv_at hl 0 rfl) ?_
        refine q_getR (pc := 91) (q := 72) (o := 1) hx hb hts hown hK hw rfl fg_X11_7 dX11_feed_91 ?_
        refine lv_iconst (pc := 94) (v := (iI 5)) hx hb dX11_feed_94 rfl ?_
        refine q_ald (pc := 95) (q := 73) (n := 305) hx hb hK hw rfl dX11_feed_95 hs (fun v6 hs => ?_)
        exact q_iretW hret dX11_feed_96 hw hs
      · replace hs := q_f hc hs
        refine lv_aload_n (pc := 47) hx hb dX11_feed_47 rfl (lv_at hl 0 rfl) ?_
        refine q_getR (pc := 48) (q := 72) (o := 1) hx hb hts hown hK hw rfl fg_X11_7 dX11_feed_48 ?_
        refine lv_sipush (pc := 51) (v := (iI 135)) hx hb dX11_feed_51 (by decide) ?_
        refine lv_aload_n (pc := 54) hx hb dX11_feed_54 rfl (lv_at hl 0 rfl) ?_
        refine q_getR (pc := 55) (q := 72) (o := 1) hx hb hts hown hK hw rfl fg_X11_7 dX11_feed_55 ?_
        refine lv_iconst (pc := 58) (v := (iI 5)) hx hb dX11_feed_58 rfl ?_
        refine q_ald (pc := 59) (q := 73) (n := 305) hx hb hK hw rfl dX11_feed_59 hs (fun v7 hs => ?_)
        refine lv_iadd (pc := 60) hx hb dX11_feed_60 ?_
        refine lv_lload_n (pc := 61) hx hb dX11_feed_61 rfl (lv_at hl 1 rfl) ?_
        refine lv_bipush (pc := 62) (v := (iI 8)) hx hb dX11_feed_62 (by decide) ?_
        refine lv_iload (pc := 64) hx hb dX11_feed_64 (lv_at hl 3 rfl) ?_
        refine lv_imul (pc := 66) hx hb dX11_feed_66 ?_
        refine lv_lshr (pc := 67) (v := (shrL a1 ((iI 8) * x3))) hx hb dX11_feed_67 rfl ?_
        refine lv_ldc2 (pc := 68) (v := (iL 255)) hx hb hown (hts _ kl_X11_261) dX11_feed_68 ?_
        refine lv_land (pc := 71) hx hb dX11_feed_71 ?_
        refine lv_l2i (pc := 72) hx hb dX11_feed_72 rfl ?_
        refine q_ast (pc := 73) (q := 73) (n := 305) hx hb hK hw rfl dX11_feed_73 hs (fun h8 H locs hw hs => ?_)
        refine lv_aload_n (pc := 74) hx hb dX11_feed_74 rfl (lv_at hl 0 rfl) ?_
        refine q_getR (pc := 75) (q := 72) (o := 1) hx hb hts hown hK hw rfl fg_X11_7 dX11_feed_75 ?_
        refine lv_iconst (pc := 78) (v := (iI 5)) hx hb dX11_feed_78 rfl ?_
        refine lv_dup2_11 (pc := 79) hx hb dX11_feed_79 rfl rfl ?_
        refine q_ald (pc := 80) (q := 73) (n := 305) hx hb hK hw rfl dX11_feed_80 hs (fun v9 hs => ?_)
        refine lv_iconst (pc := 81) (v := (iI 1)) hx hb dX11_feed_81 rfl ?_
        refine lv_iadd (pc := 82) hx hb dX11_feed_82 ?_
        refine q_ast (pc := 83) (q := 73) (n := 305) hx hb hK hw rfl dX11_feed_83 hs (fun h10 H locs hw hs => ?_)
        obtain ⟨x11, ex11, hs⟩ := q_nm hs
        refine lv_iinc (pc := 84) (v := x11) (lv' := [(4, .int x11), (0, .ref (G.2.2.1 72)), (1, .long a1), (3, .int a2)]) hx hb dX11_feed_84 hl (k := 3) rfl ex11 (by decide) rfl (fun ls hl => ?_)
        refine lv_goto (pc := 87) (tgt := 41) hx hb dX11_feed_87 (by decide) ?_
        exact hK5 _ _ hs _ _ hw _ (lv_sub hl [1, 2, 3, 0] rfl)
    · replace hs := q_f hc hs
      refine lv_aload_n (pc := 30) hx hb dX11_feed_30 rfl (lv_at hl 0 rfl) ?_
      refine lv_ldcw (pc := 31) (v := (iI (-1000000004))) hx hb hown (hts _ ki_X11_260) dX11_feed_31 ?_
      obtain ⟨v12, h13, ev, hs⟩ := q_cal2 hs
      refine q_callV (pc := 34) (q := 72) (As := [.int (iI (-1000000004))]) (rest := []) (rs := [.int v12]) hx hb hml hl.1 hts hown hK hSt hN hw (c_X11_errs l G (iI (-1000000004)) h v12 h13 ev) rfl rfl cv_X11_79 (rm_ok hR (by decide)) rfl (Nat.le_of_ble_eq_true rfl) rfl rfl dX11_feed_34 (fun H locs hw => ?_)
      exact q_iretW hret dX11_feed_37 hw hs
  · replace hs := q_f (fun z => z hc) hs
    refine lv_aload_n (pc := 10) hx hb dX11_feed_10 rfl (lv_at hl 0 rfl) ?_
    refine lv_ldc (pc := 11) (v := (iI (-1000000001))) hx hb hown (hts _ ki_X11_78) dX11_feed_11 ?_
    obtain ⟨v14, h15, ev, hs⟩ := q_cal2 hs
    refine q_callV (pc := 13) (q := 72) (As := [.int (iI (-1000000001))]) (rest := []) (rs := [.int v14]) hx hb hml hl.1 hts hown hK hSt hN hw (c_X11_errs l G (iI (-1000000001)) h v14 h15 ev) rfl rfl cv_X11_79 (rm_ok hR (by decide)) rfl (Nat.le_of_ble_eq_true rfl) rfl rfl dX11_feed_13 (fun H locs hw => ?_)
    exact q_iretW hret dX11_feed_16 hw hs

set_option maxHeartbeats 4000000 in
set_option maxRecDepth 100000 in
theorem c_X11_text (l : Launch) (G : GG) (a1 : Int32) (h : Mem) (v : Int32) (h' : Mem) (hs : f_X11_text h a1 = some (v, h')) : Sat l G yX11_text cX11_text 5 (some .int) 53 [.ref (G.2.2.1 72), .int a1] h (some (.int v)) h' := by
  refine Sat.mkI (by decide) (Nat.le_of_ble_eq_true rfl) ?_
  intro p e R s m args below meth c Q F hret hw ls hl
  obtain ⟨hx, hb, hml, hown, hts, hK, hSt, hN, hR⟩ := F
  have hl : lv_has ls 5 [(0, .ref (G.2.2.1 72)), (1, .int a1)] := hl
  unfold f_X11_text at hs
  refine lv_iload_n (pc := 0) hx hb dX11_text_0 rfl (lv_at hl 1 rfl) ?_
  refine lv_iconst (pc := 1) (v := (iI 0)) hx hb dX11_text_1 rfl ?_
  refine lv_iconst (pc := 2) (v := (iI 1)) hx hb dX11_text_2 rfl ?_
  obtain ⟨v1, ev, hs⟩ := q_cal hs
  refine q_callS (pc := 3) (As := [.int a1, .int (iI 0), .int (iI 1)]) (rest := []) (rs := [.int v1]) hx hb hml hl.1 hts hown hK hSt hN hw (c_X11_in l G a1 (iI 0) (iI 1) h v1 ev) cs_X11_71 (rm_ok hR (by decide)) rfl (Nat.le_of_ble_eq_true rfl) rfl rfl dX11_text_3 (fun H locs hw => ?_)
  refine lv_if_ne (pc := 6) (tgt := 16) hx hb dX11_text_6 (by decide) (fun hc => ?_) (fun hc => ?_)
  · replace hs := q_t hc hs
    refine lv_aload_n (pc := 16) hx hb dX11_text_16 rfl (lv_at hl 0 rfl) ?_
    refine lv_aload_n (pc := 17) hx hb dX11_text_17 rfl (lv_at hl 0 rfl) ?_
    refine q_getR (pc := 18) (q := 72) (o := 1) hx hb hts hown hK hw rfl fg_X11_7 dX11_text_18 ?_
    refine lv_aload_n (pc := 21) hx hb dX11_text_21 rfl (lv_at hl 0 rfl) ?_
    refine q_getR (pc := 22) (q := 72) (o := 4) hx hb hts hown hK hw rfl fg_X11_19 dX11_text_22 ?_
    obtain ⟨h2, ev, hs⟩ := q_cal hs
    refine q_callV (pc := 25) (q := 72) (As := [.ref (G.2.2.1 73), .ref (G.2.2.1 76)]) (rest := []) (rs := []) hx hb hml hl.1 hts hown hK hSt hN hw (c_X11_moveAll l G 73 305 rfl 76 305 rfl h h2 ev) rfl rfl cv_X11_188 (rm_ok hR (by decide)) rfl (Nat.le_of_ble_eq_true rfl) rfl rfl dX11_text_25 (fun H locs hw => ?_)
    refine lv_iconst (pc := 28) (v := (iI 0)) hx hb dX11_text_28 rfl ?_
    refine lv_istore_n (pc := 29) (lv' := [(2, .int (iI 0)), (0, .ref (G.2.2.1 72)), (1, .int a1)]) hx hb dX11_text_29 rfl hl (by decide) rfl (fun ls hl => ?_)
    refine (q_lo2 (P0 := fun (x3 : Int32) (h4 : Mem) => ∀ (H : Heap) (locs : List Loc), IW G s h4 H locs → ∀ ls : Array Slot, lv_has ls 5 [(0, .ref (G.2.2.1 72)), (1, .int a1), (2, .int x3)] → W p l e R s m args below meth c H locs 0 0 Q (F0 m 30 ls [])) hs ?_) _ _ hw _ (lv_sub hl [1, 2, 0] rfl)
    intro K5 hK5 x3 h4 hs H locs hw ls hl
    unfold f_X11_text_k5 at hs
    refine lv_iload_n (pc := 30) hx hb dX11_text_30 rfl (lv_at hl 2 rfl) ?_
    refine lv_bipush (pc := 31) (v := (iI 50)) hx hb dX11_text_31 (by decide) ?_
    refine lv_icmp_ge (pc := 33) (tgt := 67) hx hb dX11_text_33 (by decide) (fun hc => ?_) (fun hc => ?_)
    · replace hs := q_t hc hs
      refine lv_aload_n (pc := 67) hx hb dX11_text_67 rfl (lv_at hl 0 rfl) ?_
      refine q_getR (pc := 68) (q := 72) (o := 1) hx hb hts hown hK hw rfl fg_X11_7 dX11_text_68 ?_
      refine lv_bipush (pc := 71) (v := (iI 7)) hx hb dX11_text_71 (by decide) ?_
      refine lv_iload_n (pc := 73) hx hb dX11_text_73 rfl (lv_at hl 1 rfl) ?_
      refine lv_iadd (pc := 74) hx hb dX11_text_74 ?_
      refine lv_aload_n (pc := 75) hx hb dX11_text_75 rfl (lv_at hl 0 rfl) ?_
      refine q_getR (pc := 76) (q := 72) (o := 1) hx hb hts hown hK hw rfl fg_X11_7 dX11_text_76 ?_
      refine lv_iconst (pc := 79) (v := (iI 5)) hx hb dX11_text_79 rfl ?_
      refine q_ald (pc := 80) (q := 73) (n := 305) hx hb hK hw rfl dX11_text_80 hs (fun v6 hs => ?_)
      refine q_ast (pc := 81) (q := 73) (n := 305) hx hb hK hw rfl dX11_text_81 hs (fun h7 H locs hw hs => ?_)
      refine lv_aload_n (pc := 82) hx hb dX11_text_82 rfl (lv_at hl 0 rfl) ?_
      refine lv_iload_n (pc := 83) hx hb dX11_text_83 rfl (lv_at hl 1 rfl) ?_
      refine lv_iconst (pc := 84) (v := (iI 1)) hx hb dX11_text_84 rfl ?_
      refine lv_iconst (pc := 85) (v := (iI 1)) hx hb dX11_text_85 rfl ?_
      refine lv_iconst (pc := 86) (v := (iI 1)) hx hb dX11_text_86 rfl ?_
      obtain ⟨v8, h9, ev, hs⟩ := q_cal2 hs
      refine q_callV (pc := 87) (q := 72) (As := [.int a1, .int (iI 1), .int (iI 1), .int (iI 1)]) (rest := []) (rs := [.int v8]) hx hb hml hl.1 hts hown hK hSt hN hw (c_X11_walks l G a1 (iI 1) (iI 1) (iI 1) h7 v8 h9 ev) rfl rfl cv_X11_257 (rm_ok hR (by decide)) rfl (Nat.le_of_ble_eq_true rfl) rfl rfl dX11_text_87 (fun H locs hw => ?_)
      refine lv_istore_n (pc := 90) (lv' := [(2, .int v8), (0, .ref (G.2.2.1 72)), (1, .int a1)]) hx hb dX11_text_90 rfl hl (by decide) rfl (fun ls hl => ?_)
      refine lv_aload_n (pc := 91) hx hb dX11_text_91 rfl (lv_at hl 1 rfl) ?_
      refine q_getI (pc := 92) (q := 72) hx hb hts hown hK hw rfl fg_X11_206 dX11_text_92 ?_
      refine q_join1 (P0 := fun (x10 : Int32) => ∀ (H : Heap) (locs : List Loc), IW G s h9 H locs → ∀ ls : Array Slot, lv_has ls 5 [(0, .ref (G.2.2.1 72))] → W p l e R s m args below meth c H locs 0 0 Q (F0 m 108 ls [.int x10])) hs ?_ ?_
      · intro x10 hs H locs hw ls hl
        unfold f_X11_text_k11 at hs
        refine lv_istore_n (pc := 108) (lv' := [(3, .int x10), (0, .ref (G.2.2.1 72))]) hx hb dX11_text_108 rfl hl (by decide) rfl (fun ls hl => ?_)
        refine lv_aload_n (pc := 109) hx hb dX11_text_109 rfl (lv_at hl 1 rfl) ?_
        refine q_getI (pc := 110) (q := 72) hx hb hts hown hK hw rfl fg_X11_209 dX11_text_110 ?_
        obtain ⟨x12, ex12, hs⟩ := q_nm hs
        refine q_topI ex12 ?_
        refine lv_istore (pc := 113) (lv' := [(4, .int x12), (3, .int x10), (0, .ref (G.2.2.1 72))]) hx hb dX11_text_113 hl (by decide) rfl (fun ls hl => ?_)
        refine lv_iload_n (pc := 115) hx hb dX11_text_115 rfl (lv_at hl 1 rfl) ?_
        refine q_join1 (P0 := fun (h13 : Mem) => ∀ (H : Heap) (locs : List Loc), IW G s h13 H locs → ∀ ls : Array Slot, lv_has ls 5 [(0, .ref (G.2.2.1 72)), (3, .int x10), (4, .int x12)] → W p l e R s m args below meth c H locs 0 0 Q (F0 m 131 ls [])) hs ?_ ?_
        · intro h13 hs H locs hw ls hl
          refine lv_aload_n (pc := 131) hx hb dX11_text_131 rfl (lv_at hl 0 rfl) ?_
          refine q_getR (pc := 132) (q := 72) (o := 1) hx hb hts hown hK hw rfl fg_X11_7 dX11_text_132 ?_
          refine lv_iconst (pc := 135) (v := (iI 5)) hx hb dX11_text_135 rfl ?_
          refine lv_iconst (pc := 136) (v := (iI 0)) hx hb dX11_text_136 rfl ?_
          refine q_ast (pc := 137) (q := 73) (n := 305) hx hb hK hw rfl dX11_text_137 hs (fun h15 H locs hw hs => ?_)
          refine lv_iload_n (pc := 138) hx hb dX11_text_138 rfl (lv_at hl 1 rfl) ?_
          refine lv_if_eq (pc := 139) (tgt := 146) hx hb dX11_text_139 (by decide) (fun hc => ?_) (fun hc => ?_)
          · replace hs := q_t hc hs
            refine lv_bipush (pc := 146) (v := (iI (-10))) hx hb dX11_text_146 (by decide) ?_
            refine lv_iload (pc := 148) hx hb dX11_text_148 (lv_at hl 2 rfl) ?_
            refine lv_isub (pc := 150) hx hb dX11_text_150 ?_
            exact q_iretW hret dX11_text_151 hw hs
          · replace hs := q_f hc hs
            refine lv_iconst (pc := 142) (v := (iI 1)) hx hb dX11_text_142 rfl ?_
            refine lv_goto (pc := 143) (tgt := 151) hx hb dX11_text_143 (by decide) ?_
            exact q_iretW hret dX11_text_151 hw hs
        · intro K14 hK14 hs
          refine lv_if_ne (pc := 116) (tgt := 131) hx hb dX11_text_116 (by decide) (fun hc => ?_) (fun hc => ?_)
          · replace hs := q_t hc hs
            exact hK14 _ hs _ _ hw _ (lv_sub hl [2, 1, 0] rfl)
          · replace hs := q_f (fun z => z hc) hs
            refine lv_aload_n (pc := 119) hx hb dX11_text_119 rfl (lv_at hl 2 rfl) ?_
            refine lv_aload_n (pc := 120) hx hb dX11_text_120 rfl (lv_at hl 2 rfl) ?_
            refine q_getR (pc := 121) (q := 72) (o := 4) hx hb hts hown hK hw rfl fg_X11_19 dX11_text_121 ?_
            refine lv_aload_n (pc := 124) hx hb dX11_text_124 rfl (lv_at hl 2 rfl) ?_
            refine q_getR (pc := 125) (q := 72) (o := 1) hx hb hts hown hK hw rfl fg_X11_7 dX11_text_125 ?_
            obtain ⟨h16, ev, hs⟩ := q_cal hs
            refine q_callV (pc := 128) (q := 72) (As := [.ref (G.2.2.1 76), .ref (G.2.2.1 73)]) (rest := []) (rs := []) hx hb hml hl.1 hts hown hK hSt hN hw (c_X11_moveAll l G 76 305 rfl 73 305 rfl h9 h16 ev) rfl rfl cv_X11_188 (rm_ok hR (by decide)) rfl (Nat.le_of_ble_eq_true rfl) rfl rfl dX11_text_128 (fun H locs hw => ?_)
            exact hK14 _ hs _ _ hw _ (lv_sub hl [2, 1, 0] rfl)
      · intro K11 hK11 hs
        refine q_join0 (P0 := ∀ (H : Heap) (locs : List Loc), IW G s h9 H locs → ∀ ls : Array Slot, lv_has ls 5 [(0, .ref (G.2.2.1 72))] → W p l e R s m args below meth c H locs 0 0 Q (F0 m 107 ls [])) hs ?_ ?_
        · intro  hs H locs hw ls hl
          refine lv_iconst (pc := 107) (v := (iI 0)) hx hb dX11_text_107 rfl ?_
          exact hK11 _ hs _ _ hw _ (lv_sub hl [0] rfl)
        · intro K17 hK17 hs
          refine lv_if_eq (pc := 95) (tgt := 107) hx hb dX11_text_95 (by decide) (fun hc => ?_) (fun hc => ?_)
          · replace hs := q_t hc hs
            exact hK17 hs _ _ hw _ (lv_sub hl [1] rfl)
          · replace hs := q_f hc hs
            refine lv_iload_n (pc := 98) hx hb dX11_text_98 rfl (lv_at hl 0 rfl) ?_
            refine lv_iload_n (pc := 99) hx hb dX11_text_99 rfl (lv_at hl 0 rfl) ?_
            refine lv_icmp_ne (pc := 100) (tgt := 107) hx hb dX11_text_100 (by decide) (fun hc => ?_) (fun hc => ?_)
            · replace hs := q_t hc hs
              exact hK17 hs _ _ hw _ (lv_sub hl [1] rfl)
            · replace hs := q_f (fun z => z hc) hs
              refine lv_iconst (pc := 103) (v := (iI 1)) hx hb dX11_text_103 rfl ?_
              refine lv_goto (pc := 104) (tgt := 108) hx hb dX11_text_104 (by decide) ?_
              exact hK11 _ hs _ _ hw _ (lv_sub hl [1] rfl)
    · replace hs := q_f hc hs
      refine lv_aload_n (pc := 36) hx hb dX11_text_36 rfl (lv_at hl 0 rfl) ?_
      refine q_getR (pc := 37) (q := 72) (o := 1) hx hb hts hown hK hw rfl fg_X11_7 dX11_text_37 ?_
      refine lv_sipush (pc := 40) (v := (iI 205)) hx hb dX11_text_40 (by decide) ?_
      refine lv_bipush (pc := 43) (v := (iI 50)) hx hb dX11_text_43 (by decide) ?_
      refine lv_iload_n (pc := 45) hx hb dX11_text_45 rfl (lv_at hl 1 rfl) ?_
      refine lv_imul (pc := 46) hx hb dX11_text_46 ?_
      refine lv_iadd (pc := 47) hx hb dX11_text_47 ?_
      refine lv_iload_n (pc := 48) hx hb dX11_text_48 rfl (lv_at hl 2 rfl) ?_
      refine lv_iadd (pc := 49) hx hb dX11_text_49 ?_
      refine lv_aload_n (pc := 50) hx hb dX11_text_50 rfl (lv_at hl 0 rfl) ?_
      refine q_getR (pc := 51) (q := 72) (o := 1) hx hb hts hown hK hw rfl fg_X11_7 dX11_text_51 ?_
      refine lv_sipush (pc := 54) (v := (iI 135)) hx hb dX11_text_54 (by decide) ?_
      refine lv_iload_n (pc := 57) hx hb dX11_text_57 rfl (lv_at hl 2 rfl) ?_
      refine lv_iadd (pc := 58) hx hb dX11_text_58 ?_
      refine q_ald (pc := 59) (q := 73) (n := 305) hx hb hK hw rfl dX11_text_59 hs (fun v18 hs => ?_)
      refine q_ast (pc := 60) (q := 73) (n := 305) hx hb hK hw rfl dX11_text_60 hs (fun h19 H locs hw hs => ?_)
      obtain ⟨x20, ex20, hs⟩ := q_nm hs
      refine lv_iinc (pc := 61) (v := x20) (lv' := [(2, .int x20), (0, .ref (G.2.2.1 72)), (1, .int a1)]) hx hb dX11_text_61 hl (k := 2) rfl ex20 (by decide) rfl (fun ls hl => ?_)
      refine lv_goto (pc := 64) (tgt := 30) hx hb dX11_text_64 (by decide) ?_
      exact hK5 _ _ hs _ _ hw _ (lv_sub hl [1, 2, 0] rfl)
  · replace hs := q_f (fun z => z hc) hs
    refine lv_aload_n (pc := 9) hx hb dX11_text_9 rfl (lv_at hl 0 rfl) ?_
    refine lv_ldc (pc := 10) (v := (iI (-1000000001))) hx hb hown (hts _ ki_X11_78) dX11_text_10 ?_
    obtain ⟨v21, h22, ev, hs⟩ := q_cal2 hs
    refine q_callV (pc := 12) (q := 72) (As := [.int (iI (-1000000001))]) (rest := []) (rs := [.int v21]) hx hb hml hl.1 hts hown hK hSt hN hw (c_X11_errs l G (iI (-1000000001)) h v21 h22 ev) rfl rfl cv_X11_79 (rm_ok hR (by decide)) rfl (Nat.le_of_ble_eq_true rfl) rfl rfl dX11_text_12 (fun H locs hw => ?_)
    exact q_iretW hret dX11_text_15 hw hs

set_option maxHeartbeats 4000000 in
theorem c_X11_standsAs (l : Launch) (G : GG) (q1 n1 : Nat) (hq1 : LAY[q1]? = some (0, n1)) (h : Mem) (v : Int32)  (hs : f_X11_standsAs h q1 n1 = some v) : Sat l G yX11_standsAs cX11_standsAs 5 (some .boolean) 1 [.ref (G.2.2.1 72), .ref (G.2.2.1 q1)] h (some (.int v)) h := by
  refine Sat.mkZ (by decide) (Nat.le_of_ble_eq_true rfl) ?_
  intro p e R s m args below meth c Q F hret hw ls hl
  obtain ⟨hx, hb, hml, hown, hts, hK, hSt, hN, hR⟩ := F
  have hl : lv_has ls 5 [(0, .ref (G.2.2.1 72)), (1, .ref (G.2.2.1 q1))] := hl
  unfold f_X11_standsAs at hs
  refine lv_iconst (pc := 0) (v := (iI 1)) hx hb dX11_standsAs_0 rfl ?_
  refine lv_istore_n (pc := 1) (lv' := [(2, .int (iI 1)), (0, .ref (G.2.2.1 72)), (1, .ref (G.2.2.1 q1))]) hx hb dX11_standsAs_1 rfl hl (by decide) rfl (fun ls hl => ?_)
  refine lv_iconst (pc := 2) (v := (iI 0)) hx hb dX11_standsAs_2 rfl ?_
  refine lv_istore_n (pc := 3) (lv' := [(3, .int (iI 0)), (2, .int (iI 1)), (0, .ref (G.2.2.1 72)), (1, .ref (G.2.2.1 q1))]) hx hb dX11_standsAs_3 rfl hl (by decide) rfl (fun ls hl => ?_)
  refine (q_lo2 (P0 := fun (x1 : Int32) (x2 : Int32) => ∀ (H : Heap) (locs : List Loc), IW G s h H locs → ∀ ls : Array Slot, lv_has ls 5 [(0, .ref (G.2.2.1 72)), (1, .ref (G.2.2.1 q1)), (2, .int x1), (3, .int x2)] → W p l e R s m args below meth c H locs 0 0 Q (F0 m 4 ls [])) hs ?_) _ _ hw _ (lv_sub hl [2, 3, 1, 0] rfl)
  intro K3 hK3 x1 x2 hs H locs hw ls hl
  unfold f_X11_standsAs_k3 at hs
  refine lv_iload_n (pc := 4) hx hb dX11_standsAs_4 rfl (lv_at hl 3 rfl) ?_
  refine lv_aload_n (pc := 5) hx hb dX11_standsAs_5 rfl (lv_at hl 0 rfl) ?_
  obtain ⟨v4, ev, hs⟩ := q_cal hs
  refine q_callV (pc := 6) (q := 72) (As := []) (rest := [.int x2]) (rs := [.int v4, .int x2]) hx hb hml hl.1 hts hown hK hSt hN hw (c_X11_many l G h v4 ev) rfl rfl cv_X11_67 (rm_ok hR (by decide)) rfl (Nat.le_of_ble_eq_true rfl) rfl rfl dX11_standsAs_6 (fun H locs hw => ?_)
  refine lv_icmp_ge (pc := 9) (tgt := 72) hx hb dX11_standsAs_9 (by decide) (fun hc => ?_) (fun hc => ?_)
  · replace hs := q_t hc hs
    refine lv_iload_n (pc := 72) hx hb dX11_standsAs_72 rfl (lv_at hl 2 rfl) ?_
    exact q_zret hret dX11_standsAs_73 hw hs
  · replace hs := q_f hc hs
    refine lv_bipush (pc := 12) (v := (iI 10)) hx hb dX11_standsAs_12 (by decide) ?_
    refine lv_iconst (pc := 14) (v := (iI 5)) hx hb dX11_standsAs_14 rfl ?_
    refine lv_iload_n (pc := 15) hx hb dX11_standsAs_15 rfl (lv_at hl 3 rfl) ?_
    refine lv_imul (pc := 16) hx hb dX11_standsAs_16 ?_
    refine lv_iadd (pc := 17) hx hb dX11_standsAs_17 ?_
    obtain ⟨x5, ex5, hs⟩ := q_nm hs
    refine q_topI ex5 ?_
    refine lv_istore (pc := 18) (lv' := [(4, .int x5), (0, .ref (G.2.2.1 72)), (1, .ref (G.2.2.1 q1)), (2, .int x1), (3, .int x2)]) hx hb dX11_standsAs_18 hl (by decide) rfl (fun ls hl => ?_)
    refine lv_iload_n (pc := 20) hx hb dX11_standsAs_20 rfl (lv_at hl 3 rfl) ?_
    refine q_join1 (P0 := fun (x6 : Int32) => ∀ (H : Heap) (locs : List Loc), IW G s h H locs → ∀ ls : Array Slot, lv_has ls 5 [(0, .ref (G.2.2.1 72)), (1, .ref (G.2.2.1 q1)), (3, .int x2)] → W p l e R s m args below meth c H locs 0 0 Q (F0 m 65 ls [.int x6])) hs ?_ ?_
    · intro x6 hs H locs hw ls hl
      refine lv_istore_n (pc := 65) (lv' := [(2, .int x6), (0, .ref (G.2.2.1 72)), (1, .ref (G.2.2.1 q1)), (3, .int x2)]) hx hb dX11_standsAs_65 rfl hl (by decide) rfl (fun ls hl => ?_)
      obtain ⟨x8, ex8, hs⟩ := q_nm hs
      refine lv_iinc (pc := 66) (v := x8) (lv' := [(3, .int x8), (2, .int x6), (0, .ref (G.2.2.1 72)), (1, .ref (G.2.2.1 q1))]) hx hb dX11_standsAs_66 hl (k := 3) rfl ex8 (by decide) rfl (fun ls hl => ?_)
      refine lv_goto (pc := 69) (tgt := 4) hx hb dX11_standsAs_69 (by decide) ?_
      exact hK3 _ _ hs _ _ hw _ (lv_sub hl [2, 3, 1, 0] rfl)
    · intro K7 hK7 hs
      refine q_join0 (P0 := ∀ (H : Heap) (locs : List Loc), IW G s h H locs → ∀ ls : Array Slot, lv_has ls 5 [(0, .ref (G.2.2.1 72)), (1, .ref (G.2.2.1 q1)), (3, .int x2)] → W p l e R s m args below meth c H locs 0 0 Q (F0 m 64 ls [])) hs ?_ ?_
      · intro  hs H locs hw ls hl
        refine lv_iconst (pc := 64) (v := (iI 0)) hx hb dX11_standsAs_64 rfl ?_
        exact hK7 _ hs _ _ hw _ (lv_sub hl [0, 1, 2] rfl)
      · intro K9 hK9 hs
        refine lv_if_eq (pc := 21) (tgt := 64) hx hb dX11_standsAs_21 (by decide) (fun hc => ?_) (fun hc => ?_)
        · replace hs := q_t hc hs
          exact hK9 hs _ _ hw _ (lv_sub hl [1, 2, 4] rfl)
        · replace hs := q_f hc hs
          refine lv_aload_n (pc := 24) hx hb dX11_standsAs_24 rfl (lv_at hl 1 rfl) ?_
          refine q_getR (pc := 25) (q := 72) (o := 1) hx hb hts hown hK hw rfl fg_X11_7 dX11_standsAs_25 ?_
          refine lv_iload (pc := 28) hx hb dX11_standsAs_28 (lv_at hl 0 rfl) ?_
          refine lv_iconst (pc := 30) (v := (iI 2)) hx hb dX11_standsAs_30 rfl ?_
          refine lv_iadd (pc := 31) hx hb dX11_standsAs_31 ?_
          refine q_ald (pc := 32) (q := 73) (n := 305) hx hb hK hw rfl dX11_standsAs_32 hs (fun v10 hs => ?_)
          refine lv_aload_n (pc := 33) hx hb dX11_standsAs_33 rfl (lv_at hl 2 rfl) ?_
          refine lv_iload (pc := 34) hx hb dX11_standsAs_34 (lv_at hl 0 rfl) ?_
          refine lv_iconst (pc := 36) (v := (iI 2)) hx hb dX11_standsAs_36 rfl ?_
          refine lv_iadd (pc := 37) hx hb dX11_standsAs_37 ?_
          refine q_ald (pc := 38) (q := q1) (n := n1) hx hb hK hw hq1 dX11_standsAs_38 hs (fun v11 hs => ?_)
          refine lv_icmp_ne (pc := 39) (tgt := 64) hx hb dX11_standsAs_39 (by decide) (fun hc => ?_) (fun hc => ?_)
          · replace hs := q_t hc hs
            exact hK9 hs _ _ hw _ (lv_sub hl [1, 2, 4] rfl)
          · replace hs := q_f (fun z => z hc) hs
            refine lv_aload_n (pc := 42) hx hb dX11_standsAs_42 rfl (lv_at hl 1 rfl) ?_
            refine q_getR (pc := 43) (q := 72) (o := 1) hx hb hts hown hK hw rfl fg_X11_7 dX11_standsAs_43 ?_
            refine lv_iload (pc := 46) hx hb dX11_standsAs_46 (lv_at hl 0 rfl) ?_
            refine lv_iconst (pc := 48) (v := (iI 3)) hx hb dX11_standsAs_48 rfl ?_
            refine lv_iadd (pc := 49) hx hb dX11_standsAs_49 ?_
            refine q_ald (pc := 50) (q := 73) (n := 305) hx hb hK hw rfl dX11_standsAs_50 hs (fun v12 hs => ?_)
            refine lv_aload_n (pc := 51) hx hb dX11_standsAs_51 rfl (lv_at hl 2 rfl) ?_
            refine lv_iload (pc := 52) hx hb dX11_standsAs_52 (lv_at hl 0 rfl) ?_
            refine lv_iconst (pc := 54) (v := (iI 3)) hx hb dX11_standsAs_54 rfl ?_
            refine lv_iadd (pc := 55) hx hb dX11_standsAs_55 ?_
            refine q_ald (pc := 56) (q := q1) (n := n1) hx hb hK hw hq1 dX11_standsAs_56 hs (fun v13 hs => ?_)
            refine lv_icmp_ne (pc := 57) (tgt := 64) hx hb dX11_standsAs_57 (by decide) (fun hc => ?_) (fun hc => ?_)
            · replace hs := q_t hc hs
              exact hK9 hs _ _ hw _ (lv_sub hl [1, 2, 4] rfl)
            · replace hs := q_f (fun z => z hc) hs
              refine lv_iconst (pc := 60) (v := (iI 1)) hx hb dX11_standsAs_60 rfl ?_
              refine lv_goto (pc := 61) (tgt := 65) hx hb dX11_standsAs_61 (by decide) ?_
              exact hK7 _ hs _ _ hw _ (lv_sub hl [1, 2, 4] rfl)

set_option maxHeartbeats 4000000 in
theorem c_X11_round (l : Launch) (G : GG) (a1 : Int32) (h : Mem) (v : Int32) (h' : Mem) (hs : f_X11_round h a1 = some (v, h')) : Sat l G yX11_round cX11_round 5 (some .int) 5 [.ref (G.2.2.1 72), .int a1] h (some (.int v)) h' := by
  refine Sat.mkI (by decide) (Nat.le_of_ble_eq_true rfl) ?_
  intro p e R s m args below meth c Q F hret hw ls hl
  obtain ⟨hx, hb, hml, hown, hts, hK, hSt, hN, hR⟩ := F
  have hl : lv_has ls 5 [(0, .ref (G.2.2.1 72)), (1, .int a1)] := hl
  unfold f_X11_round at hs
  refine lv_aload_n (pc := 0) hx hb dX11_round_0 rfl (lv_at hl 0 rfl) ?_
  refine lv_iload_n (pc := 1) hx hb dX11_round_1 rfl (lv_at hl 1 rfl) ?_
  obtain ⟨v1, ev, hs⟩ := q_cal hs
  refine q_callV (pc := 2) (q := 72) (As := [.int a1]) (rest := []) (rs := [.int v1]) hx hb hml hl.1 hts hown hK hSt hN hw (c_X11_isWindow l G a1 h v1 ev) rfl rfl cv_X11_182 (rm_ok hR (by decide)) rfl (Nat.le_of_ble_eq_true rfl) rfl rfl dX11_round_2 (fun H locs hw => ?_)
  refine lv_if_ne (pc := 5) (tgt := 15) hx hb dX11_round_5 (by decide) (fun hc => ?_) (fun hc => ?_)
  · replace hs := q_t hc hs
    refine lv_aload_n (pc := 15) hx hb dX11_round_15 rfl (lv_at hl 0 rfl) ?_
    refine lv_aload_n (pc := 16) hx hb dX11_round_16 rfl (lv_at hl 0 rfl) ?_
    refine q_getR (pc := 17) (q := 72) (o := 1) hx hb hts hown hK hw rfl fg_X11_7 dX11_round_17 ?_
    refine lv_aload_n (pc := 20) hx hb dX11_round_20 rfl (lv_at hl 0 rfl) ?_
    refine q_getR (pc := 21) (q := 72) (o := 3) hx hb hts hown hK hw rfl fg_X11_16 dX11_round_21 ?_
    obtain ⟨h2, ev, hs⟩ := q_cal hs
    refine q_callV (pc := 24) (q := 72) (As := [.ref (G.2.2.1 73), .ref (G.2.2.1 75)]) (rest := []) (rs := []) hx hb hml hl.1 hts hown hK hSt hN hw (c_X11_moveAll l G 73 305 rfl 75 305 rfl h h2 ev) rfl rfl cv_X11_188 (rm_ok hR (by decide)) rfl (Nat.le_of_ble_eq_true rfl) rfl rfl dX11_round_24 (fun H locs hw => ?_)
    refine lv_iconst (pc := 27) (v := (iI 0)) hx hb dX11_round_27 rfl ?_
    refine lv_istore_n (pc := 28) (lv' := [(2, .int (iI 0)), (0, .ref (G.2.2.1 72)), (1, .int a1)]) hx hb dX11_round_28 rfl hl (by decide) rfl (fun ls hl => ?_)
    refine lv_iconst (pc := 29) (v := (iI 0)) hx hb dX11_round_29 rfl ?_
    refine lv_istore_n (pc := 30) (lv' := [(3, .int (iI 0)), (2, .int (iI 0)), (0, .ref (G.2.2.1 72)), (1, .int a1)]) hx hb dX11_round_30 rfl hl (by decide) rfl (fun ls hl => ?_)
    refine (q_lo3 (P0 := fun (x3 : Int32) (x4 : Int32) (h5 : Mem) => ∀ (H : Heap) (locs : List Loc), IW G s h5 H locs → ∀ ls : Array Slot, lv_has ls 5 [(0, .ref (G.2.2.1 72)), (1, .int a1), (2, .int x3), (3, .int x4)] → W p l e R s m args below meth c H locs 0 0 Q (F0 m 31 ls [])) hs ?_) _ _ hw _ (lv_sub hl [2, 3, 1, 0] rfl)
    intro K6 hK6 x3 x4 h5 hs H locs hw ls hl
    unfold f_X11_round_k6 at hs
    refine lv_iload_n (pc := 31) hx hb dX11_round_31 rfl (lv_at hl 2 rfl) ?_
    refine lv_sipush (pc := 32) (v := (iI 400)) hx hb dX11_round_32 (by decide) ?_
    refine q_join0 (P0 := ∀ (H : Heap) (locs : List Loc), IW G s h5 H locs → ∀ ls : Array Slot, lv_has ls 5 [(0, .ref (G.2.2.1 72)), (2, .int x3), (3, .int x4)] → W p l e R s m args below meth c H locs 0 0 Q (F0 m 77 ls [])) hs ?_ ?_
    · intro  hs H locs hw ls hl
      unfold f_X11_round_k7 at hs
      refine lv_aload_n (pc := 77) hx hb dX11_round_77 rfl (lv_at hl 0 rfl) ?_
      refine lv_aload_n (pc := 78) hx hb dX11_round_78 rfl (lv_at hl 0 rfl) ?_
      refine q_getR (pc := 79) (q := 72) (o := 3) hx hb hts hown hK hw rfl fg_X11_16 dX11_round_79 ?_
      refine lv_aload_n (pc := 82) hx hb dX11_round_82 rfl (lv_at hl 0 rfl) ?_
      refine q_getR (pc := 83) (q := 72) (o := 1) hx hb hts hown hK hw rfl fg_X11_7 dX11_round_83 ?_
      obtain ⟨h8, ev, hs⟩ := q_cal hs
      refine q_callV (pc := 86) (q := 72) (As := [.ref (G.2.2.1 75), .ref (G.2.2.1 73)]) (rest := []) (rs := []) hx hb hml hl.1 hts hown hK hSt hN hw (c_X11_moveAll l G 75 305 rfl 73 305 rfl h5 h8 ev) rfl rfl cv_X11_188 (rm_ok hR (by decide)) rfl (Nat.le_of_ble_eq_true rfl) rfl rfl dX11_round_86 (fun H locs hw => ?_)
      refine lv_iload_n (pc := 89) hx hb dX11_round_89 rfl (lv_at hl 2 rfl) ?_
      refine lv_if_eq (pc := 90) (tgt := 97) hx hb dX11_round_90 (by decide) (fun hc => ?_) (fun hc => ?_)
      · replace hs := q_t hc hs
        refine lv_aload_n (pc := 97) hx hb dX11_round_97 rfl (lv_at hl 0 rfl) ?_
        refine lv_ldc (pc := 98) (v := (iI (-1000000002))) hx hb hown (hts _ ki_X11_195) dX11_round_98 ?_
        obtain ⟨v9, h10, ev, hs⟩ := q_cal2 hs
        refine q_callV (pc := 100) (q := 72) (As := [.int (iI (-1000000002))]) (rest := []) (rs := [.int v9]) hx hb hml hl.1 hts hown hK hSt hN hw (c_X11_errs l G (iI (-1000000002)) h8 v9 h10 ev) rfl rfl cv_X11_79 (rm_ok hR (by decide)) rfl (Nat.le_of_ble_eq_true rfl) rfl rfl dX11_round_100 (fun H locs hw => ?_)
        exact q_iretW hret dX11_round_103 hw hs
      · replace hs := q_f hc hs
        refine lv_iload_n (pc := 93) hx hb dX11_round_93 rfl (lv_at hl 1 rfl) ?_
        refine lv_goto (pc := 94) (tgt := 103) hx hb dX11_round_94 (by decide) ?_
        exact q_iretW hret dX11_round_103 hw hs
    · intro K7 hK7 hs
      refine lv_icmp_ge (pc := 35) (tgt := 77) hx hb dX11_round_35 (by decide) (fun hc => ?_) (fun hc => ?_)
      · replace hs := q_t hc hs
        exact hK7 hs _ _ hw _ (lv_sub hl [0, 2, 3] rfl)
      · replace hs := q_f hc hs
        refine lv_iload_n (pc := 38) hx hb dX11_round_38 rfl (lv_at hl 3 rfl) ?_
        refine lv_if_ne (pc := 39) (tgt := 77) hx hb dX11_round_39 (by decide) (fun hc => ?_) (fun hc => ?_)
        · replace hs := q_t hc hs
          exact hK7 hs _ _ hw _ (lv_sub hl [0, 2, 3] rfl)
        · replace hs := q_f (fun z => z hc) hs
          refine lv_aload_n (pc := 42) hx hb dX11_round_42 rfl (lv_at hl 0 rfl) ?_
          refine lv_iload_n (pc := 43) hx hb dX11_round_43 rfl (lv_at hl 1 rfl) ?_
          obtain ⟨v11, h12, ev, hs⟩ := q_cal2 hs
          refine q_callV (pc := 44) (q := 72) (As := [.int a1]) (rest := []) (rs := [.int v11]) hx hb hml hl.1 hts hown hK hSt hN hw (c_X11_goes l G a1 h5 v11 h12 ev) rfl rfl cv_X11_179 (rm_ok hR (by decide)) rfl (Nat.le_of_ble_eq_true rfl) rfl rfl dX11_round_44 (fun H locs hw => ?_)
          refine lv_istore (pc := 47) (lv' := [(4, .int v11), (0, .ref (G.2.2.1 72)), (1, .int a1), (2, .int x3), (3, .int x4)]) hx hb dX11_round_47 hl (by decide) rfl (fun ls hl => ?_)
          obtain ⟨x13, ex13, hs⟩ := q_nm hs
          refine lv_iinc (pc := 49) (v := x13) (lv' := [(2, .int x13), (4, .int v11), (0, .ref (G.2.2.1 72)), (1, .int a1), (3, .int x4)]) hx hb dX11_round_49 hl (k := 3) rfl ex13 (by decide) rfl (fun ls hl => ?_)
          refine lv_iload (pc := 52) hx hb dX11_round_52 (lv_at hl 1 rfl) ?_
          refine q_join1 (P0 := fun (x14 : Int32) => ∀ (H : Heap) (locs : List Loc), IW G s h12 H locs → ∀ ls : Array Slot, lv_has ls 5 [(0, .ref (G.2.2.1 72)), (1, .int a1), (2, .int x13)] → W p l e R s m args below meth c H locs 0 0 Q (F0 m 73 ls [.int x14])) hs ?_ ?_
          · intro x14 hs H locs hw ls hl
            refine lv_istore_n (pc := 73) (lv' := [(3, .int x14), (0, .ref (G.2.2.1 72)), (1, .int a1), (2, .int x13)]) hx hb dX11_round_73 rfl hl (by decide) rfl (fun ls hl => ?_)
            refine lv_goto (pc := 74) (tgt := 31) hx hb dX11_round_74 (by decide) ?_
            exact hK6 _ _ _ hs _ _ hw _ (lv_sub hl [1, 2, 3, 0] rfl)
          · intro K15 hK15 hs
            refine q_join0 (P0 := ∀ (H : Heap) (locs : List Loc), IW G s h12 H locs → ∀ ls : Array Slot, lv_has ls 5 [(0, .ref (G.2.2.1 72)), (1, .int a1), (2, .int x13)] → W p l e R s m args below meth c H locs 0 0 Q (F0 m 72 ls [])) hs ?_ ?_
            · intro  hs H locs hw ls hl
              refine lv_iconst (pc := 72) (v := (iI 0)) hx hb dX11_round_72 rfl ?_
              exact hK15 _ hs _ _ hw _ (lv_sub hl [0, 1, 2] rfl)
            · intro K16 hK16 hs
              refine lv_if_lt (pc := 54) (tgt := 72) hx hb dX11_round_54 (by decide) (fun hc => ?_) (fun hc => ?_)
              · replace hs := q_t hc hs
                exact hK16 hs _ _ hw _ (lv_sub hl [2, 3, 0] rfl)
              · replace hs := q_f hc hs
                refine lv_aload_n (pc := 57) hx hb dX11_round_57 rfl (lv_at hl 2 rfl) ?_
                refine lv_aload_n (pc := 58) hx hb dX11_round_58 rfl (lv_at hl 2 rfl) ?_
                refine q_getR (pc := 59) (q := 72) (o := 3) hx hb hts hown hK hw rfl fg_X11_16 dX11_round_59 ?_
                obtain ⟨v17, ev, hs⟩ := q_cal hs
                refine q_callV (pc := 62) (q := 72) (As := [.ref (G.2.2.1 75)]) (rest := []) (rs := [.int v17]) hx hb hml hl.1 hts hown hK hSt hN hw (c_X11_standsAs l G 75 305 rfl h12 v17 ev) rfl rfl cv_X11_263 (rm_ok hR (by decide)) rfl (Nat.le_of_ble_eq_true rfl) rfl rfl dX11_round_62 (fun H locs hw => ?_)
                refine lv_if_eq (pc := 65) (tgt := 72) hx hb dX11_round_65 (by decide) (fun hc => ?_) (fun hc => ?_)
                · replace hs := q_t hc hs
                  exact hK16 hs _ _ hw _ (lv_sub hl [2, 3, 0] rfl)
                · replace hs := q_f hc hs
                  refine lv_iconst (pc := 68) (v := (iI 1)) hx hb dX11_round_68 rfl ?_
                  refine lv_goto (pc := 69) (tgt := 73) hx hb dX11_round_69 (by decide) ?_
                  exact hK15 _ hs _ _ hw _ (lv_sub hl [2, 3, 0] rfl)
  · replace hs := q_f (fun z => z hc) hs
    refine lv_aload_n (pc := 8) hx hb dX11_round_8 rfl (lv_at hl 0 rfl) ?_
    refine lv_ldc (pc := 9) (v := (iI (-1000000001))) hx hb hown (hts _ ki_X11_78) dX11_round_9 ?_
    obtain ⟨v18, h19, ev, hs⟩ := q_cal2 hs
    refine q_callV (pc := 11) (q := 72) (As := [.int (iI (-1000000001))]) (rest := []) (rs := [.int v18]) hx hb hml hl.1 hts hown hK hSt hN hw (c_X11_errs l G (iI (-1000000001)) h v18 h19 ev) rfl rfl cv_X11_79 (rm_ok hR (by decide)) rfl (Nat.le_of_ble_eq_true rfl) rfl rfl dX11_round_11 (fun H locs hw => ?_)
    exact q_iretW hret dX11_round_14 hw hs

set_option maxHeartbeats 4000000 in
theorem c_X11_saves (l : Launch) (G : GG) (a1 : Int32) (h : Mem) (h' : Mem) (hs : f_X11_saves h a1 = some h') : Sat l G yX11_saves cX11_saves 3 none 0 [.ref (G.2.2.1 72), .int a1] h none h' := by
  refine Sat.mkV (by decide) (Nat.le_of_ble_eq_true rfl) ?_
  intro p e R s m args below meth c Q F hret hw ls hl
  obtain ⟨hx, hb, hml, hown, hts, hK, hSt, hN, hR⟩ := F
  have hl : lv_has ls 3 [(0, .ref (G.2.2.1 72)), (1, .int a1)] := hl
  unfold f_X11_saves at hs
  refine lv_iconst (pc := 0) (v := (iI 0)) hx hb dX11_saves_0 rfl ?_
  refine lv_istore_n (pc := 1) (lv' := [(2, .int (iI 0)), (0, .ref (G.2.2.1 72)), (1, .int a1)]) hx hb dX11_saves_1 rfl hl (by decide) rfl (fun ls hl => ?_)
  refine (q_lo2 (P0 := fun (x1 : Int32) (h2 : Mem) => ∀ (H : Heap) (locs : List Loc), IW G s h2 H locs → ∀ ls : Array Slot, lv_has ls 3 [(0, .ref (G.2.2.1 72)), (1, .int a1), (2, .int x1)] → W p l e R s m args below meth c H locs 0 0 Q (F0 m 2 ls [])) hs ?_) _ _ hw _ (lv_sub hl [1, 2, 0] rfl)
  intro K3 hK3 x1 h2 hs H locs hw ls hl
  unfold f_X11_saves_k3 at hs
  refine lv_iload_n (pc := 2) hx hb dX11_saves_2 rfl (lv_at hl 2 rfl) ?_
  refine lv_sipush (pc := 3) (v := (iI 305)) hx hb dX11_saves_3 (by decide) ?_
  refine lv_icmp_ge (pc := 6) (tgt := 33) hx hb dX11_saves_6 (by decide) (fun hc => ?_) (fun hc => ?_)
  · replace hs := q_t hc hs
    exact q_vret hret dX11_saves_33 hw hs
  · replace hs := q_f hc hs
    refine lv_aload_n (pc := 9) hx hb dX11_saves_9 rfl (lv_at hl 0 rfl) ?_
    refine q_getR (pc := 10) (q := 72) (o := 7) hx hb hts hown hK hw rfl fg_X11_35 dX11_saves_10 ?_
    refine lv_sipush (pc := 13) (v := (iI 305)) hx hb dX11_saves_13 (by decide) ?_
    refine lv_iload_n (pc := 16) hx hb dX11_saves_16 rfl (lv_at hl 1 rfl) ?_
    refine lv_imul (pc := 17) hx hb dX11_saves_17 ?_
    refine lv_iload_n (pc := 18) hx hb dX11_saves_18 rfl (lv_at hl 2 rfl) ?_
    refine lv_iadd (pc := 19) hx hb dX11_saves_19 ?_
    refine lv_aload_n (pc := 20) hx hb dX11_saves_20 rfl (lv_at hl 0 rfl) ?_
    refine q_getR (pc := 21) (q := 72) (o := 1) hx hb hts hown hK hw rfl fg_X11_7 dX11_saves_21 ?_
    refine lv_iload_n (pc := 24) hx hb dX11_saves_24 rfl (lv_at hl 2 rfl) ?_
    refine q_ald (pc := 25) (q := 73) (n := 305) hx hb hK hw rfl dX11_saves_25 hs (fun v4 hs => ?_)
    refine q_ast (pc := 26) (q := 79) (n := 1220) hx hb hK hw rfl dX11_saves_26 hs (fun h5 H locs hw hs => ?_)
    obtain ⟨x6, ex6, hs⟩ := q_nm hs
    refine lv_iinc (pc := 27) (v := x6) (lv' := [(2, .int x6), (0, .ref (G.2.2.1 72)), (1, .int a1)]) hx hb dX11_saves_27 hl (k := 2) rfl ex6 (by decide) rfl (fun ls hl => ?_)
    refine lv_goto (pc := 30) (tgt := 2) hx hb dX11_saves_30 (by decide) ?_
    exact hK3 _ _ hs _ _ hw _ (lv_sub hl [1, 2, 0] rfl)

set_option maxHeartbeats 4000000 in
theorem c_X11_loads (l : Launch) (G : GG) (a1 : Int32) (h : Mem) (h' : Mem) (hs : f_X11_loads h a1 = some h') : Sat l G yX11_loads cX11_loads 3 none 0 [.ref (G.2.2.1 72), .int a1] h none h' := by
  refine Sat.mkV (by decide) (Nat.le_of_ble_eq_true rfl) ?_
  intro p e R s m args below meth c Q F hret hw ls hl
  obtain ⟨hx, hb, hml, hown, hts, hK, hSt, hN, hR⟩ := F
  have hl : lv_has ls 3 [(0, .ref (G.2.2.1 72)), (1, .int a1)] := hl
  unfold f_X11_loads at hs
  refine lv_iconst (pc := 0) (v := (iI 0)) hx hb dX11_loads_0 rfl ?_
  refine lv_istore_n (pc := 1) (lv' := [(2, .int (iI 0)), (0, .ref (G.2.2.1 72)), (1, .int a1)]) hx hb dX11_loads_1 rfl hl (by decide) rfl (fun ls hl => ?_)
  refine (q_lo2 (P0 := fun (x1 : Int32) (h2 : Mem) => ∀ (H : Heap) (locs : List Loc), IW G s h2 H locs → ∀ ls : Array Slot, lv_has ls 3 [(0, .ref (G.2.2.1 72)), (1, .int a1), (2, .int x1)] → W p l e R s m args below meth c H locs 0 0 Q (F0 m 2 ls [])) hs ?_) _ _ hw _ (lv_sub hl [1, 2, 0] rfl)
  intro K3 hK3 x1 h2 hs H locs hw ls hl
  unfold f_X11_loads_k3 at hs
  refine lv_iload_n (pc := 2) hx hb dX11_loads_2 rfl (lv_at hl 2 rfl) ?_
  refine lv_sipush (pc := 3) (v := (iI 305)) hx hb dX11_loads_3 (by decide) ?_
  refine lv_icmp_ge (pc := 6) (tgt := 33) hx hb dX11_loads_6 (by decide) (fun hc => ?_) (fun hc => ?_)
  · replace hs := q_t hc hs
    exact q_vret hret dX11_loads_33 hw hs
  · replace hs := q_f hc hs
    refine lv_aload_n (pc := 9) hx hb dX11_loads_9 rfl (lv_at hl 0 rfl) ?_
    refine q_getR (pc := 10) (q := 72) (o := 1) hx hb hts hown hK hw rfl fg_X11_7 dX11_loads_10 ?_
    refine lv_iload_n (pc := 13) hx hb dX11_loads_13 rfl (lv_at hl 2 rfl) ?_
    refine lv_aload_n (pc := 14) hx hb dX11_loads_14 rfl (lv_at hl 0 rfl) ?_
    refine q_getR (pc := 15) (q := 72) (o := 7) hx hb hts hown hK hw rfl fg_X11_35 dX11_loads_15 ?_
    refine lv_sipush (pc := 18) (v := (iI 305)) hx hb dX11_loads_18 (by decide) ?_
    refine lv_iload_n (pc := 21) hx hb dX11_loads_21 rfl (lv_at hl 1 rfl) ?_
    refine lv_imul (pc := 22) hx hb dX11_loads_22 ?_
    refine lv_iload_n (pc := 23) hx hb dX11_loads_23 rfl (lv_at hl 2 rfl) ?_
    refine lv_iadd (pc := 24) hx hb dX11_loads_24 ?_
    refine q_ald (pc := 25) (q := 79) (n := 1220) hx hb hK hw rfl dX11_loads_25 hs (fun v4 hs => ?_)
    refine q_ast (pc := 26) (q := 73) (n := 305) hx hb hK hw rfl dX11_loads_26 hs (fun h5 H locs hw hs => ?_)
    obtain ⟨x6, ex6, hs⟩ := q_nm hs
    refine lv_iinc (pc := 27) (v := x6) (lv' := [(2, .int x6), (0, .ref (G.2.2.1 72)), (1, .int a1)]) hx hb dX11_loads_27 hl (k := 2) rfl ex6 (by decide) rfl (fun ls hl => ?_)
    refine lv_goto (pc := 30) (tgt := 2) hx hb dX11_loads_30 (by decide) ?_
    exact hK3 _ _ hs _ _ hw _ (lv_sub hl [1, 2, 0] rfl)

def RC_BRING (l : Launch) (G : GG) (rec : Nat → Int32 → Int32 → Mem → Option (Int32 × Mem)) (d : Nat) : Prop :=
  (∀ (a1 : Int32) (a2 : Int32) (h : Mem) (v : Int32) (h' : Mem), rec 0 a1 a2 h = some (v, h') → Sat l G yX11_bringsBack cX11_bringsBack 6 (some .boolean) d [.ref (G.2.2.1 72), .int a1, .int a2] h (some (.int v)) h')

set_option maxHeartbeats 4000000 in
theorem cb_X11_bringsBack (l : Launch) (G : GG) (d : Nat) (rec : Nat → Int32 → Int32 → Mem → Option (Int32 × Mem)) (hrec : RC_BRING l G rec d) (hd : 5 ≤ d) (a1 : Int32) (a2 : Int32) (h : Mem) (v : Int32) (h' : Mem) (hs : b_X11_bringsBack rec a1 a2 h = some (v, h')) : Sat l G yX11_bringsBack cX11_bringsBack 6 (some .boolean) (d + 1) [.ref (G.2.2.1 72), .int a1, .int a2] h (some (.int v)) h' := by
  refine Sat.mkZ (by decide) (Nat.le_of_ble_eq_true rfl) ?_
  intro p e R s m args below meth c Q F hret hw ls hl
  obtain ⟨hx, hb, hml, hown, hts, hK, hSt, hN, hR⟩ := F
  have hl : lv_has ls 6 [(0, .ref (G.2.2.1 72)), (1, .int a1), (2, .int a2)] := hl
  unfold b_X11_bringsBack at hs
  refine lv_iload_n (pc := 0) hx hb dX11_bringsBack_0 rfl (lv_at hl 1 rfl) ?_
  refine lv_if_ne (pc := 1) (tgt := 13) hx hb dX11_bringsBack_1 (by decide) (fun hc => ?_) (fun hc => ?_)
  · replace hs := q_t hc hs
    refine lv_aload_n (pc := 13) hx hb dX11_bringsBack_13 rfl (lv_at hl 0 rfl) ?_
    refine lv_iload_n (pc := 14) hx hb dX11_bringsBack_14 rfl (lv_at hl 2 rfl) ?_
    obtain ⟨h1, ev, hs⟩ := q_cal hs
    refine q_callV (pc := 15) (q := 72) (As := [.int a2]) (rest := []) (rs := []) hx hb hml hl.1 hts hown hK hSt hN hw (c_X11_saves l G a2 h h1 ev) rfl rfl cv_X11_267 (rm_ok hR (by omega)) rfl (Nat.le_of_ble_eq_true rfl) rfl rfl dX11_bringsBack_15 (fun H locs hw => ?_)
    refine lv_iconst (pc := 18) (v := (iI 0)) hx hb dX11_bringsBack_18 rfl ?_
    refine lv_istore_n (pc := 19) (lv' := [(3, .int (iI 0)), (0, .ref (G.2.2.1 72)), (1, .int a1), (2, .int a2)]) hx hb dX11_bringsBack_19 rfl hl (by decide) rfl (fun ls hl => ?_)
    refine lv_iconst (pc := 20) (v := (iI 0)) hx hb dX11_bringsBack_20 rfl ?_
    refine lv_istore (pc := 21) (lv' := [(4, .int (iI 0)), (3, .int (iI 0)), (0, .ref (G.2.2.1 72)), (1, .int a1), (2, .int a2)]) hx hb dX11_bringsBack_21 hl (by decide) rfl (fun ls hl => ?_)
    refine (q_lo3 (P0 := fun (x2 : Int32) (x3 : Int32) (h4 : Mem) => ∀ (H : Heap) (locs : List Loc), IW G s h4 H locs → ∀ ls : Array Slot, lv_has ls 6 [(0, .ref (G.2.2.1 72)), (1, .int a1), (2, .int a2), (3, .int x2), (4, .int x3)] → W p l e R s m args below meth c H locs 0 0 Q (F0 m 23 ls [])) hs ?_) _ _ hw _ (lv_sub hl [2, 3, 4, 1, 0] rfl)
    intro K5 hK5 x2 x3 h4 hs H locs hw ls hl
    unfold b_X11_bringsBack_k5 at hs
    refine lv_iload (pc := 23) hx hb dX11_bringsBack_23 (lv_at hl 4 rfl) ?_
    refine lv_aload_n (pc := 25) hx hb dX11_bringsBack_25 rfl (lv_at hl 0 rfl) ?_
    obtain ⟨v6, ev, hs⟩ := q_cal hs
    refine q_callV (pc := 26) (q := 72) (As := []) (rest := [.int x3]) (rs := [.int v6, .int x3]) hx hb hml hl.1 hts hown hK hSt hN hw (c_X11_windows l G h4 v6 ev) rfl rfl cv_X11_75 (rm_ok hR (by omega)) rfl (Nat.le_of_ble_eq_true rfl) rfl rfl dX11_bringsBack_26 (fun H locs hw => ?_)
    refine lv_icmp_ge (pc := 29) (tgt := 87) hx hb dX11_bringsBack_29 (by decide) (fun hc => ?_) (fun hc => ?_)
    · replace hs := q_t hc hs
      refine lv_iload_n (pc := 87) hx hb dX11_bringsBack_87 rfl (lv_at hl 3 rfl) ?_
      exact q_zretW hret dX11_bringsBack_88 hw hs
    · replace hs := q_f hc hs
      refine lv_iload_n (pc := 32) hx hb dX11_bringsBack_32 rfl (lv_at hl 3 rfl) ?_
      refine lv_if_ne (pc := 33) (tgt := 87) hx hb dX11_bringsBack_33 (by decide) (fun hc => ?_) (fun hc => ?_)
      · replace hs := q_t hc hs
        refine lv_iload_n (pc := 87) hx hb dX11_bringsBack_87 rfl (lv_at hl 3 rfl) ?_
        exact q_zretW hret dX11_bringsBack_88 hw hs
      · replace hs := q_f (fun z => z hc) hs
        refine lv_aload_n (pc := 36) hx hb dX11_bringsBack_36 rfl (lv_at hl 0 rfl) ?_
        refine q_getR (pc := 37) (q := 72) (o := 6) hx hb hts hown hK hw rfl fg_X11_32 dX11_bringsBack_37 ?_
        refine lv_iload_n (pc := 40) hx hb dX11_bringsBack_40 rfl (lv_at hl 2 rfl) ?_
        refine lv_iload (pc := 41) hx hb dX11_bringsBack_41 (lv_at hl 4 rfl) ?_
        refine q_ast (pc := 43) (q := 78) (n := 3) hx hb hK hw rfl dX11_bringsBack_43 hs (fun h7 H locs hw hs => ?_)
        refine lv_aload_n (pc := 44) hx hb dX11_bringsBack_44 rfl (lv_at hl 0 rfl) ?_
        refine lv_iload (pc := 45) hx hb dX11_bringsBack_45 (lv_at hl 4 rfl) ?_
        obtain ⟨v8, h9, ev, hs⟩ := q_cal2 hs
        refine q_callV (pc := 47) (q := 72) (As := [.int x3]) (rest := []) (rs := [.int v8]) hx hb hml hl.1 hts hown hK hSt hN hw (c_X11_goes l G x3 h7 v8 h9 ev) rfl rfl cv_X11_179 (rm_ok hR (by omega)) rfl (Nat.le_of_ble_eq_true rfl) rfl rfl dX11_bringsBack_47 (fun H locs hw => ?_)
        refine lv_istore (pc := 50) (lv' := [(5, .int v8), (0, .ref (G.2.2.1 72)), (1, .int a1), (2, .int a2), (3, .int x2), (4, .int x3)]) hx hb dX11_bringsBack_50 hl (by decide) rfl (fun ls hl => ?_)
        refine lv_iload (pc := 52) hx hb dX11_bringsBack_52 (lv_at hl 0 rfl) ?_
        refine q_join2 (P0 := fun (x10 : Int32) (h11 : Mem) => ∀ (H : Heap) (locs : List Loc), IW G s h11 H locs → ∀ ls : Array Slot, lv_has ls 6 [(0, .ref (G.2.2.1 72)), (1, .int a1), (2, .int a2), (4, .int x3)] → W p l e R s m args below meth c H locs 0 0 Q (F0 m 75 ls [.int x10])) hs ?_ ?_
        · intro x10 h11 hs H locs hw ls hl
          refine lv_istore_n (pc := 75) (lv' := [(3, .int x10), (0, .ref (G.2.2.1 72)), (1, .int a1), (2, .int a2), (4, .int x3)]) hx hb dX11_bringsBack_75 rfl hl (by decide) rfl (fun ls hl => ?_)
          refine lv_aload_n (pc := 76) hx hb dX11_bringsBack_76 rfl (lv_at hl 1 rfl) ?_
          refine lv_iload_n (pc := 77) hx hb dX11_bringsBack_77 rfl (lv_at hl 3 rfl) ?_
          obtain ⟨h13, ev, hs⟩ := q_cal hs
          refine q_callV (pc := 78) (q := 72) (As := [.int a2]) (rest := []) (rs := []) hx hb hml hl.1 hts hown hK hSt hN hw (c_X11_loads l G a2 h11 h13 ev) rfl rfl cv_X11_274 (rm_ok hR (by omega)) rfl (Nat.le_of_ble_eq_true rfl) rfl rfl dX11_bringsBack_78 (fun H locs hw => ?_)
          obtain ⟨x14, ex14, hs⟩ := q_nm hs
          refine lv_iinc (pc := 81) (v := x14) (lv' := [(4, .int x14), (3, .int x10), (0, .ref (G.2.2.1 72)), (1, .int a1), (2, .int a2)]) hx hb dX11_bringsBack_81 hl (k := 4) rfl ex14 (by decide) rfl (fun ls hl => ?_)
          refine lv_goto (pc := 84) (tgt := 23) hx hb dX11_bringsBack_84 (by decide) ?_
          exact hK5 _ _ _ hs _ _ hw _ (lv_sub hl [2, 3, 4, 1, 0] rfl)
        · intro K12 hK12 hs
          refine q_join1 (P0 := fun (h15 : Mem) => ∀ (H : Heap) (locs : List Loc), IW G s h15 H locs → ∀ ls : Array Slot, lv_has ls 6 [(0, .ref (G.2.2.1 72)), (1, .int a1), (2, .int a2), (4, .int x3)] → W p l e R s m args below meth c H locs 0 0 Q (F0 m 74 ls [])) hs ?_ ?_
          · intro h15 hs H locs hw ls hl
            refine lv_iconst (pc := 74) (v := (iI 0)) hx hb dX11_bringsBack_74 rfl ?_
            exact hK12 _ _ hs _ _ hw _ (lv_sub hl [0, 1, 2, 3] rfl)
          · intro K16 hK16 hs
            refine lv_if_lt (pc := 54) (tgt := 74) hx hb dX11_bringsBack_54 (by decide) (fun hc => ?_) (fun hc => ?_)
            · replace hs := q_t hc hs
              exact hK16 _ hs _ _ hw _ (lv_sub hl [1, 2, 3, 5] rfl)
            · replace hs := q_f hc hs
              refine lv_aload_n (pc := 57) hx hb dX11_bringsBack_57 rfl (lv_at hl 1 rfl) ?_
              refine lv_iload_n (pc := 58) hx hb dX11_bringsBack_58 rfl (lv_at hl 2 rfl) ?_
              refine lv_iconst (pc := 59) (v := (iI 1)) hx hb dX11_bringsBack_59 rfl ?_
              refine lv_isub (pc := 60) hx hb dX11_bringsBack_60 ?_
              refine lv_iload_n (pc := 61) hx hb dX11_bringsBack_61 rfl (lv_at hl 3 rfl) ?_
              refine lv_iconst (pc := 62) (v := (iI 1)) hx hb dX11_bringsBack_62 rfl ?_
              refine lv_iadd (pc := 63) hx hb dX11_bringsBack_63 ?_
              obtain ⟨v17, h18, ev, hs⟩ := q_cal2 hs
              refine q_callV (pc := 64) (q := 72) (As := [.int (a1 - (iI 1)), .int (a2 + (iI 1))]) (rest := []) (rs := [.int v17]) hx hb hml hl.1 hts hown hK hSt hN hw (hrec (a1 - (iI 1)) (a2 + (iI 1)) h9 v17 h18 ev) rfl rfl cv_X11_270 (rm_ok hR (by omega)) rfl (Nat.le_of_ble_eq_true rfl) rfl rfl dX11_bringsBack_64 (fun H locs hw => ?_)
              refine lv_if_eq (pc := 67) (tgt := 74) hx hb dX11_bringsBack_67 (by decide) (fun hc => ?_) (fun hc => ?_)
              · replace hs := q_t hc hs
                exact hK16 _ hs _ _ hw _ (lv_sub hl [1, 2, 3, 5] rfl)
              · replace hs := q_f hc hs
                refine lv_iconst (pc := 70) (v := (iI 1)) hx hb dX11_bringsBack_70 rfl ?_
                refine lv_goto (pc := 71) (tgt := 75) hx hb dX11_bringsBack_71 (by decide) ?_
                exact hK12 _ _ hs _ _ hw _ (lv_sub hl [1, 2, 3, 5] rfl)
  · replace hs := q_f (fun z => z hc) hs
    refine lv_aload_n (pc := 4) hx hb dX11_bringsBack_4 rfl (lv_at hl 0 rfl) ?_
    refine lv_aload_n (pc := 5) hx hb dX11_bringsBack_5 rfl (lv_at hl 0 rfl) ?_
    refine q_getR (pc := 6) (q := 72) (o := 2) hx hb hts hown hK hw rfl fg_X11_13 dX11_bringsBack_6 ?_
    obtain ⟨v19, ev, hs⟩ := q_cal hs
    refine q_callV (pc := 9) (q := 72) (As := [.ref (G.2.2.1 74)]) (rest := []) (rs := [.int v19]) hx hb hml hl.1 hts hown hK hSt hN hw (c_X11_standsAs l G 74 305 rfl h v19 ev) rfl rfl cv_X11_263 (rm_ok hR (by omega)) rfl (Nat.le_of_ble_eq_true rfl) rfl rfl dX11_bringsBack_9 (fun H locs hw => ?_)
    exact q_zretW hret dX11_bringsBack_12 hw hs

theorem rc_BRING (l : Launch) (G : GG) : ∀ n : Nat, RC_BRING l G (g_BRING n) (n + 5)
  | 0 => fun _ _ _ _ _ hs => (by cases hs)
  | n + 1 => by
    have ih := rc_BRING l G n
    rw [show n + 1 + 5 = n + 5 + 1 by omega]
    exact fun a1 a2 h v h' hs => cb_X11_bringsBack l G (n + 5) (g_BRING n) ih (by omega) a1 a2 h v h' hs

set_option maxHeartbeats 4000000 in
set_option maxRecDepth 100000 in
theorem c_X11_back (l : Launch) (G : GG) (a1 : Int32) (h : Mem) (v : Int32) (h' : Mem) (hs : f_X11_back h a1 = some (v, h')) : Sat l G yX11_back cX11_back 3 (some .int) 12 [.ref (G.2.2.1 72), .int a1] h (some (.int v)) h' := by
  refine Sat.mkI (by decide) (Nat.le_of_ble_eq_true rfl) ?_
  intro p e R s m args below meth c Q F hret hw ls hl
  obtain ⟨hx, hb, hml, hown, hts, hK, hSt, hN, hR⟩ := F
  have hl : lv_has ls 3 [(0, .ref (G.2.2.1 72)), (1, .int a1)] := hl
  unfold f_X11_back at hs
  refine lv_iload_n (pc := 0) hx hb dX11_back_0 rfl (lv_at hl 1 rfl) ?_
  refine lv_iconst (pc := 1) (v := (iI (-1))) hx hb dX11_back_1 rfl ?_
  refine lv_iconst (pc := 2) (v := (iI 2)) hx hb dX11_back_2 rfl ?_
  obtain ⟨v1, ev, hs⟩ := q_cal hs
  refine q_callS (pc := 3) (As := [.int a1, .int (iI (-1)), .int (iI 2)]) (rest := []) (rs := [.int v1]) hx hb hml hl.1 hts hown hK hSt hN hw (c_X11_in l G a1 (iI (-1)) (iI 2) h v1 ev) cs_X11_71 (rm_ok hR (by decide)) rfl (Nat.le_of_ble_eq_true rfl) rfl rfl dX11_back_3 (fun H locs hw => ?_)
  refine lv_if_ne (pc := 6) (tgt := 16) hx hb dX11_back_6 (by decide) (fun hc => ?_) (fun hc => ?_)
  · replace hs := q_t hc hs
    refine lv_aload_n (pc := 16) hx hb dX11_back_16 rfl (lv_at hl 0 rfl) ?_
    refine q_getI (pc := 17) (q := 72) hx hb hts hown hK hw rfl fg_X11_277 dX11_back_17 ?_
    refine q_join0 (P0 := ∀ (H : Heap) (locs : List Loc), IW G s h H locs → ∀ ls : Array Slot, lv_has ls 3 [(0, .ref (G.2.2.1 72))] → W p l e R s m args below meth c H locs 0 0 Q (F0 m 53 ls [])) hs ?_ ?_
    · intro  hs H locs hw ls hl
      refine lv_aload_n (pc := 53) hx hb dX11_back_53 rfl (lv_at hl 0 rfl) ?_
      refine lv_ldc (pc := 54) (v := (iI (-1000000003))) hx hb hown (hts _ ki_X11_128) dX11_back_54 ?_
      obtain ⟨v3, h4, ev, hs⟩ := q_cal2 hs
      refine q_callV (pc := 56) (q := 72) (As := [.int (iI (-1000000003))]) (rest := []) (rs := [.int v3]) hx hb hml hl.1 hts hown hK hSt hN hw (c_X11_errs l G (iI (-1000000003)) h v3 h4 ev) rfl rfl cv_X11_79 (rm_ok hR (by decide)) rfl (Nat.le_of_ble_eq_true rfl) rfl rfl dX11_back_56 (fun H locs hw => ?_)
      exact q_iretW hret dX11_back_59 hw hs
    · intro K2 hK2 hs
      refine lv_if_eq (pc := 20) (tgt := 53) hx hb dX11_back_20 (by decide) (fun hc => ?_) (fun hc => ?_)
      · replace hs := q_t hc hs
        exact hK2 hs _ _ hw _ (lv_sub hl [0] rfl)
      · replace hs := q_f hc hs
        refine lv_aload_n (pc := 23) hx hb dX11_back_23 rfl (lv_at hl 0 rfl) ?_
        refine q_getR (pc := 24) (q := 72) (o := 2) hx hb hts hown hK hw rfl fg_X11_13 dX11_back_24 ?_
        refine lv_iconst (pc := 27) (v := (iI 0)) hx hb dX11_back_27 rfl ?_
        refine q_ald (pc := 28) (q := 74) (n := 305) hx hb hK hw rfl dX11_back_28 hs (fun v5 hs => ?_)
        refine lv_aload_n (pc := 29) hx hb dX11_back_29 rfl (lv_at hl 0 rfl) ?_
        refine q_getR (pc := 30) (q := 72) (o := 1) hx hb hts hown hK hw rfl fg_X11_7 dX11_back_30 ?_
        refine lv_iconst (pc := 33) (v := (iI 0)) hx hb dX11_back_33 rfl ?_
        refine q_ald (pc := 34) (q := 73) (n := 305) hx hb hK hw rfl dX11_back_34 hs (fun v6 hs => ?_)
        refine lv_icmp_ne (pc := 35) (tgt := 53) hx hb dX11_back_35 (by decide) (fun hc => ?_) (fun hc => ?_)
        · replace hs := q_t hc hs
          exact hK2 hs _ _ hw _ (lv_sub hl [0] rfl)
        · replace hs := q_f (fun z => z hc) hs
          refine lv_aload_n (pc := 38) hx hb dX11_back_38 rfl (lv_at hl 0 rfl) ?_
          refine q_getR (pc := 39) (q := 72) (o := 2) hx hb hts hown hK hw rfl fg_X11_13 dX11_back_39 ?_
          refine lv_iconst (pc := 42) (v := (iI 1)) hx hb dX11_back_42 rfl ?_
          refine q_ald (pc := 43) (q := 74) (n := 305) hx hb hK hw rfl dX11_back_43 hs (fun v7 hs => ?_)
          refine lv_aload_n (pc := 44) hx hb dX11_back_44 rfl (lv_at hl 0 rfl) ?_
          refine q_getR (pc := 45) (q := 72) (o := 1) hx hb hts hown hK hw rfl fg_X11_7 dX11_back_45 ?_
          refine lv_iconst (pc := 48) (v := (iI 1)) hx hb dX11_back_48 rfl ?_
          refine q_ald (pc := 49) (q := 73) (n := 305) hx hb hK hw rfl dX11_back_49 hs (fun v8 hs => ?_)
          refine lv_icmp_eq (pc := 50) (tgt := 60) hx hb dX11_back_50 (by decide) (fun hc => ?_) (fun hc => ?_)
          · replace hs := q_t hc hs
            refine lv_iconst (pc := 60) (v := (iI 0)) hx hb dX11_back_60 rfl ?_
            refine lv_istore_n (pc := 61) (lv' := [(2, .int (iI 0)), (0, .ref (G.2.2.1 72)), (1, .int a1)]) hx hb dX11_back_61 rfl hl (by decide) rfl (fun ls hl => ?_)
            refine (q_lo2 (P0 := fun (x9 : Int32) (h10 : Mem) => ∀ (H : Heap) (locs : List Loc), IW G s h10 H locs → ∀ ls : Array Slot, lv_has ls 3 [(0, .ref (G.2.2.1 72)), (1, .int a1), (2, .int x9)] → W p l e R s m args below meth c H locs 0 0 Q (F0 m 62 ls [])) hs ?_) _ _ hw _ (lv_sub hl [1, 2, 0] rfl)
            intro K11 hK11 x9 h10 hs H locs hw ls hl
            unfold f_X11_back_k11 at hs
            refine lv_iload_n (pc := 62) hx hb dX11_back_62 rfl (lv_at hl 2 rfl) ?_
            refine lv_iconst (pc := 63) (v := (iI 4)) hx hb dX11_back_63 rfl ?_
            refine q_join1 (P0 := fun (h12 : Mem) => ∀ (H : Heap) (locs : List Loc), IW G s h12 H locs → ∀ ls : Array Slot, lv_has ls 3 [(0, .ref (G.2.2.1 72)), (1, .int a1), (2, .int x9)] → W p l e R s m args below meth c H locs 0 0 Q (F0 m 82 ls [])) hs ?_ ?_
            · intro h12 hs H locs hw ls hl
              unfold f_X11_back_k13 at hs
              refine lv_iload_n (pc := 82) hx hb dX11_back_82 rfl (lv_at hl 2 rfl) ?_
              refine lv_iconst (pc := 83) (v := (iI 4)) hx hb dX11_back_83 rfl ?_
              refine q_join0 (P0 := ∀ (H : Heap) (locs : List Loc), IW G s h12 H locs → ∀ ls : Array Slot, lv_has ls 3 [(0, .ref (G.2.2.1 72))] → W p l e R s m args below meth c H locs 0 0 Q (F0 m 92 ls [])) hs ?_ ?_
              · intro  hs H locs hw ls hl
                refine lv_aload_n (pc := 92) hx hb dX11_back_92 rfl (lv_at hl 0 rfl) ?_
                refine lv_ldc (pc := 93) (v := (iI (-1000000002))) hx hb hown (hts _ ki_X11_195) dX11_back_93 ?_
                obtain ⟨v15, h16, ev, hs⟩ := q_cal2 hs
                refine q_callV (pc := 95) (q := 72) (As := [.int (iI (-1000000002))]) (rest := []) (rs := [.int v15]) hx hb hml hl.1 hts hown hK hSt hN hw (c_X11_errs l G (iI (-1000000002)) h12 v15 h16 ev) rfl rfl cv_X11_79 (rm_ok hR (by decide)) rfl (Nat.le_of_ble_eq_true rfl) rfl rfl dX11_back_95 (fun H locs hw => ?_)
                exact q_iretW hret dX11_back_98 hw hs
              · intro K14 hK14 hs
                refine lv_icmp_eq (pc := 84) (tgt := 92) hx hb dX11_back_84 (by decide) (fun hc => ?_) (fun hc => ?_)
                · replace hs := q_t hc hs
                  exact hK14 hs _ _ hw _ (lv_sub hl [0] rfl)
                · replace hs := q_f hc hs
                  refine lv_iload_n (pc := 87) hx hb dX11_back_87 rfl (lv_at hl 1 rfl) ?_
                  refine lv_iload_n (pc := 88) hx hb dX11_back_88 rfl (lv_at hl 2 rfl) ?_
                  refine lv_icmp_lt (pc := 89) (tgt := 99) hx hb dX11_back_89 (by decide) (fun hc => ?_) (fun hc => ?_)
                  · replace hs := q_t hc hs
                    refine lv_iload_n (pc := 99) hx hb dX11_back_99 rfl (lv_at hl 1 rfl) ?_
                    refine lv_if_ge (pc := 100) (tgt := 107) hx hb dX11_back_100 (by decide) (fun hc => ?_) (fun hc => ?_)
                    · replace hs := q_t hc hs
                      refine lv_aload_n (pc := 107) hx hb dX11_back_107 rfl (lv_at hl 0 rfl) ?_
                      refine q_getR (pc := 108) (q := 72) (o := 6) hx hb hts hown hK hw rfl fg_X11_32 dX11_back_108 ?_
                      refine lv_iload_n (pc := 111) hx hb dX11_back_111 rfl (lv_at hl 1 rfl) ?_
                      refine q_ald (pc := 112) (q := 78) (n := 3) hx hb hK hw rfl dX11_back_112 hs (fun v17 hs => ?_)
                      exact q_iretW hret dX11_back_113 hw hs
                    · replace hs := q_f hc hs
                      refine lv_iload_n (pc := 103) hx hb dX11_back_103 rfl (lv_at hl 2 rfl) ?_
                      refine lv_goto (pc := 104) (tgt := 113) hx hb dX11_back_104 (by decide) ?_
                      exact q_iretW hret dX11_back_113 hw hs
                  · replace hs := q_f hc hs
                    exact hK14 hs _ _ hw _ (lv_sub hl [0] rfl)
            · intro K13 hK13 hs
              refine lv_icmp_ge (pc := 64) (tgt := 82) hx hb dX11_back_64 (by decide) (fun hc => ?_) (fun hc => ?_)
              · replace hs := q_t hc hs
                exact hK13 _ hs _ _ hw _ (lv_sub hl [0, 1, 2] rfl)
              · replace hs := q_f hc hs
                refine lv_aload_n (pc := 67) hx hb dX11_back_67 rfl (lv_at hl 0 rfl) ?_
                refine lv_iload_n (pc := 68) hx hb dX11_back_68 rfl (lv_at hl 2 rfl) ?_
                refine lv_iconst (pc := 69) (v := (iI 0)) hx hb dX11_back_69 rfl ?_
                obtain ⟨v18, h19, ev, hs⟩ := q_cal2 hs
                refine q_callV (pc := 70) (q := 72) (As := [.int x9, .int (iI 0)]) (rest := []) (rs := [.int v18]) hx hb hml hl.1 hts hown hK hSt hN hw ((rc_BRING l G 6) x9 (iI 0) h10 v18 h19 ev) rfl rfl cv_X11_270 (rm_ok hR (by decide)) rfl (Nat.le_of_ble_eq_true rfl) rfl rfl dX11_back_70 (fun H locs hw => ?_)
                refine lv_if_ne (pc := 73) (tgt := 82) hx hb dX11_back_73 (by decide) (fun hc => ?_) (fun hc => ?_)
                · replace hs := q_t hc hs
                  exact hK13 _ hs _ _ hw _ (lv_sub hl [0, 1, 2] rfl)
                · replace hs := q_f (fun z => z hc) hs
                  obtain ⟨x20, ex20, hs⟩ := q_nm hs
                  refine lv_iinc (pc := 76) (v := x20) (lv' := [(2, .int x20), (0, .ref (G.2.2.1 72)), (1, .int a1)]) hx hb dX11_back_76 hl (k := 2) rfl ex20 (by decide) rfl (fun ls hl => ?_)
                  refine lv_goto (pc := 79) (tgt := 62) hx hb dX11_back_79 (by decide) ?_
                  exact hK11 _ _ hs _ _ hw _ (lv_sub hl [1, 2, 0] rfl)
          · replace hs := q_f hc hs
            exact hK2 hs _ _ hw _ (lv_sub hl [0] rfl)
  · replace hs := q_f (fun z => z hc) hs
    refine lv_aload_n (pc := 9) hx hb dX11_back_9 rfl (lv_at hl 0 rfl) ?_
    refine lv_ldc (pc := 10) (v := (iI (-1000000001))) hx hb hown (hts _ ki_X11_78) dX11_back_10 ?_
    obtain ⟨v21, h22, ev, hs⟩ := q_cal2 hs
    refine q_callV (pc := 12) (q := 72) (As := [.int (iI (-1000000001))]) (rest := []) (rs := [.int v21]) hx hb hml hl.1 hts hown hK hSt hN hw (c_X11_errs l G (iI (-1000000001)) h v21 h22 ev) rfl rfl cv_X11_79 (rm_ok hR (by decide)) rfl (Nat.le_of_ble_eq_true rfl) rfl rfl dX11_back_12 (fun H locs hw => ?_)
    exact q_iretW hret dX11_back_15 hw hs

set_option maxHeartbeats 4000000 in
theorem c_X11_lights (l : Launch) (G : GG) (a1 : Int32) (a2 : Int32) (a3 : Int32) (a4 : Int32) (h : Mem) (v : Int32) (h' : Mem) (hs : f_X11_lights h a1 a2 a3 a4 = some (v, h')) : Sat l G yX11_lights cX11_lights 7 (some .boolean) 5 [.ref (G.2.2.1 72), .int a1, .int a2, .int a3, .int a4] h (some (.int v)) h' := by
  refine Sat.mkZ (by decide) (Nat.le_of_ble_eq_true rfl) ?_
  intro p e R s m args below meth c Q F hret hw ls hl
  obtain ⟨hx, hb, hml, hown, hts, hK, hSt, hN, hR⟩ := F
  have hl : lv_has ls 7 [(0, .ref (G.2.2.1 72)), (1, .int a1), (2, .int a2), (3, .int a3), (4, .int a4)] := hl
  unfold f_X11_lights at hs
  refine lv_aload_n (pc := 0) hx hb dX11_lights_0 rfl (lv_at hl 0 rfl) ?_
  refine lv_aload_n (pc := 1) hx hb dX11_lights_1 rfl (lv_at hl 0 rfl) ?_
  refine q_getR (pc := 2) (q := 72) (o := 1) hx hb hts hown hK hw rfl fg_X11_7 dX11_lights_2 ?_
  refine lv_aload_n (pc := 5) hx hb dX11_lights_5 rfl (lv_at hl 0 rfl) ?_
  refine q_getR (pc := 6) (q := 72) (o := 3) hx hb hts hown hK hw rfl fg_X11_16 dX11_lights_6 ?_
  obtain ⟨h1, ev, hs⟩ := q_cal hs
  refine q_callV (pc := 9) (q := 72) (As := [.ref (G.2.2.1 73), .ref (G.2.2.1 75)]) (rest := []) (rs := []) hx hb hml hl.1 hts hown hK hSt hN hw (c_X11_moveAll l G 73 305 rfl 75 305 rfl h h1 ev) rfl rfl cv_X11_188 (rm_ok hR (by decide)) rfl (Nat.le_of_ble_eq_true rfl) rfl rfl dX11_lights_9 (fun H locs hw => ?_)
  refine lv_iload_n (pc := 12) hx hb dX11_lights_12 rfl (lv_at hl 3 rfl) ?_
  refine q_join1 (P0 := fun (h2 : Mem) => ∀ (H : Heap) (locs : List Loc), IW G s h2 H locs → ∀ ls : Array Slot, lv_has ls 7 [(0, .ref (G.2.2.1 72)), (1, .int a1), (2, .int a2), (4, .int a4)] → W p l e R s m args below meth c H locs 0 0 Q (F0 m 21 ls [])) hs ?_ ?_
  · intro h2 hs H locs hw ls hl
    refine lv_iload (pc := 21) hx hb dX11_lights_21 (lv_at hl 3 rfl) ?_
    refine q_join1 (P0 := fun (h4 : Mem) => ∀ (H : Heap) (locs : List Loc), IW G s h4 H locs → ∀ ls : Array Slot, lv_has ls 7 [(0, .ref (G.2.2.1 72)), (1, .int a1), (2, .int a2)] → W p l e R s m args below meth c H locs 0 0 Q (F0 m 32 ls [])) hs ?_ ?_
    · intro h4 hs H locs hw ls hl
      unfold f_X11_lights_k5 at hs
      refine lv_aload_n (pc := 32) hx hb dX11_lights_32 rfl (lv_at hl 0 rfl) ?_
      refine lv_iload_n (pc := 33) hx hb dX11_lights_33 rfl (lv_at hl 1 rfl) ?_
      refine q_putI (pc := 34) (q := 72) hx hb hts hown hK hw rfl fp_X11_25 dX11_lights_34 hs (fun h6 H locs hw hs => ?_)
      refine lv_aload_n (pc := 37) hx hb dX11_lights_37 rfl (lv_at hl 0 rfl) ?_
      refine lv_iload_n (pc := 38) hx hb dX11_lights_38 rfl (lv_at hl 2 rfl) ?_
      obtain ⟨v7, h8, ev, hs⟩ := q_cal2 hs
      refine q_callV (pc := 39) (q := 72) (As := [.int a2]) (rest := []) (rs := [.int v7]) hx hb hml hl.1 hts hown hK hSt hN hw (c_X11_goes l G a2 h6 v7 h8 ev) rfl rfl cv_X11_179 (rm_ok hR (by decide)) rfl (Nat.le_of_ble_eq_true rfl) rfl rfl dX11_lights_39 (fun H locs hw => ?_)
      refine lv_istore (pc := 42) (lv' := [(5, .int v7), (0, .ref (G.2.2.1 72)), (1, .int a1), (2, .int a2)]) hx hb dX11_lights_42 hl (by decide) rfl (fun ls hl => ?_)
      refine lv_aload_n (pc := 44) hx hb dX11_lights_44 rfl (lv_at hl 1 rfl) ?_
      refine lv_iconst (pc := 45) (v := (iI (-1))) hx hb dX11_lights_45 rfl ?_
      refine q_putI (pc := 46) (q := 72) hx hb hts hown hK hw rfl fp_X11_25 dX11_lights_46 hs (fun h9 H locs hw hs => ?_)
      refine lv_iload (pc := 49) hx hb dX11_lights_49 (lv_at hl 0 rfl) ?_
      refine q_join1 (P0 := fun (x10 : Int32) => ∀ (H : Heap) (locs : List Loc), IW G s h9 H locs → ∀ ls : Array Slot, lv_has ls 7 [(0, .ref (G.2.2.1 72))] → W p l e R s m args below meth c H locs 0 0 Q (F0 m 66 ls [.int x10])) hs ?_ ?_
      · intro x10 hs H locs hw ls hl
        refine lv_istore (pc := 66) (lv' := [(6, .int x10), (0, .ref (G.2.2.1 72))]) hx hb dX11_lights_66 hl (by decide) rfl (fun ls hl => ?_)
        refine lv_aload_n (pc := 68) hx hb dX11_lights_68 rfl (lv_at hl 1 rfl) ?_
        refine lv_aload_n (pc := 69) hx hb dX11_lights_69 rfl (lv_at hl 1 rfl) ?_
        refine q_getR (pc := 70) (q := 72) (o := 3) hx hb hts hown hK hw rfl fg_X11_16 dX11_lights_70 ?_
        refine lv_aload_n (pc := 73) hx hb dX11_lights_73 rfl (lv_at hl 1 rfl) ?_
        refine q_getR (pc := 74) (q := 72) (o := 1) hx hb hts hown hK hw rfl fg_X11_7 dX11_lights_74 ?_
        obtain ⟨h12, ev, hs⟩ := q_cal hs
        refine q_callV (pc := 77) (q := 72) (As := [.ref (G.2.2.1 75), .ref (G.2.2.1 73)]) (rest := []) (rs := []) hx hb hml hl.1 hts hown hK hSt hN hw (c_X11_moveAll l G 75 305 rfl 73 305 rfl h9 h12 ev) rfl rfl cv_X11_188 (rm_ok hR (by decide)) rfl (Nat.le_of_ble_eq_true rfl) rfl rfl dX11_lights_77 (fun H locs hw => ?_)
        refine lv_iload (pc := 80) hx hb dX11_lights_80 (lv_at hl 0 rfl) ?_
        exact q_zretW hret dX11_lights_82 hw hs
      · intro K11 hK11 hs
        refine q_join0 (P0 := ∀ (H : Heap) (locs : List Loc), IW G s h9 H locs → ∀ ls : Array Slot, lv_has ls 7 [(0, .ref (G.2.2.1 72))] → W p l e R s m args below meth c H locs 0 0 Q (F0 m 65 ls [])) hs ?_ ?_
        · intro  hs H locs hw ls hl
          refine lv_iconst (pc := 65) (v := (iI 0)) hx hb dX11_lights_65 rfl ?_
          exact hK11 _ hs _ _ hw _ (lv_sub hl [0] rfl)
        · intro K13 hK13 hs
          refine lv_if_lt (pc := 51) (tgt := 65) hx hb dX11_lights_51 (by decide) (fun hc => ?_) (fun hc => ?_)
          · replace hs := q_t hc hs
            exact hK13 hs _ _ hw _ (lv_sub hl [1] rfl)
          · replace hs := q_f hc hs
            refine lv_aload_n (pc := 54) hx hb dX11_lights_54 rfl (lv_at hl 1 rfl) ?_
            refine q_getI (pc := 55) (q := 72) hx hb hts hown hK hw rfl fg_X11_159 dX11_lights_55 ?_
            refine lv_if_eq (pc := 58) (tgt := 65) hx hb dX11_lights_58 (by decide) (fun hc => ?_) (fun hc => ?_)
            · replace hs := q_t hc hs
              exact hK13 hs _ _ hw _ (lv_sub hl [1] rfl)
            · replace hs := q_f hc hs
              refine lv_iconst (pc := 61) (v := (iI 1)) hx hb dX11_lights_61 rfl ?_
              refine lv_goto (pc := 62) (tgt := 66) hx hb dX11_lights_62 (by decide) ?_
              exact hK11 _ hs _ _ hw _ (lv_sub hl [1] rfl)
    · intro K5 hK5 hs
      refine lv_if_lt (pc := 23) (tgt := 32) hx hb dX11_lights_23 (by decide) (fun hc => ?_) (fun hc => ?_)
      · replace hs := q_t hc hs
        exact hK5 _ hs _ _ hw _ (lv_sub hl [0, 1, 2] rfl)
      · replace hs := q_f hc hs
        refine lv_aload_n (pc := 26) hx hb dX11_lights_26 rfl (lv_at hl 0 rfl) ?_
        refine lv_iload (pc := 27) hx hb dX11_lights_27 (lv_at hl 3 rfl) ?_
        obtain ⟨h14, ev, hs⟩ := q_cal hs
        refine q_callV (pc := 29) (q := 72) (As := [.int a4]) (rest := []) (rs := []) hx hb hml hl.1 hts hown hK hSt hN hw (c_X11_flips l G a4 h2 h14 ev) rfl rfl cv_X11_125 (rm_ok hR (by decide)) rfl (Nat.le_of_ble_eq_true rfl) rfl rfl dX11_lights_29 (fun H locs hw => ?_)
        exact hK5 _ hs _ _ hw _ (lv_sub hl [0, 1, 2] rfl)
  · intro K3 hK3 hs
    refine lv_if_lt (pc := 13) (tgt := 21) hx hb dX11_lights_13 (by decide) (fun hc => ?_) (fun hc => ?_)
    · replace hs := q_t hc hs
      exact hK3 _ hs _ _ hw _ (lv_sub hl [0, 1, 2, 4] rfl)
    · replace hs := q_f hc hs
      refine lv_aload_n (pc := 16) hx hb dX11_lights_16 rfl (lv_at hl 0 rfl) ?_
      refine lv_iload_n (pc := 17) hx hb dX11_lights_17 rfl (lv_at hl 3 rfl) ?_
      obtain ⟨h15, ev, hs⟩ := q_cal hs
      refine q_callV (pc := 18) (q := 72) (As := [.int a3]) (rest := []) (rs := []) hx hb hml hl.1 hts hown hK hSt hN hw (c_X11_flips l G a3 h1 h15 ev) rfl rfl cv_X11_125 (rm_ok hR (by decide)) rfl (Nat.le_of_ble_eq_true rfl) rfl rfl dX11_lights_18 (fun H locs hw => ?_)
      exact hK3 _ hs _ _ hw _ (lv_sub hl [0, 1, 2, 4] rfl)

set_option maxHeartbeats 4000000 in
theorem c_X11_timeBits (l : Launch) (G : GG)  (h : Mem) (v : Int64)  (hs : f_X11_timeBits h  = some v) : Sat l G yX11_timeBits cX11_timeBits 4 (some .long) 1 [.ref (G.2.2.1 72)] h (some (.long v)) h := by
  refine Sat.mkL (by decide) (Nat.le_of_ble_eq_true rfl) ?_
  intro p e R s m args below meth c Q F hret hw ls hl
  obtain ⟨hx, hb, hml, hown, hts, hK, hSt, hN, hR⟩ := F
  have hl : lv_has ls 4 [(0, .ref (G.2.2.1 72))] := hl
  unfold f_X11_timeBits at hs
  refine lv_lconst (pc := 0) (v := iL 0) hx hb dX11_timeBits_0 (by decide) ?_
  refine lv_lstore_n (pc := 1) (lv' := [(1, .long (iL 0)), (0, .ref (G.2.2.1 72))]) hx hb dX11_timeBits_1 rfl hl (by decide) rfl (fun ls hl => ?_)
  refine lv_iconst (pc := 2) (v := (iI 0)) hx hb dX11_timeBits_2 rfl ?_
  refine lv_istore_n (pc := 3) (lv' := [(3, .int (iI 0)), (1, .long (iL 0)), (0, .ref (G.2.2.1 72))]) hx hb dX11_timeBits_3 rfl hl (by decide) rfl (fun ls hl => ?_)
  refine (q_lo2 (P0 := fun (y1 : Int64) (x2 : Int32) => ∀ (H : Heap) (locs : List Loc), IW G s h H locs → ∀ ls : Array Slot, lv_has ls 4 [(0, .ref (G.2.2.1 72)), (1, .long y1), (3, .int x2)] → W p l e R s m args below meth c H locs 0 0 Q (F0 m 4 ls [])) hs ?_) _ _ hw _ (lv_sub hl [2, 1, 0] rfl)
  intro K3 hK3 y1 x2 hs H locs hw ls hl
  unfold f_X11_timeBits_k3 at hs
  refine lv_iload_n (pc := 4) hx hb dX11_timeBits_4 rfl (lv_at hl 2 rfl) ?_
  refine lv_aload_n (pc := 5) hx hb dX11_timeBits_5 rfl (lv_at hl 0 rfl) ?_
  obtain ⟨v4, ev, hs⟩ := q_cal hs
  refine q_callV (pc := 6) (q := 72) (As := []) (rest := [.int x2]) (rs := [.int v4, .int x2]) hx hb hml hl.1 hts hown hK hSt hN hw (c_X11_many l G h v4 ev) rfl rfl cv_X11_67 (rm_ok hR (by decide)) rfl (Nat.le_of_ble_eq_true rfl) rfl rfl dX11_timeBits_6 (fun H locs hw => ?_)
  refine lv_icmp_ge (pc := 9) (tgt := 32) hx hb dX11_timeBits_9 (by decide) (fun hc => ?_) (fun hc => ?_)
  · replace hs := q_t hc hs
    refine lv_lload_n (pc := 32) hx hb dX11_timeBits_32 rfl (lv_at hl 1 rfl) ?_
    exact q_lret hret dX11_timeBits_33 hw hs
  · replace hs := q_f hc hs
    refine lv_lload_n (pc := 12) hx hb dX11_timeBits_12 rfl (lv_at hl 1 rfl) ?_
    refine lv_aload_n (pc := 13) hx hb dX11_timeBits_13 rfl (lv_at hl 0 rfl) ?_
    refine lv_iload_n (pc := 14) hx hb dX11_timeBits_14 rfl (lv_at hl 2 rfl) ?_
    refine lv_iconst (pc := 15) (v := (iI 3)) hx hb dX11_timeBits_15 rfl ?_
    obtain ⟨v5, ev, hs⟩ := q_cal hs
    refine q_callV (pc := 16) (q := 72) (As := [.int x2, .int (iI 3)]) (rest := [.long y1]) (rs := [.int v5, .long y1]) hx hb hml hl.1 hts hown hK hSt hN hw (c_X11_its l G x2 (iI 3) h v5 ev) rfl rfl cv_X11_87 (rm_ok hR (by decide)) rfl (Nat.le_of_ble_eq_true rfl) rfl rfl dX11_timeBits_16 (fun H locs hw => ?_)
    refine lv_i2l (pc := 19) hx hb dX11_timeBits_19 rfl ?_
    refine lv_iconst (pc := 20) (v := (iI 2)) hx hb dX11_timeBits_20 rfl ?_
    refine lv_iload_n (pc := 21) hx hb dX11_timeBits_21 rfl (lv_at hl 2 rfl) ?_
    refine lv_imul (pc := 22) hx hb dX11_timeBits_22 ?_
    refine lv_lshl (pc := 23) (v := (shlL (Int32.toInt64 v5) ((iI 2) * x2))) hx hb dX11_timeBits_23 rfl ?_
    refine lv_lor (pc := 24) hx hb dX11_timeBits_24 ?_
    obtain ⟨y6, ey6, hs⟩ := q_nm hs
    refine q_topL ey6 ?_
    refine lv_lstore_n (pc := 25) (lv' := [(1, .long y6), (0, .ref (G.2.2.1 72)), (3, .int x2)]) hx hb dX11_timeBits_25 rfl hl (by decide) rfl (fun ls hl => ?_)
    obtain ⟨x7, ex7, hs⟩ := q_nm hs
    refine lv_iinc (pc := 26) (v := x7) (lv' := [(3, .int x7), (1, .long y6), (0, .ref (G.2.2.1 72))]) hx hb dX11_timeBits_26 hl (k := 2) rfl ex7 (by decide) rfl (fun ls hl => ?_)
    refine lv_goto (pc := 29) (tgt := 4) hx hb dX11_timeBits_29 (by decide) ?_
    exact hK3 _ _ hs _ _ hw _ (lv_sub hl [2, 1, 0] rfl)

set_option maxHeartbeats 4000000 in
set_option maxRecDepth 100000 in
theorem c_X11_meets (l : Launch) (G : GG)  (h : Mem) (h' : Mem) (hs : f_X11_meets h  = some h') : Sat l G yX11_meets cX11_meets 6 none 2 [.ref (G.2.2.1 72)] h none h' := by
  refine Sat.mkV (by decide) (Nat.le_of_ble_eq_true rfl) ?_
  intro p e R s m args below meth c Q F hret hw ls hl
  obtain ⟨hx, hb, hml, hown, hts, hK, hSt, hN, hR⟩ := F
  have hl : lv_has ls 6 [(0, .ref (G.2.2.1 72))] := hl
  unfold f_X11_meets at hs
  refine lv_aload_n (pc := 0) hx hb dX11_meets_0 rfl (lv_at hl 0 rfl) ?_
  obtain ⟨v1, ev, hs⟩ := q_cal hs
  refine q_callV (pc := 1) (q := 72) (As := []) (rest := []) (rs := [.int v1]) hx hb hml hl.1 hts hown hK hSt hN hw (c_X11_slantBits l G h v1 ev) rfl rfl cv_X11_132 (rm_ok hR (by decide)) rfl (Nat.le_of_ble_eq_true rfl) rfl rfl dX11_meets_1 (fun H locs hw => ?_)
  refine lv_istore_n (pc := 4) (lv' := [(1, .int v1), (0, .ref (G.2.2.1 72))]) hx hb dX11_meets_4 rfl hl (by decide) rfl (fun ls hl => ?_)
  refine lv_aload_n (pc := 5) hx hb dX11_meets_5 rfl (lv_at hl 1 rfl) ?_
  obtain ⟨w2, ev, hs⟩ := q_cal hs
  refine q_callV (pc := 6) (q := 72) (As := []) (rest := []) (rs := [.long w2]) hx hb hml hl.1 hts hown hK hSt hN hw (c_X11_timeBits l G h w2 ev) rfl rfl cv_X11_296 (rm_ok hR (by decide)) rfl (Nat.le_of_ble_eq_true rfl) rfl rfl dX11_meets_6 (fun H locs hw => ?_)
  refine lv_lstore_n (pc := 9) (lv' := [(2, .long w2), (1, .int v1), (0, .ref (G.2.2.1 72))]) hx hb dX11_meets_9 rfl hl (by decide) rfl (fun ls hl => ?_)
  refine lv_aload_n (pc := 10) hx hb dX11_meets_10 rfl (lv_at hl 2 rfl) ?_
  refine q_getI (pc := 11) (q := 72) hx hb hts hown hK hw rfl fg_X11_300 dX11_meets_11 ?_
  refine lv_sipush (pc := 14) (v := (iI 200)) hx hb dX11_meets_14 (by decide) ?_
  refine q_join1 (P0 := fun (x3 : Int32) => ∀ (H : Heap) (locs : List Loc), IW G s h H locs → ∀ ls : Array Slot, lv_has ls 6 [(0, .ref (G.2.2.1 72)), (1, .int v1), (2, .long w2)] → W p l e R s m args below meth c H locs 0 0 Q (F0 m 25 ls [.int x3])) hs ?_ ?_
  · intro x3 hs H locs hw ls hl
    refine lv_istore (pc := 25) (lv' := [(4, .int x3), (0, .ref (G.2.2.1 72)), (1, .int v1), (2, .long w2)]) hx hb dX11_meets_25 hl (by decide) rfl (fun ls hl => ?_)
    refine lv_iconst (pc := 27) (v := (iI 0)) hx hb dX11_meets_27 rfl ?_
    refine lv_istore (pc := 28) (lv' := [(5, .int (iI 0)), (4, .int x3), (0, .ref (G.2.2.1 72)), (1, .int v1), (2, .long w2)]) hx hb dX11_meets_28 hl (by decide) rfl (fun ls hl => ?_)
    refine (q_lo2 (P0 := fun (x5 : Int32) (x6 : Int32) => ∀ (H : Heap) (locs : List Loc), IW G s h H locs → ∀ ls : Array Slot, lv_has ls 6 [(0, .ref (G.2.2.1 72)), (1, .int v1), (2, .long w2), (4, .int x5), (5, .int x6)] → W p l e R s m args below meth c H locs 0 0 Q (F0 m 30 ls [])) hs ?_) _ _ hw _ (lv_sub hl [2, 3, 4, 1, 0] rfl)
    intro K7 hK7 x5 x6 hs H locs hw ls hl
    unfold f_X11_meets_k7 at hs
    refine lv_iload (pc := 30) hx hb dX11_meets_30 (lv_at hl 4 rfl) ?_
    refine lv_aload_n (pc := 32) hx hb dX11_meets_32 rfl (lv_at hl 0 rfl) ?_
    refine q_getI (pc := 33) (q := 72) hx hb hts hown hK hw rfl fg_X11_300 dX11_meets_33 ?_
    refine q_join0 (P0 := ∀ (H : Heap) (locs : List Loc), IW G s h H locs → ∀ ls : Array Slot, lv_has ls 6 [(0, .ref (G.2.2.1 72)), (1, .int v1), (2, .long w2), (4, .int x5)] → W p l e R s m args below meth c H locs 0 0 Q (F0 m 80 ls [])) hs ?_ ?_
    · intro  hs H locs hw ls hl
      unfold f_X11_meets_k8 at hs
      refine lv_iload (pc := 80) hx hb dX11_meets_80 (lv_at hl 3 rfl) ?_
      refine lv_if_ne (pc := 82) (tgt := 115) hx hb dX11_meets_82 (by decide) (fun hc => ?_) (fun hc => ?_)
      · replace hs := q_t hc hs
        exact q_vret hret dX11_meets_115 hw hs
      · replace hs := q_f (fun z => z hc) hs
        refine lv_aload_n (pc := 85) hx hb dX11_meets_85 rfl (lv_at hl 0 rfl) ?_
        refine q_getR (pc := 86) (q := 72) (o := 8) hx hb hts hown hK hw rfl fg_X11_38 dX11_meets_86 ?_
        refine lv_aload_n (pc := 89) hx hb dX11_meets_89 rfl (lv_at hl 0 rfl) ?_
        refine q_getI (pc := 90) (q := 72) hx hb hts hown hK hw rfl fg_X11_300 dX11_meets_90 ?_
        refine lv_iload_n (pc := 93) hx hb dX11_meets_93 rfl (lv_at hl 1 rfl) ?_
        refine q_ast (pc := 94) (q := 80) (n := 201) hx hb hK hw rfl dX11_meets_94 hs (fun h9 H locs hw hs => ?_)
        refine lv_aload_n (pc := 95) hx hb dX11_meets_95 rfl (lv_at hl 0 rfl) ?_
        refine q_getR (pc := 96) (q := 72) (o := 9) hx hb hts hown hK hw rfl fg_X11_41 dX11_meets_96 ?_
        refine lv_aload_n (pc := 99) hx hb dX11_meets_99 rfl (lv_at hl 0 rfl) ?_
        refine q_getI (pc := 100) (q := 72) hx hb hts hown hK hw rfl fg_X11_300 dX11_meets_100 ?_
        refine lv_lload_n (pc := 103) hx hb dX11_meets_103 rfl (lv_at hl 2 rfl) ?_
        refine q_astL (pc := 104) (q := 81) (n := 201) hx hb hK hw rfl dX11_meets_104 hs (fun h10 H locs hw hs => ?_)
        refine lv_aload_n (pc := 105) hx hb dX11_meets_105 rfl (lv_at hl 0 rfl) ?_
        refine lv_dup (pc := 106) hx hb dX11_meets_106 rfl ?_
        refine q_getI (pc := 107) (q := 72) hx hb hts hown hK hw rfl fg_X11_300 dX11_meets_107 ?_
        refine lv_iconst (pc := 110) (v := (iI 1)) hx hb dX11_meets_110 rfl ?_
        refine lv_iadd (pc := 111) hx hb dX11_meets_111 ?_
        refine q_putI (pc := 112) (q := 72) hx hb hts hown hK hw rfl fp_X11_300 dX11_meets_112 hs (fun h11 H locs hw hs => ?_)
        exact q_vret hret dX11_meets_115 hw hs
    · intro K8 hK8 hs
      refine lv_icmp_ge (pc := 36) (tgt := 80) hx hb dX11_meets_36 (by decide) (fun hc => ?_) (fun hc => ?_)
      · replace hs := q_t hc hs
        exact hK8 hs _ _ hw _ (lv_sub hl [0, 1, 2, 3] rfl)
      · replace hs := q_f hc hs
        refine lv_iload (pc := 39) hx hb dX11_meets_39 (lv_at hl 3 rfl) ?_
        refine lv_if_ne (pc := 41) (tgt := 80) hx hb dX11_meets_41 (by decide) (fun hc => ?_) (fun hc => ?_)
        · replace hs := q_t hc hs
          exact hK8 hs _ _ hw _ (lv_sub hl [0, 1, 2, 3] rfl)
        · replace hs := q_f (fun z => z hc) hs
          refine lv_aload_n (pc := 44) hx hb dX11_meets_44 rfl (lv_at hl 0 rfl) ?_
          refine q_getR (pc := 45) (q := 72) (o := 8) hx hb hts hown hK hw rfl fg_X11_38 dX11_meets_45 ?_
          refine lv_iload (pc := 48) hx hb dX11_meets_48 (lv_at hl 4 rfl) ?_
          refine q_ald (pc := 50) (q := 80) (n := 201) hx hb hK hw rfl dX11_meets_50 hs (fun v12 hs => ?_)
          refine lv_iload_n (pc := 51) hx hb dX11_meets_51 rfl (lv_at hl 1 rfl) ?_
          refine q_join1 (P0 := fun (x13 : Int32) => ∀ (H : Heap) (locs : List Loc), IW G s h H locs → ∀ ls : Array Slot, lv_has ls 6 [(0, .ref (G.2.2.1 72)), (1, .int v1), (2, .long w2), (5, .int x6)] → W p l e R s m args below meth c H locs 0 0 Q (F0 m 72 ls [.int x13])) hs ?_ ?_
          · intro x13 hs H locs hw ls hl
            refine lv_istore (pc := 72) (lv' := [(4, .int x13), (0, .ref (G.2.2.1 72)), (1, .int v1), (2, .long w2), (5, .int x6)]) hx hb dX11_meets_72 hl (by decide) rfl (fun ls hl => ?_)
            obtain ⟨x15, ex15, hs⟩ := q_nm hs
            refine lv_iinc (pc := 74) (v := x15) (lv' := [(5, .int x15), (4, .int x13), (0, .ref (G.2.2.1 72)), (1, .int v1), (2, .long w2)]) hx hb dX11_meets_74 hl (k := 4) rfl ex15 (by decide) rfl (fun ls hl => ?_)
            refine lv_goto (pc := 77) (tgt := 30) hx hb dX11_meets_77 (by decide) ?_
            exact hK7 _ _ hs _ _ hw _ (lv_sub hl [2, 3, 4, 1, 0] rfl)
          · intro K14 hK14 hs
            refine q_join0 (P0 := ∀ (H : Heap) (locs : List Loc), IW G s h H locs → ∀ ls : Array Slot, lv_has ls 6 [(0, .ref (G.2.2.1 72)), (1, .int v1), (2, .long w2), (5, .int x6)] → W p l e R s m args below meth c H locs 0 0 Q (F0 m 71 ls [])) hs ?_ ?_
            · intro  hs H locs hw ls hl
              refine lv_iconst (pc := 71) (v := (iI 0)) hx hb dX11_meets_71 rfl ?_
              exact hK14 _ hs _ _ hw _ (lv_sub hl [0, 1, 2, 3] rfl)
            · intro K16 hK16 hs
              refine lv_icmp_ne (pc := 52) (tgt := 71) hx hb dX11_meets_52 (by decide) (fun hc => ?_) (fun hc => ?_)
              · replace hs := q_t hc hs
                exact hK16 hs _ _ hw _ (lv_sub hl [0, 1, 2, 4] rfl)
              · replace hs := q_f (fun z => z hc) hs
                refine lv_aload_n (pc := 55) hx hb dX11_meets_55 rfl (lv_at hl 0 rfl) ?_
                refine q_getR (pc := 56) (q := 72) (o := 9) hx hb hts hown hK hw rfl fg_X11_41 dX11_meets_56 ?_
                refine lv_iload (pc := 59) hx hb dX11_meets_59 (lv_at hl 4 rfl) ?_
                refine q_aldL (pc := 61) (q := 81) (n := 201) hx hb hK hw rfl dX11_meets_61 hs (fun w17 hs => ?_)
                refine lv_lload_n (pc := 62) hx hb dX11_meets_62 rfl (lv_at hl 2 rfl) ?_
                refine W.lcmp (pc := 63) hx hb dX11_meets_63 ?_
                refine lv_if_ne (pc := 64) (tgt := 71) hx hb dX11_meets_64 (by decide) (fun hc => ?_) (fun hc => ?_)
                · replace hs := q_t hc hs
                  exact hK16 hs _ _ hw _ (lv_sub hl [0, 1, 2, 4] rfl)
                · replace hs := q_f (fun z => z hc) hs
                  refine lv_iconst (pc := 67) (v := (iI 1)) hx hb dX11_meets_67 rfl ?_
                  refine lv_goto (pc := 68) (tgt := 72) hx hb dX11_meets_68 (by decide) ?_
                  exact hK14 _ hs _ _ hw _ (lv_sub hl [0, 1, 2, 4] rfl)
  · intro K4 hK4 hs
    refine lv_icmp_le (pc := 17) (tgt := 24) hx hb dX11_meets_17 (by decide) (fun hc => ?_) (fun hc => ?_)
    · replace hs := q_t hc hs
      refine lv_iconst (pc := 24) (v := (iI 0)) hx hb dX11_meets_24 rfl ?_
      exact hK4 _ hs _ _ hw _ (lv_sub hl [2, 1, 0] rfl)
    · replace hs := q_f hc hs
      refine lv_iconst (pc := 20) (v := (iI 1)) hx hb dX11_meets_20 rfl ?_
      refine lv_goto (pc := 21) (tgt := 25) hx hb dX11_meets_21 (by decide) ?_
      exact hK4 _ hs _ _ hw _ (lv_sub hl [2, 1, 0] rfl)

set_option maxHeartbeats 4000000 in
theorem c_X11_standsAsMet (l : Launch) (G : GG) (a1 : Int32) (h : Mem) (h' : Mem) (hs : f_X11_standsAsMet h a1 = some h') : Sat l G yX11_standsAsMet cX11_standsAsMet 3 none 1 [.ref (G.2.2.1 72), .int a1] h none h' := by
  refine Sat.mkV (by decide) (Nat.le_of_ble_eq_true rfl) ?_
  intro p e R s m args below meth c Q F hret hw ls hl
  obtain ⟨hx, hb, hml, hown, hts, hK, hSt, hN, hR⟩ := F
  have hl : lv_has ls 3 [(0, .ref (G.2.2.1 72)), (1, .int a1)] := hl
  unfold f_X11_standsAsMet at hs
  refine lv_iconst (pc := 0) (v := (iI 0)) hx hb dX11_standsAsMet_0 rfl ?_
  refine lv_istore_n (pc := 1) (lv' := [(2, .int (iI 0)), (0, .ref (G.2.2.1 72)), (1, .int a1)]) hx hb dX11_standsAsMet_1 rfl hl (by decide) rfl (fun ls hl => ?_)
  refine (q_lo2 (P0 := fun (x1 : Int32) (h2 : Mem) => ∀ (H : Heap) (locs : List Loc), IW G s h2 H locs → ∀ ls : Array Slot, lv_has ls 3 [(0, .ref (G.2.2.1 72)), (1, .int a1), (2, .int x1)] → W p l e R s m args below meth c H locs 0 0 Q (F0 m 2 ls [])) hs ?_) _ _ hw _ (lv_sub hl [1, 2, 0] rfl)
  intro K3 hK3 x1 h2 hs H locs hw ls hl
  unfold f_X11_standsAsMet_k3 at hs
  refine lv_iload_n (pc := 2) hx hb dX11_standsAsMet_2 rfl (lv_at hl 2 rfl) ?_
  refine lv_aload_n (pc := 3) hx hb dX11_standsAsMet_3 rfl (lv_at hl 0 rfl) ?_
  obtain ⟨v4, ev, hs⟩ := q_cal hs
  refine q_callV (pc := 4) (q := 72) (As := []) (rest := [.int x1]) (rs := [.int v4, .int x1]) hx hb hml hl.1 hts hown hK hSt hN hw (c_X11_many l G h2 v4 ev) rfl rfl cv_X11_67 (rm_ok hR (by decide)) rfl (Nat.le_of_ble_eq_true rfl) rfl rfl dX11_standsAsMet_4 (fun H locs hw => ?_)
  refine lv_icmp_ge (pc := 7) (tgt := 53) hx hb dX11_standsAsMet_7 (by decide) (fun hc => ?_) (fun hc => ?_)
  · replace hs := q_t hc hs
    exact q_vret hret dX11_standsAsMet_53 hw hs
  · replace hs := q_f hc hs
    refine lv_aload_n (pc := 10) hx hb dX11_standsAsMet_10 rfl (lv_at hl 0 rfl) ?_
    refine lv_iload_n (pc := 11) hx hb dX11_standsAsMet_11 rfl (lv_at hl 2 rfl) ?_
    refine lv_iconst (pc := 12) (v := (iI 2)) hx hb dX11_standsAsMet_12 rfl ?_
    refine lv_aload_n (pc := 13) hx hb dX11_standsAsMet_13 rfl (lv_at hl 0 rfl) ?_
    refine q_getR (pc := 14) (q := 72) (o := 8) hx hb hts hown hK hw rfl fg_X11_38 dX11_standsAsMet_14 ?_
    refine lv_iload_n (pc := 17) hx hb dX11_standsAsMet_17 rfl (lv_at hl 1 rfl) ?_
    refine q_ald (pc := 18) (q := 80) (n := 201) hx hb hK hw rfl dX11_standsAsMet_18 hs (fun v5 hs => ?_)
    refine lv_iload_n (pc := 19) hx hb dX11_standsAsMet_19 rfl (lv_at hl 2 rfl) ?_
    refine q_ishr (pc := 20) hx hb dX11_standsAsMet_20 ?_
    refine lv_iconst (pc := 21) (v := (iI 1)) hx hb dX11_standsAsMet_21 rfl ?_
    refine lv_iand (pc := 22) hx hb dX11_standsAsMet_22 ?_
    obtain ⟨h6, ev, hs⟩ := q_cal hs
    refine q_callV (pc := 23) (q := 72) (As := [.int x1, .int (iI 2), .int ((shrI v5 x1) &&& (iI 1))]) (rest := []) (rs := []) hx hb hml hl.1 hts hown hK hSt hN hw (c_X11_puts l G x1 (iI 2) ((shrI v5 x1) &&& (iI 1)) h2 h6 ev) rfl rfl cv_X11_91 (rm_ok hR (by decide)) rfl (Nat.le_of_ble_eq_true rfl) rfl rfl dX11_standsAsMet_23 (fun H locs hw => ?_)
    refine lv_aload_n (pc := 26) hx hb dX11_standsAsMet_26 rfl (lv_at hl 0 rfl) ?_
    refine lv_iload_n (pc := 27) hx hb dX11_standsAsMet_27 rfl (lv_at hl 2 rfl) ?_
    refine lv_iconst (pc := 28) (v := (iI 3)) hx hb dX11_standsAsMet_28 rfl ?_
    refine lv_aload_n (pc := 29) hx hb dX11_standsAsMet_29 rfl (lv_at hl 0 rfl) ?_
    refine q_getR (pc := 30) (q := 72) (o := 9) hx hb hts hown hK hw rfl fg_X11_41 dX11_standsAsMet_30 ?_
    refine lv_iload_n (pc := 33) hx hb dX11_standsAsMet_33 rfl (lv_at hl 1 rfl) ?_
    refine q_aldL (pc := 34) (q := 81) (n := 201) hx hb hK hw rfl dX11_standsAsMet_34 hs (fun w7 hs => ?_)
    refine lv_iconst (pc := 35) (v := (iI 2)) hx hb dX11_standsAsMet_35 rfl ?_
    refine lv_iload_n (pc := 36) hx hb dX11_standsAsMet_36 rfl (lv_at hl 2 rfl) ?_
    refine lv_imul (pc := 37) hx hb dX11_standsAsMet_37 ?_
    refine lv_lshr (pc := 38) (v := (shrL w7 ((iI 2) * x1))) hx hb dX11_standsAsMet_38 rfl ?_
    refine lv_ldc2 (pc := 39) (v := (iL 3)) hx hb hown (hts _ kl_X11_303) dX11_standsAsMet_39 ?_
    refine lv_land (pc := 42) hx hb dX11_standsAsMet_42 ?_
    refine lv_l2i (pc := 43) hx hb dX11_standsAsMet_43 rfl ?_
    obtain ⟨h8, ev, hs⟩ := q_cal hs
    refine q_callV (pc := 44) (q := 72) (As := [.int x1, .int (iI 3), .int (Int64.toInt32 ((shrL w7 ((iI 2) * x1)) &&& (iL 3)))]) (rest := []) (rs := []) hx hb hml hl.1 hts hown hK hSt hN hw (c_X11_puts l G x1 (iI 3) (Int64.toInt32 ((shrL w7 ((iI 2) * x1)) &&& (iL 3))) h6 h8 ev) rfl rfl cv_X11_91 (rm_ok hR (by decide)) rfl (Nat.le_of_ble_eq_true rfl) rfl rfl dX11_standsAsMet_44 (fun H locs hw => ?_)
    obtain ⟨x9, ex9, hs⟩ := q_nm hs
    refine lv_iinc (pc := 47) (v := x9) (lv' := [(2, .int x9), (0, .ref (G.2.2.1 72)), (1, .int a1)]) hx hb dX11_standsAsMet_47 hl (k := 2) rfl ex9 (by decide) rfl (fun ls hl => ?_)
    refine lv_goto (pc := 50) (tgt := 2) hx hb dX11_standsAsMet_50 (by decide) ?_
    exact hK3 _ _ hs _ _ hw _ (lv_sub hl [1, 2, 0] rfl)

