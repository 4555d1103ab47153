section MTELLS
variable {h : Mem} {g : GS}
theorem unk_ok (hg : GV g) {x : Int32} : okU (g.now.R * g.now.C) (unk g.now x) := by
  have go : ∀ (f i : Nat) (l : List Nat), i + f = g.now.R * g.now.C → okU (g.now.R * g.now.C) l → okU (g.now.R * g.now.C) (unkF g.now.K x f i l) := by
    intro f
    induction f with
    | zero => intro i l _ hl; exact hl
    | succ f ih =>
      intro i l hf hl
      unfold unkF
      split
      · exact hl
      · refine ih _ _ (by omega) ?_
        split
        · refine ⟨by rw [List.length_append]; show l.length + 1 ≤ 5; omega, fun q hq => ?_⟩
          rcases List.mem_append.mp hq with z | z
          · exact hl.2 q z
          · rw [List.mem_singleton.mp z]; omega
        · exact hl
  exact go _ 0 [] (by omega) ⟨by simp, fun q hq => absurd hq List.not_mem_nil⟩
/-- the model notes all outs -/
theorem m_outs {S : Nat → Bool} {T L : Nat → Nat} {O : OUS} {K14 : Int32 → Mem → Option (Int32 × Mem)} {x17 : Int32} (hg : GV g) (hT : MTr h g) (h12 : gI h 72 12 = iI (-1)) (h13 : gI h 72 13 = iI (-1)) (hH : RM h 73 g.now.R g.now.C g.now.K g.now.M S T L) (h76 : RM h 76 g.now.R g.now.C g.now.K g.now.M S T L) (hDD : VD g.now.R g.now.C g.now.M S T L) (hO : ∀ j, j < 20 → gI h 87 j = slW (O j)) :
    ∃ h2, lo2 (f_X11_findFits_k21 K14 x17) 1000000 (iI 0) h = K14 x17 h2 ∧ MTr h2 g ∧ gI h2 72 12 = iI (-1) ∧ gI h2 72 13 = iI (-1) ∧ FC h h2 ∧ (∀ j, j < 20 → gI h2 87 j = slW (addN g.now S T O (2 * (g.now.R + g.now.C)) j)) ∧ gI h2 72 33 = gI h 72 33 ∧ (∀ j, gI h2 82 j = gI h 82 j) := by
  have hV := hg.1.1
  have v1 := hV.2.1
  have v2 := hV.2.2.2.1
  obtain ⟨N, hN⟩ : ∃ N : Nat, N = 1000000 := ⟨_, rfl⟩
  rw [← hN]
  refine lo2_t (fun f x m => ∃ i : Nat, x = iI i ∧ i + f = 2 * (g.now.R + g.now.C) ∧ MTr m g ∧ gI m 72 12 = iI (-1) ∧ gI m 72 13 = iI (-1) ∧ RM m 73 g.now.R g.now.C g.now.K g.now.M S T L ∧ RM m 76 g.now.R g.now.C g.now.K g.now.M S T L ∧ FC h m ∧ (∀ j, j < 20 → gI m 87 j = slW (addN g.now S T O i j)) ∧ gI m 72 33 = gI h 72 33 ∧ (∀ j, gI m 82 j = gI h 82 j)) (fun o => ∃ h2, o = K14 x17 h2 ∧ MTr h2 g ∧ gI h2 72 12 = iI (-1) ∧ gI h2 72 13 = iI (-1) ∧ FC h h2 ∧ (∀ j, j < 20 → gI h2 87 j = slW (addN g.now S T O (2 * (g.now.R + g.now.C)) j)) ∧ gI h2 72 33 = gI h 72 33 ∧ (∀ j, gI h2 82 j = gI h 82 j)) ?_ N (2 * (g.now.R + g.now.C)) _ _ (by omega) ⟨0, rfl, by omega, hT, h12, h13, hH, h76, fun _ _ _ => ⟨rfl, rfl⟩, fun j hj => by rw [hO j hj]; unfold addN; rw [if_neg (Nat.not_lt_zero j)], rfl, fun _ => rfl⟩
  rintro f x m ⟨i, rfl, hf, hTm, k12, k13, hHm, h76m, hF, hOm, k33, k82⟩ Kc
  unfold f_X11_findFits_k21
  have e : (iI (2 * (g.now.R + g.now.C) : Nat) ≤ iI i) = (((2 * (g.now.R + g.now.C) : Nat) : Int) ≤ i) := iI_le ⟨by omega, by omega⟩
  rw [m_windows hHm, cal_some]
  by_cases hi : i = 2 * (g.now.R + g.now.C)
  · left
    rw [if_pos (by rw [e]; omega)]
    rw [hi] at hOm
    exact ⟨_, rfl, m, rfl, hTm, k12, k13, hF, hOm, k33, k82⟩
  · right
    obtain ⟨m2, r1, ⟨⟨L', hH', hD'⟩, r4, r6, r3, r5⟩⟩ := m_ry (wd := -1) hV hHm hDD k12 (by omega) (win := i) (by omega)
    have hb := (ry_out (S := S) (T := T) hV (show i < 2 * (g.now.R + g.now.C) by omega)).1
    have hT2 := hTm.fr hg r5
    have o87 : gI m2 87 i = slW (O i) := by
      rw [(r5.1 87 i (by omega) (by omega)).1, hOm i (by omega)]; unfold addN; rw [if_neg (Nat.lt_irrefl i)]
    have e100 : (iI (ry g.now.R g.now.C g.now.K g.now.M i S T).1 = iI 100) = (((ry g.now.R g.now.C g.now.K g.now.M i S T).1 : Int) = 100) := iI_eq ⟨by omega, by omega⟩
    obtain ⟨m3, s1, s2, s3, s4⟩ := m_copy (q1 := 76) (q2 := 73) (n1 := 305) (n2 := 305) (h := sI m2 87 i (slW (upB (O i) (min 20 (ry g.now.R g.now.C g.now.K g.now.M i S T).1) true))) (by omega) (by omega) (by omega)
    have hrest : (fun x26 : Int32 => ast m2 87 20 (iI (i : Int)) (slW (O i) ||| x26) fun h28 => cal (f_X11_moveAll h28 76 305 73 305) fun h29 => nm (iI (i : Int) + iI 1) fun x30 => Kc x30 h29) (shlI (iI 1) (iI (min 20 (ry g.now.R g.now.C g.now.K g.now.M i S T).1 : Nat))) = Kc (iI (i + 1 : Nat)) m3 := by
      dsimp only
      rw [or_bit (by omega), ast_i (by omega) (by omega), Int.toNat_natCast, s1, cal_some, nm_eq, iI_add]; rfl
    have hif : (if ¬ iI (ry g.now.R g.now.C g.now.K g.now.M i S T).1 = iI 100 then (fun x26 : Int32 => ast m2 87 20 (iI (i : Int)) (slW (O i) ||| x26) fun h28 => cal (f_X11_moveAll h28 76 305 73 305) fun h29 => nm (iI (i : Int) + iI 1) fun x30 => Kc x30 h29) (shlI (iI 1) (iI (ry g.now.R g.now.C g.now.K g.now.M i S T).1)) else (fun x26 : Int32 => ast m2 87 20 (iI (i : Int)) (slW (O i) ||| x26) fun h28 => cal (f_X11_moveAll h28 76 305 73 305) fun h29 => nm (iI (i : Int) + iI 1) fun x30 => Kc x30 h29) (iI 1048576)) = Kc (iI (i + 1 : Nat)) m3 := by
      by_cases q : (ry g.now.R g.now.C g.now.K g.now.M i S T).1 = 100
      · rw [if_neg (by rw [e100]; omega), ← hrest, q]; rfl
      · rw [if_pos (by rw [e100]; omega), ← hrest, show min 20 (ry g.now.R g.now.C g.now.K g.now.M i S T).1 = (ry g.now.R g.now.C g.now.K g.now.M i S T).1 by omega]
    rw [if_neg (by rw [e]; omega), r1, cal2_some, ald_i (by omega) (by omega), Int.toNat_natCast, o87, join_eq, hif]
    have g76 : ∀ k, k < 305 → gI (sI m2 87 i (slW (upB (O i) (min 20 (ry g.now.R g.now.C g.now.K g.now.M i S T).1) true))) 76 k = gI m 76 k := fun k hk => (gI_ne (by omega)).trans (r5.1 76 k (by omega) (by omega)).1
    refine ⟨f - 1, _, _, by omega, ⟨i + 1, rfl, by omega, (hT2.keep hg (h2 := sI m2 87 i (slW (upB (O i) (min 20 (ry g.now.R g.now.C g.now.K g.now.M i S T).1) true))) fun x k q => gI_ne (by omega)).keep hg fun x k q => s2 _ _ (by omega), ?_, ?_, rm_copy h76m fun k hk => (s4 k hk).trans (g76 k hk), rm_copy h76m fun k hk => (s2 _ _ (by omega)).trans (g76 k hk), ((hF.tr r5.fc).tr fun x k q => ⟨gI_ne (by omega), rfl⟩).tr fun x k q => ⟨s2 _ _ (by omega), s3 _ _⟩, fun j hj => ?_, ?_, fun j => ?_⟩, rfl⟩
    · rw [s2 _ _ (by omega), gI_ne (by omega), r5.2.1 12 (by omega) (by omega) (by omega) (by omega) (by omega) (by omega) (by omega)]; exact k12
    · rw [s2 _ _ (by omega), gI_ne (by omega), r5.2.1 13 (by omega) (by omega) (by omega) (by omega) (by omega) (by omega) (by omega)]; exact k13
    · rw [s2 _ _ (by omega)]
      by_cases hj2 : j = i
      · rw [hj2, gI_same]; unfold addN; rw [if_pos (Nat.lt_succ_self i)]
      · rw [gI_ne (by omega), (r5.1 87 j (by omega) (by omega)).1, hOm j hj]
        unfold addN
        by_cases hji : j < i
        · rw [if_pos hji, if_pos (by omega)]
        · rw [if_neg hji, if_neg (by omega)]
    · rw [s2 _ _ (by omega), gI_ne (by omega), r5.2.1 33 (by omega) (by omega) (by omega) (by omega) (by omega) (by omega) (by omega)]; exact k33
    · rw [s2 _ _ (by omega), gI_ne (by omega), (r5.1 82 j (by omega) (by omega)).1]; exact k82 j
theorem m_findFits {u : Nat} {U : List Nat} (hm : MSt h g) (hg : GV g) (hu : u < 4) (hb0 : g.bits u ≠ 0) (hlt : ltF (2 * (g.now.R + g.now.C)) (g.sheet u) 20 0 = true) (hU : okU (g.now.R * g.now.C) U) (b1 : gI h 72 33 = iI U.length) (b4 : ∀ j (hj : j < U.length), gI h 82 j = iI U[j]) :
    ∃ h2, f_X11_findFits h (iI u) = some (iI (cmA g.now U (g.sheet u)).1, h2) ∧ MSt h2 g ∧ FC h h2 ∧ (∀ j, j < 20 → gI h2 87 j = slW ((cmA g.now U (g.sheet u)).2 j)) := by
  have hV := hg.1.1
  have h25 := sq_25 hV.2.1 hV.2.2.2.1
  obtain ⟨pw, p32, p1⟩ := pow_u U.length (by have := hU.1; omega)
  unfold f_X11_findFits cmA
  obtain ⟨P, hP⟩ : ∃ P, P = 2 ^ U.length := ⟨_, rfl⟩
  rw [← hP] at pw p32 p1 ⊢
  obtain ⟨X, hX⟩ : ∃ X, X = cmF g.now U (g.sheet u) P 0 (0, fun _ _ => false) := ⟨_, rfl⟩
  rw [← hX]
  obtain ⟨m1, t1, t2, t3, t4, t5⟩ := m_try hm hg
  rw [t1, cal_some]
  have pM : MSt m1 g := t3.2.st t2 ((t4 _ _ (by omega)).trans hm.w12) ((t4 _ _ (by omega)).trans hm.w13)
  have f1 : FC h m1 := fun x k q => ⟨t4 x k (by omega), t5 x k⟩
  obtain ⟨N, hN⟩ : ∃ N : Nat, N = 1000000 := ⟨_, rfl⟩
  rw [← hN]
  refine lo2_t (fun f x2 m => ∃ i : Nat, x2 = iI i ∧ i + f = 20 ∧ (∀ j, j < i → gI m 87 j = iI 0) ∧ (∀ x k, x ≠ 87 → gI m x k = gI m1 x k) ∧ (∀ x k, gL m x k = gL m1 x k)) (fun o => ∃ h2, o = some (iI X.1, h2) ∧ MSt h2 g ∧ FC h h2 ∧ (∀ j, j < 20 → gI h2 87 j = slW (X.2 j))) ?_ N 20 _ _ (by omega) ⟨0, rfl, by omega, fun j hj => absurd hj (Nat.not_lt_zero j), fun _ _ _ => rfl, fun _ _ => rfl⟩
  rintro f x2 m ⟨i, rfl, hf, z1, z2, z3⟩ Kc
  unfold f_X11_findFits_k4
  have e : (iI 20 ≤ iI i) = ((20 : Int) ≤ i) := iI_le ⟨by omega, by omega⟩
  by_cases hi : i = 20
  · left
    rw [if_pos (by rw [e]; omega)]
    refine ⟨_, rfl, ?_⟩
    have mM : MSt m g := pM.keep hg.1 hg.2.1 fun x k q => z2 x k (by omega)
    have mT : MTr m g := t3.keep hg fun x k q => z2 x k (by omega)
    refine lo3_t (fun f x5 x6 mm => ∃ (i : Nat) (a : Nat × OUS), x5 = iI a.1 ∧ x6 = iI i ∧ i + f = P ∧ cmF g.now U (g.sheet u) f i a = X ∧ (∀ j, j < 20 → gI mm 87 j = slW (a.2 j)) ∧ MSt mm g ∧ MTr mm g ∧ FC h mm ∧ gI mm 72 33 = iI U.length ∧ (∀ j (hj : j < U.length), gI mm 82 j = iI U[j])) (fun o => ∃ h2, o = some (iI X.1, h2) ∧ MSt h2 g ∧ FC h h2 ∧ (∀ j, j < 20 → gI h2 87 j = slW (X.2 j))) ?_ 1000000 P _ _ _ (by omega) ⟨0, _, rfl, rfl, by omega, hX.symm, fun j hj => by rw [z1 j (by omega), sl_zero], mM, mT, f1.tr fun x k q => ⟨z2 _ _ (by omega), z3 _ _⟩, (z2 _ _ (by omega)).trans ((t4 _ _ (by omega)).trans b1), fun j hj => (z2 _ _ (by omega)).trans ((t4 _ _ (by omega)).trans (b4 j hj))⟩
    rintro f x5 x6 mm ⟨i, a, rfl, rfl, hf, hA, hO, hM, hT, hF, c1, c4⟩ Kc2
    unfold f_X11_findFits_k8
    have e : (iI P ≤ iI i) = ((P : Int) ≤ i) := iI_le ⟨by omega, by omega⟩
    rw [c1, pw]
    by_cases hi : i = P
    · left
      have hs : X = a := by rw [← hA, show f = 0 by omega]; rfl
      rw [if_pos (by rw [e]; omega), hs]
      exact ⟨_, rfl, mm, rfl, hM, hF, hO⟩
    · right
      obtain ⟨f', rfl⟩ : ∃ f', f = f' + 1 := ⟨f - 1, by omega⟩
      unfold cmF at hA
      obtain ⟨m2, q1, q2, q3, q4⟩ := m_slantsAre (x := i) hU h25 hM.1.1 c1 c4
      have hDx := stU_VD (x := i) U 0 g.now.S hU hg.1.2.1
      obtain ⟨m3, r1, ⟨L', r2, r3⟩, r5⟩ := m_cameSo (hM.mx.fr hg q3) hg hu ((q4 12).trans hM.w12) hlt q2 hDx hb0
      have qr := q3.tr r5
      have z12 : gI m3 72 12 = iI (-1) := (qr.2.1 12 (by omega) (by omega) (by omega) (by omega) (by omega) (by omega) (by omega)).trans hM.w12
      have z13 : gI m3 72 13 = iI (-1) := (qr.2.1 13 (by omega) (by omega) (by omega) (by omega) (by omega) (by omega) (by omega)).trans hM.w13
      have y33 : gI m3 72 33 = iI U.length := (qr.2.1 33 (by omega) (by omega) (by omega) (by omega) (by omega) (by omega) (by omega)).trans c1
      have y82 : ∀ j, gI m3 82 j = gI mm 82 j := fun j => (qr.1 82 j (by omega) (by omega)).1
      have y87 : ∀ j, j < 20 → gI m3 87 j = slW (a.2 j) := fun j hj => ((qr.1 87 j (by omega) (by omega)).1).trans (hO j hj)
      have hT3 := hT.fr hg qr
      rw [if_neg (by rw [e]; omega), q1, cal_some, r1, cal2_some, join_eq]
      have fin : ∀ (b : Nat × OUS) (m9 : Mem), cmF g.now U (g.sheet u) f' (i + 1) b = X → (∀ j, j < 20 → gI m9 87 j = slW (b.2 j)) → MTr m9 g → gI m9 72 12 = iI (-1) → gI m9 72 13 = iI (-1) → FC h m9 → gI m9 72 33 = iI U.length → (∀ j, gI m9 82 j = gI mm 82 j) → ∃ f'' a' b' c', f'' < f' + 1 ∧ (∃ (i : Nat) (a : Nat × OUS), a' = iI a.1 ∧ b' = iI i ∧ i + f'' = P ∧ cmF g.now U (g.sheet u) f'' i a = X ∧ (∀ j, j < 20 → gI c' 87 j = slW (a.2 j)) ∧ MSt c' g ∧ MTr c' g ∧ FC h c' ∧ gI c' 72 33 = iI U.length ∧ (∀ j (hj : j < U.length), gI c' 82 j = iI U[j])) ∧ (fun (x12 : Int32) (h13 : Mem) => cal (f_X11_moveAll h13 75 305 73 305) fun h15 => nm (iI (i : Int) + iI 1) fun x16 => Kc2 x12 x16 h15) (iI b.1) m9 = Kc2 a' b' c' := fun b m9 w1 w2 w3 w4 w5 w6 w7 w8 => by
        obtain ⟨m4, u1, u2, u3, u4, u5⟩ := m_untry w3 hg w4 w5
        refine ⟨f', iI b.1, iI (i + 1 : Nat), m4, Nat.lt_succ_self f', ⟨i + 1, b, rfl, rfl, by omega, w1, fun j hj => (u4 _ _ (by omega)).trans (w2 j hj), u2, u3, w6.tr fun x k q => ⟨u4 x k (by omega), u5 x k⟩, (u4 _ _ (by omega)).trans w7, fun j hj => (u4 _ _ (by omega)).trans ((w8 j).trans (c4 j hj))⟩, ?_⟩
        dsimp only
        rw [u1, cal_some, nm_eq, iI_add]; rfl
      have fc3 : FC h m3 := hF.tr qr.fc
      cases hb : (csF g.now (g.sheet u) 20 0 (stU i U 0 g.now.S) g.now.T).1
      · rw [if_neg (by rw [hb]; decide)] at hA
        rw [bn_false, if_pos (by decide)]
        exact fin a m3 hA y87 hT3 z12 z13 fc3 y33 y82
      · rw [if_pos hb] at hA
        obtain ⟨m5, w1, w2, w3, w4⟩ := m_copy (q1 := 73) (q2 := 76) (n1 := 305) (n2 := 305) (h := m3) (by omega) (by omega) (by omega)
        rw [bn_true, if_neg (by decide), iI_add, nm_eq, w1, cal_some]
        obtain ⟨m6, o1, o2, o3, o4, o5, o6, o7, o8⟩ := m_outs (K14 := fun (x12 : Int32) (h13 : Mem) => cal (f_X11_moveAll h13 75 305 73 305) fun h15 => nm (iI (i : Int) + iI 1) fun x16 => Kc2 x12 x16 h15) (x17 := iI ((a.1 : Int) + 1)) (h := m5) hg (hT3.keep hg fun x k q => w2 _ _ (by omega)) ((w2 _ _ (by omega)).trans z12) ((w2 _ _ (by omega)).trans z13) (rm_copy r2 fun k hk => w2 _ _ (by omega)) (rm_copy r2 w4) r3 (fun j hj => (w2 _ _ (by omega)).trans (y87 j hj))
        rw [o1]
        exact fin (a.1 + 1, addN g.now (csF g.now (g.sheet u) 20 0 (stU i U 0 g.now.S) g.now.T).2.1 (csF g.now (g.sheet u) 20 0 (stU i U 0 g.now.S) g.now.T).2.2 a.2 (2 * (g.now.R + g.now.C))) m6 hA o6 o2 o3 o4 ((fc3.tr fun x k q => ⟨w2 _ _ (by omega), w3 _ _⟩).tr o5) (o7.trans ((w2 _ _ (by omega)).trans y33)) (fun j => (o8 j).trans ((w2 _ _ (by omega)).trans (y82 j)))
  · right
    rw [if_neg (by rw [e]; omega), ast_i (by omega) (by omega), Int.toNat_natCast, nm_eq, iI_add]
    refine ⟨f - 1, _, _, by omega, ⟨i + 1, rfl, by omega, fun j hj => ?_, fun x k q => ?_, ?_⟩, rfl⟩
    · by_cases hj2 : j = i
      · rw [hj2, gI_same]
      · rw [gI_ne (by omega)]; exact z1 j (by omega)
    · rw [gI_ne (by omega)]; exact z2 x k q
    · exact z3
/-! fits, tells -/
abbrev ltOk (g : GS) (u : Nat) : Bool := decide (g.bits u ≠ 0) && ltF (2 * (g.now.R + g.now.C)) (g.sheet u) 20 0
def spFits (g : GS) (x y : Int) : Int32 × GS := if (0 ≤ x ∧ x < (2 ^ (g.now.R * g.now.C) : Nat)) ∧ (0 ≤ y ∧ y ≤ 3) then (if ltOk g y.toNat = true then (iI (cmA g.now (unk g.now (iI x)) (g.sheet y.toNat)).1, g) else (iI (-1000000002), g.fail 2)) else (iI (-1000000001), g.fail 1)
theorem c_fits {x y : Int} (hc : CSt h g) (hg : GV g) (hx : -2147483648 ≤ x ∧ x < 2147483648) (hy : -2147483648 ≤ y ∧ y < 2147483648) : OPC h (f_X10_fits h (iI x) (iI y)) (spFits g x y).1 (spFits g x y).2 := by
  unfold f_X10_fits spFits
  rw [w_hasMask hc.1.1 hg.1.1 hx, cal_some, join_eq, cal2_id]
  by_cases e1 : 0 ≤ x ∧ x < (2 ^ (g.now.R * g.now.C) : Nat)
  · rw [decide_eq_true e1, bn_true, if_neg (by decide), w_hasSheet hy, cal_some]
    by_cases e2 : 0 ≤ y ∧ y ≤ 3
    · obtain ⟨u, rfl⟩ : ∃ u : Nat, y = u := ⟨y.toNat, by omega⟩
      rw [decide_eq_true e2, bn_true, if_pos (by decide), if_pos ⟨e1, e2⟩, rng_i (by omega) (by omega), Int.toNat_natCast, c_canRead hc hg (by omega), cal_some]
      cases hl : ltOk g u
      · rw [show (decide (g.bits u ≠ 0) && ltF (2 * (g.now.R + g.now.C)) (g.sheet u) 20 0) = false from hl, bn_false, if_neg (by decide), if_neg (by decide), cal2_id]
        exact c_fail hc (e := 2) (by omega)
      · obtain ⟨l1, l2⟩ := Bool.and_eq_true_iff.mp hl
        obtain ⟨m1, s1, s2, s3, s4, s5, s6⟩ := c_suppose (x := iI x) hc hg
        obtain ⟨m2, k1, k2, k3⟩ := c_fitting (u := u) s2 hg (by omega) l2 s4 hg.1.2.1 s5 s6
        rw [show (decide (g.bits u ≠ 0) && ltF (2 * (g.now.R + g.now.C)) (g.sheet u) 20 0) = true from hl, bn_true, if_pos (by decide), if_pos rfl, s1, cal_some, k1, cal2_some]
        exact ⟨m2, rfl, k2, s3.tr k3⟩
    · rw [decide_eq_false e2, bn_false, if_neg (by decide), if_neg (fun q => e2 q.2)]
      exact c_fail hc (e := 1) (by omega)
  · rw [decide_eq_false e1, bn_false, if_pos (by decide), if_neg (fun q => e1 q.1)]
    exact c_fail hc (e := 1) (by omega)
theorem m_fits {x y : Int} (hm : MSt h g) (hg : GV g) (hx : -2147483648 ≤ x ∧ x < 2147483648) (hy : -2147483648 ≤ y ∧ y < 2147483648) : OPM h (f_X11_fits h (iI x) (iI y)) (spFits g x y).1 (spFits g x y).2 := by
  unfold f_X11_fits spFits
  rw [m_isMask hm.1.1 hg.1.1 hx, cal_some, join_eq, cal2_id]
  by_cases e1 : 0 ≤ x ∧ x < (2 ^ (g.now.R * g.now.C) : Nat)
  · rw [decide_eq_true e1, bn_true, if_neg (by decide), m_isSheet hy, cal_some]
    by_cases e2 : 0 ≤ y ∧ y ≤ 3
    · obtain ⟨u, rfl⟩ : ∃ u : Nat, y = u := ⟨y.toNat, by omega⟩
      rw [decide_eq_true e2, bn_true, if_pos (by decide), if_pos ⟨e1, e2⟩, Int.toNat_natCast, m_areL hm hg (by omega), cal_some]
      cases hl : ltOk g u
      · rw [show (decide (g.bits u ≠ 0) && ltF (2 * (g.now.R + g.now.C)) (g.sheet u) 20 0) = false from hl, bn_false, if_neg (by decide), if_neg (by decide), cal2_id]
        exact c_errs hm hg (e := 2) (by omega)
      · obtain ⟨l1, l2⟩ := Bool.and_eq_true_iff.mp hl
        obtain ⟨m1, s1, s2, s3, s4, s5⟩ := m_findUnk (x := iI x) hm hg
        obtain ⟨m2, k1, k2, k3, k4⟩ := m_findFits (u := u) s2 hg (by omega) (of_decide_eq_true l1) l2 (unk_ok hg) s4 s5
        rw [show (decide (g.bits u ≠ 0) && ltF (2 * (g.now.R + g.now.C)) (g.sheet u) 20 0) = true from hl, bn_true, if_pos (by decide), if_pos rfl, s1, cal_some, k1, cal2_some]
        exact ⟨m2, rfl, k2, s3.tr k3⟩
    · rw [decide_eq_false e2, bn_false, if_neg (by decide), if_neg (fun q => e2 q.2)]
      exact c_errs hm hg (e := 1) (by omega)
  · rw [decide_eq_false e1, bn_false, if_pos (by decide), if_neg (fun q => e1 q.1)]
    exact c_errs hm hg (e := 1) (by omega)
theorem GV.fits {x y : Int} (hg : GV g) : GV (spFits g x y).2 := by
  unfold spFits
  by_cases e : (0 ≤ x ∧ x < (2 ^ (g.now.R * g.now.C) : Nat)) ∧ (0 ≤ y ∧ y ≤ 3)
  · rw [if_pos e]
    split
    · exact hg
    · exact hg.fail 2
  · rw [if_neg e]; exact hg.fail 1
abbrev tlA (g : GS) (x y : Int) : Nat × OUS := cmA g.now (unk g.now (iI x)) (g.sheet y.toNat)
abbrev tlB (g : GS) (x y : Int) : Nat := bsF (tlA g x y).2 (2 * (g.now.R + g.now.C) - 1) 1 0
def spTells (g : GS) (x y z : Int) : Int32 × GS := if (0 ≤ x ∧ x < (2 ^ (g.now.R * g.now.C) : Nat)) ∧ (0 ≤ y ∧ y ≤ 3) ∧ (0 ≤ z ∧ z ≤ 1) then (if ltOk g y.toNat = true then (if (tlA g x y).1 ≠ 0 then ((if z = 0 then iI (tlB g x y) else iI (cntB ((tlA g x y).2 (tlB g x y)) 25)), g) else (iI (-1000000002), g.fail 2)) else (iI (-1000000002), g.fail 2)) else (iI (-1000000001), g.fail 1)
theorem c_tells {x y z : Int} (hc : CSt h g) (hg : GV g) (hx : -2147483648 ≤ x ∧ x < 2147483648) (hy : -2147483648 ≤ y ∧ y < 2147483648) (hz : -2147483648 ≤ z ∧ z < 2147483648) : OPC h (f_X10_tells h (iI x) (iI y) (iI z)) (spTells g x y z).1 (spTells g x y z).2 := by
  unfold f_X10_tells spTells
  rw [w_hasMask hc.1.1 hg.1.1 hx, cal_some, join_eq, cal2_id]
  by_cases e1 : 0 ≤ x ∧ x < (2 ^ (g.now.R * g.now.C) : Nat)
  · rw [decide_eq_true e1, bn_true, if_neg (by decide), w_hasSheet hy, cal_some]
    by_cases e2 : 0 ≤ y ∧ y ≤ 3
    · rw [decide_eq_true e2, bn_true, if_neg (by decide), w_within hz (by omega) (by omega), cal_some]
      by_cases e3 : 0 ≤ z ∧ z ≤ 1
      · obtain ⟨u, rfl⟩ : ∃ u : Nat, y = u := ⟨y.toNat, by omega⟩
        rw [decide_eq_true e3, bn_true, if_pos (by decide), if_pos ⟨e1, e2, e3⟩, rng_i (by omega) (by omega)]
        unfold tlB tlA
        rw [Int.toNat_natCast, c_canRead hc hg (by omega), cal_some]
        cases hl : ltOk g u
        · rw [show (decide (g.bits u ≠ 0) && ltF (2 * (g.now.R + g.now.C)) (g.sheet u) 20 0) = false from hl, bn_false, if_neg (by decide), if_neg (by decide), cal2_id]
          exact c_fail hc (e := 2) (by omega)
        · obtain ⟨l1, l2⟩ := Bool.and_eq_true_iff.mp hl
          obtain ⟨m1, s1, s2, s3, s4, s5, s6⟩ := c_suppose (x := iI x) hc hg
          obtain ⟨m2, k1, k2, k3, k4⟩ := c_findTelling (u := u) s2 hg (by omega) l2 s4 hg.1.2.1 s5 s6
          rw [show (decide (g.bits u ≠ 0) && ltF (2 * (g.now.R + g.now.C)) (g.sheet u) 20 0) = true from hl, bn_true, if_pos (by decide), if_pos rfl, s1, cal_some, k1, cal2_some]
          by_cases hn : (cmA g.now (unk g.now (iI x)) (g.sheet u)).1 ≠ 0
          · obtain ⟨k5, k6⟩ := k4 hn
            rw [decide_eq_true hn, bn_true, if_pos (by decide), if_pos hn, k5, k6]
            by_cases z0 : z = 0
            · rw [if_neg (by rw [z0]; decide), if_pos z0]
              exact ⟨m2, rfl, k2, s3.tr k3⟩
            · rw [if_pos (by rw [iI_zero]; exact iI_ne hz (by omega) z0), if_neg z0]
              exact ⟨m2, rfl, k2, s3.tr k3⟩
          · rw [decide_eq_false hn, bn_false, if_neg (by decide), if_neg hn, cal2_id]
            obtain ⟨m5, t1, t2, t3⟩ := c_fail k2 (e := 2) (by omega)
            exact ⟨m5, t1, t2, (s3.tr k3).tr t3⟩
      · rw [decide_eq_false e3, bn_false, if_neg (by decide), if_neg (fun q => e3 q.2.2)]
        exact c_fail hc (e := 1) (by omega)
    · rw [decide_eq_false e2, bn_false, if_pos (by decide), if_neg (fun q => e2 q.2.1)]
      exact c_fail hc (e := 1) (by omega)
  · rw [decide_eq_false e1, bn_false, if_pos (by decide), if_neg (fun q => e1 q.1)]
    exact c_fail hc (e := 1) (by omega)
theorem m_tells {x y z : Int} (hm : MSt h g) (hg : GV g) (hx : -2147483648 ≤ x ∧ x < 2147483648) (hy : -2147483648 ≤ y ∧ y < 2147483648) (hz : -2147483648 ≤ z ∧ z < 2147483648) : OPM h (f_X11_tells h (iI x) (iI y) (iI z)) (spTells g x y z).1 (spTells g x y z).2 := by
  have hV := hg.1.1
  have v0 := hV.1
  have v1 := hV.2.1
  have v2 := hV.2.2.2.1
  unfold f_X11_tells spTells
  rw [m_isMask hm.1.1 hg.1.1 hx, cal_some, join_eq, cal2_id]
  by_cases e1 : 0 ≤ x ∧ x < (2 ^ (g.now.R * g.now.C) : Nat)
  · rw [decide_eq_true e1, bn_true, if_neg (by decide), m_isSheet hy, cal_some]
    by_cases e2 : 0 ≤ y ∧ y ≤ 3
    · rw [decide_eq_true e2, bn_true, if_neg (by decide), m_in hz (by omega) (by omega), cal_some]
      by_cases e3 : 0 ≤ z ∧ z ≤ 1
      · obtain ⟨u, rfl⟩ : ∃ u : Nat, y = u := ⟨y.toNat, by omega⟩
        rw [decide_eq_true e3, bn_true, if_pos (by decide), if_pos ⟨e1, e2, e3⟩]
        unfold tlB tlA
        rw [Int.toNat_natCast, m_areL hm hg (by omega), cal_some]
        cases hl : ltOk g u
        · rw [show (decide (g.bits u ≠ 0) && ltF (2 * (g.now.R + g.now.C)) (g.sheet u) 20 0) = false from hl, bn_false, if_neg (by decide), if_neg (by decide), cal2_id]
          exact c_errs hm hg (e := 2) (by omega)
        · obtain ⟨l1, l2⟩ := Bool.and_eq_true_iff.mp hl
          obtain ⟨m1, s1, s2, s3, s4, s5⟩ := m_findUnk (x := iI x) hm hg
          obtain ⟨m2, k1, k2, k3, k4⟩ := m_findFits (u := u) s2 hg (by omega) (of_decide_eq_true l1) l2 (unk_ok hg) s4 s5
          have hX32 : (cmA g.now (unk g.now (iI x)) (g.sheet u)).1 ≤ 32 := by
            have h5 := (unk_ok hg (x := iI x)).1
            have := (cmF_le (s := g.now) (U := unk g.now (iI x)) (l := g.sheet u) (2 ^ (unk g.now (iI x)).length) 0 (0, fun _ _ => false)).1
            have p := (pow_u (unk g.now (iI x)).length (by omega)).2.1
            unfold cmA
            dsimp only at this
            omega
          rw [show (decide (g.bits u ≠ 0) && ltF (2 * (g.now.R + g.now.C)) (g.sheet u) 20 0) = true from hl, bn_true, if_pos (by decide), if_pos rfl, s1, cal_some, k1, cal2_some]
          generalize cmA g.now (unk g.now (iI x)) (g.sheet u) = X at *
          have en : (iI X.1 = 0) = ((X.1 : Int) = 0) := by rw [iI_zero]; exact iI_eq ⟨by omega, by omega⟩
          by_cases hn : X.1 ≠ 0
          · rw [if_pos (by rw [en]; omega), if_pos hn]
            have cb : ∀ j, cntB (X.2 j) 25 ≤ 25 := fun j => cntB_le 25
            obtain ⟨B, hB⟩ : ∃ B, B = bsF X.2 (2 * (g.now.R + g.now.C) - 1) 1 0 := ⟨_, rfl⟩
            rw [← hB]
            obtain ⟨N, hN⟩ : ∃ N : Nat, N = 1000000 := ⟨_, rfl⟩
            rw [← hN]
            refine lo2_t (fun f x11 x12 => ∃ j b : Nat, x11 = iI b ∧ x12 = iI j ∧ j + f = 2 * (g.now.R + g.now.C) ∧ b < 20 ∧ bsF X.2 f j b = B) (fun o => OPM h o (if z = 0 then iI B else iI (cntB (X.2 B) 25)) g) ?_ N (2 * (g.now.R + g.now.C) - 1) _ _ (by omega) ⟨1, 0, rfl, rfl, by omega, by omega, hB.symm⟩
            rintro f x11 x12 ⟨j, b, rfl, rfl, hf, hb20, hL⟩ Kc
            unfold f_X11_tells_k13
            have e3 : (iI (2 * (g.now.R + g.now.C) : Nat) ≤ iI j) = (((2 * (g.now.R + g.now.C) : Nat) : Int) ≤ j) := iI_le ⟨by omega, by omega⟩
            rw [m_windows k2.1.1, cal_some]
            by_cases hj : j = 2 * (g.now.R + g.now.C)
            · left
              have hs : B = b := by rw [← hL, show f = 0 by omega]; rfl
              rw [if_pos (by rw [e3]; omega), hs]
              refine ⟨_, rfl, ?_⟩
              by_cases z0 : z = 0
              · rw [if_neg (by rw [z0]; decide), if_pos z0]
                exact ⟨m2, rfl, k2, s3.tr k3⟩
              · rw [if_pos (by rw [iI_zero]; exact iI_ne hz (by omega) z0), if_neg z0, ald_i (by omega) (by omega), Int.toNat_natCast, k4 b hb20, bits_sl, cal_some]
                exact ⟨m2, rfl, k2, s3.tr k3⟩
            · right
              obtain ⟨f', rfl⟩ : ∃ f', f = f' + 1 := ⟨f - 1, by omega⟩
              rw [bsF_s] at hL
              have c1 := cb j
              have c2 := cb b
              have ec : (iI (cntB (X.2 j) 25) ≤ iI (cntB (X.2 b) 25)) = ((cntB (X.2 j) 25 : Int) ≤ cntB (X.2 b) 25) := iI_le ⟨by omega, by omega⟩
              rw [if_neg (by rw [e3]; omega), ald_i (by omega) (by omega), Int.toNat_natCast, k4 j (by omega), bits_sl, cal_some, ald_i (by omega) (by omega), Int.toNat_natCast, k4 b hb20, bits_sl, cal_some, join_eq]
              by_cases hle : cntB (X.2 j) 25 ≤ cntB (X.2 b) 25
              · rw [if_pos hle] at hL
                rw [if_pos (by rw [ec]; omega)]
                dsimp only
                rw [nm_eq, iI_add]
                exact ⟨f', _, _, Nat.lt_succ_self f', ⟨j + 1, b, rfl, rfl, by omega, hb20, hL⟩, rfl⟩
              · rw [if_neg hle] at hL
                rw [if_neg (by rw [ec]; omega)]
                dsimp only
                rw [nm_eq, iI_add]
                exact ⟨f', _, _, Nat.lt_succ_self f', ⟨j + 1, j, rfl, rfl, by omega, by omega, hL⟩, rfl⟩
          · rw [if_neg (by rw [en]; omega), if_neg hn, cal2_id]
            obtain ⟨m5, t1, t2, t3⟩ := c_errs k2 hg (e := 2) (by omega)
            exact ⟨m5, t1, t2, (s3.tr k3).tr t3⟩
      · rw [decide_eq_false e3, bn_false, if_neg (by decide), if_neg (fun q => e3 q.2.2)]
        exact c_errs hm hg (e := 1) (by omega)
    · rw [decide_eq_false e2, bn_false, if_pos (by decide), if_neg (fun q => e2 q.2.1)]
      exact c_errs hm hg (e := 1) (by omega)
  · rw [decide_eq_false e1, bn_false, if_pos (by decide), if_neg (fun q => e1 q.1)]
    exact c_errs hm hg (e := 1) (by omega)
theorem GV.tells {x y z : Int} (hg : GV g) : GV (spTells g x y z).2 := by
  unfold spTells
  by_cases e : (0 ≤ x ∧ x < (2 ^ (g.now.R * g.now.C) : Nat)) ∧ (0 ≤ y ∧ y ≤ 3) ∧ (0 ≤ z ∧ z ≤ 1)
  · rw [if_pos e]
    split
    · split
      · exact hg
      · exact hg.fail 2
    · exact hg.fail 2
  · rw [if_neg e]; exact hg.fail 1
end MTELLS
