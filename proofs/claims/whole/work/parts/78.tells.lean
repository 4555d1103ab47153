section TELLSOP
variable {h : Mem} {g : GS}
abbrev OUS : Type := Nat → Nat → Bool
/-- the outs of all windows noted, those below n -/
def addN (s : WH) (S : Nat → Bool) (T : Nat → Nat) (O : OUS) (n : Nat) : OUS := fun j => if j < n then upB (O j) (min 20 (ry s.R s.C s.K s.M j S T).1) true else O j
def cmF (s : WH) (U : List Nat) (l : List Int32) : Nat → Nat → Nat × OUS → Nat × OUS
  | 0, _, a => a
  | f + 1, x, a => cmF s U l f (x + 1) (if (csF s l 20 0 (stU x U 0 s.S) s.T).1 = true then (a.1 + 1, addN s (csF s l 20 0 (stU x U 0 s.S) s.T).2.1 (csF s l 20 0 (stU x U 0 s.S) s.T).2.2 a.2 (2 * (s.R + s.C))) else a)
def cmA (s : WH) (U : List Nat) (l : List Int32) : Nat × OUS := cmF s U l (2 ^ U.length) 0 (0, fun _ _ => false)
theorem cmF_le {s : WH} {U : List Nat} {l : List Int32} : ∀ f x a, (cmF s U l f x a).1 ≤ a.1 + f ∧ a.1 ≤ (cmF s U l f x a).1
  | 0, _, _ => ⟨Nat.le_refl _, Nat.le_refl _⟩
  | f + 1, x, a => by
    unfold cmF
    split
    · obtain ⟨h1, h2⟩ := cmF_le (s := s) (U := U) (l := l) f (x + 1) (a.1 + 1, addN s (csF s l 20 0 (stU x U 0 s.S) s.T).2.1 (csF s l 20 0 (stU x U 0 s.S) s.T).2.2 a.2 (2 * (s.R + s.C)))
      have h1' := h1
      dsimp only at h1 h2
      exact ⟨by omega, by omega⟩
    · obtain ⟨h1, h2⟩ := cmF_le (s := s) (U := U) (l := l) f (x + 1) a
      exact ⟨by omega, h2⟩
theorem cmF_pos {s : WH} {U : List Nat} {l : List Int32} (hW : 0 < 2 * (s.R + s.C)) : ∀ f x a, (a.1 ≠ 0 → ∃ k, k < 25 ∧ a.2 0 k = true) → (cmF s U l f x a).1 ≠ 0 → ∃ k, k < 25 ∧ (cmF s U l f x a).2 0 k = true
  | 0, _, _, ha, hn => ha hn
  | f + 1, x, a, ha, hn => by
    unfold cmF at hn ⊢
    refine cmF_pos hW f (x + 1) _ (fun h1 => ?_) hn
    split
    · refine ⟨min 20 (ry s.R s.C s.K s.M 0 (csF s l 20 0 (stU x U 0 s.S) s.T).2.1 (csF s l 20 0 (stU x U 0 s.S) s.T).2.2).1, by omega, ?_⟩
      show addN s _ _ a.2 (2 * (s.R + s.C)) 0 _ = true
      unfold addN
      rw [if_pos hW, upB_same]
    · next hc => rw [if_neg hc] at h1; exact ha h1
theorem cntB_pos {X : Nat → Bool} : ∀ (n k : Nat), k < n → X k = true → 0 < cntB X n
  | 0, k, hk, _ => absurd hk (Nat.not_lt_zero k)
  | n + 1, k, hk, hx => by
    unfold cntB
    by_cases e : k = n
    · subst e; rw [hx]; show 0 < _ + 1; omega
    · have := cntB_pos n k (by omega) hx; omega
theorem cntB_le {X : Nat → Bool} : ∀ n, cntB X n ≤ n
  | 0 => Nat.le_refl _
  | n + 1 => by
    have := cntB_le (X := X) n
    unfold cntB
    have b1 : ∀ b : Bool, b.toNat ≤ 1 := by decide
    have := b1 (X n)
    omega
def bsF (O : OUS) : Nat → Nat → Nat → Nat
  | 0, _, b => b
  | f + 1, i, b => if cntB (O i) 25 ≤ cntB (O b) 25 then bsF O f (i + 1) b else bsF O f (i + 1) i
theorem bsF_s {O : OUS} {f i b : Nat} : bsF O (f + 1) i b = if cntB (O i) 25 ≤ cntB (O b) 25 then bsF O f (i + 1) b else bsF O f (i + 1) i := (rfl)
theorem c_fitting {u : Nat} {U : List Nat} {S : Nat → Bool} {T L : Nat → Nat} (hc : CSt h g) (hg : GV g) (hu : u < 4) (hlt : ltF (2 * (g.now.R + g.now.C)) (g.sheet u) 20 0 = true) (hH : HC h 57 g.now.R g.now.C g.now.K g.now.M S T L) (hDD : VD g.now.R g.now.C g.now.M S T L) (hB : DBC h g.now U) (hU : okU (g.now.R * g.now.C) U) :
    OPC h (f_X1_fitting h (64 + 2 * u)) (iI (cmA g.now U (g.sheet u)).1) g := by
  obtain ⟨pw, p32, p1⟩ := pow_u U.length (by have := hU.1; omega)
  unfold f_X1_fitting cmA
  obtain ⟨P, hP⟩ : ∃ P, P = 2 ^ U.length := ⟨_, rfl⟩
  rw [← hP] at pw p32 p1 ⊢
  obtain ⟨X, hX⟩ : ∃ X, X = cmF g.now U (g.sheet u) P 0 (0, fun _ _ => false) := ⟨_, rfl⟩
  rw [← hX]
  obtain ⟨N, hN⟩ : ∃ N : Nat, N = 1000000 := ⟨_, rfl⟩
  rw [← hN]
  refine lo3_t (fun f x1 x2 m => ∃ (i : Nat) (a : Nat × OUS) (S : Nat → Bool) (T L : Nat → Nat), x1 = iI a.1 ∧ x2 = iI i ∧ i + f = P ∧ cmF g.now U (g.sheet u) f i a = X ∧ CSt m g ∧ FM h m ∧ HC m 57 g.now.R g.now.C g.now.K g.now.M S T L ∧ VD g.now.R g.now.C g.now.M S T L ∧ DBC m g.now U) (fun o => OPC h o (iI X.1) g) ?_ N P _ _ _ (by omega) ⟨0, _, _, _, _, rfl, rfl, by omega, hX.symm, hc, fun _ _ _ => ⟨rfl, rfl⟩, hH, hDD, hB⟩
  rintro f x1 x2 m ⟨i, a, S, T, L, rfl, rfl, hf, hA, hcs, hF, hHm, hDm, hBm⟩ Kc
  unfold f_X1_fitting_k4
  have e : (iI P ≤ iI i) = ((P : Int) ≤ i) := iI_le ⟨by omega, by omega⟩
  have ch : f_X1_choices m = some (iI P) := by unfold f_X1_choices; rw [hBm.1, pw]
  rw [ch, cal_some]
  by_cases hi : i = P
  · left
    have hs : X = a := by rw [← hA, show f = 0 by omega]; rfl
    rw [if_pos (by rw [e]; omega), hs]
    exact ⟨_, rfl, m, rfl, hcs, hF⟩
  · right
    obtain ⟨f', rfl⟩ : ∃ f', f = f' + 1 := ⟨f - 1, by omega⟩
    unfold cmF at hA
    obtain ⟨m2, r1, r2, r3, ⟨L', r4, r5⟩, r6, r7⟩ := c_isFit (x := i) hcs hg hu hlt hHm hDm hBm hU
    rw [if_neg (by rw [e]; omega), r1, cal2_some, join_eq]
    cases hb : (csF g.now (g.sheet u) 20 0 (stU i U 0 g.now.S) g.now.T).1
    · rw [if_neg (by rw [hb]; decide)] at hA
      rw [bn_false, if_pos (by decide)]
      dsimp only
      rw [iI_add, nm_eq, nm_eq, iI_add, show (a.1 : Int) + 0 = (a.1 : Int) by omega]
      exact ⟨f', _, _, _, Nat.lt_succ_self f', ⟨i + 1, a, _, _, L', rfl, rfl, by omega, hA, r2, hF.tr r3, r4, r5, r6⟩, rfl⟩
    · rw [if_pos hb] at hA
      rw [bn_true, if_neg (by decide)]
      dsimp only
      rw [iI_add, nm_eq, nm_eq, iI_add]
      exact ⟨f', _, _, _, Nat.lt_succ_self f', ⟨i + 1, _, _, _, L', rfl, rfl, by omega, hA, r2, hF.tr r3, r4, r5, r6⟩, rfl⟩
/-- the class notes all outs -/
theorem c_noteOuts {U : List Nat} {S : Nat → Bool} {T L : Nat → Nat} {O : OUS} (hc : CSt h g) (hg : GV g) (hH : HC h 57 g.now.R g.now.C g.now.K g.now.M S T L) (hDD : VD g.now.R g.now.C g.now.M S T L) (hB : DBC h g.now U) (hO : ∀ j, j < 20 → gI h 63 j = slW (O j)) :
    ∃ h2, f_X1_noteOuts h = some h2 ∧ CSt h2 g ∧ FM h h2 ∧ (∃ S T L, HC h2 57 g.now.R g.now.C g.now.K g.now.M S T L ∧ VD g.now.R g.now.C g.now.M S T L) ∧ DBC h2 g.now U ∧ (∀ j, j < 20 → gI h2 63 j = slW (addN g.now S T O (2 * (g.now.R + g.now.C)) j)) := by
  have hV := hg.1.1
  have v1 := hV.2.1
  have v2 := hV.2.2.2.1
  unfold f_X1_noteOuts
  rw [hH.2.2.2.2.2.1, nm_eq, hH.2.2.2.2.2.2, nm_eq]
  obtain ⟨N, hN⟩ : ∃ N : Nat, N = 1000000 := ⟨_, rfl⟩
  rw [← hN]
  refine lo2_t (fun f x3 m => ∃ (i : Nat) (S' : Nat → Bool) (T' L' : Nat → Nat), x3 = iI i ∧ i + f = 2 * (g.now.R + g.now.C) ∧ CSt m g ∧ FM h m ∧ HC m 57 g.now.R g.now.C g.now.K g.now.M S' T' L' ∧ VD g.now.R g.now.C g.now.M S' T' L' ∧ DBC m g.now U ∧ (∀ j, j < 20 → gI m 63 j = slW (addN g.now S T O i j))) (fun o => ∃ h2, o = some h2 ∧ CSt h2 g ∧ FM h h2 ∧ (∃ S T L, HC h2 57 g.now.R g.now.C g.now.K g.now.M S T L ∧ VD g.now.R g.now.C g.now.M S T L) ∧ DBC h2 g.now U ∧ (∀ j, j < 20 → gI h2 63 j = slW (addN g.now S T O (2 * (g.now.R + g.now.C)) j))) ?_ N (2 * (g.now.R + g.now.C)) _ _ (by omega) ⟨0, _, _, _, rfl, by omega, hc, fun _ _ _ => ⟨rfl, rfl⟩, hH, hDD, hB, fun j hj => by rw [hO j hj]; unfold addN; rw [if_neg (Nat.not_lt_zero j)]⟩
  rintro f x3 m ⟨i, S', T', L', rfl, hf, hcs, hF, hHm, hDm, hBm, hOm⟩ Kc
  unfold f_X1_noteOuts_k5
  have e : (iI (2 * (g.now.R + g.now.C) : Nat) ≤ iI i) = (((2 * (g.now.R + g.now.C) : Nat) : Int) ≤ i) := iI_le ⟨by omega, by omega⟩
  have e20 : (iI 20 ≤ iI i) = ((20 : Int) ≤ i) := iI_le ⟨by omega, by omega⟩
  rw [w_windows hHm, cal_some]
  by_cases hi : i = 2 * (g.now.R + g.now.C)
  · left
    rw [if_pos (by rw [e]; omega)]
    rw [hi] at hOm
    exact ⟨_, rfl, m, rfl, hcs, hF, ⟨_, _, _, hHm, hDm⟩, hBm, hOm⟩
  · right
    obtain ⟨s1, s2⟩ := w_stand (S' := S) (T' := T) hHm
    obtain ⟨c2, f2⟩ := hcs.standT (a := 57) (x := slW S) (y := tmW T) (by omega)
    obtain ⟨m3, r1, r2⟩ := w_ry (b := 61) hV (by omega) s2 (hDD.of hDm) (win := i) (by omega)
    obtain ⟨c3, f3⟩ := c2.ry r2 (by omega)
    obtain ⟨⟨L3, hH3, hD3⟩, -, -, -, -, fr⟩ := r2
    have o : ∀ a k, a = 56 ∨ a = 62 ∨ a = 63 → gI m3 a k = gI m a k := fun a k q => (fr a k (by omega) (by omega) (by omega)).1.trans (gI_ne (h := m) (a := 57) (k := 5) (v := slW S) (by omega))
    have hb := ry_b (S := S) (T := T) hV (show i < 2 * (g.now.R + g.now.C) by omega)
    have g63 : gI (sL (sI m 57 5 (slW S)) 57 6 (tmW T)) 63 i = slW (O i) := by
      rw [gI_sL, gI_ne (by omega), hOm i (by omega)]; unfold addN; rw [if_neg (Nat.lt_irrefl i)]
    rw [if_neg (by rw [e]; omega), if_neg (by rw [e20]; omega), s1, cal_some, ald_i (by omega) (by omega), Int.toNat_natCast, g63, r1, cal2_some, ast_i (by omega) (by omega), Int.toNat_natCast, mnI_i ⟨by omega, by omega⟩, show min (20 : Int) ((ry g.now.R g.now.C g.now.K g.now.M i S T).1 : Int) = ((min 20 (ry g.now.R g.now.C g.now.K g.now.M i S T).1 : Nat) : Int) by omega, or_bit (by omega), nm_eq, iI_add]
    refine ⟨f - 1, _, _, by omega, ⟨i + 1, _, _, L3, rfl, by omega, c3.keep (fun a k q => gI_ne (by omega)) rfl rfl, ((hF.tr f2).tr f3).tr fun a k q => ⟨gI_ne (by omega), rfl⟩, hc_far hH3 (by omega), hD3, (hBm.cong (fun x k q => o x k (by omega)) ((fr 56 5 (by omega) (by omega) (by omega)).2.trans (gL_ne (by omega)))).cong (fun x k q => gI_ne (by omega)) rfl, fun j hj => ?_⟩, rfl⟩
    by_cases hj2 : j = i
    · rw [hj2, gI_same]; unfold addN; rw [if_pos (Nat.lt_succ_self i)]
    · rw [gI_ne (by omega), o 63 j (by omega), hOm j hj]
      unfold addN
      by_cases hji : j < i
      · rw [if_pos hji, if_pos (by omega)]
      · rw [if_neg hji, if_neg (by omega)]
theorem c_findTelling {u : Nat} {U : List Nat} {S : Nat → Bool} {T L : Nat → Nat} (hc : CSt h g) (hg : GV g) (hu : u < 4) (hlt : ltF (2 * (g.now.R + g.now.C)) (g.sheet u) 20 0 = true) (hH : HC h 57 g.now.R g.now.C g.now.K g.now.M S T L) (hDD : VD g.now.R g.now.C g.now.M S T L) (hB : DBC h g.now U) (hU : okU (g.now.R * g.now.C) U) :
    ∃ h2, f_X1_findTelling h (64 + 2 * u) = some (bn (decide ((cmA g.now U (g.sheet u)).1 ≠ 0)), h2) ∧ CSt h2 g ∧ FM h h2 ∧ ((cmA g.now U (g.sheet u)).1 ≠ 0 → gI h2 56 9 = iI (bsF (cmA g.now U (g.sheet u)).2 (2 * (g.now.R + g.now.C) - 1) 1 0) ∧ gI h2 56 10 = iI (cntB ((cmA g.now U (g.sheet u)).2 (bsF (cmA g.now U (g.sheet u)).2 (2 * (g.now.R + g.now.C) - 1) 1 0)) 25)) := by
  have hV := hg.1.1
  have v0 := hV.1
  have v1 := hV.2.1
  have v2 := hV.2.2.2.1
  obtain ⟨pw, p32, p1⟩ := pow_u U.length (by have := hU.1; omega)
  have hpos := cmF_pos (s := g.now) (U := U) (l := g.sheet u) (by omega) (2 ^ U.length) 0 (0, fun _ _ => false) (fun q => absurd rfl q)
  unfold f_X1_findTelling cmA
  obtain ⟨P, hP⟩ : ∃ P, P = 2 ^ U.length := ⟨_, rfl⟩
  rw [← hP] at pw p32 p1 hpos ⊢
  obtain ⟨X, hX⟩ : ∃ X, X = cmF g.now U (g.sheet u) P 0 (0, fun _ _ => false) := ⟨_, rfl⟩
  have hXP : X.1 ≤ 32 := by rw [hX]; have := (cmF_le (s := g.now) (U := U) (l := g.sheet u) P 0 (0, fun _ _ => false)).1; dsimp only at this; omega
  rw [← hX] at hpos ⊢
  obtain ⟨m0, a1, a2, a3, a4⟩ := w_fill (h := h) (q := 63) (n := 20) (v := iI 0) (by omega)
  rw [a1, cal_some]
  obtain ⟨N, hN⟩ : ∃ N : Nat, N = 1000000 := ⟨_, rfl⟩
  rw [← hN]
  refine lo3_t (fun f x2 x3 m => ∃ (i : Nat) (a : Nat × OUS) (S : Nat → Bool) (T L : Nat → Nat), x2 = bn (decide (a.1 ≠ 0)) ∧ x3 = iI i ∧ i + f = P ∧ cmF g.now U (g.sheet u) f i a = X ∧ (∀ j, j < 20 → gI m 63 j = slW (a.2 j)) ∧ CSt m g ∧ FM h m ∧ HC m 57 g.now.R g.now.C g.now.K g.now.M S T L ∧ VD g.now.R g.now.C g.now.M S T L ∧ DBC m g.now U) (fun o => ∃ h2, o = some (bn (decide (X.1 ≠ 0)), h2) ∧ CSt h2 g ∧ FM h h2 ∧ (X.1 ≠ 0 → gI h2 56 9 = iI (bsF X.2 (2 * (g.now.R + g.now.C) - 1) 1 0) ∧ gI h2 56 10 = iI (cntB (X.2 (bsF X.2 (2 * (g.now.R + g.now.C) - 1) 1 0)) 25))) ?_ N P _ _ _ (by omega) ⟨0, _, _, _, _, rfl, rfl, by omega, hX.symm, fun j hj => by rw [a4 j hj, sl_zero], hc.keep (fun a k q => a2 a k (by omega)) (a3 _ _) (a3 _ _), fun a k q => ⟨a2 a k (by omega), a3 _ _⟩, hc_cong hH (fun x k q1 q2 => a2 x k (by omega)) (a3 _ _), hDD, hB.cong (fun x k q => a2 x k (by omega)) (a3 _ _)⟩
  rintro f x2 x3 m ⟨i, a, S, T, L, rfl, rfl, hf, hA, hO, hcs, hF, hHm, hDm, hBm⟩ Kc
  unfold f_X1_findTelling_k5
  have e : (iI P ≤ iI i) = ((P : Int) ≤ i) := iI_le ⟨by omega, by omega⟩
  have ch : f_X1_choices m = some (iI P) := by unfold f_X1_choices; rw [hBm.1, pw]
  rw [ch, cal_some]
  by_cases hi : i = P
  · left
    have hs : a = X := by rw [← hA, show f = 0 by omega]; rfl
    rw [hs] at hO
    rw [if_pos (by rw [e]; omega), nm_eq, nm_eq, hs]
    refine ⟨_, rfl, ?_⟩
    have cb : ∀ j, cntB (X.2 j) 25 ≤ 25 := fun j => cntB_le 25
    refine lo2_t (fun f x9 mm => ∃ (j b v : Nat), x9 = iI j ∧ j + f = 2 * (g.now.R + g.now.C) ∧ b ≤ 20 ∧ v ≤ 25 ∧ gI mm 56 9 = iI b ∧ gI mm 56 10 = iI v ∧ ((j = 0 ∧ v = 0) ∨ (X.1 ≠ 0 → 1 ≤ j ∧ v = cntB (X.2 b) 25 ∧ bsF X.2 f j b = bsF X.2 (2 * (g.now.R + g.now.C) - 1) 1 0)) ∧ (∀ j, j < 20 → gI mm 63 j = slW (X.2 j)) ∧ CSt mm g ∧ FM h mm ∧ gI mm 57 0 = iI g.now.R ∧ gI mm 57 1 = iI g.now.C) (fun o => ∃ h2, o = some (bn (decide (X.1 ≠ 0)), h2) ∧ CSt h2 g ∧ FM h h2 ∧ (X.1 ≠ 0 → gI h2 56 9 = iI (bsF X.2 (2 * (g.now.R + g.now.C) - 1) 1 0) ∧ gI h2 56 10 = iI (cntB (X.2 (bsF X.2 (2 * (g.now.R + g.now.C) - 1) 1 0)) 25))) ?_ 1000000 (2 * (g.now.R + g.now.C)) _ _ (by omega) ⟨0, 0, 0, rfl, by omega, by omega, by omega, (gI_ne (by omega)).trans gI_same, gI_same, Or.inl ⟨rfl, rfl⟩, fun j hj => by rw [gI_ne (by omega), gI_ne (by omega)]; exact hO j hj, hcs.keep (fun a k q => by rw [gI_ne (by omega), gI_ne (by omega)]) rfl rfl, hF.tr fun a k q => ⟨by rw [gI_ne (by omega), gI_ne (by omega)], rfl⟩, by rw [gI_ne (by omega), gI_ne (by omega)]; exact hHm.1, by rw [gI_ne (by omega), gI_ne (by omega)]; exact hHm.2.1⟩
    rintro f x9 mm ⟨j, b, v, rfl, hf2, hb20, hv25, d9, d10, hmode, hO2, hcs2, hF2, hR2, hC2⟩ Kc2
    unfold f_X1_findTelling_k11
    have e3 : (iI (2 * (g.now.R + g.now.C) : Nat) ≤ iI j) = (((2 * (g.now.R + g.now.C) : Nat) : Int) ≤ j) := iI_le ⟨by omega, by omega⟩
    have e20 : (iI 20 ≤ iI j) = ((20 : Int) ≤ j) := iI_le ⟨by omega, by omega⟩
    have hwin : f_X3_windows mm 57 = some (iI (2 * (g.now.R + g.now.C) : Nat)) := by
      unfold f_X3_windows
      rw [hR2, hC2, iI_add, iI_mul]; rfl
    rw [hwin, cal_some]
    by_cases hj : j = 2 * (g.now.R + g.now.C)
    · left
      rw [if_pos (by rw [e3]; omega), rZbn]
      refine ⟨_, rfl, mm, rfl, hcs2, hF2, fun hX1 => ?_⟩
      rcases hmode with ⟨q1, q2⟩ | q
      · omega
      · obtain ⟨-, q2, q3⟩ := q hX1
        have : bsF X.2 f j b = b := by rw [show f = 0 by omega]; rfl
        rw [← q3, this, d9, d10, q2]
        exact ⟨rfl, rfl⟩
    · right
      obtain ⟨f', rfl⟩ : ∃ f', f = f' + 1 := ⟨f - 1, by omega⟩
      have hcb := cb j
      have ec : (iI (cntB (X.2 j) 25) ≤ iI v) = ((cntB (X.2 j) 25 : Int) ≤ v) := iI_le ⟨by omega, by omega⟩
      rw [if_neg (by rw [e3]; omega), if_neg (by rw [e20]; omega), ald_i (by omega) (by omega), Int.toNat_natCast, hO2 j (by omega), pop_sl, cal_some, join_eq, d10]
      have h0 : X.1 ≠ 0 → 0 < cntB (X.2 0) 25 := fun hX1 => by
        obtain ⟨k, k1, k2⟩ := hpos hX1
        exact cntB_pos 25 k k1 k2
      by_cases hle : cntB (X.2 j) 25 ≤ v
      · rw [if_pos (by rw [ec]; omega)]
        dsimp only
        rw [nm_eq, iI_add]
        refine ⟨f', _, _, Nat.lt_succ_self f', ⟨j + 1, b, v, rfl, by omega, hb20, hv25, d9, d10, Or.inr fun hX1 => ?_, hO2, hcs2, hF2, hR2, hC2⟩, rfl⟩
        rcases hmode with ⟨q1, q2⟩ | q
        · have := h0 hX1; rw [q1] at hle; omega
        · obtain ⟨w1, w2, w3⟩ := q hX1
          rw [bsF_s] at w3
          rw [if_pos (by omega)] at w3
          exact ⟨by omega, w2, w3⟩
      · rw [if_neg (by rw [ec]; omega), nm_eq, nm_eq]
        dsimp only
        rw [nm_eq, iI_add]
        refine ⟨f', _, _, Nat.lt_succ_self f', ⟨j + 1, j, cntB (X.2 j) 25, rfl, by omega, by omega, hcb, gI_same, (gI_ne (by omega)).trans gI_same, Or.inr fun hX1 => ?_, fun j2 hj2 => by rw [gI_ne (by omega), gI_ne (by omega)]; exact hO2 j2 hj2, hcs2.keep (fun a k q => by rw [gI_ne (by omega), gI_ne (by omega)]) rfl rfl, hF2.tr fun a k q => ⟨by rw [gI_ne (by omega), gI_ne (by omega)], rfl⟩, by rw [gI_ne (by omega), gI_ne (by omega)]; exact hR2, by rw [gI_ne (by omega), gI_ne (by omega)]; exact hC2⟩, rfl⟩
        rcases hmode with ⟨q1, q2⟩ | q
        · subst q1
          exact ⟨by omega, rfl, by rw [show f' = 2 * (g.now.R + g.now.C) - 1 by omega]⟩
        · obtain ⟨w1, w2, w3⟩ := q hX1
          rw [bsF_s] at w3
          rw [if_neg (by omega)] at w3
          exact ⟨by omega, rfl, w3⟩
  · right
    obtain ⟨f', rfl⟩ : ∃ f', f = f' + 1 := ⟨f - 1, by omega⟩
    unfold cmF at hA
    obtain ⟨m2, r1, r2, r3, ⟨L', r4, r5⟩, r6, r7⟩ := c_isFit (x := i) hcs hg hu hlt hHm hDm hBm hU
    have hO2 : ∀ j, j < 20 → gI m2 63 j = slW (a.2 j) := fun j hj => (r7 j).trans (hO j hj)
    rw [if_neg (by rw [e]; omega), r1, cal2_some, join_eq]
    cases hb : (csF g.now (g.sheet u) 20 0 (stU i U 0 g.now.S) g.now.T).1
    · rw [if_neg (by rw [hb]; decide)] at hA
      rw [bn_false, if_pos (by decide)]
      dsimp only
      rw [nm_eq, iI_add]
      exact ⟨f', _, _, _, Nat.lt_succ_self f', ⟨i + 1, a, _, _, L', rfl, rfl, by omega, hA, hO2, r2, hF.tr r3, r4, r5, r6⟩, rfl⟩
    · rw [if_pos hb] at hA
      obtain ⟨m3, n1, n2, n3, ⟨S4, T4, L4, n4, n5⟩, n6, n7⟩ := c_noteOuts r2 hg r4 r5 r6 hO2
      rw [bn_true, if_neg (by decide), n1, cal_some]
      dsimp only
      rw [nm_eq, iI_add]
      exact ⟨f', _, _, _, Nat.lt_succ_self f', ⟨i + 1, _, S4, T4, L4, by rw [show decide ((a.1 + 1, addN g.now (csF g.now (g.sheet u) 20 0 (stU i U 0 g.now.S) g.now.T).2.1 (csF g.now (g.sheet u) 20 0 (stU i U 0 g.now.S) g.now.T).2.2 a.2 (2 * (g.now.R + g.now.C))).1 ≠ 0) = true from decide_eq_true (Nat.succ_ne_zero _)]; rfl, rfl, by omega, hA, n7, n2, (hF.tr r3).tr n3, n4, n5, n6⟩, rfl⟩
end TELLSOP
