section THRONE
variable {h : Mem} {g : GS}
def cz (s : WH) (q : Nat) : Int := (costV s q).toInt
theorem cz_i (s : WH) (q : Nat) : costV s q = iI (cz s q) ∧ -99 ≤ cz s q ∧ cz s q ≤ 99 := by
  obtain ⟨z, ez, z1, z2⟩ := lawV_b (s := s) (u := 0) (a := iI (q / s.C : Nat)) (b := iI (q % s.C : Nat)) (c := iI (s.M q))
  have ez' : costV s q = iI z := ez
  have : cz s q = z := by unfold cz; rw [ez', iI_toI (by omega)]
  rw [this]
  exact ⟨ez', z1, z2⟩
def flS (S : Nat → Bool) (q : Nat) : Nat → Bool := upB S q (!S q)
def litB (s : WH) (sq w : Nat) (S : Nat → Bool) : Bool := (ry s.R s.C s.K s.M w S s.T).2.2.2.2.2.1 sq
abbrev BST : Type := Option (Int × Int)
def ofr (b : BST) (wh c : Int) : BST := match b with
  | none => some (wh, c)
  | some (w0, c0) => if c0 ≤ c then some (w0, c0) else some (wh, c)
def oneF (s : WH) (sq w : Nat) : Nat → Nat → BST → BST
  | 0, _, b => b
  | f + 1, i, b => oneF s sq w f (i + 1) (if trn (s.K i) = true ∧ litB s sq w (flS s.S i) = true then ofr b (101 * (i : Int)) (cz s i) else b)
def twoI (s : WH) (sq w i : Nat) : Nat → Nat → BST → BST
  | 0, _, b => b
  | f + 1, j, b => twoI s sq w i f (j + 1) (if trn (s.K i) = true ∧ trn (s.K j) = true ∧ litB s sq w (flS (flS s.S i) j) = true then ofr b (100 * (i : Int) + (j : Int)) (cz s i + cz s j) else b)
theorem twoI_skip {s : WH} {sq w i : Nat} (ht : trn (s.K i) = false) : ∀ f j b, twoI s sq w i f j b = b
  | 0, _, _ => rfl
  | f + 1, j, b => by
    unfold twoI
    rw [if_neg (fun q => by rw [ht] at q; exact absurd q.1 (by decide))]
    exact twoI_skip ht f (j + 1) b
def twoF (s : WH) (sq w : Nat) : Nat → Nat → BST → BST
  | 0, _, b => b
  | f + 1, i, b => twoF s sq w f (i + 1) (twoI s sq w i f (i + 1) b)
def BOK (b : BST) : Prop := ∀ wh c, b = some (wh, c) → -198 ≤ c ∧ c ≤ 198
theorem BOK.off2 {b : BST} {wh c : Int} (hb : BOK b) (hc : -198 ≤ c ∧ c ≤ 198) : BOK (ofr b wh c) := fun wh' c' e => by
  unfold ofr at e
  cases b with
  | none =>
    have := Option.some.inj e
    obtain ⟨-, rfl⟩ := Prod.mk.inj this
    exact hc
  | some p =>
    obtain ⟨w0, c0⟩ := p
    dsimp only at e
    by_cases q : c0 ≤ c
    · rw [if_pos q] at e
      have := Option.some.inj e
      obtain ⟨-, rfl⟩ := Prod.mk.inj this
      exact hb w0 c0 rfl
    · rw [if_neg q] at e
      have := Option.some.inj e
      obtain ⟨-, rfl⟩ := Prod.mk.inj this
      exact hc
end THRONE
section THRONE2
variable {h : Mem} {g : GS}
theorem BOK.non : BOK none := fun wh c q => by cases q
theorem flS_VD {R C q : Nat} {M T L : Nat → Nat} {S : Nat → Bool} (hD : VD R C M S T L) (hq : q < R * C) : VD R C M (flS S q) T L :=
  ⟨hD.1, hD.2.1, fun p hp => ⟨by unfold flS upB; rw [if_neg (by omega)]; exact (hD.2.2 p hp).1, (hD.2.2 p hp).2⟩⟩
/-- the class's offer -/
def BSC (h : Mem) (n : Nat) (b : BST) : Prop := match b with
  | none => gI h 50 4 = iI 0
  | some (wh, c) => gI h 50 4 = iI n ∧ gI h 50 5 = iI wh ∧ gI h 50 6 = iI c
theorem BSC.cong {h2 : Mem} {n : Nat} {b : BST} (hb : BSC h n b) (e : ∀ k, gI h2 50 k = gI h 50 k) : BSC h2 n b := by
  cases b with
  | none => exact (e _).trans hb
  | some p => exact ⟨(e _).trans hb.1, (e _).trans hb.2.1, (e _).trans hb.2.2⟩
theorem c_offer {n : Nat} {b : BST} {wh c : Int} (hn : 1 ≤ n ∧ n ≤ 2) (hb : BSC h n b) (hok : BOK b) (hc : -198 ≤ c ∧ c ≤ 198) : ∃ h2, f_X4_offer h (iI n) (iI wh) (iI c) = some h2 ∧ BSC h2 n (ofr b wh c) ∧ (∀ x k, x ≠ 50 ∨ k < 4 → gI h2 x k = gI h x k) ∧ (∀ x k, gL h2 x k = gL h x k) := by
  unfold f_X4_offer
  have set : ∃ h2, (nm (sI h 50 4 (iI n)) fun h2 => nm (sI h2 50 5 (iI wh)) fun h3 => nm (sI h3 50 6 (iI c)) fun h4 => some h4) = some h2 ∧ BSC h2 n (some (wh, c)) ∧ (∀ x k, x ≠ 50 ∨ k < 4 → gI h2 x k = gI h x k) ∧ (∀ x k, gL h2 x k = gL h x k) := by
    rw [nm_eq, nm_eq, nm_eq]
    exact ⟨_, rfl, ⟨by rw [gI_ne (by omega), gI_ne (by omega), gI_same], by rw [gI_ne (by omega), gI_same], gI_same⟩, fun x k q => by rw [gI_ne (by omega), gI_ne (by omega), gI_ne (by omega)], fun _ _ => rfl⟩
  rw [join_eq]
  cases b with
  | none =>
    rw [show gI h 50 4 = iI 0 from hb, if_pos (by decide)]
    exact set
  | some p =>
    obtain ⟨w0, c0⟩ := p
    obtain ⟨b4, b5, b6⟩ := hb
    have hc0 := hok w0 c0 rfl
    have e : (iI c0 ≤ iI c) = (c0 ≤ c) := iI_le ⟨by omega, by omega⟩
    rw [b4, if_neg (by rw [iI_zero]; exact iI_ne (by omega) (by omega) (by omega)), b6]
    show ∃ h2, _ = some h2 ∧ BSC h2 n (if c0 ≤ c then some (w0, c0) else some (wh, c)) ∧ _
    by_cases q : c0 ≤ c
    · rw [if_pos (by rw [e]; exact q), if_pos q]
      exact ⟨h, rfl, ⟨b4, b5, b6⟩, fun _ _ _ => rfl, fun _ _ => rfl⟩
    · rw [if_neg (by rw [e]; exact q), if_neg q]
      exact set
/-- between the class's tries -/
def LDC (h m : Mem) (g : GS) (sq w : Nat) : Prop := CSt m g ∧ FM h m ∧ gI m 50 2 = iI sq ∧ gI m 50 3 = iI w ∧ ∃ S T L, HC m 51 g.now.R g.now.C g.now.K g.now.M S T L ∧ VD g.now.R g.now.C g.now.M S T L
theorem c_isLit {m : Mem} {sq w : Nat} {mask : Int32} {S' : Nat → Bool} (hg : GV g) (hl : LDC h m g sq w) (hsq : sq < 25) (hw : w < 2 * (g.now.R + g.now.C)) (hmask : slW g.now.S ^^^ mask = slW S') (hD : VD g.now.R g.now.C g.now.M S' g.now.T g.now.L) : ∃ m2, f_X4_isLit m 3 mask = some (bn (litB g.now sq w S'), m2) ∧ LDC h m2 g sq w ∧ (∀ k, gI m2 50 k = gI m 50 k) := by
  have hV := hg.1.1
  obtain ⟨hc, hF, l2, l3, S, T, L, hH, hDD⟩ := hl
  unfold f_X4_isLit
  have s5 : gI m 3 5 = slW g.now.S := hc.1.1.2.2.2.2.2.1
  have t6 : gL m 3 6 = tmW g.now.T := hc.1.1.2.2.2.2.2.2
  obtain ⟨w1, w2⟩ := w_stand (S' := S') (T' := g.now.T) hH
  obtain ⟨c2, f2⟩ := hc.standT (a := 51) (x := slW S') (y := tmW g.now.T) (by omega)
  obtain ⟨m3, r1, r2⟩ := w_ry (b := 55) hV (by omega) w2 (hD.of hDD) (win := w) hw
  obtain ⟨c3, f3⟩ := c2.ry r2 (by omega)
  obtain ⟨⟨L', hH', hD'⟩, -, r5, -, -, fr⟩ := r2
  have o : ∀ k, gI m3 50 k = gI m 50 k := fun k => (fr 50 k (by omega) (by omega) (by omega)).1.trans (by rw [gI_sL, gI_ne (by omega)])
  have g3 : gI (sL (sI m 51 5 (slW S')) 51 6 (tmW g.now.T)) 50 3 = iI w := (gI_ne (h := m) (a := 51) (k := 5) (v := slW S') (by omega)).trans l3
  rw [s5, t6, hmask, w1, cal_some, g3, r1, cal2_some, r5, o 2, l2, sl_get hsq]
  refine ⟨m3, ?_, ⟨c3, (hF.tr f2).tr f3, (o 2).trans l2, (o 3).trans l3, _, _, L', hH', hD'⟩, o⟩
  show _ = some (bn ((ry g.now.R g.now.C g.now.K g.now.M w S' g.now.T).2.2.2.2.2.1 sq), m3)
  cases (ry g.now.R g.now.C g.now.K g.now.M w S' g.now.T).2.2.2.2.2.1 sq
  · rw [if_pos (by decide), rZ0]; rfl
  · rw [if_neg (by decide), rZ1]; rfl
theorem LDC.cost {m : Mem} {sq w q : Nat} (hg : GV g) (hl : LDC h m g sq w) (hq : q < 25) : ∃ m2, f_X9_handCost m 2 (iI q) = some (iI (cz g.now q), m2) ∧ LDC h m2 g sq w ∧ (∀ k, gI m2 50 k = gI m 50 k) := by
  obtain ⟨hc, hF, l2, l3, S, T, L, hH, hDD⟩ := hl
  obtain ⟨m2, w1, w2, w3⟩ := w_cost hc.1 hg.1 hq
  rw [(cz_i g.now q).1] at w1
  exact ⟨m2, w1, ⟨hc.stk w2 w3, hF.tr fun x k q => ⟨w2 x k (by omega) (by omega), w3 x k⟩, (w2 _ _ (by omega) (by omega)).trans l2, (w2 _ _ (by omega) (by omega)).trans l3, S, T, L, hc_cong hH (fun x k q1 q2 => w2 x k (by omega) (by omega)) (w3 _ _), hDD⟩, fun k => w2 _ _ (by omega) (by omega)⟩
theorem LDC.off {m m2 : Mem} {sq w : Nat} (hl : LDC h m g sq w) (e : ∀ x k, x ≠ 50 ∨ k < 4 → gI m2 x k = gI m x k) (eL : ∀ x k, gL m2 x k = gL m x k) : LDC h m2 g sq w := by
  obtain ⟨hc, hF, l2, l3, S, T, L, hH, hDD⟩ := hl
  exact ⟨hc.keep (fun a k q => e a k (by omega)) (eL _ _) (eL _ _), hF.tr fun x k q => ⟨e x k (by omega), eL _ _⟩, (e _ _ (by omega)).trans l2, (e _ _ (by omega)).trans l3, S, T, L, hc_cong hH (fun x k q1 q2 => e x k (by omega)) (eL _ _), hDD⟩
theorem end_off {m : Mem} {n : Nat} {b : BST} (hn : 1 ≤ n ∧ n ≤ 2) (hb : BSC m n b) : (if gI m 50 4 ≤ 0 then rZ (iI 0) (some (iI 0, m)) else rZ (iI 1) (some (iI 1, m))) = some (bn b.isSome, m) := by
  cases b with
  | none => rw [show gI m 50 4 = iI 0 from hb, if_pos (by decide), rZ0]; rfl
  | some p =>
    have e : (iI n ≤ 0) = ((n : Int) ≤ 0) := by rw [iI_zero]; exact iI_le ⟨by omega, by omega⟩
    rw [hb.1, if_neg (by rw [e]; omega), rZ1]; rfl
theorem c_one {m0 : Mem} {sq w : Nat} (hg : GV g) (hl : LDC h m0 g sq w) (hsq : sq < 25) (hw : w < 2 * (g.now.R + g.now.C)) (h4 : gI m0 50 4 = iI 0) : ∃ m2, f_X4_leadByOne m0 2 = some (bn (oneF g.now sq w (g.now.R * g.now.C) 0 none).isSome, m2) ∧ LDC h m2 g sq w ∧ BSC m2 1 (oneF g.now sq w (g.now.R * g.now.C) 0 none) := by
  have hV := hg.1.1
  have h25 := sq_25 hV.2.1 hV.2.2.2.1
  unfold f_X4_leadByOne
  obtain ⟨X, hX⟩ : ∃ X, X = oneF g.now sq w (g.now.R * g.now.C) 0 none := ⟨_, rfl⟩
  rw [← hX]
  obtain ⟨N, hN⟩ : ∃ N : Nat, N = 1000000 := ⟨_, rfl⟩
  rw [← hN]
  refine lo2_t (fun f x1 m => ∃ (i : Nat) (b : BST), x1 = iI i ∧ i + f = g.now.R * g.now.C ∧ oneF g.now sq w f i b = X ∧ BOK b ∧ BSC m 1 b ∧ LDC h m g sq w) (fun o => ∃ m2, o = some (bn X.isSome, m2) ∧ LDC h m2 g sq w ∧ BSC m2 1 X) ?_ N (g.now.R * g.now.C) _ _ (by omega) ⟨0, none, rfl, by omega, hX.symm, BOK.non, h4, hl⟩
  rintro f x1 m ⟨i, b, rfl, hf, hA, hok, hb, hL⟩ Kc
  unfold f_X4_leadByOne_k3
  have e : (iI (g.now.R * g.now.C : Nat) ≤ iI i) = (((g.now.R * g.now.C : Nat) : Int) ≤ i) := iI_le ⟨by omega, by omega⟩
  rw [w_squares (a := 2 + 1) hL.1.1.1, cal_some]
  by_cases hi : i = g.now.R * g.now.C
  · left
    have hs : X = b := by rw [← hA, show f = 0 by omega]; rfl
    rw [if_pos (by rw [e]; omega), end_off (by omega) hb, hs]
    exact ⟨_, rfl, m, rfl, hL, hb⟩
  · right
    obtain ⟨f', rfl⟩ : ∃ f', f = f' + 1 := ⟨f - 1, by omega⟩
    unfold oneF at hA
    rw [if_neg (by rw [e]; omega), w_handCan (a := 2 + 1) hL.1.1.1 (hV.2.2.2.2.1 i) (by omega), cal_some, join_eq]
    have nxt : ∀ (b' : BST) (m9 : Mem), oneF g.now sq w f' (i + 1) b' = X → BOK b' → BSC m9 1 b' → LDC h m9 g sq w → ∃ f'' a' b'', f'' < f' + 1 ∧ (∃ (i : Nat) (b : BST), a' = iI i ∧ i + f'' = g.now.R * g.now.C ∧ oneF g.now sq w f'' i b = X ∧ BOK b ∧ BSC b'' 1 b ∧ LDC h b'' g sq w) ∧ (fun h6 => nm (iI (i : Int) + iI 1) fun x8 => Kc x8 h6) m9 = Kc a' b'' := fun b' m9 q1 q2 q3 q4 =>
      ⟨f', iI (i + 1 : Nat), m9, Nat.lt_succ_self f', ⟨i + 1, b', rfl, by omega, q1, q2, q3, q4⟩, by dsimp only; rw [nm_eq, iI_add]; rfl⟩
    cases ht : trn (g.now.K i)
    · rw [if_neg (fun q => by rw [ht] at q; exact absurd q.1 (by decide))] at hA
      rw [bn_false, if_pos (by decide)]
      exact nxt b m hA hok hb hL
    · obtain ⟨m2, r1, r2, r3⟩ := c_isLit (mask := shlI (iI 1) (iI i)) (S' := flS g.now.S i) hg hL hsq hw (sl_flip (by omega)) (flS_VD hg.1.2.1 (show i < _ by omega))
      rw [bn_true, if_neg (by decide), show (2 + 1 : Nat) = 3 from rfl, r1, cal2_some]
      cases hlit : litB g.now sq w (flS g.now.S i)
      · rw [if_neg (fun q => by rw [hlit] at q; exact absurd q.2 (by decide))] at hA
        rw [bn_false, if_pos (by decide)]
        exact nxt b m2 hA hok (hb.cong r3) r2
      · rw [if_pos ⟨ht, hlit⟩] at hA
        obtain ⟨m3, s1, s2, s3⟩ := r2.cost hg (q := i) (by omega)
        obtain ⟨c1, c2, c3⟩ := cz_i g.now i
        obtain ⟨m4, u1, u2, u3, u4⟩ := c_offer (wh := 101 * (i : Int)) (c := cz g.now i) (show 1 ≤ 1 ∧ 1 ≤ 2 by omega) ((hb.cong r3).cong s3) hok (by omega)
        rw [bn_true, if_neg (by decide), s1, cal2_some, iI_mul, iI_add, show (100 * (i : Int) + (i : Int)) = 101 * (i : Int) by omega, show (iI 1) = iI ((1 : Nat) : Int) from rfl, u1, cal_some]
        exact nxt _ m4 hA (hok.off2 (by omega)) u2 (s2.off u3 u4)
end THRONE2
