section HADOP
abbrev STD : Type := (Nat → Bool) × (Nat → Nat)
/-- a standing noted -/
def ntL (n : Nat) (l : List STD) (S : Nat → Bool) (T : Nat → Nat) : List STD := if l.any (fun e => smS n e.1 e.2 S T) = true then l else if 201 ≤ l.length then l else l ++ [(S, T)]
def hadW (s : WH) (S : Nat → Bool) (T : Nat → Nat) : Nat → Nat → List STD → List STD
  | 0, _, l => l
  | f + 1, i, l => if 200 < l.length then l else hadW s S T f (i + 1) (ntL (s.R * s.C) l (ry s.R s.C s.K s.M i S T).2.1 (ry s.R s.C s.K s.M i S T).2.2.1)
def hadF (s : WH) : Nat → Nat → List STD → List STD
  | 0, _, l => l
  | f + 1, i, l => if i < l.length then hadF s f (i + 1) (hadW s (l.getD i (s.S, s.T)).1 (l.getD i (s.S, s.T)).2 (2 * (s.R + s.C)) 0 l) else l
theorem hadF_full {s : WH} {l : List STD} (hl : 200 < l.length) : ∀ f i, hadF s f i l = l
  | 0, _ => rfl
  | f + 1, i => by
    unfold hadF
    have e : ∀ (S : Nat → Bool) (T : Nat → Nat) (n : Nat), hadW s S T n 0 l = l := fun S T n => by
      cases n with
      | zero => rfl
      | succ n => unfold hadW; rw [if_pos hl]
    rw [e]
    split
    · exact hadF_full hl f (i + 1)
    · rfl
def okL (R C : Nat) (M : Nat → Nat) (l : List STD) : Prop := l.length ≤ 201 ∧ ∀ e, e ∈ l → VD R C M e.1 e.2 (fun _ => 0)
theorem VD.z {R C : Nat} {M T L : Nat → Nat} {S : Nat → Bool} (hD : VD R C M S T L) : VD R C M S T (fun _ => 0) := ⟨hD.1, fun _ => Nat.zero_le _, hD.2.2⟩
theorem ntL_ok {R C n : Nat} {M T L : Nat → Nat} {S : Nat → Bool} {l : List STD} (ho : okL R C M l) (hD : VD R C M S T L) : okL R C M (ntL n l S T) := by
  unfold ntL
  split
  · exact ho
  · split
    · exact ho
    · refine ⟨by rw [List.length_append]; show l.length + 1 ≤ 201; omega, fun e he => ?_⟩
      rcases List.mem_append.mp he with q | q
      · exact ho.2 e q
      · rw [List.mem_singleton.mp q]; exact hD.z
/-- standings in the class's lists, the model's -/
def NLC (h : Mem) (l : List STD) : Prop := gI h 39 7 = iI l.length ∧ ∀ k (hk : k < l.length), gI h 48 k = slW l[k].1 ∧ gL h 49 k = tmW l[k].2
def NLM (h : Mem) (l : List STD) : Prop := gI h 72 31 = iI l.length ∧ ∀ k (hk : k < l.length), gI h 80 k = slW l[k].1 ∧ gL h 81 k = tmW l[k].2
theorem getElem_snoc {α : Type} {l : List α} {x : α} {k : Nat} (hk : k < (l ++ [x]).length) (P : α → Prop) (h1 : ∀ h : k < l.length, P l[k]) (h2 : k = l.length → P x) : P (l ++ [x])[k] := by
  by_cases e : k < l.length
  · rw [List.getElem_append_left e]; exact h1 e
  · have hk2 : k = l.length := by rw [List.length_append] at hk; have : k < l.length + 1 := hk; omega
    subst hk2
    rw [List.getElem_append_right (Nat.le_refl _)]
    simpa using h2 rfl
variable {h : Mem} {g : GS} {R C : Nat} {K M T L : Nat → Nat} {S : Nat → Bool}
theorem any_take {l : List STD} {p : STD → Bool} {i : Nat} (hi : i < l.length) : (l.take (i + 1)).any p = ((l.take i).any p || p l[i]) := by
  rw [List.take_succ_eq_append_getElem hi, List.any_append]
  simp
theorem w_note {l : List STD} (hH : HC h 40 R C K M S T L) (hD : VD R C M S T L) (h25 : R * C ≤ 25) (hN : NLC h l) (ho : okL R C M l) :
    ∃ h2, f_X2_note h = some h2 ∧ NLC h2 (ntL (R * C) l S T) ∧ (∀ x k, x ≠ 48 → (x ≠ 39 ∨ k ≠ 7) → gI h2 x k = gI h x k) ∧ (∀ x k, x ≠ 49 → gL h2 x k = gL h x k) := by
  have h201 := ho.1
  unfold f_X2_note
  obtain ⟨N, hNN⟩ : ∃ N : Nat, N = 1000000 := ⟨_, rfl⟩
  rw [← hNN]
  refine lo1_t (fun f x1 => ∃ i : Nat, x1 = iI i ∧ i + f = l.length ∧ (l.take i).any (fun e => smS (R * C) e.1 e.2 S T) = false) (fun o => ∃ h2, o = some h2 ∧ NLC h2 (ntL (R * C) l S T) ∧ (∀ x k, x ≠ 48 → (x ≠ 39 ∨ k ≠ 7) → gI h2 x k = gI h x k) ∧ (∀ x k, x ≠ 49 → gL h2 x k = gL h x k)) ?_ N l.length _ (by omega) ⟨0, rfl, by omega, rfl⟩
  rintro f x1 ⟨i, rfl, hf, hany⟩ Kc
  unfold f_X2_note_k2
  have e1 : (iI l.length ≤ iI i) = ((l.length : Int) ≤ i) := iI_le ⟨by omega, by omega⟩
  have e2 : (Int32.ofNat 201 ≤ iI i) = ((201 : Int) ≤ i) := by rw [iI_nat]; exact iI_le ⟨by omega, by omega⟩
  have e3 : (Int32.ofNat 201 ≤ iI l.length) = ((201 : Int) ≤ l.length) := by rw [iI_nat]; exact iI_le ⟨by omega, by omega⟩
  rw [join_eq, hN.1]
  by_cases hi : i = l.length
  · left
    rw [if_pos (by rw [e1]; omega)]
    rw [hi, List.take_length] at hany
    refine ⟨_, rfl, ?_⟩
    unfold f_X2_note_k3 ntL
    rw [hN.1, if_neg (show ¬ (l.any fun e => smS (R * C) e.1 e.2 S T) = true by rw [hany]; decide)]
    by_cases hfull : 201 ≤ l.length
    · rw [if_pos (by rw [e3]; omega), if_pos hfull]
      exact ⟨h, rfl, hN, fun _ _ _ _ => rfl, fun _ _ _ => rfl⟩
    · rw [if_neg (by rw [e3]; omega), if_neg hfull, ast_i (by omega) (by omega), Int.toNat_natCast, gI_ne (by omega), hN.1, astL_i (by omega) (by omega), Int.toNat_natCast, nm_eq, gI_sL, gI_ne (by omega), hN.1, iI_add, hH.2.2.2.2.2.1, show gL (sI h 48 l.length (slW S)) 40 6 = tmW T from hH.2.2.2.2.2.2]
      refine ⟨_, rfl, ⟨?_, fun k hk => ?_⟩, fun x k q1 q2 => ?_, fun x k q => ?_⟩
      · rw [gI_same, List.length_append]; rfl
      · refine getElem_snoc hk (fun e => gI _ 48 k = slW e.1 ∧ gL _ 49 k = tmW e.2) (fun hk2 => ?_) (fun hk2 => ?_)
        · obtain ⟨a1, a2⟩ := hN.2 k hk2
          exact ⟨by rw [gI_ne (by omega), gI_sL, gI_ne (by omega)]; exact a1, by rw [gL_sI, gL_ne (by omega), gL_sI]; exact a2⟩
        · subst hk2
          exact ⟨by rw [gI_ne (by omega), gI_sL, gI_same], by rw [gL_sI, gL_same]⟩
      · rw [gI_ne (by omega), gI_sL, gI_ne (by omega)]
      · rw [gL_sI, gL_ne (by omega), gL_sI]
  · have hil : i < l.length := by omega
    obtain ⟨a1, a2⟩ := hN.2 i hil
    have hDi := ho.2 _ (List.getElem_mem hil)
    have hsm := smS_w (M := M) (M' := M) (L := fun _ => 0) (L' := L) hDi hD h25
    rw [if_neg (by rw [e1]; omega), if_neg (by rw [e2]; omega), ald_i (by omega) (by omega), Int.toNat_natCast, a1, hH.2.2.2.2.2.1, join_eq, aldL_i (by omega) (by omega), Int.toNat_natCast, a2, hH.2.2.2.2.2.2]
    have nxt : smS (R * C) l[i].1 l[i].2 S T = false → ∃ f' a', f' < f ∧ (∃ i : Nat, a' = iI i ∧ i + f' = l.length ∧ (l.take i).any (fun e => smS (R * C) e.1 e.2 S T) = false) ∧ (nm (iI (i : Int) + iI 1) fun x9 => Kc x9) = Kc a' := fun hs => by
      refine ⟨f - 1, iI (i + 1 : Nat), by omega, ⟨i + 1, rfl, by omega, ?_⟩, by rw [nm_eq, iI_add]; rfl⟩
      rw [any_take hil, hany, hs]; rfl
    by_cases b1 : slW l[i].1 = slW S
    · rw [if_neg (fun z => z b1)]
      by_cases b2 : tmW l[i].2 = tmW T
      · left
        rw [if_neg (fun z => z (by rw [lg_cmp0]; exact b2))]
        refine ⟨_, rfl, h, rfl, ?_, fun _ _ _ _ => rfl, fun _ _ _ => rfl⟩
        have : (l.any fun e => smS (R * C) e.1 e.2 S T) = true := List.any_eq_true.mpr ⟨l[i], List.getElem_mem hil, by rw [hsm]; exact decide_eq_true ⟨b1, b2⟩⟩
        unfold ntL
        rw [if_pos this]
        exact hN
      · right
        rw [if_pos (by rw [lg_cmp0]; exact b2)]
        exact nxt (by rw [hsm]; exact decide_eq_false (fun z => b2 z.2))
    · right
      rw [if_pos b1]
      exact nxt (by rw [hsm]; exact decide_eq_false (fun z => b1 z.1))
theorem m_meets {l : List STD} (hH : RM h 73 R C K M S T L) (hV : VS R C K M) (hD : VD R C M S T L) (hN : NLM h l) (ho : okL R C M l) :
    ∃ h2, f_X11_meets h = some h2 ∧ NLM h2 (ntL (R * C) l S T) ∧ (∀ x k, x ≠ 80 → (x ≠ 72 ∨ k ≠ 31) → gI h2 x k = gI h x k) ∧ (∀ x k, x ≠ 81 → gL h2 x k = gL h x k) := by
  have h201 := ho.1
  have h25 := sq_25 hV.2.1 hV.2.2.2.1
  unfold f_X11_meets
  rw [m_slantBits hH hV hD, cal_some, m_timeBits hH hV hD, cal_some, join_eq, hN.1]
  have e200 : (iI l.length ≤ iI 200) = ((l.length : Int) ≤ 200) := iI_le ⟨by omega, by omega⟩
  obtain ⟨N, hNN⟩ : ∃ N : Nat, N = 1000000 := ⟨_, rfl⟩
  rw [← hNN]
  have same : ∃ h2, some h = some h2 ∧ NLM h2 l ∧ (∀ x k, x ≠ 80 → (x ≠ 72 ∨ k ≠ 31) → gI h2 x k = gI h x k) ∧ (∀ x k, x ≠ 81 → gL h2 x k = gL h x k) := ⟨h, rfl, hN, fun _ _ _ _ => rfl, fun _ _ _ => rfl⟩
  have k8 : f_X11_meets_k8 (iI 1) h (slW S) (tmW T) = some h := by unfold f_X11_meets_k8; exact if_pos (by decide)
  by_cases hfull : l.length ≤ 200
  · rw [if_pos (by rw [e200]; omega)]
    refine lo2_t (fun f x5 x6 => ∃ i : Nat, x6 = iI i ∧ ((x5 = iI 0 ∧ i + f = l.length + 1 ∧ 1 ≤ f ∧ (l.take i).any (fun e => smS (R * C) e.1 e.2 S T) = false) ∨ (x5 = iI 1 ∧ f = 0 ∧ (l.any fun e => smS (R * C) e.1 e.2 S T) = true))) (fun o => ∃ h2, o = some h2 ∧ NLM h2 (ntL (R * C) l S T) ∧ (∀ x k, x ≠ 80 → (x ≠ 72 ∨ k ≠ 31) → gI h2 x k = gI h x k) ∧ (∀ x k, x ≠ 81 → gL h2 x k = gL h x k)) ?_ N (l.length + 1) _ _ (by omega) ⟨0, rfl, Or.inl ⟨rfl, by omega, by omega, rfl⟩⟩
    rintro f x5 x6 ⟨i, rfl, hmode⟩ Kc
    unfold f_X11_meets_k7
    rw [join_eq, hN.1]
    rcases hmode with ⟨rfl, hf, hf1, hany⟩ | ⟨rfl, hf, hany⟩
    · have e1 : (iI l.length ≤ iI i) = ((l.length : Int) ≤ i) := iI_le ⟨by omega, by omega⟩
      by_cases hi : i = l.length
      · left
        rw [if_pos (by rw [e1]; omega)]
        rw [hi, List.take_length] at hany
        refine ⟨_, rfl, ?_⟩
        unfold f_X11_meets_k8 ntL
        rw [if_neg (by decide), hN.1, if_neg (show ¬ (l.any fun e => smS (R * C) e.1 e.2 S T) = true by rw [hany]; decide), if_neg (show ¬ 201 ≤ l.length by omega), ast_i (by omega) (by omega), Int.toNat_natCast, gI_ne (by omega), hN.1, astL_i (by omega) (by omega), Int.toNat_natCast, nm_eq, gI_sL, gI_ne (by omega), hN.1, iI_add]
        refine ⟨_, rfl, ⟨?_, fun k hk => ?_⟩, fun x k q1 q2 => ?_, fun x k q => ?_⟩
        · rw [gI_same, List.length_append]; rfl
        · refine getElem_snoc hk (fun e => gI _ 80 k = slW e.1 ∧ gL _ 81 k = tmW e.2) (fun hk2 => ?_) (fun hk2 => ?_)
          · obtain ⟨a1, a2⟩ := hN.2 k hk2
            exact ⟨by rw [gI_ne (by omega), gI_sL, gI_ne (by omega)]; exact a1, by rw [gL_sI, gL_ne (by omega), gL_sI]; exact a2⟩
          · subst hk2
            exact ⟨by rw [gI_ne (by omega), gI_sL, gI_same], by rw [gL_sI, gL_same]⟩
        · rw [gI_ne (by omega), gI_sL, gI_ne (by omega)]
        · rw [gL_sI, gL_ne (by omega), gL_sI]
      · right
        have hil : i < l.length := by omega
        obtain ⟨a1, a2⟩ := hN.2 i hil
        have hDi := ho.2 _ (List.getElem_mem hil)
        have hsm := smS_w (M := M) (M' := M) (L := fun _ => 0) (L' := L) hDi hD h25
        rw [if_neg (by rw [e1]; omega), if_neg (by decide), ald_i (by omega) (by omega), Int.toNat_natCast, a1, join_eq, join_eq, aldL_i (by omega) (by omega), Int.toNat_natCast, a2]
        have nxt : smS (R * C) l[i].1 l[i].2 S T = false → ∃ f' a' b', f' < f ∧ (∃ i : Nat, b' = iI i ∧ ((a' = iI 0 ∧ i + f' = l.length + 1 ∧ 1 ≤ f' ∧ (l.take i).any (fun e => smS (R * C) e.1 e.2 S T) = false) ∨ (a' = iI 1 ∧ f' = 0 ∧ (l.any fun e => smS (R * C) e.1 e.2 S T) = true))) ∧ (fun x13 : Int32 => nm (iI (i : Int) + iI 1) fun x15 => Kc x13 x15) (iI 0) = Kc a' b' := fun hs => by
          refine ⟨f - 1, iI 0, iI (i + 1 : Nat), by omega, ⟨i + 1, rfl, Or.inl ⟨rfl, by omega, by omega, ?_⟩⟩, by dsimp only; rw [nm_eq, iI_add]; rfl⟩
          rw [any_take hil, hany, hs]; rfl
        by_cases b1 : slW l[i].1 = slW S
        · rw [if_neg (fun z => z b1)]
          by_cases b2 : tmW l[i].2 = tmW T
          · rw [if_neg (fun z => z (by rw [lg_cmp0]; exact b2))]
            exact ⟨0, iI 1, iI (i + 1 : Nat), by omega, ⟨i + 1, rfl, Or.inr ⟨rfl, rfl, List.any_eq_true.mpr ⟨l[i], List.getElem_mem hil, by rw [hsm]; exact decide_eq_true ⟨b1, b2⟩⟩⟩⟩, by dsimp only; rw [nm_eq, iI_add]; rfl⟩
          · rw [if_pos (by rw [lg_cmp0]; exact b2)]
            exact nxt (by rw [hsm]; exact decide_eq_false (fun z => b2 z.2))
        · rw [if_pos b1]
          exact nxt (by rw [hsm]; exact decide_eq_false (fun z => b1 z.1))
    · left
      unfold ntL
      rw [if_pos hany]
      refine ⟨some h, ?_, same⟩
      by_cases q : iI l.length ≤ iI i
      · rw [if_pos q, k8]
      · rw [if_neg q, if_pos (by decide), k8]
  · rw [if_neg (by rw [e200]; omega)]
    have hn : ntL (R * C) l S T = l := by
      unfold ntL
      split
      · rfl
      · rw [if_pos (by omega)]
    rw [hn]
    obtain ⟨N', rfl⟩ : ∃ N', N = N' + 1 := ⟨N - 1, by omega⟩
    dsimp only
    rw [lo2_s]
    unfold f_X11_meets_k7
    have e0 : (iI l.length ≤ iI 0) = ((l.length : Int) ≤ 0) := iI_le ⟨by omega, by omega⟩
    rw [join_eq, hN.1, if_neg (by rw [e0]; omega), if_pos (by decide), k8]
    exact same
theorem m_stMet {a : Nat} {T' L' : Nat → Nat} {S' : Nat → Bool} (hH : RM h 73 R C K M S T L) (hV : VS R C K M) (hD : VD R C M S T L) (hD' : VD R C M S' T' L') (ha : a < 201) (h80 : gI h 80 a = slW S') (h81 : gL h 81 a = tmW T') :
    ∃ h2, f_X11_standsAsMet h (iI a) = some h2 ∧ RM h2 73 R C K M S' T' L ∧ FrM h h2 ∧ (∀ k, gI h2 72 k = gI h 72 k) := by
  have h25 := sq_25 hV.2.1 hV.2.2.2.1
  have t4 : ∀ q, T' q < 4 := fun q => by have := hD'.1 q; omega
  unfold f_X11_standsAsMet
  obtain ⟨N, hNN⟩ : ∃ N : Nat, N = 1000000 := ⟨_, rfl⟩
  rw [← hNN]
  refine lo2_t (fun f x1 m => ∃ (i : Nat) (S2 : Nat → Bool) (T2 : Nat → Nat), x1 = iI i ∧ i + f = R * C ∧ RM m 73 R C K M S2 T2 L ∧ (∀ q, q < i → S2 q = S' q ∧ T2 q = T' q) ∧ (∀ q, i ≤ q → S2 q = S q ∧ T2 q = T q) ∧ FrM h m ∧ (∀ k, gI m 72 k = gI h 72 k)) (fun o => ∃ h2, o = some h2 ∧ RM h2 73 R C K M S' T' L ∧ FrM h h2 ∧ (∀ k, gI h2 72 k = gI h 72 k)) ?_ N (R * C) _ _ (by omega) ⟨0, S, T, rfl, by omega, hH, fun q hq => absurd hq (Nat.not_lt_zero q), fun _ _ => ⟨rfl, rfl⟩, FrM.rf, fun _ => rfl⟩
  rintro f x1 m ⟨i, S2, T2, rfl, hf, hM, hlo, hhi, hF, h72⟩ Kc
  unfold f_X11_standsAsMet_k3
  have e : (iI (R * C : Nat) ≤ iI i) = (((R * C : Nat) : Int) ≤ i) := iI_le ⟨by omega, by omega⟩
  rw [m_many hM, cal_some]
  by_cases hi : i = R * C
  · left
    rw [if_pos (by rw [e]; omega)]
    have eS : S2 = S' := funext fun q => by
      by_cases hq : q < i
      · exact (hlo q hq).1
      · rw [(hhi q (by omega)).1, (hD.2.2 q (by omega)).1, (hD'.2.2 q (by omega)).1]
    have eT : T2 = T' := funext fun q => by
      by_cases hq : q < i
      · exact (hlo q hq).2
      · rw [(hhi q (by omega)).2, (hD.2.2 q (by omega)).2, (hD'.2.2 q (by omega)).2]
    rw [eS, eT] at hM
    exact ⟨_, rfl, m, rfl, hM, hF, h72⟩
  · right
    have g80 : gI m 80 a = slW S' := ((hF.1 80 a (by omega) (by omega)).1).trans h80
    have g81 : ∀ x, gL (sI m 73 (10 + 5 * i + 2) x) 81 a = tmW T' := fun x => ((hF.1 81 a (by omega) (by omega)).2).trans h81
    rw [if_neg (by rw [e]; omega), ald_i (by omega) (by omega), Int.toNat_natCast, g80, sl_getS (by omega), m_puts2 (by omega), cal_some, aldL_i (by omega) (by omega), Int.toNat_natCast, g81, iI_mul, show (2 * (i : Int)) = ((2 * i : Nat) : Int) by omega, tm_getS t4 (by omega), m_puts3 (by omega), cal_some, nm_eq, iI_add]
    refine ⟨f - 1, _, _, by omega, ⟨i + 1, upB S2 i (S' i), upN T2 i (T' i), rfl, by omega, rm_time (rm_slant hM), fun q hq => ?_, fun q hq => ?_, (hF.tr (FrM.row (by omega))).tr (FrM.row (by omega)), fun k => ?_⟩, rfl⟩
    · unfold upB upN
      by_cases hq2 : q = i
      · rw [if_pos hq2, if_pos hq2, hq2]; exact ⟨rfl, rfl⟩
      · rw [if_neg hq2, if_neg hq2]; exact hlo q (by omega)
    · unfold upB upN
      rw [if_neg (by omega), if_neg (by omega)]; exact hhi q (by omega)
    · rw [gI_ne (by omega), gI_ne (by omega)]; exact h72 k
def hadL (s : WH) : List STD := hadF s 201 0 [(s.S, s.T)]
def spHad (g : GS) : Int32 × GS := if (hadL g.now).length ≤ 200 then (iI (hadL g.now).length, g) else (iI (-1000000004), g.fail 4)
theorem ntL_nil {n : Nat} {S : Nat → Bool} {T : Nat → Nat} : ntL n [] S T = [(S, T)] := by unfold ntL; rw [if_neg (by simp), if_neg (by simp)]; rfl
theorem c_had (hc : CSt h g) (hg : GV g) : OPC h (f_X10_had h) (spHad g).1 (spHad g).2 := by
  have hV := hg.1.1
  have hD := hg.1.2.1
  have h25 := sq_25 hV.2.1 hV.2.2.2.1
  have v1 := hV.2.1
  have v2 := hV.2.2.2.1
  unfold f_X10_had spHad
  obtain ⟨X, hX⟩ : ∃ X, X = hadL g.now := ⟨_, rfl⟩
  rw [← hX]
  have key : ∃ h2, f_X2_standings h 3 = some (iI X.length, h2) ∧ CSt h2 g ∧ FM h h2 ∧ X.length ≤ 201 := by
    unfold f_X2_standings
    obtain ⟨m1, p1, p2, p3, p4, p5, p6⟩ := c_trial (a := 40) hc (by omega)
    rw [p1, cal_some, nm_eq]
    have H0 : HC (sI m1 39 7 (iI 0)) 40 g.now.R g.now.C g.now.K g.now.M g.now.S g.now.T g.now.L := hc_far p2 (by omega)
    obtain ⟨m2, n1, n2, n3, n4⟩ := w_note (l := []) H0 hD h25 ⟨gI_same, fun k hk => absurd hk (Nat.not_lt_zero k)⟩ ⟨by simp, fun e he => absurd he List.not_mem_nil⟩
    rw [ntL_nil] at n2
    rw [n1, cal_some]
    have c2 : CSt m2 g := p3.keep (fun a k q => (n3 a k (by omega) (by omega)).trans (gI_ne (by omega))) (n4 _ _ (by omega)) (n4 _ _ (by omega))
    have f2 : FM h m2 := p4.tr fun a k q => ⟨(n3 a k (by omega) (by omega)).trans (gI_ne (by omega)), n4 _ _ (by omega)⟩
    have H2 : HC m2 40 g.now.R g.now.C g.now.K g.now.M g.now.S g.now.T g.now.L := hc_cong H0 (fun x k q1 q2 => n3 x k (by omega) (by omega)) (n4 _ _ (by omega))
    have ok1 : okL g.now.R g.now.C g.now.M [(g.now.S, g.now.T)] := ⟨by simp, fun e he => by rw [List.mem_singleton.mp he]; exact hD.z⟩
    obtain ⟨N, hNN⟩ : ∃ N : Nat, N = 1000000 := ⟨_, rfl⟩
    rw [← hNN]
    refine lo2_t (fun f x4 m => ∃ (i : Nat) (l : List STD) (S : Nat → Bool) (T L : Nat → Nat), x4 = iI i ∧ i + f = 201 ∧ hadF g.now f i l = X ∧ okL g.now.R g.now.C g.now.M l ∧ NLC m l ∧ HC m 40 g.now.R g.now.C g.now.K g.now.M S T L ∧ VD g.now.R g.now.C g.now.M S T L ∧ CSt m g ∧ FM h m) (fun o => ∃ h2, o = some (iI X.length, h2) ∧ CSt h2 g ∧ FM h h2 ∧ X.length ≤ 201) ?_ N 201 _ _ (by omega) ⟨0, _, _, _, _, rfl, by omega, hX.symm, ok1, n2, H2, hD, c2, f2⟩
    rintro f x4 m ⟨i, l, S, T, L, rfl, hf, hL, hok, hNl, hH, hDD, hcs, hF⟩ Kc
    have hl201 := hok.1
    unfold f_X2_standings_k6
    have e1 : (iI 200 < iI i) = ((200 : Int) < i) := iI_lt ⟨by omega, by omega⟩
    have e2 : (iI l.length ≤ iI i) = ((l.length : Int) ≤ i) := iI_le ⟨by omega, by omega⟩
    rw [hNl.1]
    by_cases hi : i = 201
    · left
      have hs : X = l := by rw [← hL, show f = 0 by omega]; rfl
      rw [if_pos (by rw [e1]; omega), hs]
      exact ⟨_, rfl, m, rfl, hcs, hF, hl201⟩
    · obtain ⟨f', rfl⟩ : ∃ f', f = f' + 1 := ⟨f - 1, by omega⟩
      unfold hadF at hL
      rw [if_neg (by rw [e1]; omega)]
      by_cases hil : i < l.length
      · right
        rw [if_pos hil, ← List.getElem_eq_getD (h := hil)] at hL
        rw [if_neg (by rw [e2]; omega)]
        obtain ⟨l', hl'⟩ : ∃ l', l' = hadW g.now l[i].1 l[i].2 (2 * (g.now.R + g.now.C)) 0 l := ⟨_, rfl⟩
        rw [← hl'] at hL
        have key2 : ∃ (m' : Mem) (S : Nat → Bool) (T L : Nat → Nat), lo2 (f_X2_standings_k9 (iI i) Kc) 1000000 (iI 0) m = Kc (iI (i + 1 : Nat)) m' ∧ okL g.now.R g.now.C g.now.M l' ∧ NLC m' l' ∧ HC m' 40 g.now.R g.now.C g.now.K g.now.M S T L ∧ VD g.now.R g.now.C g.now.M S T L ∧ CSt m' g ∧ FM h m' := by
          obtain ⟨N2, hN2⟩ : ∃ N : Nat, N = 1000000 := ⟨_, rfl⟩
          rw [← hN2]
          have hDi := hok.2 _ (List.getElem_mem hil)
          refine lo2_t (fun f x7 mm => ∃ (j : Nat) (ll : List STD) (S : Nat → Bool) (T L : Nat → Nat), x7 = iI j ∧ j + f = 2 * (g.now.R + g.now.C) ∧ hadW g.now l[i].1 l[i].2 f j ll = l' ∧ okL g.now.R g.now.C g.now.M ll ∧ (i < ll.length ∧ ∀ hh : i < ll.length, ll[i] = l[i]) ∧ NLC mm ll ∧ HC mm 40 g.now.R g.now.C g.now.K g.now.M S T L ∧ VD g.now.R g.now.C g.now.M S T L ∧ CSt mm g ∧ FM h mm) (fun o => ∃ (m' : Mem) (S : Nat → Bool) (T L : Nat → Nat), o = Kc (iI (i + 1 : Nat)) m' ∧ okL g.now.R g.now.C g.now.M l' ∧ NLC m' l' ∧ HC m' 40 g.now.R g.now.C g.now.K g.now.M S T L ∧ VD g.now.R g.now.C g.now.M S T L ∧ CSt m' g ∧ FM h m') ?_ N2 (2 * (g.now.R + g.now.C)) _ _ (by omega) ⟨0, l, S, T, L, rfl, by omega, hl'.symm, hok, ⟨hil, fun _ => rfl⟩, hNl, hH, hDD, hcs, hF⟩
          rintro f x7 mm ⟨j, ll, S, T, L, rfl, hf2, hL2, hok2, ⟨hi2, hi3⟩, hN3, hH2, hDD2, hcs2, hF2⟩ Kc2
          have hll := hok2.1
          unfold f_X2_standings_k9
          have e3 : (iI (2 * (g.now.R + g.now.C) : Nat) ≤ iI j) = (((2 * (g.now.R + g.now.C) : Nat) : Int) ≤ j) := iI_le ⟨by omega, by omega⟩
          have e4 : (iI 200 < iI ll.length) = ((200 : Int) < ll.length) := iI_lt ⟨by omega, by omega⟩
          rw [w_windows hH2, cal_some, join_eq, nm_eq, iI_add, hN3.1]
          by_cases hj : j = 2 * (g.now.R + g.now.C)
          · left
            have hs : l' = ll := by rw [← hL2, show f = 0 by omega]; rfl
            rw [if_pos (by rw [e3]; omega), hs]
            exact ⟨_, rfl, mm, S, T, L, rfl, hok2, hN3, hH2, hDD2, hcs2, hF2⟩
          · obtain ⟨f'', rfl⟩ : ∃ f'', f = f'' + 1 := ⟨f - 1, by omega⟩
            unfold hadW at hL2
            rw [if_neg (by rw [e3]; omega)]
            by_cases h200 : 200 < ll.length
            · left
              rw [if_pos h200] at hL2
              rw [if_pos (by rw [e4]; omega), ← hL2]
              exact ⟨_, rfl, mm, S, T, L, rfl, hok2, hN3, hH2, hDD2, hcs2, hF2⟩
            · right
              rw [if_neg h200] at hL2
              obtain ⟨a1, a2⟩ := hN3.2 i hi2
              rw [hi3 hi2] at a1 a2
              obtain ⟨s1, s2⟩ := w_stand (S' := l[i].1) (T' := l[i].2) hH2
              obtain ⟨c3, f3⟩ := hcs2.standT (a := 40) (x := slW l[i].1) (y := tmW l[i].2) (by omega)
              obtain ⟨m4, r1, r2⟩ := w_ry (b := 44) hV (by omega) s2 (hDi.of hDD2) (win := j) (by omega)
              obtain ⟨c4, f4⟩ := c3.ry r2 (by omega)
              obtain ⟨⟨L4, hH4, hD4⟩, -, -, -, -, fr⟩ := r2
              have N4 : NLC m4 ll := ⟨(fr 39 7 (by omega) (by omega) (by omega)).1.trans ((gI_ne (h := mm) (a := 40) (k := 5) (v := slW l[i].1) (by omega)).trans hN3.1), fun k hk => ⟨(fr 48 k (by omega) (by omega) (by omega)).1.trans ((gI_ne (h := mm) (a := 40) (k := 5) (v := slW l[i].1) (by omega)).trans (hN3.2 k hk).1), (fr 49 k (by omega) (by omega) (by omega)).2.trans ((gL_ne (by omega)).trans (hN3.2 k hk).2)⟩⟩
              obtain ⟨m5, n1, n2, n3, n4⟩ := w_note hH4 hD4 h25 N4 hok2
              rw [if_neg (by rw [e4]; omega), ald_i (by omega) (by omega), Int.toNat_natCast, a1, aldL_i (by omega) (by omega), Int.toNat_natCast, a2, s1, cal_some, r1, cal2_some, n1, cal_some, nm_eq, iI_add]
              have okn := ntL_ok (n := g.now.R * g.now.C) hok2 hD4
              have pre : i < (ntL (g.now.R * g.now.C) ll (ry g.now.R g.now.C g.now.K g.now.M j l[i].1 l[i].2).2.1 (ry g.now.R g.now.C g.now.K g.now.M j l[i].1 l[i].2).2.2.1).length ∧ ∀ hh : i < (ntL (g.now.R * g.now.C) ll (ry g.now.R g.now.C g.now.K g.now.M j l[i].1 l[i].2).2.1 (ry g.now.R g.now.C g.now.K g.now.M j l[i].1 l[i].2).2.2.1).length, (ntL (g.now.R * g.now.C) ll (ry g.now.R g.now.C g.now.K g.now.M j l[i].1 l[i].2).2.1 (ry g.now.R g.now.C g.now.K g.now.M j l[i].1 l[i].2).2.2.1)[i] = l[i] := by
                unfold ntL
                split
                · exact ⟨hi2, hi3⟩
                · split
                  · exact ⟨hi2, hi3⟩
                  · refine ⟨by rw [List.length_append]; omega, fun hh => ?_⟩
                    rw [List.getElem_append_left hi2]; exact hi3 hi2
              exact ⟨f'', _, _, Nat.lt_succ_self f'', ⟨j + 1, _, _, _, L4, rfl, by omega, hL2, okn, pre, n2, hc_cong hH4 (fun x k q1 q2 => n3 x k (by omega) (by omega)) (n4 _ _ (by omega)), hD4, c4.keep (fun a k q => n3 a k (by omega) (by omega)) (n4 _ _ (by omega)) (n4 _ _ (by omega)), ((hF2.tr f3).tr f4).tr fun a k q => ⟨n3 a k (by omega) (by omega), n4 _ _ (by omega)⟩⟩, rfl⟩
        obtain ⟨m', S', T', L', k1, k2, k3, k4, k5, k6, k7⟩ := key2
        exact ⟨f', _, m', Nat.lt_succ_self f', ⟨i + 1, l', S', T', L', rfl, by omega, hL, k2, k3, k4, k5, k6, k7⟩, k1⟩
      · left
        rw [if_neg hil] at hL
        rw [if_pos (by rw [e2]; omega), ← hL]
        exact ⟨_, rfl, m, rfl, hcs, hF, hl201⟩
  obtain ⟨h2, k1, k2, k3, k4⟩ := key
  have e : (iI X.length ≤ iI 200) = ((X.length : Int) ≤ 200) := iI_le ⟨by omega, by omega⟩
  rw [k1, cal2_some]
  by_cases hX2 : X.length ≤ 200
  · rw [if_pos (by rw [e]; omega), if_pos hX2]
    exact ⟨h2, rfl, k2, k3⟩
  · rw [if_neg (by rw [e]; omega), if_neg hX2, cal2_id]
    obtain ⟨m5, t1, t2, t3⟩ := c_fail k2 (e := 4) (by omega)
    exact ⟨m5, t1, t2, k3.tr t3⟩
theorem GV.had (hg : GV g) : GV (spHad g).2 := by
  unfold spHad
  split
  · exact hg
  · exact hg.fail 4
end HADOP
