section MHADOP
variable {h : Mem} {g : GS}
theorem NLM.fr {h2 : Mem} {l : List STD} (hN : NLM h l) (f : FrM h h2) : NLM h2 l :=
  ⟨(f.2.1 31 (by omega) (by omega) (by omega) (by omega) (by omega) (by omega) (by omega)).trans hN.1, fun k hk => ⟨((f.1 80 k (by omega) (by omega)).1).trans (hN.2 k hk).1, ((f.1 81 k (by omega) (by omega)).2).trans (hN.2 k hk).2⟩⟩
/-- the model between two rays of had -/
def HST (h m : Mem) (g : GS) (l : List STD) : Prop := okL g.now.R g.now.C g.now.M l ∧ NLM m l ∧ (∃ S T L, RM m 73 g.now.R g.now.C g.now.K g.now.M S T L ∧ VD g.now.R g.now.C g.now.M S T L) ∧ MTr m g ∧ gI m 72 12 = iI (-1) ∧ gI m 72 13 = iI (-1) ∧ FC h m
theorem m_had (hm : MSt h g) (hg : GV g) : OPM h (f_X11_had h) (spHad g).1 (spHad g).2 := by
  have hV := hg.1.1
  have hD := hg.1.2.1
  have h25 := sq_25 hV.2.1 hV.2.2.2.1
  have v1 := hV.2.1
  have v2 := hV.2.2.2.1
  unfold f_X11_had spHad
  obtain ⟨X, hX⟩ : ∃ X, X = hadL g.now := ⟨_, rfl⟩
  rw [← hX]
  obtain ⟨m1, p1, p2, p3, p4, p5⟩ := m_try hm hg
  rw [p1, cal_some, nm_eq]
  have H0 : RM (sI m1 72 31 (iI 0)) 73 g.now.R g.now.C g.now.K g.now.M g.now.S g.now.T g.now.L := rm_far p2.1 (by omega)
  obtain ⟨m2, n1, n2, n3, n4⟩ := m_meets (l := []) H0 hV hD ⟨gI_same, fun k hk => absurd hk (Nat.not_lt_zero k)⟩ ⟨by simp, fun e he => absurd he List.not_mem_nil⟩
  rw [ntL_nil] at n2
  rw [n1, cal_some]
  have kp : ∀ x k, x ≠ 75 → x ≠ 80 → (x ≠ 72 ∨ k ≠ 31) → gI m2 x k = gI h x k := fun x k q1 q2 q3 => (n3 x k q2 q3).trans ((gI_ne (by omega)).trans (p4 x k q1))
  have ok1 : okL g.now.R g.now.C g.now.M [(g.now.S, g.now.T)] := ⟨by simp, fun e he => by rw [List.mem_singleton.mp he]; exact hD.z⟩
  have t2 : MTr m2 g := (p3.keep hg (h2 := sI m1 72 31 (iI 0)) fun x k q => gI_ne (by omega)).keep hg fun x k q => n3 x k (by omega) (by omega)
  have st2 : HST h m2 g [(g.now.S, g.now.T)] := ⟨ok1, n2, ⟨_, _, _, rm_copy H0 fun k hk => n3 _ _ (by omega) (by omega), hD⟩, t2, (kp _ _ (by omega) (by omega) (by omega)).trans hm.w12, (kp _ _ (by omega) (by omega) (by omega)).trans hm.w13, fun x k q => ⟨kp x k (by omega) (by omega) (by omega), (n4 x k (by omega)).trans (p5 x k)⟩⟩
  have fin : ∀ (m : Mem), HST h m g X → OPM h (f_X11_had_k7 m) (if X.length ≤ 200 then (iI X.length, g) else (iI (-1000000004), g.fail 4)).1 (if X.length ≤ 200 then (iI X.length, g) else (iI (-1000000004), g.fail 4)).2 := fun m hst => by
    obtain ⟨ok, nl, -, tr, k12, k13, fc⟩ := hst
    have hl := ok.1
    obtain ⟨m3, s1, s2, s3, s4, s5⟩ := m_untry tr hg k12 k13
    have fc3 : FC h m3 := fc.tr fun x k q => ⟨s4 x k (by omega), s5 x k⟩
    have e : (iI X.length ≤ iI 200) = ((X.length : Int) ≤ 200) := iI_le ⟨by omega, by omega⟩
    unfold f_X11_had_k7
    rw [s1, cal_some, s4 _ _ (by omega), nl.1]
    by_cases hX2 : X.length ≤ 200
    · rw [if_pos (by rw [e]; omega), if_pos hX2]
      exact ⟨m3, rfl, s2, fc3⟩
    · rw [if_neg (by rw [e]; omega), if_neg hX2, cal2_id]
      obtain ⟨m5, t1, t2, t3⟩ := c_errs s2 hg (e := 4) (by omega)
      exact ⟨m5, t1, t2, fc3.tr t3⟩
  obtain ⟨N, hNN⟩ : ∃ N : Nat, N = 1000000 := ⟨_, rfl⟩
  rw [← hNN]
  refine lo2_t (fun f x4 m => ∃ (i : Nat) (l : List STD), x4 = iI i ∧ i + f = 201 ∧ hadF g.now f i l = X ∧ HST h m g l) (fun o => OPM h o (if X.length ≤ 200 then (iI X.length, g) else (iI (-1000000004), g.fail 4)).1 (if X.length ≤ 200 then (iI X.length, g) else (iI (-1000000004), g.fail 4)).2) ?_ N 201 _ _ (by omega) ⟨0, _, rfl, by omega, hX.symm, st2⟩
  rintro f x4 m ⟨i, l, rfl, hf, hL, hst⟩ Kc
  obtain ⟨hok, hNl, hRM, hT, k12, k13, hF⟩ := id hst
  have hl201 := hok.1
  unfold f_X11_had_k6
  have e2 : (iI l.length ≤ iI i) = ((l.length : Int) ≤ i) := iI_le ⟨by omega, by omega⟩
  have e4 : (iI 200 < iI l.length) = ((200 : Int) < l.length) := iI_lt ⟨by omega, by omega⟩
  rw [join_eq, hNl.1]
  by_cases hend : l.length ≤ i ∨ 200 < l.length
  · left
    have hs : X = l := by
      rcases hend with q | q
      · rw [← hL]
        cases f with
        | zero => rfl
        | succ f => unfold hadF; rw [if_neg (by omega)]
      · rw [← hL, hadF_full q]
    refine ⟨_, ?_, fin m (by rw [hs]; exact hst)⟩
    by_cases q : l.length ≤ i
    · rw [if_pos (by rw [e2]; omega)]
    · rw [if_neg (by rw [e2]; omega), if_pos (by rw [e4]; omega)]
  · have hil : i < l.length := by omega
    have hl200 : l.length ≤ 200 := by omega
    obtain ⟨f', rfl⟩ : ∃ f', f = f' + 1 := ⟨f - 1, by omega⟩
    unfold hadF at hL
    rw [if_pos hil, ← List.getElem_eq_getD (h := hil)] at hL
    rw [if_neg (by rw [e2]; omega), if_neg (by rw [e4]; omega)]
    obtain ⟨l', hl'⟩ : ∃ l', l' = hadW g.now l[i].1 l[i].2 (2 * (g.now.R + g.now.C)) 0 l := ⟨_, rfl⟩
    rw [← hl'] at hL
    have key2 : ∃ (m' : Mem), lo2 (f_X11_had_k13 (iI i) Kc) 1000000 (iI 0) m = Kc (iI (i + 1 : Nat)) m' ∧ HST h m' g l' := by
      obtain ⟨N2, hN2⟩ : ∃ N : Nat, N = 1000000 := ⟨_, rfl⟩
      rw [← hN2]
      have hDi := hok.2 _ (List.getElem_mem hil)
      refine lo2_t (fun f x7 mm => ∃ (j : Nat) (ll : List STD), x7 = iI j ∧ j + f = 2 * (g.now.R + g.now.C) ∧ hadW g.now l[i].1 l[i].2 f j ll = l' ∧ (i < ll.length ∧ ∀ hh : i < ll.length, ll[i] = l[i]) ∧ HST h mm g ll) (fun o => ∃ (m' : Mem), o = Kc (iI (i + 1 : Nat)) m' ∧ HST h m' g l') ?_ N2 (2 * (g.now.R + g.now.C)) _ _ (by omega) ⟨0, l, rfl, by omega, hl'.symm, ⟨hil, fun _ => rfl⟩, hst⟩
      rintro f x7 mm ⟨j, ll, rfl, hf2, hL2, ⟨hi2, hi3⟩, hst2⟩ Kc2
      obtain ⟨hok2, hN3, ⟨S, T, L, hH2, hDD2⟩, hT2, j12, j13, hF2⟩ := id hst2
      have hll := hok2.1
      unfold f_X11_had_k13
      have e3 : (iI (2 * (g.now.R + g.now.C) : Nat) ≤ iI j) = (((2 * (g.now.R + g.now.C) : Nat) : Int) ≤ j) := iI_le ⟨by omega, by omega⟩
      have e4 : (iI 200 < iI ll.length) = ((200 : Int) < ll.length) := iI_lt ⟨by omega, by omega⟩
      rw [m_windows hH2, cal_some, join_eq, nm_eq, iI_add, hN3.1]
      by_cases hj : j = 2 * (g.now.R + g.now.C)
      · left
        have hs : l' = ll := by rw [← hL2, show f = 0 by omega]; rfl
        rw [if_pos (by rw [e3]; omega), hs]
        exact ⟨_, rfl, mm, rfl, hst2⟩
      · obtain ⟨f'', rfl⟩ : ∃ f'', f = f'' + 1 := ⟨f - 1, by omega⟩
        unfold hadW at hL2
        rw [if_neg (by rw [e3]; omega)]
        by_cases h200 : 200 < ll.length
        · left
          rw [if_pos h200] at hL2
          rw [if_pos (by rw [e4]; omega), ← hL2]
          exact ⟨_, rfl, mm, rfl, hst2⟩
        · right
          rw [if_neg h200] at hL2
          obtain ⟨a1, a2⟩ := hN3.2 i hi2
          rw [hi3 hi2] at a1 a2
          obtain ⟨m3, s1, s2, s3, s4⟩ := m_stMet hH2 hV hDD2 hDi (show i < 201 by omega) a1 a2
          obtain ⟨m4, r1, ⟨⟨L4, hH4, hD4⟩, r4, r6, r3, r5⟩⟩ := m_ry (wd := -1) hV s2 (hDi.of hDD2) ((s4 12).trans j12) (by omega) (win := j) (by omega)
          have N4 : NLM m4 ll := (hN3.fr s3).fr r5
          obtain ⟨m5, n1, n2, n3, n4⟩ := m_meets hH4 hV hD4 N4 hok2
          have hb := ry_b (S := l[i].1) (T := l[i].2) hV (show j < 2 * (g.now.R + g.now.C) by omega)
          have en : (iI (ry g.now.R g.now.C g.now.K g.now.M j l[i].1 l[i].2).1 < 0) = (((ry g.now.R g.now.C g.now.K g.now.M j l[i].1 l[i].2).1 : Int) < 0) := by rw [iI_zero]; exact iI_lt ⟨by omega, by omega⟩
          rw [if_neg (by rw [e4]; omega), s1, cal_some, r1, cal2_some, join_eq, if_neg (by rw [en]; omega), n1, cal_some]
          dsimp only
          rw [nm_eq, iI_add]
          have okn := ntL_ok (n := g.now.R * g.now.C) hok2 hD4
          have pre : i < (ntL (g.now.R * g.now.C) ll (ry g.now.R g.now.C g.now.K g.now.M j l[i].1 l[i].2).2.1 (ry g.now.R g.now.C g.now.K g.now.M j l[i].1 l[i].2).2.2.1).length ∧ ∀ hh : i < (ntL (g.now.R * g.now.C) ll (ry g.now.R g.now.C g.now.K g.now.M j l[i].1 l[i].2).2.1 (ry g.now.R g.now.C g.now.K g.now.M j l[i].1 l[i].2).2.2.1).length, (ntL (g.now.R * g.now.C) ll (ry g.now.R g.now.C g.now.K g.now.M j l[i].1 l[i].2).2.1 (ry g.now.R g.now.C g.now.K g.now.M j l[i].1 l[i].2).2.2.1)[i] = l[i] := by
            unfold ntL
            split
            · exact ⟨hi2, hi3⟩
            · split
              · exact ⟨hi2, hi3⟩
              · refine ⟨by rw [List.length_append]; omega, fun hh => ?_⟩
                rw [List.getElem_append_left hi2]; exact hi3 hi2
          have z12 : gI m4 72 12 = iI (-1) := (r5.2.1 12 (by omega) (by omega) (by omega) (by omega) (by omega) (by omega) (by omega)).trans ((s4 12).trans j12)
          have z13 : gI m4 72 13 = iI (-1) := (r5.2.1 13 (by omega) (by omega) (by omega) (by omega) (by omega) (by omega) (by omega)).trans ((s4 13).trans j13)
          exact ⟨f'', _, _, Nat.lt_succ_self f'', ⟨j + 1, _, rfl, by omega, hL2, pre, okn, n2, ⟨_, _, L4, rm_copy hH4 fun k hk => n3 _ _ (by omega) (by omega), hD4⟩, ((hT2.fr hg s3).fr hg r5).keep hg fun x k q => n3 x k (by omega) (by omega), (n3 _ _ (by omega) (by omega)).trans z12, (n3 _ _ (by omega) (by omega)).trans z13, ((hF2.tr s3.fc).tr r5.fc).tr fun x k q => ⟨n3 x k (by omega) (by omega), n4 x k (by omega)⟩⟩, rfl⟩
    obtain ⟨m', k1, k2⟩ := key2
    right
    exact ⟨f', _, m', Nat.lt_succ_self f', ⟨i + 1, l', rfl, by omega, hL, k2⟩, k1⟩
end MHADOP
