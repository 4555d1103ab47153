section RCORE
variable {R C : Nat} {K M : Nat → Nat}
def core (x : RES) : Nat × (Nat → Bool) × (Nat → Nat) × Nat × (Nat → Bool) × Nat := (x.1, x.2.1, x.2.2.1, x.2.2.2.2.1, x.2.2.2.2.2.1, x.2.2.2.2.2.2.1)
theorem rayF_core {wt wt' : Int} : ∀ (f r c w : Nat) (S : Nat → Bool) (T L L' : Nat → Nat) (th : Nat) (se : Nat → Bool) (n : Nat) (sw sw' : Int), core (rayF R C K M wt f r c w S T L th se n sw) = core (rayF R C K M wt' f r c w S T L' th se n sw')
  | 0, _, _, _, _, _, _, _, _, _, _, _, _ => rfl
  | f + 1, r, c, w, S, T, L, L', th, se, n, sw, sw' => by
    unfold rayF
    dsimp only
    by_cases hs : stp (K (r * C + c)) = true
    · rw [if_pos hs, if_pos hs]; rfl
    · rw [if_neg hs, if_neg hs]
      generalize (if thr (K (r * C + c)) = true then bend w (S (r * C + c)) else w) = w1
      by_cases e0 : w1 = 0
      · rw [if_pos e0, if_pos e0]
        by_cases e : r = 0
        · rw [if_pos e, if_pos e]; rfl
        · rw [if_neg e, if_neg e]; exact rayF_core f _ _ _ _ _ _ _ _ _ _ _ _
      · rw [if_neg e0, if_neg e0]
        by_cases e1 : w1 = 1
        · rw [if_pos e1, if_pos e1]
          by_cases e : c + 1 = C
          · rw [if_pos e, if_pos e]; rfl
          · rw [if_neg e, if_neg e]; exact rayF_core f _ _ _ _ _ _ _ _ _ _ _ _
        · rw [if_neg e1, if_neg e1]
          by_cases e2 : w1 = 2
          · rw [if_pos e2, if_pos e2]
            by_cases e : r + 1 = R
            · rw [if_pos e, if_pos e]; rfl
            · rw [if_neg e, if_neg e]; exact rayF_core f _ _ _ _ _ _ _ _ _ _ _ _
          · rw [if_neg e2, if_neg e2]
            by_cases e : c = 0
            · rw [if_pos e, if_pos e]; rfl
            · rw [if_neg e, if_neg e]; exact rayF_core f _ _ _ _ _ _ _ _ _ _ _ _
theorem rayF_lit {wt wt' : Int} : ∀ (f r c w : Nat) (S : Nat → Bool) (T L : Nat → Nat) (th : Nat) (se : Nat → Bool) (n n' : Nat) (sw sw' : Int), (rayF R C K M wt f r c w S T L th se n sw).2.2.2.1 = (rayF R C K M wt' f r c w S T L th se n' sw').2.2.2.1
  | 0, _, _, _, _, _, _, _, _, _, _, _, _ => rfl
  | f + 1, r, c, w, S, T, L, th, se, n, n', sw, sw' => by
    unfold rayF
    dsimp only
    by_cases hs : stp (K (r * C + c)) = true
    · rw [if_pos hs, if_pos hs]
    · rw [if_neg hs, if_neg hs]
      generalize (if thr (K (r * C + c)) = true then bend w (S (r * C + c)) else w) = w1
      by_cases e0 : w1 = 0
      · rw [if_pos e0, if_pos e0]
        by_cases e : r = 0
        · rw [if_pos e, if_pos e]
        · rw [if_neg e, if_neg e]; exact rayF_lit f _ _ _ _ _ _ _ _ _ _ _ _
      · rw [if_neg e0, if_neg e0]
        by_cases e1 : w1 = 1
        · rw [if_pos e1, if_pos e1]
          by_cases e : c + 1 = C
          · rw [if_pos e, if_pos e]
          · rw [if_neg e, if_neg e]; exact rayF_lit f _ _ _ _ _ _ _ _ _ _ _ _
        · rw [if_neg e1, if_neg e1]
          by_cases e2 : w1 = 2
          · rw [if_pos e2, if_pos e2]
            by_cases e : r + 1 = R
            · rw [if_pos e, if_pos e]
            · rw [if_neg e, if_neg e]; exact rayF_lit f _ _ _ _ _ _ _ _ _ _ _ _
          · rw [if_neg e2, if_neg e2]
            by_cases e : c = 0
            · rw [if_pos e, if_pos e]
            · rw [if_neg e, if_neg e]; exact rayF_lit f _ _ _ _ _ _ _ _ _ _ _ _
theorem rayF_out {wt : Int} : ∀ (f r c w : Nat) (S : Nat → Bool) (T L : Nat → Nat) (th : Nat) (se : Nat → Bool) (n : Nat) (sw : Int), r < R → c < C → ((rayF R C K M wt f r c w S T L th se n sw).1 = 100 ∨ (rayF R C K M wt f r c w S T L th se n sw).1 < 2 * (R + C)) ∧ (rayF R C K M wt f r c w S T L th se n sw).2.2.2.2.2.2.1 ≤ n + f ∧ (rayF R C K M wt f r c w S T L th se n sw).2.2.2.2.1 ≤ th + f
  | 0, _, _, _, _, _, _, _, _, _, _, _, _ => ⟨Or.inl rfl, Nat.le_refl _, Nat.le_refl _⟩
  | f + 1, r, c, w, S, T, L, th, se, n, sw, hr, hc => by
    unfold rayF
    dsimp only
    by_cases hs : stp (K (r * C + c)) = true
    · rw [if_pos hs]
      exact ⟨Or.inl rfl, by show n + 1 ≤ _; omega, by show th ≤ _; omega⟩
    · rw [if_neg hs]
      generalize (if thr (K (r * C + c)) = true then bend w (S (r * C + c)) else w) = w1
      obtain ⟨th1, e9, h9⟩ : ∃ th1, (if thr (K (r * C + c)) = true then th + 1 else th) = th1 ∧ th1 ≤ th + 1 := ⟨_, rfl, by split <;> omega⟩
      rw [e9]
      have fin : ∀ {x : RES}, (x.1 = 100 ∨ x.1 < 2 * (R + C)) ∧ x.2.2.2.2.2.2.1 ≤ (n + 1) + f ∧ x.2.2.2.2.1 ≤ th1 + f → (x.1 = 100 ∨ x.1 < 2 * (R + C)) ∧ x.2.2.2.2.2.2.1 ≤ n + (f + 1) ∧ x.2.2.2.2.1 ≤ th + (f + 1) := fun h => ⟨h.1, by omega, by omega⟩
      by_cases e0 : w1 = 0
      · rw [if_pos e0]
        by_cases e : r = 0
        · rw [if_pos e]; exact ⟨Or.inr (by show c < _; omega), by show n + 1 ≤ _; omega, by show th1 ≤ _; omega⟩
        · rw [if_neg e]; exact fin (rayF_out f _ _ _ _ _ _ _ _ _ _ (by omega) hc)
      · rw [if_neg e0]
        by_cases e1 : w1 = 1
        · rw [if_pos e1]
          by_cases e : c + 1 = C
          · rw [if_pos e]; exact ⟨Or.inr (by show C + r < _; omega), by show n + 1 ≤ _; omega, by show th1 ≤ _; omega⟩
          · rw [if_neg e]; exact fin (rayF_out f _ _ _ _ _ _ _ _ _ _ hr (by omega))
        · rw [if_neg e1]
          by_cases e2 : w1 = 2
          · rw [if_pos e2]
            by_cases e : r + 1 = R
            · rw [if_pos e]; exact ⟨Or.inr (by show C + R + c < _; omega), by show n + 1 ≤ _; omega, by show th1 ≤ _; omega⟩
            · rw [if_neg e]; exact fin (rayF_out f _ _ _ _ _ _ _ _ _ _ (by omega) hc)
          · rw [if_neg e2]
            by_cases e : c = 0
            · rw [if_pos e]; exact ⟨Or.inr (by show 2 * C + R + r < _; omega), by show n + 1 ≤ _; omega, by show th1 ≤ _; omega⟩
            · rw [if_neg e]; exact fin (rayF_out f _ _ _ _ _ _ _ _ _ _ hr (by omega))
/-- a ray, without lit and watch -/
def ry (R C : Nat) (K M : Nat → Nat) (win : Nat) (S : Nat → Bool) (T : Nat → Nat) : RES := ray R C K M (-1) win S T (fun _ => 0) (-1)
abbrev RES.N (x : RES) : Nat := x.2.2.2.2.2.2.1
abbrev RES.thn (x : RES) : Nat := x.2.2.2.2.1
abbrev RES.see (x : RES) : Nat → Bool := x.2.2.2.2.2.1
theorem ray_ry {wt sw : Int} {win : Nat} {S : Nat → Bool} {T L : Nat → Nat} : (ray R C K M wt win S T L sw).1 = (ry R C K M win S T).1 ∧ (ray R C K M wt win S T L sw).2.1 = (ry R C K M win S T).2.1 ∧ (ray R C K M wt win S T L sw).2.2.1 = (ry R C K M win S T).2.2.1 ∧ (ray R C K M wt win S T L sw).2.2.2.2.1 = (ry R C K M win S T).2.2.2.2.1 ∧ (ray R C K M wt win S T L sw).2.2.2.2.2.1 = (ry R C K M win S T).2.2.2.2.2.1 ∧ (ray R C K M wt win S T L sw).2.2.2.2.2.2.1 = (ry R C K M win S T).2.2.2.2.2.2.1 := by
  have h : core (ray R C K M wt win S T L sw) = core (ry R C K M win S T) := rayF_core _ _ _ _ _ _ _ _ _ _ _ _ _
  unfold core at h
  simp only [Prod.mk.injEq] at h
  exact h
theorem ray_lit {wt wt' sw sw' : Int} {win : Nat} {S : Nat → Bool} {T L : Nat → Nat} : (ray R C K M wt win S T L sw).2.2.2.1 = (ray R C K M wt' win S T L sw').2.2.2.1 := rayF_lit _ _ _ _ _ _ _ _ _ _ _ _ _
theorem ry_out {win : Nat} {S : Nat → Bool} {T : Nat → Nat} (hV : VS R C K M) (hw : win < 2 * (R + C)) : ((ry R C K M win S T).1 = 100 ∨ (ry R C K M win S T).1 < 2 * (R + C)) ∧ (ry R C K M win S T).2.2.2.2.2.2.1 ≤ 5000 ∧ (ry R C K M win S T).2.2.2.2.1 ≤ 5000 := by
  obtain ⟨o1, o2, -⟩ := ent_ok hV.1 hV.2.2.1 hw
  have h := rayF_out (K := K) (M := M) (wt := -1) 5000 _ _ (entW R C win) S T (fun _ => 0) 0 (fun _ => false) 0 (-1) o1 o2
  rw [Nat.zero_add] at h
  exact h
/-- a ray of the class, said by ry: hall a, beam b -/
def RyC (h0 h : Mem) (a b R C : Nat) (K M : Nat → Nat) (x : RES) : Prop :=
  (∃ L, HC h a R C K M x.2.1 x.2.2.1 L ∧ VD R C M x.2.1 x.2.2.1 L) ∧ gI h b 4 = iI x.2.2.2.2.1 ∧ gI h b 5 = slW x.2.2.2.2.2.1 ∧ gI h b 3 = iI x.2.2.2.2.2.2.1 ∧ gI h b 6 = gI h0 b 6 ∧ FrR h0 h a b
theorem w_ry {h0 : Mem} {a b : Nat} {S : Nat → Bool} {T L : Nat → Nat} {win : Nat} (hV : VS R C K M) (hab : b < a ∨ a + 3 < b) (hh : HC h0 a R C K M S T L) (hD : VD R C M S T L) (hwin : win < 2 * (R + C)) :
    ∃ h', f_X0_run h0 b a (iI win) = some (iI (ry R C K M win S T).1, h') ∧ RyC h0 h' a b R C K M (ry R C K M win S T) := by
  obtain ⟨wt, ew, w1, w2⟩ := iI_of (gI h0 b 6)
  obtain ⟨sw, es, s1, s2⟩ := iI_of (gI h0 b 7)
  obtain ⟨h', e1, r1, r2, r3, r4, r5, r6, r7, r8, r9⟩ := w_run hV hab hh hD ew ⟨w1, w2⟩ es hwin
  obtain ⟨a1, a2, a3, a4, a5, a6⟩ := ray_ry (R := R) (C := C) (K := K) (M := M) (wt := wt) (sw := sw) (win := win) (S := S) (T := T) (L := L)
  rw [a1] at e1
  rw [a2, a3] at r1 r2
  rw [a4] at r3
  rw [a5] at r4
  rw [a6] at r5
  exact ⟨h', e1, ⟨_, r1, r2⟩, r3, r4, r5, r6, r8⟩
/-- a ray of the model, said by ry -/
def RyM (h0 h : Mem) (R C : Nat) (K M : Nat → Nat) (wd : Int) (x : RES) : Prop :=
  (∃ L, RM h 73 R C K M x.2.1 x.2.2.1 L ∧ VD R C M x.2.1 x.2.2.1 L) ∧ gI h 72 11 = iI x.2.2.2.2.1 ∧ gI h 72 15 = bn (met wd x.2.2.2.2.2.1) ∧ gI h 72 10 = iI x.2.2.2.2.2.2.1 ∧ FrM h0 h
theorem m_ry {h0 : Mem} {S : Nat → Bool} {T L : Nat → Nat} {win : Nat} {wd : Int} (hV : VS R C K M) (hh : RM h0 73 R C K M S T L) (hD : VD R C M S T L) (h12 : gI h0 72 12 = iI wd) (hwd : -2147483648 ≤ wd ∧ wd < 2147483648) (hwin : win < 2 * (R + C)) :
    ∃ h', f_X11_goes h0 (iI win) = some (iI (ry R C K M win S T).1, h') ∧ RyM h0 h' R C K M wd (ry R C K M win S T) := by
  obtain ⟨wt, ew, w1, w2⟩ := iI_of (gI h0 72 13)
  obtain ⟨h', e1, r1, r2, r3, r4, r5, r6, r7⟩ := m_goes hV hh hD h12 ew hwd ⟨w1, w2⟩ hwin
  obtain ⟨a1, a2, a3, a4, a5, a6⟩ := ray_ry (R := R) (C := C) (K := K) (M := M) (wt := wt) (sw := -1) (win := win) (S := S) (T := T) (L := L)
  rw [a1] at e1
  rw [a2, a3] at r1 r2
  rw [a4] at r3
  rw [a5] at r4
  rw [a6] at r5
  exact ⟨h', e1, ⟨_, r1, r2⟩, r3, r4, r5, r7⟩
theorem CSt.ry {h h2 : Mem} {g : GS} {a b : Nat} {x : RES} (hc : CSt h g) (hr : RyC h h2 a b R C K M x) (hab : (a = 30 ∧ b = 29) ∨ (a = 40 ∧ b = 44) ∨ (a = 51 ∧ b = 55) ∨ (a = 57 ∧ b = 61)) : CSt h2 g ∧ FM h h2 := by
  obtain ⟨-, -, -, -, r6, r8⟩ := hr
  refine ⟨hc.keep (fun x k q => ?_) (r8 _ _ (by omega) (by omega) (by omega)).2 (r8 _ _ (by omega) (by omega) (by omega)).2, fun x k q => r8 x k (by omega) (by omega) (by omega)⟩
  by_cases e : x = b
  · subst e
    rcases (show k = 6 by omega) with rfl
    exact r6
  · exact (r8 x k (by omega) (by omega) e).1
end RCORE
