section SQUAREOP
theorem w_become {h : Mem} {a q k m R C : Nat} {K M T L : Nat → Nat} {S : Nat → Bool} {b : Bool} (hh : HC h a R C K M S T L) (hT : ∀ q, T q < 4) (hq : q < 25) :
    ∃ h2, f_X3_become h a (iI q) (iI k) (iI m) (bn b) = some h2 ∧ HC h2 a R C (upN K q k) (upN M q m) (upB S q b) (upN T q 0) L ∧ (∀ x j, x < a ∨ a + 3 < x → gI h2 x j = gI h x j) ∧ (∀ x j, x ≠ a → gL h2 x j = gL h x j) := by
  obtain ⟨h1, h2', h3, h4, h5, h6, h7⟩ := hh
  unfold f_X3_become
  rw [ast_i (by omega) (by omega), ast_i (by omega) (by omega), Int.toNat_natCast, nm_eq, gI_ne (by omega), gI_ne (by omega), h6, sl_set hq]
  rw [show f_X3_putTime _ a (iI q) (iI 0) = _ from h_putTime (T := T) (t := 0) (by rw [gL_sI, gL_sI, gL_sI]; exact h7) hT hq (by omega), cal_some]
  refine ⟨_, rfl, ⟨?_, ?_, fun p hp => upN_ok (fun e => ?_) (fun e => ?_), fun p hp => upN_ok (fun e => ?_) (fun e => ?_), fun p hp => ?_, ?_, ?_⟩, fun x j hx => ?_, fun x j hx => ?_⟩
  · rw [gI_sL, gI_ne (by omega), gI_ne (by omega), gI_ne (by omega)]; exact h1
  · rw [gI_sL, gI_ne (by omega), gI_ne (by omega), gI_ne (by omega)]; exact h2'
  · rw [gI_sL, gI_ne (by omega), gI_ne (by omega), e, gI_same]
  · rw [gI_sL, gI_ne (by omega), gI_ne (by omega), gI_ne (by omega)]; exact h3 p hp
  · rw [gI_sL, gI_ne (by omega), e, gI_same]
  · rw [gI_sL, gI_ne (by omega), gI_ne (by omega), gI_ne (by omega)]; exact h4 p hp
  · rw [gI_sL, gI_ne (by omega), gI_ne (by omega), gI_ne (by omega)]; exact h5 p hp
  · rw [gI_sL, gI_same]
  · rw [gL_same]
  · rw [gI_sL, gI_ne (by omega), gI_ne (by omega), gI_ne (by omega)]
  · rw [gL_ne (by omega), gL_sI, gL_sI, gL_sI]
end SQUAREOP
