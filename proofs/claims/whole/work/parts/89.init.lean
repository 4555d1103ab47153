section INITST
def wh0 : WH := (1, 1, fun _ => 0, fun _ => 0, fun _ => false, fun _ => 0, fun _ => 0, 0, 0, iI 1, [], [], fun _ => [], fun _ => none)
def gs0 : GS := (wh0, none, 0, fun _ => iI 0, fun _ => 0, fun _ => [], [])
theorem gv0 : GV gs0 := by
  refine ⟨⟨⟨by decide, by decide, by decide, by decide, fun _ => Nat.zero_le _, fun _ => Nat.zero_le _⟩, ⟨fun _ => Nat.lt_of_lt_of_le (Nat.zero_lt_succ 1) (Nat.le_add_right 2 _), fun _ => Nat.zero_le _, fun _ _ => ⟨rfl, rfl⟩⟩, by decide, by decide, by decide, by decide, fun u => ⟨Nat.zero_le _, ?_⟩, fun u l e => (nomatch e)⟩, fun s e => (nomatch e), fun u hu => ⟨Nat.zero_le _, Or.inl rfl, fun _ => rfl, fun x hx => absurd (show x ∈ ([] : List Int32) from hx) List.not_mem_nil⟩, Nat.zero_le _, ⟨fun _ => rfl, fun _ => rfl⟩⟩
  show LTie u [] none
  unfold LTie
  rfl
theorem ls_nil {h : Mem} {a i : Nat} : LSt h a i [] := fun k hk => absurd hk (Nat.not_lt_zero k)
theorem in_4 : ∀ q, q < 25 → gI hInit 4 q = iI 0 := by decide +kernel
theorem in_5 : ∀ q, q < 25 → gI hInit 5 q = iI 0 := by decide +kernel
theorem in_6 : ∀ q, q < 25 → gI hInit 6 q = iI 0 := by decide +kernel
theorem in_1 : ∀ e, e < 6 → gI hInit 1 e = iI 0 := by decide +kernel
theorem in_77 : ∀ e, e < 6 → gI hInit 77 e = iI 0 := by decide +kernel
theorem in_sh : ∀ u, u < 4 → gI hInit (64 + 2 * u) 0 = iI 0 ∧ gI hInit (64 + 2 * u) 1 = iI 0 := by decide +kernel
theorem in_83 : ∀ u, u < 4 → gI hInit 83 u = iI 0 ∧ gI hInit 84 u = iI 0 := by decide +kernel
theorem in_73 : ∀ q, q < 25 → gI hInit 73 (10 + 5 * q) = iI 0 ∧ gI hInit 73 (10 + 5 * q + 1) = iI 0 ∧ gI hInit 73 (10 + 5 * q + 2) = bn false ∧ gI hInit 73 (10 + 5 * q + 3) = iI 0 ∧ gI hInit 73 (10 + 5 * q + 4) = iI 0 := by decide +kernel
theorem c_init : CSt hInit gs0 := by
  refine ⟨⟨⟨by decide +kernel, by decide +kernel, in_4, in_5, in_6, ?_, ?_⟩, by decide +kernel, ls_nil, by decide +kernel, ls_nil, by decide +kernel, by decide +kernel, by decide +kernel, by decide +kernel, ls_nil, by decide +kernel, ls_nil, by decide +kernel, by decide +kernel⟩, fun s e => (nomatch e), by decide +kernel, fun e _ he => in_1 e (by omega), fun u hu => ⟨(in_sh u hu).1, (in_sh u hu).2, ls_nil⟩, by decide +kernel, ls_nil, by decide +kernel, by decide +kernel, by decide +kernel, by decide +kernel, by decide +kernel, by decide +kernel⟩
  · show gI hInit 3 5 = slW (fun _ => false)
    rw [sl_zero]; decide +kernel
  · show gL hInit 3 6 = tmW (fun _ => 0)
    rw [tm_zero]; decide +kernel
theorem m_init : MSt hInit gs0 := by
  refine ⟨⟨⟨by decide +kernel, by decide +kernel, in_73⟩, by decide +kernel, by decide +kernel, by decide +kernel, by decide +kernel, ls_nil, by decide +kernel, ls_nil, ?_, ?_⟩, fun s e => (nomatch e), by decide +kernel, by decide +kernel, fun e _ he => in_77 e (by omega), fun u hu => ⟨(in_83 u hu).1, (in_83 u hu).2, fun k hk => absurd hk (Nat.not_lt_zero k)⟩, by decide +kernel, ls_nil, by decide +kernel, by decide +kernel⟩
  · show gI hInit 73 7 = iI (-1)
    decide +kernel
  · show gI hInit 73 8 = iI (-1)
    decide +kernel
theorem li_init : LI 0 hInit := ⟨gs0, c_init, m_init, gv0, Nat.le_refl 0⟩
end INITST
