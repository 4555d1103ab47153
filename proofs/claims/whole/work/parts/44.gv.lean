section GVROW
theorem GV.row {g : GS} {R C : Nat} {K M T L : Nat → Nat} {S : Nat → Bool} (hg : GV g) (hV : VS R C K M) (hD : VD R C M S T L) : GV (g.put (g.now.row R C K M S T L)) := by
  obtain ⟨⟨-, -, v3, v4, v5, v6, v7, v8⟩, g2, g3, g4, g5⟩ := hg
  exact ⟨⟨hV, hD, v3, v4, v5, v6, v7, v8⟩, g2, g3, g4, g5⟩
theorem GV.hall0 {g : GS} {R C : Nat} (hg : GV g) (hR : 1 ≤ R ∧ R ≤ 5) (hC : 1 ≤ C ∧ C ≤ 5) : GV (hall0 g R C) :=
  hg.row ⟨hR.1, hR.2, hC.1, hC.2, fun _ => Nat.zero_le _, fun _ => Nat.zero_le _⟩ ⟨fun _ => Nat.lt_of_lt_of_le (Nat.zero_lt_succ 1) (Nat.le_add_right 2 _), fun _ => Nat.zero_le _, fun _ _ => ⟨rfl, rfl⟩⟩
theorem upN_lt {K : Nat → Nat} {q k n : Nat} (h : ∀ p, K p ≤ n) (hk : k ≤ n) : ∀ p, upN K q k p ≤ n := fun p => by
  unfold upN; split
  · exact hk
  · exact h p
theorem GV.sqr0 {g : GS} {q k : Nat} {b : Bool} (hg : GV g) (hq : q < g.now.R * g.now.C) (hk : k ≤ 69) : GV (sqr0 g q k b) := by
  obtain ⟨v1, v2, v3, v4, vK, vM⟩ := hg.1.1
  obtain ⟨d1, d2, d3⟩ := hg.1.2.1
  refine hg.row ⟨v1, v2, v3, v4, upN_lt vK (by omega), upN_lt vM (by omega)⟩ ⟨fun p => ?_, d2, fun p hp => ?_⟩
  · unfold upN; split
    · omega
    · exact d1 p
  · have hn : p ≠ q := by omega
    unfold upB upN
    rw [if_neg hn, if_neg hn]
    exact d3 p hp
end GVROW
