section HALLOP3
theorem MSt.row {h h2 : Mem} {g : GS} {R C : Nat} {K M T L : Nat → Nat} {S : Nat → Bool} (hm : MSt h g) (hg : GV g) (hh : RM h2 73 R C K M S T L) (e : ∀ x k, x ≠ 73 ∨ (2 ≤ k ∧ k < 10) ∨ (135 ≤ k ∧ k < 305) → (x ≠ 72 ∨ k = 4 ∨ k = 5 ∨ k = 12 ∨ k = 13 ∨ k = 40) → x ≠ 75 → gI h2 x k = gI h x k) : MSt h2 (g.put (g.now.row R C K M S T L)) := by
  obtain ⟨h1, h2', h3, h4, h5, h6, h7, h8, h9, h10⟩ := hm
  obtain ⟨p1, p2, p3, p4, p5, p6, p7, p8, p9, p10⟩ := h1
  obtain ⟨-, -, -, -, v5, v6, -, v8⟩ := hg.1
  have tx : ∀ u t, u < 2 → TX h 73 u t → (∀ l, t = some l → l.length ≤ 50) → TX h2 73 u t := fun u t hu ht h50 => by
    cases t with
    | none => exact (e _ _ (by omega) (by omega) (by omega)).trans ht
    | some l => exact ⟨(e _ _ (by omega) (by omega) (by omega)).trans ht.1, fun k hk => (e _ _ (by have := h50 l rfl; omega) (by omega) (by omega)).trans (ht.2 k hk)⟩
  refine ⟨⟨hh, (e _ _ (by omega) (by omega) (by omega)).trans p2, (e _ _ (by omega) (by omega) (by omega)).trans p3, (e _ _ (by omega) (by omega) (by omega)).trans p4, (e _ _ (by omega) (by omega) (by omega)).trans p5, fun k hk => (e _ _ (by have : k < g.now.tape.length := hk; omega) (by omega) (by omega)).trans (p6 k hk), (e _ _ (by omega) (by omega) (by omega)).trans p7, fun k hk => (e _ _ (by have : k < g.now.waits.length := hk; omega) (by omega) (by omega)).trans (p8 k hk), tx 0 _ (by omega) p9 (v8 0), tx 1 _ (by omega) p10 (v8 1)⟩, fun s hs => (h2' s hs).copy (hg.2.1 s hs) fun k hk => e _ _ (by omega) (by omega) (by omega), (e _ _ (by omega) (by omega) (by omega)).trans h3, (e _ _ (by omega) (by omega) (by omega)).trans h4, fun n p q => (e _ _ (by omega) (by omega) (by omega)).trans (h5 n p q), fun u hu => ?_, (e _ _ (by omega) (by omega) (by omega)).trans h7, h8.cong fun k => e _ _ (by omega) (by omega) (by omega), (e _ _ (by omega) (by omega) (by omega)).trans h9, (e _ _ (by omega) (by omega) (by omega)).trans h10⟩
  obtain ⟨a1, a2, a3⟩ := h6 u hu
  exact ⟨(e _ _ (by omega) (by omega) (by omega)).trans a1, (e _ _ (by omega) (by omega) (by omega)).trans a2, fun k hk => (e _ _ (by omega) (by omega) (by omega)).trans (a3 k hk)⟩
end HALLOP3
