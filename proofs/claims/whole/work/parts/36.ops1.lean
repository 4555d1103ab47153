/-! the operations, one after another: what the class answers, what the model answers -/
def OPC (h : Mem) (o : Option (Int32 × Mem)) (v : Int32) (g : GS) : Prop := ∃ h1, o = some (v, h1) ∧ CSt h1 g ∧ FM h h1
def OPM (h : Mem) (o : Option (Int32 × Mem)) (v : Int32) (g : GS) : Prop := ∃ h1, o = some (v, h1) ∧ MSt h1 g ∧ FC h h1
def GS.fail (g : GS) (e : Nat) : GS := (g.now, g.kept, g.images, fun i => if i = e then g.fl e + iI 1 else g.fl i, g.bits, g.sheet, g.trace)
/-- the bounds of both states -/
def GV (g : GS) : Prop := WV g.now ∧ (∀ s, g.kept = some s → WV s) ∧ (∀ u, u < 4 → SHV (g.bits u) (g.sheet u)) ∧ g.trace.length ≤ 40 ∧ (g.images = 0 ↔ g.kept = none)
theorem GV.fail {g : GS} (hg : GV g) (e : Nat) : GV (g.fail e) := hg
theorem c_fail {h : Mem} {g : GS} {e : Nat} (hc : CSt h g) (he : 1 ≤ e ∧ e ≤ 5) : OPC h (f_X10_fail h (iI e)) (iI (-1000000000 - (e : Int))) (g.fail e) := by
  rw [w_fail he]
  refine ⟨_, rfl, ?_, fun x k hx => ⟨gI_ne (by omega), rfl⟩⟩
  have hk : CSt (sI h 1 e (gI h 1 e + iI 1)) (g.now, g.kept, g.images, fun i => gI (sI h 1 e (gI h 1 e + iI 1)) 1 i, g.bits, g.sheet, g.trace) := by
    obtain ⟨h1, h2', h3, h4, h5, h6, h7, h8, h9, h10, h11, h12, h13⟩ := hc
    refine ⟨h1.cong (fun x k p q => gI_ne (by omega)) rfl, fun s hs => (h2' s hs).cong (fun x k p q => gI_ne (by omega)) rfl, ?_, fun n p q => rfl, fun u hu => ?_, ?_, h7.cong fun k => gI_ne (by omega), ?_, ?_, ?_, ?_, ?_, ?_⟩
    · rw [gI_ne (by omega)]; exact h3
    · obtain ⟨a1, a2, a3⟩ := h5 u hu
      exact ⟨by rw [gI_ne (by omega)]; exact a1, by rw [gI_ne (by omega)]; exact a2, a3.cong fun k => gI_ne (by omega)⟩
    all_goals (rw [gI_ne (by omega)]; assumption)
  refine ⟨hk.1, hk.2.1, hk.2.2.1, fun n p q => ?_, hk.2.2.2.2⟩
  show _ = if n = e then g.fl e + iI 1 else g.fl n
  by_cases hn : n = e
  · rw [if_pos hn, hn, gI_same, hc.2.2.2.1 e he.1 he.2]
  · rw [if_neg hn, gI_ne (by omega)]; exact hc.2.2.2.1 n p q
theorem c_errs {h : Mem} {g : GS} {e : Nat} (hm : MSt h g) (hg : GV g) (he : 1 ≤ e ∧ e ≤ 5) : OPM h (f_X11_errs h (iI (-1000000000 - (e : Int)))) (iI (-1000000000 - (e : Int))) (g.fail e) := by
  rw [m_errs he]
  refine ⟨_, rfl, ?_, fun x k hx => ⟨gI_ne (by omega), rfl⟩⟩
  obtain ⟨h1, h2', h3, h4, h5, h6, h7, h8, h9, h10⟩ := hm
  refine ⟨h1.copy hg.1 fun k hk => gI_ne (by omega), fun s hs => (h2' s hs).copy (hg.2.1 s hs) fun k hk => gI_ne (by omega), by rw [gI_ne (by omega)]; exact h3, by rw [gI_ne (by omega)]; exact h4, fun n p q => ?_, fun u hu => ?_, by rw [gI_ne (by omega)]; exact h7, h8.cong fun k => gI_ne (by omega), by rw [gI_ne (by omega)]; exact h9, by rw [gI_ne (by omega)]; exact h10⟩
  · show _ = if n = e then g.fl e + iI 1 else g.fl n
    by_cases hn : n = e
    · rw [if_pos hn, hn, gI_same, h5 e he.1 he.2]
    · rw [if_neg hn, gI_ne (by omega)]; exact h5 n p q
  · obtain ⟨a1, a2, a3⟩ := h6 u hu
    exact ⟨by rw [gI_ne (by omega)]; exact a1, by rw [gI_ne (by omega)]; exact a2, fun k hk => by rw [gI_ne (by omega)]; exact a3 k hk⟩
