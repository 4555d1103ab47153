def TT : List Cond := lw_tbl.filter goodWord
theorem TT_mem {w : Cond} (i : Nat) (h : lw_tbl[i]? = some w) (hg : goodWord w = true) : w ∈ TT := List.mem_filter.mpr ⟨List.mem_of_getElem? h, hg⟩
theorem tm_0 : (.fieldLink RX3 29 "TurnedBeam$Hall" "times" "J") ∈ TT := by decide +kernel
