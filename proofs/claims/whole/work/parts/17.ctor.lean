theorem oi_X3_1 : Cond.methodLink RX3 1 objectInit ∈ TT ∧ Cond.instanceMethod objectInit ∈ TT ∧ Cond.code objectInit ⟨#[0xb1]⟩ 1 none ∈ TT := ⟨TT_mem 133 (by decide +kernel) (by decide +kernel), TT_mem 120 (by decide +kernel) (by decide +kernel), TT_mem 121 (by decide +kernel) (by decide +kernel)⟩
theorem cfp_X3_7 : CFP RX3 7 3 0 0 .int false := ⟨_, _, _, _, rfl, inX3, tyX3_ok, nmX3, by decide, rfl, TT_mem 134 (by decide +kernel) (by decide +kernel), rfl, by decide +kernel, by decide +kernel⟩
theorem cfp_X3_13 : CFP RX3 13 3 1 0 .int false := ⟨_, _, _, _, rfl, inX3, tyX3_ok, nmX3, by decide, rfl, TT_mem 137 (by decide +kernel) (by decide +kernel), rfl, by decide +kernel, by decide +kernel⟩
theorem cfp_X3_16 : CFP RX3 16 3 2 3 (.array .int) true := ⟨_, _, _, _, rfl, inX3, tyX3_ok, nmX3, by decide, rfl, TT_mem 141 (by decide +kernel) (by decide +kernel), rfl, by decide +kernel, by decide +kernel⟩
theorem cfp_X3_20 : CFP RX3 20 3 3 4 (.array .int) true := ⟨_, _, _, _, rfl, inX3, tyX3_ok, nmX3, by decide, rfl, TT_mem 146 (by decide +kernel) (by decide +kernel), rfl, by decide +kernel, by decide +kernel⟩
theorem cfp_X3_23 : CFP RX3 23 3 4 5 (.array .int) true := ⟨_, _, _, _, rfl, inX3, tyX3_ok, nmX3, by decide, rfl, TT_mem 150 (by decide +kernel) (by decide +kernel), rfl, by decide +kernel, by decide +kernel⟩
theorem cfp_X3_26 : CFP RX3 26 3 5 0 .int false := ⟨_, _, _, _, rfl, inX3, tyX3_ok, nmX3, by decide, rfl, TT_mem 152 (by decide +kernel) (by decide +kernel), rfl, by decide +kernel, by decide +kernel⟩
theorem cfp_X3_29 : CFP RX3 29 3 6 1 .long false := ⟨_, _, _, _, rfl, inX3, tyX3_ok, nmX3, by decide, rfl, TT_mem 157 (by decide +kernel) (by decide +kernel), rfl, by decide +kernel, by decide +kernel⟩
theorem oi_X5_1 : Cond.methodLink RX5 1 objectInit ∈ TT ∧ Cond.instanceMethod objectInit ∈ TT ∧ Cond.code objectInit ⟨#[0xb1]⟩ 1 none ∈ TT := ⟨TT_mem 182 (by decide +kernel) (by decide +kernel), TT_mem 120 (by decide +kernel) (by decide +kernel), TT_mem 121 (by decide +kernel) (by decide +kernel)⟩
theorem cfp_X5_9 : CFP RX5 9 5 1 3 (.array .int) true := ⟨_, _, _, _, rfl, inX5, tyX5_ok, nmX5, by decide, rfl, TT_mem 184 (by decide +kernel) (by decide +kernel), rfl, by decide +kernel, by decide +kernel⟩
theorem cfp_X5_15 : CFP RX5 15 5 2 0 .int false := ⟨_, _, _, _, rfl, inX5, tyX5_ok, nmX5, by decide, rfl, TT_mem 185 (by decide +kernel) (by decide +kernel), rfl, by decide +kernel, by decide +kernel⟩
theorem cfp_X5_19 : CFP RX5 19 5 3 4 (.array .int) true := ⟨_, _, _, _, rfl, inX5, tyX5_ok, nmX5, by decide, rfl, TT_mem 186 (by decide +kernel) (by decide +kernel), rfl, by decide +kernel, by decide +kernel⟩
theorem cfp_X5_22 : CFP RX5 22 5 0 0 .int true := ⟨_, _, _, _, rfl, inX5, tyX5_ok, nmX5, by decide, rfl, TT_mem 183 (by decide +kernel) (by decide +kernel), rfl, by decide +kernel, by decide +kernel⟩
theorem oi_X0_1 : Cond.methodLink RX0 1 objectInit ∈ TT ∧ Cond.instanceMethod objectInit ∈ TT ∧ Cond.code objectInit ⟨#[0xb1]⟩ 1 none ∈ TT := ⟨TT_mem 243 (by decide +kernel) (by decide +kernel), TT_mem 120 (by decide +kernel) (by decide +kernel), TT_mem 121 (by decide +kernel) (by decide +kernel)⟩
theorem cfp_X0_7 : CFP RX0 7 0 0 0 .int false := ⟨_, _, _, _, rfl, inX0, tyX0_ok, nmX0, by decide, rfl, TT_mem 244 (by decide +kernel) (by decide +kernel), rfl, by decide +kernel, by decide +kernel⟩
theorem cfp_X0_13 : CFP RX0 13 0 1 0 .int false := ⟨_, _, _, _, rfl, inX0, tyX0_ok, nmX0, by decide, rfl, TT_mem 245 (by decide +kernel) (by decide +kernel), rfl, by decide +kernel, by decide +kernel⟩
theorem cfp_X0_16 : CFP RX0 16 0 2 0 .int false := ⟨_, _, _, _, rfl, inX0, tyX0_ok, nmX0, by decide, rfl, TT_mem 246 (by decide +kernel) (by decide +kernel), rfl, by decide +kernel, by decide +kernel⟩
theorem cfp_X0_19 : CFP RX0 19 0 3 0 .int false := ⟨_, _, _, _, rfl, inX0, tyX0_ok, nmX0, by decide, rfl, TT_mem 247 (by decide +kernel) (by decide +kernel), rfl, by decide +kernel, by decide +kernel⟩
theorem cfp_X0_22 : CFP RX0 22 0 4 0 .int false := ⟨_, _, _, _, rfl, inX0, tyX0_ok, nmX0, by decide, rfl, TT_mem 250 (by decide +kernel) (by decide +kernel), rfl, by decide +kernel, by decide +kernel⟩
theorem cfp_X0_25 : CFP RX0 25 0 5 0 .int false := ⟨_, _, _, _, rfl, inX0, tyX0_ok, nmX0, by decide, rfl, TT_mem 253 (by decide +kernel) (by decide +kernel), rfl, by decide +kernel, by decide +kernel⟩
theorem cfp_X0_28 : CFP RX0 28 0 6 0 .int false := ⟨_, _, _, _, rfl, inX0, tyX0_ok, nmX0, by decide, rfl, TT_mem 255 (by decide +kernel) (by decide +kernel), rfl, by decide +kernel, by decide +kernel⟩
theorem cfp_X0_31 : CFP RX0 31 0 7 0 .int false := ⟨_, _, _, _, rfl, inX0, tyX0_ok, nmX0, by decide, rfl, TT_mem 256 (by decide +kernel) (by decide +kernel), rfl, by decide +kernel, by decide +kernel⟩
theorem oi_X7_1 : Cond.methodLink RX7 1 objectInit ∈ TT ∧ Cond.instanceMethod objectInit ∈ TT ∧ Cond.code objectInit ⟨#[0xb1]⟩ 1 none ∈ TT := ⟨TT_mem 462 (by decide +kernel) (by decide +kernel), TT_mem 120 (by decide +kernel) (by decide +kernel), TT_mem 121 (by decide +kernel) (by decide +kernel)⟩
theorem cfp_X7_7 : CFP RX7 7 7 0 0 .int false := ⟨_, _, _, _, rfl, inX7, tyX7_ok, nmX7, by decide, rfl, TT_mem 463 (by decide +kernel) (by decide +kernel), rfl, by decide +kernel, by decide +kernel⟩
theorem cfp_X7_13 : CFP RX7 13 7 1 0 .int false := ⟨_, _, _, _, rfl, inX7, tyX7_ok, nmX7, by decide, rfl, TT_mem 465 (by decide +kernel) (by decide +kernel), rfl, by decide +kernel, by decide +kernel⟩
theorem cfp_X7_16 : CFP RX7 16 7 2 3 (.array .int) true := ⟨_, _, _, _, rfl, inX7, tyX7_ok, nmX7, by decide, rfl, TT_mem 468 (by decide +kernel) (by decide +kernel), rfl, by decide +kernel, by decide +kernel⟩
theorem oi_X9_1 : Cond.methodLink RX9 1 objectInit ∈ TT ∧ Cond.instanceMethod objectInit ∈ TT ∧ Cond.code objectInit ⟨#[0xb1]⟩ 1 none ∈ TT := ⟨TT_mem 127 (by decide +kernel) (by decide +kernel), TT_mem 120 (by decide +kernel) (by decide +kernel), TT_mem 121 (by decide +kernel) (by decide +kernel)⟩
theorem cnew_X9_7 : CNEW RX9 7 3 7 := ⟨_, _, _, rfl, inX3, tyX3_ok, (fun j hj => by rcases (show j = 0 ∨ j = 1 ∨ j = 2 ∨ j = 3 ∨ j = 4 ∨ j = 5 ∨ j = 6 by omega) with rfl | rfl | rfl | rfl | rfl | rfl | rfl <;> rfl), TT_mem 128 (by decide +kernel) (by decide +kernel), TT_mem 129 (by decide +kernel) (by decide +kernel), TT_mem 100 (by decide +kernel) (by decide +kernel)⟩
theorem cc_X9_9 : CC RX9 9 yX3_init cX3_init 1 0 := ⟨Or.inl ⟨"TurnedBeam", List.mem_of_getElem? (i := 1) rfl⟩, TT_mem 131 (by decide +kernel) (by decide +kernel), TT_mem 100 (by decide +kernel) (by decide +kernel), TT_mem 132 (by decide +kernel) (by decide +kernel), rfl, (by decide +kernel), (by decide +kernel), (by decide +kernel)⟩
theorem cfp_X9_10 : CFP RX9 10 9 0 3 (.object "TurnedBeam$Hall") true := ⟨_, _, _, _, rfl, inX9, tyX9_ok, nmX9, by decide, rfl, TT_mem 196 (by decide +kernel) (by decide +kernel), rfl, by decide +kernel, by decide +kernel⟩
theorem cnew_X9_16 : CNEW RX9 16 5 4 := ⟨_, _, _, rfl, inX5, tyX5_ok, (fun j hj => by rcases (show j = 0 ∨ j = 1 ∨ j = 2 ∨ j = 3 by omega) with rfl | rfl | rfl | rfl <;> rfl), TT_mem 177 (by decide +kernel) (by decide +kernel), TT_mem 178 (by decide +kernel) (by decide +kernel), TT_mem 101 (by decide +kernel) (by decide +kernel)⟩
theorem cc_X9_18 : CC RX9 18 yX5_init cX5_init 2 1 := ⟨Or.inr (TT_mem 179 (by decide +kernel) (by decide +kernel)), TT_mem 180 (by decide +kernel) (by decide +kernel), TT_mem 101 (by decide +kernel) (by decide +kernel), TT_mem 181 (by decide +kernel) (by decide +kernel), rfl, (by decide +kernel), (by decide +kernel), (by decide +kernel)⟩
theorem cfp_X9_21 : CFP RX9 21 9 1 7 (.object "TurnedBeam$Law") true := ⟨_, _, _, _, rfl, inX9, tyX9_ok, nmX9, by decide, rfl, TT_mem 199 (by decide +kernel) (by decide +kernel), rfl, by decide +kernel, by decide +kernel⟩
theorem cfp_X9_25 : CFP RX9 25 9 2 10 (.object "TurnedBeam$Law") true := ⟨_, _, _, _, rfl, inX9, tyX9_ok, nmX9, by decide, rfl, TT_mem 200 (by decide +kernel) (by decide +kernel), rfl, by decide +kernel, by decide +kernel⟩
theorem cfp_X9_28 : CFP RX9 28 9 3 13 (.array .int) true := ⟨_, _, _, _, rfl, inX9, tyX9_ok, nmX9, by decide, rfl, TT_mem 201 (by decide +kernel) (by decide +kernel), rfl, by decide +kernel, by decide +kernel⟩
theorem cfp_X9_32 : CFP RX9 32 9 4 0 .int false := ⟨_, _, _, _, rfl, inX9, tyX9_ok, nmX9, by decide, rfl, TT_mem 203 (by decide +kernel) (by decide +kernel), rfl, by decide +kernel, by decide +kernel⟩
theorem cfp_X9_36 : CFP RX9 36 9 5 14 (.array .int) true := ⟨_, _, _, _, rfl, inX9, tyX9_ok, nmX9, by decide, rfl, TT_mem 205 (by decide +kernel) (by decide +kernel), rfl, by decide +kernel, by decide +kernel⟩
theorem cfp_X9_39 : CFP RX9 39 9 6 0 .int false := ⟨_, _, _, _, rfl, inX9, tyX9_ok, nmX9, by decide, rfl, TT_mem 207 (by decide +kernel) (by decide +kernel), rfl, by decide +kernel, by decide +kernel⟩
theorem cfp_X9_42 : CFP RX9 42 9 7 0 .int false := ⟨_, _, _, _, rfl, inX9, tyX9_ok, nmX9, by decide, rfl, TT_mem 209 (by decide +kernel) (by decide +kernel), rfl, by decide +kernel, by decide +kernel⟩
theorem cfp_X9_45 : CFP RX9 45 9 8 0 .int false := ⟨_, _, _, _, rfl, inX9, tyX9_ok, nmX9, by decide, rfl, TT_mem 211 (by decide +kernel) (by decide +kernel), rfl, by decide +kernel, by decide +kernel⟩
theorem cfp_X9_48 : CFP RX9 48 9 9 0 .int false := ⟨_, _, _, _, rfl, inX9, tyX9_ok, nmX9, by decide, rfl, TT_mem 213 (by decide +kernel) (by decide +kernel), rfl, by decide +kernel, by decide +kernel⟩
theorem oi_X6_1 : Cond.methodLink RX6 1 objectInit ∈ TT ∧ Cond.instanceMethod objectInit ∈ TT ∧ Cond.code objectInit ⟨#[0xb1]⟩ 1 none ∈ TT := ⟨TT_mem 281 (by decide +kernel) (by decide +kernel), TT_mem 120 (by decide +kernel) (by decide +kernel), TT_mem 121 (by decide +kernel) (by decide +kernel)⟩
theorem cfp_X6_9 : CFP RX6 9 6 0 3 (.array .int) true := ⟨_, _, _, _, rfl, inX6, tyX6_ok, nmX6, by decide, rfl, TT_mem 282 (by decide +kernel) (by decide +kernel), rfl, by decide +kernel, by decide +kernel⟩
theorem cfp_X6_15 : CFP RX6 15 6 1 0 .int false := ⟨_, _, _, _, rfl, inX6, tyX6_ok, nmX6, by decide, rfl, TT_mem 284 (by decide +kernel) (by decide +kernel), rfl, by decide +kernel, by decide +kernel⟩
theorem cfp_X6_19 : CFP RX6 19 6 2 4 (.array .int) true := ⟨_, _, _, _, rfl, inX6, tyX6_ok, nmX6, by decide, rfl, TT_mem 286 (by decide +kernel) (by decide +kernel), rfl, by decide +kernel, by decide +kernel⟩
theorem cfp_X6_22 : CFP RX6 22 6 3 0 .int false := ⟨_, _, _, _, rfl, inX6, tyX6_ok, nmX6, by decide, rfl, TT_mem 287 (by decide +kernel) (by decide +kernel), rfl, by decide +kernel, by decide +kernel⟩
theorem cfp_X6_25 : CFP RX6 25 6 4 0 .int false := ⟨_, _, _, _, rfl, inX6, tyX6_ok, nmX6, by decide, rfl, TT_mem 288 (by decide +kernel) (by decide +kernel), rfl, by decide +kernel, by decide +kernel⟩
theorem cfp_X6_28 : CFP RX6 28 6 5 0 .int false := ⟨_, _, _, _, rfl, inX6, tyX6_ok, nmX6, by decide, rfl, TT_mem 289 (by decide +kernel) (by decide +kernel), rfl, by decide +kernel, by decide +kernel⟩
theorem cfp_X6_31 : CFP RX6 31 6 6 0 .boolean false := ⟨_, _, _, _, rfl, inX6, tyX6_ok, nmX6, by decide, rfl, TT_mem 290 (by decide +kernel) (by decide +kernel), rfl, by decide +kernel, by decide +kernel⟩
theorem oi_X8_1 : Cond.methodLink RX8 1 objectInit ∈ TT ∧ Cond.instanceMethod objectInit ∈ TT ∧ Cond.code objectInit ⟨#[0xb1]⟩ 1 none ∈ TT := ⟨TT_mem 311 (by decide +kernel) (by decide +kernel), TT_mem 120 (by decide +kernel) (by decide +kernel), TT_mem 121 (by decide +kernel) (by decide +kernel)⟩
theorem cfp_X8_9 : CFP RX8 9 8 0 3 (.array .int) true := ⟨_, _, _, _, rfl, inX8, tyX8_ok, nmX8, by decide, rfl, TT_mem 312 (by decide +kernel) (by decide +kernel), rfl, by decide +kernel, by decide +kernel⟩
theorem cfp_X8_13 : CFP RX8 13 8 1 0 .int false := ⟨_, _, _, _, rfl, inX8, tyX8_ok, nmX8, by decide, rfl, TT_mem 314 (by decide +kernel) (by decide +kernel), rfl, by decide +kernel, by decide +kernel⟩
theorem cfp_X8_17 : CFP RX8 17 8 2 0 .int false := ⟨_, _, _, _, rfl, inX8, tyX8_ok, nmX8, by decide, rfl, TT_mem 316 (by decide +kernel) (by decide +kernel), rfl, by decide +kernel, by decide +kernel⟩
theorem cfp_X8_20 : CFP RX8 20 8 3 0 .int false := ⟨_, _, _, _, rfl, inX8, tyX8_ok, nmX8, by decide, rfl, TT_mem 317 (by decide +kernel) (by decide +kernel), rfl, by decide +kernel, by decide +kernel⟩
theorem cfp_X8_23 : CFP RX8 23 8 4 0 .int false := ⟨_, _, _, _, rfl, inX8, tyX8_ok, nmX8, by decide, rfl, TT_mem 318 (by decide +kernel) (by decide +kernel), rfl, by decide +kernel, by decide +kernel⟩
theorem oi_X2_1 : Cond.methodLink RX2 1 objectInit ∈ TT ∧ Cond.instanceMethod objectInit ∈ TT ∧ Cond.code objectInit ⟨#[0xb1]⟩ 1 none ∈ TT := ⟨TT_mem 335 (by decide +kernel) (by decide +kernel), TT_mem 120 (by decide +kernel) (by decide +kernel), TT_mem 121 (by decide +kernel) (by decide +kernel)⟩
theorem cnew_X2_7 : CNEW RX2 7 3 7 := ⟨_, _, _, rfl, inX3, tyX3_ok, (fun j hj => by rcases (show j = 0 ∨ j = 1 ∨ j = 2 ∨ j = 3 ∨ j = 4 ∨ j = 5 ∨ j = 6 by omega) with rfl | rfl | rfl | rfl | rfl | rfl | rfl <;> rfl), TT_mem 336 (by decide +kernel) (by decide +kernel), TT_mem 129 (by decide +kernel) (by decide +kernel), TT_mem 100 (by decide +kernel) (by decide +kernel)⟩
theorem cc_X2_9 : CC RX2 9 yX3_init cX3_init 1 0 := ⟨Or.inl ⟨"TurnedBeam", List.mem_of_getElem? (i := 7) rfl⟩, TT_mem 131 (by decide +kernel) (by decide +kernel), TT_mem 100 (by decide +kernel) (by decide +kernel), TT_mem 132 (by decide +kernel) (by decide +kernel), rfl, (by decide +kernel), (by decide +kernel), (by decide +kernel)⟩
theorem cfp_X2_10 : CFP RX2 10 2 0 3 (.object "TurnedBeam$Hall") true := ⟨_, _, _, _, rfl, inX2, tyX2_ok, nmX2, by decide, rfl, TT_mem 340 (by decide +kernel) (by decide +kernel), rfl, by decide +kernel, by decide +kernel⟩
theorem cnew_X2_16 : CNEW RX2 16 0 8 := ⟨_, _, _, rfl, inX0, tyX0_ok, (fun j hj => by rcases (show j = 0 ∨ j = 1 ∨ j = 2 ∨ j = 3 ∨ j = 4 ∨ j = 5 ∨ j = 6 ∨ j = 7 by omega) with rfl | rfl | rfl | rfl | rfl | rfl | rfl | rfl <;> rfl), TT_mem 338 (by decide +kernel) (by decide +kernel), TT_mem 239 (by decide +kernel) (by decide +kernel), TT_mem 102 (by decide +kernel) (by decide +kernel)⟩
theorem cc_X2_18 : CC RX2 18 yX0_init cX0_init 1 0 := ⟨Or.inl ⟨"TurnedBeam", List.mem_of_getElem? (i := 8) rfl⟩, TT_mem 241 (by decide +kernel) (by decide +kernel), TT_mem 102 (by decide +kernel) (by decide +kernel), TT_mem 242 (by decide +kernel) (by decide +kernel), rfl, (by decide +kernel), (by decide +kernel), (by decide +kernel)⟩
theorem cfp_X2_19 : CFP RX2 19 2 1 7 (.object "TurnedBeam$Beam") true := ⟨_, _, _, _, rfl, inX2, tyX2_ok, nmX2, by decide, rfl, TT_mem 341 (by decide +kernel) (by decide +kernel), rfl, by decide +kernel, by decide +kernel⟩
theorem cfp_X2_23 : CFP RX2 23 2 2 8 (.array .int) true := ⟨_, _, _, _, rfl, inX2, tyX2_ok, nmX2, by decide, rfl, TT_mem 342 (by decide +kernel) (by decide +kernel), rfl, by decide +kernel, by decide +kernel⟩
theorem cfp_X2_27 : CFP RX2 27 2 3 9 (.array .int) true := ⟨_, _, _, _, rfl, inX2, tyX2_ok, nmX2, by decide, rfl, TT_mem 344 (by decide +kernel) (by decide +kernel), rfl, by decide +kernel, by decide +kernel⟩
theorem cfp_X2_30 : CFP RX2 30 2 4 10 (.array .long) true := ⟨_, _, _, _, rfl, inX2, tyX2_ok, nmX2, by decide, rfl, TT_mem 345 (by decide +kernel) (by decide +kernel), rfl, by decide +kernel, by decide +kernel⟩
theorem cfp_X2_34 : CFP RX2 34 2 5 11 (.array .int) true := ⟨_, _, _, _, rfl, inX2, tyX2_ok, nmX2, by decide, rfl, TT_mem 346 (by decide +kernel) (by decide +kernel), rfl, by decide +kernel, by decide +kernel⟩
theorem cfp_X2_37 : CFP RX2 37 2 6 12 (.array .long) true := ⟨_, _, _, _, rfl, inX2, tyX2_ok, nmX2, by decide, rfl, TT_mem 347 (by decide +kernel) (by decide +kernel), rfl, by decide +kernel, by decide +kernel⟩
theorem cfp_X2_40 : CFP RX2 40 2 7 0 .int false := ⟨_, _, _, _, rfl, inX2, tyX2_ok, nmX2, by decide, rfl, TT_mem 348 (by decide +kernel) (by decide +kernel), rfl, by decide +kernel, by decide +kernel⟩
theorem cfp_X2_44 : CFP RX2 44 2 8 0 .int false := ⟨_, _, _, _, rfl, inX2, tyX2_ok, nmX2, by decide, rfl, TT_mem 349 (by decide +kernel) (by decide +kernel), rfl, by decide +kernel, by decide +kernel⟩
theorem cfp_X2_47 : CFP RX2 47 2 9 0 .int false := ⟨_, _, _, _, rfl, inX2, tyX2_ok, nmX2, by decide, rfl, TT_mem 351 (by decide +kernel) (by decide +kernel), rfl, by decide +kernel, by decide +kernel⟩
theorem oi_X4_1 : Cond.methodLink RX4 1 objectInit ∈ TT ∧ Cond.instanceMethod objectInit ∈ TT ∧ Cond.code objectInit ⟨#[0xb1]⟩ 1 none ∈ TT := ⟨TT_mem 380 (by decide +kernel) (by decide +kernel), TT_mem 120 (by decide +kernel) (by decide +kernel), TT_mem 121 (by decide +kernel) (by decide +kernel)⟩
theorem cnew_X4_7 : CNEW RX4 7 3 7 := ⟨_, _, _, rfl, inX3, tyX3_ok, (fun j hj => by rcases (show j = 0 ∨ j = 1 ∨ j = 2 ∨ j = 3 ∨ j = 4 ∨ j = 5 ∨ j = 6 by omega) with rfl | rfl | rfl | rfl | rfl | rfl | rfl <;> rfl), TT_mem 381 (by decide +kernel) (by decide +kernel), TT_mem 129 (by decide +kernel) (by decide +kernel), TT_mem 100 (by decide +kernel) (by decide +kernel)⟩
theorem cc_X4_9 : CC RX4 9 yX3_init cX3_init 1 0 := ⟨Or.inl ⟨"TurnedBeam", List.mem_of_getElem? (i := 10) rfl⟩, TT_mem 131 (by decide +kernel) (by decide +kernel), TT_mem 100 (by decide +kernel) (by decide +kernel), TT_mem 132 (by decide +kernel) (by decide +kernel), rfl, (by decide +kernel), (by decide +kernel), (by decide +kernel)⟩
theorem cfp_X4_10 : CFP RX4 10 4 0 3 (.object "TurnedBeam$Hall") true := ⟨_, _, _, _, rfl, inX4, tyX4_ok, nmX4, by decide, rfl, TT_mem 385 (by decide +kernel) (by decide +kernel), rfl, by decide +kernel, by decide +kernel⟩
theorem cnew_X4_16 : CNEW RX4 16 0 8 := ⟨_, _, _, rfl, inX0, tyX0_ok, (fun j hj => by rcases (show j = 0 ∨ j = 1 ∨ j = 2 ∨ j = 3 ∨ j = 4 ∨ j = 5 ∨ j = 6 ∨ j = 7 by omega) with rfl | rfl | rfl | rfl | rfl | rfl | rfl | rfl <;> rfl), TT_mem 383 (by decide +kernel) (by decide +kernel), TT_mem 239 (by decide +kernel) (by decide +kernel), TT_mem 102 (by decide +kernel) (by decide +kernel)⟩
theorem cc_X4_18 : CC RX4 18 yX0_init cX0_init 1 0 := ⟨Or.inl ⟨"TurnedBeam", List.mem_of_getElem? (i := 11) rfl⟩, TT_mem 241 (by decide +kernel) (by decide +kernel), TT_mem 102 (by decide +kernel) (by decide +kernel), TT_mem 242 (by decide +kernel) (by decide +kernel), rfl, (by decide +kernel), (by decide +kernel), (by decide +kernel)⟩
theorem cfp_X4_19 : CFP RX4 19 4 1 7 (.object "TurnedBeam$Beam") true := ⟨_, _, _, _, rfl, inX4, tyX4_ok, nmX4, by decide, rfl, TT_mem 386 (by decide +kernel) (by decide +kernel), rfl, by decide +kernel, by decide +kernel⟩
theorem cfp_X4_23 : CFP RX4 23 4 2 0 .int false := ⟨_, _, _, _, rfl, inX4, tyX4_ok, nmX4, by decide, rfl, TT_mem 387 (by decide +kernel) (by decide +kernel), rfl, by decide +kernel, by decide +kernel⟩
theorem cfp_X4_27 : CFP RX4 27 4 3 0 .int false := ⟨_, _, _, _, rfl, inX4, tyX4_ok, nmX4, by decide, rfl, TT_mem 388 (by decide +kernel) (by decide +kernel), rfl, by decide +kernel, by decide +kernel⟩
theorem cfp_X4_30 : CFP RX4 30 4 4 0 .int false := ⟨_, _, _, _, rfl, inX4, tyX4_ok, nmX4, by decide, rfl, TT_mem 389 (by decide +kernel) (by decide +kernel), rfl, by decide +kernel, by decide +kernel⟩
theorem cfp_X4_33 : CFP RX4 33 4 5 0 .int false := ⟨_, _, _, _, rfl, inX4, tyX4_ok, nmX4, by decide, rfl, TT_mem 391 (by decide +kernel) (by decide +kernel), rfl, by decide +kernel, by decide +kernel⟩
theorem cfp_X4_36 : CFP RX4 36 4 6 0 .int false := ⟨_, _, _, _, rfl, inX4, tyX4_ok, nmX4, by decide, rfl, TT_mem 393 (by decide +kernel) (by decide +kernel), rfl, by decide +kernel, by decide +kernel⟩
theorem oi_X1_1 : Cond.methodLink RX1 1 objectInit ∈ TT ∧ Cond.instanceMethod objectInit ∈ TT ∧ Cond.code objectInit ⟨#[0xb1]⟩ 1 none ∈ TT := ⟨TT_mem 415 (by decide +kernel) (by decide +kernel), TT_mem 120 (by decide +kernel) (by decide +kernel), TT_mem 121 (by decide +kernel) (by decide +kernel)⟩
theorem cnew_X1_7 : CNEW RX1 7 3 7 := ⟨_, _, _, rfl, inX3, tyX3_ok, (fun j hj => by rcases (show j = 0 ∨ j = 1 ∨ j = 2 ∨ j = 3 ∨ j = 4 ∨ j = 5 ∨ j = 6 by omega) with rfl | rfl | rfl | rfl | rfl | rfl | rfl <;> rfl), TT_mem 416 (by decide +kernel) (by decide +kernel), TT_mem 129 (by decide +kernel) (by decide +kernel), TT_mem 100 (by decide +kernel) (by decide +kernel)⟩
theorem cc_X1_9 : CC RX1 9 yX3_init cX3_init 1 0 := ⟨Or.inl ⟨"TurnedBeam", List.mem_of_getElem? (i := 13) rfl⟩, TT_mem 131 (by decide +kernel) (by decide +kernel), TT_mem 100 (by decide +kernel) (by decide +kernel), TT_mem 132 (by decide +kernel) (by decide +kernel), rfl, (by decide +kernel), (by decide +kernel), (by decide +kernel)⟩
theorem cfp_X1_10 : CFP RX1 10 1 0 3 (.object "TurnedBeam$Hall") true := ⟨_, _, _, _, rfl, inX1, tyX1_ok, nmX1, by decide, rfl, TT_mem 420 (by decide +kernel) (by decide +kernel), rfl, by decide +kernel, by decide +kernel⟩
theorem cnew_X1_16 : CNEW RX1 16 0 8 := ⟨_, _, _, rfl, inX0, tyX0_ok, (fun j hj => by rcases (show j = 0 ∨ j = 1 ∨ j = 2 ∨ j = 3 ∨ j = 4 ∨ j = 5 ∨ j = 6 ∨ j = 7 by omega) with rfl | rfl | rfl | rfl | rfl | rfl | rfl | rfl <;> rfl), TT_mem 418 (by decide +kernel) (by decide +kernel), TT_mem 239 (by decide +kernel) (by decide +kernel), TT_mem 102 (by decide +kernel) (by decide +kernel)⟩
theorem cc_X1_18 : CC RX1 18 yX0_init cX0_init 1 0 := ⟨Or.inl ⟨"TurnedBeam", List.mem_of_getElem? (i := 14) rfl⟩, TT_mem 241 (by decide +kernel) (by decide +kernel), TT_mem 102 (by decide +kernel) (by decide +kernel), TT_mem 242 (by decide +kernel) (by decide +kernel), rfl, (by decide +kernel), (by decide +kernel), (by decide +kernel)⟩
theorem cfp_X1_19 : CFP RX1 19 1 1 7 (.object "TurnedBeam$Beam") true := ⟨_, _, _, _, rfl, inX1, tyX1_ok, nmX1, by decide, rfl, TT_mem 421 (by decide +kernel) (by decide +kernel), rfl, by decide +kernel, by decide +kernel⟩
theorem cfp_X1_23 : CFP RX1 23 1 2 8 (.array .int) true := ⟨_, _, _, _, rfl, inX1, tyX1_ok, nmX1, by decide, rfl, TT_mem 422 (by decide +kernel) (by decide +kernel), rfl, by decide +kernel, by decide +kernel⟩
theorem cfp_X1_27 : CFP RX1 27 1 3 0 .int false := ⟨_, _, _, _, rfl, inX1, tyX1_ok, nmX1, by decide, rfl, TT_mem 423 (by decide +kernel) (by decide +kernel), rfl, by decide +kernel, by decide +kernel⟩
theorem cfp_X1_31 : CFP RX1 31 1 4 0 .int false := ⟨_, _, _, _, rfl, inX1, tyX1_ok, nmX1, by decide, rfl, TT_mem 424 (by decide +kernel) (by decide +kernel), rfl, by decide +kernel, by decide +kernel⟩
theorem cfp_X1_34 : CFP RX1 34 1 5 1 .long false := ⟨_, _, _, _, rfl, inX1, tyX1_ok, nmX1, by decide, rfl, TT_mem 425 (by decide +kernel) (by decide +kernel), rfl, by decide +kernel, by decide +kernel⟩
theorem cfp_X1_38 : CFP RX1 38 1 6 9 (.array .int) true := ⟨_, _, _, _, rfl, inX1, tyX1_ok, nmX1, by decide, rfl, TT_mem 426 (by decide +kernel) (by decide +kernel), rfl, by decide +kernel, by decide +kernel⟩
theorem cfp_X1_41 : CFP RX1 41 1 7 0 .int false := ⟨_, _, _, _, rfl, inX1, tyX1_ok, nmX1, by decide, rfl, TT_mem 427 (by decide +kernel) (by decide +kernel), rfl, by decide +kernel, by decide +kernel⟩
theorem cfp_X1_44 : CFP RX1 44 1 8 0 .int false := ⟨_, _, _, _, rfl, inX1, tyX1_ok, nmX1, by decide, rfl, TT_mem 429 (by decide +kernel) (by decide +kernel), rfl, by decide +kernel, by decide +kernel⟩
theorem cfp_X1_47 : CFP RX1 47 1 9 0 .int false := ⟨_, _, _, _, rfl, inX1, tyX1_ok, nmX1, by decide, rfl, TT_mem 431 (by decide +kernel) (by decide +kernel), rfl, by decide +kernel, by decide +kernel⟩
theorem cfp_X1_50 : CFP RX1 50 1 10 0 .int false := ⟨_, _, _, _, rfl, inX1, tyX1_ok, nmX1, by decide, rfl, TT_mem 433 (by decide +kernel) (by decide +kernel), rfl, by decide +kernel, by decide +kernel⟩
theorem oi_X10_1 : Cond.methodLink RX10 1 objectInit ∈ TT ∧ Cond.instanceMethod objectInit ∈ TT ∧ Cond.code objectInit ⟨#[0xb1]⟩ 1 none ∈ TT := ⟨TT_mem 119 (by decide +kernel) (by decide +kernel), TT_mem 120 (by decide +kernel) (by decide +kernel), TT_mem 121 (by decide +kernel) (by decide +kernel)⟩
theorem cfp_X10_7 : CFP RX10 7 10 0 3 (.array .int) true := ⟨_, _, _, _, rfl, inX10, tyX10_ok, nmX10, by decide, rfl, TT_mem 478 (by decide +kernel) (by decide +kernel), rfl, by decide +kernel, by decide +kernel⟩
theorem cnew_X10_13 : CNEW RX10 13 9 10 := ⟨_, _, _, rfl, inX9, tyX9_ok, (fun j hj => by rcases (show j = 0 ∨ j = 1 ∨ j = 2 ∨ j = 3 ∨ j = 4 ∨ j = 5 ∨ j = 6 ∨ j = 7 ∨ j = 8 ∨ j = 9 by omega) with rfl | rfl | rfl | rfl | rfl | rfl | rfl | rfl | rfl | rfl <;> rfl), TT_mem 122 (by decide +kernel) (by decide +kernel), TT_mem 123 (by decide +kernel) (by decide +kernel), TT_mem 99 (by decide +kernel) (by decide +kernel)⟩
theorem cc_X10_15 : CC RX10 15 yX9_init cX9_init 1 0 := ⟨Or.inl ⟨"TurnedBeam", List.mem_of_getElem? (i := 0) rfl⟩, TT_mem 125 (by decide +kernel) (by decide +kernel), TT_mem 99 (by decide +kernel) (by decide +kernel), TT_mem 126 (by decide +kernel) (by decide +kernel), rfl, (by decide +kernel), (by decide +kernel), (by decide +kernel)⟩
theorem cfp_X10_16 : CFP RX10 16 10 1 4 (.object "TurnedBeam$Whole") true := ⟨_, _, _, _, rfl, inX10, tyX10_ok, nmX10, by decide, rfl, TT_mem 479 (by decide +kernel) (by decide +kernel), rfl, by decide +kernel, by decide +kernel⟩
theorem cfp_X10_20 : CFP RX10 20 10 2 17 (.object "TurnedBeam$Whole") true := ⟨_, _, _, _, rfl, inX10, tyX10_ok, nmX10, by decide, rfl, TT_mem 480 (by decide +kernel) (by decide +kernel), rfl, by decide +kernel, by decide +kernel⟩
theorem cfp_X10_23 : CFP RX10 23 10 3 0 .int false := ⟨_, _, _, _, rfl, inX10, tyX10_ok, nmX10, by decide, rfl, TT_mem 481 (by decide +kernel) (by decide +kernel), rfl, by decide +kernel, by decide +kernel⟩
theorem cl_X10_27 : Cond.classLink RX10 27 "TurnedBeam$Sheet" ∈ TT := TT_mem 236 (by decide +kernel) (by decide +kernel)
theorem cfp_X10_29 : CFP RX10 29 10 4 30 (.array (.object "TurnedBeam$Sheet")) true := ⟨_, _, _, _, rfl, inX10, tyX10_ok, nmX10, by decide, rfl, TT_mem 482 (by decide +kernel) (by decide +kernel), rfl, by decide +kernel, by decide +kernel⟩
theorem cnew_X10_33 : CNEW RX10 33 0 8 := ⟨_, _, _, rfl, inX0, tyX0_ok, (fun j hj => by rcases (show j = 0 ∨ j = 1 ∨ j = 2 ∨ j = 3 ∨ j = 4 ∨ j = 5 ∨ j = 6 ∨ j = 7 by omega) with rfl | rfl | rfl | rfl | rfl | rfl | rfl | rfl <;> rfl), TT_mem 238 (by decide +kernel) (by decide +kernel), TT_mem 239 (by decide +kernel) (by decide +kernel), TT_mem 102 (by decide +kernel) (by decide +kernel)⟩
theorem cc_X10_35 : CC RX10 35 yX0_init cX0_init 1 0 := ⟨Or.inl ⟨"TurnedBeam", List.mem_of_getElem? (i := 2) rfl⟩, TT_mem 241 (by decide +kernel) (by decide +kernel), TT_mem 102 (by decide +kernel) (by decide +kernel), TT_mem 242 (by decide +kernel) (by decide +kernel), rfl, (by decide +kernel), (by decide +kernel), (by decide +kernel)⟩
theorem cfp_X10_36 : CFP RX10 36 10 5 31 (.object "TurnedBeam$Beam") true := ⟨_, _, _, _, rfl, inX10, tyX10_ok, nmX10, by decide, rfl, TT_mem 483 (by decide +kernel) (by decide +kernel), rfl, by decide +kernel, by decide +kernel⟩
theorem cnew_X10_40 : CNEW RX10 40 3 7 := ⟨_, _, _, rfl, inX3, tyX3_ok, (fun j hj => by rcases (show j = 0 ∨ j = 1 ∨ j = 2 ∨ j = 3 ∨ j = 4 ∨ j = 5 ∨ j = 6 by omega) with rfl | rfl | rfl | rfl | rfl | rfl | rfl <;> rfl), TT_mem 274 (by decide +kernel) (by decide +kernel), TT_mem 129 (by decide +kernel) (by decide +kernel), TT_mem 100 (by decide +kernel) (by decide +kernel)⟩
theorem cc_X10_42 : CC RX10 42 yX3_init cX3_init 1 0 := ⟨Or.inl ⟨"TurnedBeam", List.mem_of_getElem? (i := 3) rfl⟩, TT_mem 131 (by decide +kernel) (by decide +kernel), TT_mem 100 (by decide +kernel) (by decide +kernel), TT_mem 132 (by decide +kernel) (by decide +kernel), rfl, (by decide +kernel), (by decide +kernel), (by decide +kernel)⟩
theorem cfp_X10_43 : CFP RX10 43 10 6 32 (.object "TurnedBeam$Hall") true := ⟨_, _, _, _, rfl, inX10, tyX10_ok, nmX10, by decide, rfl, TT_mem 484 (by decide +kernel) (by decide +kernel), rfl, by decide +kernel, by decide +kernel⟩
theorem cnew_X10_47 : CNEW RX10 47 6 7 := ⟨_, _, _, rfl, inX6, tyX6_ok, (fun j hj => by rcases (show j = 0 ∨ j = 1 ∨ j = 2 ∨ j = 3 ∨ j = 4 ∨ j = 5 ∨ j = 6 by omega) with rfl | rfl | rfl | rfl | rfl | rfl | rfl <;> rfl), TT_mem 276 (by decide +kernel) (by decide +kernel), TT_mem 277 (by decide +kernel) (by decide +kernel), TT_mem 103 (by decide +kernel) (by decide +kernel)⟩
theorem cc_X10_49 : CC RX10 49 yX6_init cX6_init 1 0 := ⟨Or.inl ⟨"TurnedBeam", List.mem_of_getElem? (i := 4) rfl⟩, TT_mem 279 (by decide +kernel) (by decide +kernel), TT_mem 103 (by decide +kernel) (by decide +kernel), TT_mem 280 (by decide +kernel) (by decide +kernel), rfl, (by decide +kernel), (by decide +kernel), (by decide +kernel)⟩
theorem cfp_X10_50 : CFP RX10 50 10 7 36 (.object "TurnedBeam$Reader") true := ⟨_, _, _, _, rfl, inX10, tyX10_ok, nmX10, by decide, rfl, TT_mem 485 (by decide +kernel) (by decide +kernel), rfl, by decide +kernel, by decide +kernel⟩
theorem cnew_X10_54 : CNEW RX10 54 8 5 := ⟨_, _, _, rfl, inX8, tyX8_ok, (fun j hj => by rcases (show j = 0 ∨ j = 1 ∨ j = 2 ∨ j = 3 ∨ j = 4 by omega) with rfl | rfl | rfl | rfl | rfl <;> rfl), TT_mem 306 (by decide +kernel) (by decide +kernel), TT_mem 307 (by decide +kernel) (by decide +kernel), TT_mem 104 (by decide +kernel) (by decide +kernel)⟩
theorem cc_X10_56 : CC RX10 56 yX8_init cX8_init 1 0 := ⟨Or.inl ⟨"TurnedBeam", List.mem_of_getElem? (i := 5) rfl⟩, TT_mem 309 (by decide +kernel) (by decide +kernel), TT_mem 104 (by decide +kernel) (by decide +kernel), TT_mem 310 (by decide +kernel) (by decide +kernel), rfl, (by decide +kernel), (by decide +kernel), (by decide +kernel)⟩
theorem cfp_X10_57 : CFP RX10 57 10 8 39 (.object "TurnedBeam$Voice") true := ⟨_, _, _, _, rfl, inX10, tyX10_ok, nmX10, by decide, rfl, TT_mem 486 (by decide +kernel) (by decide +kernel), rfl, by decide +kernel, by decide +kernel⟩
theorem cnew_X10_61 : CNEW RX10 61 2 10 := ⟨_, _, _, rfl, inX2, tyX2_ok, (fun j hj => by rcases (show j = 0 ∨ j = 1 ∨ j = 2 ∨ j = 3 ∨ j = 4 ∨ j = 5 ∨ j = 6 ∨ j = 7 ∨ j = 8 ∨ j = 9 by omega) with rfl | rfl | rfl | rfl | rfl | rfl | rfl | rfl | rfl | rfl <;> rfl), TT_mem 330 (by decide +kernel) (by decide +kernel), TT_mem 331 (by decide +kernel) (by decide +kernel), TT_mem 105 (by decide +kernel) (by decide +kernel)⟩
theorem cc_X10_63 : CC RX10 63 yX2_init cX2_init 1 0 := ⟨Or.inl ⟨"TurnedBeam", List.mem_of_getElem? (i := 6) rfl⟩, TT_mem 333 (by decide +kernel) (by decide +kernel), TT_mem 105 (by decide +kernel) (by decide +kernel), TT_mem 334 (by decide +kernel) (by decide +kernel), rfl, (by decide +kernel), (by decide +kernel), (by decide +kernel)⟩
theorem cfp_X10_64 : CFP RX10 64 10 9 41 (.object "TurnedBeam$Foresight") true := ⟨_, _, _, _, rfl, inX10, tyX10_ok, nmX10, by decide, rfl, TT_mem 487 (by decide +kernel) (by decide +kernel), rfl, by decide +kernel, by decide +kernel⟩
theorem cnew_X10_68 : CNEW RX10 68 4 7 := ⟨_, _, _, rfl, inX4, tyX4_ok, (fun j hj => by rcases (show j = 0 ∨ j = 1 ∨ j = 2 ∨ j = 3 ∨ j = 4 ∨ j = 5 ∨ j = 6 by omega) with rfl | rfl | rfl | rfl | rfl | rfl | rfl <;> rfl), TT_mem 375 (by decide +kernel) (by decide +kernel), TT_mem 376 (by decide +kernel) (by decide +kernel), TT_mem 106 (by decide +kernel) (by decide +kernel)⟩
theorem cc_X10_70 : CC RX10 70 yX4_init cX4_init 1 0 := ⟨Or.inl ⟨"TurnedBeam", List.mem_of_getElem? (i := 9) rfl⟩, TT_mem 378 (by decide +kernel) (by decide +kernel), TT_mem 106 (by decide +kernel) (by decide +kernel), TT_mem 379 (by decide +kernel) (by decide +kernel), rfl, (by decide +kernel), (by decide +kernel), (by decide +kernel)⟩
theorem cfp_X10_71 : CFP RX10 71 10 10 52 (.object "TurnedBeam$Hands") true := ⟨_, _, _, _, rfl, inX10, tyX10_ok, nmX10, by decide, rfl, TT_mem 488 (by decide +kernel) (by decide +kernel), rfl, by decide +kernel, by decide +kernel⟩
theorem cnew_X10_75 : CNEW RX10 75 1 11 := ⟨_, _, _, rfl, inX1, tyX1_ok, (fun j hj => by rcases (show j = 0 ∨ j = 1 ∨ j = 2 ∨ j = 3 ∨ j = 4 ∨ j = 5 ∨ j = 6 ∨ j = 7 ∨ j = 8 ∨ j = 9 ∨ j = 10 by omega) with rfl | rfl | rfl | rfl | rfl | rfl | rfl | rfl | rfl | rfl | rfl <;> rfl), TT_mem 410 (by decide +kernel) (by decide +kernel), TT_mem 411 (by decide +kernel) (by decide +kernel), TT_mem 107 (by decide +kernel) (by decide +kernel)⟩
theorem cc_X10_77 : CC RX10 77 yX1_init cX1_init 1 0 := ⟨Or.inl ⟨"TurnedBeam", List.mem_of_getElem? (i := 12) rfl⟩, TT_mem 413 (by decide +kernel) (by decide +kernel), TT_mem 107 (by decide +kernel) (by decide +kernel), TT_mem 414 (by decide +kernel) (by decide +kernel), rfl, (by decide +kernel), (by decide +kernel), (by decide +kernel)⟩
theorem cfp_X10_78 : CFP RX10 78 10 11 58 (.object "TurnedBeam$Doubt") true := ⟨_, _, _, _, rfl, inX10, tyX10_ok, nmX10, by decide, rfl, TT_mem 489 (by decide +kernel) (by decide +kernel), rfl, by decide +kernel, by decide +kernel⟩
theorem cfg_X10_29 : FG RX10 29 10 4 30 := ⟨_, _, _, rfl, inX10, by decide, rfl, TT_mem 482 (by decide +kernel) (by decide +kernel)⟩
theorem cnew_X10_27 : CNEW RX10 27 7 3 := ⟨_, _, _, rfl, inX7, tyX7_ok, (fun j hj => by rcases (show j = 0 ∨ j = 1 ∨ j = 2 by omega) with rfl | rfl | rfl <;> rfl), TT_mem 236 (by decide +kernel) (by decide +kernel), TT_mem 458 (by decide +kernel) (by decide +kernel), TT_mem 108 (by decide +kernel) (by decide +kernel)⟩
theorem cc_X10_82 : CC RX10 82 yX7_init cX7_init 1 0 := ⟨Or.inl ⟨"TurnedBeam", List.mem_of_getElem? (i := 15) rfl⟩, TT_mem 460 (by decide +kernel) (by decide +kernel), TT_mem 108 (by decide +kernel) (by decide +kernel), TT_mem 461 (by decide +kernel) (by decide +kernel), rfl, (by decide +kernel), (by decide +kernel), (by decide +kernel)⟩
theorem oi_X11_1 : Cond.methodLink RX11 1 objectInit ∈ TT ∧ Cond.instanceMethod objectInit ∈ TT ∧ Cond.code objectInit ⟨#[0xb1]⟩ 1 none ∈ TT := ⟨TT_mem 1151 (by decide +kernel) (by decide +kernel), TT_mem 120 (by decide +kernel) (by decide +kernel), TT_mem 121 (by decide +kernel) (by decide +kernel)⟩
theorem cfp_X11_7 : CFP RX11 7 11 0 3 (.array .int) true := ⟨_, _, _, _, rfl, inX11, tyX11_ok, nmX11, by decide, rfl, TT_mem 1152 (by decide +kernel) (by decide +kernel), rfl, by decide +kernel, by decide +kernel⟩
theorem cfp_X11_13 : CFP RX11 13 11 1 4 (.array .int) true := ⟨_, _, _, _, rfl, inX11, tyX11_ok, nmX11, by decide, rfl, TT_mem 1153 (by decide +kernel) (by decide +kernel), rfl, by decide +kernel, by decide +kernel⟩
theorem cfp_X11_16 : CFP RX11 16 11 2 5 (.array .int) true := ⟨_, _, _, _, rfl, inX11, tyX11_ok, nmX11, by decide, rfl, TT_mem 1154 (by decide +kernel) (by decide +kernel), rfl, by decide +kernel, by decide +kernel⟩
theorem cfp_X11_19 : CFP RX11 19 11 3 6 (.array .int) true := ⟨_, _, _, _, rfl, inX11, tyX11_ok, nmX11, by decide, rfl, TT_mem 1155 (by decide +kernel) (by decide +kernel), rfl, by decide +kernel, by decide +kernel⟩
theorem cfp_X11_22 : CFP RX11 22 11 6 7 (.array .int) true := ⟨_, _, _, _, rfl, inX11, tyX11_ok, nmX11, by decide, rfl, TT_mem 1158 (by decide +kernel) (by decide +kernel), rfl, by decide +kernel, by decide +kernel⟩
theorem cfp_X11_25 : CFP RX11 25 11 12 0 .int false := ⟨_, _, _, _, rfl, inX11, tyX11_ok, nmX11, by decide, rfl, TT_mem 1164 (by decide +kernel) (by decide +kernel), rfl, by decide +kernel, by decide +kernel⟩
theorem cfp_X11_29 : CFP RX11 29 11 13 0 .int false := ⟨_, _, _, _, rfl, inX11, tyX11_ok, nmX11, by decide, rfl, TT_mem 1165 (by decide +kernel) (by decide +kernel), rfl, by decide +kernel, by decide +kernel⟩
theorem cfp_X11_32 : CFP RX11 32 11 24 8 (.array .int) true := ⟨_, _, _, _, rfl, inX11, tyX11_ok, nmX11, by decide, rfl, TT_mem 1176 (by decide +kernel) (by decide +kernel), rfl, by decide +kernel, by decide +kernel⟩
theorem cfp_X11_35 : CFP RX11 35 11 25 9 (.array .int) true := ⟨_, _, _, _, rfl, inX11, tyX11_ok, nmX11, by decide, rfl, TT_mem 1177 (by decide +kernel) (by decide +kernel), rfl, by decide +kernel, by decide +kernel⟩
theorem cfp_X11_38 : CFP RX11 38 11 29 10 (.array .int) true := ⟨_, _, _, _, rfl, inX11, tyX11_ok, nmX11, by decide, rfl, TT_mem 1181 (by decide +kernel) (by decide +kernel), rfl, by decide +kernel, by decide +kernel⟩
theorem cfp_X11_41 : CFP RX11 41 11 30 11 (.array .long) true := ⟨_, _, _, _, rfl, inX11, tyX11_ok, nmX11, by decide, rfl, TT_mem 1182 (by decide +kernel) (by decide +kernel), rfl, by decide +kernel, by decide +kernel⟩
theorem cfp_X11_45 : CFP RX11 45 11 32 12 (.array .int) true := ⟨_, _, _, _, rfl, inX11, tyX11_ok, nmX11, by decide, rfl, TT_mem 1184 (by decide +kernel) (by decide +kernel), rfl, by decide +kernel, by decide +kernel⟩
theorem cfp_X11_48 : CFP RX11 48 11 34 13 (.array .int) true := ⟨_, _, _, _, rfl, inX11, tyX11_ok, nmX11, by decide, rfl, TT_mem 1186 (by decide +kernel) (by decide +kernel), rfl, by decide +kernel, by decide +kernel⟩
theorem cfp_X11_51 : CFP RX11 51 11 35 14 (.array .int) true := ⟨_, _, _, _, rfl, inX11, tyX11_ok, nmX11, by decide, rfl, TT_mem 1187 (by decide +kernel) (by decide +kernel), rfl, by decide +kernel, by decide +kernel⟩
theorem cfp_X11_54 : CFP RX11 54 11 36 15 (.array .int) true := ⟨_, _, _, _, rfl, inX11, tyX11_ok, nmX11, by decide, rfl, TT_mem 1188 (by decide +kernel) (by decide +kernel), rfl, by decide +kernel, by decide +kernel⟩
theorem cfp_X11_57 : CFP RX11 57 11 37 16 (.array .int) true := ⟨_, _, _, _, rfl, inX11, tyX11_ok, nmX11, by decide, rfl, TT_mem 1189 (by decide +kernel) (by decide +kernel), rfl, by decide +kernel, by decide +kernel⟩
theorem cfp_X11_60 : CFP RX11 60 11 38 17 (.array .int) true := ⟨_, _, _, _, rfl, inX11, tyX11_ok, nmX11, by decide, rfl, TT_mem 1190 (by decide +kernel) (by decide +kernel), rfl, by decide +kernel, by decide +kernel⟩
theorem cfp_X11_63 : CFP RX11 63 11 39 18 (.array .int) true := ⟨_, _, _, _, rfl, inX11, tyX11_ok, nmX11, by decide, rfl, TT_mem 1191 (by decide +kernel) (by decide +kernel), rfl, by decide +kernel, by decide +kernel⟩
theorem cfg_X11_7 : FG RX11 7 11 0 3 := ⟨_, _, _, rfl, inX11, by decide, rfl, TT_mem 1152 (by decide +kernel) (by decide +kernel)⟩

theorem ar_int : Cond.arrayClass .int ∈ TT := TT_mem 176 (by decide +kernel) (by decide +kernel)
theorem ar_long : Cond.arrayClass .long ∈ TT := TT_mem 374 (by decide +kernel) (by decide +kernel)
def m_X3 (h : Mem) (q : Nat) : Mem := (sL (sI (sI (sI h q 0 (iI 1)) q 1 (iI 1)) q 5 (iI 0)) q 6 (iL 0))
def s_X3 (a : Asg) (q : Nat) : Asg := (sA (sA (sA a q 2) q 3) q 4)

def m_X5 (h : Mem) (q : Nat) (use : Int32) : Mem := (sI (sI h q 2 (iI 0)) q 0 use)
def s_X5 (a : Asg) (q : Nat) : Asg := (sA (sA a q 1) q 3)

def m_X0 (h : Mem) (q : Nat) : Mem := (sI (sI (sI (sI (sI (sI (sI (sI h q 0 (iI 0)) q 1 (iI 0)) q 2 (iI 0)) q 3 (iI 0)) q 4 (iI 0)) q 5 (iI 0)) q 6 (iI (-1))) q 7 (iI (-1)))
def s_X0 (a : Asg) (q : Nat) : Asg := a

def m_X7 (h : Mem) (q : Nat) : Mem := (sI (sI h q 0 (iI 0)) q 1 (iI 0))
def s_X7 (a : Asg) (q : Nat) : Asg := (sA a q 2)

def m_X9 (h : Mem) (q : Nat) : Mem := (sI (sI (sI (sI (sI (m_X5 (m_X5 (m_X3 h (q + 1)) (q + 5) (iI 0)) (q + 8) (iI 1)) q 4 (iI 0)) q 6 (iI 0)) q 7 (iI 0)) q 8 (iI 0)) q 9 (iI 1))
def s_X9 (a : Asg) (q : Nat) : Asg := (sA (sA (sA (s_X5 (sA (s_X5 (sA (s_X3 a (q + 1)) q 0) (q + 5)) q 1) (q + 8)) q 2) q 3) q 5)

def m_X6 (h : Mem) : Mem := (sI (sI (sI (sI (sI h 34 1 (iI 0)) 34 3 (iI 0)) 34 4 (iI 0)) 34 5 (iI 0)) 34 6 (iI 0))
def s_X6 (a : Asg) : Asg := (sA (sA a 34 0) 34 2)

def m_X8 (h : Mem) : Mem := (sI (sI (sI (sI h 37 1 (iI 0)) 37 2 (iI 0)) 37 3 (iI 0)) 37 4 (iI 0))
def s_X8 (a : Asg) : Asg := (sA a 37 0)

def m_X2 (h : Mem) : Mem := (sI (sI (sI (m_X0 (m_X3 h 40) 44) 39 7 (iI 0)) 39 8 (iI 0)) 39 9 (iI 0))
def s_X2 (a : Asg) : Asg := (sA (sA (sA (sA (sA (sA (s_X0 (sA (s_X3 a 40) 39 0) 44) 39 1) 39 2) 39 3) 39 4) 39 5) 39 6)

def m_X4 (h : Mem) : Mem := (sI (sI (sI (sI (sI (m_X0 (m_X3 h 51) 55) 50 2 (iI 0)) 50 3 (iI 0)) 50 4 (iI 0)) 50 5 (iI (-1))) 50 6 (iI 0))
def s_X4 (a : Asg) : Asg := (sA (s_X0 (sA (s_X3 a 51) 50 0) 55) 50 1)

def m_X1 (h : Mem) : Mem := (sI (sI (sI (sI (sL (sI (sI (m_X0 (m_X3 h 57) 61) 56 3 (iI 0)) 56 4 (iI 0)) 56 5 (iL 0)) 56 7 (iI 0)) 56 8 (iI 1)) 56 9 (iI 0)) 56 10 (iI 0))
def s_X1 (a : Asg) : Asg := (sA (sA (sA (s_X0 (sA (s_X3 a 57) 56 0) 61) 56 1) 56 2) 56 6)

def m_X10 (h : Mem) : Mem := (m_X7 (m_X7 (m_X7 (m_X7 (m_X1 (m_X4 (m_X2 (m_X8 (m_X6 (m_X3 (m_X0 (sI (m_X9 (m_X9 h 2) 15) 0 3 (iI 0)) 29) 30)))))) 64) 66) 68) 70)
def s_X10 (a : Asg) : Asg := (sA (s_X7 (sA (s_X7 (sA (s_X7 (sA (s_X7 (sA (s_X1 (sA (s_X4 (sA (s_X2 (sA (s_X8 (sA (s_X6 (sA (s_X3 (sA (s_X0 (sA (sA (s_X9 (sA (s_X9 (sA a 0 0) 2) 0 1) 15) 0 2) 0 4) 29) 0 5) 30) 0 6)) 0 7)) 0 8)) 0 9)) 0 10)) 0 11) 64) 28 0) 66) 28 1) 68) 28 2) 70) 28 3)

def m_X11 (h : Mem) : Mem := (sI (sI (sI (sI (sI (sI (sI h 72 12 (iI (-1))) 72 13 (iI (-1))) 73 0 (iI 1)) 73 1 (iI 1)) 73 4 (iI 1)) 73 7 (iI (-1))) 73 8 (iI (-1)))
def s_X11 (a : Asg) : Asg := (sA (sA (sA (sA (sA (sA (sA (sA (sA (sA (sA (sA (sA (sA (sA (sA a 72 0) 72 1) 72 2) 72 3) 72 6) 72 24) 72 25) 72 29) 72 30) 72 32) 72 34) 72 35) 72 36) 72 37) 72 38) 72 39)

set_option maxHeartbeats 40000000 in
set_option maxRecDepth 100000 in
theorem ci_X3 (l : Launch) (G : GG) (B : Nat) (hG : ∀ j, G.2.2.1 j = B + j) (q : Nat) (hq : LAY[q]? = some (6, 0)) (h : Mem) (a : Asg) : SatC l G B yX3_init cX3_init 1 1 [.ref (G.2.2.1 q)] h a (q + 1) (m_X3 h q) (s_X3 a q) (q + 4) 3 75 := by
  refine SatC.mk (by decide) rfl (Nat.le_of_ble_eq_true rfl) ?_
  intro p e s m args below meth c Q F hret hw ls hl
  obtain ⟨hx, hb, hml, hown, hts, hK, hN, hin⟩ := F
  have hl : lv_has ls 1 [(0, .ref (G.2.2.1 q))] := hl
  obtain ⟨locs, elocs⟩ : ∃ x : List Loc, x = [] := ⟨_, rfl⟩
  rw [← elocs] at hw ⊢
  refine lv_aload_n (pc := 0) hx hb dX3_init_0 rfl (lv_at hl 0 rfl) ?_
  refine W.objInit hx hb hown (hts _ oi_X3_1.1) (hts _ oi_X3_1.2.1) (hts _ oi_X3_1.2.2) rfl (by rw [hml]; exact hl.1) rfl dX3_init_1 (Nat.le_of_ble_eq_true rfl) (Nat.le_of_ble_eq_true rfl) ?_
  refine W.eq (g2 := F0 m 4 ls []) rfl ?_
  refine lv_aload_n (pc := 4) hx hb dX3_init_4 rfl (lv_at hl 0 rfl) ?_
  refine lv_iconst (pc := 5) (v := (iI 1)) hx hb dX3_init_5 rfl ?_
  refine c_putI (pc := 6) (q := q) hx hb hts hown hK hin hw hq (by omega) cfp_X3_7 rfl rfl dX3_init_6 (fun H locs hw => ?_)
  refine lv_aload_n (pc := 9) hx hb dX3_init_9 rfl (lv_at hl 0 rfl) ?_
  refine lv_iconst (pc := 10) (v := (iI 1)) hx hb dX3_init_10 rfl ?_
  refine c_putI (pc := 11) (q := q) hx hb hts hown hK hin hw hq (by omega) cfp_X3_13 rfl rfl dX3_init_11 (fun H locs hw => ?_)
  refine lv_aload_n (pc := 14) hx hb dX3_init_14 rfl (lv_at hl 0 rfl) ?_
  refine lv_bipush (pc := 15) (v := (iI 25)) hx hb dX3_init_15 (by decide) ?_
  refine c_newa (pc := 17) (atype := .int) (ty := .int) (len := (q + 1)) (N := 25) (s0 := (0, 25)) hG hx hb hts hK hw (wt_X3_kinds _ hq) rfl ar_int (by decide) (by decide) (by decide) (Or.inl ⟨rfl, rfl⟩) (Nat.le_of_ble_eq_true rfl) (Nat.le_of_ble_eq_true rfl) dX3_init_17 (fun H hw => ?_)
  refine c_putR (pc := 19) (q := q) (n := 1) hx hb hts hown hK hin hw hq (by omega) cfp_X3_16 rfl rfl dX3_init_19 (fun H locs hw => ?_)
  refine lv_aload_n (pc := 22) hx hb dX3_init_22 rfl (lv_at hl 0 rfl) ?_
  refine lv_bipush (pc := 23) (v := (iI 25)) hx hb dX3_init_23 (by decide) ?_
  refine c_newa (pc := 25) (atype := .int) (ty := .int) (len := (q + 2)) (N := 25) (s0 := (0, 25)) hG hx hb hts hK hw (wt_X3_numbers _ hq) rfl ar_int (by decide) (by decide) (by decide) (Or.inl ⟨rfl, rfl⟩) (Nat.le_of_ble_eq_true rfl) (Nat.le_of_ble_eq_true rfl) dX3_init_25 (fun H hw => ?_)
  refine c_putR (pc := 27) (q := q) (n := 2) hx hb hts hown hK hin hw hq (by omega) cfp_X3_20 rfl rfl dX3_init_27 (fun H locs hw => ?_)
  refine lv_aload_n (pc := 30) hx hb dX3_init_30 rfl (lv_at hl 0 rfl) ?_
  refine lv_bipush (pc := 31) (v := (iI 25)) hx hb dX3_init_31 (by decide) ?_
  refine c_newa (pc := 33) (atype := .int) (ty := .int) (len := (q + 3)) (N := 25) (s0 := (0, 25)) hG hx hb hts hK hw (wt_X3_lit _ hq) rfl ar_int (by decide) (by decide) (by decide) (Or.inl ⟨rfl, rfl⟩) (Nat.le_of_ble_eq_true rfl) (Nat.le_of_ble_eq_true rfl) dX3_init_33 (fun H hw => ?_)
  refine c_putR (pc := 35) (q := q) (n := 3) hx hb hts hown hK hin hw hq (by omega) cfp_X3_23 rfl rfl dX3_init_35 (fun H locs hw => ?_)
  refine lv_aload_n (pc := 38) hx hb dX3_init_38 rfl (lv_at hl 0 rfl) ?_
  refine lv_iconst (pc := 39) (v := (iI 0)) hx hb dX3_init_39 rfl ?_
  refine c_putI (pc := 40) (q := q) hx hb hts hown hK hin hw hq (by omega) cfp_X3_26 rfl rfl dX3_init_40 (fun H locs hw => ?_)
  refine lv_aload_n (pc := 43) hx hb dX3_init_43 rfl (lv_at hl 0 rfl) ?_
  refine lv_lconst (pc := 44) (v := iL 0) hx hb dX3_init_44 (by decide) ?_
  refine c_putL (pc := 45) (q := q) hx hb hts hown hK hin hw hq (by omega) cfp_X3_29 dX3_init_45 (fun H locs hw => ?_)
  exact hret 48 _ _ _ _ _ dX3_init_48 hw (Nat.le_of_ble_eq_true rfl) (Nat.le_of_ble_eq_true rfl)

set_option maxHeartbeats 40000000 in
set_option maxRecDepth 100000 in
theorem ci_X5 (l : Launch) (G : GG) (B : Nat) (hG : ∀ j, G.2.2.1 j = B + j) (q : Nat) (hq : LAY[q]? = some (8, 0)) (use : Int32) (h : Mem) (a : Asg) : SatC l G B yX5_init cX5_init 2 1 [.ref (G.2.2.1 q), .int use] h a (q + 1) (m_X5 h q use) (s_X5 a q) (q + 3) 2 100 := by
  refine SatC.mk (by decide) rfl (Nat.le_of_ble_eq_true rfl) ?_
  intro p e s m args below meth c Q F hret hw ls hl
  obtain ⟨hx, hb, hml, hown, hts, hK, hN, hin⟩ := F
  have hl : lv_has ls 2 [(0, .ref (G.2.2.1 q)), (1, .int use)] := hl
  obtain ⟨locs, elocs⟩ : ∃ x : List Loc, x = [] := ⟨_, rfl⟩
  rw [← elocs] at hw ⊢
  refine lv_aload_n (pc := 0) hx hb dX5_init_0 rfl (lv_at hl 0 rfl) ?_
  refine W.objInit hx hb hown (hts _ oi_X5_1.1) (hts _ oi_X5_1.2.1) (hts _ oi_X5_1.2.2) rfl (by rw [hml]; exact hl.1) rfl dX5_init_1 (Nat.le_of_ble_eq_true rfl) (Nat.le_of_ble_eq_true rfl) ?_
  refine W.eq (g2 := F0 m 4 ls []) rfl ?_
  refine lv_aload_n (pc := 4) hx hb dX5_init_4 rfl (lv_at hl 0 rfl) ?_
  refine lv_bipush (pc := 5) (v := (iI 50)) hx hb dX5_init_5 (by decide) ?_
  refine c_newa (pc := 7) (atype := .int) (ty := .int) (len := (q + 1)) (N := 50) (s0 := (0, 50)) hG hx hb hts hK hw (wt_X5_code _ hq) rfl ar_int (by decide) (by decide) (by decide) (Or.inl ⟨rfl, rfl⟩) (Nat.le_of_ble_eq_true rfl) (Nat.le_of_ble_eq_true rfl) dX5_init_7 (fun H hw => ?_)
  refine c_putR (pc := 9) (q := q) (n := 1) hx hb hts hown hK hin hw hq (by omega) cfp_X5_9 rfl rfl dX5_init_9 (fun H locs hw => ?_)
  refine lv_aload_n (pc := 12) hx hb dX5_init_12 rfl (lv_at hl 0 rfl) ?_
  refine lv_iconst (pc := 13) (v := (iI 0)) hx hb dX5_init_13 rfl ?_
  refine c_putI (pc := 14) (q := q) hx hb hts hown hK hin hw hq (by omega) cfp_X5_15 rfl rfl dX5_init_14 (fun H locs hw => ?_)
  refine lv_aload_n (pc := 17) hx hb dX5_init_17 rfl (lv_at hl 0 rfl) ?_
  refine lv_bipush (pc := 18) (v := (iI 50)) hx hb dX5_init_18 (by decide) ?_
  refine c_newa (pc := 20) (atype := .int) (ty := .int) (len := (q + 2)) (N := 50) (s0 := (0, 50)) hG hx hb hts hK hw (wt_X5_stack _ hq) rfl ar_int (by decide) (by decide) (by decide) (Or.inl ⟨rfl, rfl⟩) (Nat.le_of_ble_eq_true rfl) (Nat.le_of_ble_eq_true rfl) dX5_init_20 (fun H hw => ?_)
  refine c_putR (pc := 22) (q := q) (n := 2) hx hb hts hown hK hin hw hq (by omega) cfp_X5_19 rfl rfl dX5_init_22 (fun H locs hw => ?_)
  refine lv_aload_n (pc := 25) hx hb dX5_init_25 rfl (lv_at hl 0 rfl) ?_
  refine lv_iload_n (pc := 26) hx hb dX5_init_26 rfl (lv_at hl 1 rfl) ?_
  refine c_putI (pc := 27) (q := q) hx hb hts hown hK hin hw hq (by omega) cfp_X5_22 rfl rfl dX5_init_27 (fun H locs hw => ?_)
  exact hret 30 _ _ _ _ _ dX5_init_30 hw (Nat.le_of_ble_eq_true rfl) (Nat.le_of_ble_eq_true rfl)

set_option maxHeartbeats 40000000 in
set_option maxRecDepth 100000 in
theorem ci_X0 (l : Launch) (G : GG) (B : Nat) (hG : ∀ j, G.2.2.1 j = B + j) (q : Nat) (hq : LAY[q]? = some (3, 0)) (h : Mem) (a : Asg) : SatC l G B yX0_init cX0_init 1 1 [.ref (G.2.2.1 q)] h a (q + 1) (m_X0 h q) (s_X0 a q) (q + 1) 0 0 := by
  refine SatC.mk (by decide) rfl (Nat.le_of_ble_eq_true rfl) ?_
  intro p e s m args below meth c Q F hret hw ls hl
  obtain ⟨hx, hb, hml, hown, hts, hK, hN, hin⟩ := F
  have hl : lv_has ls 1 [(0, .ref (G.2.2.1 q))] := hl
  obtain ⟨locs, elocs⟩ : ∃ x : List Loc, x = [] := ⟨_, rfl⟩
  rw [← elocs] at hw ⊢
  refine lv_aload_n (pc := 0) hx hb dX0_init_0 rfl (lv_at hl 0 rfl) ?_
  refine W.objInit hx hb hown (hts _ oi_X0_1.1) (hts _ oi_X0_1.2.1) (hts _ oi_X0_1.2.2) rfl (by rw [hml]; exact hl.1) rfl dX0_init_1 (Nat.le_of_ble_eq_true rfl) (Nat.le_of_ble_eq_true rfl) ?_
  refine W.eq (g2 := F0 m 4 ls []) rfl ?_
  refine lv_aload_n (pc := 4) hx hb dX0_init_4 rfl (lv_at hl 0 rfl) ?_
  refine lv_iconst (pc := 5) (v := (iI 0)) hx hb dX0_init_5 rfl ?_
  refine c_putI (pc := 6) (q := q) hx hb hts hown hK hin hw hq (by omega) cfp_X0_7 rfl rfl dX0_init_6 (fun H locs hw => ?_)
  refine lv_aload_n (pc := 9) hx hb dX0_init_9 rfl (lv_at hl 0 rfl) ?_
  refine lv_iconst (pc := 10) (v := (iI 0)) hx hb dX0_init_10 rfl ?_
  refine c_putI (pc := 11) (q := q) hx hb hts hown hK hin hw hq (by omega) cfp_X0_13 rfl rfl dX0_init_11 (fun H locs hw => ?_)
  refine lv_aload_n (pc := 14) hx hb dX0_init_14 rfl (lv_at hl 0 rfl) ?_
  refine lv_iconst (pc := 15) (v := (iI 0)) hx hb dX0_init_15 rfl ?_
  refine c_putI (pc := 16) (q := q) hx hb hts hown hK hin hw hq (by omega) cfp_X0_16 rfl rfl dX0_init_16 (fun H locs hw => ?_)
  refine lv_aload_n (pc := 19) hx hb dX0_init_19 rfl (lv_at hl 0 rfl) ?_
  refine lv_iconst (pc := 20) (v := (iI 0)) hx hb dX0_init_20 rfl ?_
  refine c_putI (pc := 21) (q := q) hx hb hts hown hK hin hw hq (by omega) cfp_X0_19 rfl rfl dX0_init_21 (fun H locs hw => ?_)
  refine lv_aload_n (pc := 24) hx hb dX0_init_24 rfl (lv_at hl 0 rfl) ?_
  refine lv_iconst (pc := 25) (v := (iI 0)) hx hb dX0_init_25 rfl ?_
  refine c_putI (pc := 26) (q := q) hx hb hts hown hK hin hw hq (by omega) cfp_X0_22 rfl rfl dX0_init_26 (fun H locs hw => ?_)
  refine lv_aload_n (pc := 29) hx hb dX0_init_29 rfl (lv_at hl 0 rfl) ?_
  refine lv_iconst (pc := 30) (v := (iI 0)) hx hb dX0_init_30 rfl ?_
  refine c_putI (pc := 31) (q := q) hx hb hts hown hK hin hw hq (by omega) cfp_X0_25 rfl rfl dX0_init_31 (fun H locs hw => ?_)
  refine lv_aload_n (pc := 34) hx hb dX0_init_34 rfl (lv_at hl 0 rfl) ?_
  refine lv_iconst (pc := 35) (v := (iI (-1))) hx hb dX0_init_35 rfl ?_
  refine c_putI (pc := 36) (q := q) hx hb hts hown hK hin hw hq (by omega) cfp_X0_28 rfl rfl dX0_init_36 (fun H locs hw => ?_)
  refine lv_aload_n (pc := 39) hx hb dX0_init_39 rfl (lv_at hl 0 rfl) ?_
  refine lv_iconst (pc := 40) (v := (iI (-1))) hx hb dX0_init_40 rfl ?_
  refine c_putI (pc := 41) (q := q) hx hb hts hown hK hin hw hq (by omega) cfp_X0_31 rfl rfl dX0_init_41 (fun H locs hw => ?_)
  exact hret 44 _ _ _ _ _ dX0_init_44 hw (Nat.le_of_ble_eq_true rfl) (Nat.le_of_ble_eq_true rfl)

set_option maxHeartbeats 40000000 in
set_option maxRecDepth 100000 in
theorem ci_X7 (l : Launch) (G : GG) (B : Nat) (hG : ∀ j, G.2.2.1 j = B + j) (q : Nat) (hq : LAY[q]? = some (10, 0)) (h : Mem) (a : Asg) : SatC l G B yX7_init cX7_init 1 1 [.ref (G.2.2.1 q)] h a (q + 1) (m_X7 h q) (s_X7 a q) (q + 2) 1 40 := by
  refine SatC.mk (by decide) rfl (Nat.le_of_ble_eq_true rfl) ?_
  intro p e s m args below meth c Q F hret hw ls hl
  obtain ⟨hx, hb, hml, hown, hts, hK, hN, hin⟩ := F
  have hl : lv_has ls 1 [(0, .ref (G.2.2.1 q))] := hl
  obtain ⟨locs, elocs⟩ : ∃ x : List Loc, x = [] := ⟨_, rfl⟩
  rw [← elocs] at hw ⊢
  refine lv_aload_n (pc := 0) hx hb dX7_init_0 rfl (lv_at hl 0 rfl) ?_
  refine W.objInit hx hb hown (hts _ oi_X7_1.1) (hts _ oi_X7_1.2.1) (hts _ oi_X7_1.2.2) rfl (by rw [hml]; exact hl.1) rfl dX7_init_1 (Nat.le_of_ble_eq_true rfl) (Nat.le_of_ble_eq_true rfl) ?_
  refine W.eq (g2 := F0 m 4 ls []) rfl ?_
  refine lv_aload_n (pc := 4) hx hb dX7_init_4 rfl (lv_at hl 0 rfl) ?_
  refine lv_iconst (pc := 5) (v := (iI 0)) hx hb dX7_init_5 rfl ?_
  refine c_putI (pc := 6) (q := q) hx hb hts hown hK hin hw hq (by omega) cfp_X7_7 rfl rfl dX7_init_6 (fun H locs hw => ?_)
  refine lv_aload_n (pc := 9) hx hb dX7_init_9 rfl (lv_at hl 0 rfl) ?_
  refine lv_iconst (pc := 10) (v := (iI 0)) hx hb dX7_init_10 rfl ?_
  refine c_putI (pc := 11) (q := q) hx hb hts hown hK hin hw hq (by omega) cfp_X7_13 rfl rfl dX7_init_11 (fun H locs hw => ?_)
  refine lv_aload_n (pc := 14) hx hb dX7_init_14 rfl (lv_at hl 0 rfl) ?_
  refine lv_bipush (pc := 15) (v := (iI 40)) hx hb dX7_init_15 (by decide) ?_
  refine c_newa (pc := 17) (atype := .int) (ty := .int) (len := (q + 1)) (N := 40) (s0 := (0, 40)) hG hx hb hts hK hw (wt_X7_numbers _ hq) rfl ar_int (by decide) (by decide) (by decide) (Or.inl ⟨rfl, rfl⟩) (Nat.le_of_ble_eq_true rfl) (Nat.le_of_ble_eq_true rfl) dX7_init_17 (fun H hw => ?_)
  refine c_putR (pc := 19) (q := q) (n := 1) hx hb hts hown hK hin hw hq (by omega) cfp_X7_16 rfl rfl dX7_init_19 (fun H locs hw => ?_)
  exact hret 22 _ _ _ _ _ dX7_init_22 hw (Nat.le_of_ble_eq_true rfl) (Nat.le_of_ble_eq_true rfl)

set_option maxHeartbeats 40000000 in
set_option maxRecDepth 100000 in
theorem ci_X9 (l : Launch) (G : GG) (B : Nat) (hG : ∀ j, G.2.2.1 j = B + j) (q : Nat) (hq : LAY[q]? = some (12, 0)) (h : Mem) (a : Asg) : SatC l G B yX9_init cX9_init 1 2 [.ref (G.2.2.1 q)] h a (q + 1) (m_X9 h q) (s_X9 a q) (q + 13) 12 360 := by
  refine SatC.mk (by decide) rfl (Nat.le_of_ble_eq_true rfl) ?_
  intro p e s m args below meth c Q F hret hw ls hl
  obtain ⟨hx, hb, hml, hown, hts, hK, hN, hin⟩ := F
  have hl : lv_has ls 1 [(0, .ref (G.2.2.1 q))] := hl
  obtain ⟨locs, elocs⟩ : ∃ x : List Loc, x = [] := ⟨_, rfl⟩
  rw [← elocs] at hw ⊢
  refine lv_aload_n (pc := 0) hx hb dX9_init_0 rfl (lv_at hl 0 rfl) ?_
  refine W.objInit hx hb hown (hts _ oi_X9_1.1) (hts _ oi_X9_1.2.1) (hts _ oi_X9_1.2.2) rfl (by rw [hml]; exact hl.1) rfl dX9_init_1 (Nat.le_of_ble_eq_true rfl) (Nat.le_of_ble_eq_true rfl) ?_
  refine W.eq (g2 := F0 m 4 ls []) rfl ?_
  refine lv_aload_n (pc := 4) hx hb dX9_init_4 rfl (lv_at hl 0 rfl) ?_
  refine c_new (pc := 5) (len := (q + 1)) hG hx hb hts hown hK hw (wt_X9_hall _ hq) cnew_X9_7 (Nat.le_of_ble_eq_true rfl) (Nat.le_of_ble_eq_true rfl) dX9_init_5 (fun H hw => ?_)
  refine lv_dup (pc := 8) hx hb dX9_init_8 rfl ?_
  refine c_call (pc := 9) (As := []) (rest := [.ref (G.2.2.1 (q + 1)), .ref (G.2.2.1 q)]) hx hb hml hl.1 hts hown hK hN hw (ci_X3 l G B hG (q + 1) (wt_X9_hall _ hq) _ _) cc_X9_9 ⟨Nat.le_of_ble_eq_true rfl, Nat.le_of_ble_eq_true rfl, Nat.le_of_ble_eq_true rfl, Nat.le_of_ble_eq_true rfl⟩ rfl (Nat.le_of_ble_eq_true rfl) rfl dX9_init_9 (fun H locs hw => ?_)
  refine c_putR (pc := 12) (q := q) (n := 1) hx hb hts hown hK hin hw hq (by omega) cfp_X9_10 rfl rfl dX9_init_12 (fun H locs hw => ?_)
  refine lv_aload_n (pc := 15) hx hb dX9_init_15 rfl (lv_at hl 0 rfl) ?_
  refine c_new (pc := 16) (len := (q + 5)) hG hx hb hts hown hK hw (wt_X9_handLaw _ hq) cnew_X9_16 (Nat.le_of_ble_eq_true rfl) (Nat.le_of_ble_eq_true rfl) dX9_init_16 (fun H hw => ?_)
  refine lv_dup (pc := 19) hx hb dX9_init_19 rfl ?_
  refine lv_iconst (pc := 20) (v := (iI 0)) hx hb dX9_init_20 rfl ?_
  refine c_call (pc := 21) (As := [.int (iI 0)]) (rest := [.ref (G.2.2.1 (q + 5)), .ref (G.2.2.1 q)]) hx hb hml hl.1 hts hown hK hN hw (ci_X5 l G B hG (q + 5) (wt_X9_handLaw _ hq) (iI 0) _ _) cc_X9_18 ⟨Nat.le_of_ble_eq_true rfl, Nat.le_of_ble_eq_true rfl, Nat.le_of_ble_eq_true rfl, Nat.le_of_ble_eq_true rfl⟩ rfl (Nat.le_of_ble_eq_true rfl) rfl dX9_init_21 (fun H locs hw => ?_)
  refine c_putR (pc := 24) (q := q) (n := 5) hx hb hts hown hK hin hw hq (by omega) cfp_X9_21 rfl rfl dX9_init_24 (fun H locs hw => ?_)
  refine lv_aload_n (pc := 27) hx hb dX9_init_27 rfl (lv_at hl 0 rfl) ?_
  refine c_new (pc := 28) (len := (q + 8)) hG hx hb hts hown hK hw (wt_X9_betLaw _ hq) cnew_X9_16 (Nat.le_of_ble_eq_true rfl) (Nat.le_of_ble_eq_true rfl) dX9_init_28 (fun H hw => ?_)
  refine lv_dup (pc := 31) hx hb dX9_init_31 rfl ?_
  refine lv_iconst (pc := 32) (v := (iI 1)) hx hb dX9_init_32 rfl ?_
  refine c_call (pc := 33) (As := [.int (iI 1)]) (rest := [.ref (G.2.2.1 (q + 8)), .ref (G.2.2.1 q)]) hx hb hml hl.1 hts hown hK hN hw (ci_X5 l G B hG (q + 8) (wt_X9_betLaw _ hq) (iI 1) _ _) cc_X9_18 ⟨Nat.le_of_ble_eq_true rfl, Nat.le_of_ble_eq_true rfl, Nat.le_of_ble_eq_true rfl, Nat.le_of_ble_eq_true rfl⟩ rfl (Nat.le_of_ble_eq_true rfl) rfl dX9_init_33 (fun H locs hw => ?_)
  refine c_putR (pc := 36) (q := q) (n := 8) hx hb hts hown hK hin hw hq (by omega) cfp_X9_25 rfl rfl dX9_init_36 (fun H locs hw => ?_)
  refine lv_aload_n (pc := 39) hx hb dX9_init_39 rfl (lv_at hl 0 rfl) ?_
  refine lv_bipush (pc := 40) (v := (iI 50)) hx hb dX9_init_40 (by decide) ?_
  refine c_newa (pc := 42) (atype := .int) (ty := .int) (len := (q + 11)) (N := 50) (s0 := (0, 50)) hG hx hb hts hK hw (wt_X9_tape _ hq) rfl ar_int (by decide) (by decide) (by decide) (Or.inl ⟨rfl, rfl⟩) (Nat.le_of_ble_eq_true rfl) (Nat.le_of_ble_eq_true rfl) dX9_init_42 (fun H hw => ?_)
  refine c_putR (pc := 44) (q := q) (n := 11) hx hb hts hown hK hin hw hq (by omega) cfp_X9_28 rfl rfl dX9_init_44 (fun H locs hw => ?_)
  refine lv_aload_n (pc := 47) hx hb dX9_init_47 rfl (lv_at hl 0 rfl) ?_
  refine lv_iconst (pc := 48) (v := (iI 0)) hx hb dX9_init_48 rfl ?_
  refine c_putI (pc := 49) (q := q) hx hb hts hown hK hin hw hq (by omega) cfp_X9_32 rfl rfl dX9_init_49 (fun H locs hw => ?_)
  refine lv_aload_n (pc := 52) hx hb dX9_init_52 rfl (lv_at hl 0 rfl) ?_
  refine lv_bipush (pc := 53) (v := (iI 20)) hx hb dX9_init_53 (by decide) ?_
  refine c_newa (pc := 55) (atype := .int) (ty := .int) (len := (q + 12)) (N := 20) (s0 := (0, 20)) hG hx hb hts hK hw (wt_X9_waits _ hq) rfl ar_int (by decide) (by decide) (by decide) (Or.inl ⟨rfl, rfl⟩) (Nat.le_of_ble_eq_true rfl) (Nat.le_of_ble_eq_true rfl) dX9_init_55 (fun H hw => ?_)
  refine c_putR (pc := 57) (q := q) (n := 12) hx hb hts hown hK hin hw hq (by omega) cfp_X9_36 rfl rfl dX9_init_57 (fun H locs hw => ?_)
  refine lv_aload_n (pc := 60) hx hb dX9_init_60 rfl (lv_at hl 0 rfl) ?_
  refine lv_iconst (pc := 61) (v := (iI 0)) hx hb dX9_init_61 rfl ?_
  refine c_putI (pc := 62) (q := q) hx hb hts hown hK hin hw hq (by omega) cfp_X9_39 rfl rfl dX9_init_62 (fun H locs hw => ?_)
  refine lv_aload_n (pc := 65) hx hb dX9_init_65 rfl (lv_at hl 0 rfl) ?_
  refine lv_iconst (pc := 66) (v := (iI 0)) hx hb dX9_init_66 rfl ?_
  refine c_putI (pc := 67) (q := q) hx hb hts hown hK hin hw hq (by omega) cfp_X9_42 rfl rfl dX9_init_67 (fun H locs hw => ?_)
  refine lv_aload_n (pc := 70) hx hb dX9_init_70 rfl (lv_at hl 0 rfl) ?_
  refine lv_iconst (pc := 71) (v := (iI 0)) hx hb dX9_init_71 rfl ?_
  refine c_putI (pc := 72) (q := q) hx hb hts hown hK hin hw hq (by omega) cfp_X9_45 rfl rfl dX9_init_72 (fun H locs hw => ?_)
  refine lv_aload_n (pc := 75) hx hb dX9_init_75 rfl (lv_at hl 0 rfl) ?_
  refine lv_iconst (pc := 76) (v := (iI 1)) hx hb dX9_init_76 rfl ?_
  refine c_putI (pc := 77) (q := q) hx hb hts hown hK hin hw hq (by omega) cfp_X9_48 rfl rfl dX9_init_77 (fun H locs hw => ?_)
  exact hret 80 _ _ _ _ _ dX9_init_80 hw (Nat.le_of_ble_eq_true rfl) (Nat.le_of_ble_eq_true rfl)

set_option maxHeartbeats 40000000 in
set_option maxRecDepth 100000 in
theorem ci_X6 (l : Launch) (G : GG) (B : Nat) (hG : ∀ j, G.2.2.1 j = B + j) (h : Mem) (a : Asg) : SatC l G B yX6_init cX6_init 1 1 [.ref (G.2.2.1 34)] h a 35 (m_X6 h) (s_X6 a) 37 2 100 := by
  refine SatC.mk (by decide) rfl (Nat.le_of_ble_eq_true rfl) ?_
  intro p e s m args below meth c Q F hret hw ls hl
  obtain ⟨hx, hb, hml, hown, hts, hK, hN, hin⟩ := F
  have hl : lv_has ls 1 [(0, .ref (G.2.2.1 34))] := hl
  obtain ⟨locs, elocs⟩ : ∃ x : List Loc, x = [] := ⟨_, rfl⟩
  rw [← elocs] at hw ⊢
  refine lv_aload_n (pc := 0) hx hb dX6_init_0 rfl (lv_at hl 0 rfl) ?_
  refine W.objInit hx hb hown (hts _ oi_X6_1.1) (hts _ oi_X6_1.2.1) (hts _ oi_X6_1.2.2) rfl (by rw [hml]; exact hl.1) rfl dX6_init_1 (Nat.le_of_ble_eq_true rfl) (Nat.le_of_ble_eq_true rfl) ?_
  refine W.eq (g2 := F0 m 4 ls []) rfl ?_
  refine lv_aload_n (pc := 4) hx hb dX6_init_4 rfl (lv_at hl 0 rfl) ?_
  refine lv_bipush (pc := 5) (v := (iI 50)) hx hb dX6_init_5 (by decide) ?_
  refine c_newa (pc := 7) (atype := .int) (ty := .int) (len := 35) (N := 50) (s0 := (0, 50)) hG hx hb hts hK hw rfl rfl ar_int (by decide) (by decide) (by decide) (Or.inl ⟨rfl, rfl⟩) (Nat.le_of_ble_eq_true rfl) (Nat.le_of_ble_eq_true rfl) dX6_init_7 (fun H hw => ?_)
  refine c_putR (pc := 9) (q := 34) (n := 1) hx hb hts hown hK hin hw rfl (by decide) cfp_X6_9 rfl rfl dX6_init_9 (fun H locs hw => ?_)
  refine lv_aload_n (pc := 12) hx hb dX6_init_12 rfl (lv_at hl 0 rfl) ?_
  refine lv_iconst (pc := 13) (v := (iI 0)) hx hb dX6_init_13 rfl ?_
  refine c_putI (pc := 14) (q := 34) hx hb hts hown hK hin hw rfl (by decide) cfp_X6_15 rfl rfl dX6_init_14 (fun H locs hw => ?_)
  refine lv_aload_n (pc := 17) hx hb dX6_init_17 rfl (lv_at hl 0 rfl) ?_
  refine lv_bipush (pc := 18) (v := (iI 50)) hx hb dX6_init_18 (by decide) ?_
  refine c_newa (pc := 20) (atype := .int) (ty := .int) (len := 36) (N := 50) (s0 := (0, 50)) hG hx hb hts hK hw rfl rfl ar_int (by decide) (by decide) (by decide) (Or.inl ⟨rfl, rfl⟩) (Nat.le_of_ble_eq_true rfl) (Nat.le_of_ble_eq_true rfl) dX6_init_20 (fun H hw => ?_)
  refine c_putR (pc := 22) (q := 34) (n := 2) hx hb hts hown hK hin hw rfl (by decide) cfp_X6_19 rfl rfl dX6_init_22 (fun H locs hw => ?_)
  refine lv_aload_n (pc := 25) hx hb dX6_init_25 rfl (lv_at hl 0 rfl) ?_
  refine lv_iconst (pc := 26) (v := (iI 0)) hx hb dX6_init_26 rfl ?_
  refine c_putI (pc := 27) (q := 34) hx hb hts hown hK hin hw rfl (by decide) cfp_X6_22 rfl rfl dX6_init_27 (fun H locs hw => ?_)
  refine lv_aload_n (pc := 30) hx hb dX6_init_30 rfl (lv_at hl 0 rfl) ?_
  refine lv_iconst (pc := 31) (v := (iI 0)) hx hb dX6_init_31 rfl ?_
  refine c_putI (pc := 32) (q := 34) hx hb hts hown hK hin hw rfl (by decide) cfp_X6_25 rfl rfl dX6_init_32 (fun H locs hw => ?_)
  refine lv_aload_n (pc := 35) hx hb dX6_init_35 rfl (lv_at hl 0 rfl) ?_
  refine lv_iconst (pc := 36) (v := (iI 0)) hx hb dX6_init_36 rfl ?_
  refine c_putI (pc := 37) (q := 34) hx hb hts hown hK hin hw rfl (by decide) cfp_X6_28 rfl rfl dX6_init_37 (fun H locs hw => ?_)
  refine lv_aload_n (pc := 40) hx hb dX6_init_40 rfl (lv_at hl 0 rfl) ?_
  refine lv_iconst (pc := 41) (v := (iI 0)) hx hb dX6_init_41 rfl ?_
  refine c_putI (pc := 42) (q := 34) hx hb hts hown hK hin hw rfl (by decide) cfp_X6_31 rfl rfl dX6_init_42 (fun H locs hw => ?_)
  exact hret 45 _ _ _ _ _ dX6_init_45 hw (Nat.le_of_ble_eq_true rfl) (Nat.le_of_ble_eq_true rfl)

set_option maxHeartbeats 40000000 in
set_option maxRecDepth 100000 in
theorem ci_X8 (l : Launch) (G : GG) (B : Nat) (hG : ∀ j, G.2.2.1 j = B + j) (h : Mem) (a : Asg) : SatC l G B yX8_init cX8_init 1 1 [.ref (G.2.2.1 37)] h a 38 (m_X8 h) (s_X8 a) 39 1 40 := by
  refine SatC.mk (by decide) rfl (Nat.le_of_ble_eq_true rfl) ?_
  intro p e s m args below meth c Q F hret hw ls hl
  obtain ⟨hx, hb, hml, hown, hts, hK, hN, hin⟩ := F
  have hl : lv_has ls 1 [(0, .ref (G.2.2.1 37))] := hl
  obtain ⟨locs, elocs⟩ : ∃ x : List Loc, x = [] := ⟨_, rfl⟩
  rw [← elocs] at hw ⊢
  refine lv_aload_n (pc := 0) hx hb dX8_init_0 rfl (lv_at hl 0 rfl) ?_
  refine W.objInit hx hb hown (hts _ oi_X8_1.1) (hts _ oi_X8_1.2.1) (hts _ oi_X8_1.2.2) rfl (by rw [hml]; exact hl.1) rfl dX8_init_1 (Nat.le_of_ble_eq_true rfl) (Nat.le_of_ble_eq_true rfl) ?_
  refine W.eq (g2 := F0 m 4 ls []) rfl ?_
  refine lv_aload_n (pc := 4) hx hb dX8_init_4 rfl (lv_at hl 0 rfl) ?_
  refine lv_bipush (pc := 5) (v := (iI 40)) hx hb dX8_init_5 (by decide) ?_
  refine c_newa (pc := 7) (atype := .int) (ty := .int) (len := 38) (N := 40) (s0 := (0, 40)) hG hx hb hts hK hw rfl rfl ar_int (by decide) (by decide) (by decide) (Or.inl ⟨rfl, rfl⟩) (Nat.le_of_ble_eq_true rfl) (Nat.le_of_ble_eq_true rfl) dX8_init_7 (fun H hw => ?_)
  refine c_putR (pc := 9) (q := 37) (n := 1) hx hb hts hown hK hin hw rfl (by decide) cfp_X8_9 rfl rfl dX8_init_9 (fun H locs hw => ?_)
  refine lv_aload_n (pc := 12) hx hb dX8_init_12 rfl (lv_at hl 0 rfl) ?_
  refine lv_iconst (pc := 13) (v := (iI 0)) hx hb dX8_init_13 rfl ?_
  refine c_putI (pc := 14) (q := 37) hx hb hts hown hK hin hw rfl (by decide) cfp_X8_13 rfl rfl dX8_init_14 (fun H locs hw => ?_)
  refine lv_aload_n (pc := 17) hx hb dX8_init_17 rfl (lv_at hl 0 rfl) ?_
  refine lv_iconst (pc := 18) (v := (iI 0)) hx hb dX8_init_18 rfl ?_
  refine c_putI (pc := 19) (q := 37) hx hb hts hown hK hin hw rfl (by decide) cfp_X8_17 rfl rfl dX8_init_19 (fun H locs hw => ?_)
  refine lv_aload_n (pc := 22) hx hb dX8_init_22 rfl (lv_at hl 0 rfl) ?_
  refine lv_iconst (pc := 23) (v := (iI 0)) hx hb dX8_init_23 rfl ?_
  refine c_putI (pc := 24) (q := 37) hx hb hts hown hK hin hw rfl (by decide) cfp_X8_20 rfl rfl dX8_init_24 (fun H locs hw => ?_)
  refine lv_aload_n (pc := 27) hx hb dX8_init_27 rfl (lv_at hl 0 rfl) ?_
  refine lv_iconst (pc := 28) (v := (iI 0)) hx hb dX8_init_28 rfl ?_
  refine c_putI (pc := 29) (q := 37) hx hb hts hown hK hin hw rfl (by decide) cfp_X8_23 rfl rfl dX8_init_29 (fun H locs hw => ?_)
  exact hret 32 _ _ _ _ _ dX8_init_32 hw (Nat.le_of_ble_eq_true rfl) (Nat.le_of_ble_eq_true rfl)

set_option maxHeartbeats 40000000 in
set_option maxRecDepth 100000 in
theorem ci_X2 (l : Launch) (G : GG) (B : Nat) (hG : ∀ j, G.2.2.1 j = B + j) (h : Mem) (a : Asg) : SatC l G B yX2_init cX2_init 1 2 [.ref (G.2.2.1 39)] h a 40 (m_X2 h) (s_X2 a) 50 10 501 := by
  refine SatC.mk (by decide) rfl (Nat.le_of_ble_eq_true rfl) ?_
  intro p e s m args below meth c Q F hret hw ls hl
  obtain ⟨hx, hb, hml, hown, hts, hK, hN, hin⟩ := F
  have hl : lv_has ls 1 [(0, .ref (G.2.2.1 39))] := hl
  obtain ⟨locs, elocs⟩ : ∃ x : List Loc, x = [] := ⟨_, rfl⟩
  rw [← elocs] at hw ⊢
  refine lv_aload_n (pc := 0) hx hb dX2_init_0 rfl (lv_at hl 0 rfl) ?_
  refine W.objInit hx hb hown (hts _ oi_X2_1.1) (hts _ oi_X2_1.2.1) (hts _ oi_X2_1.2.2) rfl (by rw [hml]; exact hl.1) rfl dX2_init_1 (Nat.le_of_ble_eq_true rfl) (Nat.le_of_ble_eq_true rfl) ?_
  refine W.eq (g2 := F0 m 4 ls []) rfl ?_
  refine lv_aload_n (pc := 4) hx hb dX2_init_4 rfl (lv_at hl 0 rfl) ?_
  refine c_new (pc := 5) (len := 40) hG hx hb hts hown hK hw rfl cnew_X2_7 (Nat.le_of_ble_eq_true rfl) (Nat.le_of_ble_eq_true rfl) dX2_init_5 (fun H hw => ?_)
  refine lv_dup (pc := 8) hx hb dX2_init_8 rfl ?_
  refine c_call (pc := 9) (As := []) (rest := [.ref (G.2.2.1 40), .ref (G.2.2.1 39)]) hx hb hml hl.1 hts hown hK hN hw (ci_X3 l G B hG 40 rfl _ _) cc_X2_9 ⟨Nat.le_of_ble_eq_true rfl, Nat.le_of_ble_eq_true rfl, Nat.le_of_ble_eq_true rfl, Nat.le_of_ble_eq_true rfl⟩ rfl (Nat.le_of_ble_eq_true rfl) rfl dX2_init_9 (fun H locs hw => ?_)
  refine c_putR (pc := 12) (q := 39) (n := 1) hx hb hts hown hK hin hw rfl (by decide) cfp_X2_10 rfl rfl dX2_init_12 (fun H locs hw => ?_)
  refine lv_aload_n (pc := 15) hx hb dX2_init_15 rfl (lv_at hl 0 rfl) ?_
  refine c_new (pc := 16) (len := 44) hG hx hb hts hown hK hw rfl cnew_X2_16 (Nat.le_of_ble_eq_true rfl) (Nat.le_of_ble_eq_true rfl) dX2_init_16 (fun H hw => ?_)
  refine lv_dup (pc := 19) hx hb dX2_init_19 rfl ?_
  refine c_call (pc := 20) (As := []) (rest := [.ref (G.2.2.1 44), .ref (G.2.2.1 39)]) hx hb hml hl.1 hts hown hK hN hw (ci_X0 l G B hG 44 rfl _ _) cc_X2_18 ⟨Nat.le_of_ble_eq_true rfl, Nat.le_of_ble_eq_true rfl, Nat.le_of_ble_eq_true rfl, Nat.le_of_ble_eq_true rfl⟩ rfl (Nat.le_of_ble_eq_true rfl) rfl dX2_init_20 (fun H locs hw => ?_)
  refine c_putR (pc := 23) (q := 39) (n := 5) hx hb hts hown hK hin hw rfl (by decide) cfp_X2_19 rfl rfl dX2_init_23 (fun H locs hw => ?_)
  refine lv_aload_n (pc := 26) hx hb dX2_init_26 rfl (lv_at hl 0 rfl) ?_
  refine lv_iconst (pc := 27) (v := (iI 3)) hx hb dX2_init_27 rfl ?_
  refine c_newa (pc := 28) (atype := .int) (ty := .int) (len := 45) (N := 3) (s0 := (0, 3)) hG hx hb hts hK hw rfl rfl ar_int (by decide) (by decide) (by decide) (Or.inl ⟨rfl, rfl⟩) (Nat.le_of_ble_eq_true rfl) (Nat.le_of_ble_eq_true rfl) dX2_init_28 (fun H hw => ?_)
  refine c_putR (pc := 30) (q := 39) (n := 6) hx hb hts hown hK hin hw rfl (by decide) cfp_X2_23 rfl rfl dX2_init_30 (fun H locs hw => ?_)
  refine lv_aload_n (pc := 33) hx hb dX2_init_33 rfl (lv_at hl 0 rfl) ?_
  refine lv_iconst (pc := 34) (v := (iI 3)) hx hb dX2_init_34 rfl ?_
  refine c_newa (pc := 35) (atype := .int) (ty := .int) (len := 46) (N := 3) (s0 := (0, 3)) hG hx hb hts hK hw rfl rfl ar_int (by decide) (by decide) (by decide) (Or.inl ⟨rfl, rfl⟩) (Nat.le_of_ble_eq_true rfl) (Nat.le_of_ble_eq_true rfl) dX2_init_35 (fun H hw => ?_)
  refine c_putR (pc := 37) (q := 39) (n := 7) hx hb hts hown hK hin hw rfl (by decide) cfp_X2_27 rfl rfl dX2_init_37 (fun H locs hw => ?_)
  refine lv_aload_n (pc := 40) hx hb dX2_init_40 rfl (lv_at hl 0 rfl) ?_
  refine lv_iconst (pc := 41) (v := (iI 3)) hx hb dX2_init_41 rfl ?_
  refine c_newa (pc := 42) (atype := .long) (ty := .long) (len := 47) (N := 3) (s0 := (1, 3)) hG hx hb hts hK hw rfl rfl ar_long (by decide) (by decide) (by decide) (Or.inr ⟨rfl, rfl⟩) (Nat.le_of_ble_eq_true rfl) (Nat.le_of_ble_eq_true rfl) dX2_init_42 (fun H hw => ?_)
  refine c_putR (pc := 44) (q := 39) (n := 8) hx hb hts hown hK hin hw rfl (by decide) cfp_X2_30 rfl rfl dX2_init_44 (fun H locs hw => ?_)
  refine lv_aload_n (pc := 47) hx hb dX2_init_47 rfl (lv_at hl 0 rfl) ?_
  refine lv_sipush (pc := 48) (v := (iI 201)) hx hb dX2_init_48 (by decide) ?_
  refine c_newa (pc := 51) (atype := .int) (ty := .int) (len := 48) (N := 201) (s0 := (0, 201)) hG hx hb hts hK hw rfl rfl ar_int (by decide) (by decide) (by decide) (Or.inl ⟨rfl, rfl⟩) (Nat.le_of_ble_eq_true rfl) (Nat.le_of_ble_eq_true rfl) dX2_init_51 (fun H hw => ?_)
  refine c_putR (pc := 53) (q := 39) (n := 9) hx hb hts hown hK hin hw rfl (by decide) cfp_X2_34 rfl rfl dX2_init_53 (fun H locs hw => ?_)
  refine lv_aload_n (pc := 56) hx hb dX2_init_56 rfl (lv_at hl 0 rfl) ?_
  refine lv_sipush (pc := 57) (v := (iI 201)) hx hb dX2_init_57 (by decide) ?_
  refine c_newa (pc := 60) (atype := .long) (ty := .long) (len := 49) (N := 201) (s0 := (1, 201)) hG hx hb hts hK hw rfl rfl ar_long (by decide) (by decide) (by decide) (Or.inr ⟨rfl, rfl⟩) (Nat.le_of_ble_eq_true rfl) (Nat.le_of_ble_eq_true rfl) dX2_init_60 (fun H hw => ?_)
  refine c_putR (pc := 62) (q := 39) (n := 10) hx hb hts hown hK hin hw rfl (by decide) cfp_X2_37 rfl rfl dX2_init_62 (fun H locs hw => ?_)
  refine lv_aload_n (pc := 65) hx hb dX2_init_65 rfl (lv_at hl 0 rfl) ?_
  refine lv_iconst (pc := 66) (v := (iI 0)) hx hb dX2_init_66 rfl ?_
  refine c_putI (pc := 67) (q := 39) hx hb hts hown hK hin hw rfl (by decide) cfp_X2_40 rfl rfl dX2_init_67 (fun H locs hw => ?_)
  refine lv_aload_n (pc := 70) hx hb dX2_init_70 rfl (lv_at hl 0 rfl) ?_
  refine lv_iconst (pc := 71) (v := (iI 0)) hx hb dX2_init_71 rfl ?_
  refine c_putI (pc := 72) (q := 39) hx hb hts hown hK hin hw rfl (by decide) cfp_X2_44 rfl rfl dX2_init_72 (fun H locs hw => ?_)
  refine lv_aload_n (pc := 75) hx hb dX2_init_75 rfl (lv_at hl 0 rfl) ?_
  refine lv_iconst (pc := 76) (v := (iI 0)) hx hb dX2_init_76 rfl ?_
  refine c_putI (pc := 77) (q := 39) hx hb hts hown hK hin hw rfl (by decide) cfp_X2_47 rfl rfl dX2_init_77 (fun H locs hw => ?_)
  exact hret 80 _ _ _ _ _ dX2_init_80 hw (Nat.le_of_ble_eq_true rfl) (Nat.le_of_ble_eq_true rfl)

set_option maxHeartbeats 40000000 in
set_option maxRecDepth 100000 in
theorem ci_X4 (l : Launch) (G : GG) (B : Nat) (hG : ∀ j, G.2.2.1 j = B + j) (h : Mem) (a : Asg) : SatC l G B yX4_init cX4_init 1 2 [.ref (G.2.2.1 50)] h a 51 (m_X4 h) (s_X4 a) 56 5 90 := by
  refine SatC.mk (by decide) rfl (Nat.le_of_ble_eq_true rfl) ?_
  intro p e s m args below meth c Q F hret hw ls hl
  obtain ⟨hx, hb, hml, hown, hts, hK, hN, hin⟩ := F
  have hl : lv_has ls 1 [(0, .ref (G.2.2.1 50))] := hl
  obtain ⟨locs, elocs⟩ : ∃ x : List Loc, x = [] := ⟨_, rfl⟩
  rw [← elocs] at hw ⊢
  refine lv_aload_n (pc := 0) hx hb dX4_init_0 rfl (lv_at hl 0 rfl) ?_
  refine W.objInit hx hb hown (hts _ oi_X4_1.1) (hts _ oi_X4_1.2.1) (hts _ oi_X4_1.2.2) rfl (by rw [hml]; exact hl.1) rfl dX4_init_1 (Nat.le_of_ble_eq_true rfl) (Nat.le_of_ble_eq_true rfl) ?_
  refine W.eq (g2 := F0 m 4 ls []) rfl ?_
  refine lv_aload_n (pc := 4) hx hb dX4_init_4 rfl (lv_at hl 0 rfl) ?_
  refine c_new (pc := 5) (len := 51) hG hx hb hts hown hK hw rfl cnew_X4_7 (Nat.le_of_ble_eq_true rfl) (Nat.le_of_ble_eq_true rfl) dX4_init_5 (fun H hw => ?_)
  refine lv_dup (pc := 8) hx hb dX4_init_8 rfl ?_
  refine c_call (pc := 9) (As := []) (rest := [.ref (G.2.2.1 51), .ref (G.2.2.1 50)]) hx hb hml hl.1 hts hown hK hN hw (ci_X3 l G B hG 51 rfl _ _) cc_X4_9 ⟨Nat.le_of_ble_eq_true rfl, Nat.le_of_ble_eq_true rfl, Nat.le_of_ble_eq_true rfl, Nat.le_of_ble_eq_true rfl⟩ rfl (Nat.le_of_ble_eq_true rfl) rfl dX4_init_9 (fun H locs hw => ?_)
  refine c_putR (pc := 12) (q := 50) (n := 1) hx hb hts hown hK hin hw rfl (by decide) cfp_X4_10 rfl rfl dX4_init_12 (fun H locs hw => ?_)
  refine lv_aload_n (pc := 15) hx hb dX4_init_15 rfl (lv_at hl 0 rfl) ?_
  refine c_new (pc := 16) (len := 55) hG hx hb hts hown hK hw rfl cnew_X4_16 (Nat.le_of_ble_eq_true rfl) (Nat.le_of_ble_eq_true rfl) dX4_init_16 (fun H hw => ?_)
  refine lv_dup (pc := 19) hx hb dX4_init_19 rfl ?_
  refine c_call (pc := 20) (As := []) (rest := [.ref (G.2.2.1 55), .ref (G.2.2.1 50)]) hx hb hml hl.1 hts hown hK hN hw (ci_X0 l G B hG 55 rfl _ _) cc_X4_18 ⟨Nat.le_of_ble_eq_true rfl, Nat.le_of_ble_eq_true rfl, Nat.le_of_ble_eq_true rfl, Nat.le_of_ble_eq_true rfl⟩ rfl (Nat.le_of_ble_eq_true rfl) rfl dX4_init_20 (fun H locs hw => ?_)
  refine c_putR (pc := 23) (q := 50) (n := 5) hx hb hts hown hK hin hw rfl (by decide) cfp_X4_19 rfl rfl dX4_init_23 (fun H locs hw => ?_)
  refine lv_aload_n (pc := 26) hx hb dX4_init_26 rfl (lv_at hl 0 rfl) ?_
  refine lv_iconst (pc := 27) (v := (iI 0)) hx hb dX4_init_27 rfl ?_
  refine c_putI (pc := 28) (q := 50) hx hb hts hown hK hin hw rfl (by decide) cfp_X4_23 rfl rfl dX4_init_28 (fun H locs hw => ?_)
  refine lv_aload_n (pc := 31) hx hb dX4_init_31 rfl (lv_at hl 0 rfl) ?_
  refine lv_iconst (pc := 32) (v := (iI 0)) hx hb dX4_init_32 rfl ?_
  refine c_putI (pc := 33) (q := 50) hx hb hts hown hK hin hw rfl (by decide) cfp_X4_27 rfl rfl dX4_init_33 (fun H locs hw => ?_)
  refine lv_aload_n (pc := 36) hx hb dX4_init_36 rfl (lv_at hl 0 rfl) ?_
  refine lv_iconst (pc := 37) (v := (iI 0)) hx hb dX4_init_37 rfl ?_
  refine c_putI (pc := 38) (q := 50) hx hb hts hown hK hin hw rfl (by decide) cfp_X4_30 rfl rfl dX4_init_38 (fun H locs hw => ?_)
  refine lv_aload_n (pc := 41) hx hb dX4_init_41 rfl (lv_at hl 0 rfl) ?_
  refine lv_iconst (pc := 42) (v := (iI (-1))) hx hb dX4_init_42 rfl ?_
  refine c_putI (pc := 43) (q := 50) hx hb hts hown hK hin hw rfl (by decide) cfp_X4_33 rfl rfl dX4_init_43 (fun H locs hw => ?_)
  refine lv_aload_n (pc := 46) hx hb dX4_init_46 rfl (lv_at hl 0 rfl) ?_
  refine lv_iconst (pc := 47) (v := (iI 0)) hx hb dX4_init_47 rfl ?_
  refine c_putI (pc := 48) (q := 50) hx hb hts hown hK hin hw rfl (by decide) cfp_X4_36 rfl rfl dX4_init_48 (fun H locs hw => ?_)
  exact hret 51 _ _ _ _ _ dX4_init_51 hw (Nat.le_of_ble_eq_true rfl) (Nat.le_of_ble_eq_true rfl)

set_option maxHeartbeats 40000000 in
set_option maxRecDepth 100000 in
theorem ci_X1 (l : Launch) (G : GG) (B : Nat) (hG : ∀ j, G.2.2.1 j = B + j) (h : Mem) (a : Asg) : SatC l G B yX1_init cX1_init 1 2 [.ref (G.2.2.1 56)] h a 57 (m_X1 h) (s_X1 a) 64 7 115 := by
  refine SatC.mk (by decide) rfl (Nat.le_of_ble_eq_true rfl) ?_
  intro p e s m args below meth c Q F hret hw ls hl
  obtain ⟨hx, hb, hml, hown, hts, hK, hN, hin⟩ := F
  have hl : lv_has ls 1 [(0, .ref (G.2.2.1 56))] := hl
  obtain ⟨locs, elocs⟩ : ∃ x : List Loc, x = [] := ⟨_, rfl⟩
  rw [← elocs] at hw ⊢
  refine lv_aload_n (pc := 0) hx hb dX1_init_0 rfl (lv_at hl 0 rfl) ?_
  refine W.objInit hx hb hown (hts _ oi_X1_1.1) (hts _ oi_X1_1.2.1) (hts _ oi_X1_1.2.2) rfl (by rw [hml]; exact hl.1) rfl dX1_init_1 (Nat.le_of_ble_eq_true rfl) (Nat.le_of_ble_eq_true rfl) ?_
  refine W.eq (g2 := F0 m 4 ls []) rfl ?_
  refine lv_aload_n (pc := 4) hx hb dX1_init_4 rfl (lv_at hl 0 rfl) ?_
  refine c_new (pc := 5) (len := 57) hG hx hb hts hown hK hw rfl cnew_X1_7 (Nat.le_of_ble_eq_true rfl) (Nat.le_of_ble_eq_true rfl) dX1_init_5 (fun H hw => ?_)
  refine lv_dup (pc := 8) hx hb dX1_init_8 rfl ?_
  refine c_call (pc := 9) (As := []) (rest := [.ref (G.2.2.1 57), .ref (G.2.2.1 56)]) hx hb hml hl.1 hts hown hK hN hw (ci_X3 l G B hG 57 rfl _ _) cc_X1_9 ⟨Nat.le_of_ble_eq_true rfl, Nat.le_of_ble_eq_true rfl, Nat.le_of_ble_eq_true rfl, Nat.le_of_ble_eq_true rfl⟩ rfl (Nat.le_of_ble_eq_true rfl) rfl dX1_init_9 (fun H locs hw => ?_)
  refine c_putR (pc := 12) (q := 56) (n := 1) hx hb hts hown hK hin hw rfl (by decide) cfp_X1_10 rfl rfl dX1_init_12 (fun H locs hw => ?_)
  refine lv_aload_n (pc := 15) hx hb dX1_init_15 rfl (lv_at hl 0 rfl) ?_
  refine c_new (pc := 16) (len := 61) hG hx hb hts hown hK hw rfl cnew_X1_16 (Nat.le_of_ble_eq_true rfl) (Nat.le_of_ble_eq_true rfl) dX1_init_16 (fun H hw => ?_)
  refine lv_dup (pc := 19) hx hb dX1_init_19 rfl ?_
  refine c_call (pc := 20) (As := []) (rest := [.ref (G.2.2.1 61), .ref (G.2.2.1 56)]) hx hb hml hl.1 hts hown hK hN hw (ci_X0 l G B hG 61 rfl _ _) cc_X1_18 ⟨Nat.le_of_ble_eq_true rfl, Nat.le_of_ble_eq_true rfl, Nat.le_of_ble_eq_true rfl, Nat.le_of_ble_eq_true rfl⟩ rfl (Nat.le_of_ble_eq_true rfl) rfl dX1_init_20 (fun H locs hw => ?_)
  refine c_putR (pc := 23) (q := 56) (n := 5) hx hb hts hown hK hin hw rfl (by decide) cfp_X1_19 rfl rfl dX1_init_23 (fun H locs hw => ?_)
  refine lv_aload_n (pc := 26) hx hb dX1_init_26 rfl (lv_at hl 0 rfl) ?_
  refine lv_iconst (pc := 27) (v := (iI 5)) hx hb dX1_init_27 rfl ?_
  refine c_newa (pc := 28) (atype := .int) (ty := .int) (len := 62) (N := 5) (s0 := (0, 5)) hG hx hb hts hK hw rfl rfl ar_int (by decide) (by decide) (by decide) (Or.inl ⟨rfl, rfl⟩) (Nat.le_of_ble_eq_true rfl) (Nat.le_of_ble_eq_true rfl) dX1_init_28 (fun H hw => ?_)
  refine c_putR (pc := 30) (q := 56) (n := 6) hx hb hts hown hK hin hw rfl (by decide) cfp_X1_23 rfl rfl dX1_init_30 (fun H locs hw => ?_)
  refine lv_aload_n (pc := 33) hx hb dX1_init_33 rfl (lv_at hl 0 rfl) ?_
  refine lv_iconst (pc := 34) (v := (iI 0)) hx hb dX1_init_34 rfl ?_
  refine c_putI (pc := 35) (q := 56) hx hb hts hown hK hin hw rfl (by decide) cfp_X1_27 rfl rfl dX1_init_35 (fun H locs hw => ?_)
  refine lv_aload_n (pc := 38) hx hb dX1_init_38 rfl (lv_at hl 0 rfl) ?_
  refine lv_iconst (pc := 39) (v := (iI 0)) hx hb dX1_init_39 rfl ?_
  refine c_putI (pc := 40) (q := 56) hx hb hts hown hK hin hw rfl (by decide) cfp_X1_31 rfl rfl dX1_init_40 (fun H locs hw => ?_)
  refine lv_aload_n (pc := 43) hx hb dX1_init_43 rfl (lv_at hl 0 rfl) ?_
  refine lv_lconst (pc := 44) (v := iL 0) hx hb dX1_init_44 (by decide) ?_
  refine c_putL (pc := 45) (q := 56) hx hb hts hown hK hin hw rfl (by decide) cfp_X1_34 dX1_init_45 (fun H locs hw => ?_)
  refine lv_aload_n (pc := 48) hx hb dX1_init_48 rfl (lv_at hl 0 rfl) ?_
  refine lv_bipush (pc := 49) (v := (iI 20)) hx hb dX1_init_49 (by decide) ?_
  refine c_newa (pc := 51) (atype := .int) (ty := .int) (len := 63) (N := 20) (s0 := (0, 20)) hG hx hb hts hK hw rfl rfl ar_int (by decide) (by decide) (by decide) (Or.inl ⟨rfl, rfl⟩) (Nat.le_of_ble_eq_true rfl) (Nat.le_of_ble_eq_true rfl) dX1_init_51 (fun H hw => ?_)
  refine c_putR (pc := 53) (q := 56) (n := 7) hx hb hts hown hK hin hw rfl (by decide) cfp_X1_38 rfl rfl dX1_init_53 (fun H locs hw => ?_)
  refine lv_aload_n (pc := 56) hx hb dX1_init_56 rfl (lv_at hl 0 rfl) ?_
  refine lv_iconst (pc := 57) (v := (iI 0)) hx hb dX1_init_57 rfl ?_
  refine c_putI (pc := 58) (q := 56) hx hb hts hown hK hin hw rfl (by decide) cfp_X1_41 rfl rfl dX1_init_58 (fun H locs hw => ?_)
  refine lv_aload_n (pc := 61) hx hb dX1_init_61 rfl (lv_at hl 0 rfl) ?_
  refine lv_iconst (pc := 62) (v := (iI 1)) hx hb dX1_init_62 rfl ?_
  refine c_putI (pc := 63) (q := 56) hx hb hts hown hK hin hw rfl (by decide) cfp_X1_44 rfl rfl dX1_init_63 (fun H locs hw => ?_)
  refine lv_aload_n (pc := 66) hx hb dX1_init_66 rfl (lv_at hl 0 rfl) ?_
  refine lv_iconst (pc := 67) (v := (iI 0)) hx hb dX1_init_67 rfl ?_
  refine c_putI (pc := 68) (q := 56) hx hb hts hown hK hin hw rfl (by decide) cfp_X1_47 rfl rfl dX1_init_68 (fun H locs hw => ?_)
  refine lv_aload_n (pc := 71) hx hb dX1_init_71 rfl (lv_at hl 0 rfl) ?_
  refine lv_iconst (pc := 72) (v := (iI 0)) hx hb dX1_init_72 rfl ?_
  refine c_putI (pc := 73) (q := 56) hx hb hts hown hK hin hw rfl (by decide) cfp_X1_50 rfl rfl dX1_init_73 (fun H locs hw => ?_)
  exact hret 76 _ _ _ _ _ dX1_init_76 hw (Nat.le_of_ble_eq_true rfl) (Nat.le_of_ble_eq_true rfl)

set_option maxHeartbeats 40000000 in
set_option maxRecDepth 100000 in
theorem ci_X10 (l : Launch) (G : GG) (B : Nat) (hG : ∀ j, G.2.2.1 j = B + j) (h : Mem) (a : Asg) : SatC l G B yX10_init cX10_init 2 3 [.ref (G.2.2.1 0)] h a 1 (m_X10 h) (s_X10 a) 72 71 1898 := by
  refine SatC.mk (by decide) rfl (Nat.le_of_ble_eq_true rfl) ?_
  intro p e s m args below meth c Q F hret hw ls hl
  obtain ⟨hx, hb, hml, hown, hts, hK, hN, hin⟩ := F
  have hAO := hN.2
  have hl : lv_has ls 2 [(0, .ref (G.2.2.1 0))] := hl
  obtain ⟨locs, elocs⟩ : ∃ x : List Loc, x = [] := ⟨_, rfl⟩
  rw [← elocs] at hw ⊢
  refine lv_aload_n (pc := 0) hx hb dX10_init_0 rfl (lv_at hl 0 rfl) ?_
  refine W.objInit hx hb hown (hts _ oi_X10_1.1) (hts _ oi_X10_1.2.1) (hts _ oi_X10_1.2.2) rfl (by rw [hml]; exact hl.1) rfl dX10_init_1 (Nat.le_of_ble_eq_true rfl) (Nat.le_of_ble_eq_true rfl) ?_
  refine W.eq (g2 := F0 m 4 ls []) rfl ?_
  refine lv_aload_n (pc := 4) hx hb dX10_init_4 rfl (lv_at hl 0 rfl) ?_
  refine lv_bipush (pc := 5) (v := (iI 6)) hx hb dX10_init_5 (by decide) ?_
  refine c_newa (pc := 7) (atype := .int) (ty := .int) (len := 1) (N := 6) (s0 := (0, 6)) hG hx hb hts hK hw rfl rfl ar_int (by decide) (by decide) (by decide) (Or.inl ⟨rfl, rfl⟩) (Nat.le_of_ble_eq_true rfl) (Nat.le_of_ble_eq_true rfl) dX10_init_7 (fun H hw => ?_)
  refine c_putR (pc := 9) (q := 0) (n := 1) hx hb hts hown hK hin hw rfl (by decide) cfp_X10_7 rfl rfl dX10_init_9 (fun H locs hw => ?_)
  refine lv_aload_n (pc := 12) hx hb dX10_init_12 rfl (lv_at hl 0 rfl) ?_
  refine c_new (pc := 13) (len := 2) hG hx hb hts hown hK hw rfl cnew_X10_13 (Nat.le_of_ble_eq_true rfl) (Nat.le_of_ble_eq_true rfl) dX10_init_13 (fun H hw => ?_)
  refine lv_dup (pc := 16) hx hb dX10_init_16 rfl ?_
  refine c_call (pc := 17) (As := []) (rest := [.ref (G.2.2.1 2), .ref (G.2.2.1 0)]) hx hb hml hl.1 hts hown hK hN hw (ci_X9 l G B hG 2 rfl _ _) cc_X10_15 ⟨Nat.le_of_ble_eq_true rfl, Nat.le_of_ble_eq_true rfl, Nat.le_of_ble_eq_true rfl, Nat.le_of_ble_eq_true rfl⟩ rfl (Nat.le_of_ble_eq_true rfl) rfl dX10_init_17 (fun H locs hw => ?_)
  refine c_putR (pc := 20) (q := 0) (n := 2) hx hb hts hown hK hin hw rfl (by decide) cfp_X10_16 rfl rfl dX10_init_20 (fun H locs hw => ?_)
  refine lv_aload_n (pc := 23) hx hb dX10_init_23 rfl (lv_at hl 0 rfl) ?_
  refine c_new (pc := 24) (len := 15) hG hx hb hts hown hK hw rfl cnew_X10_13 (Nat.le_of_ble_eq_true rfl) (Nat.le_of_ble_eq_true rfl) dX10_init_24 (fun H hw => ?_)
  refine lv_dup (pc := 27) hx hb dX10_init_27 rfl ?_
  refine c_call (pc := 28) (As := []) (rest := [.ref (G.2.2.1 15), .ref (G.2.2.1 0)]) hx hb hml hl.1 hts hown hK hN hw (ci_X9 l G B hG 15 rfl _ _) cc_X10_15 ⟨Nat.le_of_ble_eq_true rfl, Nat.le_of_ble_eq_true rfl, Nat.le_of_ble_eq_true rfl, Nat.le_of_ble_eq_true rfl⟩ rfl (Nat.le_of_ble_eq_true rfl) rfl dX10_init_28 (fun H locs hw => ?_)
  refine c_putR (pc := 31) (q := 0) (n := 15) hx hb hts hown hK hin hw rfl (by decide) cfp_X10_20 rfl rfl dX10_init_31 (fun H locs hw => ?_)
  refine lv_aload_n (pc := 34) hx hb dX10_init_34 rfl (lv_at hl 0 rfl) ?_
  refine lv_iconst (pc := 35) (v := (iI 0)) hx hb dX10_init_35 rfl ?_
  refine c_putI (pc := 36) (q := 0) hx hb hts hown hK hin hw rfl (by decide) cfp_X10_23 rfl rfl dX10_init_36 (fun H locs hw => ?_)
  refine lv_aload_n (pc := 39) hx hb dX10_init_39 rfl (lv_at hl 0 rfl) ?_
  refine lv_iconst (pc := 40) (v := (iI 4)) hx hb dX10_init_40 rfl ?_
  refine c_newq (pc := 41) (len := 28) (N := 4) hG hx hb hts hown hK hw rfl cl_X10_27 hAO (by decide) (by decide) (by decide) (Nat.le_of_ble_eq_true rfl) (Nat.le_of_ble_eq_true rfl) dX10_init_41 (fun H hw => ?_)
  refine c_putR (pc := 44) (q := 0) (n := 28) hx hb hts hown hK hin hw rfl (by decide) cfp_X10_29 rfl rfl dX10_init_44 (fun H locs hw => ?_)
  refine lv_aload_n (pc := 47) hx hb dX10_init_47 rfl (lv_at hl 0 rfl) ?_
  refine c_new (pc := 48) (len := 29) hG hx hb hts hown hK hw rfl cnew_X10_33 (Nat.le_of_ble_eq_true rfl) (Nat.le_of_ble_eq_true rfl) dX10_init_48 (fun H hw => ?_)
  refine lv_dup (pc := 51) hx hb dX10_init_51 rfl ?_
  refine c_call (pc := 52) (As := []) (rest := [.ref (G.2.2.1 29), .ref (G.2.2.1 0)]) hx hb hml hl.1 hts hown hK hN hw (ci_X0 l G B hG 29 rfl _ _) cc_X10_35 ⟨Nat.le_of_ble_eq_true rfl, Nat.le_of_ble_eq_true rfl, Nat.le_of_ble_eq_true rfl, Nat.le_of_ble_eq_true rfl⟩ rfl (Nat.le_of_ble_eq_true rfl) rfl dX10_init_52 (fun H locs hw => ?_)
  refine c_putR (pc := 55) (q := 0) (n := 29) hx hb hts hown hK hin hw rfl (by decide) cfp_X10_36 rfl rfl dX10_init_55 (fun H locs hw => ?_)
  refine lv_aload_n (pc := 58) hx hb dX10_init_58 rfl (lv_at hl 0 rfl) ?_
  refine c_new (pc := 59) (len := 30) hG hx hb hts hown hK hw rfl cnew_X10_40 (Nat.le_of_ble_eq_true rfl) (Nat.le_of_ble_eq_true rfl) dX10_init_59 (fun H hw => ?_)
  refine lv_dup (pc := 62) hx hb dX10_init_62 rfl ?_
  refine c_call (pc := 63) (As := []) (rest := [.ref (G.2.2.1 30), .ref (G.2.2.1 0)]) hx hb hml hl.1 hts hown hK hN hw (ci_X3 l G B hG 30 rfl _ _) cc_X10_42 ⟨Nat.le_of_ble_eq_true rfl, Nat.le_of_ble_eq_true rfl, Nat.le_of_ble_eq_true rfl, Nat.le_of_ble_eq_true rfl⟩ rfl (Nat.le_of_ble_eq_true rfl) rfl dX10_init_63 (fun H locs hw => ?_)
  refine c_putR (pc := 66) (q := 0) (n := 30) hx hb hts hown hK hin hw rfl (by decide) cfp_X10_43 rfl rfl dX10_init_66 (fun H locs hw => ?_)
  refine lv_aload_n (pc := 69) hx hb dX10_init_69 rfl (lv_at hl 0 rfl) ?_
  refine c_new (pc := 70) (len := 34) hG hx hb hts hown hK hw rfl cnew_X10_47 (Nat.le_of_ble_eq_true rfl) (Nat.le_of_ble_eq_true rfl) dX10_init_70 (fun H hw => ?_)
  refine lv_dup (pc := 73) hx hb dX10_init_73 rfl ?_
  refine c_call (pc := 74) (As := []) (rest := [.ref (G.2.2.1 34), .ref (G.2.2.1 0)]) hx hb hml hl.1 hts hown hK hN hw (ci_X6 l G B hG _ _) cc_X10_49 ⟨Nat.le_of_ble_eq_true rfl, Nat.le_of_ble_eq_true rfl, Nat.le_of_ble_eq_true rfl, Nat.le_of_ble_eq_true rfl⟩ rfl (Nat.le_of_ble_eq_true rfl) rfl dX10_init_74 (fun H locs hw => ?_)
  refine c_putR (pc := 77) (q := 0) (n := 34) hx hb hts hown hK hin hw rfl (by decide) cfp_X10_50 rfl rfl dX10_init_77 (fun H locs hw => ?_)
  refine lv_aload_n (pc := 80) hx hb dX10_init_80 rfl (lv_at hl 0 rfl) ?_
  refine c_new (pc := 81) (len := 37) hG hx hb hts hown hK hw rfl cnew_X10_54 (Nat.le_of_ble_eq_true rfl) (Nat.le_of_ble_eq_true rfl) dX10_init_81 (fun H hw => ?_)
  refine lv_dup (pc := 84) hx hb dX10_init_84 rfl ?_
  refine c_call (pc := 85) (As := []) (rest := [.ref (G.2.2.1 37), .ref (G.2.2.1 0)]) hx hb hml hl.1 hts hown hK hN hw (ci_X8 l G B hG _ _) cc_X10_56 ⟨Nat.le_of_ble_eq_true rfl, Nat.le_of_ble_eq_true rfl, Nat.le_of_ble_eq_true rfl, Nat.le_of_ble_eq_true rfl⟩ rfl (Nat.le_of_ble_eq_true rfl) rfl dX10_init_85 (fun H locs hw => ?_)
  refine c_putR (pc := 88) (q := 0) (n := 37) hx hb hts hown hK hin hw rfl (by decide) cfp_X10_57 rfl rfl dX10_init_88 (fun H locs hw => ?_)
  refine lv_aload_n (pc := 91) hx hb dX10_init_91 rfl (lv_at hl 0 rfl) ?_
  refine c_new (pc := 92) (len := 39) hG hx hb hts hown hK hw rfl cnew_X10_61 (Nat.le_of_ble_eq_true rfl) (Nat.le_of_ble_eq_true rfl) dX10_init_92 (fun H hw => ?_)
  refine lv_dup (pc := 95) hx hb dX10_init_95 rfl ?_
  refine c_call (pc := 96) (As := []) (rest := [.ref (G.2.2.1 39), .ref (G.2.2.1 0)]) hx hb hml hl.1 hts hown hK hN hw (ci_X2 l G B hG _ _) cc_X10_63 ⟨Nat.le_of_ble_eq_true rfl, Nat.le_of_ble_eq_true rfl, Nat.le_of_ble_eq_true rfl, Nat.le_of_ble_eq_true rfl⟩ rfl (Nat.le_of_ble_eq_true rfl) rfl dX10_init_96 (fun H locs hw => ?_)
  refine c_putR (pc := 99) (q := 0) (n := 39) hx hb hts hown hK hin hw rfl (by decide) cfp_X10_64 rfl rfl dX10_init_99 (fun H locs hw => ?_)
  refine lv_aload_n (pc := 102) hx hb dX10_init_102 rfl (lv_at hl 0 rfl) ?_
  refine c_new (pc := 103) (len := 50) hG hx hb hts hown hK hw rfl cnew_X10_68 (Nat.le_of_ble_eq_true rfl) (Nat.le_of_ble_eq_true rfl) dX10_init_103 (fun H hw => ?_)
  refine lv_dup (pc := 106) hx hb dX10_init_106 rfl ?_
  refine c_call (pc := 107) (As := []) (rest := [.ref (G.2.2.1 50), .ref (G.2.2.1 0)]) hx hb hml hl.1 hts hown hK hN hw (ci_X4 l G B hG _ _) cc_X10_70 ⟨Nat.le_of_ble_eq_true rfl, Nat.le_of_ble_eq_true rfl, Nat.le_of_ble_eq_true rfl, Nat.le_of_ble_eq_true rfl⟩ rfl (Nat.le_of_ble_eq_true rfl) rfl dX10_init_107 (fun H locs hw => ?_)
  refine c_putR (pc := 110) (q := 0) (n := 50) hx hb hts hown hK hin hw rfl (by decide) cfp_X10_71 rfl rfl dX10_init_110 (fun H locs hw => ?_)
  refine lv_aload_n (pc := 113) hx hb dX10_init_113 rfl (lv_at hl 0 rfl) ?_
  refine c_new (pc := 114) (len := 56) hG hx hb hts hown hK hw rfl cnew_X10_75 (Nat.le_of_ble_eq_true rfl) (Nat.le_of_ble_eq_true rfl) dX10_init_114 (fun H hw => ?_)
  refine lv_dup (pc := 117) hx hb dX10_init_117 rfl ?_
  refine c_call (pc := 118) (As := []) (rest := [.ref (G.2.2.1 56), .ref (G.2.2.1 0)]) hx hb hml hl.1 hts hown hK hN hw (ci_X1 l G B hG _ _) cc_X10_77 ⟨Nat.le_of_ble_eq_true rfl, Nat.le_of_ble_eq_true rfl, Nat.le_of_ble_eq_true rfl, Nat.le_of_ble_eq_true rfl⟩ rfl (Nat.le_of_ble_eq_true rfl) rfl dX10_init_118 (fun H locs hw => ?_)
  refine c_putR (pc := 121) (q := 0) (n := 56) hx hb hts hown hK hin hw rfl (by decide) cfp_X10_78 rfl rfl dX10_init_121 (fun H locs hw => ?_)
  refine lv_iconst (pc := 124) (v := (iI 0)) hx hb dX10_init_124 rfl ?_
  refine lv_istore_n (pc := 125) (lv' := [(1, .int (iI 0)), (0, .ref (G.2.2.1 0))]) hx hb dX10_init_125 rfl hl (by decide) rfl (fun ls hl => ?_)
  refine lv_iload_n (pc := 126) hx hb dX10_init_126 rfl (lv_at hl 0 rfl) ?_
  refine lv_aload_n (pc := 127) hx hb dX10_init_127 rfl (lv_at hl 1 rfl) ?_
  refine c_getR (pc := 128) (q := 0) (o := 28) hx hb hts hown hK hw rfl (by decide) cfg_X10_29 rfl dX10_init_128 ?_
  refine c_alenA (pc := 131) (q := 28) (n := 4) hx hb hK hw rfl (by decide) dX10_init_131 ?_
  refine lv_icmp_ge (pc := 132) (tgt := 154) hx hb dX10_init_132 (by decide) (fun hc => absurd hc (show ¬ (Int32.ofNat 4) ≤ (iI 0) by decide)) (fun _ => ?_)
  refine lv_aload_n (pc := 135) hx hb dX10_init_135 rfl (lv_at hl 1 rfl) ?_
  refine c_getR (pc := 136) (q := 0) (o := 28) hx hb hts hown hK hw rfl (by decide) cfg_X10_29 rfl dX10_init_136 ?_
  refine lv_iload_n (pc := 139) hx hb dX10_init_139 rfl (lv_at hl 0 rfl) ?_
  refine c_new (pc := 140) (len := 64) hG hx hb hts hown hK hw rfl cnew_X10_27 (Nat.le_of_ble_eq_true rfl) (Nat.le_of_ble_eq_true rfl) dX10_init_140 (fun H hw => ?_)
  refine lv_dup (pc := 143) hx hb dX10_init_143 rfl ?_
  refine c_call (pc := 144) (As := []) (rest := [.ref (G.2.2.1 64), .int (iI 0), .ref (G.2.2.1 28)]) hx hb hml hl.1 hts hown hK hN hw (ci_X7 l G B hG 64 rfl _ _) cc_X10_82 ⟨Nat.le_of_ble_eq_true rfl, Nat.le_of_ble_eq_true rfl, Nat.le_of_ble_eq_true rfl, Nat.le_of_ble_eq_true rfl⟩ rfl (Nat.le_of_ble_eq_true rfl) rfl dX10_init_144 (fun H locs hw => ?_)
  refine c_aast (pc := 147) (q := 28) (n := 4) (k := 0) (ci := 0) (z := 0) (fs := []) hx hb hK hw rfl (by decide) rfl (by decide) (vp_in_iff.mpr (by decide)) (by decide) dX10_init_147 (fun H locs hw => ?_)
  refine lv_iinc (pc := 148) (v := iI 1) (lv' := [(1, .int (iI 1)), (0, .ref (G.2.2.1 0))]) hx hb dX10_init_148 hl (k := 0) rfl (by decide) (by decide) rfl (fun ls hl => ?_)
  refine lv_goto (pc := 151) (tgt := 126) hx hb dX10_init_151 (by decide) ?_
  refine lv_iload_n (pc := 126) hx hb dX10_init_126 rfl (lv_at hl 0 rfl) ?_
  refine lv_aload_n (pc := 127) hx hb dX10_init_127 rfl (lv_at hl 1 rfl) ?_
  refine c_getR (pc := 128) (q := 0) (o := 28) hx hb hts hown hK hw rfl (by decide) cfg_X10_29 rfl dX10_init_128 ?_
  refine c_alenA (pc := 131) (q := 28) (n := 4) hx hb hK hw rfl (by decide) dX10_init_131 ?_
  refine lv_icmp_ge (pc := 132) (tgt := 154) hx hb dX10_init_132 (by decide) (fun hc => absurd hc (show ¬ (Int32.ofNat 4) ≤ (iI 1) by decide)) (fun _ => ?_)
  refine lv_aload_n (pc := 135) hx hb dX10_init_135 rfl (lv_at hl 1 rfl) ?_
  refine c_getR (pc := 136) (q := 0) (o := 28) hx hb hts hown hK hw rfl (by decide) cfg_X10_29 rfl dX10_init_136 ?_
  refine lv_iload_n (pc := 139) hx hb dX10_init_139 rfl (lv_at hl 0 rfl) ?_
  refine c_new (pc := 140) (len := 66) hG hx hb hts hown hK hw rfl cnew_X10_27 (Nat.le_of_ble_eq_true rfl) (Nat.le_of_ble_eq_true rfl) dX10_init_140 (fun H hw => ?_)
  refine lv_dup (pc := 143) hx hb dX10_init_143 rfl ?_
  refine c_call (pc := 144) (As := []) (rest := [.ref (G.2.2.1 66), .int (iI 1), .ref (G.2.2.1 28)]) hx hb hml hl.1 hts hown hK hN hw (ci_X7 l G B hG 66 rfl _ _) cc_X10_82 ⟨Nat.le_of_ble_eq_true rfl, Nat.le_of_ble_eq_true rfl, Nat.le_of_ble_eq_true rfl, Nat.le_of_ble_eq_true rfl⟩ rfl (Nat.le_of_ble_eq_true rfl) rfl dX10_init_144 (fun H locs hw => ?_)
  refine c_aast (pc := 147) (q := 28) (n := 4) (k := 1) (ci := 0) (z := 0) (fs := []) hx hb hK hw rfl (by decide) rfl (by decide) (vp_in_iff.mpr (by decide)) (by decide) dX10_init_147 (fun H locs hw => ?_)
  refine lv_iinc (pc := 148) (v := iI 2) (lv' := [(1, .int (iI 2)), (0, .ref (G.2.2.1 0))]) hx hb dX10_init_148 hl (k := 0) rfl (by decide) (by decide) rfl (fun ls hl => ?_)
  refine lv_goto (pc := 151) (tgt := 126) hx hb dX10_init_151 (by decide) ?_
  refine lv_iload_n (pc := 126) hx hb dX10_init_126 rfl (lv_at hl 0 rfl) ?_
  refine lv_aload_n (pc := 127) hx hb dX10_init_127 rfl (lv_at hl 1 rfl) ?_
  refine c_getR (pc := 128) (q := 0) (o := 28) hx hb hts hown hK hw rfl (by decide) cfg_X10_29 rfl dX10_init_128 ?_
  refine c_alenA (pc := 131) (q := 28) (n := 4) hx hb hK hw rfl (by decide) dX10_init_131 ?_
  refine lv_icmp_ge (pc := 132) (tgt := 154) hx hb dX10_init_132 (by decide) (fun hc => absurd hc (show ¬ (Int32.ofNat 4) ≤ (iI 2) by decide)) (fun _ => ?_)
  refine lv_aload_n (pc := 135) hx hb dX10_init_135 rfl (lv_at hl 1 rfl) ?_
  refine c_getR (pc := 136) (q := 0) (o := 28) hx hb hts hown hK hw rfl (by decide) cfg_X10_29 rfl dX10_init_136 ?_
  refine lv_iload_n (pc := 139) hx hb dX10_init_139 rfl (lv_at hl 0 rfl) ?_
  refine c_new (pc := 140) (len := 68) hG hx hb hts hown hK hw rfl cnew_X10_27 (Nat.le_of_ble_eq_true rfl) (Nat.le_of_ble_eq_true rfl) dX10_init_140 (fun H hw => ?_)
  refine lv_dup (pc := 143) hx hb dX10_init_143 rfl ?_
  refine c_call (pc := 144) (As := []) (rest := [.ref (G.2.2.1 68), .int (iI 2), .ref (G.2.2.1 28)]) hx hb hml hl.1 hts hown hK hN hw (ci_X7 l G B hG 68 rfl _ _) cc_X10_82 ⟨Nat.le_of_ble_eq_true rfl, Nat.le_of_ble_eq_true rfl, Nat.le_of_ble_eq_true rfl, Nat.le_of_ble_eq_true rfl⟩ rfl (Nat.le_of_ble_eq_true rfl) rfl dX10_init_144 (fun H locs hw => ?_)
  refine c_aast (pc := 147) (q := 28) (n := 4) (k := 2) (ci := 0) (z := 0) (fs := []) hx hb hK hw rfl (by decide) rfl (by decide) (vp_in_iff.mpr (by decide)) (by decide) dX10_init_147 (fun H locs hw => ?_)
  refine lv_iinc (pc := 148) (v := iI 3) (lv' := [(1, .int (iI 3)), (0, .ref (G.2.2.1 0))]) hx hb dX10_init_148 hl (k := 0) rfl (by decide) (by decide) rfl (fun ls hl => ?_)
  refine lv_goto (pc := 151) (tgt := 126) hx hb dX10_init_151 (by decide) ?_
  refine lv_iload_n (pc := 126) hx hb dX10_init_126 rfl (lv_at hl 0 rfl) ?_
  refine lv_aload_n (pc := 127) hx hb dX10_init_127 rfl (lv_at hl 1 rfl) ?_
  refine c_getR (pc := 128) (q := 0) (o := 28) hx hb hts hown hK hw rfl (by decide) cfg_X10_29 rfl dX10_init_128 ?_
  refine c_alenA (pc := 131) (q := 28) (n := 4) hx hb hK hw rfl (by decide) dX10_init_131 ?_
  refine lv_icmp_ge (pc := 132) (tgt := 154) hx hb dX10_init_132 (by decide) (fun hc => absurd hc (show ¬ (Int32.ofNat 4) ≤ (iI 3) by decide)) (fun _ => ?_)
  refine lv_aload_n (pc := 135) hx hb dX10_init_135 rfl (lv_at hl 1 rfl) ?_
  refine c_getR (pc := 136) (q := 0) (o := 28) hx hb hts hown hK hw rfl (by decide) cfg_X10_29 rfl dX10_init_136 ?_
  refine lv_iload_n (pc := 139) hx hb dX10_init_139 rfl (lv_at hl 0 rfl) ?_
  refine c_new (pc := 140) (len := 70) hG hx hb hts hown hK hw rfl cnew_X10_27 (Nat.le_of_ble_eq_true rfl) (Nat.le_of_ble_eq_true rfl) dX10_init_140 (fun H hw => ?_)
  refine lv_dup (pc := 143) hx hb dX10_init_143 rfl ?_
  refine c_call (pc := 144) (As := []) (rest := [.ref (G.2.2.1 70), .int (iI 3), .ref (G.2.2.1 28)]) hx hb hml hl.1 hts hown hK hN hw (ci_X7 l G B hG 70 rfl _ _) cc_X10_82 ⟨Nat.le_of_ble_eq_true rfl, Nat.le_of_ble_eq_true rfl, Nat.le_of_ble_eq_true rfl, Nat.le_of_ble_eq_true rfl⟩ rfl (Nat.le_of_ble_eq_true rfl) rfl dX10_init_144 (fun H locs hw => ?_)
  refine c_aast (pc := 147) (q := 28) (n := 4) (k := 3) (ci := 0) (z := 0) (fs := []) hx hb hK hw rfl (by decide) rfl (by decide) (vp_in_iff.mpr (by decide)) (by decide) dX10_init_147 (fun H locs hw => ?_)
  refine lv_iinc (pc := 148) (v := iI 4) (lv' := [(1, .int (iI 4)), (0, .ref (G.2.2.1 0))]) hx hb dX10_init_148 hl (k := 0) rfl (by decide) (by decide) rfl (fun ls hl => ?_)
  refine lv_goto (pc := 151) (tgt := 126) hx hb dX10_init_151 (by decide) ?_
  refine lv_iload_n (pc := 126) hx hb dX10_init_126 rfl (lv_at hl 0 rfl) ?_
  refine lv_aload_n (pc := 127) hx hb dX10_init_127 rfl (lv_at hl 1 rfl) ?_
  refine c_getR (pc := 128) (q := 0) (o := 28) hx hb hts hown hK hw rfl (by decide) cfg_X10_29 rfl dX10_init_128 ?_
  refine c_alenA (pc := 131) (q := 28) (n := 4) hx hb hK hw rfl (by decide) dX10_init_131 ?_
  refine lv_icmp_ge (pc := 132) (tgt := 154) hx hb dX10_init_132 (by decide) (fun _ => ?_) (fun hc => absurd (show (Int32.ofNat 4) ≤ (iI 4) by decide) hc)
  exact hret 154 _ _ _ _ _ dX10_init_154 hw (Nat.le_of_ble_eq_true rfl) (Nat.le_of_ble_eq_true rfl)

set_option maxHeartbeats 40000000 in
set_option maxRecDepth 100000 in
theorem ci_X11 (l : Launch) (G : GG) (B : Nat) (hG : ∀ j, G.2.2.1 j = B + j) (h : Mem) (a : Asg) : SatC l G B yX11_init cX11_init 1 1 [.ref (G.2.2.1 72)] h a 73 (m_X11 h) (s_X11 a) 89 16 3124 := by
  refine SatC.mk (by decide) rfl (Nat.le_of_ble_eq_true rfl) ?_
  intro p e s m args below meth c Q F hret hw ls hl
  obtain ⟨hx, hb, hml, hown, hts, hK, hN, hin⟩ := F
  have hl : lv_has ls 1 [(0, .ref (G.2.2.1 72))] := hl
  obtain ⟨locs, elocs⟩ : ∃ x : List Loc, x = [] := ⟨_, rfl⟩
  rw [← elocs] at hw ⊢
  refine lv_aload_n (pc := 0) hx hb dX11_init_0 rfl (lv_at hl 0 rfl) ?_
  refine W.objInit hx hb hown (hts _ oi_X11_1.1) (hts _ oi_X11_1.2.1) (hts _ oi_X11_1.2.2) rfl (by rw [hml]; exact hl.1) rfl dX11_init_1 (Nat.le_of_ble_eq_true rfl) (Nat.le_of_ble_eq_true rfl) ?_
  refine W.eq (g2 := F0 m 4 ls []) rfl ?_
  refine lv_aload_n (pc := 4) hx hb dX11_init_4 rfl (lv_at hl 0 rfl) ?_
  refine lv_sipush (pc := 5) (v := (iI 305)) hx hb dX11_init_5 (by decide) ?_
  refine c_newa (pc := 8) (atype := .int) (ty := .int) (len := 73) (N := 305) (s0 := (0, 305)) hG hx hb hts hK hw rfl rfl ar_int (by decide) (by decide) (by decide) (Or.inl ⟨rfl, rfl⟩) (Nat.le_of_ble_eq_true rfl) (Nat.le_of_ble_eq_true rfl) dX11_init_8 (fun H hw => ?_)
  refine c_putR (pc := 10) (q := 72) (n := 1) hx hb hts hown hK hin hw rfl (by decide) cfp_X11_7 rfl rfl dX11_init_10 (fun H locs hw => ?_)
  refine lv_aload_n (pc := 13) hx hb dX11_init_13 rfl (lv_at hl 0 rfl) ?_
  refine lv_sipush (pc := 14) (v := (iI 305)) hx hb dX11_init_14 (by decide) ?_
  refine c_newa (pc := 17) (atype := .int) (ty := .int) (len := 74) (N := 305) (s0 := (0, 305)) hG hx hb hts hK hw rfl rfl ar_int (by decide) (by decide) (by decide) (Or.inl ⟨rfl, rfl⟩) (Nat.le_of_ble_eq_true rfl) (Nat.le_of_ble_eq_true rfl) dX11_init_17 (fun H hw => ?_)
  refine c_putR (pc := 19) (q := 72) (n := 2) hx hb hts hown hK hin hw rfl (by decide) cfp_X11_13 rfl rfl dX11_init_19 (fun H locs hw => ?_)
  refine lv_aload_n (pc := 22) hx hb dX11_init_22 rfl (lv_at hl 0 rfl) ?_
  refine lv_sipush (pc := 23) (v := (iI 305)) hx hb dX11_init_23 (by decide) ?_
  refine c_newa (pc := 26) (atype := .int) (ty := .int) (len := 75) (N := 305) (s0 := (0, 305)) hG hx hb hts hK hw rfl rfl ar_int (by decide) (by decide) (by decide) (Or.inl ⟨rfl, rfl⟩) (Nat.le_of_ble_eq_true rfl) (Nat.le_of_ble_eq_true rfl) dX11_init_26 (fun H hw => ?_)
  refine c_putR (pc := 28) (q := 72) (n := 3) hx hb hts hown hK hin hw rfl (by decide) cfp_X11_16 rfl rfl dX11_init_28 (fun H locs hw => ?_)
  refine lv_aload_n (pc := 31) hx hb dX11_init_31 rfl (lv_at hl 0 rfl) ?_
  refine lv_sipush (pc := 32) (v := (iI 305)) hx hb dX11_init_32 (by decide) ?_
  refine c_newa (pc := 35) (atype := .int) (ty := .int) (len := 76) (N := 305) (s0 := (0, 305)) hG hx hb hts hK hw rfl rfl ar_int (by decide) (by decide) (by decide) (Or.inl ⟨rfl, rfl⟩) (Nat.le_of_ble_eq_true rfl) (Nat.le_of_ble_eq_true rfl) dX11_init_35 (fun H hw => ?_)
  refine c_putR (pc := 37) (q := 72) (n := 4) hx hb hts hown hK hin hw rfl (by decide) cfp_X11_19 rfl rfl dX11_init_37 (fun H locs hw => ?_)
  refine lv_aload_n (pc := 40) hx hb dX11_init_40 rfl (lv_at hl 0 rfl) ?_
  refine lv_bipush (pc := 41) (v := (iI 6)) hx hb dX11_init_41 (by decide) ?_
  refine c_newa (pc := 43) (atype := .int) (ty := .int) (len := 77) (N := 6) (s0 := (0, 6)) hG hx hb hts hK hw rfl rfl ar_int (by decide) (by decide) (by decide) (Or.inl ⟨rfl, rfl⟩) (Nat.le_of_ble_eq_true rfl) (Nat.le_of_ble_eq_true rfl) dX11_init_43 (fun H hw => ?_)
  refine c_putR (pc := 45) (q := 72) (n := 5) hx hb hts hown hK hin hw rfl (by decide) cfp_X11_22 rfl rfl dX11_init_45 (fun H locs hw => ?_)
  refine lv_aload_n (pc := 48) hx hb dX11_init_48 rfl (lv_at hl 0 rfl) ?_
  refine lv_iconst (pc := 49) (v := (iI (-1))) hx hb dX11_init_49 rfl ?_
  refine c_putI (pc := 50) (q := 72) hx hb hts hown hK hin hw rfl (by decide) cfp_X11_25 rfl rfl dX11_init_50 (fun H locs hw => ?_)
  refine lv_aload_n (pc := 53) hx hb dX11_init_53 rfl (lv_at hl 0 rfl) ?_
  refine lv_iconst (pc := 54) (v := (iI (-1))) hx hb dX11_init_54 rfl ?_
  refine c_putI (pc := 55) (q := 72) hx hb hts hown hK hin hw rfl (by decide) cfp_X11_29 rfl rfl dX11_init_55 (fun H locs hw => ?_)
  refine lv_aload_n (pc := 58) hx hb dX11_init_58 rfl (lv_at hl 0 rfl) ?_
  refine lv_iconst (pc := 59) (v := (iI 3)) hx hb dX11_init_59 rfl ?_
  refine c_newa (pc := 60) (atype := .int) (ty := .int) (len := 78) (N := 3) (s0 := (0, 3)) hG hx hb hts hK hw rfl rfl ar_int (by decide) (by decide) (by decide) (Or.inl ⟨rfl, rfl⟩) (Nat.le_of_ble_eq_true rfl) (Nat.le_of_ble_eq_true rfl) dX11_init_60 (fun H hw => ?_)
  refine c_putR (pc := 62) (q := 72) (n := 6) hx hb hts hown hK hin hw rfl (by decide) cfp_X11_32 rfl rfl dX11_init_62 (fun H locs hw => ?_)
  refine lv_aload_n (pc := 65) hx hb dX11_init_65 rfl (lv_at hl 0 rfl) ?_
  refine lv_sipush (pc := 66) (v := (iI 1220)) hx hb dX11_init_66 (by decide) ?_
  refine c_newa (pc := 69) (atype := .int) (ty := .int) (len := 79) (N := 1220) (s0 := (0, 1220)) hG hx hb hts hK hw rfl rfl ar_int (by decide) (by decide) (by decide) (Or.inl ⟨rfl, rfl⟩) (Nat.le_of_ble_eq_true rfl) (Nat.le_of_ble_eq_true rfl) dX11_init_69 (fun H hw => ?_)
  refine c_putR (pc := 71) (q := 72) (n := 7) hx hb hts hown hK hin hw rfl (by decide) cfp_X11_35 rfl rfl dX11_init_71 (fun H locs hw => ?_)
  refine lv_aload_n (pc := 74) hx hb dX11_init_74 rfl (lv_at hl 0 rfl) ?_
  refine lv_sipush (pc := 75) (v := (iI 201)) hx hb dX11_init_75 (by decide) ?_
  refine c_newa (pc := 78) (atype := .int) (ty := .int) (len := 80) (N := 201) (s0 := (0, 201)) hG hx hb hts hK hw rfl rfl ar_int (by decide) (by decide) (by decide) (Or.inl ⟨rfl, rfl⟩) (Nat.le_of_ble_eq_true rfl) (Nat.le_of_ble_eq_true rfl) dX11_init_78 (fun H hw => ?_)
  refine c_putR (pc := 80) (q := 72) (n := 8) hx hb hts hown hK hin hw rfl (by decide) cfp_X11_38 rfl rfl dX11_init_80 (fun H locs hw => ?_)
  refine lv_aload_n (pc := 83) hx hb dX11_init_83 rfl (lv_at hl 0 rfl) ?_
  refine lv_sipush (pc := 84) (v := (iI 201)) hx hb dX11_init_84 (by decide) ?_
  refine c_newa (pc := 87) (atype := .long) (ty := .long) (len := 81) (N := 201) (s0 := (1, 201)) hG hx hb hts hK hw rfl rfl ar_long (by decide) (by decide) (by decide) (Or.inr ⟨rfl, rfl⟩) (Nat.le_of_ble_eq_true rfl) (Nat.le_of_ble_eq_true rfl) dX11_init_87 (fun H hw => ?_)
  refine c_putR (pc := 89) (q := 72) (n := 9) hx hb hts hown hK hin hw rfl (by decide) cfp_X11_41 rfl rfl dX11_init_89 (fun H locs hw => ?_)
  refine lv_aload_n (pc := 92) hx hb dX11_init_92 rfl (lv_at hl 0 rfl) ?_
  refine lv_iconst (pc := 93) (v := (iI 5)) hx hb dX11_init_93 rfl ?_
  refine c_newa (pc := 94) (atype := .int) (ty := .int) (len := 82) (N := 5) (s0 := (0, 5)) hG hx hb hts hK hw rfl rfl ar_int (by decide) (by decide) (by decide) (Or.inl ⟨rfl, rfl⟩) (Nat.le_of_ble_eq_true rfl) (Nat.le_of_ble_eq_true rfl) dX11_init_94 (fun H hw => ?_)
  refine c_putR (pc := 96) (q := 72) (n := 10) hx hb hts hown hK hin hw rfl (by decide) cfp_X11_45 rfl rfl dX11_init_96 (fun H locs hw => ?_)
  refine lv_aload_n (pc := 99) hx hb dX11_init_99 rfl (lv_at hl 0 rfl) ?_
  refine lv_iconst (pc := 100) (v := (iI 4)) hx hb dX11_init_100 rfl ?_
  refine c_newa (pc := 101) (atype := .int) (ty := .int) (len := 83) (N := 4) (s0 := (0, 4)) hG hx hb hts hK hw rfl rfl ar_int (by decide) (by decide) (by decide) (Or.inl ⟨rfl, rfl⟩) (Nat.le_of_ble_eq_true rfl) (Nat.le_of_ble_eq_true rfl) dX11_init_101 (fun H hw => ?_)
  refine c_putR (pc := 103) (q := 72) (n := 11) hx hb hts hown hK hin hw rfl (by decide) cfp_X11_48 rfl rfl dX11_init_103 (fun H locs hw => ?_)
  refine lv_aload_n (pc := 106) hx hb dX11_init_106 rfl (lv_at hl 0 rfl) ?_
  refine lv_iconst (pc := 107) (v := (iI 4)) hx hb dX11_init_107 rfl ?_
  refine c_newa (pc := 108) (atype := .int) (ty := .int) (len := 84) (N := 4) (s0 := (0, 4)) hG hx hb hts hK hw rfl rfl ar_int (by decide) (by decide) (by decide) (Or.inl ⟨rfl, rfl⟩) (Nat.le_of_ble_eq_true rfl) (Nat.le_of_ble_eq_true rfl) dX11_init_108 (fun H hw => ?_)
  refine c_putR (pc := 110) (q := 72) (n := 12) hx hb hts hown hK hin hw rfl (by decide) cfp_X11_51 rfl rfl dX11_init_110 (fun H locs hw => ?_)
  refine lv_aload_n (pc := 113) hx hb dX11_init_113 rfl (lv_at hl 0 rfl) ?_
  refine lv_sipush (pc := 114) (v := (iI 160)) hx hb dX11_init_114 (by decide) ?_
  refine c_newa (pc := 117) (atype := .int) (ty := .int) (len := 85) (N := 160) (s0 := (0, 160)) hG hx hb hts hK hw rfl rfl ar_int (by decide) (by decide) (by decide) (Or.inl ⟨rfl, rfl⟩) (Nat.le_of_ble_eq_true rfl) (Nat.le_of_ble_eq_true rfl) dX11_init_117 (fun H hw => ?_)
  refine c_putR (pc := 119) (q := 72) (n := 13) hx hb hts hown hK hin hw rfl (by decide) cfp_X11_54 rfl rfl dX11_init_119 (fun H locs hw => ?_)
  refine lv_aload_n (pc := 122) hx hb dX11_init_122 rfl (lv_at hl 0 rfl) ?_
  refine lv_bipush (pc := 123) (v := (iI 40)) hx hb dX11_init_123 (by decide) ?_
  refine c_newa (pc := 125) (atype := .int) (ty := .int) (len := 86) (N := 40) (s0 := (0, 40)) hG hx hb hts hK hw rfl rfl ar_int (by decide) (by decide) (by decide) (Or.inl ⟨rfl, rfl⟩) (Nat.le_of_ble_eq_true rfl) (Nat.le_of_ble_eq_true rfl) dX11_init_125 (fun H hw => ?_)
  refine c_putR (pc := 127) (q := 72) (n := 14) hx hb hts hown hK hin hw rfl (by decide) cfp_X11_57 rfl rfl dX11_init_127 (fun H locs hw => ?_)
  refine lv_aload_n (pc := 130) hx hb dX11_init_130 rfl (lv_at hl 0 rfl) ?_
  refine lv_bipush (pc := 131) (v := (iI 20)) hx hb dX11_init_131 (by decide) ?_
  refine c_newa (pc := 133) (atype := .int) (ty := .int) (len := 87) (N := 20) (s0 := (0, 20)) hG hx hb hts hK hw rfl rfl ar_int (by decide) (by decide) (by decide) (Or.inl ⟨rfl, rfl⟩) (Nat.le_of_ble_eq_true rfl) (Nat.le_of_ble_eq_true rfl) dX11_init_133 (fun H hw => ?_)
  refine c_putR (pc := 135) (q := 72) (n := 15) hx hb hts hown hK hin hw rfl (by decide) cfp_X11_60 rfl rfl dX11_init_135 (fun H locs hw => ?_)
  refine lv_aload_n (pc := 138) hx hb dX11_init_138 rfl (lv_at hl 0 rfl) ?_
  refine lv_bipush (pc := 139) (v := (iI 40)) hx hb dX11_init_139 (by decide) ?_
  refine c_newa (pc := 141) (atype := .int) (ty := .int) (len := 88) (N := 40) (s0 := (0, 40)) hG hx hb hts hK hw rfl rfl ar_int (by decide) (by decide) (by decide) (Or.inl ⟨rfl, rfl⟩) (Nat.le_of_ble_eq_true rfl) (Nat.le_of_ble_eq_true rfl) dX11_init_141 (fun H hw => ?_)
  refine c_putR (pc := 143) (q := 72) (n := 16) hx hb hts hown hK hin hw rfl (by decide) cfp_X11_63 rfl rfl dX11_init_143 (fun H locs hw => ?_)
  refine lv_aload_n (pc := 146) hx hb dX11_init_146 rfl (lv_at hl 0 rfl) ?_
  refine c_getR (pc := 147) (q := 72) (o := 1) hx hb hts hown hK hw rfl (by decide) cfg_X11_7 rfl dX11_init_147 ?_
  refine lv_iconst (pc := 150) (v := (iI 0)) hx hb dX11_init_150 rfl ?_
  refine lv_iconst (pc := 151) (v := (iI 1)) hx hb dX11_init_151 rfl ?_
  refine c_ast (pc := 152) (q := 73) (n := 305) (k := 0) hx hb hK hw rfl (by decide) (vp_in_iff.mpr (by decide)) (by decide) dX11_init_152 (fun H locs hw => ?_)
  refine lv_aload_n (pc := 153) hx hb dX11_init_153 rfl (lv_at hl 0 rfl) ?_
  refine c_getR (pc := 154) (q := 72) (o := 1) hx hb hts hown hK hw rfl (by decide) cfg_X11_7 rfl dX11_init_154 ?_
  refine lv_iconst (pc := 157) (v := (iI 1)) hx hb dX11_init_157 rfl ?_
  refine lv_iconst (pc := 158) (v := (iI 1)) hx hb dX11_init_158 rfl ?_
  refine c_ast (pc := 159) (q := 73) (n := 305) (k := 1) hx hb hK hw rfl (by decide) (vp_in_iff.mpr (by decide)) (by decide) dX11_init_159 (fun H locs hw => ?_)
  refine lv_aload_n (pc := 160) hx hb dX11_init_160 rfl (lv_at hl 0 rfl) ?_
  refine c_getR (pc := 161) (q := 72) (o := 1) hx hb hts hown hK hw rfl (by decide) cfg_X11_7 rfl dX11_init_161 ?_
  refine lv_iconst (pc := 164) (v := (iI 4)) hx hb dX11_init_164 rfl ?_
  refine lv_iconst (pc := 165) (v := (iI 1)) hx hb dX11_init_165 rfl ?_
  refine c_ast (pc := 166) (q := 73) (n := 305) (k := 4) hx hb hK hw rfl (by decide) (vp_in_iff.mpr (by decide)) (by decide) dX11_init_166 (fun H locs hw => ?_)
  refine lv_aload_n (pc := 167) hx hb dX11_init_167 rfl (lv_at hl 0 rfl) ?_
  refine c_getR (pc := 168) (q := 72) (o := 1) hx hb hts hown hK hw rfl (by decide) cfg_X11_7 rfl dX11_init_168 ?_
  refine lv_bipush (pc := 171) (v := (iI 7)) hx hb dX11_init_171 (by decide) ?_
  refine lv_iconst (pc := 173) (v := (iI (-1))) hx hb dX11_init_173 rfl ?_
  refine c_ast (pc := 174) (q := 73) (n := 305) (k := 7) hx hb hK hw rfl (by decide) (vp_in_iff.mpr (by decide)) (by decide) dX11_init_174 (fun H locs hw => ?_)
  refine lv_aload_n (pc := 175) hx hb dX11_init_175 rfl (lv_at hl 0 rfl) ?_
  refine c_getR (pc := 176) (q := 72) (o := 1) hx hb hts hown hK hw rfl (by decide) cfg_X11_7 rfl dX11_init_176 ?_
  refine lv_bipush (pc := 179) (v := (iI 8)) hx hb dX11_init_179 (by decide) ?_
  refine lv_iconst (pc := 181) (v := (iI (-1))) hx hb dX11_init_181 rfl ?_
  refine c_ast (pc := 182) (q := 73) (n := 305) (k := 8) hx hb hK hw rfl (by decide) (vp_in_iff.mpr (by decide)) (by decide) dX11_init_182 (fun H locs hw => ?_)
  exact hret 183 _ _ _ _ _ dX11_init_183 hw (Nat.le_of_ble_eq_true rfl) (Nat.le_of_ble_eq_true rfl)
