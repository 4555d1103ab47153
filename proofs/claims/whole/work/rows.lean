section
-- ===== PART A: goes FIRST, ahead of the names: the tables' words, and 'selects' of the private methods out of them =====
/-- a private method of a class that the tables say can be made, by its rows of tables_1 -/
def lw_okq (q : MethodName × Nat) : Prop := (q.1.cls ≠ "java/lang/invoke/MethodHandle" ∧ q.1.cls ≠ "java/lang/invoke/VarHandle") ∧ Cond.instantiable q.1.cls q.2 ∈ tables_1 ∧ Cond.privateMethod q.1 ∈ tables_1 ∧ Cond.instanceMethod q.1 ∈ tables_1
theorem lw_p0 : lw_okq (⟨"TurnedBeam", "fail", "(I)I"⟩, 12) := ⟨⟨by decide +kernel, by decide +kernel⟩, List.mem_of_getElem? (i := 18) (by decide +kernel), List.mem_of_getElem? (i := 426) (by decide +kernel), List.mem_of_getElem? (i := 427) (by decide +kernel)⟩
theorem lw_p1 : lw_okq (⟨"TurnedBeam$Hall", "putTime", "(II)V"⟩, 7) := ⟨⟨by decide +kernel, by decide +kernel⟩, List.mem_of_getElem? (i := 32) (by decide +kernel), List.mem_of_getElem? (i := 459) (by decide +kernel), List.mem_of_getElem? (i := 460) (by decide +kernel)⟩
theorem lw_p2 : lw_okq (⟨"TurnedBeam$Law", "withoutText", "(I)I"⟩, 4) := ⟨⟨by decide +kernel, by decide +kernel⟩, List.mem_of_getElem? (i := 81) (by decide +kernel), List.mem_of_getElem? (i := 495) (by decide +kernel), List.mem_of_getElem? (i := 496) (by decide +kernel)⟩
theorem lw_p3 : lw_okq (⟨"TurnedBeam$Law", "worked", "(III)I"⟩, 4) := ⟨⟨by decide +kernel, by decide +kernel⟩, List.mem_of_getElem? (i := 81) (by decide +kernel), List.mem_of_getElem? (i := 499) (by decide +kernel), List.mem_of_getElem? (i := 500) (by decide +kernel)⟩
theorem lw_p4 : lw_okq (⟨"TurnedBeam$Whole", "earn", "(I)V"⟩, 10) := ⟨⟨by decide +kernel, by decide +kernel⟩, List.mem_of_getElem? (i := 26) (by decide +kernel), List.mem_of_getElem? (i := 543) (by decide +kernel), List.mem_of_getElem? (i := 544) (by decide +kernel)⟩
theorem lw_p5 : lw_okq (⟨"TurnedBeam$Beam", "enter", "(LTurnedBeam$Hall;I)V"⟩, 8) := ⟨⟨by decide +kernel, by decide +kernel⟩, List.mem_of_getElem? (i := 142) (by decide +kernel), List.mem_of_getElem? (i := 575) (by decide +kernel), List.mem_of_getElem? (i := 576) (by decide +kernel)⟩
theorem lw_p6 : lw_okq (⟨"TurnedBeam$Beam", "start", "(III)V"⟩, 8) := ⟨⟨by decide +kernel, by decide +kernel⟩, List.mem_of_getElem? (i := 142) (by decide +kernel), List.mem_of_getElem? (i := 579) (by decide +kernel), List.mem_of_getElem? (i := 580) (by decide +kernel)⟩
theorem lw_p7 : lw_okq (⟨"TurnedBeam$Beam", "bend", "(I)V"⟩, 8) := ⟨⟨by decide +kernel, by decide +kernel⟩, List.mem_of_getElem? (i := 142) (by decide +kernel), List.mem_of_getElem? (i := 591) (by decide +kernel), List.mem_of_getElem? (i := 592) (by decide +kernel)⟩
theorem lw_p8 : lw_okq (⟨"TurnedBeam$Hall", "slowness", "(I)I"⟩, 7) := ⟨⟨by decide +kernel, by decide +kernel⟩, List.mem_of_getElem? (i := 32) (by decide +kernel), List.mem_of_getElem? (i := 601) (by decide +kernel), List.mem_of_getElem? (i := 602) (by decide +kernel)⟩
theorem lw_p9 : lw_okq (⟨"TurnedBeam$Beam", "goOn", "()V"⟩, 8) := ⟨⟨by decide +kernel, by decide +kernel⟩, List.mem_of_getElem? (i := 142) (by decide +kernel), List.mem_of_getElem? (i := 605) (by decide +kernel), List.mem_of_getElem? (i := 606) (by decide +kernel)⟩
theorem lw_p10 : lw_okq (⟨"TurnedBeam$Beam", "isOutside", "(LTurnedBeam$Hall;)Z"⟩, 8) := ⟨⟨by decide +kernel, by decide +kernel⟩, List.mem_of_getElem? (i := 142) (by decide +kernel), List.mem_of_getElem? (i := 609) (by decide +kernel), List.mem_of_getElem? (i := 610) (by decide +kernel)⟩
theorem lw_p11 : lw_okq (⟨"TurnedBeam$Beam", "windowHere", "(LTurnedBeam$Hall;)I"⟩, 8) := ⟨⟨by decide +kernel, by decide +kernel⟩, List.mem_of_getElem? (i := 142) (by decide +kernel), List.mem_of_getElem? (i := 613) (by decide +kernel), List.mem_of_getElem? (i := 614) (by decide +kernel)⟩
theorem lw_p12 : lw_okq (⟨"TurnedBeam$Reader", "readJoined", "(II)V"⟩, 7) := ⟨⟨by decide +kernel, by decide +kernel⟩, List.mem_of_getElem? (i := 180) (by decide +kernel), List.mem_of_getElem? (i := 689) (by decide +kernel), List.mem_of_getElem? (i := 690) (by decide +kernel)⟩
theorem lw_p13 : lw_okq (⟨"TurnedBeam$Reader", "readPart", "(II)V"⟩, 7) := ⟨⟨by decide +kernel, by decide +kernel⟩, List.mem_of_getElem? (i := 180) (by decide +kernel), List.mem_of_getElem? (i := 693) (by decide +kernel), List.mem_of_getElem? (i := 694) (by decide +kernel)⟩
theorem lw_p14 : lw_okq (⟨"TurnedBeam$Reader", "readLeaf", "(I)V"⟩, 7) := ⟨⟨by decide +kernel, by decide +kernel⟩, List.mem_of_getElem? (i := 180) (by decide +kernel), List.mem_of_getElem? (i := 697) (by decide +kernel), List.mem_of_getElem? (i := 698) (by decide +kernel)⟩
theorem lw_p15 : lw_okq (⟨"TurnedBeam$Reader", "peek", "()I"⟩, 7) := ⟨⟨by decide +kernel, by decide +kernel⟩, List.mem_of_getElem? (i := 180) (by decide +kernel), List.mem_of_getElem? (i := 701) (by decide +kernel), List.mem_of_getElem? (i := 702) (by decide +kernel)⟩
def lw_privs_1 : List (MethodName × Nat) := [(⟨"TurnedBeam", "fail", "(I)I"⟩, 12), (⟨"TurnedBeam$Hall", "putTime", "(II)V"⟩, 7), (⟨"TurnedBeam$Law", "withoutText", "(I)I"⟩, 4), (⟨"TurnedBeam$Law", "worked", "(III)I"⟩, 4), (⟨"TurnedBeam$Whole", "earn", "(I)V"⟩, 10), (⟨"TurnedBeam$Beam", "enter", "(LTurnedBeam$Hall;I)V"⟩, 8), (⟨"TurnedBeam$Beam", "start", "(III)V"⟩, 8), (⟨"TurnedBeam$Beam", "bend", "(I)V"⟩, 8), (⟨"TurnedBeam$Hall", "slowness", "(I)I"⟩, 7), (⟨"TurnedBeam$Beam", "goOn", "()V"⟩, 8), (⟨"TurnedBeam$Beam", "isOutside", "(LTurnedBeam$Hall;)Z"⟩, 8), (⟨"TurnedBeam$Beam", "windowHere", "(LTurnedBeam$Hall;)I"⟩, 8), (⟨"TurnedBeam$Reader", "readJoined", "(II)V"⟩, 7), (⟨"TurnedBeam$Reader", "readPart", "(II)V"⟩, 7), (⟨"TurnedBeam$Reader", "readLeaf", "(I)V"⟩, 7), (⟨"TurnedBeam$Reader", "peek", "()I"⟩, 7)]
theorem lw_r1 : ∀ q ∈ lw_privs_1, lw_okq q := List.forall_mem_cons.mpr ⟨lw_p0, List.forall_mem_cons.mpr ⟨lw_p1, List.forall_mem_cons.mpr ⟨lw_p2, List.forall_mem_cons.mpr ⟨lw_p3, List.forall_mem_cons.mpr ⟨lw_p4, List.forall_mem_cons.mpr ⟨lw_p5, List.forall_mem_cons.mpr ⟨lw_p6, List.forall_mem_cons.mpr ⟨lw_p7, List.forall_mem_cons.mpr ⟨lw_p8, List.forall_mem_cons.mpr ⟨lw_p9, List.forall_mem_cons.mpr ⟨lw_p10, List.forall_mem_cons.mpr ⟨lw_p11, List.forall_mem_cons.mpr ⟨lw_p12, List.forall_mem_cons.mpr ⟨lw_p13, List.forall_mem_cons.mpr ⟨lw_p14, List.forall_mem_cons.mpr ⟨lw_p15, fun _ h => absurd h List.not_mem_nil⟩⟩⟩⟩⟩⟩⟩⟩⟩⟩⟩⟩⟩⟩⟩⟩
theorem lw_p16 : lw_okq (⟨"TurnedBeam$Reader", "readNumber", "()V"⟩, 7) := ⟨⟨by decide +kernel, by decide +kernel⟩, List.mem_of_getElem? (i := 180) (by decide +kernel), List.mem_of_getElem? (i := 708) (by decide +kernel), List.mem_of_getElem? (i := 709) (by decide +kernel)⟩
theorem lw_p17 : lw_okq (⟨"TurnedBeam$Reader", "write", "(I)V"⟩, 7) := ⟨⟨by decide +kernel, by decide +kernel⟩, List.mem_of_getElem? (i := 180) (by decide +kernel), List.mem_of_getElem? (i := 712) (by decide +kernel), List.mem_of_getElem? (i := 713) (by decide +kernel)⟩
theorem lw_p18 : lw_okq (⟨"TurnedBeam$Reader", "readOpened", "(II)V"⟩, 7) := ⟨⟨by decide +kernel, by decide +kernel⟩, List.mem_of_getElem? (i := 180) (by decide +kernel), List.mem_of_getElem? (i := 716) (by decide +kernel), List.mem_of_getElem? (i := 717) (by decide +kernel)⟩
theorem lw_p19 : lw_okq (⟨"TurnedBeam$Reader", "readName", "(I)V"⟩, 7) := ⟨⟨by decide +kernel, by decide +kernel⟩, List.mem_of_getElem? (i := 180) (by decide +kernel), List.mem_of_getElem? (i := 720) (by decide +kernel), List.mem_of_getElem? (i := 721) (by decide +kernel)⟩
theorem lw_p20 : lw_okq (⟨"TurnedBeam$Foresight", "leads", "(IILTurnedBeam$Hall;)Z"⟩, 10) := ⟨⟨by decide +kernel, by decide +kernel⟩, List.mem_of_getElem? (i := 234) (by decide +kernel), List.mem_of_getElem? (i := 771) (by decide +kernel), List.mem_of_getElem? (i := 772) (by decide +kernel)⟩
theorem lw_p21 : lw_okq (⟨"TurnedBeam$Foresight", "leadsByWindow", "(IILTurnedBeam$Hall;)Z"⟩, 10) := ⟨⟨by decide +kernel, by decide +kernel⟩, List.mem_of_getElem? (i := 234) (by decide +kernel), List.mem_of_getElem? (i := 775) (by decide +kernel), List.mem_of_getElem? (i := 776) (by decide +kernel)⟩
theorem lw_p22 : lw_okq (⟨"TurnedBeam$Hands", "isLit", "(LTurnedBeam$Hall;I)Z"⟩, 7) := ⟨⟨by decide +kernel, by decide +kernel⟩, List.mem_of_getElem? (i := 279) (by decide +kernel), List.mem_of_getElem? (i := 790) (by decide +kernel), List.mem_of_getElem? (i := 791) (by decide +kernel)⟩
theorem lw_p23 : lw_okq (⟨"TurnedBeam$Hands", "leadByOne", "(LTurnedBeam$Whole;)Z"⟩, 7) := ⟨⟨by decide +kernel, by decide +kernel⟩, List.mem_of_getElem? (i := 279) (by decide +kernel), List.mem_of_getElem? (i := 796) (by decide +kernel), List.mem_of_getElem? (i := 797) (by decide +kernel)⟩
theorem lw_p24 : lw_okq (⟨"TurnedBeam$Hands", "offer", "(III)V"⟩, 7) := ⟨⟨by decide +kernel, by decide +kernel⟩, List.mem_of_getElem? (i := 279) (by decide +kernel), List.mem_of_getElem? (i := 803) (by decide +kernel), List.mem_of_getElem? (i := 804) (by decide +kernel)⟩
theorem lw_p25 : lw_okq (⟨"TurnedBeam$Hands", "leadByTwo", "(LTurnedBeam$Whole;)Z"⟩, 7) := ⟨⟨by decide +kernel, by decide +kernel⟩, List.mem_of_getElem? (i := 279) (by decide +kernel), List.mem_of_getElem? (i := 807) (by decide +kernel), List.mem_of_getElem? (i := 808) (by decide +kernel)⟩
theorem lw_p26 : lw_okq (⟨"TurnedBeam$Foresight", "note", "()V"⟩, 10) := ⟨⟨by decide +kernel, by decide +kernel⟩, List.mem_of_getElem? (i := 234) (by decide +kernel), List.mem_of_getElem? (i := 819) (by decide +kernel), List.mem_of_getElem? (i := 820) (by decide +kernel)⟩
theorem lw_p27 : lw_okq (⟨"TurnedBeam$Doubt", "choices", "()I"⟩, 11) := ⟨⟨by decide +kernel, by decide +kernel⟩, List.mem_of_getElem? (i := 314) (by decide +kernel), List.mem_of_getElem? (i := 842) (by decide +kernel), List.mem_of_getElem? (i := 843) (by decide +kernel)⟩
theorem lw_p28 : lw_okq (⟨"TurnedBeam$Doubt", "standBy", "(I)V"⟩, 11) := ⟨⟨by decide +kernel, by decide +kernel⟩, List.mem_of_getElem? (i := 314) (by decide +kernel), List.mem_of_getElem? (i := 846) (by decide +kernel), List.mem_of_getElem? (i := 847) (by decide +kernel)⟩
theorem lw_p29 : lw_okq (⟨"TurnedBeam$Doubt", "isFitting", "(LTurnedBeam$Sheet;I)Z"⟩, 11) := ⟨⟨by decide +kernel, by decide +kernel⟩, List.mem_of_getElem? (i := 314) (by decide +kernel), List.mem_of_getElem? (i := 872) (by decide +kernel), List.mem_of_getElem? (i := 873) (by decide +kernel)⟩
theorem lw_p30 : lw_okq (⟨"TurnedBeam$Doubt", "noteOuts", "()V"⟩, 11) := ⟨⟨by decide +kernel, by decide +kernel⟩, List.mem_of_getElem? (i := 314) (by decide +kernel), List.mem_of_getElem? (i := 885) (by decide +kernel), List.mem_of_getElem? (i := 886) (by decide +kernel)⟩
theorem lw_p31 : lw_okq (⟨"TurnedBeam$Whole", "draw", "()I"⟩, 10) := ⟨⟨by decide +kernel, by decide +kernel⟩, List.mem_of_getElem? (i := 26) (by decide +kernel), List.mem_of_getElem? (i := 909) (by decide +kernel), List.mem_of_getElem? (i := 910) (by decide +kernel)⟩
def lw_privs_2 : List (MethodName × Nat) := [(⟨"TurnedBeam$Reader", "readNumber", "()V"⟩, 7), (⟨"TurnedBeam$Reader", "write", "(I)V"⟩, 7), (⟨"TurnedBeam$Reader", "readOpened", "(II)V"⟩, 7), (⟨"TurnedBeam$Reader", "readName", "(I)V"⟩, 7), (⟨"TurnedBeam$Foresight", "leads", "(IILTurnedBeam$Hall;)Z"⟩, 10), (⟨"TurnedBeam$Foresight", "leadsByWindow", "(IILTurnedBeam$Hall;)Z"⟩, 10), (⟨"TurnedBeam$Hands", "isLit", "(LTurnedBeam$Hall;I)Z"⟩, 7), (⟨"TurnedBeam$Hands", "leadByOne", "(LTurnedBeam$Whole;)Z"⟩, 7), (⟨"TurnedBeam$Hands", "offer", "(III)V"⟩, 7), (⟨"TurnedBeam$Hands", "leadByTwo", "(LTurnedBeam$Whole;)Z"⟩, 7), (⟨"TurnedBeam$Foresight", "note", "()V"⟩, 10), (⟨"TurnedBeam$Doubt", "choices", "()I"⟩, 11), (⟨"TurnedBeam$Doubt", "standBy", "(I)V"⟩, 11), (⟨"TurnedBeam$Doubt", "isFitting", "(LTurnedBeam$Sheet;I)Z"⟩, 11), (⟨"TurnedBeam$Doubt", "noteOuts", "()V"⟩, 11), (⟨"TurnedBeam$Whole", "draw", "()I"⟩, 10)]
theorem lw_r2 : ∀ q ∈ lw_privs_2, lw_okq q := List.forall_mem_cons.mpr ⟨lw_p16, List.forall_mem_cons.mpr ⟨lw_p17, List.forall_mem_cons.mpr ⟨lw_p18, List.forall_mem_cons.mpr ⟨lw_p19, List.forall_mem_cons.mpr ⟨lw_p20, List.forall_mem_cons.mpr ⟨lw_p21, List.forall_mem_cons.mpr ⟨lw_p22, List.forall_mem_cons.mpr ⟨lw_p23, List.forall_mem_cons.mpr ⟨lw_p24, List.forall_mem_cons.mpr ⟨lw_p25, List.forall_mem_cons.mpr ⟨lw_p26, List.forall_mem_cons.mpr ⟨lw_p27, List.forall_mem_cons.mpr ⟨lw_p28, List.forall_mem_cons.mpr ⟨lw_p29, List.forall_mem_cons.mpr ⟨lw_p30, List.forall_mem_cons.mpr ⟨lw_p31, fun _ h => absurd h List.not_mem_nil⟩⟩⟩⟩⟩⟩⟩⟩⟩⟩⟩⟩⟩⟩⟩⟩
theorem lw_p32 : lw_okq (⟨"TurnedBeam$Voice", "spoken", "(IIII)I"⟩, 5) := ⟨⟨by decide +kernel, by decide +kernel⟩, List.mem_of_getElem? (i := 210) (by decide +kernel), List.mem_of_getElem? (i := 930) (by decide +kernel), List.mem_of_getElem? (i := 931) (by decide +kernel)⟩
theorem lw_p33 : lw_okq (⟨"TurnedBeam$Voice", "worked", "(III)I"⟩, 5) := ⟨⟨by decide +kernel, by decide +kernel⟩, List.mem_of_getElem? (i := 210) (by decide +kernel), List.mem_of_getElem? (i := 941) (by decide +kernel), List.mem_of_getElem? (i := 942) (by decide +kernel)⟩
theorem lw_p34 : lw_okq (⟨"TurnedBeam$Voice", "own", "(III)I"⟩, 5) := ⟨⟨by decide +kernel, by decide +kernel⟩, List.mem_of_getElem? (i := 210) (by decide +kernel), List.mem_of_getElem? (i := 945) (by decide +kernel), List.mem_of_getElem? (i := 946) (by decide +kernel)⟩
theorem lw_p35 : lw_okq (⟨"TurnedBeam$Voice", "above", "(IIII)I"⟩, 5) := ⟨⟨by decide +kernel, by decide +kernel⟩, List.mem_of_getElem? (i := 210) (by decide +kernel), List.mem_of_getElem? (i := 949) (by decide +kernel), List.mem_of_getElem? (i := 950) (by decide +kernel)⟩
theorem lw_p36 : lw_okq (⟨"TurnedBeamModel", "errs", "(I)I"⟩, 44) := ⟨⟨by decide +kernel, by decide +kernel⟩, List.mem_of_getElem? (i := 1050) (by decide +kernel), List.mem_of_getElem? (i := 1197) (by decide +kernel), List.mem_of_getElem? (i := 1198) (by decide +kernel)⟩
theorem lw_p37 : lw_okq (⟨"TurnedBeamModel", "windows", "()I"⟩, 44) := ⟨⟨by decide +kernel, by decide +kernel⟩, List.mem_of_getElem? (i := 1050) (by decide +kernel), List.mem_of_getElem? (i := 1202) (by decide +kernel), List.mem_of_getElem? (i := 1203) (by decide +kernel)⟩
theorem lw_p38 : lw_okq (⟨"TurnedBeamModel", "isSquare", "(I)Z"⟩, 44) := ⟨⟨by decide +kernel, by decide +kernel⟩, List.mem_of_getElem? (i := 1050) (by decide +kernel), List.mem_of_getElem? (i := 1210) (by decide +kernel), List.mem_of_getElem? (i := 1211) (by decide +kernel)⟩
theorem lw_p39 : lw_okq (⟨"TurnedBeamModel", "many", "()I"⟩, 44) := ⟨⟨by decide +kernel, by decide +kernel⟩, List.mem_of_getElem? (i := 1050) (by decide +kernel), List.mem_of_getElem? (i := 1214) (by decide +kernel), List.mem_of_getElem? (i := 1215) (by decide +kernel)⟩
theorem lw_p40 : lw_okq (⟨"TurnedBeamModel", "its", "(II)I"⟩, 44) := ⟨⟨by decide +kernel, by decide +kernel⟩, List.mem_of_getElem? (i := 1050) (by decide +kernel), List.mem_of_getElem? (i := 1218) (by decide +kernel), List.mem_of_getElem? (i := 1219) (by decide +kernel)⟩
theorem lw_p41 : lw_okq (⟨"TurnedBeamModel", "puts", "(III)V"⟩, 44) := ⟨⟨by decide +kernel, by decide +kernel⟩, List.mem_of_getElem? (i := 1050) (by decide +kernel), List.mem_of_getElem? (i := 1222) (by decide +kernel), List.mem_of_getElem? (i := 1223) (by decide +kernel)⟩
theorem lw_p42 : lw_okq (⟨"TurnedBeamModel", "canTurn", "(I)Z"⟩, 44) := ⟨⟨by decide +kernel, by decide +kernel⟩, List.mem_of_getElem? (i := 1050) (by decide +kernel), List.mem_of_getElem? (i := 1230) (by decide +kernel), List.mem_of_getElem? (i := 1231) (by decide +kernel)⟩
theorem lw_p43 : lw_okq (⟨"TurnedBeamModel", "costOf", "(I)I"⟩, 44) := ⟨⟨by decide +kernel, by decide +kernel⟩, List.mem_of_getElem? (i := 1050) (by decide +kernel), List.mem_of_getElem? (i := 1234) (by decide +kernel), List.mem_of_getElem? (i := 1235) (by decide +kernel)⟩
theorem lw_p44 : lw_okq (⟨"TurnedBeamModel", "lawOf", "(IIII)I"⟩, 44) := ⟨⟨by decide +kernel, by decide +kernel⟩, List.mem_of_getElem? (i := 1050) (by decide +kernel), List.mem_of_getElem? (i := 1238) (by decide +kernel), List.mem_of_getElem? (i := 1239) (by decide +kernel)⟩
theorem lw_p45 : lw_okq (⟨"TurnedBeamModel", "walks", "(IIII)I"⟩, 44) := ⟨⟨by decide +kernel, by decide +kernel⟩, List.mem_of_getElem? (i := 1050) (by decide +kernel), List.mem_of_getElem? (i := 1245) (by decide +kernel), List.mem_of_getElem? (i := 1246) (by decide +kernel)⟩
theorem lw_p46 : lw_okq (⟨"TurnedBeamModel", "whole", "()I"⟩, 44) := ⟨⟨by decide +kernel, by decide +kernel⟩, List.mem_of_getElem? (i := 1050) (by decide +kernel), List.mem_of_getElem? (i := 1249) (by decide +kernel), List.mem_of_getElem? (i := 1250) (by decide +kernel)⟩
theorem lw_p47 : lw_okq (⟨"TurnedBeamModel", "both", "()I"⟩, 44) := ⟨⟨by decide +kernel, by decide +kernel⟩, List.mem_of_getElem? (i := 1050) (by decide +kernel), List.mem_of_getElem? (i := 1253) (by decide +kernel), List.mem_of_getElem? (i := 1254) (by decide +kernel)⟩
def lw_privs_3 : List (MethodName × Nat) := [(⟨"TurnedBeam$Voice", "spoken", "(IIII)I"⟩, 5), (⟨"TurnedBeam$Voice", "worked", "(III)I"⟩, 5), (⟨"TurnedBeam$Voice", "own", "(III)I"⟩, 5), (⟨"TurnedBeam$Voice", "above", "(IIII)I"⟩, 5), (⟨"TurnedBeamModel", "errs", "(I)I"⟩, 44), (⟨"TurnedBeamModel", "windows", "()I"⟩, 44), (⟨"TurnedBeamModel", "isSquare", "(I)Z"⟩, 44), (⟨"TurnedBeamModel", "many", "()I"⟩, 44), (⟨"TurnedBeamModel", "its", "(II)I"⟩, 44), (⟨"TurnedBeamModel", "puts", "(III)V"⟩, 44), (⟨"TurnedBeamModel", "canTurn", "(I)Z"⟩, 44), (⟨"TurnedBeamModel", "costOf", "(I)I"⟩, 44), (⟨"TurnedBeamModel", "lawOf", "(IIII)I"⟩, 44), (⟨"TurnedBeamModel", "walks", "(IIII)I"⟩, 44), (⟨"TurnedBeamModel", "whole", "()I"⟩, 44), (⟨"TurnedBeamModel", "both", "()I"⟩, 44)]
theorem lw_r3 : ∀ q ∈ lw_privs_3, lw_okq q := List.forall_mem_cons.mpr ⟨lw_p32, List.forall_mem_cons.mpr ⟨lw_p33, List.forall_mem_cons.mpr ⟨lw_p34, List.forall_mem_cons.mpr ⟨lw_p35, List.forall_mem_cons.mpr ⟨lw_p36, List.forall_mem_cons.mpr ⟨lw_p37, List.forall_mem_cons.mpr ⟨lw_p38, List.forall_mem_cons.mpr ⟨lw_p39, List.forall_mem_cons.mpr ⟨lw_p40, List.forall_mem_cons.mpr ⟨lw_p41, List.forall_mem_cons.mpr ⟨lw_p42, List.forall_mem_cons.mpr ⟨lw_p43, List.forall_mem_cons.mpr ⟨lw_p44, List.forall_mem_cons.mpr ⟨lw_p45, List.forall_mem_cons.mpr ⟨lw_p46, List.forall_mem_cons.mpr ⟨lw_p47, fun _ h => absurd h List.not_mem_nil⟩⟩⟩⟩⟩⟩⟩⟩⟩⟩⟩⟩⟩⟩⟩⟩
theorem lw_p48 : lw_okq (⟨"TurnedBeamModel", "compared", "()I"⟩, 44) := ⟨⟨by decide +kernel, by decide +kernel⟩, List.mem_of_getElem? (i := 1050) (by decide +kernel), List.mem_of_getElem? (i := 1257) (by decide +kernel), List.mem_of_getElem? (i := 1258) (by decide +kernel)⟩
theorem lw_p49 : lw_okq (⟨"TurnedBeamModel", "sum", "()I"⟩, 44) := ⟨⟨by decide +kernel, by decide +kernel⟩, List.mem_of_getElem? (i := 1050) (by decide +kernel), List.mem_of_getElem? (i := 1261) (by decide +kernel), List.mem_of_getElem? (i := 1262) (by decide +kernel)⟩
theorem lw_p50 : lw_okq (⟨"TurnedBeamModel", "product", "()I"⟩, 44) := ⟨⟨by decide +kernel, by decide +kernel⟩, List.mem_of_getElem? (i := 1050) (by decide +kernel), List.mem_of_getElem? (i := 1265) (by decide +kernel), List.mem_of_getElem? (i := 1266) (by decide +kernel)⟩
theorem lw_p51 : lw_okq (⟨"TurnedBeamModel", "factor", "()I"⟩, 44) := ⟨⟨by decide +kernel, by decide +kernel⟩, List.mem_of_getElem? (i := 1050) (by decide +kernel), List.mem_of_getElem? (i := 1269) (by decide +kernel), List.mem_of_getElem? (i := 1270) (by decide +kernel)⟩
theorem lw_p52 : lw_okq (⟨"TurnedBeamModel", "byteAt", "(I)I"⟩, 44) := ⟨⟨by decide +kernel, by decide +kernel⟩, List.mem_of_getElem? (i := 1050) (by decide +kernel), List.mem_of_getElem? (i := 1273) (by decide +kernel), List.mem_of_getElem? (i := 1274) (by decide +kernel)⟩
theorem lw_p53 : lw_okq (⟨"TurnedBeamModel", "number", "()I"⟩, 44) := ⟨⟨by decide +kernel, by decide +kernel⟩, List.mem_of_getElem? (i := 1050) (by decide +kernel), List.mem_of_getElem? (i := 1280) (by decide +kernel), List.mem_of_getElem? (i := 1281) (by decide +kernel)⟩
theorem lw_p54 : lw_okq (⟨"TurnedBeamModel", "named", "(I)I"⟩, 44) := ⟨⟨by decide +kernel, by decide +kernel⟩, List.mem_of_getElem? (i := 1050) (by decide +kernel), List.mem_of_getElem? (i := 1284) (by decide +kernel), List.mem_of_getElem? (i := 1285) (by decide +kernel)⟩
theorem lw_p55 : lw_okq (⟨"TurnedBeamModel", "fails", "()I"⟩, 44) := ⟨⟨by decide +kernel, by decide +kernel⟩, List.mem_of_getElem? (i := 1050) (by decide +kernel), List.mem_of_getElem? (i := 1288) (by decide +kernel), List.mem_of_getElem? (i := 1289) (by decide +kernel)⟩
theorem lw_p56 : lw_okq (⟨"TurnedBeamModel", "doesThrow", "(I)Z"⟩, 44) := ⟨⟨by decide +kernel, by decide +kernel⟩, List.mem_of_getElem? (i := 1050) (by decide +kernel), List.mem_of_getElem? (i := 1292) (by decide +kernel), List.mem_of_getElem? (i := 1293) (by decide +kernel)⟩
theorem lw_p57 : lw_okq (⟨"TurnedBeamModel", "doesStop", "(I)Z"⟩, 44) := ⟨⟨by decide +kernel, by decide +kernel⟩, List.mem_of_getElem? (i := 1050) (by decide +kernel), List.mem_of_getElem? (i := 1296) (by decide +kernel), List.mem_of_getElem? (i := 1297) (by decide +kernel)⟩
theorem lw_p58 : lw_okq (⟨"TurnedBeamModel", "hands", "(I)V"⟩, 44) := ⟨⟨by decide +kernel, by decide +kernel⟩, List.mem_of_getElem? (i := 1050) (by decide +kernel), List.mem_of_getElem? (i := 1313) (by decide +kernel), List.mem_of_getElem? (i := 1314) (by decide +kernel)⟩
theorem lw_p59 : lw_okq (⟨"TurnedBeamModel", "takes", "(I)V"⟩, 44) := ⟨⟨by decide +kernel, by decide +kernel⟩, List.mem_of_getElem? (i := 1050) (by decide +kernel), List.mem_of_getElem? (i := 1317) (by decide +kernel), List.mem_of_getElem? (i := 1318) (by decide +kernel)⟩
theorem lw_p60 : lw_okq (⟨"TurnedBeamModel", "flips", "(I)V"⟩, 44) := ⟨⟨by decide +kernel, by decide +kernel⟩, List.mem_of_getElem? (i := 1050) (by decide +kernel), List.mem_of_getElem? (i := 1323) (by decide +kernel), List.mem_of_getElem? (i := 1324) (by decide +kernel)⟩
theorem lw_p61 : lw_okq (⟨"TurnedBeamModel", "slantBits", "()I"⟩, 44) := ⟨⟨by decide +kernel, by decide +kernel⟩, List.mem_of_getElem? (i := 1050) (by decide +kernel), List.mem_of_getElem? (i := 1331) (by decide +kernel), List.mem_of_getElem? (i := 1332) (by decide +kernel)⟩
theorem lw_p62 : lw_okq (⟨"TurnedBeamModel", "isWindow", "(I)Z"⟩, 44) := ⟨⟨by decide +kernel, by decide +kernel⟩, List.mem_of_getElem? (i := 1050) (by decide +kernel), List.mem_of_getElem? (i := 1339) (by decide +kernel), List.mem_of_getElem? (i := 1340) (by decide +kernel)⟩
theorem lw_p63 : lw_okq (⟨"TurnedBeamModel", "letIn", "(I)I"⟩, 44) := ⟨⟨by decide +kernel, by decide +kernel⟩, List.mem_of_getElem? (i := 1050) (by decide +kernel), List.mem_of_getElem? (i := 1343) (by decide +kernel), List.mem_of_getElem? (i := 1344) (by decide +kernel)⟩
def lw_privs_4 : List (MethodName × Nat) := [(⟨"TurnedBeamModel", "compared", "()I"⟩, 44), (⟨"TurnedBeamModel", "sum", "()I"⟩, 44), (⟨"TurnedBeamModel", "product", "()I"⟩, 44), (⟨"TurnedBeamModel", "factor", "()I"⟩, 44), (⟨"TurnedBeamModel", "byteAt", "(I)I"⟩, 44), (⟨"TurnedBeamModel", "number", "()I"⟩, 44), (⟨"TurnedBeamModel", "named", "(I)I"⟩, 44), (⟨"TurnedBeamModel", "fails", "()I"⟩, 44), (⟨"TurnedBeamModel", "doesThrow", "(I)Z"⟩, 44), (⟨"TurnedBeamModel", "doesStop", "(I)Z"⟩, 44), (⟨"TurnedBeamModel", "hands", "(I)V"⟩, 44), (⟨"TurnedBeamModel", "takes", "(I)V"⟩, 44), (⟨"TurnedBeamModel", "flips", "(I)V"⟩, 44), (⟨"TurnedBeamModel", "slantBits", "()I"⟩, 44), (⟨"TurnedBeamModel", "isWindow", "(I)Z"⟩, 44), (⟨"TurnedBeamModel", "letIn", "(I)I"⟩, 44)]
theorem lw_r4 : ∀ q ∈ lw_privs_4, lw_okq q := List.forall_mem_cons.mpr ⟨lw_p48, List.forall_mem_cons.mpr ⟨lw_p49, List.forall_mem_cons.mpr ⟨lw_p50, List.forall_mem_cons.mpr ⟨lw_p51, List.forall_mem_cons.mpr ⟨lw_p52, List.forall_mem_cons.mpr ⟨lw_p53, List.forall_mem_cons.mpr ⟨lw_p54, List.forall_mem_cons.mpr ⟨lw_p55, List.forall_mem_cons.mpr ⟨lw_p56, List.forall_mem_cons.mpr ⟨lw_p57, List.forall_mem_cons.mpr ⟨lw_p58, List.forall_mem_cons.mpr ⟨lw_p59, List.forall_mem_cons.mpr ⟨lw_p60, List.forall_mem_cons.mpr ⟨lw_p61, List.forall_mem_cons.mpr ⟨lw_p62, List.forall_mem_cons.mpr ⟨lw_p63, fun _ h => absurd h List.not_mem_nil⟩⟩⟩⟩⟩⟩⟩⟩⟩⟩⟩⟩⟩⟩⟩⟩
theorem lw_p64 : lw_okq (⟨"TurnedBeamModel", "goes", "(I)I"⟩, 44) := ⟨⟨by decide +kernel, by decide +kernel⟩, List.mem_of_getElem? (i := 1050) (by decide +kernel), List.mem_of_getElem? (i := 1347) (by decide +kernel), List.mem_of_getElem? (i := 1348) (by decide +kernel)⟩
theorem lw_p65 : lw_okq (⟨"TurnedBeamModel", "enters", "(I)V"⟩, 44) := ⟨⟨by decide +kernel, by decide +kernel⟩, List.mem_of_getElem? (i := 1050) (by decide +kernel), List.mem_of_getElem? (i := 1351) (by decide +kernel), List.mem_of_getElem? (i := 1352) (by decide +kernel)⟩
theorem lw_p66 : lw_okq (⟨"TurnedBeamModel", "isOut", "()Z"⟩, 44) := ⟨⟨by decide +kernel, by decide +kernel⟩, List.mem_of_getElem? (i := 1050) (by decide +kernel), List.mem_of_getElem? (i := 1355) (by decide +kernel), List.mem_of_getElem? (i := 1356) (by decide +kernel)⟩
theorem lw_p67 : lw_okq (⟨"TurnedBeamModel", "comesInto", "(I)Z"⟩, 44) := ⟨⟨by decide +kernel, by decide +kernel⟩, List.mem_of_getElem? (i := 1050) (by decide +kernel), List.mem_of_getElem? (i := 1359) (by decide +kernel), List.mem_of_getElem? (i := 1360) (by decide +kernel)⟩
theorem lw_p68 : lw_okq (⟨"TurnedBeamModel", "turns", "(I)V"⟩, 44) := ⟨⟨by decide +kernel, by decide +kernel⟩, List.mem_of_getElem? (i := 1050) (by decide +kernel), List.mem_of_getElem? (i := 1366) (by decide +kernel), List.mem_of_getElem? (i := 1367) (by decide +kernel)⟩
theorem lw_p69 : lw_okq (⟨"TurnedBeamModel", "goesOn", "()V"⟩, 44) := ⟨⟨by decide +kernel, by decide +kernel⟩, List.mem_of_getElem? (i := 1050) (by decide +kernel), List.mem_of_getElem? (i := 1370) (by decide +kernel), List.mem_of_getElem? (i := 1371) (by decide +kernel)⟩
theorem lw_p70 : lw_okq (⟨"TurnedBeamModel", "windowThere", "()I"⟩, 44) := ⟨⟨by decide +kernel, by decide +kernel⟩, List.mem_of_getElem? (i := 1050) (by decide +kernel), List.mem_of_getElem? (i := 1374) (by decide +kernel), List.mem_of_getElem? (i := 1375) (by decide +kernel)⟩
theorem lw_p71 : lw_okq (⟨"TurnedBeamModel", "moveAll", "([I[I)V"⟩, 44) := ⟨⟨by decide +kernel, by decide +kernel⟩, List.mem_of_getElem? (i := 1050) (by decide +kernel), List.mem_of_getElem? (i := 1382) (by decide +kernel), List.mem_of_getElem? (i := 1383) (by decide +kernel)⟩
theorem lw_p72 : lw_okq (⟨"TurnedBeamModel", "comesBack", "(II)V"⟩, 44) := ⟨⟨by decide +kernel, by decide +kernel⟩, List.mem_of_getElem? (i := 1050) (by decide +kernel), List.mem_of_getElem? (i := 1398) (by decide +kernel), List.mem_of_getElem? (i := 1399) (by decide +kernel)⟩
theorem lw_p73 : lw_okq (⟨"TurnedBeamModel", "standsAs", "([I)Z"⟩, 44) := ⟨⟨by decide +kernel, by decide +kernel⟩, List.mem_of_getElem? (i := 1050) (by decide +kernel), List.mem_of_getElem? (i := 1420) (by decide +kernel), List.mem_of_getElem? (i := 1421) (by decide +kernel)⟩
theorem lw_p74 : lw_okq (⟨"TurnedBeamModel", "bringsBack", "(II)Z"⟩, 44) := ⟨⟨by decide +kernel, by decide +kernel⟩, List.mem_of_getElem? (i := 1050) (by decide +kernel), List.mem_of_getElem? (i := 1428) (by decide +kernel), List.mem_of_getElem? (i := 1429) (by decide +kernel)⟩
theorem lw_p75 : lw_okq (⟨"TurnedBeamModel", "saves", "(I)V"⟩, 44) := ⟨⟨by decide +kernel, by decide +kernel⟩, List.mem_of_getElem? (i := 1050) (by decide +kernel), List.mem_of_getElem? (i := 1432) (by decide +kernel), List.mem_of_getElem? (i := 1433) (by decide +kernel)⟩
theorem lw_p76 : lw_okq (⟨"TurnedBeamModel", "loads", "(I)V"⟩, 44) := ⟨⟨by decide +kernel, by decide +kernel⟩, List.mem_of_getElem? (i := 1050) (by decide +kernel), List.mem_of_getElem? (i := 1436) (by decide +kernel), List.mem_of_getElem? (i := 1437) (by decide +kernel)⟩
theorem lw_p77 : lw_okq (⟨"TurnedBeamModel", "findHands", "(II)V"⟩, 44) := ⟨⟨by decide +kernel, by decide +kernel⟩, List.mem_of_getElem? (i := 1050) (by decide +kernel), List.mem_of_getElem? (i := 1444) (by decide +kernel), List.mem_of_getElem? (i := 1445) (by decide +kernel)⟩
theorem lw_p78 : lw_okq (⟨"TurnedBeamModel", "lights", "(IIII)Z"⟩, 44) := ⟨⟨by decide +kernel, by decide +kernel⟩, List.mem_of_getElem? (i := 1050) (by decide +kernel), List.mem_of_getElem? (i := 1448) (by decide +kernel), List.mem_of_getElem? (i := 1449) (by decide +kernel)⟩
theorem lw_p79 : lw_okq (⟨"TurnedBeamModel", "meets", "()V"⟩, 44) := ⟨⟨by decide +kernel, by decide +kernel⟩, List.mem_of_getElem? (i := 1050) (by decide +kernel), List.mem_of_getElem? (i := 1456) (by decide +kernel), List.mem_of_getElem? (i := 1457) (by decide +kernel)⟩
def lw_privs_5 : List (MethodName × Nat) := [(⟨"TurnedBeamModel", "goes", "(I)I"⟩, 44), (⟨"TurnedBeamModel", "enters", "(I)V"⟩, 44), (⟨"TurnedBeamModel", "isOut", "()Z"⟩, 44), (⟨"TurnedBeamModel", "comesInto", "(I)Z"⟩, 44), (⟨"TurnedBeamModel", "turns", "(I)V"⟩, 44), (⟨"TurnedBeamModel", "goesOn", "()V"⟩, 44), (⟨"TurnedBeamModel", "windowThere", "()I"⟩, 44), (⟨"TurnedBeamModel", "moveAll", "([I[I)V"⟩, 44), (⟨"TurnedBeamModel", "comesBack", "(II)V"⟩, 44), (⟨"TurnedBeamModel", "standsAs", "([I)Z"⟩, 44), (⟨"TurnedBeamModel", "bringsBack", "(II)Z"⟩, 44), (⟨"TurnedBeamModel", "saves", "(I)V"⟩, 44), (⟨"TurnedBeamModel", "loads", "(I)V"⟩, 44), (⟨"TurnedBeamModel", "findHands", "(II)V"⟩, 44), (⟨"TurnedBeamModel", "lights", "(IIII)Z"⟩, 44), (⟨"TurnedBeamModel", "meets", "()V"⟩, 44)]
theorem lw_r5 : ∀ q ∈ lw_privs_5, lw_okq q := List.forall_mem_cons.mpr ⟨lw_p64, List.forall_mem_cons.mpr ⟨lw_p65, List.forall_mem_cons.mpr ⟨lw_p66, List.forall_mem_cons.mpr ⟨lw_p67, List.forall_mem_cons.mpr ⟨lw_p68, List.forall_mem_cons.mpr ⟨lw_p69, List.forall_mem_cons.mpr ⟨lw_p70, List.forall_mem_cons.mpr ⟨lw_p71, List.forall_mem_cons.mpr ⟨lw_p72, List.forall_mem_cons.mpr ⟨lw_p73, List.forall_mem_cons.mpr ⟨lw_p74, List.forall_mem_cons.mpr ⟨lw_p75, List.forall_mem_cons.mpr ⟨lw_p76, List.forall_mem_cons.mpr ⟨lw_p77, List.forall_mem_cons.mpr ⟨lw_p78, List.forall_mem_cons.mpr ⟨lw_p79, fun _ h => absurd h List.not_mem_nil⟩⟩⟩⟩⟩⟩⟩⟩⟩⟩⟩⟩⟩⟩⟩⟩
theorem lw_p80 : lw_okq (⟨"TurnedBeamModel", "timeBits", "()J"⟩, 44) := ⟨⟨by decide +kernel, by decide +kernel⟩, List.mem_of_getElem? (i := 1050) (by decide +kernel), List.mem_of_getElem? (i := 1460) (by decide +kernel), List.mem_of_getElem? (i := 1461) (by decide +kernel)⟩
theorem lw_p81 : lw_okq (⟨"TurnedBeamModel", "standsAsMet", "(I)V"⟩, 44) := ⟨⟨by decide +kernel, by decide +kernel⟩, List.mem_of_getElem? (i := 1050) (by decide +kernel), List.mem_of_getElem? (i := 1464) (by decide +kernel), List.mem_of_getElem? (i := 1465) (by decide +kernel)⟩
theorem lw_p82 : lw_okq (⟨"TurnedBeamModel", "isMask", "(I)Z"⟩, 44) := ⟨⟨by decide +kernel, by decide +kernel⟩, List.mem_of_getElem? (i := 1050) (by decide +kernel), List.mem_of_getElem? (i := 1473) (by decide +kernel), List.mem_of_getElem? (i := 1474) (by decide +kernel)⟩
theorem lw_p83 : lw_okq (⟨"TurnedBeamModel", "isOutThere", "(I)Z"⟩, 44) := ⟨⟨by decide +kernel, by decide +kernel⟩, List.mem_of_getElem? (i := 1050) (by decide +kernel), List.mem_of_getElem? (i := 1477) (by decide +kernel), List.mem_of_getElem? (i := 1478) (by decide +kernel)⟩
theorem lw_p84 : lw_okq (⟨"TurnedBeamModel", "findUnknown", "(I)V"⟩, 44) := ⟨⟨by decide +kernel, by decide +kernel⟩, List.mem_of_getElem? (i := 1050) (by decide +kernel), List.mem_of_getElem? (i := 1481) (by decide +kernel), List.mem_of_getElem? (i := 1482) (by decide +kernel)⟩
theorem lw_p85 : lw_okq (⟨"TurnedBeamModel", "slantsAre", "(I)V"⟩, 44) := ⟨⟨by decide +kernel, by decide +kernel⟩, List.mem_of_getElem? (i := 1050) (by decide +kernel), List.mem_of_getElem? (i := 1485) (by decide +kernel), List.mem_of_getElem? (i := 1486) (by decide +kernel)⟩
theorem lw_p86 : lw_okq (⟨"TurnedBeamModel", "areLetters", "(I)Z"⟩, 44) := ⟨⟨by decide +kernel, by decide +kernel⟩, List.mem_of_getElem? (i := 1050) (by decide +kernel), List.mem_of_getElem? (i := 1499) (by decide +kernel), List.mem_of_getElem? (i := 1500) (by decide +kernel)⟩
theorem lw_p87 : lw_okq (⟨"TurnedBeamModel", "findFits", "(I)I"⟩, 44) := ⟨⟨by decide +kernel, by decide +kernel⟩, List.mem_of_getElem? (i := 1050) (by decide +kernel), List.mem_of_getElem? (i := 1503) (by decide +kernel), List.mem_of_getElem? (i := 1504) (by decide +kernel)⟩
theorem lw_p88 : lw_okq (⟨"TurnedBeamModel", "cameSo", "(I)Z"⟩, 44) := ⟨⟨by decide +kernel, by decide +kernel⟩, List.mem_of_getElem? (i := 1050) (by decide +kernel), List.mem_of_getElem? (i := 1507) (by decide +kernel), List.mem_of_getElem? (i := 1508) (by decide +kernel)⟩
theorem lw_p89 : lw_okq (⟨"TurnedBeamModel", "drawn", "(I)I"⟩, 44) := ⟨⟨by decide +kernel, by decide +kernel⟩, List.mem_of_getElem? (i := 1050) (by decide +kernel), List.mem_of_getElem? (i := 1524) (by decide +kernel), List.mem_of_getElem? (i := 1525) (by decide +kernel)⟩
theorem lw_p90 : lw_okq (⟨"TurnedBeamModel", "casts", "(II)I"⟩, 44) := ⟨⟨by decide +kernel, by decide +kernel⟩, List.mem_of_getElem? (i := 1050) (by decide +kernel), List.mem_of_getElem? (i := 1537) (by decide +kernel), List.mem_of_getElem? (i := 1538) (by decide +kernel)⟩
theorem lw_p91 : lw_okq (⟨"TurnedBeamModel", "ran", "(I)V"⟩, 44) := ⟨⟨by decide +kernel, by decide +kernel⟩, List.mem_of_getElem? (i := 1050) (by decide +kernel), List.mem_of_getElem? (i := 1541) (by decide +kernel), List.mem_of_getElem? (i := 1542) (by decide +kernel)⟩
theorem lw_p92 : lw_okq (⟨"TurnedBeamModel", "turnsBy", "(II)I"⟩, 44) := ⟨⟨by decide +kernel, by decide +kernel⟩, List.mem_of_getElem? (i := 1050) (by decide +kernel), List.mem_of_getElem? (i := 1545) (by decide +kernel), List.mem_of_getElem? (i := 1546) (by decide +kernel)⟩
theorem lw_p93 : lw_okq (⟨"TurnedBeamModel", "lightsBy", "(II)I"⟩, 44) := ⟨⟨by decide +kernel, by decide +kernel⟩, List.mem_of_getElem? (i := 1050) (by decide +kernel), List.mem_of_getElem? (i := 1549) (by decide +kernel), List.mem_of_getElem? (i := 1550) (by decide +kernel)⟩
theorem lw_p94 : lw_okq (⟨"TurnedBeamModel", "tellsBy", "(II)I"⟩, 44) := ⟨⟨by decide +kernel, by decide +kernel⟩, List.mem_of_getElem? (i := 1050) (by decide +kernel), List.mem_of_getElem? (i := 1553) (by decide +kernel), List.mem_of_getElem? (i := 1554) (by decide +kernel)⟩
theorem lw_p95 : lw_okq (⟨"TurnedBeamModel", "mirrors", "()I"⟩, 44) := ⟨⟨by decide +kernel, by decide +kernel⟩, List.mem_of_getElem? (i := 1050) (by decide +kernel), List.mem_of_getElem? (i := 1604) (by decide +kernel), List.mem_of_getElem? (i := 1605) (by decide +kernel)⟩
def lw_privs_6 : List (MethodName × Nat) := [(⟨"TurnedBeamModel", "timeBits", "()J"⟩, 44), (⟨"TurnedBeamModel", "standsAsMet", "(I)V"⟩, 44), (⟨"TurnedBeamModel", "isMask", "(I)Z"⟩, 44), (⟨"TurnedBeamModel", "isOutThere", "(I)Z"⟩, 44), (⟨"TurnedBeamModel", "findUnknown", "(I)V"⟩, 44), (⟨"TurnedBeamModel", "slantsAre", "(I)V"⟩, 44), (⟨"TurnedBeamModel", "areLetters", "(I)Z"⟩, 44), (⟨"TurnedBeamModel", "findFits", "(I)I"⟩, 44), (⟨"TurnedBeamModel", "cameSo", "(I)Z"⟩, 44), (⟨"TurnedBeamModel", "drawn", "(I)I"⟩, 44), (⟨"TurnedBeamModel", "casts", "(II)I"⟩, 44), (⟨"TurnedBeamModel", "ran", "(I)V"⟩, 44), (⟨"TurnedBeamModel", "turnsBy", "(II)I"⟩, 44), (⟨"TurnedBeamModel", "lightsBy", "(II)I"⟩, 44), (⟨"TurnedBeamModel", "tellsBy", "(II)I"⟩, 44), (⟨"TurnedBeamModel", "mirrors", "()I"⟩, 44)]
theorem lw_r6 : ∀ q ∈ lw_privs_6, lw_okq q := List.forall_mem_cons.mpr ⟨lw_p80, List.forall_mem_cons.mpr ⟨lw_p81, List.forall_mem_cons.mpr ⟨lw_p82, List.forall_mem_cons.mpr ⟨lw_p83, List.forall_mem_cons.mpr ⟨lw_p84, List.forall_mem_cons.mpr ⟨lw_p85, List.forall_mem_cons.mpr ⟨lw_p86, List.forall_mem_cons.mpr ⟨lw_p87, List.forall_mem_cons.mpr ⟨lw_p88, List.forall_mem_cons.mpr ⟨lw_p89, List.forall_mem_cons.mpr ⟨lw_p90, List.forall_mem_cons.mpr ⟨lw_p91, List.forall_mem_cons.mpr ⟨lw_p92, List.forall_mem_cons.mpr ⟨lw_p93, List.forall_mem_cons.mpr ⟨lw_p94, List.forall_mem_cons.mpr ⟨lw_p95, fun _ h => absurd h List.not_mem_nil⟩⟩⟩⟩⟩⟩⟩⟩⟩⟩⟩⟩⟩⟩⟩⟩
theorem lw_p96 : lw_okq (⟨"TurnedBeamModel", "litAll", "()I"⟩, 44) := ⟨⟨by decide +kernel, by decide +kernel⟩, List.mem_of_getElem? (i := 1050) (by decide +kernel), List.mem_of_getElem? (i := 1608) (by decide +kernel), List.mem_of_getElem? (i := 1609) (by decide +kernel)⟩
def lw_privs_7 : List (MethodName × Nat) := [(⟨"TurnedBeamModel", "litAll", "()I"⟩, 44)]
theorem lw_r7 : ∀ q ∈ lw_privs_7, lw_okq q := List.forall_mem_cons.mpr ⟨lw_p96, fun _ h => absurd h List.not_mem_nil⟩
def lw_privs : List (MethodName × Nat) := lw_privs_1 ++ (lw_privs_2 ++ (lw_privs_3 ++ (lw_privs_4 ++ (lw_privs_5 ++ (lw_privs_6 ++ (lw_privs_7))))))
def lw_tbl : List Cond := k2_sels lw_privs ++ tables_1
theorem lw_privs_ok : ∀ q ∈ lw_privs, lw_okq q := by
  show ∀ q ∈ lw_privs_1 ++ (lw_privs_2 ++ (lw_privs_3 ++ (lw_privs_4 ++ (lw_privs_5 ++ (lw_privs_6 ++ (lw_privs_7)))))), lw_okq q
  exact List.forall_mem_append.mpr ⟨lw_r1, List.forall_mem_append.mpr ⟨lw_r2, List.forall_mem_append.mpr ⟨lw_r3, List.forall_mem_append.mpr ⟨lw_r4, List.forall_mem_append.mpr ⟨lw_r5, List.forall_mem_append.mpr ⟨lw_r6, lw_r7⟩⟩⟩⟩⟩⟩
-- ===== end of PART A; then your names; then what follows =====
end
section
def RX0 : String := "TurnedBeam$Beam"
def TX0 : u_T := fun k => match k with
  | 0 => ("TurnedBeam$Beam", "row", "I", false)
  | 1 => ("TurnedBeam$Beam", "column", "I", false)
  | 2 => ("TurnedBeam$Beam", "heading", "I", false)
  | 3 => ("TurnedBeam$Beam", "steps", "I", false)
  | 4 => ("TurnedBeam$Beam", "thrown", "I", false)
  | 5 => ("TurnedBeam$Beam", "seen", "I", false)
  | 6 => ("TurnedBeam$Beam", "watched", "I", false)
  | _ => ("TurnedBeam$Beam", "squareWatched", "I", false)
def tyX0 : Nat → FieldType := fun k => match k with
  | 0 => .int
  | 1 => .int
  | 2 => .int
  | 3 => .int
  | 4 => .int
  | 5 => .int
  | 6 => .int
  | _ => .int
abbrev wsX00 : List Cond := u_ws RX0 TX0 8
theorem nmX0 : ∀ a, a < 8 → ∀ b, b < 8 → a ≠ b → (TX0 a).2.1 ≠ (TX0 b).2.1 := by decide +kernel
theorem tyX0_ok : ∀ k, k < 8 → parseFieldDescriptor (TX0 k).2.2.1 = some (tyX0 k) := by decide +kernel
abbrev cX0_init : ByteArray := prog_2_method_1_code
def yX0_init : MethodName := ⟨RX0, "<init>", "()V"⟩
abbrev cX0_run : ByteArray := prog_2_method_2_code
def yX0_run : MethodName := ⟨RX0, "run", "(LTurnedBeam$Hall;I)I"⟩
abbrev cX0_runBack : ByteArray := prog_2_method_3_code
def yX0_runBack : MethodName := ⟨RX0, "runBack", "(LTurnedBeam$Hall;I)I"⟩
abbrev cX0_squareOnWay : ByteArray := prog_2_method_4_code
def yX0_squareOnWay : MethodName := ⟨RX0, "squareOnWay", "(LTurnedBeam$Hall;II)I"⟩
abbrev cX0_enter : ByteArray := prog_2_method_5_code
def yX0_enter : MethodName := ⟨RX0, "enter", "(LTurnedBeam$Hall;I)V"⟩
abbrev cX0_start : ByteArray := prog_2_method_6_code
def yX0_start : MethodName := ⟨RX0, "start", "(III)V"⟩
abbrev cX0_bend : ByteArray := prog_2_method_7_code
def yX0_bend : MethodName := ⟨RX0, "bend", "(I)V"⟩
abbrev cX0_goOn : ByteArray := prog_2_method_8_code
def yX0_goOn : MethodName := ⟨RX0, "goOn", "()V"⟩
abbrev cX0_isOutside : ByteArray := prog_2_method_9_code
def yX0_isOutside : MethodName := ⟨RX0, "isOutside", "(LTurnedBeam$Hall;)Z"⟩
abbrev cX0_windowHere : ByteArray := prog_2_method_10_code
def yX0_windowHere : MethodName := ⟨RX0, "windowHere", "(LTurnedBeam$Hall;)I"⟩
def RX1 : String := "TurnedBeam$Doubt"
def TX1 : u_T := fun k => match k with
  | 0 => ("TurnedBeam$Doubt", "trial", "LTurnedBeam$Hall;", true)
  | 1 => ("TurnedBeam$Doubt", "beam", "LTurnedBeam$Beam;", true)
  | 2 => ("TurnedBeam$Doubt", "unknown", "[I", true)
  | 3 => ("TurnedBeam$Doubt", "unknowns", "I", false)
  | 4 => ("TurnedBeam$Doubt", "slantsKnown", "I", false)
  | 5 => ("TurnedBeam$Doubt", "timesKnown", "J", false)
  | 6 => ("TurnedBeam$Doubt", "outsSeen", "[I", true)
  | 7 => ("TurnedBeam$Doubt", "above", "I", false)
  | 8 => ("TurnedBeam$Doubt", "below", "I", false)
  | 9 => ("TurnedBeam$Doubt", "tellingWindow", "I", false)
  | _ => ("TurnedBeam$Doubt", "tellingOuts", "I", false)
def tyX1 : Nat → FieldType := fun k => match k with
  | 0 => .object "TurnedBeam$Hall"
  | 1 => .object "TurnedBeam$Beam"
  | 2 => .array .int
  | 3 => .int
  | 4 => .int
  | 5 => .long
  | 6 => .array .int
  | 7 => .int
  | 8 => .int
  | 9 => .int
  | _ => .int
abbrev wsX10 : List Cond := u_ws RX1 TX1 11
theorem nmX1 : ∀ a, a < 11 → ∀ b, b < 11 → a ≠ b → (TX1 a).2.1 ≠ (TX1 b).2.1 := by decide +kernel
theorem tyX1_ok : ∀ k, k < 11 → parseFieldDescriptor (TX1 k).2.2.1 = some (tyX1 k) := by decide +kernel
abbrev cX1_init : ByteArray := prog_3_method_1_code
def yX1_init : MethodName := ⟨RX1, "<init>", "()V"⟩
abbrev cX1_suppose : ByteArray := prog_3_method_2_code
def yX1_suppose : MethodName := ⟨RX1, "suppose", "(LTurnedBeam$Hall;I)V"⟩
abbrev cX1_choices : ByteArray := prog_3_method_3_code
def yX1_choices : MethodName := ⟨RX1, "choices", "()I"⟩
abbrev cX1_standBy : ByteArray := prog_3_method_4_code
def yX1_standBy : MethodName := ⟨RX1, "standBy", "(I)V"⟩
abbrev cX1_weigh : ByteArray := prog_3_method_5_code
def yX1_weigh : MethodName := ⟨RX1, "weigh", "(II)V"⟩
abbrev cX1_canRead : ByteArray := prog_3_method_6_code
def yX1_canRead : MethodName := ⟨RX1, "canRead", "(LTurnedBeam$Sheet;LTurnedBeam$Hall;)Z"⟩
abbrev cX1_fitting : ByteArray := prog_3_method_7_code
def yX1_fitting : MethodName := ⟨RX1, "fitting", "(LTurnedBeam$Sheet;)I"⟩
abbrev cX1_isFitting : ByteArray := prog_3_method_8_code
def yX1_isFitting : MethodName := ⟨RX1, "isFitting", "(LTurnedBeam$Sheet;I)Z"⟩
abbrev cX1_findTelling : ByteArray := prog_3_method_9_code
def yX1_findTelling : MethodName := ⟨RX1, "findTelling", "(LTurnedBeam$Sheet;)Z"⟩
abbrev cX1_noteOuts : ByteArray := prog_3_method_10_code
def yX1_noteOuts : MethodName := ⟨RX1, "noteOuts", "()V"⟩
def RX2 : String := "TurnedBeam$Foresight"
def TX2 : u_T := fun k => match k with
  | 0 => ("TurnedBeam$Foresight", "trial", "LTurnedBeam$Hall;", true)
  | 1 => ("TurnedBeam$Foresight", "beam", "LTurnedBeam$Beam;", true)
  | 2 => ("TurnedBeam$Foresight", "row", "[I", true)
  | 3 => ("TurnedBeam$Foresight", "slantsBefore", "[I", true)
  | 4 => ("TurnedBeam$Foresight", "timesBefore", "[J", true)
  | 5 => ("TurnedBeam$Foresight", "slantsHad", "[I", true)
  | 6 => ("TurnedBeam$Foresight", "timesHad", "[J", true)
  | 7 => ("TurnedBeam$Foresight", "had", "I", false)
  | 8 => ("TurnedBeam$Foresight", "longestWindow", "I", false)
  | _ => ("TurnedBeam$Foresight", "longestSteps", "I", false)
def tyX2 : Nat → FieldType := fun k => match k with
  | 0 => .object "TurnedBeam$Hall"
  | 1 => .object "TurnedBeam$Beam"
  | 2 => .array .int
  | 3 => .array .int
  | 4 => .array .long
  | 5 => .array .int
  | 6 => .array .long
  | 7 => .int
  | 8 => .int
  | _ => .int
abbrev wsX20 : List Cond := u_ws RX2 TX2 10
theorem nmX2 : ∀ a, a < 10 → ∀ b, b < 10 → a ≠ b → (TX2 a).2.1 ≠ (TX2 b).2.1 := by decide +kernel
theorem tyX2_ok : ∀ k, k < 10 → parseFieldDescriptor (TX2 k).2.2.1 = some (tyX2 k) := by decide +kernel
abbrev cX2_init : ByteArray := prog_4_method_1_code
def yX2_init : MethodName := ⟨RX2, "<init>", "()V"⟩
abbrev cX2_raysRound : ByteArray := prog_4_method_2_code
def yX2_raysRound : MethodName := ⟨RX2, "raysRound", "(LTurnedBeam$Hall;I)I"⟩
abbrev cX2_raysBack : ByteArray := prog_4_method_3_code
def yX2_raysBack : MethodName := ⟨RX2, "raysBack", "(LTurnedBeam$Hall;LTurnedBeam$Hall;)I"⟩
abbrev cX2_leads : ByteArray := prog_4_method_4_code
def yX2_leads : MethodName := ⟨RX2, "leads", "(IILTurnedBeam$Hall;)Z"⟩
abbrev cX2_leadsByWindow : ByteArray := prog_4_method_5_code
def yX2_leadsByWindow : MethodName := ⟨RX2, "leadsByWindow", "(IILTurnedBeam$Hall;)Z"⟩
abbrev cX2_standings : ByteArray := prog_4_method_6_code
def yX2_standings : MethodName := ⟨RX2, "standings", "(LTurnedBeam$Hall;)I"⟩
abbrev cX2_note : ByteArray := prog_4_method_7_code
def yX2_note : MethodName := ⟨RX2, "note", "()V"⟩
abbrev cX2_findLongest : ByteArray := prog_4_method_8_code
def yX2_findLongest : MethodName := ⟨RX2, "findLongest", "(LTurnedBeam$Hall;)V"⟩
def RX3 : String := "TurnedBeam$Hall"
def TX3 : u_T := fun k => match k with
  | 0 => ("TurnedBeam$Hall", "rows", "I", false)
  | 1 => ("TurnedBeam$Hall", "columns", "I", false)
  | 2 => ("TurnedBeam$Hall", "kinds", "[I", true)
  | 3 => ("TurnedBeam$Hall", "numbers", "[I", true)
  | 4 => ("TurnedBeam$Hall", "lit", "[I", true)
  | 5 => ("TurnedBeam$Hall", "slants", "I", false)
  | _ => ("TurnedBeam$Hall", "times", "J", false)
def tyX3 : Nat → FieldType := fun k => match k with
  | 0 => .int
  | 1 => .int
  | 2 => .array .int
  | 3 => .array .int
  | 4 => .array .int
  | 5 => .int
  | _ => .long
abbrev wsX30 : List Cond := u_ws RX3 TX3 7
theorem nmX3 : ∀ a, a < 7 → ∀ b, b < 7 → a ≠ b → (TX3 a).2.1 ≠ (TX3 b).2.1 := by decide +kernel
theorem tyX3_ok : ∀ k, k < 7 → parseFieldDescriptor (TX3 k).2.2.1 = some (tyX3 k) := by decide +kernel
abbrev cX3_init : ByteArray := prog_5_method_1_code
def yX3_init : MethodName := ⟨RX3, "<init>", "()V"⟩
abbrev cX3_above : ByteArray := prog_5_method_2_code
def yX3_above : MethodName := ⟨RX3, "above", "(I)I"⟩
abbrev cX3_isOf : ByteArray := prog_5_method_3_code
def yX3_isOf : MethodName := ⟨RX3, "isOf", "(II)Z"⟩
abbrev cX3_throwsRays : ByteArray := prog_5_method_4_code
def yX3_throwsRays : MethodName := ⟨RX3, "throwsRays", "(I)Z"⟩
abbrev cX3_stopsRays : ByteArray := prog_5_method_5_code
def yX3_stopsRays : MethodName := ⟨RX3, "stopsRays", "(I)Z"⟩
abbrev cX3_squares : ByteArray := prog_5_method_6_code
def yX3_squares : MethodName := ⟨RX3, "squares", "()I"⟩
abbrev cX3_windows : ByteArray := prog_5_method_7_code
def yX3_windows : MethodName := ⟨RX3, "windows", "()I"⟩
abbrev cX3_hasSquare : ByteArray := prog_5_method_8_code
def yX3_hasSquare : MethodName := ⟨RX3, "hasSquare", "(I)Z"⟩
abbrev cX3_hasWindow : ByteArray := prog_5_method_9_code
def yX3_hasWindow : MethodName := ⟨RX3, "hasWindow", "(I)Z"⟩
abbrev cX3_hasMask : ByteArray := prog_5_method_10_code
def yX3_hasMask : MethodName := ⟨RX3, "hasMask", "(I)Z"⟩
abbrev cX3_isSizedAs : ByteArray := prog_5_method_11_code
def yX3_isSizedAs : MethodName := ⟨RX3, "isSizedAs", "(LTurnedBeam$Hall;)Z"⟩
abbrev cX3_clear : ByteArray := prog_5_method_12_code
def yX3_clear : MethodName := ⟨RX3, "clear", "(II)V"⟩
abbrev cX3_copyFrom : ByteArray := prog_5_method_13_code
def yX3_copyFrom : MethodName := ⟨RX3, "copyFrom", "(LTurnedBeam$Hall;)V"⟩
abbrev cX3_standAs : ByteArray := prog_5_method_14_code
def yX3_standAs : MethodName := ⟨RX3, "standAs", "(LTurnedBeam$Hall;)V"⟩
abbrev cX3_stand : ByteArray := prog_5_method_15_code
def yX3_stand : MethodName := ⟨RX3, "stand", "(IJ)V"⟩
abbrev cX3_standsAs : ByteArray := prog_5_method_16_code
def yX3_standsAs : MethodName := ⟨RX3, "standsAs", "(LTurnedBeam$Hall;)Z"⟩
abbrev cX3_become : ByteArray := prog_5_method_17_code
def yX3_become : MethodName := ⟨RX3, "become", "(IIII)V"⟩
abbrev cX3_slantOf : ByteArray := prog_5_method_18_code
def yX3_slantOf : MethodName := ⟨RX3, "slantOf", "(I)I"⟩
abbrev cX3_timeOf : ByteArray := prog_5_method_19_code
def yX3_timeOf : MethodName := ⟨RX3, "timeOf", "(I)I"⟩
abbrev cX3_putTime : ByteArray := prog_5_method_20_code
def yX3_putTime : MethodName := ⟨RX3, "putTime", "(II)V"⟩
abbrev cX3_handCan : ByteArray := prog_5_method_21_code
def yX3_handCan : MethodName := ⟨RX3, "handCan", "(I)Z"⟩
abbrev cX3_flip : ByteArray := prog_5_method_22_code
def yX3_flip : MethodName := ⟨RX3, "flip", "(I)V"⟩
abbrev cX3_slowness : ByteArray := prog_5_method_23_code
def yX3_slowness : MethodName := ⟨RX3, "slowness", "(I)I"⟩
abbrev cX3_turnByRay : ByteArray := prog_5_method_24_code
def yX3_turnByRay : MethodName := ⟨RX3, "turnByRay", "(I)V"⟩
abbrev cX3_turnBack : ByteArray := prog_5_method_25_code
def yX3_turnBack : MethodName := ⟨RX3, "turnBack", "(I)V"⟩
abbrev cX3_lightUp : ByteArray := prog_5_method_26_code
def yX3_lightUp : MethodName := ⟨RX3, "lightUp", "(I)V"⟩
abbrev cX3_lightDown : ByteArray := prog_5_method_27_code
def yX3_lightDown : MethodName := ⟨RX3, "lightDown", "(I)V"⟩
abbrev cX3_mirrors : ByteArray := prog_5_method_28_code
def yX3_mirrors : MethodName := ⟨RX3, "mirrors", "()I"⟩
abbrev cX3_litTogether : ByteArray := prog_5_method_29_code
def yX3_litTogether : MethodName := ⟨RX3, "litTogether", "()I"⟩
def RX4 : String := "TurnedBeam$Hands"
def TX4 : u_T := fun k => match k with
  | 0 => ("TurnedBeam$Hands", "trial", "LTurnedBeam$Hall;", true)
  | 1 => ("TurnedBeam$Hands", "beam", "LTurnedBeam$Beam;", true)
  | 2 => ("TurnedBeam$Hands", "goal", "I", false)
  | 3 => ("TurnedBeam$Hands", "window", "I", false)
  | 4 => ("TurnedBeam$Hands", "needed", "I", false)
  | 5 => ("TurnedBeam$Hands", "squares", "I", false)
  | _ => ("TurnedBeam$Hands", "cost", "I", false)
def tyX4 : Nat → FieldType := fun k => match k with
  | 0 => .object "TurnedBeam$Hall"
  | 1 => .object "TurnedBeam$Beam"
  | 2 => .int
  | 3 => .int
  | 4 => .int
  | 5 => .int
  | _ => .int
abbrev wsX40 : List Cond := u_ws RX4 TX4 7
theorem nmX4 : ∀ a, a < 7 → ∀ b, b < 7 → a ≠ b → (TX4 a).2.1 ≠ (TX4 b).2.1 := by decide +kernel
theorem tyX4_ok : ∀ k, k < 7 → parseFieldDescriptor (TX4 k).2.2.1 = some (tyX4 k) := by decide +kernel
abbrev cX4_init : ByteArray := prog_6_method_1_code
def yX4_init : MethodName := ⟨RX4, "<init>", "()V"⟩
abbrev cX4_lead : ByteArray := prog_6_method_2_code
def yX4_lead : MethodName := ⟨RX4, "lead", "(LTurnedBeam$Whole;II)Z"⟩
abbrev cX4_isLit : ByteArray := prog_6_method_3_code
def yX4_isLit : MethodName := ⟨RX4, "isLit", "(LTurnedBeam$Hall;I)Z"⟩
abbrev cX4_leadByOne : ByteArray := prog_6_method_4_code
def yX4_leadByOne : MethodName := ⟨RX4, "leadByOne", "(LTurnedBeam$Whole;)Z"⟩
abbrev cX4_leadByTwo : ByteArray := prog_6_method_5_code
def yX4_leadByTwo : MethodName := ⟨RX4, "leadByTwo", "(LTurnedBeam$Whole;)Z"⟩
abbrev cX4_offer : ByteArray := prog_6_method_6_code
def yX4_offer : MethodName := ⟨RX4, "offer", "(III)V"⟩
def RX5 : String := "TurnedBeam$Law"
def TX5 : u_T := fun k => match k with
  | 0 => ("TurnedBeam$Law", "use", "I", true)
  | 1 => ("TurnedBeam$Law", "code", "[I", true)
  | 2 => ("TurnedBeam$Law", "length", "I", false)
  | _ => ("TurnedBeam$Law", "stack", "[I", true)
def tyX5 : Nat → FieldType := fun k => match k with
  | 0 => .int
  | 1 => .array .int
  | 2 => .int
  | _ => .array .int
abbrev wsX50 : List Cond := u_ws RX5 TX5 4
theorem nmX5 : ∀ a, a < 4 → ∀ b, b < 4 → a ≠ b → (TX5 a).2.1 ≠ (TX5 b).2.1 := by decide +kernel
theorem tyX5_ok : ∀ k, k < 4 → parseFieldDescriptor (TX5 k).2.2.1 = some (tyX5 k) := by decide +kernel
abbrev cX5_init : ByteArray := prog_7_method_1_code
def yX5_init : MethodName := ⟨RX5, "<init>", "(I)V"⟩
abbrev cX5_learn : ByteArray := prog_7_method_2_code
def yX5_learn : MethodName := ⟨RX5, "learn", "([II)V"⟩
abbrev cX5_copyFrom : ByteArray := prog_7_method_3_code
def yX5_copyFrom : MethodName := ⟨RX5, "copyFrom", "(LTurnedBeam$Law;)V"⟩
abbrev cX5_gives : ByteArray := prog_7_method_4_code
def yX5_gives : MethodName := ⟨RX5, "gives", "(III)I"⟩
abbrev cX5_withoutText : ByteArray := prog_7_method_5_code
def yX5_withoutText : MethodName := ⟨RX5, "withoutText", "(I)I"⟩
abbrev cX5_worked : ByteArray := prog_7_method_6_code
def yX5_worked : MethodName := ⟨RX5, "worked", "(III)I"⟩
abbrev cX5_joined : ByteArray := prog_7_method_7_code
def yX5_joined : MethodName := ⟨RX5, "joined", "(III)I"⟩
def RX6 : String := "TurnedBeam$Reader"
def TX6 : u_T := fun k => match k with
  | 0 => ("TurnedBeam$Reader", "code", "[I", true)
  | 1 => ("TurnedBeam$Reader", "length", "I", false)
  | 2 => ("TurnedBeam$Reader", "bytes", "[I", true)
  | 3 => ("TurnedBeam$Reader", "size", "I", false)
  | 4 => ("TurnedBeam$Reader", "place", "I", false)
  | 5 => ("TurnedBeam$Reader", "use", "I", false)
  | _ => ("TurnedBeam$Reader", "faulty", "Z", false)
def tyX6 : Nat → FieldType := fun k => match k with
  | 0 => .array .int
  | 1 => .int
  | 2 => .array .int
  | 3 => .int
  | 4 => .int
  | 5 => .int
  | _ => .boolean
abbrev wsX60 : List Cond := u_ws RX6 TX6 7
theorem nmX6 : ∀ a, a < 7 → ∀ b, b < 7 → a ≠ b → (TX6 a).2.1 ≠ (TX6 b).2.1 := by decide +kernel
theorem tyX6_ok : ∀ k, k < 7 → parseFieldDescriptor (TX6 k).2.2.1 = some (tyX6 k) := by decide +kernel
abbrev cX6_init : ByteArray := prog_8_method_1_code
def yX6_init : MethodName := ⟨RX6, "<init>", "()V"⟩
abbrev cX6_faultIn : ByteArray := prog_8_method_2_code
def yX6_faultIn : MethodName := ⟨RX6, "faultIn", "([III)I"⟩
abbrev cX6_readJoined : ByteArray := prog_8_method_3_code
def yX6_readJoined : MethodName := ⟨RX6, "readJoined", "(II)V"⟩
abbrev cX6_readPart : ByteArray := prog_8_method_4_code
def yX6_readPart : MethodName := ⟨RX6, "readPart", "(II)V"⟩
abbrev cX6_readLeaf : ByteArray := prog_8_method_5_code
def yX6_readLeaf : MethodName := ⟨RX6, "readLeaf", "(I)V"⟩
abbrev cX6_readNumber : ByteArray := prog_8_method_6_code
def yX6_readNumber : MethodName := ⟨RX6, "readNumber", "()V"⟩
abbrev cX6_readName : ByteArray := prog_8_method_7_code
def yX6_readName : MethodName := ⟨RX6, "readName", "(I)V"⟩
abbrev cX6_readOpened : ByteArray := prog_8_method_8_code
def yX6_readOpened : MethodName := ⟨RX6, "readOpened", "(II)V"⟩
abbrev cX6_joinsAt : ByteArray := prog_8_method_9_code
def yX6_joinsAt : MethodName := ⟨RX6, "joinsAt", "(II)Z"⟩
abbrev cX6_isDigit : ByteArray := prog_8_method_10_code
def yX6_isDigit : MethodName := ⟨RX6, "isDigit", "(I)Z"⟩
abbrev cX6_peek : ByteArray := prog_8_method_11_code
def yX6_peek : MethodName := ⟨RX6, "peek", "()I"⟩
abbrev cX6_write : ByteArray := prog_8_method_12_code
def yX6_write : MethodName := ⟨RX6, "write", "(I)V"⟩
def RX7 : String := "TurnedBeam$Sheet"
def TX7 : u_T := fun k => match k with
  | 0 => ("TurnedBeam$Sheet", "bits", "I", false)
  | 1 => ("TurnedBeam$Sheet", "size", "I", false)
  | _ => ("TurnedBeam$Sheet", "numbers", "[I", true)
def tyX7 : Nat → FieldType := fun k => match k with
  | 0 => .int
  | 1 => .int
  | _ => .array .int
abbrev wsX70 : List Cond := u_ws RX7 TX7 3
theorem nmX7 : ∀ a, a < 3 → ∀ b, b < 3 → a ≠ b → (TX7 a).2.1 ≠ (TX7 b).2.1 := by decide +kernel
theorem tyX7_ok : ∀ k, k < 3 → parseFieldDescriptor (TX7 k).2.2.1 = some (tyX7 k) := by decide +kernel
abbrev cX7_init : ByteArray := prog_9_method_1_code
def yX7_init : MethodName := ⟨RX7, "<init>", "()V"⟩
abbrev cX7_canHave : ByteArray := prog_9_method_2_code
def yX7_canHave : MethodName := ⟨RX7, "canHave", "(I)Z"⟩
abbrev cX7_isMissing : ByteArray := prog_9_method_3_code
def yX7_isMissing : MethodName := ⟨RX7, "isMissing", "()Z"⟩
abbrev cX7_lose : ByteArray := prog_9_method_4_code
def yX7_lose : MethodName := ⟨RX7, "lose", "()V"⟩
abbrev cX7_clear : ByteArray := prog_9_method_5_code
def yX7_clear : MethodName := ⟨RX7, "clear", "(II)V"⟩
abbrev cX7_write : ByteArray := prog_9_method_6_code
def yX7_write : MethodName := ⟨RX7, "write", "(II)V"⟩
abbrev cX7_hasPart : ByteArray := prog_9_method_7_code
def yX7_hasPart : MethodName := ⟨RX7, "hasPart", "(II)Z"⟩
def RX8 : String := "TurnedBeam$Voice"
def TX8 : u_T := fun k => match k with
  | 0 => ("TurnedBeam$Voice", "bodies", "[I", true)
  | 1 => ("TurnedBeam$Voice", "begun", "I", false)
  | 2 => ("TurnedBeam$Voice", "kind", "I", false)
  | 3 => ("TurnedBeam$Voice", "number", "I", false)
  | _ => ("TurnedBeam$Voice", "told", "I", false)
def tyX8 : Nat → FieldType := fun k => match k with
  | 0 => .array .int
  | 1 => .int
  | 2 => .int
  | 3 => .int
  | _ => .int
abbrev wsX80 : List Cond := u_ws RX8 TX8 5
theorem nmX8 : ∀ a, a < 5 → ∀ b, b < 5 → a ≠ b → (TX8 a).2.1 ≠ (TX8 b).2.1 := by decide +kernel
theorem tyX8_ok : ∀ k, k < 5 → parseFieldDescriptor (TX8 k).2.2.1 = some (tyX8 k) := by decide +kernel
abbrev cX8_init : ByteArray := prog_10_method_1_code
def yX8_init : MethodName := ⟨RX8, "<init>", "()V"⟩
abbrev cX8_speakFor : ByteArray := prog_10_method_2_code
def yX8_speakFor : MethodName := ⟨RX8, "speakFor", "(LTurnedBeam$Hall;III)I"⟩
abbrev cX8_spoken : ByteArray := prog_10_method_3_code
def yX8_spoken : MethodName := ⟨RX8, "spoken", "(IIII)I"⟩
abbrev cX8_worked : ByteArray := prog_10_method_4_code
def yX8_worked : MethodName := ⟨RX8, "worked", "(III)I"⟩
abbrev cX8_own : ByteArray := prog_10_method_5_code
def yX8_own : MethodName := ⟨RX8, "own", "(III)I"⟩
abbrev cX8_above : ByteArray := prog_10_method_6_code
def yX8_above : MethodName := ⟨RX8, "above", "(IIII)I"⟩
abbrev cX8_bodyOf : ByteArray := prog_10_method_7_code
def yX8_bodyOf : MethodName := ⟨RX8, "bodyOf", "(II)I"⟩
def RX9 : String := "TurnedBeam$Whole"
def TX9 : u_T := fun k => match k with
  | 0 => ("TurnedBeam$Whole", "hall", "LTurnedBeam$Hall;", true)
  | 1 => ("TurnedBeam$Whole", "handLaw", "LTurnedBeam$Law;", true)
  | 2 => ("TurnedBeam$Whole", "betLaw", "LTurnedBeam$Law;", true)
  | 3 => ("TurnedBeam$Whole", "tape", "[I", true)
  | 4 => ("TurnedBeam$Whole", "taped", "I", false)
  | 5 => ("TurnedBeam$Whole", "waits", "[I", true)
  | 6 => ("TurnedBeam$Whole", "waiting", "I", false)
  | 7 => ("TurnedBeam$Whole", "takings", "I", false)
  | 8 => ("TurnedBeam$Whole", "day", "I", false)
  | _ => ("TurnedBeam$Whole", "z", "I", false)
def tyX9 : Nat → FieldType := fun k => match k with
  | 0 => .object "TurnedBeam$Hall"
  | 1 => .object "TurnedBeam$Law"
  | 2 => .object "TurnedBeam$Law"
  | 3 => .array .int
  | 4 => .int
  | 5 => .array .int
  | 6 => .int
  | 7 => .int
  | 8 => .int
  | _ => .int
abbrev wsX90 : List Cond := u_ws RX9 TX9 10
theorem nmX9 : ∀ a, a < 10 → ∀ b, b < 10 → a ≠ b → (TX9 a).2.1 ≠ (TX9 b).2.1 := by decide +kernel
theorem tyX9_ok : ∀ k, k < 10 → parseFieldDescriptor (TX9 k).2.2.1 = some (tyX9 k) := by decide +kernel
abbrev cX9_init : ByteArray := prog_11_method_1_code
def yX9_init : MethodName := ⟨RX9, "<init>", "()V"⟩
abbrev cX9_copyFrom : ByteArray := prog_11_method_2_code
def yX9_copyFrom : MethodName := ⟨RX9, "copyFrom", "(LTurnedBeam$Whole;)V"⟩
abbrev cX9_lawOf : ByteArray := prog_11_method_3_code
def yX9_lawOf : MethodName := ⟨RX9, "lawOf", "(I)LTurnedBeam$Law;"⟩
abbrev cX9_feedBytes : ByteArray := prog_11_method_4_code
def yX9_feedBytes : MethodName := ⟨RX9, "feedBytes", "(JI)Z"⟩
abbrev cX9_addWaiting : ByteArray := prog_11_method_5_code
def yX9_addWaiting : MethodName := ⟨RX9, "addWaiting", "(I)Z"⟩
abbrev cX9_handCost : ByteArray := prog_11_method_6_code
def yX9_handCost : MethodName := ⟨RX9, "handCost", "(I)I"⟩
abbrev cX9_handTurns : ByteArray := prog_11_method_7_code
def yX9_handTurns : MethodName := ⟨RX9, "handTurns", "(I)Z"⟩
abbrev cX9_rayIn : ByteArray := prog_11_method_8_code
def yX9_rayIn : MethodName := ⟨RX9, "rayIn", "(LTurnedBeam$Beam;I)I"⟩
abbrev cX9_liveDay : ByteArray := prog_11_method_9_code
def yX9_liveDay : MethodName := ⟨RX9, "liveDay", "(LTurnedBeam$Beam;)V"⟩
abbrev cX9_draw : ByteArray := prog_11_method_10_code
def yX9_draw : MethodName := ⟨RX9, "draw", "()I"⟩
abbrev cX9_earn : ByteArray := prog_11_method_11_code
def yX9_earn : MethodName := ⟨RX9, "earn", "(I)V"⟩
def RX10 : String := "TurnedBeam"
def TX10 : u_T := fun k => match k with
  | 0 => ("TurnedBeam", "failures", "[I", true)
  | 1 => ("TurnedBeam", "now", "LTurnedBeam$Whole;", true)
  | 2 => ("TurnedBeam", "kept", "LTurnedBeam$Whole;", true)
  | 3 => ("TurnedBeam", "timesKept", "I", false)
  | 4 => ("TurnedBeam", "sheets", "[LTurnedBeam$Sheet;", true)
  | 5 => ("TurnedBeam", "beam", "LTurnedBeam$Beam;", true)
  | 6 => ("TurnedBeam", "trial", "LTurnedBeam$Hall;", true)
  | 7 => ("TurnedBeam", "reader", "LTurnedBeam$Reader;", true)
  | 8 => ("TurnedBeam", "speaker", "LTurnedBeam$Voice;", true)
  | 9 => ("TurnedBeam", "foresight", "LTurnedBeam$Foresight;", true)
  | 10 => ("TurnedBeam", "hands", "LTurnedBeam$Hands;", true)
  | _ => ("TurnedBeam", "doubt", "LTurnedBeam$Doubt;", true)
def tyX10 : Nat → FieldType := fun k => match k with
  | 0 => .array .int
  | 1 => .object "TurnedBeam$Whole"
  | 2 => .object "TurnedBeam$Whole"
  | 3 => .int
  | 4 => .array (.object "TurnedBeam$Sheet")
  | 5 => .object "TurnedBeam$Beam"
  | 6 => .object "TurnedBeam$Hall"
  | 7 => .object "TurnedBeam$Reader"
  | 8 => .object "TurnedBeam$Voice"
  | 9 => .object "TurnedBeam$Foresight"
  | 10 => .object "TurnedBeam$Hands"
  | _ => .object "TurnedBeam$Doubt"
abbrev wsX100 : List Cond := u_ws RX10 TX10 12
theorem nmX10 : ∀ a, a < 12 → ∀ b, b < 12 → a ≠ b → (TX10 a).2.1 ≠ (TX10 b).2.1 := by decide +kernel
theorem tyX10_ok : ∀ k, k < 12 → parseFieldDescriptor (TX10 k).2.2.1 = some (tyX10 k) := by decide +kernel
abbrev cX10_init : ByteArray := prog_1_method_1_code
def yX10_init : MethodName := ⟨RX10, "<init>", "()V"⟩
abbrev cX10_hall : ByteArray := prog_1_method_2_code
def yX10_hall : MethodName := ⟨RX10, "hall", "(II)I"⟩
abbrev cX10_square : ByteArray := prog_1_method_3_code
def yX10_square : MethodName := ⟨RX10, "square", "(III)I"⟩
abbrev cX10_ofSquare : ByteArray := prog_1_method_4_code
def yX10_ofSquare : MethodName := ⟨RX10, "ofSquare", "(II)I"⟩
abbrev cX10_as : ByteArray := prog_1_method_5_code
def yX10_as : MethodName := ⟨RX10, "as", "(II)I"⟩
abbrev cX10_hand : ByteArray := prog_1_method_6_code
def yX10_hand : MethodName := ⟨RX10, "hand", "(I)I"⟩
abbrev cX10_slants : ByteArray := prog_1_method_7_code
def yX10_slants : MethodName := ⟨RX10, "slants", "()I"⟩
abbrev cX10_let : ByteArray := prog_1_method_8_code
def yX10_let : MethodName := ⟨RX10, "let", "(I)I"⟩
abbrev cX10_out : ByteArray := prog_1_method_9_code
def yX10_out : MethodName := ⟨RX10, "out", "(II)I"⟩
abbrev cX10_way : ByteArray := prog_1_method_10_code
def yX10_way : MethodName := ⟨RX10, "way", "(II)I"⟩
abbrev cX10_undo : ByteArray := prog_1_method_11_code
def yX10_undo : MethodName := ⟨RX10, "undo", "(I)I"⟩
abbrev cX10_feed : ByteArray := prog_1_method_12_code
def yX10_feed : MethodName := ⟨RX10, "feed", "(JI)I"⟩
abbrev cX10_text : ByteArray := prog_1_method_13_code
def yX10_text : MethodName := ⟨RX10, "text", "(I)I"⟩
abbrev cX10_law : ByteArray := prog_1_method_14_code
def yX10_law : MethodName := ⟨RX10, "law", "(IIII)I"⟩
abbrev cX10_round : ByteArray := prog_1_method_15_code
def yX10_round : MethodName := ⟨RX10, "round", "(I)I"⟩
abbrev cX10_back : ByteArray := prog_1_method_16_code
def yX10_back : MethodName := ⟨RX10, "back", "(I)I"⟩
abbrev cX10_throne : ByteArray := prog_1_method_17_code
def yX10_throne : MethodName := ⟨RX10, "throne", "(III)I"⟩
abbrev cX10_had : ByteArray := prog_1_method_18_code
def yX10_had : MethodName := ⟨RX10, "had", "()I"⟩
abbrev cX10_odds : ByteArray := prog_1_method_19_code
def yX10_odds : MethodName := ⟨RX10, "odds", "(IIII)J"⟩
abbrev cX10_fits : ByteArray := prog_1_method_20_code
def yX10_fits : MethodName := ⟨RX10, "fits", "(II)I"⟩
abbrev cX10_tells : ByteArray := prog_1_method_21_code
def yX10_tells : MethodName := ⟨RX10, "tells", "(III)I"⟩
abbrev cX10_longest : ByteArray := prog_1_method_22_code
def yX10_longest : MethodName := ⟨RX10, "longest", "(I)I"⟩
abbrev cX10_days : ByteArray := prog_1_method_23_code
def yX10_days : MethodName := ⟨RX10, "days", "(I)I"⟩
abbrev cX10_seed : ByteArray := prog_1_method_24_code
def yX10_seed : MethodName := ⟨RX10, "seed", "(I)I"⟩
abbrev cX10_voice : ByteArray := prog_1_method_25_code
def yX10_voice : MethodName := ⟨RX10, "voice", "(III)I"⟩
abbrev cX10_trace : ByteArray := prog_1_method_26_code
def yX10_trace : MethodName := ⟨RX10, "trace", "(I)I"⟩
abbrev cX10_sheet : ByteArray := prog_1_method_27_code
def yX10_sheet : MethodName := ⟨RX10, "sheet", "(III)I"⟩
abbrev cX10_put : ByteArray := prog_1_method_28_code
def yX10_put : MethodName := ⟨RX10, "put", "(III)I"⟩
abbrev cX10_move : ByteArray := prog_1_method_29_code
def yX10_move : MethodName := ⟨RX10, "move", "(IIIII)I"⟩
abbrev cX10_lets : ByteArray := prog_1_method_30_code
def yX10_lets : MethodName := ⟨RX10, "lets", "(I)I"⟩
abbrev cX10_judge : ByteArray := prog_1_method_31_code
def yX10_judge : MethodName := ⟨RX10, "judge", "(I)I"⟩
abbrev cX10_image : ByteArray := prog_1_method_32_code
def yX10_image : MethodName := ⟨RX10, "image", "()I"⟩
abbrev cX10_restore : ByteArray := prog_1_method_33_code
def yX10_restore : MethodName := ⟨RX10, "restore", "()I"⟩
abbrev cX10_tell : ByteArray := prog_1_method_34_code
def yX10_tell : MethodName := ⟨RX10, "tell", "(I)I"⟩
abbrev cX10_check : ByteArray := prog_1_method_35_code
def yX10_check : MethodName := ⟨RX10, "check", "()I"⟩
abbrev cX10_count : ByteArray := prog_1_method_36_code
def yX10_count : MethodName := ⟨RX10, "count", "(I)I"⟩
abbrev cX10_told : ByteArray := prog_1_method_37_code
def yX10_told : MethodName := ⟨RX10, "told", "(I)I"⟩
abbrev cX10_fail : ByteArray := prog_1_method_38_code
def yX10_fail : MethodName := ⟨RX10, "fail", "(I)I"⟩
abbrev cX10_hasSheet : ByteArray := prog_1_method_39_code
def yX10_hasSheet : MethodName := ⟨RX10, "hasSheet", "(I)Z"⟩
abbrev cX10_within : ByteArray := prog_1_method_40_code
def yX10_within : MethodName := ⟨RX10, "within", "(III)Z"⟩
abbrev cX10_held : ByteArray := prog_1_method_41_code
def yX10_held : MethodName := ⟨RX10, "held", "(III)I"⟩
abbrev cX10_quotient : ByteArray := prog_1_method_42_code
def yX10_quotient : MethodName := ⟨RX10, "quotient", "(II)I"⟩
abbrev cX10_rest : ByteArray := prog_1_method_43_code
def yX10_rest : MethodName := ⟨RX10, "rest", "(II)I"⟩
def RX11 : String := "TurnedBeamModel"
def TX11 : u_T := fun k => match k with
  | 0 => ("TurnedBeamModel", "row", "[I", true)
  | 1 => ("TurnedBeamModel", "kept", "[I", true)
  | 2 => ("TurnedBeamModel", "tried", "[I", true)
  | 3 => ("TurnedBeamModel", "before", "[I", true)
  | 4 => ("TurnedBeamModel", "isKept", "Z", false)
  | 5 => ("TurnedBeamModel", "images", "I", false)
  | 6 => ("TurnedBeamModel", "found", "[I", true)
  | 7 => ("TurnedBeamModel", "atRow", "I", false)
  | 8 => ("TurnedBeamModel", "atColumn", "I", false)
  | 9 => ("TurnedBeamModel", "way", "I", false)
  | 10 => ("TurnedBeamModel", "steps", "I", false)
  | 11 => ("TurnedBeamModel", "throwsMany", "I", false)
  | 12 => ("TurnedBeamModel", "wanted", "I", false)
  | 13 => ("TurnedBeamModel", "wantedStep", "I", false)
  | 14 => ("TurnedBeamModel", "squareThere", "I", false)
  | 15 => ("TurnedBeamModel", "isMet", "Z", false)
  | 16 => ("TurnedBeamModel", "use", "I", false)
  | 17 => ("TurnedBeamModel", "at", "I", false)
  | 18 => ("TurnedBeamModel", "end", "I", false)
  | 19 => ("TurnedBeamModel", "open", "I", false)
  | 20 => ("TurnedBeamModel", "namedA", "I", false)
  | 21 => ("TurnedBeamModel", "namedB", "I", false)
  | 22 => ("TurnedBeamModel", "namedC", "I", false)
  | 23 => ("TurnedBeamModel", "good", "Z", false)
  | 24 => ("TurnedBeamModel", "first", "[I", true)
  | 25 => ("TurnedBeamModel", "ahead", "[I", true)
  | 26 => ("TurnedBeamModel", "handsMany", "I", false)
  | 27 => ("TurnedBeamModel", "handsWhere", "I", false)
  | 28 => ("TurnedBeamModel", "handsCost", "I", false)
  | 29 => ("TurnedBeamModel", "metSlants", "[I", true)
  | 30 => ("TurnedBeamModel", "metTimes", "[J", true)
  | 31 => ("TurnedBeamModel", "metMany", "I", false)
  | 32 => ("TurnedBeamModel", "unknown", "[I", true)
  | 33 => ("TurnedBeamModel", "unknownMany", "I", false)
  | 34 => ("TurnedBeamModel", "bitsOf", "[I", true)
  | 35 => ("TurnedBeamModel", "sizeOf", "[I", true)
  | 36 => ("TurnedBeamModel", "sheets", "[I", true)
  | 37 => ("TurnedBeamModel", "moved", "[I", true)
  | 38 => ("TurnedBeamModel", "outs", "[I", true)
  | 39 => ("TurnedBeamModel", "traced", "[I", true)
  | 40 => ("TurnedBeamModel", "tracedMany", "I", false)
  | 41 => ("TurnedBeamModel", "voiceKind", "I", false)
  | 42 => ("TurnedBeamModel", "voiceN", "I", false)
  | _ => ("TurnedBeamModel", "voiceM", "I", false)
def tyX11 : Nat → FieldType := fun k => match k with
  | 0 => .array .int
  | 1 => .array .int
  | 2 => .array .int
  | 3 => .array .int
  | 4 => .boolean
  | 5 => .int
  | 6 => .array .int
  | 7 => .int
  | 8 => .int
  | 9 => .int
  | 10 => .int
  | 11 => .int
  | 12 => .int
  | 13 => .int
  | 14 => .int
  | 15 => .boolean
  | 16 => .int
  | 17 => .int
  | 18 => .int
  | 19 => .int
  | 20 => .int
  | 21 => .int
  | 22 => .int
  | 23 => .boolean
  | 24 => .array .int
  | 25 => .array .int
  | 26 => .int
  | 27 => .int
  | 28 => .int
  | 29 => .array .int
  | 30 => .array .long
  | 31 => .int
  | 32 => .array .int
  | 33 => .int
  | 34 => .array .int
  | 35 => .array .int
  | 36 => .array .int
  | 37 => .array .int
  | 38 => .array .int
  | 39 => .array .int
  | 40 => .int
  | 41 => .int
  | 42 => .int
  | _ => .int
abbrev wsX110 : List Cond := u_ws RX11 TX11 44
theorem nmX11 : ∀ a, a < 44 → ∀ b, b < 44 → a ≠ b → (TX11 a).2.1 ≠ (TX11 b).2.1 := by decide +kernel
theorem tyX11_ok : ∀ k, k < 44 → parseFieldDescriptor (TX11 k).2.2.1 = some (tyX11 k) := by decide +kernel
abbrev cX11_init : ByteArray := prog_13_method_1_code
def yX11_init : MethodName := ⟨RX11, "<init>", "()V"⟩
abbrev cX11_in : ByteArray := prog_13_method_2_code
def yX11_in : MethodName := ⟨RX11, "in", "(III)Z"⟩
abbrev cX11_errs : ByteArray := prog_13_method_3_code
def yX11_errs : MethodName := ⟨RX11, "errs", "(I)I"⟩
abbrev cX11_held : ByteArray := prog_13_method_4_code
def yX11_held : MethodName := ⟨RX11, "held", "(III)I"⟩
abbrev cX11_moveAll : ByteArray := prog_13_method_5_code
def yX11_moveAll : MethodName := ⟨RX11, "moveAll", "([I[I)V"⟩
abbrev cX11_many : ByteArray := prog_13_method_6_code
def yX11_many : MethodName := ⟨RX11, "many", "()I"⟩
abbrev cX11_windows : ByteArray := prog_13_method_7_code
def yX11_windows : MethodName := ⟨RX11, "windows", "()I"⟩
abbrev cX11_isSquare : ByteArray := prog_13_method_8_code
def yX11_isSquare : MethodName := ⟨RX11, "isSquare", "(I)Z"⟩
abbrev cX11_isWindow : ByteArray := prog_13_method_9_code
def yX11_isWindow : MethodName := ⟨RX11, "isWindow", "(I)Z"⟩
abbrev cX11_its : ByteArray := prog_13_method_10_code
def yX11_its : MethodName := ⟨RX11, "its", "(II)I"⟩
abbrev cX11_puts : ByteArray := prog_13_method_11_code
def yX11_puts : MethodName := ⟨RX11, "puts", "(III)V"⟩
abbrev cX11_hall : ByteArray := prog_13_method_12_code
def yX11_hall : MethodName := ⟨RX11, "hall", "(II)I"⟩
abbrev cX11_square : ByteArray := prog_13_method_13_code
def yX11_square : MethodName := ⟨RX11, "square", "(III)I"⟩
abbrev cX11_doesThrow : ByteArray := prog_13_method_14_code
def yX11_doesThrow : MethodName := ⟨RX11, "doesThrow", "(I)Z"⟩
abbrev cX11_doesStop : ByteArray := prog_13_method_15_code
def yX11_doesStop : MethodName := ⟨RX11, "doesStop", "(I)Z"⟩
abbrev cX11_canTurn : ByteArray := prog_13_method_16_code
def yX11_canTurn : MethodName := ⟨RX11, "canTurn", "(I)Z"⟩
abbrev cX11_costOf : ByteArray := prog_13_method_17_code
def yX11_costOf : MethodName := ⟨RX11, "costOf", "(I)I"⟩
abbrev cX11_ofSquare : ByteArray := prog_13_method_18_code
def yX11_ofSquare : MethodName := ⟨RX11, "ofSquare", "(II)I"⟩
abbrev cX11_above : ByteArray := prog_13_method_19_code
def yX11_above : MethodName := ⟨RX11, "above", "(I)I"⟩
abbrev cX11_as : ByteArray := prog_13_method_20_code
def yX11_as : MethodName := ⟨RX11, "as", "(II)I"⟩
abbrev cX11_takes : ByteArray := prog_13_method_21_code
def yX11_takes : MethodName := ⟨RX11, "takes", "(I)V"⟩
abbrev cX11_flips : ByteArray := prog_13_method_22_code
def yX11_flips : MethodName := ⟨RX11, "flips", "(I)V"⟩
abbrev cX11_hands : ByteArray := prog_13_method_23_code
def yX11_hands : MethodName := ⟨RX11, "hands", "(I)V"⟩
abbrev cX11_hand : ByteArray := prog_13_method_24_code
def yX11_hand : MethodName := ⟨RX11, "hand", "(I)I"⟩
abbrev cX11_slantBits : ByteArray := prog_13_method_25_code
def yX11_slantBits : MethodName := ⟨RX11, "slantBits", "()I"⟩
abbrev cX11_slants : ByteArray := prog_13_method_26_code
def yX11_slants : MethodName := ⟨RX11, "slants", "()I"⟩
abbrev cX11_enters : ByteArray := prog_13_method_27_code
def yX11_enters : MethodName := ⟨RX11, "enters", "(I)V"⟩
abbrev cX11_goesOn : ByteArray := prog_13_method_28_code
def yX11_goesOn : MethodName := ⟨RX11, "goesOn", "()V"⟩
abbrev cX11_isOut : ByteArray := prog_13_method_29_code
def yX11_isOut : MethodName := ⟨RX11, "isOut", "()Z"⟩
abbrev cX11_windowThere : ByteArray := prog_13_method_30_code
def yX11_windowThere : MethodName := ⟨RX11, "windowThere", "()I"⟩
abbrev cX11_thrown : ByteArray := prog_13_method_31_code
def yX11_thrown : MethodName := ⟨RX11, "thrown", "(II)I"⟩
abbrev cX11_turns : ByteArray := prog_13_method_32_code
def yX11_turns : MethodName := ⟨RX11, "turns", "(I)V"⟩
abbrev cX11_comesInto : ByteArray := prog_13_method_33_code
def yX11_comesInto : MethodName := ⟨RX11, "comesInto", "(I)Z"⟩
abbrev cX11_goes : ByteArray := prog_13_method_34_code
def yX11_goes : MethodName := ⟨RX11, "goes", "(I)I"⟩
abbrev cX11_letIn : ByteArray := prog_13_method_35_code
def yX11_letIn : MethodName := ⟨RX11, "letIn", "(I)I"⟩
abbrev cX11_let : ByteArray := prog_13_method_36_code
def yX11_let : MethodName := ⟨RX11, "let", "(I)I"⟩
abbrev cX11_bits : ByteArray := prog_13_method_37_code
def yX11_bits : MethodName := ⟨RX11, "bits", "(I)I"⟩
abbrev cX11_out : ByteArray := prog_13_method_38_code
def yX11_out : MethodName := ⟨RX11, "out", "(II)I"⟩
abbrev cX11_way : ByteArray := prog_13_method_39_code
def yX11_way : MethodName := ⟨RX11, "way", "(II)I"⟩
abbrev cX11_comesBack : ByteArray := prog_13_method_40_code
def yX11_comesBack : MethodName := ⟨RX11, "comesBack", "(II)V"⟩
abbrev cX11_undo : ByteArray := prog_13_method_41_code
def yX11_undo : MethodName := ⟨RX11, "undo", "(I)I"⟩
abbrev cX11_byteAt : ByteArray := prog_13_method_42_code
def yX11_byteAt : MethodName := ⟨RX11, "byteAt", "(I)I"⟩
abbrev cX11_isDigit : ByteArray := prog_13_method_43_code
def yX11_isDigit : MethodName := ⟨RX11, "isDigit", "(I)Z"⟩
abbrev cX11_fails : ByteArray := prog_13_method_44_code
def yX11_fails : MethodName := ⟨RX11, "fails", "()I"⟩
abbrev cX11_number : ByteArray := prog_13_method_45_code
def yX11_number : MethodName := ⟨RX11, "number", "()I"⟩
abbrev cX11_named : ByteArray := prog_13_method_46_code
def yX11_named : MethodName := ⟨RX11, "named", "(I)I"⟩
abbrev cX11_factor : ByteArray := prog_13_method_47_code
def yX11_factor : MethodName := ⟨RX11, "factor", "()I"⟩
abbrev cX11_product : ByteArray := prog_13_method_48_code
def yX11_product : MethodName := ⟨RX11, "product", "()I"⟩
abbrev cX11_sum : ByteArray := prog_13_method_49_code
def yX11_sum : MethodName := ⟨RX11, "sum", "()I"⟩
abbrev cX11_compared : ByteArray := prog_13_method_50_code
def yX11_compared : MethodName := ⟨RX11, "compared", "()I"⟩
abbrev cX11_both : ByteArray := prog_13_method_51_code
def yX11_both : MethodName := ⟨RX11, "both", "()I"⟩
abbrev cX11_whole : ByteArray := prog_13_method_52_code
def yX11_whole : MethodName := ⟨RX11, "whole", "()I"⟩
abbrev cX11_walks : ByteArray := prog_13_method_53_code
def yX11_walks : MethodName := ⟨RX11, "walks", "(IIII)I"⟩
abbrev cX11_lawOf : ByteArray := prog_13_method_54_code
def yX11_lawOf : MethodName := ⟨RX11, "lawOf", "(IIII)I"⟩
abbrev cX11_law : ByteArray := prog_13_method_55_code
def yX11_law : MethodName := ⟨RX11, "law", "(IIII)I"⟩
abbrev cX11_feed : ByteArray := prog_13_method_56_code
def yX11_feed : MethodName := ⟨RX11, "feed", "(JI)I"⟩
abbrev cX11_text : ByteArray := prog_13_method_57_code
def yX11_text : MethodName := ⟨RX11, "text", "(I)I"⟩
abbrev cX11_standsAs : ByteArray := prog_13_method_58_code
def yX11_standsAs : MethodName := ⟨RX11, "standsAs", "([I)Z"⟩
abbrev cX11_round : ByteArray := prog_13_method_59_code
def yX11_round : MethodName := ⟨RX11, "round", "(I)I"⟩
abbrev cX11_saves : ByteArray := prog_13_method_60_code
def yX11_saves : MethodName := ⟨RX11, "saves", "(I)V"⟩
abbrev cX11_loads : ByteArray := prog_13_method_61_code
def yX11_loads : MethodName := ⟨RX11, "loads", "(I)V"⟩
abbrev cX11_bringsBack : ByteArray := prog_13_method_62_code
def yX11_bringsBack : MethodName := ⟨RX11, "bringsBack", "(II)Z"⟩
abbrev cX11_back : ByteArray := prog_13_method_63_code
def yX11_back : MethodName := ⟨RX11, "back", "(I)I"⟩
abbrev cX11_lights : ByteArray := prog_13_method_64_code
def yX11_lights : MethodName := ⟨RX11, "lights", "(IIII)Z"⟩
abbrev cX11_findHands : ByteArray := prog_13_method_65_code
def yX11_findHands : MethodName := ⟨RX11, "findHands", "(II)V"⟩
abbrev cX11_throne : ByteArray := prog_13_method_66_code
def yX11_throne : MethodName := ⟨RX11, "throne", "(III)I"⟩
abbrev cX11_timeBits : ByteArray := prog_13_method_67_code
def yX11_timeBits : MethodName := ⟨RX11, "timeBits", "()J"⟩
abbrev cX11_meets : ByteArray := prog_13_method_68_code
def yX11_meets : MethodName := ⟨RX11, "meets", "()V"⟩
abbrev cX11_standsAsMet : ByteArray := prog_13_method_69_code
def yX11_standsAsMet : MethodName := ⟨RX11, "standsAsMet", "(I)V"⟩
abbrev cX11_had : ByteArray := prog_13_method_70_code
def yX11_had : MethodName := ⟨RX11, "had", "()I"⟩
abbrev cX11_findUnknown : ByteArray := prog_13_method_71_code
def yX11_findUnknown : MethodName := ⟨RX11, "findUnknown", "(I)V"⟩
abbrev cX11_slantsAre : ByteArray := prog_13_method_72_code
def yX11_slantsAre : MethodName := ⟨RX11, "slantsAre", "(I)V"⟩
abbrev cX11_isMask : ByteArray := prog_13_method_73_code
def yX11_isMask : MethodName := ⟨RX11, "isMask", "(I)Z"⟩
abbrev cX11_isOutThere : ByteArray := prog_13_method_74_code
def yX11_isOutThere : MethodName := ⟨RX11, "isOutThere", "(I)Z"⟩
abbrev cX11_divisor : ByteArray := prog_13_method_75_code
def yX11_divisor : MethodName := ⟨RX11, "divisor", "(II)I"⟩
abbrev cX11_odds : ByteArray := prog_13_method_76_code
def yX11_odds : MethodName := ⟨RX11, "odds", "(IIII)J"⟩
abbrev cX11_isSheet : ByteArray := prog_13_method_77_code
def yX11_isSheet : MethodName := ⟨RX11, "isSheet", "(I)Z"⟩
abbrev cX11_areLetters : ByteArray := prog_13_method_78_code
def yX11_areLetters : MethodName := ⟨RX11, "areLetters", "(I)Z"⟩
abbrev cX11_cameSo : ByteArray := prog_13_method_79_code
def yX11_cameSo : MethodName := ⟨RX11, "cameSo", "(I)Z"⟩
abbrev cX11_findFits : ByteArray := prog_13_method_80_code
def yX11_findFits : MethodName := ⟨RX11, "findFits", "(I)I"⟩
abbrev cX11_fits : ByteArray := prog_13_method_81_code
def yX11_fits : MethodName := ⟨RX11, "fits", "(II)I"⟩
abbrev cX11_tells : ByteArray := prog_13_method_82_code
def yX11_tells : MethodName := ⟨RX11, "tells", "(III)I"⟩
abbrev cX11_longest : ByteArray := prog_13_method_83_code
def yX11_longest : MethodName := ⟨RX11, "longest", "(I)I"⟩
abbrev cX11_drawn : ByteArray := prog_13_method_84_code
def yX11_drawn : MethodName := ⟨RX11, "drawn", "(I)I"⟩
abbrev cX11_days : ByteArray := prog_13_method_85_code
def yX11_days : MethodName := ⟨RX11, "days", "(I)I"⟩
abbrev cX11_seed : ByteArray := prog_13_method_86_code
def yX11_seed : MethodName := ⟨RX11, "seed", "(I)I"⟩
abbrev cX11_ran : ByteArray := prog_13_method_87_code
def yX11_ran : MethodName := ⟨RX11, "ran", "(I)V"⟩
abbrev cX11_casts : ByteArray := prog_13_method_88_code
def yX11_casts : MethodName := ⟨RX11, "casts", "(II)I"⟩
abbrev cX11_lightsBy : ByteArray := prog_13_method_89_code
def yX11_lightsBy : MethodName := ⟨RX11, "lightsBy", "(II)I"⟩
abbrev cX11_turnsBy : ByteArray := prog_13_method_90_code
def yX11_turnsBy : MethodName := ⟨RX11, "turnsBy", "(II)I"⟩
abbrev cX11_tellsBy : ByteArray := prog_13_method_91_code
def yX11_tellsBy : MethodName := ⟨RX11, "tellsBy", "(II)I"⟩
abbrev cX11_voice : ByteArray := prog_13_method_92_code
def yX11_voice : MethodName := ⟨RX11, "voice", "(III)I"⟩
abbrev cX11_trace : ByteArray := prog_13_method_93_code
def yX11_trace : MethodName := ⟨RX11, "trace", "(I)I"⟩
abbrev cX11_narrow : ByteArray := prog_13_method_94_code
def yX11_narrow : MethodName := ⟨RX11, "narrow", "(II)I"⟩
abbrev cX11_sheet : ByteArray := prog_13_method_95_code
def yX11_sheet : MethodName := ⟨RX11, "sheet", "(III)I"⟩
abbrev cX11_put : ByteArray := prog_13_method_96_code
def yX11_put : MethodName := ⟨RX11, "put", "(III)I"⟩
abbrev cX11_move : ByteArray := prog_13_method_97_code
def yX11_move : MethodName := ⟨RX11, "move", "(IIIII)I"⟩
abbrev cX11_lets : ByteArray := prog_13_method_98_code
def yX11_lets : MethodName := ⟨RX11, "lets", "(I)I"⟩
abbrev cX11_judge : ByteArray := prog_13_method_99_code
def yX11_judge : MethodName := ⟨RX11, "judge", "(I)I"⟩
abbrev cX11_image : ByteArray := prog_13_method_100_code
def yX11_image : MethodName := ⟨RX11, "image", "()I"⟩
abbrev cX11_restore : ByteArray := prog_13_method_101_code
def yX11_restore : MethodName := ⟨RX11, "restore", "()I"⟩
abbrev cX11_tell : ByteArray := prog_13_method_102_code
def yX11_tell : MethodName := ⟨RX11, "tell", "(I)I"⟩
abbrev cX11_check : ByteArray := prog_13_method_103_code
def yX11_check : MethodName := ⟨RX11, "check", "()I"⟩
abbrev cX11_mirrors : ByteArray := prog_13_method_104_code
def yX11_mirrors : MethodName := ⟨RX11, "mirrors", "()I"⟩
abbrev cX11_litAll : ByteArray := prog_13_method_105_code
def yX11_litAll : MethodName := ⟨RX11, "litAll", "()I"⟩
abbrev cX11_count : ByteArray := prog_13_method_106_code
def yX11_count : MethodName := ⟨RX11, "count", "(I)I"⟩
abbrev cX11_told : ByteArray := prog_13_method_107_code
def yX11_told : MethodName := ⟨RX11, "told", "(I)I"⟩
def RJ6 : String := "java/lang/Integer"
def TJ6 : u_T := fun k => match k with
  | _ => ("", "", "", false)
def tyJ6 : Nat → FieldType := fun k => match k with
  | _ => .int
abbrev wsJ60 : List Cond := u_ws RJ6 TJ6 0
theorem nmJ6 : ∀ a, a < 0 → ∀ b, b < 0 → a ≠ b → (TJ6 a).2.1 ≠ (TJ6 b).2.1 := by decide +kernel
theorem tyJ6_ok : ∀ k, k < 0 → parseFieldDescriptor (TJ6 k).2.2.1 = some (tyJ6 k) := by decide +kernel
abbrev cJ6_bitCount_0f7a4 : ByteArray := prog_14_method_49_code
def yJ6_bitCount_0f7a4 : MethodName := ⟨RJ6, "bitCount", "(I)I"⟩
def RJ9 : String := "java/lang/Math"
def TJ9 : u_T := fun k => match k with
  | _ => ("", "", "", false)
def tyJ9 : Nat → FieldType := fun k => match k with
  | _ => .int
abbrev wsJ90 : List Cond := u_ws RJ9 TJ9 0
theorem nmJ9 : ∀ a, a < 0 → ∀ b, b < 0 → a ≠ b → (TJ9 a).2.1 ≠ (TJ9 b).2.1 := by decide +kernel
theorem tyJ9_ok : ∀ k, k < 0 → parseFieldDescriptor (TJ9 k).2.2.1 = some (tyJ9 k) := by decide +kernel
abbrev cJ9_max_7cf53 : ByteArray := prog_15_method_65_code
def yJ9_max_7cf53 : MethodName := ⟨RJ9, "max", "(II)I"⟩
abbrev cJ9_min_7cf53 : ByteArray := prog_15_method_69_code
def yJ9_min_7cf53 : MethodName := ⟨RJ9, "min", "(II)I"⟩
def RJ10 : String := "java/lang/System"
def TJ10 : u_T := fun k => match k with
  | _ => ("", "", "", false)
def tyJ10 : Nat → FieldType := fun k => match k with
  | _ => .int
abbrev wsJ100 : List Cond := u_ws RJ10 TJ10 0
theorem nmJ10 : ∀ a, a < 0 → ∀ b, b < 0 → a ≠ b → (TJ10 a).2.1 ≠ (TJ10 b).2.1 := by decide +kernel
theorem tyJ10_ok : ∀ k, k < 0 → parseFieldDescriptor (TJ10 k).2.2.1 = some (tyJ10 k) := by decide +kernel
def RJ7 : String := "java/util/Arrays"
def TJ7 : u_T := fun k => match k with
  | _ => ("", "", "", false)
def tyJ7 : Nat → FieldType := fun k => match k with
  | _ => .int
abbrev wsJ70 : List Cond := u_ws RJ7 TJ7 0
theorem nmJ7 : ∀ a, a < 0 → ∀ b, b < 0 → a ≠ b → (TJ7 a).2.1 ≠ (TJ7 b).2.1 := by decide +kernel
theorem tyJ7_ok : ∀ k, k < 0 → parseFieldDescriptor (TJ7 k).2.2.1 = some (tyJ7 k) := by decide +kernel
abbrev cJ7_fill_53178 : ByteArray := prog_17_method_103_code
def yJ7_fill_53178 : MethodName := ⟨RJ7, "fill", "([II)V"⟩
def RL : String := "TurnedBeamLaw"
abbrev cL_law : ByteArray := code
def yL_law : MethodName := ⟨RL, "law", "([I)Z"⟩
abbrev vwCl : List vw_C := [(RX0, TX0, 8), (RX1, TX1, 11), (RX2, TX2, 10), (RX3, TX3, 7), (RX4, TX4, 7), (RX5, TX5, 4), (RX6, TX6, 7), (RX7, TX7, 3), (RX8, TX8, 5), (RX9, TX9, 10), (RX10, TX10, 12), (RX11, TX11, 44)]
end
section
theorem dX0_init_0 : decode cX0_init 0 = .ok (.aload_n 0, 1) := by decide +kernel
theorem dX0_init_1 : decode cX0_init 1 = .ok (.invokespecial 1, 3) := by decide +kernel
theorem dX0_init_4 : decode cX0_init 4 = .ok (.aload_n 0, 1) := by decide +kernel
theorem dX0_init_5 : decode cX0_init 5 = .ok (.iconst 0, 1) := by decide +kernel
theorem dX0_init_6 : decode cX0_init 6 = .ok (.putfield 7, 3) := by decide +kernel
theorem dX0_init_9 : decode cX0_init 9 = .ok (.aload_n 0, 1) := by decide +kernel
theorem dX0_init_10 : decode cX0_init 10 = .ok (.iconst 0, 1) := by decide +kernel
theorem dX0_init_11 : decode cX0_init 11 = .ok (.putfield 13, 3) := by decide +kernel
theorem dX0_init_14 : decode cX0_init 14 = .ok (.aload_n 0, 1) := by decide +kernel
theorem dX0_init_15 : decode cX0_init 15 = .ok (.iconst 0, 1) := by decide +kernel
theorem dX0_init_16 : decode cX0_init 16 = .ok (.putfield 16, 3) := by decide +kernel
theorem dX0_init_19 : decode cX0_init 19 = .ok (.aload_n 0, 1) := by decide +kernel
theorem dX0_init_20 : decode cX0_init 20 = .ok (.iconst 0, 1) := by decide +kernel
theorem dX0_init_21 : decode cX0_init 21 = .ok (.putfield 19, 3) := by decide +kernel
theorem dX0_init_24 : decode cX0_init 24 = .ok (.aload_n 0, 1) := by decide +kernel
theorem dX0_init_25 : decode cX0_init 25 = .ok (.iconst 0, 1) := by decide +kernel
theorem dX0_init_26 : decode cX0_init 26 = .ok (.putfield 22, 3) := by decide +kernel
theorem dX0_init_29 : decode cX0_init 29 = .ok (.aload_n 0, 1) := by decide +kernel
theorem dX0_init_30 : decode cX0_init 30 = .ok (.iconst 0, 1) := by decide +kernel
theorem dX0_init_31 : decode cX0_init 31 = .ok (.putfield 25, 3) := by decide +kernel
theorem dX0_init_34 : decode cX0_init 34 = .ok (.aload_n 0, 1) := by decide +kernel
theorem dX0_init_35 : decode cX0_init 35 = .ok (.iconst (-1), 1) := by decide +kernel
theorem dX0_init_36 : decode cX0_init 36 = .ok (.putfield 28, 3) := by decide +kernel
theorem dX0_init_39 : decode cX0_init 39 = .ok (.aload_n 0, 1) := by decide +kernel
theorem dX0_init_40 : decode cX0_init 40 = .ok (.iconst (-1), 1) := by decide +kernel
theorem dX0_init_41 : decode cX0_init 41 = .ok (.putfield 31, 3) := by decide +kernel
theorem dX0_init_44 : decode cX0_init 44 = .ok (.return_, 1) := by decide +kernel
theorem dX0_run_0 : decode cX0_run 0 = .ok (.aload_n 0, 1) := by decide +kernel
theorem dX0_run_1 : decode cX0_run 1 = .ok (.aload_n 1, 1) := by decide +kernel
theorem dX0_run_2 : decode cX0_run 2 = .ok (.iload_n 2, 1) := by decide +kernel
theorem dX0_run_3 : decode cX0_run 3 = .ok (.invokevirtual 34, 3) := by decide +kernel
theorem dX0_run_6 : decode cX0_run 6 = .ok (.aload_n 0, 1) := by decide +kernel
theorem dX0_run_7 : decode cX0_run 7 = .ok (.iconst 0, 1) := by decide +kernel
theorem dX0_run_8 : decode cX0_run 8 = .ok (.putfield 22, 3) := by decide +kernel
theorem dX0_run_11 : decode cX0_run 11 = .ok (.aload_n 0, 1) := by decide +kernel
theorem dX0_run_12 : decode cX0_run 12 = .ok (.iconst 0, 1) := by decide +kernel
theorem dX0_run_13 : decode cX0_run 13 = .ok (.putfield 25, 3) := by decide +kernel
theorem dX0_run_16 : decode cX0_run 16 = .ok (.iconst 0, 1) := by decide +kernel
theorem dX0_run_17 : decode cX0_run 17 = .ok (.istore_n 3, 1) := by decide +kernel
theorem dX0_run_18 : decode cX0_run 18 = .ok (.iload_n 3, 1) := by decide +kernel
theorem dX0_run_19 : decode cX0_run 19 = .ok (.sipush 5000, 3) := by decide +kernel
theorem dX0_run_22 : decode cX0_run 22 = .ok (.if_icmp .ge 137, 3) := by decide +kernel
theorem dX0_run_25 : decode cX0_run 25 = .ok (.aload_n 0, 1) := by decide +kernel
theorem dX0_run_26 : decode cX0_run 26 = .ok (.getfield 7, 3) := by decide +kernel
theorem dX0_run_29 : decode cX0_run 29 = .ok (.aload_n 1, 1) := by decide +kernel
theorem dX0_run_30 : decode cX0_run 30 = .ok (.getfield 38, 3) := by decide +kernel
theorem dX0_run_33 : decode cX0_run 33 = .ok (.imul, 1) := by decide +kernel
theorem dX0_run_34 : decode cX0_run 34 = .ok (.aload_n 0, 1) := by decide +kernel
theorem dX0_run_35 : decode cX0_run 35 = .ok (.getfield 13, 3) := by decide +kernel
theorem dX0_run_38 : decode cX0_run 38 = .ok (.iadd, 1) := by decide +kernel
theorem dX0_run_39 : decode cX0_run 39 = .ok (.istore 4, 2) := by decide +kernel
theorem dX0_run_41 : decode cX0_run 41 = .ok (.iload_n 3, 1) := by decide +kernel
theorem dX0_run_42 : decode cX0_run 42 = .ok (.aload_n 0, 1) := by decide +kernel
theorem dX0_run_43 : decode cX0_run 43 = .ok (.getfield 28, 3) := by decide +kernel
theorem dX0_run_46 : decode cX0_run 46 = .ok (.if_icmp .ne 9, 3) := by decide +kernel
theorem dX0_run_49 : decode cX0_run 49 = .ok (.aload_n 0, 1) := by decide +kernel
theorem dX0_run_50 : decode cX0_run 50 = .ok (.iload 4, 2) := by decide +kernel
theorem dX0_run_52 : decode cX0_run 52 = .ok (.putfield 31, 3) := by decide +kernel
theorem dX0_run_55 : decode cX0_run 55 = .ok (.aload_n 0, 1) := by decide +kernel
theorem dX0_run_56 : decode cX0_run 56 = .ok (.iload_n 3, 1) := by decide +kernel
theorem dX0_run_57 : decode cX0_run 57 = .ok (.iconst 1, 1) := by decide +kernel
theorem dX0_run_58 : decode cX0_run 58 = .ok (.iadd, 1) := by decide +kernel
theorem dX0_run_59 : decode cX0_run 59 = .ok (.putfield 19, 3) := by decide +kernel
theorem dX0_run_62 : decode cX0_run 62 = .ok (.aload_n 0, 1) := by decide +kernel
theorem dX0_run_63 : decode cX0_run 63 = .ok (.dup, 1) := by decide +kernel
theorem dX0_run_64 : decode cX0_run 64 = .ok (.getfield 25, 3) := by decide +kernel
theorem dX0_run_67 : decode cX0_run 67 = .ok (.iconst 1, 1) := by decide +kernel
theorem dX0_run_68 : decode cX0_run 68 = .ok (.iload 4, 2) := by decide +kernel
theorem dX0_run_70 : decode cX0_run 70 = .ok (.ishl, 1) := by decide +kernel
theorem dX0_run_71 : decode cX0_run 71 = .ok (.ior, 1) := by decide +kernel
theorem dX0_run_72 : decode cX0_run 72 = .ok (.putfield 25, 3) := by decide +kernel
theorem dX0_run_75 : decode cX0_run 75 = .ok (.aload_n 1, 1) := by decide +kernel
theorem dX0_run_76 : decode cX0_run 76 = .ok (.iload 4, 2) := by decide +kernel
theorem dX0_run_78 : decode cX0_run 78 = .ok (.invokevirtual 43, 3) := by decide +kernel
theorem dX0_run_81 : decode cX0_run 81 = .ok (.aload_n 1, 1) := by decide +kernel
theorem dX0_run_82 : decode cX0_run 82 = .ok (.getfield 47, 3) := by decide +kernel
theorem dX0_run_85 : decode cX0_run 85 = .ok (.iload 4, 2) := by decide +kernel
theorem dX0_run_87 : decode cX0_run 87 = .ok (.iaload, 1) := by decide +kernel
theorem dX0_run_88 : decode cX0_run 88 = .ok (.istore 5, 2) := by decide +kernel
theorem dX0_run_90 : decode cX0_run 90 = .ok (.iload 5, 2) := by decide +kernel
theorem dX0_run_92 : decode cX0_run 92 = .ok (.invokestatic 51, 3) := by decide +kernel
theorem dX0_run_95 : decode cX0_run 95 = .ok (.ifCond .eq 6, 3) := by decide +kernel
theorem dX0_run_98 : decode cX0_run 98 = .ok (.bipush 100, 2) := by decide +kernel
theorem dX0_run_100 : decode cX0_run 100 = .ok (.ireturn, 1) := by decide +kernel
theorem dX0_run_101 : decode cX0_run 101 = .ok (.iload 5, 2) := by decide +kernel
theorem dX0_run_103 : decode cX0_run 103 = .ok (.invokestatic 55, 3) := by decide +kernel
theorem dX0_run_106 : decode cX0_run 106 = .ok (.ifCond .eq 29, 3) := by decide +kernel
theorem dX0_run_109 : decode cX0_run 109 = .ok (.aload_n 0, 1) := by decide +kernel
theorem dX0_run_110 : decode cX0_run 110 = .ok (.aload_n 1, 1) := by decide +kernel
theorem dX0_run_111 : decode cX0_run 111 = .ok (.iload 4, 2) := by decide +kernel
theorem dX0_run_113 : decode cX0_run 113 = .ok (.invokevirtual 58, 3) := by decide +kernel
theorem dX0_run_116 : decode cX0_run 116 = .ok (.invokevirtual 62, 3) := by decide +kernel
theorem dX0_run_119 : decode cX0_run 119 = .ok (.aload_n 0, 1) := by decide +kernel
theorem dX0_run_120 : decode cX0_run 120 = .ok (.dup, 1) := by decide +kernel
theorem dX0_run_121 : decode cX0_run 121 = .ok (.getfield 22, 3) := by decide +kernel
theorem dX0_run_124 : decode cX0_run 124 = .ok (.iconst 1, 1) := by decide +kernel
theorem dX0_run_125 : decode cX0_run 125 = .ok (.iadd, 1) := by decide +kernel
theorem dX0_run_126 : decode cX0_run 126 = .ok (.putfield 22, 3) := by decide +kernel
theorem dX0_run_129 : decode cX0_run 129 = .ok (.aload_n 1, 1) := by decide +kernel
theorem dX0_run_130 : decode cX0_run 130 = .ok (.iload 4, 2) := by decide +kernel
theorem dX0_run_132 : decode cX0_run 132 = .ok (.invokevirtual 65, 3) := by decide +kernel
theorem dX0_run_135 : decode cX0_run 135 = .ok (.aload_n 0, 1) := by decide +kernel
theorem dX0_run_136 : decode cX0_run 136 = .ok (.invokevirtual 68, 3) := by decide +kernel
theorem dX0_run_139 : decode cX0_run 139 = .ok (.aload_n 0, 1) := by decide +kernel
theorem dX0_run_140 : decode cX0_run 140 = .ok (.aload_n 1, 1) := by decide +kernel
theorem dX0_run_141 : decode cX0_run 141 = .ok (.invokevirtual 71, 3) := by decide +kernel
theorem dX0_run_144 : decode cX0_run 144 = .ok (.ifCond .eq 9, 3) := by decide +kernel
theorem dX0_run_147 : decode cX0_run 147 = .ok (.aload_n 0, 1) := by decide +kernel
theorem dX0_run_148 : decode cX0_run 148 = .ok (.aload_n 1, 1) := by decide +kernel
theorem dX0_run_149 : decode cX0_run 149 = .ok (.invokevirtual 75, 3) := by decide +kernel
theorem dX0_run_152 : decode cX0_run 152 = .ok (.ireturn, 1) := by decide +kernel
theorem dX0_run_153 : decode cX0_run 153 = .ok (.iinc 3 1, 3) := by decide +kernel
theorem dX0_run_156 : decode cX0_run 156 = .ok (.goto (-138), 3) := by decide +kernel
theorem dX0_run_159 : decode cX0_run 159 = .ok (.bipush 100, 2) := by decide +kernel
theorem dX0_run_161 : decode cX0_run 161 = .ok (.ireturn, 1) := by decide +kernel
theorem dX0_runBack_0 : decode cX0_runBack 0 = .ok (.aload_n 0, 1) := by decide +kernel
theorem dX0_runBack_1 : decode cX0_runBack 1 = .ok (.aload_n 1, 1) := by decide +kernel
theorem dX0_runBack_2 : decode cX0_runBack 2 = .ok (.iload_n 2, 1) := by decide +kernel
theorem dX0_runBack_3 : decode cX0_runBack 3 = .ok (.invokevirtual 34, 3) := by decide +kernel
theorem dX0_runBack_6 : decode cX0_runBack 6 = .ok (.iconst 0, 1) := by decide +kernel
theorem dX0_runBack_7 : decode cX0_runBack 7 = .ok (.istore_n 3, 1) := by decide +kernel
theorem dX0_runBack_8 : decode cX0_runBack 8 = .ok (.iload_n 3, 1) := by decide +kernel
theorem dX0_runBack_9 : decode cX0_runBack 9 = .ok (.sipush 5000, 3) := by decide +kernel
theorem dX0_runBack_12 : decode cX0_runBack 12 = .ok (.if_icmp .ge 93, 3) := by decide +kernel
theorem dX0_runBack_15 : decode cX0_runBack 15 = .ok (.aload_n 0, 1) := by decide +kernel
theorem dX0_runBack_16 : decode cX0_runBack 16 = .ok (.getfield 7, 3) := by decide +kernel
theorem dX0_runBack_19 : decode cX0_runBack 19 = .ok (.aload_n 1, 1) := by decide +kernel
theorem dX0_runBack_20 : decode cX0_runBack 20 = .ok (.getfield 38, 3) := by decide +kernel
theorem dX0_runBack_23 : decode cX0_runBack 23 = .ok (.imul, 1) := by decide +kernel
theorem dX0_runBack_24 : decode cX0_runBack 24 = .ok (.aload_n 0, 1) := by decide +kernel
theorem dX0_runBack_25 : decode cX0_runBack 25 = .ok (.getfield 13, 3) := by decide +kernel
theorem dX0_runBack_28 : decode cX0_runBack 28 = .ok (.iadd, 1) := by decide +kernel
theorem dX0_runBack_29 : decode cX0_runBack 29 = .ok (.istore 4, 2) := by decide +kernel
theorem dX0_runBack_31 : decode cX0_runBack 31 = .ok (.aload_n 1, 1) := by decide +kernel
theorem dX0_runBack_32 : decode cX0_runBack 32 = .ok (.getfield 47, 3) := by decide +kernel
theorem dX0_runBack_35 : decode cX0_runBack 35 = .ok (.iload 4, 2) := by decide +kernel
theorem dX0_runBack_37 : decode cX0_runBack 37 = .ok (.iaload, 1) := by decide +kernel
theorem dX0_runBack_38 : decode cX0_runBack 38 = .ok (.istore 5, 2) := by decide +kernel
theorem dX0_runBack_40 : decode cX0_runBack 40 = .ok (.iload 5, 2) := by decide +kernel
theorem dX0_runBack_42 : decode cX0_runBack 42 = .ok (.invokestatic 51, 3) := by decide +kernel
theorem dX0_runBack_45 : decode cX0_runBack 45 = .ok (.ifCond .eq 6, 3) := by decide +kernel
theorem dX0_runBack_48 : decode cX0_runBack 48 = .ok (.bipush 100, 2) := by decide +kernel
theorem dX0_runBack_50 : decode cX0_runBack 50 = .ok (.ireturn, 1) := by decide +kernel
theorem dX0_runBack_51 : decode cX0_runBack 51 = .ok (.aload_n 1, 1) := by decide +kernel
theorem dX0_runBack_52 : decode cX0_runBack 52 = .ok (.iload 4, 2) := by decide +kernel
theorem dX0_runBack_54 : decode cX0_runBack 54 = .ok (.invokevirtual 79, 3) := by decide +kernel
theorem dX0_runBack_57 : decode cX0_runBack 57 = .ok (.iload 5, 2) := by decide +kernel
theorem dX0_runBack_59 : decode cX0_runBack 59 = .ok (.invokestatic 55, 3) := by decide +kernel
theorem dX0_runBack_62 : decode cX0_runBack 62 = .ok (.ifCond .eq 19, 3) := by decide +kernel
theorem dX0_runBack_65 : decode cX0_runBack 65 = .ok (.aload_n 1, 1) := by decide +kernel
theorem dX0_runBack_66 : decode cX0_runBack 66 = .ok (.iload 4, 2) := by decide +kernel
theorem dX0_runBack_68 : decode cX0_runBack 68 = .ok (.invokevirtual 82, 3) := by decide +kernel
theorem dX0_runBack_71 : decode cX0_runBack 71 = .ok (.aload_n 0, 1) := by decide +kernel
theorem dX0_runBack_72 : decode cX0_runBack 72 = .ok (.aload_n 1, 1) := by decide +kernel
theorem dX0_runBack_73 : decode cX0_runBack 73 = .ok (.iload 4, 2) := by decide +kernel
theorem dX0_runBack_75 : decode cX0_runBack 75 = .ok (.invokevirtual 58, 3) := by decide +kernel
theorem dX0_runBack_78 : decode cX0_runBack 78 = .ok (.invokevirtual 62, 3) := by decide +kernel
theorem dX0_runBack_81 : decode cX0_runBack 81 = .ok (.aload_n 0, 1) := by decide +kernel
theorem dX0_runBack_82 : decode cX0_runBack 82 = .ok (.invokevirtual 68, 3) := by decide +kernel
theorem dX0_runBack_85 : decode cX0_runBack 85 = .ok (.aload_n 0, 1) := by decide +kernel
theorem dX0_runBack_86 : decode cX0_runBack 86 = .ok (.aload_n 1, 1) := by decide +kernel
theorem dX0_runBack_87 : decode cX0_runBack 87 = .ok (.invokevirtual 71, 3) := by decide +kernel
theorem dX0_runBack_90 : decode cX0_runBack 90 = .ok (.ifCond .eq 9, 3) := by decide +kernel
theorem dX0_runBack_93 : decode cX0_runBack 93 = .ok (.aload_n 0, 1) := by decide +kernel
theorem dX0_runBack_94 : decode cX0_runBack 94 = .ok (.aload_n 1, 1) := by decide +kernel
theorem dX0_runBack_95 : decode cX0_runBack 95 = .ok (.invokevirtual 75, 3) := by decide +kernel
theorem dX0_runBack_98 : decode cX0_runBack 98 = .ok (.ireturn, 1) := by decide +kernel
theorem dX0_runBack_99 : decode cX0_runBack 99 = .ok (.iinc 3 1, 3) := by decide +kernel
theorem dX0_runBack_102 : decode cX0_runBack 102 = .ok (.goto (-94), 3) := by decide +kernel
theorem dX0_runBack_105 : decode cX0_runBack 105 = .ok (.bipush 100, 2) := by decide +kernel
theorem dX0_runBack_107 : decode cX0_runBack 107 = .ok (.ireturn, 1) := by decide +kernel
theorem dX0_squareOnWay_0 : decode cX0_squareOnWay 0 = .ok (.aload_n 0, 1) := by decide +kernel
theorem dX0_squareOnWay_1 : decode cX0_squareOnWay 1 = .ok (.iload_n 3, 1) := by decide +kernel
theorem dX0_squareOnWay_2 : decode cX0_squareOnWay 2 = .ok (.putfield 28, 3) := by decide +kernel
theorem dX0_squareOnWay_5 : decode cX0_squareOnWay 5 = .ok (.aload_n 0, 1) := by decide +kernel
theorem dX0_squareOnWay_6 : decode cX0_squareOnWay 6 = .ok (.iconst (-1), 1) := by decide +kernel
theorem dX0_squareOnWay_7 : decode cX0_squareOnWay 7 = .ok (.putfield 31, 3) := by decide +kernel
theorem dX0_squareOnWay_10 : decode cX0_squareOnWay 10 = .ok (.aload_n 0, 1) := by decide +kernel
theorem dX0_squareOnWay_11 : decode cX0_squareOnWay 11 = .ok (.aload_n 1, 1) := by decide +kernel
theorem dX0_squareOnWay_12 : decode cX0_squareOnWay 12 = .ok (.iload_n 2, 1) := by decide +kernel
theorem dX0_squareOnWay_13 : decode cX0_squareOnWay 13 = .ok (.invokevirtual 85, 3) := by decide +kernel
theorem dX0_squareOnWay_16 : decode cX0_squareOnWay 16 = .ok (.pop, 1) := by decide +kernel
theorem dX0_squareOnWay_17 : decode cX0_squareOnWay 17 = .ok (.aload_n 0, 1) := by decide +kernel
theorem dX0_squareOnWay_18 : decode cX0_squareOnWay 18 = .ok (.iconst (-1), 1) := by decide +kernel
theorem dX0_squareOnWay_19 : decode cX0_squareOnWay 19 = .ok (.putfield 28, 3) := by decide +kernel
theorem dX0_squareOnWay_22 : decode cX0_squareOnWay 22 = .ok (.aload_n 0, 1) := by decide +kernel
theorem dX0_squareOnWay_23 : decode cX0_squareOnWay 23 = .ok (.getfield 31, 3) := by decide +kernel
theorem dX0_squareOnWay_26 : decode cX0_squareOnWay 26 = .ok (.ireturn, 1) := by decide +kernel
theorem dX0_enter_0 : decode cX0_enter 0 = .ok (.iload_n 2, 1) := by decide +kernel
theorem dX0_enter_1 : decode cX0_enter 1 = .ok (.aload_n 1, 1) := by decide +kernel
theorem dX0_enter_2 : decode cX0_enter 2 = .ok (.getfield 38, 3) := by decide +kernel
theorem dX0_enter_5 : decode cX0_enter 5 = .ok (.if_icmp .ge 13, 3) := by decide +kernel
theorem dX0_enter_8 : decode cX0_enter 8 = .ok (.aload_n 0, 1) := by decide +kernel
theorem dX0_enter_9 : decode cX0_enter 9 = .ok (.iconst 0, 1) := by decide +kernel
theorem dX0_enter_10 : decode cX0_enter 10 = .ok (.iload_n 2, 1) := by decide +kernel
theorem dX0_enter_11 : decode cX0_enter 11 = .ok (.iconst 2, 1) := by decide +kernel
theorem dX0_enter_12 : decode cX0_enter 12 = .ok (.invokevirtual 89, 3) := by decide +kernel
theorem dX0_enter_15 : decode cX0_enter 15 = .ok (.goto 95, 3) := by decide +kernel
theorem dX0_enter_18 : decode cX0_enter 18 = .ok (.iload_n 2, 1) := by decide +kernel
theorem dX0_enter_19 : decode cX0_enter 19 = .ok (.aload_n 1, 1) := by decide +kernel
theorem dX0_enter_20 : decode cX0_enter 20 = .ok (.getfield 38, 3) := by decide +kernel
theorem dX0_enter_23 : decode cX0_enter 23 = .ok (.aload_n 1, 1) := by decide +kernel
theorem dX0_enter_24 : decode cX0_enter 24 = .ok (.getfield 93, 3) := by decide +kernel
theorem dX0_enter_27 : decode cX0_enter 27 = .ok (.iadd, 1) := by decide +kernel
theorem dX0_enter_28 : decode cX0_enter 28 = .ok (.if_icmp .ge 23, 3) := by decide +kernel
theorem dX0_enter_31 : decode cX0_enter 31 = .ok (.aload_n 0, 1) := by decide +kernel
theorem dX0_enter_32 : decode cX0_enter 32 = .ok (.iload_n 2, 1) := by decide +kernel
theorem dX0_enter_33 : decode cX0_enter 33 = .ok (.aload_n 1, 1) := by decide +kernel
theorem dX0_enter_34 : decode cX0_enter 34 = .ok (.getfield 38, 3) := by decide +kernel
theorem dX0_enter_37 : decode cX0_enter 37 = .ok (.isub, 1) := by decide +kernel
theorem dX0_enter_38 : decode cX0_enter 38 = .ok (.aload_n 1, 1) := by decide +kernel
theorem dX0_enter_39 : decode cX0_enter 39 = .ok (.getfield 38, 3) := by decide +kernel
theorem dX0_enter_42 : decode cX0_enter 42 = .ok (.iconst 1, 1) := by decide +kernel
theorem dX0_enter_43 : decode cX0_enter 43 = .ok (.isub, 1) := by decide +kernel
theorem dX0_enter_44 : decode cX0_enter 44 = .ok (.iconst 3, 1) := by decide +kernel
theorem dX0_enter_45 : decode cX0_enter 45 = .ok (.invokevirtual 89, 3) := by decide +kernel
theorem dX0_enter_48 : decode cX0_enter 48 = .ok (.goto 62, 3) := by decide +kernel
theorem dX0_enter_51 : decode cX0_enter 51 = .ok (.iload_n 2, 1) := by decide +kernel
theorem dX0_enter_52 : decode cX0_enter 52 = .ok (.iconst 2, 1) := by decide +kernel
theorem dX0_enter_53 : decode cX0_enter 53 = .ok (.aload_n 1, 1) := by decide +kernel
theorem dX0_enter_54 : decode cX0_enter 54 = .ok (.getfield 38, 3) := by decide +kernel
theorem dX0_enter_57 : decode cX0_enter 57 = .ok (.imul, 1) := by decide +kernel
theorem dX0_enter_58 : decode cX0_enter 58 = .ok (.aload_n 1, 1) := by decide +kernel
theorem dX0_enter_59 : decode cX0_enter 59 = .ok (.getfield 93, 3) := by decide +kernel
theorem dX0_enter_62 : decode cX0_enter 62 = .ok (.iadd, 1) := by decide +kernel
theorem dX0_enter_63 : decode cX0_enter 63 = .ok (.if_icmp .ge 28, 3) := by decide +kernel
theorem dX0_enter_66 : decode cX0_enter 66 = .ok (.aload_n 0, 1) := by decide +kernel
theorem dX0_enter_67 : decode cX0_enter 67 = .ok (.aload_n 1, 1) := by decide +kernel
theorem dX0_enter_68 : decode cX0_enter 68 = .ok (.getfield 93, 3) := by decide +kernel
theorem dX0_enter_71 : decode cX0_enter 71 = .ok (.iconst 1, 1) := by decide +kernel
theorem dX0_enter_72 : decode cX0_enter 72 = .ok (.isub, 1) := by decide +kernel
theorem dX0_enter_73 : decode cX0_enter 73 = .ok (.iload_n 2, 1) := by decide +kernel
theorem dX0_enter_74 : decode cX0_enter 74 = .ok (.aload_n 1, 1) := by decide +kernel
theorem dX0_enter_75 : decode cX0_enter 75 = .ok (.getfield 38, 3) := by decide +kernel
theorem dX0_enter_78 : decode cX0_enter 78 = .ok (.isub, 1) := by decide +kernel
theorem dX0_enter_79 : decode cX0_enter 79 = .ok (.aload_n 1, 1) := by decide +kernel
theorem dX0_enter_80 : decode cX0_enter 80 = .ok (.getfield 93, 3) := by decide +kernel
theorem dX0_enter_83 : decode cX0_enter 83 = .ok (.isub, 1) := by decide +kernel
theorem dX0_enter_84 : decode cX0_enter 84 = .ok (.iconst 0, 1) := by decide +kernel
theorem dX0_enter_85 : decode cX0_enter 85 = .ok (.invokevirtual 89, 3) := by decide +kernel
theorem dX0_enter_88 : decode cX0_enter 88 = .ok (.goto 22, 3) := by decide +kernel
theorem dX0_enter_91 : decode cX0_enter 91 = .ok (.aload_n 0, 1) := by decide +kernel
theorem dX0_enter_92 : decode cX0_enter 92 = .ok (.iload_n 2, 1) := by decide +kernel
theorem dX0_enter_93 : decode cX0_enter 93 = .ok (.iconst 2, 1) := by decide +kernel
theorem dX0_enter_94 : decode cX0_enter 94 = .ok (.aload_n 1, 1) := by decide +kernel
theorem dX0_enter_95 : decode cX0_enter 95 = .ok (.getfield 38, 3) := by decide +kernel
theorem dX0_enter_98 : decode cX0_enter 98 = .ok (.imul, 1) := by decide +kernel
theorem dX0_enter_99 : decode cX0_enter 99 = .ok (.isub, 1) := by decide +kernel
theorem dX0_enter_100 : decode cX0_enter 100 = .ok (.aload_n 1, 1) := by decide +kernel
theorem dX0_enter_101 : decode cX0_enter 101 = .ok (.getfield 93, 3) := by decide +kernel
theorem dX0_enter_104 : decode cX0_enter 104 = .ok (.isub, 1) := by decide +kernel
theorem dX0_enter_105 : decode cX0_enter 105 = .ok (.iconst 0, 1) := by decide +kernel
theorem dX0_enter_106 : decode cX0_enter 106 = .ok (.iconst 1, 1) := by decide +kernel
theorem dX0_enter_107 : decode cX0_enter 107 = .ok (.invokevirtual 89, 3) := by decide +kernel
theorem dX0_enter_110 : decode cX0_enter 110 = .ok (.return_, 1) := by decide +kernel
theorem dX0_start_0 : decode cX0_start 0 = .ok (.aload_n 0, 1) := by decide +kernel
theorem dX0_start_1 : decode cX0_start 1 = .ok (.iload_n 1, 1) := by decide +kernel
theorem dX0_start_2 : decode cX0_start 2 = .ok (.putfield 7, 3) := by decide +kernel
theorem dX0_start_5 : decode cX0_start 5 = .ok (.aload_n 0, 1) := by decide +kernel
theorem dX0_start_6 : decode cX0_start 6 = .ok (.iload_n 2, 1) := by decide +kernel
theorem dX0_start_7 : decode cX0_start 7 = .ok (.putfield 13, 3) := by decide +kernel
theorem dX0_start_10 : decode cX0_start 10 = .ok (.aload_n 0, 1) := by decide +kernel
theorem dX0_start_11 : decode cX0_start 11 = .ok (.iload_n 3, 1) := by decide +kernel
theorem dX0_start_12 : decode cX0_start 12 = .ok (.putfield 16, 3) := by decide +kernel
theorem dX0_start_15 : decode cX0_start 15 = .ok (.return_, 1) := by decide +kernel
theorem dX0_bend_0 : decode cX0_bend 0 = .ok (.aload_n 0, 1) := by decide +kernel
theorem dX0_bend_1 : decode cX0_bend 1 = .ok (.iload_n 1, 1) := by decide +kernel
theorem dX0_bend_2 : decode cX0_bend 2 = .ok (.ifCond .ne 12, 3) := by decide +kernel
theorem dX0_bend_5 : decode cX0_bend 5 = .ok (.aload_n 0, 1) := by decide +kernel
theorem dX0_bend_6 : decode cX0_bend 6 = .ok (.getfield 16, 3) := by decide +kernel
theorem dX0_bend_9 : decode cX0_bend 9 = .ok (.iconst 1, 1) := by decide +kernel
theorem dX0_bend_10 : decode cX0_bend 10 = .ok (.ixor, 1) := by decide +kernel
theorem dX0_bend_11 : decode cX0_bend 11 = .ok (.goto 9, 3) := by decide +kernel
theorem dX0_bend_14 : decode cX0_bend 14 = .ok (.iconst 3, 1) := by decide +kernel
theorem dX0_bend_15 : decode cX0_bend 15 = .ok (.aload_n 0, 1) := by decide +kernel
theorem dX0_bend_16 : decode cX0_bend 16 = .ok (.getfield 16, 3) := by decide +kernel
theorem dX0_bend_19 : decode cX0_bend 19 = .ok (.isub, 1) := by decide +kernel
theorem dX0_bend_20 : decode cX0_bend 20 = .ok (.putfield 16, 3) := by decide +kernel
theorem dX0_bend_23 : decode cX0_bend 23 = .ok (.return_, 1) := by decide +kernel
theorem dX0_goOn_0 : decode cX0_goOn 0 = .ok (.aload_n 0, 1) := by decide +kernel
theorem dX0_goOn_1 : decode cX0_goOn 1 = .ok (.getfield 16, 3) := by decide +kernel
theorem dX0_goOn_4 : decode cX0_goOn 4 = .ok (.tableswitch 67 0 2 #[28, 41, 54], 28) := by decide +kernel
theorem dX0_goOn_32 : decode cX0_goOn 32 = .ok (.aload_n 0, 1) := by decide +kernel
theorem dX0_goOn_33 : decode cX0_goOn 33 = .ok (.dup, 1) := by decide +kernel
theorem dX0_goOn_34 : decode cX0_goOn 34 = .ok (.getfield 7, 3) := by decide +kernel
theorem dX0_goOn_37 : decode cX0_goOn 37 = .ok (.iconst 1, 1) := by decide +kernel
theorem dX0_goOn_38 : decode cX0_goOn 38 = .ok (.isub, 1) := by decide +kernel
theorem dX0_goOn_39 : decode cX0_goOn 39 = .ok (.putfield 7, 3) := by decide +kernel
theorem dX0_goOn_42 : decode cX0_goOn 42 = .ok (.goto 39, 3) := by decide +kernel
theorem dX0_goOn_45 : decode cX0_goOn 45 = .ok (.aload_n 0, 1) := by decide +kernel
theorem dX0_goOn_46 : decode cX0_goOn 46 = .ok (.dup, 1) := by decide +kernel
theorem dX0_goOn_47 : decode cX0_goOn 47 = .ok (.getfield 13, 3) := by decide +kernel
theorem dX0_goOn_50 : decode cX0_goOn 50 = .ok (.iconst 1, 1) := by decide +kernel
theorem dX0_goOn_51 : decode cX0_goOn 51 = .ok (.iadd, 1) := by decide +kernel
theorem dX0_goOn_52 : decode cX0_goOn 52 = .ok (.putfield 13, 3) := by decide +kernel
theorem dX0_goOn_55 : decode cX0_goOn 55 = .ok (.goto 26, 3) := by decide +kernel
theorem dX0_goOn_58 : decode cX0_goOn 58 = .ok (.aload_n 0, 1) := by decide +kernel
theorem dX0_goOn_59 : decode cX0_goOn 59 = .ok (.dup, 1) := by decide +kernel
theorem dX0_goOn_60 : decode cX0_goOn 60 = .ok (.getfield 7, 3) := by decide +kernel
theorem dX0_goOn_63 : decode cX0_goOn 63 = .ok (.iconst 1, 1) := by decide +kernel
theorem dX0_goOn_64 : decode cX0_goOn 64 = .ok (.iadd, 1) := by decide +kernel
theorem dX0_goOn_65 : decode cX0_goOn 65 = .ok (.putfield 7, 3) := by decide +kernel
theorem dX0_goOn_68 : decode cX0_goOn 68 = .ok (.goto 13, 3) := by decide +kernel
theorem dX0_goOn_71 : decode cX0_goOn 71 = .ok (.aload_n 0, 1) := by decide +kernel
theorem dX0_goOn_72 : decode cX0_goOn 72 = .ok (.dup, 1) := by decide +kernel
theorem dX0_goOn_73 : decode cX0_goOn 73 = .ok (.getfield 13, 3) := by decide +kernel
theorem dX0_goOn_76 : decode cX0_goOn 76 = .ok (.iconst 1, 1) := by decide +kernel
theorem dX0_goOn_77 : decode cX0_goOn 77 = .ok (.isub, 1) := by decide +kernel
theorem dX0_goOn_78 : decode cX0_goOn 78 = .ok (.putfield 13, 3) := by decide +kernel
theorem dX0_goOn_81 : decode cX0_goOn 81 = .ok (.return_, 1) := by decide +kernel
theorem dX0_isOutside_0 : decode cX0_isOutside 0 = .ok (.aload_n 0, 1) := by decide +kernel
theorem dX0_isOutside_1 : decode cX0_isOutside 1 = .ok (.getfield 7, 3) := by decide +kernel
theorem dX0_isOutside_4 : decode cX0_isOutside 4 = .ok (.ifCond .lt 32, 3) := by decide +kernel
theorem dX0_isOutside_7 : decode cX0_isOutside 7 = .ok (.aload_n 0, 1) := by decide +kernel
theorem dX0_isOutside_8 : decode cX0_isOutside 8 = .ok (.getfield 7, 3) := by decide +kernel
theorem dX0_isOutside_11 : decode cX0_isOutside 11 = .ok (.aload_n 1, 1) := by decide +kernel
theorem dX0_isOutside_12 : decode cX0_isOutside 12 = .ok (.getfield 93, 3) := by decide +kernel
theorem dX0_isOutside_15 : decode cX0_isOutside 15 = .ok (.if_icmp .ge 21, 3) := by decide +kernel
theorem dX0_isOutside_18 : decode cX0_isOutside 18 = .ok (.aload_n 0, 1) := by decide +kernel
theorem dX0_isOutside_19 : decode cX0_isOutside 19 = .ok (.getfield 13, 3) := by decide +kernel
theorem dX0_isOutside_22 : decode cX0_isOutside 22 = .ok (.ifCond .lt 14, 3) := by decide +kernel
theorem dX0_isOutside_25 : decode cX0_isOutside 25 = .ok (.aload_n 0, 1) := by decide +kernel
theorem dX0_isOutside_26 : decode cX0_isOutside 26 = .ok (.getfield 13, 3) := by decide +kernel
theorem dX0_isOutside_29 : decode cX0_isOutside 29 = .ok (.aload_n 1, 1) := by decide +kernel
theorem dX0_isOutside_30 : decode cX0_isOutside 30 = .ok (.getfield 38, 3) := by decide +kernel
theorem dX0_isOutside_33 : decode cX0_isOutside 33 = .ok (.if_icmp .lt 7, 3) := by decide +kernel
theorem dX0_isOutside_36 : decode cX0_isOutside 36 = .ok (.iconst 1, 1) := by decide +kernel
theorem dX0_isOutside_37 : decode cX0_isOutside 37 = .ok (.goto 4, 3) := by decide +kernel
theorem dX0_isOutside_40 : decode cX0_isOutside 40 = .ok (.iconst 0, 1) := by decide +kernel
theorem dX0_isOutside_41 : decode cX0_isOutside 41 = .ok (.ireturn, 1) := by decide +kernel
theorem dX0_windowHere_0 : decode cX0_windowHere 0 = .ok (.aload_n 0, 1) := by decide +kernel
theorem dX0_windowHere_1 : decode cX0_windowHere 1 = .ok (.getfield 7, 3) := by decide +kernel
theorem dX0_windowHere_4 : decode cX0_windowHere 4 = .ok (.ifCond .ge 8, 3) := by decide +kernel
theorem dX0_windowHere_7 : decode cX0_windowHere 7 = .ok (.aload_n 0, 1) := by decide +kernel
theorem dX0_windowHere_8 : decode cX0_windowHere 8 = .ok (.getfield 13, 3) := by decide +kernel
theorem dX0_windowHere_11 : decode cX0_windowHere 11 = .ok (.ireturn, 1) := by decide +kernel
theorem dX0_windowHere_12 : decode cX0_windowHere 12 = .ok (.aload_n 0, 1) := by decide +kernel
theorem dX0_windowHere_13 : decode cX0_windowHere 13 = .ok (.getfield 13, 3) := by decide +kernel
theorem dX0_windowHere_16 : decode cX0_windowHere 16 = .ok (.aload_n 1, 1) := by decide +kernel
theorem dX0_windowHere_17 : decode cX0_windowHere 17 = .ok (.getfield 38, 3) := by decide +kernel
theorem dX0_windowHere_20 : decode cX0_windowHere 20 = .ok (.if_icmp .lt 13, 3) := by decide +kernel
theorem dX0_windowHere_23 : decode cX0_windowHere 23 = .ok (.aload_n 1, 1) := by decide +kernel
theorem dX0_windowHere_24 : decode cX0_windowHere 24 = .ok (.getfield 38, 3) := by decide +kernel
theorem dX0_windowHere_27 : decode cX0_windowHere 27 = .ok (.aload_n 0, 1) := by decide +kernel
theorem dX0_windowHere_28 : decode cX0_windowHere 28 = .ok (.getfield 7, 3) := by decide +kernel
theorem dX0_windowHere_31 : decode cX0_windowHere 31 = .ok (.iadd, 1) := by decide +kernel
theorem dX0_windowHere_32 : decode cX0_windowHere 32 = .ok (.ireturn, 1) := by decide +kernel
theorem dX0_windowHere_33 : decode cX0_windowHere 33 = .ok (.aload_n 0, 1) := by decide +kernel
theorem dX0_windowHere_34 : decode cX0_windowHere 34 = .ok (.getfield 7, 3) := by decide +kernel
theorem dX0_windowHere_37 : decode cX0_windowHere 37 = .ok (.aload_n 1, 1) := by decide +kernel
theorem dX0_windowHere_38 : decode cX0_windowHere 38 = .ok (.getfield 93, 3) := by decide +kernel
theorem dX0_windowHere_41 : decode cX0_windowHere 41 = .ok (.if_icmp .lt 20, 3) := by decide +kernel
theorem dX0_windowHere_44 : decode cX0_windowHere 44 = .ok (.aload_n 1, 1) := by decide +kernel
theorem dX0_windowHere_45 : decode cX0_windowHere 45 = .ok (.getfield 38, 3) := by decide +kernel
theorem dX0_windowHere_48 : decode cX0_windowHere 48 = .ok (.aload_n 1, 1) := by decide +kernel
theorem dX0_windowHere_49 : decode cX0_windowHere 49 = .ok (.getfield 93, 3) := by decide +kernel
theorem dX0_windowHere_52 : decode cX0_windowHere 52 = .ok (.iadd, 1) := by decide +kernel
theorem dX0_windowHere_53 : decode cX0_windowHere 53 = .ok (.aload_n 0, 1) := by decide +kernel
theorem dX0_windowHere_54 : decode cX0_windowHere 54 = .ok (.getfield 13, 3) := by decide +kernel
theorem dX0_windowHere_57 : decode cX0_windowHere 57 = .ok (.iadd, 1) := by decide +kernel
theorem dX0_windowHere_58 : decode cX0_windowHere 58 = .ok (.goto 19, 3) := by decide +kernel
theorem dX0_windowHere_61 : decode cX0_windowHere 61 = .ok (.iconst 2, 1) := by decide +kernel
theorem dX0_windowHere_62 : decode cX0_windowHere 62 = .ok (.aload_n 1, 1) := by decide +kernel
theorem dX0_windowHere_63 : decode cX0_windowHere 63 = .ok (.getfield 38, 3) := by decide +kernel
theorem dX0_windowHere_66 : decode cX0_windowHere 66 = .ok (.imul, 1) := by decide +kernel
theorem dX0_windowHere_67 : decode cX0_windowHere 67 = .ok (.aload_n 1, 1) := by decide +kernel
theorem dX0_windowHere_68 : decode cX0_windowHere 68 = .ok (.getfield 93, 3) := by decide +kernel
theorem dX0_windowHere_71 : decode cX0_windowHere 71 = .ok (.iadd, 1) := by decide +kernel
theorem dX0_windowHere_72 : decode cX0_windowHere 72 = .ok (.aload_n 0, 1) := by decide +kernel
theorem dX0_windowHere_73 : decode cX0_windowHere 73 = .ok (.getfield 7, 3) := by decide +kernel
theorem dX0_windowHere_76 : decode cX0_windowHere 76 = .ok (.iadd, 1) := by decide +kernel
theorem dX0_windowHere_77 : decode cX0_windowHere 77 = .ok (.ireturn, 1) := by decide +kernel
theorem dX1_init_0 : decode cX1_init 0 = .ok (.aload_n 0, 1) := by decide +kernel
theorem dX1_init_1 : decode cX1_init 1 = .ok (.invokespecial 1, 3) := by decide +kernel
theorem dX1_init_4 : decode cX1_init 4 = .ok (.aload_n 0, 1) := by decide +kernel
theorem dX1_init_5 : decode cX1_init 5 = .ok (.new 7, 3) := by decide +kernel
theorem dX1_init_8 : decode cX1_init 8 = .ok (.dup, 1) := by decide +kernel
theorem dX1_init_9 : decode cX1_init 9 = .ok (.invokespecial 9, 3) := by decide +kernel
theorem dX1_init_12 : decode cX1_init 12 = .ok (.putfield 10, 3) := by decide +kernel
theorem dX1_init_15 : decode cX1_init 15 = .ok (.aload_n 0, 1) := by decide +kernel
theorem dX1_init_16 : decode cX1_init 16 = .ok (.new 16, 3) := by decide +kernel
theorem dX1_init_19 : decode cX1_init 19 = .ok (.dup, 1) := by decide +kernel
theorem dX1_init_20 : decode cX1_init 20 = .ok (.invokespecial 18, 3) := by decide +kernel
theorem dX1_init_23 : decode cX1_init 23 = .ok (.putfield 19, 3) := by decide +kernel
theorem dX1_init_26 : decode cX1_init 26 = .ok (.aload_n 0, 1) := by decide +kernel
theorem dX1_init_27 : decode cX1_init 27 = .ok (.iconst 5, 1) := by decide +kernel
theorem dX1_init_28 : decode cX1_init 28 = .ok (.newarray .int, 2) := by decide +kernel
theorem dX1_init_30 : decode cX1_init 30 = .ok (.putfield 23, 3) := by decide +kernel
theorem dX1_init_33 : decode cX1_init 33 = .ok (.aload_n 0, 1) := by decide +kernel
theorem dX1_init_34 : decode cX1_init 34 = .ok (.iconst 0, 1) := by decide +kernel
theorem dX1_init_35 : decode cX1_init 35 = .ok (.putfield 27, 3) := by decide +kernel
theorem dX1_init_38 : decode cX1_init 38 = .ok (.aload_n 0, 1) := by decide +kernel
theorem dX1_init_39 : decode cX1_init 39 = .ok (.iconst 0, 1) := by decide +kernel
theorem dX1_init_40 : decode cX1_init 40 = .ok (.putfield 31, 3) := by decide +kernel
theorem dX1_init_43 : decode cX1_init 43 = .ok (.aload_n 0, 1) := by decide +kernel
theorem dX1_init_44 : decode cX1_init 44 = .ok (.lconst 0, 1) := by decide +kernel
theorem dX1_init_45 : decode cX1_init 45 = .ok (.putfield 34, 3) := by decide +kernel
theorem dX1_init_48 : decode cX1_init 48 = .ok (.aload_n 0, 1) := by decide +kernel
theorem dX1_init_49 : decode cX1_init 49 = .ok (.bipush 20, 2) := by decide +kernel
theorem dX1_init_51 : decode cX1_init 51 = .ok (.newarray .int, 2) := by decide +kernel
theorem dX1_init_53 : decode cX1_init 53 = .ok (.putfield 38, 3) := by decide +kernel
theorem dX1_init_56 : decode cX1_init 56 = .ok (.aload_n 0, 1) := by decide +kernel
theorem dX1_init_57 : decode cX1_init 57 = .ok (.iconst 0, 1) := by decide +kernel
theorem dX1_init_58 : decode cX1_init 58 = .ok (.putfield 41, 3) := by decide +kernel
theorem dX1_init_61 : decode cX1_init 61 = .ok (.aload_n 0, 1) := by decide +kernel
theorem dX1_init_62 : decode cX1_init 62 = .ok (.iconst 1, 1) := by decide +kernel
theorem dX1_init_63 : decode cX1_init 63 = .ok (.putfield 44, 3) := by decide +kernel
theorem dX1_init_66 : decode cX1_init 66 = .ok (.aload_n 0, 1) := by decide +kernel
theorem dX1_init_67 : decode cX1_init 67 = .ok (.iconst 0, 1) := by decide +kernel
theorem dX1_init_68 : decode cX1_init 68 = .ok (.putfield 47, 3) := by decide +kernel
theorem dX1_init_71 : decode cX1_init 71 = .ok (.aload_n 0, 1) := by decide +kernel
theorem dX1_init_72 : decode cX1_init 72 = .ok (.iconst 0, 1) := by decide +kernel
theorem dX1_init_73 : decode cX1_init 73 = .ok (.putfield 50, 3) := by decide +kernel
theorem dX1_init_76 : decode cX1_init 76 = .ok (.return_, 1) := by decide +kernel
theorem dX1_suppose_0 : decode cX1_suppose 0 = .ok (.aload_n 0, 1) := by decide +kernel
theorem dX1_suppose_1 : decode cX1_suppose 1 = .ok (.getfield 10, 3) := by decide +kernel
theorem dX1_suppose_4 : decode cX1_suppose 4 = .ok (.aload_n 1, 1) := by decide +kernel
theorem dX1_suppose_5 : decode cX1_suppose 5 = .ok (.invokevirtual 53, 3) := by decide +kernel
theorem dX1_suppose_8 : decode cX1_suppose 8 = .ok (.aload_n 0, 1) := by decide +kernel
theorem dX1_suppose_9 : decode cX1_suppose 9 = .ok (.aload_n 1, 1) := by decide +kernel
theorem dX1_suppose_10 : decode cX1_suppose 10 = .ok (.getfield 57, 3) := by decide +kernel
theorem dX1_suppose_13 : decode cX1_suppose 13 = .ok (.putfield 31, 3) := by decide +kernel
theorem dX1_suppose_16 : decode cX1_suppose 16 = .ok (.aload_n 0, 1) := by decide +kernel
theorem dX1_suppose_17 : decode cX1_suppose 17 = .ok (.aload_n 1, 1) := by decide +kernel
theorem dX1_suppose_18 : decode cX1_suppose 18 = .ok (.getfield 60, 3) := by decide +kernel
theorem dX1_suppose_21 : decode cX1_suppose 21 = .ok (.putfield 34, 3) := by decide +kernel
theorem dX1_suppose_24 : decode cX1_suppose 24 = .ok (.aload_n 0, 1) := by decide +kernel
theorem dX1_suppose_25 : decode cX1_suppose 25 = .ok (.iconst 0, 1) := by decide +kernel
theorem dX1_suppose_26 : decode cX1_suppose 26 = .ok (.putfield 27, 3) := by decide +kernel
theorem dX1_suppose_29 : decode cX1_suppose 29 = .ok (.iconst 0, 1) := by decide +kernel
theorem dX1_suppose_30 : decode cX1_suppose 30 = .ok (.istore_n 3, 1) := by decide +kernel
theorem dX1_suppose_31 : decode cX1_suppose 31 = .ok (.iload_n 3, 1) := by decide +kernel
theorem dX1_suppose_32 : decode cX1_suppose 32 = .ok (.aload_n 1, 1) := by decide +kernel
theorem dX1_suppose_33 : decode cX1_suppose 33 = .ok (.invokevirtual 63, 3) := by decide +kernel
theorem dX1_suppose_36 : decode cX1_suppose 36 = .ok (.if_icmp .ge 58, 3) := by decide +kernel
theorem dX1_suppose_39 : decode cX1_suppose 39 = .ok (.aload_n 0, 1) := by decide +kernel
theorem dX1_suppose_40 : decode cX1_suppose 40 = .ok (.getfield 27, 3) := by decide +kernel
theorem dX1_suppose_43 : decode cX1_suppose 43 = .ok (.iconst 5, 1) := by decide +kernel
theorem dX1_suppose_44 : decode cX1_suppose 44 = .ok (.if_icmp .ge 50, 3) := by decide +kernel
theorem dX1_suppose_47 : decode cX1_suppose 47 = .ok (.iload_n 2, 1) := by decide +kernel
theorem dX1_suppose_48 : decode cX1_suppose 48 = .ok (.iload_n 3, 1) := by decide +kernel
theorem dX1_suppose_49 : decode cX1_suppose 49 = .ok (.iushr, 1) := by decide +kernel
theorem dX1_suppose_50 : decode cX1_suppose 50 = .ok (.iconst 1, 1) := by decide +kernel
theorem dX1_suppose_51 : decode cX1_suppose 51 = .ok (.iand, 1) := by decide +kernel
theorem dX1_suppose_52 : decode cX1_suppose 52 = .ok (.iconst 1, 1) := by decide +kernel
theorem dX1_suppose_53 : decode cX1_suppose 53 = .ok (.if_icmp .ne 35, 3) := by decide +kernel
theorem dX1_suppose_56 : decode cX1_suppose 56 = .ok (.aload_n 1, 1) := by decide +kernel
theorem dX1_suppose_57 : decode cX1_suppose 57 = .ok (.getfield 67, 3) := by decide +kernel
theorem dX1_suppose_60 : decode cX1_suppose 60 = .ok (.iload_n 3, 1) := by decide +kernel
theorem dX1_suppose_61 : decode cX1_suppose 61 = .ok (.iaload, 1) := by decide +kernel
theorem dX1_suppose_62 : decode cX1_suppose 62 = .ok (.invokestatic 70, 3) := by decide +kernel
theorem dX1_suppose_65 : decode cX1_suppose 65 = .ok (.ifCond .eq 23, 3) := by decide +kernel
theorem dX1_suppose_68 : decode cX1_suppose 68 = .ok (.aload_n 0, 1) := by decide +kernel
theorem dX1_suppose_69 : decode cX1_suppose 69 = .ok (.getfield 23, 3) := by decide +kernel
theorem dX1_suppose_72 : decode cX1_suppose 72 = .ok (.aload_n 0, 1) := by decide +kernel
theorem dX1_suppose_73 : decode cX1_suppose 73 = .ok (.getfield 27, 3) := by decide +kernel
theorem dX1_suppose_76 : decode cX1_suppose 76 = .ok (.iload_n 3, 1) := by decide +kernel
theorem dX1_suppose_77 : decode cX1_suppose 77 = .ok (.iastore, 1) := by decide +kernel
theorem dX1_suppose_78 : decode cX1_suppose 78 = .ok (.aload_n 0, 1) := by decide +kernel
theorem dX1_suppose_79 : decode cX1_suppose 79 = .ok (.dup, 1) := by decide +kernel
theorem dX1_suppose_80 : decode cX1_suppose 80 = .ok (.getfield 27, 3) := by decide +kernel
theorem dX1_suppose_83 : decode cX1_suppose 83 = .ok (.iconst 1, 1) := by decide +kernel
theorem dX1_suppose_84 : decode cX1_suppose 84 = .ok (.iadd, 1) := by decide +kernel
theorem dX1_suppose_85 : decode cX1_suppose 85 = .ok (.putfield 27, 3) := by decide +kernel
theorem dX1_suppose_88 : decode cX1_suppose 88 = .ok (.iinc 3 1, 3) := by decide +kernel
theorem dX1_suppose_91 : decode cX1_suppose 91 = .ok (.goto (-60), 3) := by decide +kernel
theorem dX1_suppose_94 : decode cX1_suppose 94 = .ok (.return_, 1) := by decide +kernel
theorem dX1_choices_0 : decode cX1_choices 0 = .ok (.iconst 1, 1) := by decide +kernel
theorem dX1_choices_1 : decode cX1_choices 1 = .ok (.aload_n 0, 1) := by decide +kernel
theorem dX1_choices_2 : decode cX1_choices 2 = .ok (.getfield 27, 3) := by decide +kernel
theorem dX1_choices_5 : decode cX1_choices 5 = .ok (.ishl, 1) := by decide +kernel
theorem dX1_choices_6 : decode cX1_choices 6 = .ok (.ireturn, 1) := by decide +kernel
theorem dX1_standBy_0 : decode cX1_standBy 0 = .ok (.aload_n 0, 1) := by decide +kernel
theorem dX1_standBy_1 : decode cX1_standBy 1 = .ok (.getfield 31, 3) := by decide +kernel
theorem dX1_standBy_4 : decode cX1_standBy 4 = .ok (.istore_n 2, 1) := by decide +kernel
theorem dX1_standBy_5 : decode cX1_standBy 5 = .ok (.iconst 0, 1) := by decide +kernel
theorem dX1_standBy_6 : decode cX1_standBy 6 = .ok (.istore_n 3, 1) := by decide +kernel
theorem dX1_standBy_7 : decode cX1_standBy 7 = .ok (.iload_n 3, 1) := by decide +kernel
theorem dX1_standBy_8 : decode cX1_standBy 8 = .ok (.aload_n 0, 1) := by decide +kernel
theorem dX1_standBy_9 : decode cX1_standBy 9 = .ok (.getfield 27, 3) := by decide +kernel
theorem dX1_standBy_12 : decode cX1_standBy 12 = .ok (.if_icmp .ge 35, 3) := by decide +kernel
theorem dX1_standBy_15 : decode cX1_standBy 15 = .ok (.iload_n 2, 1) := by decide +kernel
theorem dX1_standBy_16 : decode cX1_standBy 16 = .ok (.iconst 1, 1) := by decide +kernel
theorem dX1_standBy_17 : decode cX1_standBy 17 = .ok (.aload_n 0, 1) := by decide +kernel
theorem dX1_standBy_18 : decode cX1_standBy 18 = .ok (.getfield 23, 3) := by decide +kernel
theorem dX1_standBy_21 : decode cX1_standBy 21 = .ok (.iload_n 3, 1) := by decide +kernel
theorem dX1_standBy_22 : decode cX1_standBy 22 = .ok (.iaload, 1) := by decide +kernel
theorem dX1_standBy_23 : decode cX1_standBy 23 = .ok (.ishl, 1) := by decide +kernel
theorem dX1_standBy_24 : decode cX1_standBy 24 = .ok (.iconst (-1), 1) := by decide +kernel
theorem dX1_standBy_25 : decode cX1_standBy 25 = .ok (.ixor, 1) := by decide +kernel
theorem dX1_standBy_26 : decode cX1_standBy 26 = .ok (.iand, 1) := by decide +kernel
theorem dX1_standBy_27 : decode cX1_standBy 27 = .ok (.iload_n 1, 1) := by decide +kernel
theorem dX1_standBy_28 : decode cX1_standBy 28 = .ok (.iload_n 3, 1) := by decide +kernel
theorem dX1_standBy_29 : decode cX1_standBy 29 = .ok (.iushr, 1) := by decide +kernel
theorem dX1_standBy_30 : decode cX1_standBy 30 = .ok (.iconst 1, 1) := by decide +kernel
theorem dX1_standBy_31 : decode cX1_standBy 31 = .ok (.iand, 1) := by decide +kernel
theorem dX1_standBy_32 : decode cX1_standBy 32 = .ok (.aload_n 0, 1) := by decide +kernel
theorem dX1_standBy_33 : decode cX1_standBy 33 = .ok (.getfield 23, 3) := by decide +kernel
theorem dX1_standBy_36 : decode cX1_standBy 36 = .ok (.iload_n 3, 1) := by decide +kernel
theorem dX1_standBy_37 : decode cX1_standBy 37 = .ok (.iaload, 1) := by decide +kernel
theorem dX1_standBy_38 : decode cX1_standBy 38 = .ok (.ishl, 1) := by decide +kernel
theorem dX1_standBy_39 : decode cX1_standBy 39 = .ok (.ior, 1) := by decide +kernel
theorem dX1_standBy_40 : decode cX1_standBy 40 = .ok (.istore_n 2, 1) := by decide +kernel
theorem dX1_standBy_41 : decode cX1_standBy 41 = .ok (.iinc 3 1, 3) := by decide +kernel
theorem dX1_standBy_44 : decode cX1_standBy 44 = .ok (.goto (-37), 3) := by decide +kernel
theorem dX1_standBy_47 : decode cX1_standBy 47 = .ok (.aload_n 0, 1) := by decide +kernel
theorem dX1_standBy_48 : decode cX1_standBy 48 = .ok (.getfield 10, 3) := by decide +kernel
theorem dX1_standBy_51 : decode cX1_standBy 51 = .ok (.iload_n 2, 1) := by decide +kernel
theorem dX1_standBy_52 : decode cX1_standBy 52 = .ok (.aload_n 0, 1) := by decide +kernel
theorem dX1_standBy_53 : decode cX1_standBy 53 = .ok (.getfield 34, 3) := by decide +kernel
theorem dX1_standBy_56 : decode cX1_standBy 56 = .ok (.invokevirtual 74, 3) := by decide +kernel
theorem dX1_standBy_59 : decode cX1_standBy 59 = .ok (.return_, 1) := by decide +kernel
theorem dX1_weigh_0 : decode cX1_weigh 0 = .ok (.aload_n 0, 1) := by decide +kernel
theorem dX1_weigh_1 : decode cX1_weigh 1 = .ok (.iconst 0, 1) := by decide +kernel
theorem dX1_weigh_2 : decode cX1_weigh 2 = .ok (.putfield 41, 3) := by decide +kernel
theorem dX1_weigh_5 : decode cX1_weigh 5 = .ok (.aload_n 0, 1) := by decide +kernel
theorem dX1_weigh_6 : decode cX1_weigh 6 = .ok (.aload_n 0, 1) := by decide +kernel
theorem dX1_weigh_7 : decode cX1_weigh 7 = .ok (.invokevirtual 78, 3) := by decide +kernel
theorem dX1_weigh_10 : decode cX1_weigh 10 = .ok (.putfield 44, 3) := by decide +kernel
theorem dX1_weigh_13 : decode cX1_weigh 13 = .ok (.iconst 0, 1) := by decide +kernel
theorem dX1_weigh_14 : decode cX1_weigh 14 = .ok (.istore_n 3, 1) := by decide +kernel
theorem dX1_weigh_15 : decode cX1_weigh 15 = .ok (.iload_n 3, 1) := by decide +kernel
theorem dX1_weigh_16 : decode cX1_weigh 16 = .ok (.aload_n 0, 1) := by decide +kernel
theorem dX1_weigh_17 : decode cX1_weigh 17 = .ok (.invokevirtual 78, 3) := by decide +kernel
theorem dX1_weigh_20 : decode cX1_weigh 20 = .ok (.if_icmp .ge 44, 3) := by decide +kernel
theorem dX1_weigh_23 : decode cX1_weigh 23 = .ok (.aload_n 0, 1) := by decide +kernel
theorem dX1_weigh_24 : decode cX1_weigh 24 = .ok (.iload_n 3, 1) := by decide +kernel
theorem dX1_weigh_25 : decode cX1_weigh 25 = .ok (.invokevirtual 81, 3) := by decide +kernel
theorem dX1_weigh_28 : decode cX1_weigh 28 = .ok (.aload_n 0, 1) := by decide +kernel
theorem dX1_weigh_29 : decode cX1_weigh 29 = .ok (.dup, 1) := by decide +kernel
theorem dX1_weigh_30 : decode cX1_weigh 30 = .ok (.getfield 41, 3) := by decide +kernel
theorem dX1_weigh_33 : decode cX1_weigh 33 = .ok (.aload_n 0, 1) := by decide +kernel
theorem dX1_weigh_34 : decode cX1_weigh 34 = .ok (.getfield 19, 3) := by decide +kernel
theorem dX1_weigh_37 : decode cX1_weigh 37 = .ok (.aload_n 0, 1) := by decide +kernel
theorem dX1_weigh_38 : decode cX1_weigh 38 = .ok (.getfield 10, 3) := by decide +kernel
theorem dX1_weigh_41 : decode cX1_weigh 41 = .ok (.iload_n 1, 1) := by decide +kernel
theorem dX1_weigh_42 : decode cX1_weigh 42 = .ok (.invokevirtual 85, 3) := by decide +kernel
theorem dX1_weigh_45 : decode cX1_weigh 45 = .ok (.iload_n 2, 1) := by decide +kernel
theorem dX1_weigh_46 : decode cX1_weigh 46 = .ok (.if_icmp .ne 7, 3) := by decide +kernel
theorem dX1_weigh_49 : decode cX1_weigh 49 = .ok (.iconst 1, 1) := by decide +kernel
theorem dX1_weigh_50 : decode cX1_weigh 50 = .ok (.goto 4, 3) := by decide +kernel
theorem dX1_weigh_53 : decode cX1_weigh 53 = .ok (.iconst 0, 1) := by decide +kernel
theorem dX1_weigh_54 : decode cX1_weigh 54 = .ok (.iadd, 1) := by decide +kernel
theorem dX1_weigh_55 : decode cX1_weigh 55 = .ok (.putfield 41, 3) := by decide +kernel
theorem dX1_weigh_58 : decode cX1_weigh 58 = .ok (.iinc 3 1, 3) := by decide +kernel
theorem dX1_weigh_61 : decode cX1_weigh 61 = .ok (.goto (-46), 3) := by decide +kernel
theorem dX1_weigh_64 : decode cX1_weigh 64 = .ok (.iconst 0, 1) := by decide +kernel
theorem dX1_weigh_65 : decode cX1_weigh 65 = .ok (.istore_n 3, 1) := by decide +kernel
theorem dX1_weigh_66 : decode cX1_weigh 66 = .ok (.iload_n 3, 1) := by decide +kernel
theorem dX1_weigh_67 : decode cX1_weigh 67 = .ok (.iconst 5, 1) := by decide +kernel
theorem dX1_weigh_68 : decode cX1_weigh 68 = .ok (.if_icmp .ge 43, 3) := by decide +kernel
theorem dX1_weigh_71 : decode cX1_weigh 71 = .ok (.aload_n 0, 1) := by decide +kernel
theorem dX1_weigh_72 : decode cX1_weigh 72 = .ok (.getfield 41, 3) := by decide +kernel
theorem dX1_weigh_75 : decode cX1_weigh 75 = .ok (.aload_n 0, 1) := by decide +kernel
theorem dX1_weigh_76 : decode cX1_weigh 76 = .ok (.getfield 44, 3) := by decide +kernel
theorem dX1_weigh_79 : decode cX1_weigh 79 = .ok (.ior, 1) := by decide +kernel
theorem dX1_weigh_80 : decode cX1_weigh 80 = .ok (.iconst 1, 1) := by decide +kernel
theorem dX1_weigh_81 : decode cX1_weigh 81 = .ok (.iand, 1) := by decide +kernel
theorem dX1_weigh_82 : decode cX1_weigh 82 = .ok (.ifCond .ne 29, 3) := by decide +kernel
theorem dX1_weigh_85 : decode cX1_weigh 85 = .ok (.aload_n 0, 1) := by decide +kernel
theorem dX1_weigh_86 : decode cX1_weigh 86 = .ok (.dup, 1) := by decide +kernel
theorem dX1_weigh_87 : decode cX1_weigh 87 = .ok (.getfield 41, 3) := by decide +kernel
theorem dX1_weigh_90 : decode cX1_weigh 90 = .ok (.iconst 2, 1) := by decide +kernel
theorem dX1_weigh_91 : decode cX1_weigh 91 = .ok (.idiv, 1) := by decide +kernel
theorem dX1_weigh_92 : decode cX1_weigh 92 = .ok (.putfield 41, 3) := by decide +kernel
theorem dX1_weigh_95 : decode cX1_weigh 95 = .ok (.aload_n 0, 1) := by decide +kernel
theorem dX1_weigh_96 : decode cX1_weigh 96 = .ok (.dup, 1) := by decide +kernel
theorem dX1_weigh_97 : decode cX1_weigh 97 = .ok (.getfield 44, 3) := by decide +kernel
theorem dX1_weigh_100 : decode cX1_weigh 100 = .ok (.iconst 2, 1) := by decide +kernel
theorem dX1_weigh_101 : decode cX1_weigh 101 = .ok (.idiv, 1) := by decide +kernel
theorem dX1_weigh_102 : decode cX1_weigh 102 = .ok (.putfield 44, 3) := by decide +kernel
theorem dX1_weigh_105 : decode cX1_weigh 105 = .ok (.iinc 3 1, 3) := by decide +kernel
theorem dX1_weigh_108 : decode cX1_weigh 108 = .ok (.goto (-42), 3) := by decide +kernel
theorem dX1_weigh_111 : decode cX1_weigh 111 = .ok (.return_, 1) := by decide +kernel
theorem dX1_canRead_0 : decode cX1_canRead 0 = .ok (.iconst 0, 1) := by decide +kernel
theorem dX1_canRead_1 : decode cX1_canRead 1 = .ok (.istore_n 3, 1) := by decide +kernel
theorem dX1_canRead_2 : decode cX1_canRead 2 = .ok (.iload_n 3, 1) := by decide +kernel
theorem dX1_canRead_3 : decode cX1_canRead 3 = .ok (.iconst 1, 1) := by decide +kernel
theorem dX1_canRead_4 : decode cX1_canRead 4 = .ok (.iadd, 1) := by decide +kernel
theorem dX1_canRead_5 : decode cX1_canRead 5 = .ok (.aload_n 1, 1) := by decide +kernel
theorem dX1_canRead_6 : decode cX1_canRead 6 = .ok (.getfield 89, 3) := by decide +kernel
theorem dX1_canRead_9 : decode cX1_canRead 9 = .ok (.if_icmp .ge 62, 3) := by decide +kernel
theorem dX1_canRead_12 : decode cX1_canRead 12 = .ok (.aload_n 1, 1) := by decide +kernel
theorem dX1_canRead_13 : decode cX1_canRead 13 = .ok (.getfield 94, 3) := by decide +kernel
theorem dX1_canRead_16 : decode cX1_canRead 16 = .ok (.iload_n 3, 1) := by decide +kernel
theorem dX1_canRead_17 : decode cX1_canRead 17 = .ok (.iconst 1, 1) := by decide +kernel
theorem dX1_canRead_18 : decode cX1_canRead 18 = .ok (.iadd, 1) := by decide +kernel
theorem dX1_canRead_19 : decode cX1_canRead 19 = .ok (.iaload, 1) := by decide +kernel
theorem dX1_canRead_20 : decode cX1_canRead 20 = .ok (.istore 4, 2) := by decide +kernel
theorem dX1_canRead_22 : decode cX1_canRead 22 = .ok (.aload_n 2, 1) := by decide +kernel
theorem dX1_canRead_23 : decode cX1_canRead 23 = .ok (.iload 4, 2) := by decide +kernel
theorem dX1_canRead_25 : decode cX1_canRead 25 = .ok (.invokevirtual 97, 3) := by decide +kernel
theorem dX1_canRead_28 : decode cX1_canRead 28 = .ok (.ifCond .ne 10, 3) := by decide +kernel
theorem dX1_canRead_31 : decode cX1_canRead 31 = .ok (.iload 4, 2) := by decide +kernel
theorem dX1_canRead_33 : decode cX1_canRead 33 = .ok (.bipush 100, 2) := by decide +kernel
theorem dX1_canRead_35 : decode cX1_canRead 35 = .ok (.if_icmp .ne 7, 3) := by decide +kernel
theorem dX1_canRead_38 : decode cX1_canRead 38 = .ok (.iconst 1, 1) := by decide +kernel
theorem dX1_canRead_39 : decode cX1_canRead 39 = .ok (.goto 4, 3) := by decide +kernel
theorem dX1_canRead_42 : decode cX1_canRead 42 = .ok (.iconst 0, 1) := by decide +kernel
theorem dX1_canRead_43 : decode cX1_canRead 43 = .ok (.istore 5, 2) := by decide +kernel
theorem dX1_canRead_45 : decode cX1_canRead 45 = .ok (.aload_n 2, 1) := by decide +kernel
theorem dX1_canRead_46 : decode cX1_canRead 46 = .ok (.aload_n 1, 1) := by decide +kernel
theorem dX1_canRead_47 : decode cX1_canRead 47 = .ok (.getfield 94, 3) := by decide +kernel
theorem dX1_canRead_50 : decode cX1_canRead 50 = .ok (.iload_n 3, 1) := by decide +kernel
theorem dX1_canRead_51 : decode cX1_canRead 51 = .ok (.iaload, 1) := by decide +kernel
theorem dX1_canRead_52 : decode cX1_canRead 52 = .ok (.invokevirtual 97, 3) := by decide +kernel
theorem dX1_canRead_55 : decode cX1_canRead 55 = .ok (.ifCond .eq 8, 3) := by decide +kernel
theorem dX1_canRead_58 : decode cX1_canRead 58 = .ok (.iload 5, 2) := by decide +kernel
theorem dX1_canRead_60 : decode cX1_canRead 60 = .ok (.ifCond .ne 5, 3) := by decide +kernel
theorem dX1_canRead_63 : decode cX1_canRead 63 = .ok (.iconst 0, 1) := by decide +kernel
theorem dX1_canRead_64 : decode cX1_canRead 64 = .ok (.ireturn, 1) := by decide +kernel
theorem dX1_canRead_65 : decode cX1_canRead 65 = .ok (.iinc 3 2, 3) := by decide +kernel
theorem dX1_canRead_68 : decode cX1_canRead 68 = .ok (.goto (-66), 3) := by decide +kernel
theorem dX1_canRead_71 : decode cX1_canRead 71 = .ok (.aload_n 1, 1) := by decide +kernel
theorem dX1_canRead_72 : decode cX1_canRead 72 = .ok (.invokevirtual 100, 3) := by decide +kernel
theorem dX1_canRead_75 : decode cX1_canRead 75 = .ok (.ifCond .ne 7, 3) := by decide +kernel
theorem dX1_canRead_78 : decode cX1_canRead 78 = .ok (.iconst 1, 1) := by decide +kernel
theorem dX1_canRead_79 : decode cX1_canRead 79 = .ok (.goto 4, 3) := by decide +kernel
theorem dX1_canRead_82 : decode cX1_canRead 82 = .ok (.iconst 0, 1) := by decide +kernel
theorem dX1_canRead_83 : decode cX1_canRead 83 = .ok (.ireturn, 1) := by decide +kernel
theorem dX1_fitting_0 : decode cX1_fitting 0 = .ok (.iconst 0, 1) := by decide +kernel
theorem dX1_fitting_1 : decode cX1_fitting 1 = .ok (.istore_n 2, 1) := by decide +kernel
theorem dX1_fitting_2 : decode cX1_fitting 2 = .ok (.iconst 0, 1) := by decide +kernel
theorem dX1_fitting_3 : decode cX1_fitting 3 = .ok (.istore_n 3, 1) := by decide +kernel
theorem dX1_fitting_4 : decode cX1_fitting 4 = .ok (.iload_n 3, 1) := by decide +kernel
theorem dX1_fitting_5 : decode cX1_fitting 5 = .ok (.aload_n 0, 1) := by decide +kernel
theorem dX1_fitting_6 : decode cX1_fitting 6 = .ok (.invokevirtual 78, 3) := by decide +kernel
theorem dX1_fitting_9 : decode cX1_fitting 9 = .ok (.if_icmp .ge 26, 3) := by decide +kernel
theorem dX1_fitting_12 : decode cX1_fitting 12 = .ok (.iload_n 2, 1) := by decide +kernel
theorem dX1_fitting_13 : decode cX1_fitting 13 = .ok (.aload_n 0, 1) := by decide +kernel
theorem dX1_fitting_14 : decode cX1_fitting 14 = .ok (.aload_n 1, 1) := by decide +kernel
theorem dX1_fitting_15 : decode cX1_fitting 15 = .ok (.iload_n 3, 1) := by decide +kernel
theorem dX1_fitting_16 : decode cX1_fitting 16 = .ok (.invokevirtual 104, 3) := by decide +kernel
theorem dX1_fitting_19 : decode cX1_fitting 19 = .ok (.ifCond .eq 7, 3) := by decide +kernel
theorem dX1_fitting_22 : decode cX1_fitting 22 = .ok (.iconst 1, 1) := by decide +kernel
theorem dX1_fitting_23 : decode cX1_fitting 23 = .ok (.goto 4, 3) := by decide +kernel
theorem dX1_fitting_26 : decode cX1_fitting 26 = .ok (.iconst 0, 1) := by decide +kernel
theorem dX1_fitting_27 : decode cX1_fitting 27 = .ok (.iadd, 1) := by decide +kernel
theorem dX1_fitting_28 : decode cX1_fitting 28 = .ok (.istore_n 2, 1) := by decide +kernel
theorem dX1_fitting_29 : decode cX1_fitting 29 = .ok (.iinc 3 1, 3) := by decide +kernel
theorem dX1_fitting_32 : decode cX1_fitting 32 = .ok (.goto (-28), 3) := by decide +kernel
theorem dX1_fitting_35 : decode cX1_fitting 35 = .ok (.iload_n 2, 1) := by decide +kernel
theorem dX1_fitting_36 : decode cX1_fitting 36 = .ok (.ireturn, 1) := by decide +kernel
theorem dX1_isFitting_0 : decode cX1_isFitting 0 = .ok (.aload_n 0, 1) := by decide +kernel
theorem dX1_isFitting_1 : decode cX1_isFitting 1 = .ok (.iload_n 2, 1) := by decide +kernel
theorem dX1_isFitting_2 : decode cX1_isFitting 2 = .ok (.invokevirtual 81, 3) := by decide +kernel
theorem dX1_isFitting_5 : decode cX1_isFitting 5 = .ok (.iconst 0, 1) := by decide +kernel
theorem dX1_isFitting_6 : decode cX1_isFitting 6 = .ok (.istore_n 3, 1) := by decide +kernel
theorem dX1_isFitting_7 : decode cX1_isFitting 7 = .ok (.iload_n 3, 1) := by decide +kernel
theorem dX1_isFitting_8 : decode cX1_isFitting 8 = .ok (.iconst 1, 1) := by decide +kernel
theorem dX1_isFitting_9 : decode cX1_isFitting 9 = .ok (.iadd, 1) := by decide +kernel
theorem dX1_isFitting_10 : decode cX1_isFitting 10 = .ok (.aload_n 1, 1) := by decide +kernel
theorem dX1_isFitting_11 : decode cX1_isFitting 11 = .ok (.getfield 89, 3) := by decide +kernel
theorem dX1_isFitting_14 : decode cX1_isFitting 14 = .ok (.if_icmp .ge 39, 3) := by decide +kernel
theorem dX1_isFitting_17 : decode cX1_isFitting 17 = .ok (.aload_n 0, 1) := by decide +kernel
theorem dX1_isFitting_18 : decode cX1_isFitting 18 = .ok (.getfield 19, 3) := by decide +kernel
theorem dX1_isFitting_21 : decode cX1_isFitting 21 = .ok (.aload_n 0, 1) := by decide +kernel
theorem dX1_isFitting_22 : decode cX1_isFitting 22 = .ok (.getfield 10, 3) := by decide +kernel
theorem dX1_isFitting_25 : decode cX1_isFitting 25 = .ok (.aload_n 1, 1) := by decide +kernel
theorem dX1_isFitting_26 : decode cX1_isFitting 26 = .ok (.getfield 94, 3) := by decide +kernel
theorem dX1_isFitting_29 : decode cX1_isFitting 29 = .ok (.iload_n 3, 1) := by decide +kernel
theorem dX1_isFitting_30 : decode cX1_isFitting 30 = .ok (.iaload, 1) := by decide +kernel
theorem dX1_isFitting_31 : decode cX1_isFitting 31 = .ok (.invokevirtual 85, 3) := by decide +kernel
theorem dX1_isFitting_34 : decode cX1_isFitting 34 = .ok (.aload_n 1, 1) := by decide +kernel
theorem dX1_isFitting_35 : decode cX1_isFitting 35 = .ok (.getfield 94, 3) := by decide +kernel
theorem dX1_isFitting_38 : decode cX1_isFitting 38 = .ok (.iload_n 3, 1) := by decide +kernel
theorem dX1_isFitting_39 : decode cX1_isFitting 39 = .ok (.iconst 1, 1) := by decide +kernel
theorem dX1_isFitting_40 : decode cX1_isFitting 40 = .ok (.iadd, 1) := by decide +kernel
theorem dX1_isFitting_41 : decode cX1_isFitting 41 = .ok (.iaload, 1) := by decide +kernel
theorem dX1_isFitting_42 : decode cX1_isFitting 42 = .ok (.if_icmp .eq 5, 3) := by decide +kernel
theorem dX1_isFitting_45 : decode cX1_isFitting 45 = .ok (.iconst 0, 1) := by decide +kernel
theorem dX1_isFitting_46 : decode cX1_isFitting 46 = .ok (.ireturn, 1) := by decide +kernel
theorem dX1_isFitting_47 : decode cX1_isFitting 47 = .ok (.iinc 3 2, 3) := by decide +kernel
theorem dX1_isFitting_50 : decode cX1_isFitting 50 = .ok (.goto (-43), 3) := by decide +kernel
theorem dX1_isFitting_53 : decode cX1_isFitting 53 = .ok (.iconst 1, 1) := by decide +kernel
theorem dX1_isFitting_54 : decode cX1_isFitting 54 = .ok (.ireturn, 1) := by decide +kernel
theorem dX1_findTelling_0 : decode cX1_findTelling 0 = .ok (.iconst 0, 1) := by decide +kernel
theorem dX1_findTelling_1 : decode cX1_findTelling 1 = .ok (.istore_n 2, 1) := by decide +kernel
theorem dX1_findTelling_2 : decode cX1_findTelling 2 = .ok (.aload_n 0, 1) := by decide +kernel
theorem dX1_findTelling_3 : decode cX1_findTelling 3 = .ok (.getfield 38, 3) := by decide +kernel
theorem dX1_findTelling_6 : decode cX1_findTelling 6 = .ok (.iconst 0, 1) := by decide +kernel
theorem dX1_findTelling_7 : decode cX1_findTelling 7 = .ok (.invokestatic 108, 3) := by decide +kernel
theorem dX1_findTelling_10 : decode cX1_findTelling 10 = .ok (.iconst 0, 1) := by decide +kernel
theorem dX1_findTelling_11 : decode cX1_findTelling 11 = .ok (.istore_n 3, 1) := by decide +kernel
theorem dX1_findTelling_12 : decode cX1_findTelling 12 = .ok (.iload_n 3, 1) := by decide +kernel
theorem dX1_findTelling_13 : decode cX1_findTelling 13 = .ok (.aload_n 0, 1) := by decide +kernel
theorem dX1_findTelling_14 : decode cX1_findTelling 14 = .ok (.invokevirtual 78, 3) := by decide +kernel
theorem dX1_findTelling_17 : decode cX1_findTelling 17 = .ok (.if_icmp .ge 24, 3) := by decide +kernel
theorem dX1_findTelling_20 : decode cX1_findTelling 20 = .ok (.aload_n 0, 1) := by decide +kernel
theorem dX1_findTelling_21 : decode cX1_findTelling 21 = .ok (.aload_n 1, 1) := by decide +kernel
theorem dX1_findTelling_22 : decode cX1_findTelling 22 = .ok (.iload_n 3, 1) := by decide +kernel
theorem dX1_findTelling_23 : decode cX1_findTelling 23 = .ok (.invokevirtual 104, 3) := by decide +kernel
theorem dX1_findTelling_26 : decode cX1_findTelling 26 = .ok (.ifCond .eq 9, 3) := by decide +kernel
theorem dX1_findTelling_29 : decode cX1_findTelling 29 = .ok (.iconst 1, 1) := by decide +kernel
theorem dX1_findTelling_30 : decode cX1_findTelling 30 = .ok (.istore_n 2, 1) := by decide +kernel
theorem dX1_findTelling_31 : decode cX1_findTelling 31 = .ok (.aload_n 0, 1) := by decide +kernel
theorem dX1_findTelling_32 : decode cX1_findTelling 32 = .ok (.invokevirtual 114, 3) := by decide +kernel
theorem dX1_findTelling_35 : decode cX1_findTelling 35 = .ok (.iinc 3 1, 3) := by decide +kernel
theorem dX1_findTelling_38 : decode cX1_findTelling 38 = .ok (.goto (-26), 3) := by decide +kernel
theorem dX1_findTelling_41 : decode cX1_findTelling 41 = .ok (.aload_n 0, 1) := by decide +kernel
theorem dX1_findTelling_42 : decode cX1_findTelling 42 = .ok (.iconst 0, 1) := by decide +kernel
theorem dX1_findTelling_43 : decode cX1_findTelling 43 = .ok (.putfield 47, 3) := by decide +kernel
theorem dX1_findTelling_46 : decode cX1_findTelling 46 = .ok (.aload_n 0, 1) := by decide +kernel
theorem dX1_findTelling_47 : decode cX1_findTelling 47 = .ok (.iconst 0, 1) := by decide +kernel
theorem dX1_findTelling_48 : decode cX1_findTelling 48 = .ok (.putfield 50, 3) := by decide +kernel
theorem dX1_findTelling_51 : decode cX1_findTelling 51 = .ok (.iconst 0, 1) := by decide +kernel
theorem dX1_findTelling_52 : decode cX1_findTelling 52 = .ok (.istore_n 3, 1) := by decide +kernel
theorem dX1_findTelling_53 : decode cX1_findTelling 53 = .ok (.iload_n 3, 1) := by decide +kernel
theorem dX1_findTelling_54 : decode cX1_findTelling 54 = .ok (.aload_n 0, 1) := by decide +kernel
theorem dX1_findTelling_55 : decode cX1_findTelling 55 = .ok (.getfield 10, 3) := by decide +kernel
theorem dX1_findTelling_58 : decode cX1_findTelling 58 = .ok (.invokevirtual 117, 3) := by decide +kernel
theorem dX1_findTelling_61 : decode cX1_findTelling 61 = .ok (.if_icmp .ge 46, 3) := by decide +kernel
theorem dX1_findTelling_64 : decode cX1_findTelling 64 = .ok (.iload_n 3, 1) := by decide +kernel
theorem dX1_findTelling_65 : decode cX1_findTelling 65 = .ok (.bipush 20, 2) := by decide +kernel
theorem dX1_findTelling_67 : decode cX1_findTelling 67 = .ok (.if_icmp .ge 40, 3) := by decide +kernel
theorem dX1_findTelling_70 : decode cX1_findTelling 70 = .ok (.aload_n 0, 1) := by decide +kernel
theorem dX1_findTelling_71 : decode cX1_findTelling 71 = .ok (.getfield 38, 3) := by decide +kernel
theorem dX1_findTelling_74 : decode cX1_findTelling 74 = .ok (.iload_n 3, 1) := by decide +kernel
theorem dX1_findTelling_75 : decode cX1_findTelling 75 = .ok (.iaload, 1) := by decide +kernel
theorem dX1_findTelling_76 : decode cX1_findTelling 76 = .ok (.invokestatic 120, 3) := by decide +kernel
theorem dX1_findTelling_79 : decode cX1_findTelling 79 = .ok (.istore 4, 2) := by decide +kernel
theorem dX1_findTelling_81 : decode cX1_findTelling 81 = .ok (.iload 4, 2) := by decide +kernel
theorem dX1_findTelling_83 : decode cX1_findTelling 83 = .ok (.aload_n 0, 1) := by decide +kernel
theorem dX1_findTelling_84 : decode cX1_findTelling 84 = .ok (.getfield 50, 3) := by decide +kernel
theorem dX1_findTelling_87 : decode cX1_findTelling 87 = .ok (.if_icmp .le 14, 3) := by decide +kernel
theorem dX1_findTelling_90 : decode cX1_findTelling 90 = .ok (.aload_n 0, 1) := by decide +kernel
theorem dX1_findTelling_91 : decode cX1_findTelling 91 = .ok (.iload 4, 2) := by decide +kernel
theorem dX1_findTelling_93 : decode cX1_findTelling 93 = .ok (.putfield 50, 3) := by decide +kernel
theorem dX1_findTelling_96 : decode cX1_findTelling 96 = .ok (.aload_n 0, 1) := by decide +kernel
theorem dX1_findTelling_97 : decode cX1_findTelling 97 = .ok (.iload_n 3, 1) := by decide +kernel
theorem dX1_findTelling_98 : decode cX1_findTelling 98 = .ok (.putfield 47, 3) := by decide +kernel
theorem dX1_findTelling_101 : decode cX1_findTelling 101 = .ok (.iinc 3 1, 3) := by decide +kernel
theorem dX1_findTelling_104 : decode cX1_findTelling 104 = .ok (.goto (-51), 3) := by decide +kernel
theorem dX1_findTelling_107 : decode cX1_findTelling 107 = .ok (.iload_n 2, 1) := by decide +kernel
theorem dX1_findTelling_108 : decode cX1_findTelling 108 = .ok (.ireturn, 1) := by decide +kernel
theorem dX1_noteOuts_0 : decode cX1_noteOuts 0 = .ok (.aload_n 0, 1) := by decide +kernel
theorem dX1_noteOuts_1 : decode cX1_noteOuts 1 = .ok (.getfield 10, 3) := by decide +kernel
theorem dX1_noteOuts_4 : decode cX1_noteOuts 4 = .ok (.getfield 57, 3) := by decide +kernel
theorem dX1_noteOuts_7 : decode cX1_noteOuts 7 = .ok (.istore_n 1, 1) := by decide +kernel
theorem dX1_noteOuts_8 : decode cX1_noteOuts 8 = .ok (.aload_n 0, 1) := by decide +kernel
theorem dX1_noteOuts_9 : decode cX1_noteOuts 9 = .ok (.getfield 10, 3) := by decide +kernel
theorem dX1_noteOuts_12 : decode cX1_noteOuts 12 = .ok (.getfield 60, 3) := by decide +kernel
theorem dX1_noteOuts_15 : decode cX1_noteOuts 15 = .ok (.lstore_n 2, 1) := by decide +kernel
theorem dX1_noteOuts_16 : decode cX1_noteOuts 16 = .ok (.iconst 0, 1) := by decide +kernel
theorem dX1_noteOuts_17 : decode cX1_noteOuts 17 = .ok (.istore 4, 2) := by decide +kernel
theorem dX1_noteOuts_19 : decode cX1_noteOuts 19 = .ok (.iload 4, 2) := by decide +kernel
theorem dX1_noteOuts_21 : decode cX1_noteOuts 21 = .ok (.aload_n 0, 1) := by decide +kernel
theorem dX1_noteOuts_22 : decode cX1_noteOuts 22 = .ok (.getfield 10, 3) := by decide +kernel
theorem dX1_noteOuts_25 : decode cX1_noteOuts 25 = .ok (.invokevirtual 117, 3) := by decide +kernel
theorem dX1_noteOuts_28 : decode cX1_noteOuts 28 = .ok (.if_icmp .ge 55, 3) := by decide +kernel
theorem dX1_noteOuts_31 : decode cX1_noteOuts 31 = .ok (.iload 4, 2) := by decide +kernel
theorem dX1_noteOuts_33 : decode cX1_noteOuts 33 = .ok (.bipush 20, 2) := by decide +kernel
theorem dX1_noteOuts_35 : decode cX1_noteOuts 35 = .ok (.if_icmp .ge 48, 3) := by decide +kernel
theorem dX1_noteOuts_38 : decode cX1_noteOuts 38 = .ok (.aload_n 0, 1) := by decide +kernel
theorem dX1_noteOuts_39 : decode cX1_noteOuts 39 = .ok (.getfield 10, 3) := by decide +kernel
theorem dX1_noteOuts_42 : decode cX1_noteOuts 42 = .ok (.iload_n 1, 1) := by decide +kernel
theorem dX1_noteOuts_43 : decode cX1_noteOuts 43 = .ok (.lload_n 2, 1) := by decide +kernel
theorem dX1_noteOuts_44 : decode cX1_noteOuts 44 = .ok (.invokevirtual 74, 3) := by decide +kernel
theorem dX1_noteOuts_47 : decode cX1_noteOuts 47 = .ok (.aload_n 0, 1) := by decide +kernel
theorem dX1_noteOuts_48 : decode cX1_noteOuts 48 = .ok (.getfield 38, 3) := by decide +kernel
theorem dX1_noteOuts_51 : decode cX1_noteOuts 51 = .ok (.iload 4, 2) := by decide +kernel
theorem dX1_noteOuts_53 : decode cX1_noteOuts 53 = .ok (.dup2, 1) := by decide +kernel
theorem dX1_noteOuts_54 : decode cX1_noteOuts 54 = .ok (.iaload, 1) := by decide +kernel
theorem dX1_noteOuts_55 : decode cX1_noteOuts 55 = .ok (.iconst 1, 1) := by decide +kernel
theorem dX1_noteOuts_56 : decode cX1_noteOuts 56 = .ok (.bipush 20, 2) := by decide +kernel
theorem dX1_noteOuts_58 : decode cX1_noteOuts 58 = .ok (.aload_n 0, 1) := by decide +kernel
theorem dX1_noteOuts_59 : decode cX1_noteOuts 59 = .ok (.getfield 19, 3) := by decide +kernel
theorem dX1_noteOuts_62 : decode cX1_noteOuts 62 = .ok (.aload_n 0, 1) := by decide +kernel
theorem dX1_noteOuts_63 : decode cX1_noteOuts 63 = .ok (.getfield 10, 3) := by decide +kernel
theorem dX1_noteOuts_66 : decode cX1_noteOuts 66 = .ok (.iload 4, 2) := by decide +kernel
theorem dX1_noteOuts_68 : decode cX1_noteOuts 68 = .ok (.invokevirtual 85, 3) := by decide +kernel
theorem dX1_noteOuts_71 : decode cX1_noteOuts 71 = .ok (.invokestatic 126, 3) := by decide +kernel
theorem dX1_noteOuts_74 : decode cX1_noteOuts 74 = .ok (.ishl, 1) := by decide +kernel
theorem dX1_noteOuts_75 : decode cX1_noteOuts 75 = .ok (.ior, 1) := by decide +kernel
theorem dX1_noteOuts_76 : decode cX1_noteOuts 76 = .ok (.iastore, 1) := by decide +kernel
theorem dX1_noteOuts_77 : decode cX1_noteOuts 77 = .ok (.iinc 4 1, 3) := by decide +kernel
theorem dX1_noteOuts_80 : decode cX1_noteOuts 80 = .ok (.goto (-61), 3) := by decide +kernel
theorem dX1_noteOuts_83 : decode cX1_noteOuts 83 = .ok (.return_, 1) := by decide +kernel
theorem dX2_init_0 : decode cX2_init 0 = .ok (.aload_n 0, 1) := by decide +kernel
theorem dX2_init_1 : decode cX2_init 1 = .ok (.invokespecial 1, 3) := by decide +kernel
theorem dX2_init_4 : decode cX2_init 4 = .ok (.aload_n 0, 1) := by decide +kernel
theorem dX2_init_5 : decode cX2_init 5 = .ok (.new 7, 3) := by decide +kernel
theorem dX2_init_8 : decode cX2_init 8 = .ok (.dup, 1) := by decide +kernel
theorem dX2_init_9 : decode cX2_init 9 = .ok (.invokespecial 9, 3) := by decide +kernel
theorem dX2_init_12 : decode cX2_init 12 = .ok (.putfield 10, 3) := by decide +kernel
theorem dX2_init_15 : decode cX2_init 15 = .ok (.aload_n 0, 1) := by decide +kernel
theorem dX2_init_16 : decode cX2_init 16 = .ok (.new 16, 3) := by decide +kernel
theorem dX2_init_19 : decode cX2_init 19 = .ok (.dup, 1) := by decide +kernel
theorem dX2_init_20 : decode cX2_init 20 = .ok (.invokespecial 18, 3) := by decide +kernel
theorem dX2_init_23 : decode cX2_init 23 = .ok (.putfield 19, 3) := by decide +kernel
theorem dX2_init_26 : decode cX2_init 26 = .ok (.aload_n 0, 1) := by decide +kernel
theorem dX2_init_27 : decode cX2_init 27 = .ok (.iconst 3, 1) := by decide +kernel
theorem dX2_init_28 : decode cX2_init 28 = .ok (.newarray .int, 2) := by decide +kernel
theorem dX2_init_30 : decode cX2_init 30 = .ok (.putfield 23, 3) := by decide +kernel
theorem dX2_init_33 : decode cX2_init 33 = .ok (.aload_n 0, 1) := by decide +kernel
theorem dX2_init_34 : decode cX2_init 34 = .ok (.iconst 3, 1) := by decide +kernel
theorem dX2_init_35 : decode cX2_init 35 = .ok (.newarray .int, 2) := by decide +kernel
theorem dX2_init_37 : decode cX2_init 37 = .ok (.putfield 27, 3) := by decide +kernel
theorem dX2_init_40 : decode cX2_init 40 = .ok (.aload_n 0, 1) := by decide +kernel
theorem dX2_init_41 : decode cX2_init 41 = .ok (.iconst 3, 1) := by decide +kernel
theorem dX2_init_42 : decode cX2_init 42 = .ok (.newarray .long, 2) := by decide +kernel
theorem dX2_init_44 : decode cX2_init 44 = .ok (.putfield 30, 3) := by decide +kernel
theorem dX2_init_47 : decode cX2_init 47 = .ok (.aload_n 0, 1) := by decide +kernel
theorem dX2_init_48 : decode cX2_init 48 = .ok (.sipush 201, 3) := by decide +kernel
theorem dX2_init_51 : decode cX2_init 51 = .ok (.newarray .int, 2) := by decide +kernel
theorem dX2_init_53 : decode cX2_init 53 = .ok (.putfield 34, 3) := by decide +kernel
theorem dX2_init_56 : decode cX2_init 56 = .ok (.aload_n 0, 1) := by decide +kernel
theorem dX2_init_57 : decode cX2_init 57 = .ok (.sipush 201, 3) := by decide +kernel
theorem dX2_init_60 : decode cX2_init 60 = .ok (.newarray .long, 2) := by decide +kernel
theorem dX2_init_62 : decode cX2_init 62 = .ok (.putfield 37, 3) := by decide +kernel
theorem dX2_init_65 : decode cX2_init 65 = .ok (.aload_n 0, 1) := by decide +kernel
theorem dX2_init_66 : decode cX2_init 66 = .ok (.iconst 0, 1) := by decide +kernel
theorem dX2_init_67 : decode cX2_init 67 = .ok (.putfield 40, 3) := by decide +kernel
theorem dX2_init_70 : decode cX2_init 70 = .ok (.aload_n 0, 1) := by decide +kernel
theorem dX2_init_71 : decode cX2_init 71 = .ok (.iconst 0, 1) := by decide +kernel
theorem dX2_init_72 : decode cX2_init 72 = .ok (.putfield 44, 3) := by decide +kernel
theorem dX2_init_75 : decode cX2_init 75 = .ok (.aload_n 0, 1) := by decide +kernel
theorem dX2_init_76 : decode cX2_init 76 = .ok (.iconst 0, 1) := by decide +kernel
theorem dX2_init_77 : decode cX2_init 77 = .ok (.putfield 47, 3) := by decide +kernel
theorem dX2_init_80 : decode cX2_init 80 = .ok (.return_, 1) := by decide +kernel
theorem dX2_raysRound_0 : decode cX2_raysRound 0 = .ok (.aload_n 0, 1) := by decide +kernel
theorem dX2_raysRound_1 : decode cX2_raysRound 1 = .ok (.getfield 10, 3) := by decide +kernel
theorem dX2_raysRound_4 : decode cX2_raysRound 4 = .ok (.aload_n 1, 1) := by decide +kernel
theorem dX2_raysRound_5 : decode cX2_raysRound 5 = .ok (.invokevirtual 50, 3) := by decide +kernel
theorem dX2_raysRound_8 : decode cX2_raysRound 8 = .ok (.iconst 1, 1) := by decide +kernel
theorem dX2_raysRound_9 : decode cX2_raysRound 9 = .ok (.istore_n 3, 1) := by decide +kernel
theorem dX2_raysRound_10 : decode cX2_raysRound 10 = .ok (.iload_n 3, 1) := by decide +kernel
theorem dX2_raysRound_11 : decode cX2_raysRound 11 = .ok (.sipush 400, 3) := by decide +kernel
theorem dX2_raysRound_14 : decode cX2_raysRound 14 = .ok (.if_icmp .gt 35, 3) := by decide +kernel
theorem dX2_raysRound_17 : decode cX2_raysRound 17 = .ok (.aload_n 0, 1) := by decide +kernel
theorem dX2_raysRound_18 : decode cX2_raysRound 18 = .ok (.getfield 19, 3) := by decide +kernel
theorem dX2_raysRound_21 : decode cX2_raysRound 21 = .ok (.aload_n 0, 1) := by decide +kernel
theorem dX2_raysRound_22 : decode cX2_raysRound 22 = .ok (.getfield 10, 3) := by decide +kernel
theorem dX2_raysRound_25 : decode cX2_raysRound 25 = .ok (.iload_n 2, 1) := by decide +kernel
theorem dX2_raysRound_26 : decode cX2_raysRound 26 = .ok (.invokevirtual 54, 3) := by decide +kernel
theorem dX2_raysRound_29 : decode cX2_raysRound 29 = .ok (.pop, 1) := by decide +kernel
theorem dX2_raysRound_30 : decode cX2_raysRound 30 = .ok (.aload_n 0, 1) := by decide +kernel
theorem dX2_raysRound_31 : decode cX2_raysRound 31 = .ok (.getfield 10, 3) := by decide +kernel
theorem dX2_raysRound_34 : decode cX2_raysRound 34 = .ok (.aload_n 1, 1) := by decide +kernel
theorem dX2_raysRound_35 : decode cX2_raysRound 35 = .ok (.invokevirtual 58, 3) := by decide +kernel
theorem dX2_raysRound_38 : decode cX2_raysRound 38 = .ok (.ifCond .eq 5, 3) := by decide +kernel
theorem dX2_raysRound_41 : decode cX2_raysRound 41 = .ok (.iload_n 3, 1) := by decide +kernel
theorem dX2_raysRound_42 : decode cX2_raysRound 42 = .ok (.ireturn, 1) := by decide +kernel
theorem dX2_raysRound_43 : decode cX2_raysRound 43 = .ok (.iinc 3 1, 3) := by decide +kernel
theorem dX2_raysRound_46 : decode cX2_raysRound 46 = .ok (.goto (-36), 3) := by decide +kernel
theorem dX2_raysRound_49 : decode cX2_raysRound 49 = .ok (.iconst 0, 1) := by decide +kernel
theorem dX2_raysRound_50 : decode cX2_raysRound 50 = .ok (.ireturn, 1) := by decide +kernel
theorem dX2_raysBack_0 : decode cX2_raysBack 0 = .ok (.iconst 0, 1) := by decide +kernel
theorem dX2_raysBack_1 : decode cX2_raysBack 1 = .ok (.istore_n 3, 1) := by decide +kernel
theorem dX2_raysBack_2 : decode cX2_raysBack 2 = .ok (.iload_n 3, 1) := by decide +kernel
theorem dX2_raysBack_3 : decode cX2_raysBack 3 = .ok (.iconst 3, 1) := by decide +kernel
theorem dX2_raysBack_4 : decode cX2_raysBack 4 = .ok (.if_icmp .gt 29, 3) := by decide +kernel
theorem dX2_raysBack_7 : decode cX2_raysBack 7 = .ok (.aload_n 0, 1) := by decide +kernel
theorem dX2_raysBack_8 : decode cX2_raysBack 8 = .ok (.getfield 10, 3) := by decide +kernel
theorem dX2_raysBack_11 : decode cX2_raysBack 11 = .ok (.aload_n 1, 1) := by decide +kernel
theorem dX2_raysBack_12 : decode cX2_raysBack 12 = .ok (.invokevirtual 50, 3) := by decide +kernel
theorem dX2_raysBack_15 : decode cX2_raysBack 15 = .ok (.aload_n 0, 1) := by decide +kernel
theorem dX2_raysBack_16 : decode cX2_raysBack 16 = .ok (.iconst 0, 1) := by decide +kernel
theorem dX2_raysBack_17 : decode cX2_raysBack 17 = .ok (.iload_n 3, 1) := by decide +kernel
theorem dX2_raysBack_18 : decode cX2_raysBack 18 = .ok (.aload_n 2, 1) := by decide +kernel
theorem dX2_raysBack_19 : decode cX2_raysBack 19 = .ok (.invokevirtual 62, 3) := by decide +kernel
theorem dX2_raysBack_22 : decode cX2_raysBack 22 = .ok (.ifCond .eq 5, 3) := by decide +kernel
theorem dX2_raysBack_25 : decode cX2_raysBack 25 = .ok (.iload_n 3, 1) := by decide +kernel
theorem dX2_raysBack_26 : decode cX2_raysBack 26 = .ok (.ireturn, 1) := by decide +kernel
theorem dX2_raysBack_27 : decode cX2_raysBack 27 = .ok (.iinc 3 1, 3) := by decide +kernel
theorem dX2_raysBack_30 : decode cX2_raysBack 30 = .ok (.goto (-28), 3) := by decide +kernel
theorem dX2_raysBack_33 : decode cX2_raysBack 33 = .ok (.iconst (-1), 1) := by decide +kernel
theorem dX2_raysBack_34 : decode cX2_raysBack 34 = .ok (.ireturn, 1) := by decide +kernel
theorem dX2_leads_0 : decode cX2_leads 0 = .ok (.iload_n 1, 1) := by decide +kernel
theorem dX2_leads_1 : decode cX2_leads 1 = .ok (.iload_n 2, 1) := by decide +kernel
theorem dX2_leads_2 : decode cX2_leads 2 = .ok (.if_icmp .ge 8, 3) := by decide +kernel
theorem dX2_leads_5 : decode cX2_leads 5 = .ok (.iload_n 1, 1) := by decide +kernel
theorem dX2_leads_6 : decode cX2_leads 6 = .ok (.iconst 3, 1) := by decide +kernel
theorem dX2_leads_7 : decode cX2_leads 7 = .ok (.if_icmp .lt 14, 3) := by decide +kernel
theorem dX2_leads_10 : decode cX2_leads 10 = .ok (.aload_n 0, 1) := by decide +kernel
theorem dX2_leads_11 : decode cX2_leads 11 = .ok (.getfield 10, 3) := by decide +kernel
theorem dX2_leads_14 : decode cX2_leads 14 = .ok (.aload_n 3, 1) := by decide +kernel
theorem dX2_leads_15 : decode cX2_leads 15 = .ok (.invokevirtual 58, 3) := by decide +kernel
theorem dX2_leads_18 : decode cX2_leads 18 = .ok (.goto 10, 3) := by decide +kernel
theorem dX2_leads_21 : decode cX2_leads 21 = .ok (.aload_n 0, 1) := by decide +kernel
theorem dX2_leads_22 : decode cX2_leads 22 = .ok (.iload_n 1, 1) := by decide +kernel
theorem dX2_leads_23 : decode cX2_leads 23 = .ok (.iload_n 2, 1) := by decide +kernel
theorem dX2_leads_24 : decode cX2_leads 24 = .ok (.aload_n 3, 1) := by decide +kernel
theorem dX2_leads_25 : decode cX2_leads 25 = .ok (.invokevirtual 66, 3) := by decide +kernel
theorem dX2_leads_28 : decode cX2_leads 28 = .ok (.ireturn, 1) := by decide +kernel
theorem dX2_leadsByWindow_0 : decode cX2_leadsByWindow 0 = .ok (.aload_n 0, 1) := by decide +kernel
theorem dX2_leadsByWindow_1 : decode cX2_leadsByWindow 1 = .ok (.getfield 27, 3) := by decide +kernel
theorem dX2_leadsByWindow_4 : decode cX2_leadsByWindow 4 = .ok (.iload_n 1, 1) := by decide +kernel
theorem dX2_leadsByWindow_5 : decode cX2_leadsByWindow 5 = .ok (.aload_n 0, 1) := by decide +kernel
theorem dX2_leadsByWindow_6 : decode cX2_leadsByWindow 6 = .ok (.getfield 10, 3) := by decide +kernel
theorem dX2_leadsByWindow_9 : decode cX2_leadsByWindow 9 = .ok (.getfield 69, 3) := by decide +kernel
theorem dX2_leadsByWindow_12 : decode cX2_leadsByWindow 12 = .ok (.iastore, 1) := by decide +kernel
theorem dX2_leadsByWindow_13 : decode cX2_leadsByWindow 13 = .ok (.aload_n 0, 1) := by decide +kernel
theorem dX2_leadsByWindow_14 : decode cX2_leadsByWindow 14 = .ok (.getfield 30, 3) := by decide +kernel
theorem dX2_leadsByWindow_17 : decode cX2_leadsByWindow 17 = .ok (.iload_n 1, 1) := by decide +kernel
theorem dX2_leadsByWindow_18 : decode cX2_leadsByWindow 18 = .ok (.aload_n 0, 1) := by decide +kernel
theorem dX2_leadsByWindow_19 : decode cX2_leadsByWindow 19 = .ok (.getfield 10, 3) := by decide +kernel
theorem dX2_leadsByWindow_22 : decode cX2_leadsByWindow 22 = .ok (.getfield 72, 3) := by decide +kernel
theorem dX2_leadsByWindow_25 : decode cX2_leadsByWindow 25 = .ok (.lastore, 1) := by decide +kernel
theorem dX2_leadsByWindow_26 : decode cX2_leadsByWindow 26 = .ok (.iconst 0, 1) := by decide +kernel
theorem dX2_leadsByWindow_27 : decode cX2_leadsByWindow 27 = .ok (.istore 4, 2) := by decide +kernel
theorem dX2_leadsByWindow_29 : decode cX2_leadsByWindow 29 = .ok (.iload 4, 2) := by decide +kernel
theorem dX2_leadsByWindow_31 : decode cX2_leadsByWindow 31 = .ok (.aload_n 0, 1) := by decide +kernel
theorem dX2_leadsByWindow_32 : decode cX2_leadsByWindow 32 = .ok (.getfield 10, 3) := by decide +kernel
theorem dX2_leadsByWindow_35 : decode cX2_leadsByWindow 35 = .ok (.invokevirtual 76, 3) := by decide +kernel
theorem dX2_leadsByWindow_38 : decode cX2_leadsByWindow 38 = .ok (.if_icmp .ge 64, 3) := by decide +kernel
theorem dX2_leadsByWindow_41 : decode cX2_leadsByWindow 41 = .ok (.aload_n 0, 1) := by decide +kernel
theorem dX2_leadsByWindow_42 : decode cX2_leadsByWindow 42 = .ok (.getfield 10, 3) := by decide +kernel
theorem dX2_leadsByWindow_45 : decode cX2_leadsByWindow 45 = .ok (.aload_n 0, 1) := by decide +kernel
theorem dX2_leadsByWindow_46 : decode cX2_leadsByWindow 46 = .ok (.getfield 27, 3) := by decide +kernel
theorem dX2_leadsByWindow_49 : decode cX2_leadsByWindow 49 = .ok (.iload_n 1, 1) := by decide +kernel
theorem dX2_leadsByWindow_50 : decode cX2_leadsByWindow 50 = .ok (.iaload, 1) := by decide +kernel
theorem dX2_leadsByWindow_51 : decode cX2_leadsByWindow 51 = .ok (.aload_n 0, 1) := by decide +kernel
theorem dX2_leadsByWindow_52 : decode cX2_leadsByWindow 52 = .ok (.getfield 30, 3) := by decide +kernel
theorem dX2_leadsByWindow_55 : decode cX2_leadsByWindow 55 = .ok (.iload_n 1, 1) := by decide +kernel
theorem dX2_leadsByWindow_56 : decode cX2_leadsByWindow 56 = .ok (.laload, 1) := by decide +kernel
theorem dX2_leadsByWindow_57 : decode cX2_leadsByWindow 57 = .ok (.invokevirtual 80, 3) := by decide +kernel
theorem dX2_leadsByWindow_60 : decode cX2_leadsByWindow 60 = .ok (.aload_n 0, 1) := by decide +kernel
theorem dX2_leadsByWindow_61 : decode cX2_leadsByWindow 61 = .ok (.getfield 19, 3) := by decide +kernel
theorem dX2_leadsByWindow_64 : decode cX2_leadsByWindow 64 = .ok (.aload_n 0, 1) := by decide +kernel
theorem dX2_leadsByWindow_65 : decode cX2_leadsByWindow 65 = .ok (.getfield 10, 3) := by decide +kernel
theorem dX2_leadsByWindow_68 : decode cX2_leadsByWindow 68 = .ok (.iload 4, 2) := by decide +kernel
theorem dX2_leadsByWindow_70 : decode cX2_leadsByWindow 70 = .ok (.invokevirtual 54, 3) := by decide +kernel
theorem dX2_leadsByWindow_73 : decode cX2_leadsByWindow 73 = .ok (.pop, 1) := by decide +kernel
theorem dX2_leadsByWindow_74 : decode cX2_leadsByWindow 74 = .ok (.aload_n 0, 1) := by decide +kernel
theorem dX2_leadsByWindow_75 : decode cX2_leadsByWindow 75 = .ok (.getfield 23, 3) := by decide +kernel
theorem dX2_leadsByWindow_78 : decode cX2_leadsByWindow 78 = .ok (.iload_n 1, 1) := by decide +kernel
theorem dX2_leadsByWindow_79 : decode cX2_leadsByWindow 79 = .ok (.iload 4, 2) := by decide +kernel
theorem dX2_leadsByWindow_81 : decode cX2_leadsByWindow 81 = .ok (.iastore, 1) := by decide +kernel
theorem dX2_leadsByWindow_82 : decode cX2_leadsByWindow 82 = .ok (.aload_n 0, 1) := by decide +kernel
theorem dX2_leadsByWindow_83 : decode cX2_leadsByWindow 83 = .ok (.iload_n 1, 1) := by decide +kernel
theorem dX2_leadsByWindow_84 : decode cX2_leadsByWindow 84 = .ok (.iconst 1, 1) := by decide +kernel
theorem dX2_leadsByWindow_85 : decode cX2_leadsByWindow 85 = .ok (.iadd, 1) := by decide +kernel
theorem dX2_leadsByWindow_86 : decode cX2_leadsByWindow 86 = .ok (.iload_n 2, 1) := by decide +kernel
theorem dX2_leadsByWindow_87 : decode cX2_leadsByWindow 87 = .ok (.aload_n 3, 1) := by decide +kernel
theorem dX2_leadsByWindow_88 : decode cX2_leadsByWindow 88 = .ok (.invokevirtual 62, 3) := by decide +kernel
theorem dX2_leadsByWindow_91 : decode cX2_leadsByWindow 91 = .ok (.ifCond .eq 5, 3) := by decide +kernel
theorem dX2_leadsByWindow_94 : decode cX2_leadsByWindow 94 = .ok (.iconst 1, 1) := by decide +kernel
theorem dX2_leadsByWindow_95 : decode cX2_leadsByWindow 95 = .ok (.ireturn, 1) := by decide +kernel
theorem dX2_leadsByWindow_96 : decode cX2_leadsByWindow 96 = .ok (.iinc 4 1, 3) := by decide +kernel
theorem dX2_leadsByWindow_99 : decode cX2_leadsByWindow 99 = .ok (.goto (-70), 3) := by decide +kernel
theorem dX2_leadsByWindow_102 : decode cX2_leadsByWindow 102 = .ok (.iconst 0, 1) := by decide +kernel
theorem dX2_leadsByWindow_103 : decode cX2_leadsByWindow 103 = .ok (.ireturn, 1) := by decide +kernel
theorem dX2_standings_0 : decode cX2_standings 0 = .ok (.aload_n 0, 1) := by decide +kernel
theorem dX2_standings_1 : decode cX2_standings 1 = .ok (.getfield 10, 3) := by decide +kernel
theorem dX2_standings_4 : decode cX2_standings 4 = .ok (.aload_n 1, 1) := by decide +kernel
theorem dX2_standings_5 : decode cX2_standings 5 = .ok (.invokevirtual 50, 3) := by decide +kernel
theorem dX2_standings_8 : decode cX2_standings 8 = .ok (.aload_n 0, 1) := by decide +kernel
theorem dX2_standings_9 : decode cX2_standings 9 = .ok (.iconst 0, 1) := by decide +kernel
theorem dX2_standings_10 : decode cX2_standings 10 = .ok (.putfield 40, 3) := by decide +kernel
theorem dX2_standings_13 : decode cX2_standings 13 = .ok (.aload_n 0, 1) := by decide +kernel
theorem dX2_standings_14 : decode cX2_standings 14 = .ok (.invokevirtual 84, 3) := by decide +kernel
theorem dX2_standings_17 : decode cX2_standings 17 = .ok (.iconst 0, 1) := by decide +kernel
theorem dX2_standings_18 : decode cX2_standings 18 = .ok (.istore_n 2, 1) := by decide +kernel
theorem dX2_standings_19 : decode cX2_standings 19 = .ok (.iload_n 2, 1) := by decide +kernel
theorem dX2_standings_20 : decode cX2_standings 20 = .ok (.sipush 200, 3) := by decide +kernel
theorem dX2_standings_23 : decode cX2_standings 23 = .ok (.if_icmp .gt 82, 3) := by decide +kernel
theorem dX2_standings_26 : decode cX2_standings 26 = .ok (.iload_n 2, 1) := by decide +kernel
theorem dX2_standings_27 : decode cX2_standings 27 = .ok (.aload_n 0, 1) := by decide +kernel
theorem dX2_standings_28 : decode cX2_standings 28 = .ok (.getfield 40, 3) := by decide +kernel
theorem dX2_standings_31 : decode cX2_standings 31 = .ok (.if_icmp .ge 74, 3) := by decide +kernel
theorem dX2_standings_34 : decode cX2_standings 34 = .ok (.iconst 0, 1) := by decide +kernel
theorem dX2_standings_35 : decode cX2_standings 35 = .ok (.istore_n 3, 1) := by decide +kernel
theorem dX2_standings_36 : decode cX2_standings 36 = .ok (.iload_n 3, 1) := by decide +kernel
theorem dX2_standings_37 : decode cX2_standings 37 = .ok (.aload_n 0, 1) := by decide +kernel
theorem dX2_standings_38 : decode cX2_standings 38 = .ok (.getfield 10, 3) := by decide +kernel
theorem dX2_standings_41 : decode cX2_standings 41 = .ok (.invokevirtual 76, 3) := by decide +kernel
theorem dX2_standings_44 : decode cX2_standings 44 = .ok (.if_icmp .ge 55, 3) := by decide +kernel
theorem dX2_standings_47 : decode cX2_standings 47 = .ok (.aload_n 0, 1) := by decide +kernel
theorem dX2_standings_48 : decode cX2_standings 48 = .ok (.getfield 40, 3) := by decide +kernel
theorem dX2_standings_51 : decode cX2_standings 51 = .ok (.sipush 200, 3) := by decide +kernel
theorem dX2_standings_54 : decode cX2_standings 54 = .ok (.if_icmp .gt 45, 3) := by decide +kernel
theorem dX2_standings_57 : decode cX2_standings 57 = .ok (.aload_n 0, 1) := by decide +kernel
theorem dX2_standings_58 : decode cX2_standings 58 = .ok (.getfield 10, 3) := by decide +kernel
theorem dX2_standings_61 : decode cX2_standings 61 = .ok (.aload_n 0, 1) := by decide +kernel
theorem dX2_standings_62 : decode cX2_standings 62 = .ok (.getfield 34, 3) := by decide +kernel
theorem dX2_standings_65 : decode cX2_standings 65 = .ok (.iload_n 2, 1) := by decide +kernel
theorem dX2_standings_66 : decode cX2_standings 66 = .ok (.iaload, 1) := by decide +kernel
theorem dX2_standings_67 : decode cX2_standings 67 = .ok (.aload_n 0, 1) := by decide +kernel
theorem dX2_standings_68 : decode cX2_standings 68 = .ok (.getfield 37, 3) := by decide +kernel
theorem dX2_standings_71 : decode cX2_standings 71 = .ok (.iload_n 2, 1) := by decide +kernel
theorem dX2_standings_72 : decode cX2_standings 72 = .ok (.laload, 1) := by decide +kernel
theorem dX2_standings_73 : decode cX2_standings 73 = .ok (.invokevirtual 80, 3) := by decide +kernel
theorem dX2_standings_76 : decode cX2_standings 76 = .ok (.aload_n 0, 1) := by decide +kernel
theorem dX2_standings_77 : decode cX2_standings 77 = .ok (.getfield 19, 3) := by decide +kernel
theorem dX2_standings_80 : decode cX2_standings 80 = .ok (.aload_n 0, 1) := by decide +kernel
theorem dX2_standings_81 : decode cX2_standings 81 = .ok (.getfield 10, 3) := by decide +kernel
theorem dX2_standings_84 : decode cX2_standings 84 = .ok (.iload_n 3, 1) := by decide +kernel
theorem dX2_standings_85 : decode cX2_standings 85 = .ok (.invokevirtual 54, 3) := by decide +kernel
theorem dX2_standings_88 : decode cX2_standings 88 = .ok (.pop, 1) := by decide +kernel
theorem dX2_standings_89 : decode cX2_standings 89 = .ok (.aload_n 0, 1) := by decide +kernel
theorem dX2_standings_90 : decode cX2_standings 90 = .ok (.invokevirtual 84, 3) := by decide +kernel
theorem dX2_standings_93 : decode cX2_standings 93 = .ok (.iinc 3 1, 3) := by decide +kernel
theorem dX2_standings_96 : decode cX2_standings 96 = .ok (.goto (-60), 3) := by decide +kernel
theorem dX2_standings_99 : decode cX2_standings 99 = .ok (.iinc 2 1, 3) := by decide +kernel
theorem dX2_standings_102 : decode cX2_standings 102 = .ok (.goto (-83), 3) := by decide +kernel
theorem dX2_standings_105 : decode cX2_standings 105 = .ok (.aload_n 0, 1) := by decide +kernel
theorem dX2_standings_106 : decode cX2_standings 106 = .ok (.getfield 40, 3) := by decide +kernel
theorem dX2_standings_109 : decode cX2_standings 109 = .ok (.ireturn, 1) := by decide +kernel
theorem dX2_note_0 : decode cX2_note 0 = .ok (.iconst 0, 1) := by decide +kernel
theorem dX2_note_1 : decode cX2_note 1 = .ok (.istore_n 1, 1) := by decide +kernel
theorem dX2_note_2 : decode cX2_note 2 = .ok (.iload_n 1, 1) := by decide +kernel
theorem dX2_note_3 : decode cX2_note 3 = .ok (.aload_n 0, 1) := by decide +kernel
theorem dX2_note_4 : decode cX2_note 4 = .ok (.getfield 40, 3) := by decide +kernel
theorem dX2_note_7 : decode cX2_note 7 = .ok (.if_icmp .ge 52, 3) := by decide +kernel
theorem dX2_note_10 : decode cX2_note 10 = .ok (.iload_n 1, 1) := by decide +kernel
theorem dX2_note_11 : decode cX2_note 11 = .ok (.aload_n 0, 1) := by decide +kernel
theorem dX2_note_12 : decode cX2_note 12 = .ok (.getfield 34, 3) := by decide +kernel
theorem dX2_note_15 : decode cX2_note 15 = .ok (.arraylength, 1) := by decide +kernel
theorem dX2_note_16 : decode cX2_note 16 = .ok (.if_icmp .ge 43, 3) := by decide +kernel
theorem dX2_note_19 : decode cX2_note 19 = .ok (.aload_n 0, 1) := by decide +kernel
theorem dX2_note_20 : decode cX2_note 20 = .ok (.getfield 34, 3) := by decide +kernel
theorem dX2_note_23 : decode cX2_note 23 = .ok (.iload_n 1, 1) := by decide +kernel
theorem dX2_note_24 : decode cX2_note 24 = .ok (.iaload, 1) := by decide +kernel
theorem dX2_note_25 : decode cX2_note 25 = .ok (.aload_n 0, 1) := by decide +kernel
theorem dX2_note_26 : decode cX2_note 26 = .ok (.getfield 10, 3) := by decide +kernel
theorem dX2_note_29 : decode cX2_note 29 = .ok (.getfield 69, 3) := by decide +kernel
theorem dX2_note_32 : decode cX2_note 32 = .ok (.if_icmp .ne 21, 3) := by decide +kernel
theorem dX2_note_35 : decode cX2_note 35 = .ok (.aload_n 0, 1) := by decide +kernel
theorem dX2_note_36 : decode cX2_note 36 = .ok (.getfield 37, 3) := by decide +kernel
theorem dX2_note_39 : decode cX2_note 39 = .ok (.iload_n 1, 1) := by decide +kernel
theorem dX2_note_40 : decode cX2_note 40 = .ok (.laload, 1) := by decide +kernel
theorem dX2_note_41 : decode cX2_note 41 = .ok (.aload_n 0, 1) := by decide +kernel
theorem dX2_note_42 : decode cX2_note 42 = .ok (.getfield 10, 3) := by decide +kernel
theorem dX2_note_45 : decode cX2_note 45 = .ok (.getfield 72, 3) := by decide +kernel
theorem dX2_note_48 : decode cX2_note 48 = .ok (.lcmp, 1) := by decide +kernel
theorem dX2_note_49 : decode cX2_note 49 = .ok (.ifCond .ne 4, 3) := by decide +kernel
theorem dX2_note_52 : decode cX2_note 52 = .ok (.return_, 1) := by decide +kernel
theorem dX2_note_53 : decode cX2_note 53 = .ok (.iinc 1 1, 3) := by decide +kernel
theorem dX2_note_56 : decode cX2_note 56 = .ok (.goto (-54), 3) := by decide +kernel
theorem dX2_note_59 : decode cX2_note 59 = .ok (.aload_n 0, 1) := by decide +kernel
theorem dX2_note_60 : decode cX2_note 60 = .ok (.getfield 40, 3) := by decide +kernel
theorem dX2_note_63 : decode cX2_note 63 = .ok (.aload_n 0, 1) := by decide +kernel
theorem dX2_note_64 : decode cX2_note 64 = .ok (.getfield 34, 3) := by decide +kernel
theorem dX2_note_67 : decode cX2_note 67 = .ok (.arraylength, 1) := by decide +kernel
theorem dX2_note_68 : decode cX2_note 68 = .ok (.if_icmp .ge 45, 3) := by decide +kernel
theorem dX2_note_71 : decode cX2_note 71 = .ok (.aload_n 0, 1) := by decide +kernel
theorem dX2_note_72 : decode cX2_note 72 = .ok (.getfield 34, 3) := by decide +kernel
theorem dX2_note_75 : decode cX2_note 75 = .ok (.aload_n 0, 1) := by decide +kernel
theorem dX2_note_76 : decode cX2_note 76 = .ok (.getfield 40, 3) := by decide +kernel
theorem dX2_note_79 : decode cX2_note 79 = .ok (.aload_n 0, 1) := by decide +kernel
theorem dX2_note_80 : decode cX2_note 80 = .ok (.getfield 10, 3) := by decide +kernel
theorem dX2_note_83 : decode cX2_note 83 = .ok (.getfield 69, 3) := by decide +kernel
theorem dX2_note_86 : decode cX2_note 86 = .ok (.iastore, 1) := by decide +kernel
theorem dX2_note_87 : decode cX2_note 87 = .ok (.aload_n 0, 1) := by decide +kernel
theorem dX2_note_88 : decode cX2_note 88 = .ok (.getfield 37, 3) := by decide +kernel
theorem dX2_note_91 : decode cX2_note 91 = .ok (.aload_n 0, 1) := by decide +kernel
theorem dX2_note_92 : decode cX2_note 92 = .ok (.getfield 40, 3) := by decide +kernel
theorem dX2_note_95 : decode cX2_note 95 = .ok (.aload_n 0, 1) := by decide +kernel
theorem dX2_note_96 : decode cX2_note 96 = .ok (.getfield 10, 3) := by decide +kernel
theorem dX2_note_99 : decode cX2_note 99 = .ok (.getfield 72, 3) := by decide +kernel
theorem dX2_note_102 : decode cX2_note 102 = .ok (.lastore, 1) := by decide +kernel
theorem dX2_note_103 : decode cX2_note 103 = .ok (.aload_n 0, 1) := by decide +kernel
theorem dX2_note_104 : decode cX2_note 104 = .ok (.dup, 1) := by decide +kernel
theorem dX2_note_105 : decode cX2_note 105 = .ok (.getfield 40, 3) := by decide +kernel
theorem dX2_note_108 : decode cX2_note 108 = .ok (.iconst 1, 1) := by decide +kernel
theorem dX2_note_109 : decode cX2_note 109 = .ok (.iadd, 1) := by decide +kernel
theorem dX2_note_110 : decode cX2_note 110 = .ok (.putfield 40, 3) := by decide +kernel
theorem dX2_note_113 : decode cX2_note 113 = .ok (.return_, 1) := by decide +kernel
theorem dX2_findLongest_0 : decode cX2_findLongest 0 = .ok (.aload_n 0, 1) := by decide +kernel
theorem dX2_findLongest_1 : decode cX2_findLongest 1 = .ok (.iconst 0, 1) := by decide +kernel
theorem dX2_findLongest_2 : decode cX2_findLongest 2 = .ok (.putfield 44, 3) := by decide +kernel
theorem dX2_findLongest_5 : decode cX2_findLongest 5 = .ok (.aload_n 0, 1) := by decide +kernel
theorem dX2_findLongest_6 : decode cX2_findLongest 6 = .ok (.iconst 0, 1) := by decide +kernel
theorem dX2_findLongest_7 : decode cX2_findLongest 7 = .ok (.putfield 47, 3) := by decide +kernel
theorem dX2_findLongest_10 : decode cX2_findLongest 10 = .ok (.aload_n 0, 1) := by decide +kernel
theorem dX2_findLongest_11 : decode cX2_findLongest 11 = .ok (.getfield 10, 3) := by decide +kernel
theorem dX2_findLongest_14 : decode cX2_findLongest 14 = .ok (.aload_n 1, 1) := by decide +kernel
theorem dX2_findLongest_15 : decode cX2_findLongest 15 = .ok (.invokevirtual 50, 3) := by decide +kernel
theorem dX2_findLongest_18 : decode cX2_findLongest 18 = .ok (.iconst 0, 1) := by decide +kernel
theorem dX2_findLongest_19 : decode cX2_findLongest 19 = .ok (.istore_n 2, 1) := by decide +kernel
theorem dX2_findLongest_20 : decode cX2_findLongest 20 = .ok (.iload_n 2, 1) := by decide +kernel
theorem dX2_findLongest_21 : decode cX2_findLongest 21 = .ok (.aload_n 1, 1) := by decide +kernel
theorem dX2_findLongest_22 : decode cX2_findLongest 22 = .ok (.invokevirtual 76, 3) := by decide +kernel
theorem dX2_findLongest_25 : decode cX2_findLongest 25 = .ok (.if_icmp .ge 60, 3) := by decide +kernel
theorem dX2_findLongest_28 : decode cX2_findLongest 28 = .ok (.aload_n 0, 1) := by decide +kernel
theorem dX2_findLongest_29 : decode cX2_findLongest 29 = .ok (.getfield 10, 3) := by decide +kernel
theorem dX2_findLongest_32 : decode cX2_findLongest 32 = .ok (.aload_n 1, 1) := by decide +kernel
theorem dX2_findLongest_33 : decode cX2_findLongest 33 = .ok (.invokevirtual 87, 3) := by decide +kernel
theorem dX2_findLongest_36 : decode cX2_findLongest 36 = .ok (.aload_n 0, 1) := by decide +kernel
theorem dX2_findLongest_37 : decode cX2_findLongest 37 = .ok (.getfield 19, 3) := by decide +kernel
theorem dX2_findLongest_40 : decode cX2_findLongest 40 = .ok (.aload_n 0, 1) := by decide +kernel
theorem dX2_findLongest_41 : decode cX2_findLongest 41 = .ok (.getfield 10, 3) := by decide +kernel
theorem dX2_findLongest_44 : decode cX2_findLongest 44 = .ok (.iload_n 2, 1) := by decide +kernel
theorem dX2_findLongest_45 : decode cX2_findLongest 45 = .ok (.invokevirtual 54, 3) := by decide +kernel
theorem dX2_findLongest_48 : decode cX2_findLongest 48 = .ok (.pop, 1) := by decide +kernel
theorem dX2_findLongest_49 : decode cX2_findLongest 49 = .ok (.aload_n 0, 1) := by decide +kernel
theorem dX2_findLongest_50 : decode cX2_findLongest 50 = .ok (.getfield 19, 3) := by decide +kernel
theorem dX2_findLongest_53 : decode cX2_findLongest 53 = .ok (.getfield 90, 3) := by decide +kernel
theorem dX2_findLongest_56 : decode cX2_findLongest 56 = .ok (.aload_n 0, 1) := by decide +kernel
theorem dX2_findLongest_57 : decode cX2_findLongest 57 = .ok (.getfield 47, 3) := by decide +kernel
theorem dX2_findLongest_60 : decode cX2_findLongest 60 = .ok (.if_icmp .le 19, 3) := by decide +kernel
theorem dX2_findLongest_63 : decode cX2_findLongest 63 = .ok (.aload_n 0, 1) := by decide +kernel
theorem dX2_findLongest_64 : decode cX2_findLongest 64 = .ok (.aload_n 0, 1) := by decide +kernel
theorem dX2_findLongest_65 : decode cX2_findLongest 65 = .ok (.getfield 19, 3) := by decide +kernel
theorem dX2_findLongest_68 : decode cX2_findLongest 68 = .ok (.getfield 90, 3) := by decide +kernel
theorem dX2_findLongest_71 : decode cX2_findLongest 71 = .ok (.putfield 47, 3) := by decide +kernel
theorem dX2_findLongest_74 : decode cX2_findLongest 74 = .ok (.aload_n 0, 1) := by decide +kernel
theorem dX2_findLongest_75 : decode cX2_findLongest 75 = .ok (.iload_n 2, 1) := by decide +kernel
theorem dX2_findLongest_76 : decode cX2_findLongest 76 = .ok (.putfield 44, 3) := by decide +kernel
theorem dX2_findLongest_79 : decode cX2_findLongest 79 = .ok (.iinc 2 1, 3) := by decide +kernel
theorem dX2_findLongest_82 : decode cX2_findLongest 82 = .ok (.goto (-62), 3) := by decide +kernel
theorem dX2_findLongest_85 : decode cX2_findLongest 85 = .ok (.return_, 1) := by decide +kernel
theorem dX3_init_0 : decode cX3_init 0 = .ok (.aload_n 0, 1) := by decide +kernel
theorem dX3_init_1 : decode cX3_init 1 = .ok (.invokespecial 1, 3) := by decide +kernel
theorem dX3_init_4 : decode cX3_init 4 = .ok (.aload_n 0, 1) := by decide +kernel
theorem dX3_init_5 : decode cX3_init 5 = .ok (.iconst 1, 1) := by decide +kernel
theorem dX3_init_6 : decode cX3_init 6 = .ok (.putfield 7, 3) := by decide +kernel
theorem dX3_init_9 : decode cX3_init 9 = .ok (.aload_n 0, 1) := by decide +kernel
theorem dX3_init_10 : decode cX3_init 10 = .ok (.iconst 1, 1) := by decide +kernel
theorem dX3_init_11 : decode cX3_init 11 = .ok (.putfield 13, 3) := by decide +kernel
theorem dX3_init_14 : decode cX3_init 14 = .ok (.aload_n 0, 1) := by decide +kernel
theorem dX3_init_15 : decode cX3_init 15 = .ok (.bipush 25, 2) := by decide +kernel
theorem dX3_init_17 : decode cX3_init 17 = .ok (.newarray .int, 2) := by decide +kernel
theorem dX3_init_19 : decode cX3_init 19 = .ok (.putfield 16, 3) := by decide +kernel
theorem dX3_init_22 : decode cX3_init 22 = .ok (.aload_n 0, 1) := by decide +kernel
theorem dX3_init_23 : decode cX3_init 23 = .ok (.bipush 25, 2) := by decide +kernel
theorem dX3_init_25 : decode cX3_init 25 = .ok (.newarray .int, 2) := by decide +kernel
theorem dX3_init_27 : decode cX3_init 27 = .ok (.putfield 20, 3) := by decide +kernel
theorem dX3_init_30 : decode cX3_init 30 = .ok (.aload_n 0, 1) := by decide +kernel
theorem dX3_init_31 : decode cX3_init 31 = .ok (.bipush 25, 2) := by decide +kernel
theorem dX3_init_33 : decode cX3_init 33 = .ok (.newarray .int, 2) := by decide +kernel
theorem dX3_init_35 : decode cX3_init 35 = .ok (.putfield 23, 3) := by decide +kernel
theorem dX3_init_38 : decode cX3_init 38 = .ok (.aload_n 0, 1) := by decide +kernel
theorem dX3_init_39 : decode cX3_init 39 = .ok (.iconst 0, 1) := by decide +kernel
theorem dX3_init_40 : decode cX3_init 40 = .ok (.putfield 26, 3) := by decide +kernel
theorem dX3_init_43 : decode cX3_init 43 = .ok (.aload_n 0, 1) := by decide +kernel
theorem dX3_init_44 : decode cX3_init 44 = .ok (.lconst 0, 1) := by decide +kernel
theorem dX3_init_45 : decode cX3_init 45 = .ok (.putfield 29, 3) := by decide +kernel
theorem dX3_init_48 : decode cX3_init 48 = .ok (.return_, 1) := by decide +kernel
theorem dX3_above_0 : decode cX3_above 0 = .ok (.iload_n 0, 1) := by decide +kernel
theorem dX3_above_1 : decode cX3_above 1 = .ok (.iconst 0, 1) := by decide +kernel
theorem dX3_above_2 : decode cX3_above 2 = .ok (.getstatic 33, 3) := by decide +kernel
theorem dX3_above_5 : decode cX3_above 5 = .ok (.arraylength, 1) := by decide +kernel
theorem dX3_above_6 : decode cX3_above 6 = .ok (.iconst 1, 1) := by decide +kernel
theorem dX3_above_7 : decode cX3_above 7 = .ok (.isub, 1) := by decide +kernel
theorem dX3_above_8 : decode cX3_above 8 = .ok (.invokestatic 36, 3) := by decide +kernel
theorem dX3_above_11 : decode cX3_above 11 = .ok (.ifCond .eq 11, 3) := by decide +kernel
theorem dX3_above_14 : decode cX3_above 14 = .ok (.getstatic 33, 3) := by decide +kernel
theorem dX3_above_17 : decode cX3_above 17 = .ok (.iload_n 0, 1) := by decide +kernel
theorem dX3_above_18 : decode cX3_above 18 = .ok (.iaload, 1) := by decide +kernel
theorem dX3_above_19 : decode cX3_above 19 = .ok (.goto 4, 3) := by decide +kernel
theorem dX3_above_22 : decode cX3_above 22 = .ok (.iconst (-1), 1) := by decide +kernel
theorem dX3_above_23 : decode cX3_above 23 = .ok (.ireturn, 1) := by decide +kernel
theorem dX3_isOf_0 : decode cX3_isOf 0 = .ok (.iload_n 0, 1) := by decide +kernel
theorem dX3_isOf_1 : decode cX3_isOf 1 = .ok (.istore_n 2, 1) := by decide +kernel
theorem dX3_isOf_2 : decode cX3_isOf 2 = .ok (.iconst 0, 1) := by decide +kernel
theorem dX3_isOf_3 : decode cX3_isOf 3 = .ok (.istore_n 3, 1) := by decide +kernel
theorem dX3_isOf_4 : decode cX3_isOf 4 = .ok (.iload_n 3, 1) := by decide +kernel
theorem dX3_isOf_5 : decode cX3_isOf 5 = .ok (.bipush 7, 2) := by decide +kernel
theorem dX3_isOf_7 : decode cX3_isOf 7 = .ok (.if_icmp .ge 25, 3) := by decide +kernel
theorem dX3_isOf_10 : decode cX3_isOf 10 = .ok (.iload_n 2, 1) := by decide +kernel
theorem dX3_isOf_11 : decode cX3_isOf 11 = .ok (.ifCond .lt 21, 3) := by decide +kernel
theorem dX3_isOf_14 : decode cX3_isOf 14 = .ok (.iload_n 2, 1) := by decide +kernel
theorem dX3_isOf_15 : decode cX3_isOf 15 = .ok (.iload_n 1, 1) := by decide +kernel
theorem dX3_isOf_16 : decode cX3_isOf 16 = .ok (.if_icmp .ne 5, 3) := by decide +kernel
theorem dX3_isOf_19 : decode cX3_isOf 19 = .ok (.iconst 1, 1) := by decide +kernel
theorem dX3_isOf_20 : decode cX3_isOf 20 = .ok (.ireturn, 1) := by decide +kernel
theorem dX3_isOf_21 : decode cX3_isOf 21 = .ok (.iload_n 2, 1) := by decide +kernel
theorem dX3_isOf_22 : decode cX3_isOf 22 = .ok (.invokestatic 42, 3) := by decide +kernel
theorem dX3_isOf_25 : decode cX3_isOf 25 = .ok (.istore_n 2, 1) := by decide +kernel
theorem dX3_isOf_26 : decode cX3_isOf 26 = .ok (.iinc 3 1, 3) := by decide +kernel
theorem dX3_isOf_29 : decode cX3_isOf 29 = .ok (.goto (-25), 3) := by decide +kernel
theorem dX3_isOf_32 : decode cX3_isOf 32 = .ok (.iconst 0, 1) := by decide +kernel
theorem dX3_isOf_33 : decode cX3_isOf 33 = .ok (.ireturn, 1) := by decide +kernel
theorem dX3_throwsRays_0 : decode cX3_throwsRays 0 = .ok (.iload_n 0, 1) := by decide +kernel
theorem dX3_throwsRays_1 : decode cX3_throwsRays 1 = .ok (.iconst 1, 1) := by decide +kernel
theorem dX3_throwsRays_2 : decode cX3_throwsRays 2 = .ok (.if_icmp .eq 13, 3) := by decide +kernel
theorem dX3_throwsRays_5 : decode cX3_throwsRays 5 = .ok (.iload_n 0, 1) := by decide +kernel
theorem dX3_throwsRays_6 : decode cX3_throwsRays 6 = .ok (.iconst 4, 1) := by decide +kernel
theorem dX3_throwsRays_7 : decode cX3_throwsRays 7 = .ok (.if_icmp .eq 8, 3) := by decide +kernel
theorem dX3_throwsRays_10 : decode cX3_throwsRays 10 = .ok (.iload_n 0, 1) := by decide +kernel
theorem dX3_throwsRays_11 : decode cX3_throwsRays 11 = .ok (.iconst 5, 1) := by decide +kernel
theorem dX3_throwsRays_12 : decode cX3_throwsRays 12 = .ok (.if_icmp .ne 7, 3) := by decide +kernel
theorem dX3_throwsRays_15 : decode cX3_throwsRays 15 = .ok (.iconst 1, 1) := by decide +kernel
theorem dX3_throwsRays_16 : decode cX3_throwsRays 16 = .ok (.goto 4, 3) := by decide +kernel
theorem dX3_throwsRays_19 : decode cX3_throwsRays 19 = .ok (.iconst 0, 1) := by decide +kernel
theorem dX3_throwsRays_20 : decode cX3_throwsRays 20 = .ok (.ireturn, 1) := by decide +kernel
theorem dX3_stopsRays_0 : decode cX3_stopsRays 0 = .ok (.iload_n 0, 1) := by decide +kernel
theorem dX3_stopsRays_1 : decode cX3_stopsRays 1 = .ok (.iconst 3, 1) := by decide +kernel
theorem dX3_stopsRays_2 : decode cX3_stopsRays 2 = .ok (.if_icmp .eq 9, 3) := by decide +kernel
theorem dX3_stopsRays_5 : decode cX3_stopsRays 5 = .ok (.iload_n 0, 1) := by decide +kernel
theorem dX3_stopsRays_6 : decode cX3_stopsRays 6 = .ok (.bipush 6, 2) := by decide +kernel
theorem dX3_stopsRays_8 : decode cX3_stopsRays 8 = .ok (.if_icmp .ne 7, 3) := by decide +kernel
theorem dX3_stopsRays_11 : decode cX3_stopsRays 11 = .ok (.iconst 1, 1) := by decide +kernel
theorem dX3_stopsRays_12 : decode cX3_stopsRays 12 = .ok (.goto 4, 3) := by decide +kernel
theorem dX3_stopsRays_15 : decode cX3_stopsRays 15 = .ok (.iconst 0, 1) := by decide +kernel
theorem dX3_stopsRays_16 : decode cX3_stopsRays 16 = .ok (.ireturn, 1) := by decide +kernel
theorem dX3_squares_0 : decode cX3_squares 0 = .ok (.aload_n 0, 1) := by decide +kernel
theorem dX3_squares_1 : decode cX3_squares 1 = .ok (.getfield 7, 3) := by decide +kernel
theorem dX3_squares_4 : decode cX3_squares 4 = .ok (.aload_n 0, 1) := by decide +kernel
theorem dX3_squares_5 : decode cX3_squares 5 = .ok (.getfield 13, 3) := by decide +kernel
theorem dX3_squares_8 : decode cX3_squares 8 = .ok (.imul, 1) := by decide +kernel
theorem dX3_squares_9 : decode cX3_squares 9 = .ok (.ireturn, 1) := by decide +kernel
theorem dX3_windows_0 : decode cX3_windows 0 = .ok (.iconst 2, 1) := by decide +kernel
theorem dX3_windows_1 : decode cX3_windows 1 = .ok (.aload_n 0, 1) := by decide +kernel
theorem dX3_windows_2 : decode cX3_windows 2 = .ok (.getfield 7, 3) := by decide +kernel
theorem dX3_windows_5 : decode cX3_windows 5 = .ok (.aload_n 0, 1) := by decide +kernel
theorem dX3_windows_6 : decode cX3_windows 6 = .ok (.getfield 13, 3) := by decide +kernel
theorem dX3_windows_9 : decode cX3_windows 9 = .ok (.iadd, 1) := by decide +kernel
theorem dX3_windows_10 : decode cX3_windows 10 = .ok (.imul, 1) := by decide +kernel
theorem dX3_windows_11 : decode cX3_windows 11 = .ok (.ireturn, 1) := by decide +kernel
theorem dX3_hasSquare_0 : decode cX3_hasSquare 0 = .ok (.iload_n 1, 1) := by decide +kernel
theorem dX3_hasSquare_1 : decode cX3_hasSquare 1 = .ok (.iconst 0, 1) := by decide +kernel
theorem dX3_hasSquare_2 : decode cX3_hasSquare 2 = .ok (.aload_n 0, 1) := by decide +kernel
theorem dX3_hasSquare_3 : decode cX3_hasSquare 3 = .ok (.invokevirtual 46, 3) := by decide +kernel
theorem dX3_hasSquare_6 : decode cX3_hasSquare 6 = .ok (.iconst 1, 1) := by decide +kernel
theorem dX3_hasSquare_7 : decode cX3_hasSquare 7 = .ok (.isub, 1) := by decide +kernel
theorem dX3_hasSquare_8 : decode cX3_hasSquare 8 = .ok (.invokestatic 36, 3) := by decide +kernel
theorem dX3_hasSquare_11 : decode cX3_hasSquare 11 = .ok (.ireturn, 1) := by decide +kernel
theorem dX3_hasWindow_0 : decode cX3_hasWindow 0 = .ok (.iload_n 1, 1) := by decide +kernel
theorem dX3_hasWindow_1 : decode cX3_hasWindow 1 = .ok (.iconst 0, 1) := by decide +kernel
theorem dX3_hasWindow_2 : decode cX3_hasWindow 2 = .ok (.aload_n 0, 1) := by decide +kernel
theorem dX3_hasWindow_3 : decode cX3_hasWindow 3 = .ok (.invokevirtual 50, 3) := by decide +kernel
theorem dX3_hasWindow_6 : decode cX3_hasWindow 6 = .ok (.iconst 1, 1) := by decide +kernel
theorem dX3_hasWindow_7 : decode cX3_hasWindow 7 = .ok (.isub, 1) := by decide +kernel
theorem dX3_hasWindow_8 : decode cX3_hasWindow 8 = .ok (.invokestatic 36, 3) := by decide +kernel
theorem dX3_hasWindow_11 : decode cX3_hasWindow 11 = .ok (.ireturn, 1) := by decide +kernel
theorem dX3_hasMask_0 : decode cX3_hasMask 0 = .ok (.iload_n 1, 1) := by decide +kernel
theorem dX3_hasMask_1 : decode cX3_hasMask 1 = .ok (.iconst 0, 1) := by decide +kernel
theorem dX3_hasMask_2 : decode cX3_hasMask 2 = .ok (.iconst 1, 1) := by decide +kernel
theorem dX3_hasMask_3 : decode cX3_hasMask 3 = .ok (.aload_n 0, 1) := by decide +kernel
theorem dX3_hasMask_4 : decode cX3_hasMask 4 = .ok (.invokevirtual 46, 3) := by decide +kernel
theorem dX3_hasMask_7 : decode cX3_hasMask 7 = .ok (.ishl, 1) := by decide +kernel
theorem dX3_hasMask_8 : decode cX3_hasMask 8 = .ok (.iconst 1, 1) := by decide +kernel
theorem dX3_hasMask_9 : decode cX3_hasMask 9 = .ok (.isub, 1) := by decide +kernel
theorem dX3_hasMask_10 : decode cX3_hasMask 10 = .ok (.invokestatic 36, 3) := by decide +kernel
theorem dX3_hasMask_13 : decode cX3_hasMask 13 = .ok (.ireturn, 1) := by decide +kernel
theorem dX3_isSizedAs_0 : decode cX3_isSizedAs 0 = .ok (.aload_n 0, 1) := by decide +kernel
theorem dX3_isSizedAs_1 : decode cX3_isSizedAs 1 = .ok (.getfield 7, 3) := by decide +kernel
theorem dX3_isSizedAs_4 : decode cX3_isSizedAs 4 = .ok (.aload_n 1, 1) := by decide +kernel
theorem dX3_isSizedAs_5 : decode cX3_isSizedAs 5 = .ok (.getfield 7, 3) := by decide +kernel
theorem dX3_isSizedAs_8 : decode cX3_isSizedAs 8 = .ok (.if_icmp .ne 18, 3) := by decide +kernel
theorem dX3_isSizedAs_11 : decode cX3_isSizedAs 11 = .ok (.aload_n 0, 1) := by decide +kernel
theorem dX3_isSizedAs_12 : decode cX3_isSizedAs 12 = .ok (.getfield 13, 3) := by decide +kernel
theorem dX3_isSizedAs_15 : decode cX3_isSizedAs 15 = .ok (.aload_n 1, 1) := by decide +kernel
theorem dX3_isSizedAs_16 : decode cX3_isSizedAs 16 = .ok (.getfield 13, 3) := by decide +kernel
theorem dX3_isSizedAs_19 : decode cX3_isSizedAs 19 = .ok (.if_icmp .ne 7, 3) := by decide +kernel
theorem dX3_isSizedAs_22 : decode cX3_isSizedAs 22 = .ok (.iconst 1, 1) := by decide +kernel
theorem dX3_isSizedAs_23 : decode cX3_isSizedAs 23 = .ok (.goto 4, 3) := by decide +kernel
theorem dX3_isSizedAs_26 : decode cX3_isSizedAs 26 = .ok (.iconst 0, 1) := by decide +kernel
theorem dX3_isSizedAs_27 : decode cX3_isSizedAs 27 = .ok (.ireturn, 1) := by decide +kernel
theorem dX3_clear_0 : decode cX3_clear 0 = .ok (.aload_n 0, 1) := by decide +kernel
theorem dX3_clear_1 : decode cX3_clear 1 = .ok (.iload_n 1, 1) := by decide +kernel
theorem dX3_clear_2 : decode cX3_clear 2 = .ok (.putfield 7, 3) := by decide +kernel
theorem dX3_clear_5 : decode cX3_clear 5 = .ok (.aload_n 0, 1) := by decide +kernel
theorem dX3_clear_6 : decode cX3_clear 6 = .ok (.iload_n 2, 1) := by decide +kernel
theorem dX3_clear_7 : decode cX3_clear 7 = .ok (.putfield 13, 3) := by decide +kernel
theorem dX3_clear_10 : decode cX3_clear 10 = .ok (.aload_n 0, 1) := by decide +kernel
theorem dX3_clear_11 : decode cX3_clear 11 = .ok (.getfield 16, 3) := by decide +kernel
theorem dX3_clear_14 : decode cX3_clear 14 = .ok (.iconst 0, 1) := by decide +kernel
theorem dX3_clear_15 : decode cX3_clear 15 = .ok (.invokestatic 53, 3) := by decide +kernel
theorem dX3_clear_18 : decode cX3_clear 18 = .ok (.aload_n 0, 1) := by decide +kernel
theorem dX3_clear_19 : decode cX3_clear 19 = .ok (.getfield 20, 3) := by decide +kernel
theorem dX3_clear_22 : decode cX3_clear 22 = .ok (.iconst 0, 1) := by decide +kernel
theorem dX3_clear_23 : decode cX3_clear 23 = .ok (.invokestatic 53, 3) := by decide +kernel
theorem dX3_clear_26 : decode cX3_clear 26 = .ok (.aload_n 0, 1) := by decide +kernel
theorem dX3_clear_27 : decode cX3_clear 27 = .ok (.getfield 23, 3) := by decide +kernel
theorem dX3_clear_30 : decode cX3_clear 30 = .ok (.iconst 0, 1) := by decide +kernel
theorem dX3_clear_31 : decode cX3_clear 31 = .ok (.invokestatic 53, 3) := by decide +kernel
theorem dX3_clear_34 : decode cX3_clear 34 = .ok (.aload_n 0, 1) := by decide +kernel
theorem dX3_clear_35 : decode cX3_clear 35 = .ok (.iconst 0, 1) := by decide +kernel
theorem dX3_clear_36 : decode cX3_clear 36 = .ok (.putfield 26, 3) := by decide +kernel
theorem dX3_clear_39 : decode cX3_clear 39 = .ok (.aload_n 0, 1) := by decide +kernel
theorem dX3_clear_40 : decode cX3_clear 40 = .ok (.lconst 0, 1) := by decide +kernel
theorem dX3_clear_41 : decode cX3_clear 41 = .ok (.putfield 29, 3) := by decide +kernel
theorem dX3_clear_44 : decode cX3_clear 44 = .ok (.return_, 1) := by decide +kernel
theorem dX3_copyFrom_0 : decode cX3_copyFrom 0 = .ok (.aload_n 0, 1) := by decide +kernel
theorem dX3_copyFrom_1 : decode cX3_copyFrom 1 = .ok (.aload_n 1, 1) := by decide +kernel
theorem dX3_copyFrom_2 : decode cX3_copyFrom 2 = .ok (.getfield 7, 3) := by decide +kernel
theorem dX3_copyFrom_5 : decode cX3_copyFrom 5 = .ok (.putfield 7, 3) := by decide +kernel
theorem dX3_copyFrom_8 : decode cX3_copyFrom 8 = .ok (.aload_n 0, 1) := by decide +kernel
theorem dX3_copyFrom_9 : decode cX3_copyFrom 9 = .ok (.aload_n 1, 1) := by decide +kernel
theorem dX3_copyFrom_10 : decode cX3_copyFrom 10 = .ok (.getfield 13, 3) := by decide +kernel
theorem dX3_copyFrom_13 : decode cX3_copyFrom 13 = .ok (.putfield 13, 3) := by decide +kernel
theorem dX3_copyFrom_16 : decode cX3_copyFrom 16 = .ok (.aload_n 1, 1) := by decide +kernel
theorem dX3_copyFrom_17 : decode cX3_copyFrom 17 = .ok (.getfield 16, 3) := by decide +kernel
theorem dX3_copyFrom_20 : decode cX3_copyFrom 20 = .ok (.iconst 0, 1) := by decide +kernel
theorem dX3_copyFrom_21 : decode cX3_copyFrom 21 = .ok (.aload_n 0, 1) := by decide +kernel
theorem dX3_copyFrom_22 : decode cX3_copyFrom 22 = .ok (.getfield 16, 3) := by decide +kernel
theorem dX3_copyFrom_25 : decode cX3_copyFrom 25 = .ok (.iconst 0, 1) := by decide +kernel
theorem dX3_copyFrom_26 : decode cX3_copyFrom 26 = .ok (.bipush 25, 2) := by decide +kernel
theorem dX3_copyFrom_28 : decode cX3_copyFrom 28 = .ok (.invokestatic 59, 3) := by decide +kernel
theorem dX3_copyFrom_31 : decode cX3_copyFrom 31 = .ok (.aload_n 1, 1) := by decide +kernel
theorem dX3_copyFrom_32 : decode cX3_copyFrom 32 = .ok (.getfield 20, 3) := by decide +kernel
theorem dX3_copyFrom_35 : decode cX3_copyFrom 35 = .ok (.iconst 0, 1) := by decide +kernel
theorem dX3_copyFrom_36 : decode cX3_copyFrom 36 = .ok (.aload_n 0, 1) := by decide +kernel
theorem dX3_copyFrom_37 : decode cX3_copyFrom 37 = .ok (.getfield 20, 3) := by decide +kernel
theorem dX3_copyFrom_40 : decode cX3_copyFrom 40 = .ok (.iconst 0, 1) := by decide +kernel
theorem dX3_copyFrom_41 : decode cX3_copyFrom 41 = .ok (.bipush 25, 2) := by decide +kernel
theorem dX3_copyFrom_43 : decode cX3_copyFrom 43 = .ok (.invokestatic 59, 3) := by decide +kernel
theorem dX3_copyFrom_46 : decode cX3_copyFrom 46 = .ok (.aload_n 1, 1) := by decide +kernel
theorem dX3_copyFrom_47 : decode cX3_copyFrom 47 = .ok (.getfield 23, 3) := by decide +kernel
theorem dX3_copyFrom_50 : decode cX3_copyFrom 50 = .ok (.iconst 0, 1) := by decide +kernel
theorem dX3_copyFrom_51 : decode cX3_copyFrom 51 = .ok (.aload_n 0, 1) := by decide +kernel
theorem dX3_copyFrom_52 : decode cX3_copyFrom 52 = .ok (.getfield 23, 3) := by decide +kernel
theorem dX3_copyFrom_55 : decode cX3_copyFrom 55 = .ok (.iconst 0, 1) := by decide +kernel
theorem dX3_copyFrom_56 : decode cX3_copyFrom 56 = .ok (.bipush 25, 2) := by decide +kernel
theorem dX3_copyFrom_58 : decode cX3_copyFrom 58 = .ok (.invokestatic 59, 3) := by decide +kernel
theorem dX3_copyFrom_61 : decode cX3_copyFrom 61 = .ok (.aload_n 0, 1) := by decide +kernel
theorem dX3_copyFrom_62 : decode cX3_copyFrom 62 = .ok (.aload_n 1, 1) := by decide +kernel
theorem dX3_copyFrom_63 : decode cX3_copyFrom 63 = .ok (.invokevirtual 65, 3) := by decide +kernel
theorem dX3_copyFrom_66 : decode cX3_copyFrom 66 = .ok (.return_, 1) := by decide +kernel
theorem dX3_standAs_0 : decode cX3_standAs 0 = .ok (.aload_n 0, 1) := by decide +kernel
theorem dX3_standAs_1 : decode cX3_standAs 1 = .ok (.aload_n 1, 1) := by decide +kernel
theorem dX3_standAs_2 : decode cX3_standAs 2 = .ok (.getfield 26, 3) := by decide +kernel
theorem dX3_standAs_5 : decode cX3_standAs 5 = .ok (.aload_n 1, 1) := by decide +kernel
theorem dX3_standAs_6 : decode cX3_standAs 6 = .ok (.getfield 29, 3) := by decide +kernel
theorem dX3_standAs_9 : decode cX3_standAs 9 = .ok (.invokevirtual 69, 3) := by decide +kernel
theorem dX3_standAs_12 : decode cX3_standAs 12 = .ok (.return_, 1) := by decide +kernel
theorem dX3_stand_0 : decode cX3_stand 0 = .ok (.aload_n 0, 1) := by decide +kernel
theorem dX3_stand_1 : decode cX3_stand 1 = .ok (.iload_n 1, 1) := by decide +kernel
theorem dX3_stand_2 : decode cX3_stand 2 = .ok (.putfield 26, 3) := by decide +kernel
theorem dX3_stand_5 : decode cX3_stand 5 = .ok (.aload_n 0, 1) := by decide +kernel
theorem dX3_stand_6 : decode cX3_stand 6 = .ok (.lload_n 2, 1) := by decide +kernel
theorem dX3_stand_7 : decode cX3_stand 7 = .ok (.putfield 29, 3) := by decide +kernel
theorem dX3_stand_10 : decode cX3_stand 10 = .ok (.return_, 1) := by decide +kernel
theorem dX3_standsAs_0 : decode cX3_standsAs 0 = .ok (.aload_n 0, 1) := by decide +kernel
theorem dX3_standsAs_1 : decode cX3_standsAs 1 = .ok (.getfield 26, 3) := by decide +kernel
theorem dX3_standsAs_4 : decode cX3_standsAs 4 = .ok (.aload_n 1, 1) := by decide +kernel
theorem dX3_standsAs_5 : decode cX3_standsAs 5 = .ok (.getfield 26, 3) := by decide +kernel
theorem dX3_standsAs_8 : decode cX3_standsAs 8 = .ok (.if_icmp .ne 19, 3) := by decide +kernel
theorem dX3_standsAs_11 : decode cX3_standsAs 11 = .ok (.aload_n 0, 1) := by decide +kernel
theorem dX3_standsAs_12 : decode cX3_standsAs 12 = .ok (.getfield 29, 3) := by decide +kernel
theorem dX3_standsAs_15 : decode cX3_standsAs 15 = .ok (.aload_n 1, 1) := by decide +kernel
theorem dX3_standsAs_16 : decode cX3_standsAs 16 = .ok (.getfield 29, 3) := by decide +kernel
theorem dX3_standsAs_19 : decode cX3_standsAs 19 = .ok (.lcmp, 1) := by decide +kernel
theorem dX3_standsAs_20 : decode cX3_standsAs 20 = .ok (.ifCond .ne 7, 3) := by decide +kernel
theorem dX3_standsAs_23 : decode cX3_standsAs 23 = .ok (.iconst 1, 1) := by decide +kernel
theorem dX3_standsAs_24 : decode cX3_standsAs 24 = .ok (.goto 4, 3) := by decide +kernel
theorem dX3_standsAs_27 : decode cX3_standsAs 27 = .ok (.iconst 0, 1) := by decide +kernel
theorem dX3_standsAs_28 : decode cX3_standsAs 28 = .ok (.ireturn, 1) := by decide +kernel
theorem dX3_become_0 : decode cX3_become 0 = .ok (.aload_n 0, 1) := by decide +kernel
theorem dX3_become_1 : decode cX3_become 1 = .ok (.getfield 16, 3) := by decide +kernel
theorem dX3_become_4 : decode cX3_become 4 = .ok (.iload_n 1, 1) := by decide +kernel
theorem dX3_become_5 : decode cX3_become 5 = .ok (.iload_n 2, 1) := by decide +kernel
theorem dX3_become_6 : decode cX3_become 6 = .ok (.iastore, 1) := by decide +kernel
theorem dX3_become_7 : decode cX3_become 7 = .ok (.aload_n 0, 1) := by decide +kernel
theorem dX3_become_8 : decode cX3_become 8 = .ok (.getfield 20, 3) := by decide +kernel
theorem dX3_become_11 : decode cX3_become 11 = .ok (.iload_n 1, 1) := by decide +kernel
theorem dX3_become_12 : decode cX3_become 12 = .ok (.iload_n 3, 1) := by decide +kernel
theorem dX3_become_13 : decode cX3_become 13 = .ok (.iastore, 1) := by decide +kernel
theorem dX3_become_14 : decode cX3_become 14 = .ok (.aload_n 0, 1) := by decide +kernel
theorem dX3_become_15 : decode cX3_become 15 = .ok (.aload_n 0, 1) := by decide +kernel
theorem dX3_become_16 : decode cX3_become 16 = .ok (.getfield 26, 3) := by decide +kernel
theorem dX3_become_19 : decode cX3_become 19 = .ok (.iconst 1, 1) := by decide +kernel
theorem dX3_become_20 : decode cX3_become 20 = .ok (.iload_n 1, 1) := by decide +kernel
theorem dX3_become_21 : decode cX3_become 21 = .ok (.ishl, 1) := by decide +kernel
theorem dX3_become_22 : decode cX3_become 22 = .ok (.iconst (-1), 1) := by decide +kernel
theorem dX3_become_23 : decode cX3_become 23 = .ok (.ixor, 1) := by decide +kernel
theorem dX3_become_24 : decode cX3_become 24 = .ok (.iand, 1) := by decide +kernel
theorem dX3_become_25 : decode cX3_become 25 = .ok (.iload 4, 2) := by decide +kernel
theorem dX3_become_27 : decode cX3_become 27 = .ok (.iload_n 1, 1) := by decide +kernel
theorem dX3_become_28 : decode cX3_become 28 = .ok (.ishl, 1) := by decide +kernel
theorem dX3_become_29 : decode cX3_become 29 = .ok (.ior, 1) := by decide +kernel
theorem dX3_become_30 : decode cX3_become 30 = .ok (.putfield 26, 3) := by decide +kernel
theorem dX3_become_33 : decode cX3_become 33 = .ok (.aload_n 0, 1) := by decide +kernel
theorem dX3_become_34 : decode cX3_become 34 = .ok (.iload_n 1, 1) := by decide +kernel
theorem dX3_become_35 : decode cX3_become 35 = .ok (.iconst 0, 1) := by decide +kernel
theorem dX3_become_36 : decode cX3_become 36 = .ok (.invokevirtual 73, 3) := by decide +kernel
theorem dX3_become_39 : decode cX3_become 39 = .ok (.return_, 1) := by decide +kernel
theorem dX3_slantOf_0 : decode cX3_slantOf 0 = .ok (.aload_n 0, 1) := by decide +kernel
theorem dX3_slantOf_1 : decode cX3_slantOf 1 = .ok (.getfield 26, 3) := by decide +kernel
theorem dX3_slantOf_4 : decode cX3_slantOf 4 = .ok (.iload_n 1, 1) := by decide +kernel
theorem dX3_slantOf_5 : decode cX3_slantOf 5 = .ok (.iushr, 1) := by decide +kernel
theorem dX3_slantOf_6 : decode cX3_slantOf 6 = .ok (.iconst 1, 1) := by decide +kernel
theorem dX3_slantOf_7 : decode cX3_slantOf 7 = .ok (.iand, 1) := by decide +kernel
theorem dX3_slantOf_8 : decode cX3_slantOf 8 = .ok (.ireturn, 1) := by decide +kernel
theorem dX3_timeOf_0 : decode cX3_timeOf 0 = .ok (.aload_n 0, 1) := by decide +kernel
theorem dX3_timeOf_1 : decode cX3_timeOf 1 = .ok (.getfield 29, 3) := by decide +kernel
theorem dX3_timeOf_4 : decode cX3_timeOf 4 = .ok (.iconst 2, 1) := by decide +kernel
theorem dX3_timeOf_5 : decode cX3_timeOf 5 = .ok (.iload_n 1, 1) := by decide +kernel
theorem dX3_timeOf_6 : decode cX3_timeOf 6 = .ok (.imul, 1) := by decide +kernel
theorem dX3_timeOf_7 : decode cX3_timeOf 7 = .ok (.lushr, 1) := by decide +kernel
theorem dX3_timeOf_8 : decode cX3_timeOf 8 = .ok (.ldc2_w 77, 3) := by decide +kernel
theorem dX3_timeOf_11 : decode cX3_timeOf 11 = .ok (.land, 1) := by decide +kernel
theorem dX3_timeOf_12 : decode cX3_timeOf 12 = .ok (.l2i, 1) := by decide +kernel
theorem dX3_timeOf_13 : decode cX3_timeOf 13 = .ok (.ireturn, 1) := by decide +kernel
theorem dX3_putTime_0 : decode cX3_putTime 0 = .ok (.aload_n 0, 1) := by decide +kernel
theorem dX3_putTime_1 : decode cX3_putTime 1 = .ok (.aload_n 0, 1) := by decide +kernel
theorem dX3_putTime_2 : decode cX3_putTime 2 = .ok (.getfield 29, 3) := by decide +kernel
theorem dX3_putTime_5 : decode cX3_putTime 5 = .ok (.ldc2_w 77, 3) := by decide +kernel
theorem dX3_putTime_8 : decode cX3_putTime 8 = .ok (.iconst 2, 1) := by decide +kernel
theorem dX3_putTime_9 : decode cX3_putTime 9 = .ok (.iload_n 1, 1) := by decide +kernel
theorem dX3_putTime_10 : decode cX3_putTime 10 = .ok (.imul, 1) := by decide +kernel
theorem dX3_putTime_11 : decode cX3_putTime 11 = .ok (.lshl, 1) := by decide +kernel
theorem dX3_putTime_12 : decode cX3_putTime 12 = .ok (.ldc2_w 79, 3) := by decide +kernel
theorem dX3_putTime_15 : decode cX3_putTime 15 = .ok (.lxor, 1) := by decide +kernel
theorem dX3_putTime_16 : decode cX3_putTime 16 = .ok (.land, 1) := by decide +kernel
theorem dX3_putTime_17 : decode cX3_putTime 17 = .ok (.iload_n 2, 1) := by decide +kernel
theorem dX3_putTime_18 : decode cX3_putTime 18 = .ok (.i2l, 1) := by decide +kernel
theorem dX3_putTime_19 : decode cX3_putTime 19 = .ok (.iconst 2, 1) := by decide +kernel
theorem dX3_putTime_20 : decode cX3_putTime 20 = .ok (.iload_n 1, 1) := by decide +kernel
theorem dX3_putTime_21 : decode cX3_putTime 21 = .ok (.imul, 1) := by decide +kernel
theorem dX3_putTime_22 : decode cX3_putTime 22 = .ok (.lshl, 1) := by decide +kernel
theorem dX3_putTime_23 : decode cX3_putTime 23 = .ok (.lor, 1) := by decide +kernel
theorem dX3_putTime_24 : decode cX3_putTime 24 = .ok (.putfield 29, 3) := by decide +kernel
theorem dX3_putTime_27 : decode cX3_putTime 27 = .ok (.return_, 1) := by decide +kernel
theorem dX3_handCan_0 : decode cX3_handCan 0 = .ok (.aload_n 0, 1) := by decide +kernel
theorem dX3_handCan_1 : decode cX3_handCan 1 = .ok (.getfield 16, 3) := by decide +kernel
theorem dX3_handCan_4 : decode cX3_handCan 4 = .ok (.iload_n 1, 1) := by decide +kernel
theorem dX3_handCan_5 : decode cX3_handCan 5 = .ok (.iaload, 1) := by decide +kernel
theorem dX3_handCan_6 : decode cX3_handCan 6 = .ok (.iconst 1, 1) := by decide +kernel
theorem dX3_handCan_7 : decode cX3_handCan 7 = .ok (.if_icmp .eq 13, 3) := by decide +kernel
theorem dX3_handCan_10 : decode cX3_handCan 10 = .ok (.aload_n 0, 1) := by decide +kernel
theorem dX3_handCan_11 : decode cX3_handCan 11 = .ok (.getfield 16, 3) := by decide +kernel
theorem dX3_handCan_14 : decode cX3_handCan 14 = .ok (.iload_n 1, 1) := by decide +kernel
theorem dX3_handCan_15 : decode cX3_handCan 15 = .ok (.iaload, 1) := by decide +kernel
theorem dX3_handCan_16 : decode cX3_handCan 16 = .ok (.iconst 5, 1) := by decide +kernel
theorem dX3_handCan_17 : decode cX3_handCan 17 = .ok (.if_icmp .ne 7, 3) := by decide +kernel
theorem dX3_handCan_20 : decode cX3_handCan 20 = .ok (.iconst 1, 1) := by decide +kernel
theorem dX3_handCan_21 : decode cX3_handCan 21 = .ok (.goto 4, 3) := by decide +kernel
theorem dX3_handCan_24 : decode cX3_handCan 24 = .ok (.iconst 0, 1) := by decide +kernel
theorem dX3_handCan_25 : decode cX3_handCan 25 = .ok (.ireturn, 1) := by decide +kernel
theorem dX3_flip_0 : decode cX3_flip 0 = .ok (.aload_n 0, 1) := by decide +kernel
theorem dX3_flip_1 : decode cX3_flip 1 = .ok (.dup, 1) := by decide +kernel
theorem dX3_flip_2 : decode cX3_flip 2 = .ok (.getfield 26, 3) := by decide +kernel
theorem dX3_flip_5 : decode cX3_flip 5 = .ok (.iconst 1, 1) := by decide +kernel
theorem dX3_flip_6 : decode cX3_flip 6 = .ok (.iload_n 1, 1) := by decide +kernel
theorem dX3_flip_7 : decode cX3_flip 7 = .ok (.ishl, 1) := by decide +kernel
theorem dX3_flip_8 : decode cX3_flip 8 = .ok (.ixor, 1) := by decide +kernel
theorem dX3_flip_9 : decode cX3_flip 9 = .ok (.putfield 26, 3) := by decide +kernel
theorem dX3_flip_12 : decode cX3_flip 12 = .ok (.return_, 1) := by decide +kernel
theorem dX3_slowness_0 : decode cX3_slowness 0 = .ok (.iconst 2, 1) := by decide +kernel
theorem dX3_slowness_1 : decode cX3_slowness 1 = .ok (.aload_n 0, 1) := by decide +kernel
theorem dX3_slowness_2 : decode cX3_slowness 2 = .ok (.getfield 20, 3) := by decide +kernel
theorem dX3_slowness_5 : decode cX3_slowness 5 = .ok (.iload_n 1, 1) := by decide +kernel
theorem dX3_slowness_6 : decode cX3_slowness 6 = .ok (.iaload, 1) := by decide +kernel
theorem dX3_slowness_7 : decode cX3_slowness 7 = .ok (.iconst 3, 1) := by decide +kernel
theorem dX3_slowness_8 : decode cX3_slowness 8 = .ok (.irem, 1) := by decide +kernel
theorem dX3_slowness_9 : decode cX3_slowness 9 = .ok (.iadd, 1) := by decide +kernel
theorem dX3_slowness_10 : decode cX3_slowness 10 = .ok (.ireturn, 1) := by decide +kernel
theorem dX3_turnByRay_0 : decode cX3_turnByRay 0 = .ok (.aload_n 0, 1) := by decide +kernel
theorem dX3_turnByRay_1 : decode cX3_turnByRay 1 = .ok (.getfield 16, 3) := by decide +kernel
theorem dX3_turnByRay_4 : decode cX3_turnByRay 4 = .ok (.iload_n 1, 1) := by decide +kernel
theorem dX3_turnByRay_5 : decode cX3_turnByRay 5 = .ok (.iaload, 1) := by decide +kernel
theorem dX3_turnByRay_6 : decode cX3_turnByRay 6 = .ok (.iconst 1, 1) := by decide +kernel
theorem dX3_turnByRay_7 : decode cX3_turnByRay 7 = .ok (.if_icmp .ne 11, 3) := by decide +kernel
theorem dX3_turnByRay_10 : decode cX3_turnByRay 10 = .ok (.aload_n 0, 1) := by decide +kernel
theorem dX3_turnByRay_11 : decode cX3_turnByRay 11 = .ok (.iload_n 1, 1) := by decide +kernel
theorem dX3_turnByRay_12 : decode cX3_turnByRay 12 = .ok (.invokevirtual 81, 3) := by decide +kernel
theorem dX3_turnByRay_15 : decode cX3_turnByRay 15 = .ok (.goto 59, 3) := by decide +kernel
theorem dX3_turnByRay_18 : decode cX3_turnByRay 18 = .ok (.aload_n 0, 1) := by decide +kernel
theorem dX3_turnByRay_19 : decode cX3_turnByRay 19 = .ok (.getfield 16, 3) := by decide +kernel
theorem dX3_turnByRay_22 : decode cX3_turnByRay 22 = .ok (.iload_n 1, 1) := by decide +kernel
theorem dX3_turnByRay_23 : decode cX3_turnByRay 23 = .ok (.iaload, 1) := by decide +kernel
theorem dX3_turnByRay_24 : decode cX3_turnByRay 24 = .ok (.iconst 5, 1) := by decide +kernel
theorem dX3_turnByRay_25 : decode cX3_turnByRay 25 = .ok (.if_icmp .ne 49, 3) := by decide +kernel
theorem dX3_turnByRay_28 : decode cX3_turnByRay 28 = .ok (.aload_n 0, 1) := by decide +kernel
theorem dX3_turnByRay_29 : decode cX3_turnByRay 29 = .ok (.iload_n 1, 1) := by decide +kernel
theorem dX3_turnByRay_30 : decode cX3_turnByRay 30 = .ok (.invokevirtual 85, 3) := by decide +kernel
theorem dX3_turnByRay_33 : decode cX3_turnByRay 33 = .ok (.iconst 1, 1) := by decide +kernel
theorem dX3_turnByRay_34 : decode cX3_turnByRay 34 = .ok (.iadd, 1) := by decide +kernel
theorem dX3_turnByRay_35 : decode cX3_turnByRay 35 = .ok (.istore_n 2, 1) := by decide +kernel
theorem dX3_turnByRay_36 : decode cX3_turnByRay 36 = .ok (.iload_n 2, 1) := by decide +kernel
theorem dX3_turnByRay_37 : decode cX3_turnByRay 37 = .ok (.aload_n 0, 1) := by decide +kernel
theorem dX3_turnByRay_38 : decode cX3_turnByRay 38 = .ok (.iload_n 1, 1) := by decide +kernel
theorem dX3_turnByRay_39 : decode cX3_turnByRay 39 = .ok (.invokevirtual 88, 3) := by decide +kernel
theorem dX3_turnByRay_42 : decode cX3_turnByRay 42 = .ok (.if_icmp .ne 7, 3) := by decide +kernel
theorem dX3_turnByRay_45 : decode cX3_turnByRay 45 = .ok (.iconst 1, 1) := by decide +kernel
theorem dX3_turnByRay_46 : decode cX3_turnByRay 46 = .ok (.goto 4, 3) := by decide +kernel
theorem dX3_turnByRay_49 : decode cX3_turnByRay 49 = .ok (.iconst 0, 1) := by decide +kernel
theorem dX3_turnByRay_50 : decode cX3_turnByRay 50 = .ok (.istore_n 3, 1) := by decide +kernel
theorem dX3_turnByRay_51 : decode cX3_turnByRay 51 = .ok (.aload_n 0, 1) := by decide +kernel
theorem dX3_turnByRay_52 : decode cX3_turnByRay 52 = .ok (.iload_n 1, 1) := by decide +kernel
theorem dX3_turnByRay_53 : decode cX3_turnByRay 53 = .ok (.iload_n 3, 1) := by decide +kernel
theorem dX3_turnByRay_54 : decode cX3_turnByRay 54 = .ok (.ifCond .eq 7, 3) := by decide +kernel
theorem dX3_turnByRay_57 : decode cX3_turnByRay 57 = .ok (.iconst 0, 1) := by decide +kernel
theorem dX3_turnByRay_58 : decode cX3_turnByRay 58 = .ok (.goto 4, 3) := by decide +kernel
theorem dX3_turnByRay_61 : decode cX3_turnByRay 61 = .ok (.iload_n 2, 1) := by decide +kernel
theorem dX3_turnByRay_62 : decode cX3_turnByRay 62 = .ok (.invokevirtual 73, 3) := by decide +kernel
theorem dX3_turnByRay_65 : decode cX3_turnByRay 65 = .ok (.iload_n 3, 1) := by decide +kernel
theorem dX3_turnByRay_66 : decode cX3_turnByRay 66 = .ok (.ifCond .eq 8, 3) := by decide +kernel
theorem dX3_turnByRay_69 : decode cX3_turnByRay 69 = .ok (.aload_n 0, 1) := by decide +kernel
theorem dX3_turnByRay_70 : decode cX3_turnByRay 70 = .ok (.iload_n 1, 1) := by decide +kernel
theorem dX3_turnByRay_71 : decode cX3_turnByRay 71 = .ok (.invokevirtual 81, 3) := by decide +kernel
theorem dX3_turnByRay_74 : decode cX3_turnByRay 74 = .ok (.return_, 1) := by decide +kernel
theorem dX3_turnBack_0 : decode cX3_turnBack 0 = .ok (.aload_n 0, 1) := by decide +kernel
theorem dX3_turnBack_1 : decode cX3_turnBack 1 = .ok (.getfield 16, 3) := by decide +kernel
theorem dX3_turnBack_4 : decode cX3_turnBack 4 = .ok (.iload_n 1, 1) := by decide +kernel
theorem dX3_turnBack_5 : decode cX3_turnBack 5 = .ok (.iaload, 1) := by decide +kernel
theorem dX3_turnBack_6 : decode cX3_turnBack 6 = .ok (.iconst 1, 1) := by decide +kernel
theorem dX3_turnBack_7 : decode cX3_turnBack 7 = .ok (.if_icmp .ne 11, 3) := by decide +kernel
theorem dX3_turnBack_10 : decode cX3_turnBack 10 = .ok (.aload_n 0, 1) := by decide +kernel
theorem dX3_turnBack_11 : decode cX3_turnBack 11 = .ok (.iload_n 1, 1) := by decide +kernel
theorem dX3_turnBack_12 : decode cX3_turnBack 12 = .ok (.invokevirtual 81, 3) := by decide +kernel
theorem dX3_turnBack_15 : decode cX3_turnBack 15 = .ok (.goto 50, 3) := by decide +kernel
theorem dX3_turnBack_18 : decode cX3_turnBack 18 = .ok (.aload_n 0, 1) := by decide +kernel
theorem dX3_turnBack_19 : decode cX3_turnBack 19 = .ok (.getfield 16, 3) := by decide +kernel
theorem dX3_turnBack_22 : decode cX3_turnBack 22 = .ok (.iload_n 1, 1) := by decide +kernel
theorem dX3_turnBack_23 : decode cX3_turnBack 23 = .ok (.iaload, 1) := by decide +kernel
theorem dX3_turnBack_24 : decode cX3_turnBack 24 = .ok (.iconst 5, 1) := by decide +kernel
theorem dX3_turnBack_25 : decode cX3_turnBack 25 = .ok (.if_icmp .ne 40, 3) := by decide +kernel
theorem dX3_turnBack_28 : decode cX3_turnBack 28 = .ok (.aload_n 0, 1) := by decide +kernel
theorem dX3_turnBack_29 : decode cX3_turnBack 29 = .ok (.iload_n 1, 1) := by decide +kernel
theorem dX3_turnBack_30 : decode cX3_turnBack 30 = .ok (.invokevirtual 85, 3) := by decide +kernel
theorem dX3_turnBack_33 : decode cX3_turnBack 33 = .ok (.istore_n 2, 1) := by decide +kernel
theorem dX3_turnBack_34 : decode cX3_turnBack 34 = .ok (.aload_n 0, 1) := by decide +kernel
theorem dX3_turnBack_35 : decode cX3_turnBack 35 = .ok (.iload_n 1, 1) := by decide +kernel
theorem dX3_turnBack_36 : decode cX3_turnBack 36 = .ok (.iload_n 2, 1) := by decide +kernel
theorem dX3_turnBack_37 : decode cX3_turnBack 37 = .ok (.ifCond .ne 13, 3) := by decide +kernel
theorem dX3_turnBack_40 : decode cX3_turnBack 40 = .ok (.aload_n 0, 1) := by decide +kernel
theorem dX3_turnBack_41 : decode cX3_turnBack 41 = .ok (.iload_n 1, 1) := by decide +kernel
theorem dX3_turnBack_42 : decode cX3_turnBack 42 = .ok (.invokevirtual 88, 3) := by decide +kernel
theorem dX3_turnBack_45 : decode cX3_turnBack 45 = .ok (.iconst 1, 1) := by decide +kernel
theorem dX3_turnBack_46 : decode cX3_turnBack 46 = .ok (.isub, 1) := by decide +kernel
theorem dX3_turnBack_47 : decode cX3_turnBack 47 = .ok (.goto 6, 3) := by decide +kernel
theorem dX3_turnBack_50 : decode cX3_turnBack 50 = .ok (.iload_n 2, 1) := by decide +kernel
theorem dX3_turnBack_51 : decode cX3_turnBack 51 = .ok (.iconst 1, 1) := by decide +kernel
theorem dX3_turnBack_52 : decode cX3_turnBack 52 = .ok (.isub, 1) := by decide +kernel
theorem dX3_turnBack_53 : decode cX3_turnBack 53 = .ok (.invokevirtual 73, 3) := by decide +kernel
theorem dX3_turnBack_56 : decode cX3_turnBack 56 = .ok (.iload_n 2, 1) := by decide +kernel
theorem dX3_turnBack_57 : decode cX3_turnBack 57 = .ok (.ifCond .ne 8, 3) := by decide +kernel
theorem dX3_turnBack_60 : decode cX3_turnBack 60 = .ok (.aload_n 0, 1) := by decide +kernel
theorem dX3_turnBack_61 : decode cX3_turnBack 61 = .ok (.iload_n 1, 1) := by decide +kernel
theorem dX3_turnBack_62 : decode cX3_turnBack 62 = .ok (.invokevirtual 81, 3) := by decide +kernel
theorem dX3_turnBack_65 : decode cX3_turnBack 65 = .ok (.return_, 1) := by decide +kernel
theorem dX3_lightUp_0 : decode cX3_lightUp 0 = .ok (.aload_n 0, 1) := by decide +kernel
theorem dX3_lightUp_1 : decode cX3_lightUp 1 = .ok (.getfield 23, 3) := by decide +kernel
theorem dX3_lightUp_4 : decode cX3_lightUp 4 = .ok (.iload_n 1, 1) := by decide +kernel
theorem dX3_lightUp_5 : decode cX3_lightUp 5 = .ok (.sipush 9999, 3) := by decide +kernel
theorem dX3_lightUp_8 : decode cX3_lightUp 8 = .ok (.aload_n 0, 1) := by decide +kernel
theorem dX3_lightUp_9 : decode cX3_lightUp 9 = .ok (.getfield 23, 3) := by decide +kernel
theorem dX3_lightUp_12 : decode cX3_lightUp 12 = .ok (.iload_n 1, 1) := by decide +kernel
theorem dX3_lightUp_13 : decode cX3_lightUp 13 = .ok (.iaload, 1) := by decide +kernel
theorem dX3_lightUp_14 : decode cX3_lightUp 14 = .ok (.iconst 1, 1) := by decide +kernel
theorem dX3_lightUp_15 : decode cX3_lightUp 15 = .ok (.iadd, 1) := by decide +kernel
theorem dX3_lightUp_16 : decode cX3_lightUp 16 = .ok (.invokestatic 91, 3) := by decide +kernel
theorem dX3_lightUp_19 : decode cX3_lightUp 19 = .ok (.iastore, 1) := by decide +kernel
theorem dX3_lightUp_20 : decode cX3_lightUp 20 = .ok (.return_, 1) := by decide +kernel
theorem dX3_lightDown_0 : decode cX3_lightDown 0 = .ok (.aload_n 0, 1) := by decide +kernel
theorem dX3_lightDown_1 : decode cX3_lightDown 1 = .ok (.getfield 23, 3) := by decide +kernel
theorem dX3_lightDown_4 : decode cX3_lightDown 4 = .ok (.iload_n 1, 1) := by decide +kernel
theorem dX3_lightDown_5 : decode cX3_lightDown 5 = .ok (.iconst 0, 1) := by decide +kernel
theorem dX3_lightDown_6 : decode cX3_lightDown 6 = .ok (.aload_n 0, 1) := by decide +kernel
theorem dX3_lightDown_7 : decode cX3_lightDown 7 = .ok (.getfield 23, 3) := by decide +kernel
theorem dX3_lightDown_10 : decode cX3_lightDown 10 = .ok (.iload_n 1, 1) := by decide +kernel
theorem dX3_lightDown_11 : decode cX3_lightDown 11 = .ok (.iaload, 1) := by decide +kernel
theorem dX3_lightDown_12 : decode cX3_lightDown 12 = .ok (.iconst 1, 1) := by decide +kernel
theorem dX3_lightDown_13 : decode cX3_lightDown 13 = .ok (.isub, 1) := by decide +kernel
theorem dX3_lightDown_14 : decode cX3_lightDown 14 = .ok (.invokestatic 97, 3) := by decide +kernel
theorem dX3_lightDown_17 : decode cX3_lightDown 17 = .ok (.iastore, 1) := by decide +kernel
theorem dX3_lightDown_18 : decode cX3_lightDown 18 = .ok (.return_, 1) := by decide +kernel
theorem dX3_mirrors_0 : decode cX3_mirrors 0 = .ok (.iconst 0, 1) := by decide +kernel
theorem dX3_mirrors_1 : decode cX3_mirrors 1 = .ok (.istore_n 1, 1) := by decide +kernel
theorem dX3_mirrors_2 : decode cX3_mirrors 2 = .ok (.iconst 0, 1) := by decide +kernel
theorem dX3_mirrors_3 : decode cX3_mirrors 3 = .ok (.istore_n 2, 1) := by decide +kernel
theorem dX3_mirrors_4 : decode cX3_mirrors 4 = .ok (.iload_n 2, 1) := by decide +kernel
theorem dX3_mirrors_5 : decode cX3_mirrors 5 = .ok (.aload_n 0, 1) := by decide +kernel
theorem dX3_mirrors_6 : decode cX3_mirrors 6 = .ok (.invokevirtual 46, 3) := by decide +kernel
theorem dX3_mirrors_9 : decode cX3_mirrors 9 = .ok (.if_icmp .ge 29, 3) := by decide +kernel
theorem dX3_mirrors_12 : decode cX3_mirrors 12 = .ok (.iload_n 1, 1) := by decide +kernel
theorem dX3_mirrors_13 : decode cX3_mirrors 13 = .ok (.aload_n 0, 1) := by decide +kernel
theorem dX3_mirrors_14 : decode cX3_mirrors 14 = .ok (.getfield 16, 3) := by decide +kernel
theorem dX3_mirrors_17 : decode cX3_mirrors 17 = .ok (.iload_n 2, 1) := by decide +kernel
theorem dX3_mirrors_18 : decode cX3_mirrors 18 = .ok (.iaload, 1) := by decide +kernel
theorem dX3_mirrors_19 : decode cX3_mirrors 19 = .ok (.invokestatic 100, 3) := by decide +kernel
theorem dX3_mirrors_22 : decode cX3_mirrors 22 = .ok (.ifCond .eq 7, 3) := by decide +kernel
theorem dX3_mirrors_25 : decode cX3_mirrors 25 = .ok (.iconst 1, 1) := by decide +kernel
theorem dX3_mirrors_26 : decode cX3_mirrors 26 = .ok (.goto 4, 3) := by decide +kernel
theorem dX3_mirrors_29 : decode cX3_mirrors 29 = .ok (.iconst 0, 1) := by decide +kernel
theorem dX3_mirrors_30 : decode cX3_mirrors 30 = .ok (.iadd, 1) := by decide +kernel
theorem dX3_mirrors_31 : decode cX3_mirrors 31 = .ok (.istore_n 1, 1) := by decide +kernel
theorem dX3_mirrors_32 : decode cX3_mirrors 32 = .ok (.iinc 2 1, 3) := by decide +kernel
theorem dX3_mirrors_35 : decode cX3_mirrors 35 = .ok (.goto (-31), 3) := by decide +kernel
theorem dX3_mirrors_38 : decode cX3_mirrors 38 = .ok (.iload_n 1, 1) := by decide +kernel
theorem dX3_mirrors_39 : decode cX3_mirrors 39 = .ok (.ireturn, 1) := by decide +kernel
theorem dX3_litTogether_0 : decode cX3_litTogether 0 = .ok (.iconst 0, 1) := by decide +kernel
theorem dX3_litTogether_1 : decode cX3_litTogether 1 = .ok (.istore_n 1, 1) := by decide +kernel
theorem dX3_litTogether_2 : decode cX3_litTogether 2 = .ok (.iconst 0, 1) := by decide +kernel
theorem dX3_litTogether_3 : decode cX3_litTogether 3 = .ok (.istore_n 2, 1) := by decide +kernel
theorem dX3_litTogether_4 : decode cX3_litTogether 4 = .ok (.iload_n 2, 1) := by decide +kernel
theorem dX3_litTogether_5 : decode cX3_litTogether 5 = .ok (.aload_n 0, 1) := by decide +kernel
theorem dX3_litTogether_6 : decode cX3_litTogether 6 = .ok (.invokevirtual 46, 3) := by decide +kernel
theorem dX3_litTogether_9 : decode cX3_litTogether 9 = .ok (.if_icmp .ge 18, 3) := by decide +kernel
theorem dX3_litTogether_12 : decode cX3_litTogether 12 = .ok (.iload_n 1, 1) := by decide +kernel
theorem dX3_litTogether_13 : decode cX3_litTogether 13 = .ok (.aload_n 0, 1) := by decide +kernel
theorem dX3_litTogether_14 : decode cX3_litTogether 14 = .ok (.getfield 23, 3) := by decide +kernel
theorem dX3_litTogether_17 : decode cX3_litTogether 17 = .ok (.iload_n 2, 1) := by decide +kernel
theorem dX3_litTogether_18 : decode cX3_litTogether 18 = .ok (.iaload, 1) := by decide +kernel
theorem dX3_litTogether_19 : decode cX3_litTogether 19 = .ok (.iadd, 1) := by decide +kernel
theorem dX3_litTogether_20 : decode cX3_litTogether 20 = .ok (.istore_n 1, 1) := by decide +kernel
theorem dX3_litTogether_21 : decode cX3_litTogether 21 = .ok (.iinc 2 1, 3) := by decide +kernel
theorem dX3_litTogether_24 : decode cX3_litTogether 24 = .ok (.goto (-20), 3) := by decide +kernel
theorem dX3_litTogether_27 : decode cX3_litTogether 27 = .ok (.iload_n 1, 1) := by decide +kernel
theorem dX3_litTogether_28 : decode cX3_litTogether 28 = .ok (.ireturn, 1) := by decide +kernel
theorem dX4_init_0 : decode cX4_init 0 = .ok (.aload_n 0, 1) := by decide +kernel
theorem dX4_init_1 : decode cX4_init 1 = .ok (.invokespecial 1, 3) := by decide +kernel
theorem dX4_init_4 : decode cX4_init 4 = .ok (.aload_n 0, 1) := by decide +kernel
theorem dX4_init_5 : decode cX4_init 5 = .ok (.new 7, 3) := by decide +kernel
theorem dX4_init_8 : decode cX4_init 8 = .ok (.dup, 1) := by decide +kernel
theorem dX4_init_9 : decode cX4_init 9 = .ok (.invokespecial 9, 3) := by decide +kernel
theorem dX4_init_12 : decode cX4_init 12 = .ok (.putfield 10, 3) := by decide +kernel
theorem dX4_init_15 : decode cX4_init 15 = .ok (.aload_n 0, 1) := by decide +kernel
theorem dX4_init_16 : decode cX4_init 16 = .ok (.new 16, 3) := by decide +kernel
theorem dX4_init_19 : decode cX4_init 19 = .ok (.dup, 1) := by decide +kernel
theorem dX4_init_20 : decode cX4_init 20 = .ok (.invokespecial 18, 3) := by decide +kernel
theorem dX4_init_23 : decode cX4_init 23 = .ok (.putfield 19, 3) := by decide +kernel
theorem dX4_init_26 : decode cX4_init 26 = .ok (.aload_n 0, 1) := by decide +kernel
theorem dX4_init_27 : decode cX4_init 27 = .ok (.iconst 0, 1) := by decide +kernel
theorem dX4_init_28 : decode cX4_init 28 = .ok (.putfield 23, 3) := by decide +kernel
theorem dX4_init_31 : decode cX4_init 31 = .ok (.aload_n 0, 1) := by decide +kernel
theorem dX4_init_32 : decode cX4_init 32 = .ok (.iconst 0, 1) := by decide +kernel
theorem dX4_init_33 : decode cX4_init 33 = .ok (.putfield 27, 3) := by decide +kernel
theorem dX4_init_36 : decode cX4_init 36 = .ok (.aload_n 0, 1) := by decide +kernel
theorem dX4_init_37 : decode cX4_init 37 = .ok (.iconst 0, 1) := by decide +kernel
theorem dX4_init_38 : decode cX4_init 38 = .ok (.putfield 30, 3) := by decide +kernel
theorem dX4_init_41 : decode cX4_init 41 = .ok (.aload_n 0, 1) := by decide +kernel
theorem dX4_init_42 : decode cX4_init 42 = .ok (.iconst (-1), 1) := by decide +kernel
theorem dX4_init_43 : decode cX4_init 43 = .ok (.putfield 33, 3) := by decide +kernel
theorem dX4_init_46 : decode cX4_init 46 = .ok (.aload_n 0, 1) := by decide +kernel
theorem dX4_init_47 : decode cX4_init 47 = .ok (.iconst 0, 1) := by decide +kernel
theorem dX4_init_48 : decode cX4_init 48 = .ok (.putfield 36, 3) := by decide +kernel
theorem dX4_init_51 : decode cX4_init 51 = .ok (.return_, 1) := by decide +kernel
theorem dX4_lead_0 : decode cX4_lead 0 = .ok (.aload_n 0, 1) := by decide +kernel
theorem dX4_lead_1 : decode cX4_lead 1 = .ok (.iload_n 2, 1) := by decide +kernel
theorem dX4_lead_2 : decode cX4_lead 2 = .ok (.putfield 23, 3) := by decide +kernel
theorem dX4_lead_5 : decode cX4_lead 5 = .ok (.aload_n 0, 1) := by decide +kernel
theorem dX4_lead_6 : decode cX4_lead 6 = .ok (.iload_n 3, 1) := by decide +kernel
theorem dX4_lead_7 : decode cX4_lead 7 = .ok (.putfield 27, 3) := by decide +kernel
theorem dX4_lead_10 : decode cX4_lead 10 = .ok (.aload_n 0, 1) := by decide +kernel
theorem dX4_lead_11 : decode cX4_lead 11 = .ok (.iconst 0, 1) := by decide +kernel
theorem dX4_lead_12 : decode cX4_lead 12 = .ok (.putfield 30, 3) := by decide +kernel
theorem dX4_lead_15 : decode cX4_lead 15 = .ok (.aload_n 0, 1) := by decide +kernel
theorem dX4_lead_16 : decode cX4_lead 16 = .ok (.iconst (-1), 1) := by decide +kernel
theorem dX4_lead_17 : decode cX4_lead 17 = .ok (.putfield 33, 3) := by decide +kernel
theorem dX4_lead_20 : decode cX4_lead 20 = .ok (.aload_n 0, 1) := by decide +kernel
theorem dX4_lead_21 : decode cX4_lead 21 = .ok (.iconst 0, 1) := by decide +kernel
theorem dX4_lead_22 : decode cX4_lead 22 = .ok (.putfield 36, 3) := by decide +kernel
theorem dX4_lead_25 : decode cX4_lead 25 = .ok (.aload_n 0, 1) := by decide +kernel
theorem dX4_lead_26 : decode cX4_lead 26 = .ok (.getfield 10, 3) := by decide +kernel
theorem dX4_lead_29 : decode cX4_lead 29 = .ok (.aload_n 1, 1) := by decide +kernel
theorem dX4_lead_30 : decode cX4_lead 30 = .ok (.getfield 39, 3) := by decide +kernel
theorem dX4_lead_33 : decode cX4_lead 33 = .ok (.invokevirtual 44, 3) := by decide +kernel
theorem dX4_lead_36 : decode cX4_lead 36 = .ok (.aload_n 0, 1) := by decide +kernel
theorem dX4_lead_37 : decode cX4_lead 37 = .ok (.aload_n 1, 1) := by decide +kernel
theorem dX4_lead_38 : decode cX4_lead 38 = .ok (.getfield 39, 3) := by decide +kernel
theorem dX4_lead_41 : decode cX4_lead 41 = .ok (.iconst 0, 1) := by decide +kernel
theorem dX4_lead_42 : decode cX4_lead 42 = .ok (.invokevirtual 48, 3) := by decide +kernel
theorem dX4_lead_45 : decode cX4_lead 45 = .ok (.ifCond .ne 19, 3) := by decide +kernel
theorem dX4_lead_48 : decode cX4_lead 48 = .ok (.aload_n 0, 1) := by decide +kernel
theorem dX4_lead_49 : decode cX4_lead 49 = .ok (.aload_n 1, 1) := by decide +kernel
theorem dX4_lead_50 : decode cX4_lead 50 = .ok (.invokevirtual 52, 3) := by decide +kernel
theorem dX4_lead_53 : decode cX4_lead 53 = .ok (.ifCond .ne 11, 3) := by decide +kernel
theorem dX4_lead_56 : decode cX4_lead 56 = .ok (.aload_n 0, 1) := by decide +kernel
theorem dX4_lead_57 : decode cX4_lead 57 = .ok (.aload_n 1, 1) := by decide +kernel
theorem dX4_lead_58 : decode cX4_lead 58 = .ok (.invokevirtual 56, 3) := by decide +kernel
theorem dX4_lead_61 : decode cX4_lead 61 = .ok (.ifCond .eq 7, 3) := by decide +kernel
theorem dX4_lead_64 : decode cX4_lead 64 = .ok (.iconst 1, 1) := by decide +kernel
theorem dX4_lead_65 : decode cX4_lead 65 = .ok (.goto 4, 3) := by decide +kernel
theorem dX4_lead_68 : decode cX4_lead 68 = .ok (.iconst 0, 1) := by decide +kernel
theorem dX4_lead_69 : decode cX4_lead 69 = .ok (.ireturn, 1) := by decide +kernel
theorem dX4_isLit_0 : decode cX4_isLit 0 = .ok (.aload_n 0, 1) := by decide +kernel
theorem dX4_isLit_1 : decode cX4_isLit 1 = .ok (.getfield 10, 3) := by decide +kernel
theorem dX4_isLit_4 : decode cX4_isLit 4 = .ok (.aload_n 1, 1) := by decide +kernel
theorem dX4_isLit_5 : decode cX4_isLit 5 = .ok (.getfield 59, 3) := by decide +kernel
theorem dX4_isLit_8 : decode cX4_isLit 8 = .ok (.iload_n 2, 1) := by decide +kernel
theorem dX4_isLit_9 : decode cX4_isLit 9 = .ok (.ixor, 1) := by decide +kernel
theorem dX4_isLit_10 : decode cX4_isLit 10 = .ok (.aload_n 1, 1) := by decide +kernel
theorem dX4_isLit_11 : decode cX4_isLit 11 = .ok (.getfield 62, 3) := by decide +kernel
theorem dX4_isLit_14 : decode cX4_isLit 14 = .ok (.invokevirtual 66, 3) := by decide +kernel
theorem dX4_isLit_17 : decode cX4_isLit 17 = .ok (.aload_n 0, 1) := by decide +kernel
theorem dX4_isLit_18 : decode cX4_isLit 18 = .ok (.getfield 19, 3) := by decide +kernel
theorem dX4_isLit_21 : decode cX4_isLit 21 = .ok (.aload_n 0, 1) := by decide +kernel
theorem dX4_isLit_22 : decode cX4_isLit 22 = .ok (.getfield 10, 3) := by decide +kernel
theorem dX4_isLit_25 : decode cX4_isLit 25 = .ok (.aload_n 0, 1) := by decide +kernel
theorem dX4_isLit_26 : decode cX4_isLit 26 = .ok (.getfield 27, 3) := by decide +kernel
theorem dX4_isLit_29 : decode cX4_isLit 29 = .ok (.invokevirtual 70, 3) := by decide +kernel
theorem dX4_isLit_32 : decode cX4_isLit 32 = .ok (.pop, 1) := by decide +kernel
theorem dX4_isLit_33 : decode cX4_isLit 33 = .ok (.aload_n 0, 1) := by decide +kernel
theorem dX4_isLit_34 : decode cX4_isLit 34 = .ok (.getfield 19, 3) := by decide +kernel
theorem dX4_isLit_37 : decode cX4_isLit 37 = .ok (.getfield 74, 3) := by decide +kernel
theorem dX4_isLit_40 : decode cX4_isLit 40 = .ok (.aload_n 0, 1) := by decide +kernel
theorem dX4_isLit_41 : decode cX4_isLit 41 = .ok (.getfield 23, 3) := by decide +kernel
theorem dX4_isLit_44 : decode cX4_isLit 44 = .ok (.iushr, 1) := by decide +kernel
theorem dX4_isLit_45 : decode cX4_isLit 45 = .ok (.iconst 1, 1) := by decide +kernel
theorem dX4_isLit_46 : decode cX4_isLit 46 = .ok (.iand, 1) := by decide +kernel
theorem dX4_isLit_47 : decode cX4_isLit 47 = .ok (.iconst 1, 1) := by decide +kernel
theorem dX4_isLit_48 : decode cX4_isLit 48 = .ok (.if_icmp .ne 7, 3) := by decide +kernel
theorem dX4_isLit_51 : decode cX4_isLit 51 = .ok (.iconst 1, 1) := by decide +kernel
theorem dX4_isLit_52 : decode cX4_isLit 52 = .ok (.goto 4, 3) := by decide +kernel
theorem dX4_isLit_55 : decode cX4_isLit 55 = .ok (.iconst 0, 1) := by decide +kernel
theorem dX4_isLit_56 : decode cX4_isLit 56 = .ok (.ireturn, 1) := by decide +kernel
theorem dX4_leadByOne_0 : decode cX4_leadByOne 0 = .ok (.aload_n 1, 1) := by decide +kernel
theorem dX4_leadByOne_1 : decode cX4_leadByOne 1 = .ok (.getfield 39, 3) := by decide +kernel
theorem dX4_leadByOne_4 : decode cX4_leadByOne 4 = .ok (.astore_n 2, 1) := by decide +kernel
theorem dX4_leadByOne_5 : decode cX4_leadByOne 5 = .ok (.iconst 0, 1) := by decide +kernel
theorem dX4_leadByOne_6 : decode cX4_leadByOne 6 = .ok (.istore_n 3, 1) := by decide +kernel
theorem dX4_leadByOne_7 : decode cX4_leadByOne 7 = .ok (.iload_n 3, 1) := by decide +kernel
theorem dX4_leadByOne_8 : decode cX4_leadByOne 8 = .ok (.aload_n 2, 1) := by decide +kernel
theorem dX4_leadByOne_9 : decode cX4_leadByOne 9 = .ok (.invokevirtual 77, 3) := by decide +kernel
theorem dX4_leadByOne_12 : decode cX4_leadByOne 12 = .ok (.if_icmp .ge 44, 3) := by decide +kernel
theorem dX4_leadByOne_15 : decode cX4_leadByOne 15 = .ok (.aload_n 2, 1) := by decide +kernel
theorem dX4_leadByOne_16 : decode cX4_leadByOne 16 = .ok (.iload_n 3, 1) := by decide +kernel
theorem dX4_leadByOne_17 : decode cX4_leadByOne 17 = .ok (.invokevirtual 80, 3) := by decide +kernel
theorem dX4_leadByOne_20 : decode cX4_leadByOne 20 = .ok (.ifCond .eq 30, 3) := by decide +kernel
theorem dX4_leadByOne_23 : decode cX4_leadByOne 23 = .ok (.aload_n 0, 1) := by decide +kernel
theorem dX4_leadByOne_24 : decode cX4_leadByOne 24 = .ok (.aload_n 2, 1) := by decide +kernel
theorem dX4_leadByOne_25 : decode cX4_leadByOne 25 = .ok (.iconst 1, 1) := by decide +kernel
theorem dX4_leadByOne_26 : decode cX4_leadByOne 26 = .ok (.iload_n 3, 1) := by decide +kernel
theorem dX4_leadByOne_27 : decode cX4_leadByOne 27 = .ok (.ishl, 1) := by decide +kernel
theorem dX4_leadByOne_28 : decode cX4_leadByOne 28 = .ok (.invokevirtual 48, 3) := by decide +kernel
theorem dX4_leadByOne_31 : decode cX4_leadByOne 31 = .ok (.ifCond .eq 19, 3) := by decide +kernel
theorem dX4_leadByOne_34 : decode cX4_leadByOne 34 = .ok (.aload_n 0, 1) := by decide +kernel
theorem dX4_leadByOne_35 : decode cX4_leadByOne 35 = .ok (.iconst 1, 1) := by decide +kernel
theorem dX4_leadByOne_36 : decode cX4_leadByOne 36 = .ok (.bipush 100, 2) := by decide +kernel
theorem dX4_leadByOne_38 : decode cX4_leadByOne 38 = .ok (.iload_n 3, 1) := by decide +kernel
theorem dX4_leadByOne_39 : decode cX4_leadByOne 39 = .ok (.imul, 1) := by decide +kernel
theorem dX4_leadByOne_40 : decode cX4_leadByOne 40 = .ok (.iload_n 3, 1) := by decide +kernel
theorem dX4_leadByOne_41 : decode cX4_leadByOne 41 = .ok (.iadd, 1) := by decide +kernel
theorem dX4_leadByOne_42 : decode cX4_leadByOne 42 = .ok (.aload_n 1, 1) := by decide +kernel
theorem dX4_leadByOne_43 : decode cX4_leadByOne 43 = .ok (.iload_n 3, 1) := by decide +kernel
theorem dX4_leadByOne_44 : decode cX4_leadByOne 44 = .ok (.invokevirtual 84, 3) := by decide +kernel
theorem dX4_leadByOne_47 : decode cX4_leadByOne 47 = .ok (.invokevirtual 88, 3) := by decide +kernel
theorem dX4_leadByOne_50 : decode cX4_leadByOne 50 = .ok (.iinc 3 1, 3) := by decide +kernel
theorem dX4_leadByOne_53 : decode cX4_leadByOne 53 = .ok (.goto (-46), 3) := by decide +kernel
theorem dX4_leadByOne_56 : decode cX4_leadByOne 56 = .ok (.aload_n 0, 1) := by decide +kernel
theorem dX4_leadByOne_57 : decode cX4_leadByOne 57 = .ok (.getfield 30, 3) := by decide +kernel
theorem dX4_leadByOne_60 : decode cX4_leadByOne 60 = .ok (.ifCond .le 7, 3) := by decide +kernel
theorem dX4_leadByOne_63 : decode cX4_leadByOne 63 = .ok (.iconst 1, 1) := by decide +kernel
theorem dX4_leadByOne_64 : decode cX4_leadByOne 64 = .ok (.goto 4, 3) := by decide +kernel
theorem dX4_leadByOne_67 : decode cX4_leadByOne 67 = .ok (.iconst 0, 1) := by decide +kernel
theorem dX4_leadByOne_68 : decode cX4_leadByOne 68 = .ok (.ireturn, 1) := by decide +kernel
theorem dX4_leadByTwo_0 : decode cX4_leadByTwo 0 = .ok (.aload_n 1, 1) := by decide +kernel
theorem dX4_leadByTwo_1 : decode cX4_leadByTwo 1 = .ok (.getfield 39, 3) := by decide +kernel
theorem dX4_leadByTwo_4 : decode cX4_leadByTwo 4 = .ok (.astore_n 2, 1) := by decide +kernel
theorem dX4_leadByTwo_5 : decode cX4_leadByTwo 5 = .ok (.iconst 0, 1) := by decide +kernel
theorem dX4_leadByTwo_6 : decode cX4_leadByTwo 6 = .ok (.istore_n 3, 1) := by decide +kernel
theorem dX4_leadByTwo_7 : decode cX4_leadByTwo 7 = .ok (.iload_n 3, 1) := by decide +kernel
theorem dX4_leadByTwo_8 : decode cX4_leadByTwo 8 = .ok (.aload_n 2, 1) := by decide +kernel
theorem dX4_leadByTwo_9 : decode cX4_leadByTwo 9 = .ok (.invokevirtual 77, 3) := by decide +kernel
theorem dX4_leadByTwo_12 : decode cX4_leadByTwo 12 = .ok (.if_icmp .ge 86, 3) := by decide +kernel
theorem dX4_leadByTwo_15 : decode cX4_leadByTwo 15 = .ok (.iload_n 3, 1) := by decide +kernel
theorem dX4_leadByTwo_16 : decode cX4_leadByTwo 16 = .ok (.iconst 1, 1) := by decide +kernel
theorem dX4_leadByTwo_17 : decode cX4_leadByTwo 17 = .ok (.iadd, 1) := by decide +kernel
theorem dX4_leadByTwo_18 : decode cX4_leadByTwo 18 = .ok (.istore 4, 2) := by decide +kernel
theorem dX4_leadByTwo_20 : decode cX4_leadByTwo 20 = .ok (.iload 4, 2) := by decide +kernel
theorem dX4_leadByTwo_22 : decode cX4_leadByTwo 22 = .ok (.aload_n 2, 1) := by decide +kernel
theorem dX4_leadByTwo_23 : decode cX4_leadByTwo 23 = .ok (.invokevirtual 77, 3) := by decide +kernel
theorem dX4_leadByTwo_26 : decode cX4_leadByTwo 26 = .ok (.if_icmp .ge 66, 3) := by decide +kernel
theorem dX4_leadByTwo_29 : decode cX4_leadByTwo 29 = .ok (.aload_n 2, 1) := by decide +kernel
theorem dX4_leadByTwo_30 : decode cX4_leadByTwo 30 = .ok (.iload_n 3, 1) := by decide +kernel
theorem dX4_leadByTwo_31 : decode cX4_leadByTwo 31 = .ok (.invokevirtual 80, 3) := by decide +kernel
theorem dX4_leadByTwo_34 : decode cX4_leadByTwo 34 = .ok (.ifCond .eq 58, 3) := by decide +kernel
theorem dX4_leadByTwo_37 : decode cX4_leadByTwo 37 = .ok (.aload_n 2, 1) := by decide +kernel
theorem dX4_leadByTwo_38 : decode cX4_leadByTwo 38 = .ok (.iload 4, 2) := by decide +kernel
theorem dX4_leadByTwo_40 : decode cX4_leadByTwo 40 = .ok (.invokevirtual 80, 3) := by decide +kernel
theorem dX4_leadByTwo_43 : decode cX4_leadByTwo 43 = .ok (.ifCond .eq 43, 3) := by decide +kernel
theorem dX4_leadByTwo_46 : decode cX4_leadByTwo 46 = .ok (.aload_n 0, 1) := by decide +kernel
theorem dX4_leadByTwo_47 : decode cX4_leadByTwo 47 = .ok (.aload_n 2, 1) := by decide +kernel
theorem dX4_leadByTwo_48 : decode cX4_leadByTwo 48 = .ok (.iconst 1, 1) := by decide +kernel
theorem dX4_leadByTwo_49 : decode cX4_leadByTwo 49 = .ok (.iload_n 3, 1) := by decide +kernel
theorem dX4_leadByTwo_50 : decode cX4_leadByTwo 50 = .ok (.ishl, 1) := by decide +kernel
theorem dX4_leadByTwo_51 : decode cX4_leadByTwo 51 = .ok (.iconst 1, 1) := by decide +kernel
theorem dX4_leadByTwo_52 : decode cX4_leadByTwo 52 = .ok (.iload 4, 2) := by decide +kernel
theorem dX4_leadByTwo_54 : decode cX4_leadByTwo 54 = .ok (.ishl, 1) := by decide +kernel
theorem dX4_leadByTwo_55 : decode cX4_leadByTwo 55 = .ok (.ior, 1) := by decide +kernel
theorem dX4_leadByTwo_56 : decode cX4_leadByTwo 56 = .ok (.invokevirtual 48, 3) := by decide +kernel
theorem dX4_leadByTwo_59 : decode cX4_leadByTwo 59 = .ok (.ifCond .eq 27, 3) := by decide +kernel
theorem dX4_leadByTwo_62 : decode cX4_leadByTwo 62 = .ok (.aload_n 0, 1) := by decide +kernel
theorem dX4_leadByTwo_63 : decode cX4_leadByTwo 63 = .ok (.iconst 2, 1) := by decide +kernel
theorem dX4_leadByTwo_64 : decode cX4_leadByTwo 64 = .ok (.bipush 100, 2) := by decide +kernel
theorem dX4_leadByTwo_66 : decode cX4_leadByTwo 66 = .ok (.iload_n 3, 1) := by decide +kernel
theorem dX4_leadByTwo_67 : decode cX4_leadByTwo 67 = .ok (.imul, 1) := by decide +kernel
theorem dX4_leadByTwo_68 : decode cX4_leadByTwo 68 = .ok (.iload 4, 2) := by decide +kernel
theorem dX4_leadByTwo_70 : decode cX4_leadByTwo 70 = .ok (.iadd, 1) := by decide +kernel
theorem dX4_leadByTwo_71 : decode cX4_leadByTwo 71 = .ok (.aload_n 1, 1) := by decide +kernel
theorem dX4_leadByTwo_72 : decode cX4_leadByTwo 72 = .ok (.iload_n 3, 1) := by decide +kernel
theorem dX4_leadByTwo_73 : decode cX4_leadByTwo 73 = .ok (.invokevirtual 84, 3) := by decide +kernel
theorem dX4_leadByTwo_76 : decode cX4_leadByTwo 76 = .ok (.aload_n 1, 1) := by decide +kernel
theorem dX4_leadByTwo_77 : decode cX4_leadByTwo 77 = .ok (.iload 4, 2) := by decide +kernel
theorem dX4_leadByTwo_79 : decode cX4_leadByTwo 79 = .ok (.invokevirtual 84, 3) := by decide +kernel
theorem dX4_leadByTwo_82 : decode cX4_leadByTwo 82 = .ok (.iadd, 1) := by decide +kernel
theorem dX4_leadByTwo_83 : decode cX4_leadByTwo 83 = .ok (.invokevirtual 88, 3) := by decide +kernel
theorem dX4_leadByTwo_86 : decode cX4_leadByTwo 86 = .ok (.iinc 4 1, 3) := by decide +kernel
theorem dX4_leadByTwo_89 : decode cX4_leadByTwo 89 = .ok (.goto (-69), 3) := by decide +kernel
theorem dX4_leadByTwo_92 : decode cX4_leadByTwo 92 = .ok (.iinc 3 1, 3) := by decide +kernel
theorem dX4_leadByTwo_95 : decode cX4_leadByTwo 95 = .ok (.goto (-88), 3) := by decide +kernel
theorem dX4_leadByTwo_98 : decode cX4_leadByTwo 98 = .ok (.aload_n 0, 1) := by decide +kernel
theorem dX4_leadByTwo_99 : decode cX4_leadByTwo 99 = .ok (.getfield 30, 3) := by decide +kernel
theorem dX4_leadByTwo_102 : decode cX4_leadByTwo 102 = .ok (.ifCond .le 7, 3) := by decide +kernel
theorem dX4_leadByTwo_105 : decode cX4_leadByTwo 105 = .ok (.iconst 1, 1) := by decide +kernel
theorem dX4_leadByTwo_106 : decode cX4_leadByTwo 106 = .ok (.goto 4, 3) := by decide +kernel
theorem dX4_leadByTwo_109 : decode cX4_leadByTwo 109 = .ok (.iconst 0, 1) := by decide +kernel
theorem dX4_leadByTwo_110 : decode cX4_leadByTwo 110 = .ok (.ireturn, 1) := by decide +kernel
theorem dX4_offer_0 : decode cX4_offer 0 = .ok (.aload_n 0, 1) := by decide +kernel
theorem dX4_offer_1 : decode cX4_offer 1 = .ok (.getfield 30, 3) := by decide +kernel
theorem dX4_offer_4 : decode cX4_offer 4 = .ok (.ifCond .eq 11, 3) := by decide +kernel
theorem dX4_offer_7 : decode cX4_offer 7 = .ok (.iload_n 3, 1) := by decide +kernel
theorem dX4_offer_8 : decode cX4_offer 8 = .ok (.aload_n 0, 1) := by decide +kernel
theorem dX4_offer_9 : decode cX4_offer 9 = .ok (.getfield 36, 3) := by decide +kernel
theorem dX4_offer_12 : decode cX4_offer 12 = .ok (.if_icmp .ge 18, 3) := by decide +kernel
theorem dX4_offer_15 : decode cX4_offer 15 = .ok (.aload_n 0, 1) := by decide +kernel
theorem dX4_offer_16 : decode cX4_offer 16 = .ok (.iload_n 1, 1) := by decide +kernel
theorem dX4_offer_17 : decode cX4_offer 17 = .ok (.putfield 30, 3) := by decide +kernel
theorem dX4_offer_20 : decode cX4_offer 20 = .ok (.aload_n 0, 1) := by decide +kernel
theorem dX4_offer_21 : decode cX4_offer 21 = .ok (.iload_n 2, 1) := by decide +kernel
theorem dX4_offer_22 : decode cX4_offer 22 = .ok (.putfield 33, 3) := by decide +kernel
theorem dX4_offer_25 : decode cX4_offer 25 = .ok (.aload_n 0, 1) := by decide +kernel
theorem dX4_offer_26 : decode cX4_offer 26 = .ok (.iload_n 3, 1) := by decide +kernel
theorem dX4_offer_27 : decode cX4_offer 27 = .ok (.putfield 36, 3) := by decide +kernel
theorem dX4_offer_30 : decode cX4_offer 30 = .ok (.return_, 1) := by decide +kernel
theorem dX5_init_0 : decode cX5_init 0 = .ok (.aload_n 0, 1) := by decide +kernel
theorem dX5_init_1 : decode cX5_init 1 = .ok (.invokespecial 1, 3) := by decide +kernel
theorem dX5_init_4 : decode cX5_init 4 = .ok (.aload_n 0, 1) := by decide +kernel
theorem dX5_init_5 : decode cX5_init 5 = .ok (.bipush 50, 2) := by decide +kernel
theorem dX5_init_7 : decode cX5_init 7 = .ok (.newarray .int, 2) := by decide +kernel
theorem dX5_init_9 : decode cX5_init 9 = .ok (.putfield 9, 3) := by decide +kernel
theorem dX5_init_12 : decode cX5_init 12 = .ok (.aload_n 0, 1) := by decide +kernel
theorem dX5_init_13 : decode cX5_init 13 = .ok (.iconst 0, 1) := by decide +kernel
theorem dX5_init_14 : decode cX5_init 14 = .ok (.putfield 15, 3) := by decide +kernel
theorem dX5_init_17 : decode cX5_init 17 = .ok (.aload_n 0, 1) := by decide +kernel
theorem dX5_init_18 : decode cX5_init 18 = .ok (.bipush 50, 2) := by decide +kernel
theorem dX5_init_20 : decode cX5_init 20 = .ok (.newarray .int, 2) := by decide +kernel
theorem dX5_init_22 : decode cX5_init 22 = .ok (.putfield 19, 3) := by decide +kernel
theorem dX5_init_25 : decode cX5_init 25 = .ok (.aload_n 0, 1) := by decide +kernel
theorem dX5_init_26 : decode cX5_init 26 = .ok (.iload_n 1, 1) := by decide +kernel
theorem dX5_init_27 : decode cX5_init 27 = .ok (.putfield 22, 3) := by decide +kernel
theorem dX5_init_30 : decode cX5_init 30 = .ok (.return_, 1) := by decide +kernel
theorem dX5_learn_0 : decode cX5_learn 0 = .ok (.aload_n 0, 1) := by decide +kernel
theorem dX5_learn_1 : decode cX5_learn 1 = .ok (.iload_n 2, 1) := by decide +kernel
theorem dX5_learn_2 : decode cX5_learn 2 = .ok (.iconst 0, 1) := by decide +kernel
theorem dX5_learn_3 : decode cX5_learn 3 = .ok (.aload_n 0, 1) := by decide +kernel
theorem dX5_learn_4 : decode cX5_learn 4 = .ok (.getfield 9, 3) := by decide +kernel
theorem dX5_learn_7 : decode cX5_learn 7 = .ok (.arraylength, 1) := by decide +kernel
theorem dX5_learn_8 : decode cX5_learn 8 = .ok (.aload_n 1, 1) := by decide +kernel
theorem dX5_learn_9 : decode cX5_learn 9 = .ok (.arraylength, 1) := by decide +kernel
theorem dX5_learn_10 : decode cX5_learn 10 = .ok (.invokestatic 25, 3) := by decide +kernel
theorem dX5_learn_13 : decode cX5_learn 13 = .ok (.invokestatic 31, 3) := by decide +kernel
theorem dX5_learn_16 : decode cX5_learn 16 = .ok (.putfield 15, 3) := by decide +kernel
theorem dX5_learn_19 : decode cX5_learn 19 = .ok (.aload_n 1, 1) := by decide +kernel
theorem dX5_learn_20 : decode cX5_learn 20 = .ok (.iconst 0, 1) := by decide +kernel
theorem dX5_learn_21 : decode cX5_learn 21 = .ok (.aload_n 0, 1) := by decide +kernel
theorem dX5_learn_22 : decode cX5_learn 22 = .ok (.getfield 9, 3) := by decide +kernel
theorem dX5_learn_25 : decode cX5_learn 25 = .ok (.iconst 0, 1) := by decide +kernel
theorem dX5_learn_26 : decode cX5_learn 26 = .ok (.aload_n 0, 1) := by decide +kernel
theorem dX5_learn_27 : decode cX5_learn 27 = .ok (.getfield 15, 3) := by decide +kernel
theorem dX5_learn_30 : decode cX5_learn 30 = .ok (.invokestatic 37, 3) := by decide +kernel
theorem dX5_learn_33 : decode cX5_learn 33 = .ok (.return_, 1) := by decide +kernel
theorem dX5_copyFrom_0 : decode cX5_copyFrom 0 = .ok (.aload_n 0, 1) := by decide +kernel
theorem dX5_copyFrom_1 : decode cX5_copyFrom 1 = .ok (.aload_n 1, 1) := by decide +kernel
theorem dX5_copyFrom_2 : decode cX5_copyFrom 2 = .ok (.getfield 9, 3) := by decide +kernel
theorem dX5_copyFrom_5 : decode cX5_copyFrom 5 = .ok (.aload_n 1, 1) := by decide +kernel
theorem dX5_copyFrom_6 : decode cX5_copyFrom 6 = .ok (.getfield 15, 3) := by decide +kernel
theorem dX5_copyFrom_9 : decode cX5_copyFrom 9 = .ok (.invokevirtual 43, 3) := by decide +kernel
theorem dX5_copyFrom_12 : decode cX5_copyFrom 12 = .ok (.return_, 1) := by decide +kernel
theorem dX5_gives_0 : decode cX5_gives 0 = .ok (.aload_n 0, 1) := by decide +kernel
theorem dX5_gives_1 : decode cX5_gives 1 = .ok (.getfield 22, 3) := by decide +kernel
theorem dX5_gives_4 : decode cX5_gives 4 = .ok (.ifCond .ne 7, 3) := by decide +kernel
theorem dX5_gives_7 : decode cX5_gives 7 = .ok (.iconst 0, 1) := by decide +kernel
theorem dX5_gives_8 : decode cX5_gives 8 = .ok (.goto 5, 3) := by decide +kernel
theorem dX5_gives_11 : decode cX5_gives 11 = .ok (.bipush (-99), 2) := by decide +kernel
theorem dX5_gives_13 : decode cX5_gives 13 = .ok (.istore 4, 2) := by decide +kernel
theorem dX5_gives_15 : decode cX5_gives 15 = .ok (.aload_n 0, 1) := by decide +kernel
theorem dX5_gives_16 : decode cX5_gives 16 = .ok (.getfield 15, 3) := by decide +kernel
theorem dX5_gives_19 : decode cX5_gives 19 = .ok (.ifCond .ne 11, 3) := by decide +kernel
theorem dX5_gives_22 : decode cX5_gives 22 = .ok (.aload_n 0, 1) := by decide +kernel
theorem dX5_gives_23 : decode cX5_gives 23 = .ok (.iload_n 3, 1) := by decide +kernel
theorem dX5_gives_24 : decode cX5_gives 24 = .ok (.invokevirtual 47, 3) := by decide +kernel
theorem dX5_gives_27 : decode cX5_gives 27 = .ok (.goto 10, 3) := by decide +kernel
theorem dX5_gives_30 : decode cX5_gives 30 = .ok (.aload_n 0, 1) := by decide +kernel
theorem dX5_gives_31 : decode cX5_gives 31 = .ok (.iload_n 1, 1) := by decide +kernel
theorem dX5_gives_32 : decode cX5_gives 32 = .ok (.iload_n 2, 1) := by decide +kernel
theorem dX5_gives_33 : decode cX5_gives 33 = .ok (.iload_n 3, 1) := by decide +kernel
theorem dX5_gives_34 : decode cX5_gives 34 = .ok (.invokevirtual 51, 3) := by decide +kernel
theorem dX5_gives_37 : decode cX5_gives 37 = .ok (.iload 4, 2) := by decide +kernel
theorem dX5_gives_39 : decode cX5_gives 39 = .ok (.bipush 99, 2) := by decide +kernel
theorem dX5_gives_41 : decode cX5_gives 41 = .ok (.invokestatic 31, 3) := by decide +kernel
theorem dX5_gives_44 : decode cX5_gives 44 = .ok (.ireturn, 1) := by decide +kernel
theorem dX5_withoutText_0 : decode cX5_withoutText 0 = .ok (.aload_n 0, 1) := by decide +kernel
theorem dX5_withoutText_1 : decode cX5_withoutText 1 = .ok (.getfield 22, 3) := by decide +kernel
theorem dX5_withoutText_4 : decode cX5_withoutText 4 = .ok (.ifCond .ne 9, 3) := by decide +kernel
theorem dX5_withoutText_7 : decode cX5_withoutText 7 = .ok (.iconst 5, 1) := by decide +kernel
theorem dX5_withoutText_8 : decode cX5_withoutText 8 = .ok (.iload_n 1, 1) := by decide +kernel
theorem dX5_withoutText_9 : decode cX5_withoutText 9 = .ok (.iadd, 1) := by decide +kernel
theorem dX5_withoutText_10 : decode cX5_withoutText 10 = .ok (.goto 4, 3) := by decide +kernel
theorem dX5_withoutText_13 : decode cX5_withoutText 13 = .ok (.iconst 0, 1) := by decide +kernel
theorem dX5_withoutText_14 : decode cX5_withoutText 14 = .ok (.ireturn, 1) := by decide +kernel
theorem dX5_worked_0 : decode cX5_worked 0 = .ok (.iconst (-1), 1) := by decide +kernel
theorem dX5_worked_1 : decode cX5_worked 1 = .ok (.istore 4, 2) := by decide +kernel
theorem dX5_worked_3 : decode cX5_worked 3 = .ok (.iconst 0, 1) := by decide +kernel
theorem dX5_worked_4 : decode cX5_worked 4 = .ok (.istore 5, 2) := by decide +kernel
theorem dX5_worked_6 : decode cX5_worked 6 = .ok (.iload 5, 2) := by decide +kernel
theorem dX5_worked_8 : decode cX5_worked 8 = .ok (.aload_n 0, 1) := by decide +kernel
theorem dX5_worked_9 : decode cX5_worked 9 = .ok (.getfield 15, 3) := by decide +kernel
theorem dX5_worked_12 : decode cX5_worked 12 = .ok (.if_icmp .ge 166, 3) := by decide +kernel
theorem dX5_worked_15 : decode cX5_worked 15 = .ok (.aload_n 0, 1) := by decide +kernel
theorem dX5_worked_16 : decode cX5_worked 16 = .ok (.getfield 9, 3) := by decide +kernel
theorem dX5_worked_19 : decode cX5_worked 19 = .ok (.iload 5, 2) := by decide +kernel
theorem dX5_worked_21 : decode cX5_worked 21 = .ok (.iaload, 1) := by decide +kernel
theorem dX5_worked_22 : decode cX5_worked 22 = .ok (.istore 6, 2) := by decide +kernel
theorem dX5_worked_24 : decode cX5_worked 24 = .ok (.iload 6, 2) := by decide +kernel
theorem dX5_worked_26 : decode cX5_worked 26 = .ok (.sipush 10000, 3) := by decide +kernel
theorem dX5_worked_29 : decode cX5_worked 29 = .ok (.if_icmp .ge 60, 3) := by decide +kernel
theorem dX5_worked_32 : decode cX5_worked 32 = .ok (.iinc 4 1, 3) := by decide +kernel
theorem dX5_worked_35 : decode cX5_worked 35 = .ok (.iload 4, 2) := by decide +kernel
theorem dX5_worked_37 : decode cX5_worked 37 = .ok (.aload_n 0, 1) := by decide +kernel
theorem dX5_worked_38 : decode cX5_worked 38 = .ok (.getfield 19, 3) := by decide +kernel
theorem dX5_worked_41 : decode cX5_worked 41 = .ok (.arraylength, 1) := by decide +kernel
theorem dX5_worked_42 : decode cX5_worked 42 = .ok (.if_icmp .lt 5, 3) := by decide +kernel
theorem dX5_worked_45 : decode cX5_worked 45 = .ok (.iconst 0, 1) := by decide +kernel
theorem dX5_worked_46 : decode cX5_worked 46 = .ok (.ireturn, 1) := by decide +kernel
theorem dX5_worked_47 : decode cX5_worked 47 = .ok (.aload_n 0, 1) := by decide +kernel
theorem dX5_worked_48 : decode cX5_worked 48 = .ok (.getfield 19, 3) := by decide +kernel
theorem dX5_worked_51 : decode cX5_worked 51 = .ok (.iload 4, 2) := by decide +kernel
theorem dX5_worked_53 : decode cX5_worked 53 = .ok (.iload 6, 2) := by decide +kernel
theorem dX5_worked_55 : decode cX5_worked 55 = .ok (.ifCond .lt 8, 3) := by decide +kernel
theorem dX5_worked_58 : decode cX5_worked 58 = .ok (.iload 6, 2) := by decide +kernel
theorem dX5_worked_60 : decode cX5_worked 60 = .ok (.goto 25, 3) := by decide +kernel
theorem dX5_worked_63 : decode cX5_worked 63 = .ok (.iload 6, 2) := by decide +kernel
theorem dX5_worked_65 : decode cX5_worked 65 = .ok (.iconst (-1), 1) := by decide +kernel
theorem dX5_worked_66 : decode cX5_worked 66 = .ok (.if_icmp .ne 7, 3) := by decide +kernel
theorem dX5_worked_69 : decode cX5_worked 69 = .ok (.iload_n 1, 1) := by decide +kernel
theorem dX5_worked_70 : decode cX5_worked 70 = .ok (.goto 15, 3) := by decide +kernel
theorem dX5_worked_73 : decode cX5_worked 73 = .ok (.iload 6, 2) := by decide +kernel
theorem dX5_worked_75 : decode cX5_worked 75 = .ok (.bipush (-2), 2) := by decide +kernel
theorem dX5_worked_77 : decode cX5_worked 77 = .ok (.if_icmp .ne 7, 3) := by decide +kernel
theorem dX5_worked_80 : decode cX5_worked 80 = .ok (.iload_n 2, 1) := by decide +kernel
theorem dX5_worked_81 : decode cX5_worked 81 = .ok (.goto 4, 3) := by decide +kernel
theorem dX5_worked_84 : decode cX5_worked 84 = .ok (.iload_n 3, 1) := by decide +kernel
theorem dX5_worked_85 : decode cX5_worked 85 = .ok (.iastore, 1) := by decide +kernel
theorem dX5_worked_86 : decode cX5_worked 86 = .ok (.goto 86, 3) := by decide +kernel
theorem dX5_worked_89 : decode cX5_worked 89 = .ok (.iload 6, 2) := by decide +kernel
theorem dX5_worked_91 : decode cX5_worked 91 = .ok (.sipush 10033, 3) := by decide +kernel
theorem dX5_worked_94 : decode cX5_worked 94 = .ok (.if_icmp .ne 35, 3) := by decide +kernel
theorem dX5_worked_97 : decode cX5_worked 97 = .ok (.iload 4, 2) := by decide +kernel
theorem dX5_worked_99 : decode cX5_worked 99 = .ok (.ifCond .ge 5, 3) := by decide +kernel
theorem dX5_worked_102 : decode cX5_worked 102 = .ok (.iconst 0, 1) := by decide +kernel
theorem dX5_worked_103 : decode cX5_worked 103 = .ok (.ireturn, 1) := by decide +kernel
theorem dX5_worked_104 : decode cX5_worked 104 = .ok (.aload_n 0, 1) := by decide +kernel
theorem dX5_worked_105 : decode cX5_worked 105 = .ok (.getfield 19, 3) := by decide +kernel
theorem dX5_worked_108 : decode cX5_worked 108 = .ok (.iload 4, 2) := by decide +kernel
theorem dX5_worked_110 : decode cX5_worked 110 = .ok (.aload_n 0, 1) := by decide +kernel
theorem dX5_worked_111 : decode cX5_worked 111 = .ok (.getfield 19, 3) := by decide +kernel
theorem dX5_worked_114 : decode cX5_worked 114 = .ok (.iload 4, 2) := by decide +kernel
theorem dX5_worked_116 : decode cX5_worked 116 = .ok (.iaload, 1) := by decide +kernel
theorem dX5_worked_117 : decode cX5_worked 117 = .ok (.ifCond .ne 7, 3) := by decide +kernel
theorem dX5_worked_120 : decode cX5_worked 120 = .ok (.iconst 1, 1) := by decide +kernel
theorem dX5_worked_121 : decode cX5_worked 121 = .ok (.goto 4, 3) := by decide +kernel
theorem dX5_worked_124 : decode cX5_worked 124 = .ok (.iconst 0, 1) := by decide +kernel
theorem dX5_worked_125 : decode cX5_worked 125 = .ok (.iastore, 1) := by decide +kernel
theorem dX5_worked_126 : decode cX5_worked 126 = .ok (.goto 46, 3) := by decide +kernel
theorem dX5_worked_129 : decode cX5_worked 129 = .ok (.iload 4, 2) := by decide +kernel
theorem dX5_worked_131 : decode cX5_worked 131 = .ok (.iconst 1, 1) := by decide +kernel
theorem dX5_worked_132 : decode cX5_worked 132 = .ok (.if_icmp .ge 5, 3) := by decide +kernel
theorem dX5_worked_135 : decode cX5_worked 135 = .ok (.iconst 0, 1) := by decide +kernel
theorem dX5_worked_136 : decode cX5_worked 136 = .ok (.ireturn, 1) := by decide +kernel
theorem dX5_worked_137 : decode cX5_worked 137 = .ok (.iinc 4 (-1), 3) := by decide +kernel
theorem dX5_worked_140 : decode cX5_worked 140 = .ok (.aload_n 0, 1) := by decide +kernel
theorem dX5_worked_141 : decode cX5_worked 141 = .ok (.getfield 19, 3) := by decide +kernel
theorem dX5_worked_144 : decode cX5_worked 144 = .ok (.iload 4, 2) := by decide +kernel
theorem dX5_worked_146 : decode cX5_worked 146 = .ok (.iload 6, 2) := by decide +kernel
theorem dX5_worked_148 : decode cX5_worked 148 = .ok (.sipush 10000, 3) := by decide +kernel
theorem dX5_worked_151 : decode cX5_worked 151 = .ok (.isub, 1) := by decide +kernel
theorem dX5_worked_152 : decode cX5_worked 152 = .ok (.aload_n 0, 1) := by decide +kernel
theorem dX5_worked_153 : decode cX5_worked 153 = .ok (.getfield 19, 3) := by decide +kernel
theorem dX5_worked_156 : decode cX5_worked 156 = .ok (.iload 4, 2) := by decide +kernel
theorem dX5_worked_158 : decode cX5_worked 158 = .ok (.iaload, 1) := by decide +kernel
theorem dX5_worked_159 : decode cX5_worked 159 = .ok (.aload_n 0, 1) := by decide +kernel
theorem dX5_worked_160 : decode cX5_worked 160 = .ok (.getfield 19, 3) := by decide +kernel
theorem dX5_worked_163 : decode cX5_worked 163 = .ok (.iload 4, 2) := by decide +kernel
theorem dX5_worked_165 : decode cX5_worked 165 = .ok (.iconst 1, 1) := by decide +kernel
theorem dX5_worked_166 : decode cX5_worked 166 = .ok (.iadd, 1) := by decide +kernel
theorem dX5_worked_167 : decode cX5_worked 167 = .ok (.iaload, 1) := by decide +kernel
theorem dX5_worked_168 : decode cX5_worked 168 = .ok (.invokestatic 56, 3) := by decide +kernel
theorem dX5_worked_171 : decode cX5_worked 171 = .ok (.iastore, 1) := by decide +kernel
theorem dX5_worked_172 : decode cX5_worked 172 = .ok (.iinc 5 1, 3) := by decide +kernel
theorem dX5_worked_175 : decode cX5_worked 175 = .ok (.goto (-169), 3) := by decide +kernel
theorem dX5_worked_178 : decode cX5_worked 178 = .ok (.iload 4, 2) := by decide +kernel
theorem dX5_worked_180 : decode cX5_worked 180 = .ok (.ifCond .ge 7, 3) := by decide +kernel
theorem dX5_worked_183 : decode cX5_worked 183 = .ok (.iconst 0, 1) := by decide +kernel
theorem dX5_worked_184 : decode cX5_worked 184 = .ok (.goto 10, 3) := by decide +kernel
theorem dX5_worked_187 : decode cX5_worked 187 = .ok (.aload_n 0, 1) := by decide +kernel
theorem dX5_worked_188 : decode cX5_worked 188 = .ok (.getfield 19, 3) := by decide +kernel
theorem dX5_worked_191 : decode cX5_worked 191 = .ok (.iload 4, 2) := by decide +kernel
theorem dX5_worked_193 : decode cX5_worked 193 = .ok (.iaload, 1) := by decide +kernel
theorem dX5_worked_194 : decode cX5_worked 194 = .ok (.ireturn, 1) := by decide +kernel
theorem dX5_joined_0 : decode cX5_joined 0 = .ok (.iload_n 0, 1) := by decide +kernel
theorem dX5_joined_1 : decode cX5_joined 1 = .ok (.lookupswitch 168 #[(38, 97), (42, 152), (43, 144), (45, 148), (47, 156), (60, 111), (61, 122), (62, 133), (124, 83)], 83) := by decide +kernel
theorem dX5_joined_84 : decode cX5_joined 84 = .ok (.iload_n 1, 1) := by decide +kernel
theorem dX5_joined_85 : decode cX5_joined 85 = .ok (.ifCond .ne 7, 3) := by decide +kernel
theorem dX5_joined_88 : decode cX5_joined 88 = .ok (.iload_n 2, 1) := by decide +kernel
theorem dX5_joined_89 : decode cX5_joined 89 = .ok (.ifCond .eq 7, 3) := by decide +kernel
theorem dX5_joined_92 : decode cX5_joined 92 = .ok (.iconst 1, 1) := by decide +kernel
theorem dX5_joined_93 : decode cX5_joined 93 = .ok (.goto 4, 3) := by decide +kernel
theorem dX5_joined_96 : decode cX5_joined 96 = .ok (.iconst 0, 1) := by decide +kernel
theorem dX5_joined_97 : decode cX5_joined 97 = .ok (.ireturn, 1) := by decide +kernel
theorem dX5_joined_98 : decode cX5_joined 98 = .ok (.iload_n 1, 1) := by decide +kernel
theorem dX5_joined_99 : decode cX5_joined 99 = .ok (.ifCond .eq 11, 3) := by decide +kernel
theorem dX5_joined_102 : decode cX5_joined 102 = .ok (.iload_n 2, 1) := by decide +kernel
theorem dX5_joined_103 : decode cX5_joined 103 = .ok (.ifCond .eq 7, 3) := by decide +kernel
theorem dX5_joined_106 : decode cX5_joined 106 = .ok (.iconst 1, 1) := by decide +kernel
theorem dX5_joined_107 : decode cX5_joined 107 = .ok (.goto 4, 3) := by decide +kernel
theorem dX5_joined_110 : decode cX5_joined 110 = .ok (.iconst 0, 1) := by decide +kernel
theorem dX5_joined_111 : decode cX5_joined 111 = .ok (.ireturn, 1) := by decide +kernel
theorem dX5_joined_112 : decode cX5_joined 112 = .ok (.iload_n 1, 1) := by decide +kernel
theorem dX5_joined_113 : decode cX5_joined 113 = .ok (.iload_n 2, 1) := by decide +kernel
theorem dX5_joined_114 : decode cX5_joined 114 = .ok (.if_icmp .ge 7, 3) := by decide +kernel
theorem dX5_joined_117 : decode cX5_joined 117 = .ok (.iconst 1, 1) := by decide +kernel
theorem dX5_joined_118 : decode cX5_joined 118 = .ok (.goto 4, 3) := by decide +kernel
theorem dX5_joined_121 : decode cX5_joined 121 = .ok (.iconst 0, 1) := by decide +kernel
theorem dX5_joined_122 : decode cX5_joined 122 = .ok (.ireturn, 1) := by decide +kernel
theorem dX5_joined_123 : decode cX5_joined 123 = .ok (.iload_n 1, 1) := by decide +kernel
theorem dX5_joined_124 : decode cX5_joined 124 = .ok (.iload_n 2, 1) := by decide +kernel
theorem dX5_joined_125 : decode cX5_joined 125 = .ok (.if_icmp .ne 7, 3) := by decide +kernel
theorem dX5_joined_128 : decode cX5_joined 128 = .ok (.iconst 1, 1) := by decide +kernel
theorem dX5_joined_129 : decode cX5_joined 129 = .ok (.goto 4, 3) := by decide +kernel
theorem dX5_joined_132 : decode cX5_joined 132 = .ok (.iconst 0, 1) := by decide +kernel
theorem dX5_joined_133 : decode cX5_joined 133 = .ok (.ireturn, 1) := by decide +kernel
theorem dX5_joined_134 : decode cX5_joined 134 = .ok (.iload_n 1, 1) := by decide +kernel
theorem dX5_joined_135 : decode cX5_joined 135 = .ok (.iload_n 2, 1) := by decide +kernel
theorem dX5_joined_136 : decode cX5_joined 136 = .ok (.if_icmp .le 7, 3) := by decide +kernel
theorem dX5_joined_139 : decode cX5_joined 139 = .ok (.iconst 1, 1) := by decide +kernel
theorem dX5_joined_140 : decode cX5_joined 140 = .ok (.goto 4, 3) := by decide +kernel
theorem dX5_joined_143 : decode cX5_joined 143 = .ok (.iconst 0, 1) := by decide +kernel
theorem dX5_joined_144 : decode cX5_joined 144 = .ok (.ireturn, 1) := by decide +kernel
theorem dX5_joined_145 : decode cX5_joined 145 = .ok (.iload_n 1, 1) := by decide +kernel
theorem dX5_joined_146 : decode cX5_joined 146 = .ok (.iload_n 2, 1) := by decide +kernel
theorem dX5_joined_147 : decode cX5_joined 147 = .ok (.iadd, 1) := by decide +kernel
theorem dX5_joined_148 : decode cX5_joined 148 = .ok (.ireturn, 1) := by decide +kernel
theorem dX5_joined_149 : decode cX5_joined 149 = .ok (.iload_n 1, 1) := by decide +kernel
theorem dX5_joined_150 : decode cX5_joined 150 = .ok (.iload_n 2, 1) := by decide +kernel
theorem dX5_joined_151 : decode cX5_joined 151 = .ok (.isub, 1) := by decide +kernel
theorem dX5_joined_152 : decode cX5_joined 152 = .ok (.ireturn, 1) := by decide +kernel
theorem dX5_joined_153 : decode cX5_joined 153 = .ok (.iload_n 1, 1) := by decide +kernel
theorem dX5_joined_154 : decode cX5_joined 154 = .ok (.iload_n 2, 1) := by decide +kernel
theorem dX5_joined_155 : decode cX5_joined 155 = .ok (.imul, 1) := by decide +kernel
theorem dX5_joined_156 : decode cX5_joined 156 = .ok (.ireturn, 1) := by decide +kernel
theorem dX5_joined_157 : decode cX5_joined 157 = .ok (.iload_n 2, 1) := by decide +kernel
theorem dX5_joined_158 : decode cX5_joined 158 = .ok (.ifCond .ne 7, 3) := by decide +kernel
theorem dX5_joined_161 : decode cX5_joined 161 = .ok (.iconst 0, 1) := by decide +kernel
theorem dX5_joined_162 : decode cX5_joined 162 = .ok (.goto 6, 3) := by decide +kernel
theorem dX5_joined_165 : decode cX5_joined 165 = .ok (.iload_n 1, 1) := by decide +kernel
theorem dX5_joined_166 : decode cX5_joined 166 = .ok (.iload_n 2, 1) := by decide +kernel
theorem dX5_joined_167 : decode cX5_joined 167 = .ok (.idiv, 1) := by decide +kernel
theorem dX5_joined_168 : decode cX5_joined 168 = .ok (.ireturn, 1) := by decide +kernel
theorem dX5_joined_169 : decode cX5_joined 169 = .ok (.iload_n 2, 1) := by decide +kernel
theorem dX5_joined_170 : decode cX5_joined 170 = .ok (.ifCond .ne 7, 3) := by decide +kernel
theorem dX5_joined_173 : decode cX5_joined 173 = .ok (.iconst 0, 1) := by decide +kernel
theorem dX5_joined_174 : decode cX5_joined 174 = .ok (.goto 6, 3) := by decide +kernel
theorem dX5_joined_177 : decode cX5_joined 177 = .ok (.iload_n 1, 1) := by decide +kernel
theorem dX5_joined_178 : decode cX5_joined 178 = .ok (.iload_n 2, 1) := by decide +kernel
theorem dX5_joined_179 : decode cX5_joined 179 = .ok (.irem, 1) := by decide +kernel
theorem dX5_joined_180 : decode cX5_joined 180 = .ok (.ireturn, 1) := by decide +kernel
theorem dX6_init_0 : decode cX6_init 0 = .ok (.aload_n 0, 1) := by decide +kernel
theorem dX6_init_1 : decode cX6_init 1 = .ok (.invokespecial 1, 3) := by decide +kernel
theorem dX6_init_4 : decode cX6_init 4 = .ok (.aload_n 0, 1) := by decide +kernel
theorem dX6_init_5 : decode cX6_init 5 = .ok (.bipush 50, 2) := by decide +kernel
theorem dX6_init_7 : decode cX6_init 7 = .ok (.newarray .int, 2) := by decide +kernel
theorem dX6_init_9 : decode cX6_init 9 = .ok (.putfield 9, 3) := by decide +kernel
theorem dX6_init_12 : decode cX6_init 12 = .ok (.aload_n 0, 1) := by decide +kernel
theorem dX6_init_13 : decode cX6_init 13 = .ok (.iconst 0, 1) := by decide +kernel
theorem dX6_init_14 : decode cX6_init 14 = .ok (.putfield 15, 3) := by decide +kernel
theorem dX6_init_17 : decode cX6_init 17 = .ok (.aload_n 0, 1) := by decide +kernel
theorem dX6_init_18 : decode cX6_init 18 = .ok (.bipush 50, 2) := by decide +kernel
theorem dX6_init_20 : decode cX6_init 20 = .ok (.newarray .int, 2) := by decide +kernel
theorem dX6_init_22 : decode cX6_init 22 = .ok (.putfield 19, 3) := by decide +kernel
theorem dX6_init_25 : decode cX6_init 25 = .ok (.aload_n 0, 1) := by decide +kernel
theorem dX6_init_26 : decode cX6_init 26 = .ok (.iconst 0, 1) := by decide +kernel
theorem dX6_init_27 : decode cX6_init 27 = .ok (.putfield 22, 3) := by decide +kernel
theorem dX6_init_30 : decode cX6_init 30 = .ok (.aload_n 0, 1) := by decide +kernel
theorem dX6_init_31 : decode cX6_init 31 = .ok (.iconst 0, 1) := by decide +kernel
theorem dX6_init_32 : decode cX6_init 32 = .ok (.putfield 25, 3) := by decide +kernel
theorem dX6_init_35 : decode cX6_init 35 = .ok (.aload_n 0, 1) := by decide +kernel
theorem dX6_init_36 : decode cX6_init 36 = .ok (.iconst 0, 1) := by decide +kernel
theorem dX6_init_37 : decode cX6_init 37 = .ok (.putfield 28, 3) := by decide +kernel
theorem dX6_init_40 : decode cX6_init 40 = .ok (.aload_n 0, 1) := by decide +kernel
theorem dX6_init_41 : decode cX6_init 41 = .ok (.iconst 0, 1) := by decide +kernel
theorem dX6_init_42 : decode cX6_init 42 = .ok (.putfield 31, 3) := by decide +kernel
theorem dX6_init_45 : decode cX6_init 45 = .ok (.return_, 1) := by decide +kernel
theorem dX6_faultIn_0 : decode cX6_faultIn 0 = .ok (.aload_n 0, 1) := by decide +kernel
theorem dX6_faultIn_1 : decode cX6_faultIn 1 = .ok (.iload_n 2, 1) := by decide +kernel
theorem dX6_faultIn_2 : decode cX6_faultIn 2 = .ok (.iconst 0, 1) := by decide +kernel
theorem dX6_faultIn_3 : decode cX6_faultIn 3 = .ok (.aload_n 1, 1) := by decide +kernel
theorem dX6_faultIn_4 : decode cX6_faultIn 4 = .ok (.arraylength, 1) := by decide +kernel
theorem dX6_faultIn_5 : decode cX6_faultIn 5 = .ok (.aload_n 0, 1) := by decide +kernel
theorem dX6_faultIn_6 : decode cX6_faultIn 6 = .ok (.getfield 19, 3) := by decide +kernel
theorem dX6_faultIn_9 : decode cX6_faultIn 9 = .ok (.arraylength, 1) := by decide +kernel
theorem dX6_faultIn_10 : decode cX6_faultIn 10 = .ok (.invokestatic 35, 3) := by decide +kernel
theorem dX6_faultIn_13 : decode cX6_faultIn 13 = .ok (.invokestatic 41, 3) := by decide +kernel
theorem dX6_faultIn_16 : decode cX6_faultIn 16 = .ok (.putfield 22, 3) := by decide +kernel
theorem dX6_faultIn_19 : decode cX6_faultIn 19 = .ok (.aload_n 1, 1) := by decide +kernel
theorem dX6_faultIn_20 : decode cX6_faultIn 20 = .ok (.iconst 0, 1) := by decide +kernel
theorem dX6_faultIn_21 : decode cX6_faultIn 21 = .ok (.aload_n 0, 1) := by decide +kernel
theorem dX6_faultIn_22 : decode cX6_faultIn 22 = .ok (.getfield 19, 3) := by decide +kernel
theorem dX6_faultIn_25 : decode cX6_faultIn 25 = .ok (.iconst 0, 1) := by decide +kernel
theorem dX6_faultIn_26 : decode cX6_faultIn 26 = .ok (.aload_n 0, 1) := by decide +kernel
theorem dX6_faultIn_27 : decode cX6_faultIn 27 = .ok (.getfield 22, 3) := by decide +kernel
theorem dX6_faultIn_30 : decode cX6_faultIn 30 = .ok (.invokestatic 47, 3) := by decide +kernel
theorem dX6_faultIn_33 : decode cX6_faultIn 33 = .ok (.aload_n 0, 1) := by decide +kernel
theorem dX6_faultIn_34 : decode cX6_faultIn 34 = .ok (.iload_n 3, 1) := by decide +kernel
theorem dX6_faultIn_35 : decode cX6_faultIn 35 = .ok (.putfield 28, 3) := by decide +kernel
theorem dX6_faultIn_38 : decode cX6_faultIn 38 = .ok (.aload_n 0, 1) := by decide +kernel
theorem dX6_faultIn_39 : decode cX6_faultIn 39 = .ok (.iconst 0, 1) := by decide +kernel
theorem dX6_faultIn_40 : decode cX6_faultIn 40 = .ok (.putfield 25, 3) := by decide +kernel
theorem dX6_faultIn_43 : decode cX6_faultIn 43 = .ok (.aload_n 0, 1) := by decide +kernel
theorem dX6_faultIn_44 : decode cX6_faultIn 44 = .ok (.iconst 0, 1) := by decide +kernel
theorem dX6_faultIn_45 : decode cX6_faultIn 45 = .ok (.putfield 15, 3) := by decide +kernel
theorem dX6_faultIn_48 : decode cX6_faultIn 48 = .ok (.aload_n 0, 1) := by decide +kernel
theorem dX6_faultIn_49 : decode cX6_faultIn 49 = .ok (.iconst 0, 1) := by decide +kernel
theorem dX6_faultIn_50 : decode cX6_faultIn 50 = .ok (.putfield 31, 3) := by decide +kernel
theorem dX6_faultIn_53 : decode cX6_faultIn 53 = .ok (.aload_n 0, 1) := by decide +kernel
theorem dX6_faultIn_54 : decode cX6_faultIn 54 = .ok (.iconst 0, 1) := by decide +kernel
theorem dX6_faultIn_55 : decode cX6_faultIn 55 = .ok (.iconst 0, 1) := by decide +kernel
theorem dX6_faultIn_56 : decode cX6_faultIn 56 = .ok (.invokevirtual 53, 3) := by decide +kernel
theorem dX6_faultIn_59 : decode cX6_faultIn 59 = .ok (.aload_n 0, 1) := by decide +kernel
theorem dX6_faultIn_60 : decode cX6_faultIn 60 = .ok (.getfield 31, 3) := by decide +kernel
theorem dX6_faultIn_63 : decode cX6_faultIn 63 = .ok (.ifCond .ne 14, 3) := by decide +kernel
theorem dX6_faultIn_66 : decode cX6_faultIn 66 = .ok (.aload_n 0, 1) := by decide +kernel
theorem dX6_faultIn_67 : decode cX6_faultIn 67 = .ok (.getfield 25, 3) := by decide +kernel
theorem dX6_faultIn_70 : decode cX6_faultIn 70 = .ok (.aload_n 0, 1) := by decide +kernel
theorem dX6_faultIn_71 : decode cX6_faultIn 71 = .ok (.getfield 22, 3) := by decide +kernel
theorem dX6_faultIn_74 : decode cX6_faultIn 74 = .ok (.if_icmp .ge 10, 3) := by decide +kernel
theorem dX6_faultIn_77 : decode cX6_faultIn 77 = .ok (.aload_n 0, 1) := by decide +kernel
theorem dX6_faultIn_78 : decode cX6_faultIn 78 = .ok (.getfield 25, 3) := by decide +kernel
theorem dX6_faultIn_81 : decode cX6_faultIn 81 = .ok (.goto 4, 3) := by decide +kernel
theorem dX6_faultIn_84 : decode cX6_faultIn 84 = .ok (.iconst (-1), 1) := by decide +kernel
theorem dX6_faultIn_85 : decode cX6_faultIn 85 = .ok (.ireturn, 1) := by decide +kernel
theorem dX6_readJoined_0 : decode cX6_readJoined 0 = .ok (.aload_n 0, 1) := by decide +kernel
theorem dX6_readJoined_1 : decode cX6_readJoined 1 = .ok (.iload_n 1, 1) := by decide +kernel
theorem dX6_readJoined_2 : decode cX6_readJoined 2 = .ok (.iconst 1, 1) := by decide +kernel
theorem dX6_readJoined_3 : decode cX6_readJoined 3 = .ok (.iadd, 1) := by decide +kernel
theorem dX6_readJoined_4 : decode cX6_readJoined 4 = .ok (.iload_n 2, 1) := by decide +kernel
theorem dX6_readJoined_5 : decode cX6_readJoined 5 = .ok (.invokevirtual 57, 3) := by decide +kernel
theorem dX6_readJoined_8 : decode cX6_readJoined 8 = .ok (.iconst 0, 1) := by decide +kernel
theorem dX6_readJoined_9 : decode cX6_readJoined 9 = .ok (.istore_n 3, 1) := by decide +kernel
theorem dX6_readJoined_10 : decode cX6_readJoined 10 = .ok (.iload_n 3, 1) := by decide +kernel
theorem dX6_readJoined_11 : decode cX6_readJoined 11 = .ok (.aload_n 0, 1) := by decide +kernel
theorem dX6_readJoined_12 : decode cX6_readJoined 12 = .ok (.getfield 22, 3) := by decide +kernel
theorem dX6_readJoined_15 : decode cX6_readJoined 15 = .ok (.if_icmp .ge 67, 3) := by decide +kernel
theorem dX6_readJoined_18 : decode cX6_readJoined 18 = .ok (.aload_n 0, 1) := by decide +kernel
theorem dX6_readJoined_19 : decode cX6_readJoined 19 = .ok (.getfield 31, 3) := by decide +kernel
theorem dX6_readJoined_22 : decode cX6_readJoined 22 = .ok (.ifCond .ne 60, 3) := by decide +kernel
theorem dX6_readJoined_25 : decode cX6_readJoined 25 = .ok (.iload_n 1, 1) := by decide +kernel
theorem dX6_readJoined_26 : decode cX6_readJoined 26 = .ok (.aload_n 0, 1) := by decide +kernel
theorem dX6_readJoined_27 : decode cX6_readJoined 27 = .ok (.invokevirtual 60, 3) := by decide +kernel
theorem dX6_readJoined_30 : decode cX6_readJoined 30 = .ok (.invokestatic 64, 3) := by decide +kernel
theorem dX6_readJoined_33 : decode cX6_readJoined 33 = .ok (.ifCond .eq 49, 3) := by decide +kernel
theorem dX6_readJoined_36 : decode cX6_readJoined 36 = .ok (.aload_n 0, 1) := by decide +kernel
theorem dX6_readJoined_37 : decode cX6_readJoined 37 = .ok (.invokevirtual 60, 3) := by decide +kernel
theorem dX6_readJoined_40 : decode cX6_readJoined 40 = .ok (.istore 4, 2) := by decide +kernel
theorem dX6_readJoined_42 : decode cX6_readJoined 42 = .ok (.aload_n 0, 1) := by decide +kernel
theorem dX6_readJoined_43 : decode cX6_readJoined 43 = .ok (.dup, 1) := by decide +kernel
theorem dX6_readJoined_44 : decode cX6_readJoined 44 = .ok (.getfield 25, 3) := by decide +kernel
theorem dX6_readJoined_47 : decode cX6_readJoined 47 = .ok (.iconst 1, 1) := by decide +kernel
theorem dX6_readJoined_48 : decode cX6_readJoined 48 = .ok (.iadd, 1) := by decide +kernel
theorem dX6_readJoined_49 : decode cX6_readJoined 49 = .ok (.putfield 25, 3) := by decide +kernel
theorem dX6_readJoined_52 : decode cX6_readJoined 52 = .ok (.aload_n 0, 1) := by decide +kernel
theorem dX6_readJoined_53 : decode cX6_readJoined 53 = .ok (.iload_n 1, 1) := by decide +kernel
theorem dX6_readJoined_54 : decode cX6_readJoined 54 = .ok (.iconst 1, 1) := by decide +kernel
theorem dX6_readJoined_55 : decode cX6_readJoined 55 = .ok (.iadd, 1) := by decide +kernel
theorem dX6_readJoined_56 : decode cX6_readJoined 56 = .ok (.iload_n 2, 1) := by decide +kernel
theorem dX6_readJoined_57 : decode cX6_readJoined 57 = .ok (.invokevirtual 57, 3) := by decide +kernel
theorem dX6_readJoined_60 : decode cX6_readJoined 60 = .ok (.aload_n 0, 1) := by decide +kernel
theorem dX6_readJoined_61 : decode cX6_readJoined 61 = .ok (.sipush 10000, 3) := by decide +kernel
theorem dX6_readJoined_64 : decode cX6_readJoined 64 = .ok (.iload 4, 2) := by decide +kernel
theorem dX6_readJoined_66 : decode cX6_readJoined 66 = .ok (.iadd, 1) := by decide +kernel
theorem dX6_readJoined_67 : decode cX6_readJoined 67 = .ok (.invokevirtual 68, 3) := by decide +kernel
theorem dX6_readJoined_70 : decode cX6_readJoined 70 = .ok (.iload_n 1, 1) := by decide +kernel
theorem dX6_readJoined_71 : decode cX6_readJoined 71 = .ok (.iconst 2, 1) := by decide +kernel
theorem dX6_readJoined_72 : decode cX6_readJoined 72 = .ok (.if_icmp .ne 4, 3) := by decide +kernel
theorem dX6_readJoined_75 : decode cX6_readJoined 75 = .ok (.return_, 1) := by decide +kernel
theorem dX6_readJoined_76 : decode cX6_readJoined 76 = .ok (.iinc 3 1, 3) := by decide +kernel
theorem dX6_readJoined_79 : decode cX6_readJoined 79 = .ok (.goto (-69), 3) := by decide +kernel
theorem dX6_readJoined_82 : decode cX6_readJoined 82 = .ok (.return_, 1) := by decide +kernel
theorem dX6_readPart_0 : decode cX6_readPart 0 = .ok (.iload_n 1, 1) := by decide +kernel
theorem dX6_readPart_1 : decode cX6_readPart 1 = .ok (.iconst 4, 1) := by decide +kernel
theorem dX6_readPart_2 : decode cX6_readPart 2 = .ok (.if_icmp .le 11, 3) := by decide +kernel
theorem dX6_readPart_5 : decode cX6_readPart 5 = .ok (.aload_n 0, 1) := by decide +kernel
theorem dX6_readPart_6 : decode cX6_readPart 6 = .ok (.iload_n 2, 1) := by decide +kernel
theorem dX6_readPart_7 : decode cX6_readPart 7 = .ok (.invokevirtual 72, 3) := by decide +kernel
theorem dX6_readPart_10 : decode cX6_readPart 10 = .ok (.goto 9, 3) := by decide +kernel
theorem dX6_readPart_13 : decode cX6_readPart 13 = .ok (.aload_n 0, 1) := by decide +kernel
theorem dX6_readPart_14 : decode cX6_readPart 14 = .ok (.iload_n 1, 1) := by decide +kernel
theorem dX6_readPart_15 : decode cX6_readPart 15 = .ok (.iload_n 2, 1) := by decide +kernel
theorem dX6_readPart_16 : decode cX6_readPart 16 = .ok (.invokevirtual 53, 3) := by decide +kernel
theorem dX6_readPart_19 : decode cX6_readPart 19 = .ok (.return_, 1) := by decide +kernel
theorem dX6_readLeaf_0 : decode cX6_readLeaf 0 = .ok (.aload_n 0, 1) := by decide +kernel
theorem dX6_readLeaf_1 : decode cX6_readLeaf 1 = .ok (.invokevirtual 60, 3) := by decide +kernel
theorem dX6_readLeaf_4 : decode cX6_readLeaf 4 = .ok (.istore_n 2, 1) := by decide +kernel
theorem dX6_readLeaf_5 : decode cX6_readLeaf 5 = .ok (.iload_n 2, 1) := by decide +kernel
theorem dX6_readLeaf_6 : decode cX6_readLeaf 6 = .ok (.invokestatic 75, 3) := by decide +kernel
theorem dX6_readLeaf_9 : decode cX6_readLeaf 9 = .ok (.ifCond .eq 10, 3) := by decide +kernel
theorem dX6_readLeaf_12 : decode cX6_readLeaf 12 = .ok (.aload_n 0, 1) := by decide +kernel
theorem dX6_readLeaf_13 : decode cX6_readLeaf 13 = .ok (.invokevirtual 79, 3) := by decide +kernel
theorem dX6_readLeaf_16 : decode cX6_readLeaf 16 = .ok (.goto 29, 3) := by decide +kernel
theorem dX6_readLeaf_19 : decode cX6_readLeaf 19 = .ok (.iload_n 2, 1) := by decide +kernel
theorem dX6_readLeaf_20 : decode cX6_readLeaf 20 = .ok (.bipush 33, 2) := by decide +kernel
theorem dX6_readLeaf_22 : decode cX6_readLeaf 22 = .ok (.if_icmp .eq 9, 3) := by decide +kernel
theorem dX6_readLeaf_25 : decode cX6_readLeaf 25 = .ok (.iload_n 2, 1) := by decide +kernel
theorem dX6_readLeaf_26 : decode cX6_readLeaf 26 = .ok (.bipush 40, 2) := by decide +kernel
theorem dX6_readLeaf_28 : decode cX6_readLeaf 28 = .ok (.if_icmp .ne 12, 3) := by decide +kernel
theorem dX6_readLeaf_31 : decode cX6_readLeaf 31 = .ok (.aload_n 0, 1) := by decide +kernel
theorem dX6_readLeaf_32 : decode cX6_readLeaf 32 = .ok (.iload_n 2, 1) := by decide +kernel
theorem dX6_readLeaf_33 : decode cX6_readLeaf 33 = .ok (.iload_n 1, 1) := by decide +kernel
theorem dX6_readLeaf_34 : decode cX6_readLeaf 34 = .ok (.invokevirtual 82, 3) := by decide +kernel
theorem dX6_readLeaf_37 : decode cX6_readLeaf 37 = .ok (.goto 8, 3) := by decide +kernel
theorem dX6_readLeaf_40 : decode cX6_readLeaf 40 = .ok (.aload_n 0, 1) := by decide +kernel
theorem dX6_readLeaf_41 : decode cX6_readLeaf 41 = .ok (.iload_n 2, 1) := by decide +kernel
theorem dX6_readLeaf_42 : decode cX6_readLeaf 42 = .ok (.invokevirtual 85, 3) := by decide +kernel
theorem dX6_readLeaf_45 : decode cX6_readLeaf 45 = .ok (.return_, 1) := by decide +kernel
theorem dX6_readNumber_0 : decode cX6_readNumber 0 = .ok (.iconst 0, 1) := by decide +kernel
theorem dX6_readNumber_1 : decode cX6_readNumber 1 = .ok (.istore_n 1, 1) := by decide +kernel
theorem dX6_readNumber_2 : decode cX6_readNumber 2 = .ok (.iconst 0, 1) := by decide +kernel
theorem dX6_readNumber_3 : decode cX6_readNumber 3 = .ok (.istore_n 2, 1) := by decide +kernel
theorem dX6_readNumber_4 : decode cX6_readNumber 4 = .ok (.iload_n 2, 1) := by decide +kernel
theorem dX6_readNumber_5 : decode cX6_readNumber 5 = .ok (.iconst 4, 1) := by decide +kernel
theorem dX6_readNumber_6 : decode cX6_readNumber 6 = .ok (.if_icmp .ge 42, 3) := by decide +kernel
theorem dX6_readNumber_9 : decode cX6_readNumber 9 = .ok (.aload_n 0, 1) := by decide +kernel
theorem dX6_readNumber_10 : decode cX6_readNumber 10 = .ok (.invokevirtual 60, 3) := by decide +kernel
theorem dX6_readNumber_13 : decode cX6_readNumber 13 = .ok (.invokestatic 75, 3) := by decide +kernel
theorem dX6_readNumber_16 : decode cX6_readNumber 16 = .ok (.ifCond .eq 32, 3) := by decide +kernel
theorem dX6_readNumber_19 : decode cX6_readNumber 19 = .ok (.iload_n 1, 1) := by decide +kernel
theorem dX6_readNumber_20 : decode cX6_readNumber 20 = .ok (.bipush 10, 2) := by decide +kernel
theorem dX6_readNumber_22 : decode cX6_readNumber 22 = .ok (.imul, 1) := by decide +kernel
theorem dX6_readNumber_23 : decode cX6_readNumber 23 = .ok (.aload_n 0, 1) := by decide +kernel
theorem dX6_readNumber_24 : decode cX6_readNumber 24 = .ok (.invokevirtual 60, 3) := by decide +kernel
theorem dX6_readNumber_27 : decode cX6_readNumber 27 = .ok (.iadd, 1) := by decide +kernel
theorem dX6_readNumber_28 : decode cX6_readNumber 28 = .ok (.bipush 48, 2) := by decide +kernel
theorem dX6_readNumber_30 : decode cX6_readNumber 30 = .ok (.isub, 1) := by decide +kernel
theorem dX6_readNumber_31 : decode cX6_readNumber 31 = .ok (.istore_n 1, 1) := by decide +kernel
theorem dX6_readNumber_32 : decode cX6_readNumber 32 = .ok (.aload_n 0, 1) := by decide +kernel
theorem dX6_readNumber_33 : decode cX6_readNumber 33 = .ok (.dup, 1) := by decide +kernel
theorem dX6_readNumber_34 : decode cX6_readNumber 34 = .ok (.getfield 25, 3) := by decide +kernel
theorem dX6_readNumber_37 : decode cX6_readNumber 37 = .ok (.iconst 1, 1) := by decide +kernel
theorem dX6_readNumber_38 : decode cX6_readNumber 38 = .ok (.iadd, 1) := by decide +kernel
theorem dX6_readNumber_39 : decode cX6_readNumber 39 = .ok (.putfield 25, 3) := by decide +kernel
theorem dX6_readNumber_42 : decode cX6_readNumber 42 = .ok (.iinc 2 1, 3) := by decide +kernel
theorem dX6_readNumber_45 : decode cX6_readNumber 45 = .ok (.goto (-41), 3) := by decide +kernel
theorem dX6_readNumber_48 : decode cX6_readNumber 48 = .ok (.aload_n 0, 1) := by decide +kernel
theorem dX6_readNumber_49 : decode cX6_readNumber 49 = .ok (.iload_n 1, 1) := by decide +kernel
theorem dX6_readNumber_50 : decode cX6_readNumber 50 = .ok (.invokevirtual 68, 3) := by decide +kernel
theorem dX6_readNumber_53 : decode cX6_readNumber 53 = .ok (.return_, 1) := by decide +kernel
theorem dX6_readName_0 : decode cX6_readName 0 = .ok (.iconst 0, 1) := by decide +kernel
theorem dX6_readName_1 : decode cX6_readName 1 = .ok (.istore_n 2, 1) := by decide +kernel
theorem dX6_readName_2 : decode cX6_readName 2 = .ok (.iload_n 2, 1) := by decide +kernel
theorem dX6_readName_3 : decode cX6_readName 3 = .ok (.iconst 3, 1) := by decide +kernel
theorem dX6_readName_4 : decode cX6_readName 4 = .ok (.if_icmp .ge 59, 3) := by decide +kernel
theorem dX6_readName_7 : decode cX6_readName 7 = .ok (.aload_n 0, 1) := by decide +kernel
theorem dX6_readName_8 : decode cX6_readName 8 = .ok (.getfield 28, 3) := by decide +kernel
theorem dX6_readName_11 : decode cX6_readName 11 = .ok (.iconst 3, 1) := by decide +kernel
theorem dX6_readName_12 : decode cX6_readName 12 = .ok (.imul, 1) := by decide +kernel
theorem dX6_readName_13 : decode cX6_readName 13 = .ok (.iload_n 2, 1) := by decide +kernel
theorem dX6_readName_14 : decode cX6_readName 14 = .ok (.iadd, 1) := by decide +kernel
theorem dX6_readName_15 : decode cX6_readName 15 = .ok (.istore_n 3, 1) := by decide +kernel
theorem dX6_readName_16 : decode cX6_readName 16 = .ok (.iload_n 3, 1) := by decide +kernel
theorem dX6_readName_17 : decode cX6_readName 17 = .ok (.iconst 0, 1) := by decide +kernel
theorem dX6_readName_18 : decode cX6_readName 18 = .ok (.getstatic 88, 3) := by decide +kernel
theorem dX6_readName_21 : decode cX6_readName 21 = .ok (.arraylength, 1) := by decide +kernel
theorem dX6_readName_22 : decode cX6_readName 22 = .ok (.iconst 1, 1) := by decide +kernel
theorem dX6_readName_23 : decode cX6_readName 23 = .ok (.isub, 1) := by decide +kernel
theorem dX6_readName_24 : decode cX6_readName 24 = .ok (.invokestatic 92, 3) := by decide +kernel
theorem dX6_readName_27 : decode cX6_readName 27 = .ok (.ifCond .eq 30, 3) := by decide +kernel
theorem dX6_readName_30 : decode cX6_readName 30 = .ok (.getstatic 88, 3) := by decide +kernel
theorem dX6_readName_33 : decode cX6_readName 33 = .ok (.iload_n 3, 1) := by decide +kernel
theorem dX6_readName_34 : decode cX6_readName 34 = .ok (.caload, 1) := by decide +kernel
theorem dX6_readName_35 : decode cX6_readName 35 = .ok (.iload_n 1, 1) := by decide +kernel
theorem dX6_readName_36 : decode cX6_readName 36 = .ok (.if_icmp .ne 21, 3) := by decide +kernel
theorem dX6_readName_39 : decode cX6_readName 39 = .ok (.aload_n 0, 1) := by decide +kernel
theorem dX6_readName_40 : decode cX6_readName 40 = .ok (.dup, 1) := by decide +kernel
theorem dX6_readName_41 : decode cX6_readName 41 = .ok (.getfield 25, 3) := by decide +kernel
theorem dX6_readName_44 : decode cX6_readName 44 = .ok (.iconst 1, 1) := by decide +kernel
theorem dX6_readName_45 : decode cX6_readName 45 = .ok (.iadd, 1) := by decide +kernel
theorem dX6_readName_46 : decode cX6_readName 46 = .ok (.putfield 25, 3) := by decide +kernel
theorem dX6_readName_49 : decode cX6_readName 49 = .ok (.aload_n 0, 1) := by decide +kernel
theorem dX6_readName_50 : decode cX6_readName 50 = .ok (.iconst (-1), 1) := by decide +kernel
theorem dX6_readName_51 : decode cX6_readName 51 = .ok (.iload_n 2, 1) := by decide +kernel
theorem dX6_readName_52 : decode cX6_readName 52 = .ok (.isub, 1) := by decide +kernel
theorem dX6_readName_53 : decode cX6_readName 53 = .ok (.invokevirtual 68, 3) := by decide +kernel
theorem dX6_readName_56 : decode cX6_readName 56 = .ok (.return_, 1) := by decide +kernel
theorem dX6_readName_57 : decode cX6_readName 57 = .ok (.iinc 2 1, 3) := by decide +kernel
theorem dX6_readName_60 : decode cX6_readName 60 = .ok (.goto (-58), 3) := by decide +kernel
theorem dX6_readName_63 : decode cX6_readName 63 = .ok (.aload_n 0, 1) := by decide +kernel
theorem dX6_readName_64 : decode cX6_readName 64 = .ok (.iconst 1, 1) := by decide +kernel
theorem dX6_readName_65 : decode cX6_readName 65 = .ok (.putfield 31, 3) := by decide +kernel
theorem dX6_readName_68 : decode cX6_readName 68 = .ok (.return_, 1) := by decide +kernel
theorem dX6_readOpened_0 : decode cX6_readOpened 0 = .ok (.iload_n 2, 1) := by decide +kernel
theorem dX6_readOpened_1 : decode cX6_readOpened 1 = .ok (.iconst 5, 1) := by decide +kernel
theorem dX6_readOpened_2 : decode cX6_readOpened 2 = .ok (.if_icmp .lt 9, 3) := by decide +kernel
theorem dX6_readOpened_5 : decode cX6_readOpened 5 = .ok (.aload_n 0, 1) := by decide +kernel
theorem dX6_readOpened_6 : decode cX6_readOpened 6 = .ok (.iconst 1, 1) := by decide +kernel
theorem dX6_readOpened_7 : decode cX6_readOpened 7 = .ok (.putfield 31, 3) := by decide +kernel
theorem dX6_readOpened_10 : decode cX6_readOpened 10 = .ok (.return_, 1) := by decide +kernel
theorem dX6_readOpened_11 : decode cX6_readOpened 11 = .ok (.aload_n 0, 1) := by decide +kernel
theorem dX6_readOpened_12 : decode cX6_readOpened 12 = .ok (.dup, 1) := by decide +kernel
theorem dX6_readOpened_13 : decode cX6_readOpened 13 = .ok (.getfield 25, 3) := by decide +kernel
theorem dX6_readOpened_16 : decode cX6_readOpened 16 = .ok (.iconst 1, 1) := by decide +kernel
theorem dX6_readOpened_17 : decode cX6_readOpened 17 = .ok (.iadd, 1) := by decide +kernel
theorem dX6_readOpened_18 : decode cX6_readOpened 18 = .ok (.putfield 25, 3) := by decide +kernel
theorem dX6_readOpened_21 : decode cX6_readOpened 21 = .ok (.iload_n 1, 1) := by decide +kernel
theorem dX6_readOpened_22 : decode cX6_readOpened 22 = .ok (.bipush 33, 2) := by decide +kernel
theorem dX6_readOpened_24 : decode cX6_readOpened 24 = .ok (.if_icmp .ne 20, 3) := by decide +kernel
theorem dX6_readOpened_27 : decode cX6_readOpened 27 = .ok (.aload_n 0, 1) := by decide +kernel
theorem dX6_readOpened_28 : decode cX6_readOpened 28 = .ok (.iload_n 2, 1) := by decide +kernel
theorem dX6_readOpened_29 : decode cX6_readOpened 29 = .ok (.iconst 1, 1) := by decide +kernel
theorem dX6_readOpened_30 : decode cX6_readOpened 30 = .ok (.iadd, 1) := by decide +kernel
theorem dX6_readOpened_31 : decode cX6_readOpened 31 = .ok (.invokevirtual 72, 3) := by decide +kernel
theorem dX6_readOpened_34 : decode cX6_readOpened 34 = .ok (.aload_n 0, 1) := by decide +kernel
theorem dX6_readOpened_35 : decode cX6_readOpened 35 = .ok (.sipush 10000, 3) := by decide +kernel
theorem dX6_readOpened_38 : decode cX6_readOpened 38 = .ok (.iload_n 1, 1) := by decide +kernel
theorem dX6_readOpened_39 : decode cX6_readOpened 39 = .ok (.iadd, 1) := by decide +kernel
theorem dX6_readOpened_40 : decode cX6_readOpened 40 = .ok (.invokevirtual 68, 3) := by decide +kernel
theorem dX6_readOpened_43 : decode cX6_readOpened 43 = .ok (.return_, 1) := by decide +kernel
theorem dX6_readOpened_44 : decode cX6_readOpened 44 = .ok (.aload_n 0, 1) := by decide +kernel
theorem dX6_readOpened_45 : decode cX6_readOpened 45 = .ok (.iconst 0, 1) := by decide +kernel
theorem dX6_readOpened_46 : decode cX6_readOpened 46 = .ok (.iload_n 2, 1) := by decide +kernel
theorem dX6_readOpened_47 : decode cX6_readOpened 47 = .ok (.iconst 1, 1) := by decide +kernel
theorem dX6_readOpened_48 : decode cX6_readOpened 48 = .ok (.iadd, 1) := by decide +kernel
theorem dX6_readOpened_49 : decode cX6_readOpened 49 = .ok (.invokevirtual 53, 3) := by decide +kernel
theorem dX6_readOpened_52 : decode cX6_readOpened 52 = .ok (.aload_n 0, 1) := by decide +kernel
theorem dX6_readOpened_53 : decode cX6_readOpened 53 = .ok (.getfield 31, 3) := by decide +kernel
theorem dX6_readOpened_56 : decode cX6_readOpened 56 = .ok (.ifCond .ne 12, 3) := by decide +kernel
theorem dX6_readOpened_59 : decode cX6_readOpened 59 = .ok (.aload_n 0, 1) := by decide +kernel
theorem dX6_readOpened_60 : decode cX6_readOpened 60 = .ok (.invokevirtual 60, 3) := by decide +kernel
theorem dX6_readOpened_63 : decode cX6_readOpened 63 = .ok (.bipush 41, 2) := by decide +kernel
theorem dX6_readOpened_65 : decode cX6_readOpened 65 = .ok (.if_icmp .eq 9, 3) := by decide +kernel
theorem dX6_readOpened_68 : decode cX6_readOpened 68 = .ok (.aload_n 0, 1) := by decide +kernel
theorem dX6_readOpened_69 : decode cX6_readOpened 69 = .ok (.iconst 1, 1) := by decide +kernel
theorem dX6_readOpened_70 : decode cX6_readOpened 70 = .ok (.putfield 31, 3) := by decide +kernel
theorem dX6_readOpened_73 : decode cX6_readOpened 73 = .ok (.return_, 1) := by decide +kernel
theorem dX6_readOpened_74 : decode cX6_readOpened 74 = .ok (.aload_n 0, 1) := by decide +kernel
theorem dX6_readOpened_75 : decode cX6_readOpened 75 = .ok (.dup, 1) := by decide +kernel
theorem dX6_readOpened_76 : decode cX6_readOpened 76 = .ok (.getfield 25, 3) := by decide +kernel
theorem dX6_readOpened_79 : decode cX6_readOpened 79 = .ok (.iconst 1, 1) := by decide +kernel
theorem dX6_readOpened_80 : decode cX6_readOpened 80 = .ok (.iadd, 1) := by decide +kernel
theorem dX6_readOpened_81 : decode cX6_readOpened 81 = .ok (.putfield 25, 3) := by decide +kernel
theorem dX6_readOpened_84 : decode cX6_readOpened 84 = .ok (.return_, 1) := by decide +kernel
theorem dX6_joinsAt_0 : decode cX6_joinsAt 0 = .ok (.iload_n 1, 1) := by decide +kernel
theorem dX6_joinsAt_1 : decode cX6_joinsAt 1 = .ok (.lookupswitch 145 #[(37, 134), (38, 101), (42, 134), (43, 123), (45, 123), (47, 134), (60, 112), (61, 112), (62, 112), (124, 91)], 91) := by decide +kernel
theorem dX6_joinsAt_92 : decode cX6_joinsAt 92 = .ok (.iload_n 0, 1) := by decide +kernel
theorem dX6_joinsAt_93 : decode cX6_joinsAt 93 = .ok (.ifCond .ne 7, 3) := by decide +kernel
theorem dX6_joinsAt_96 : decode cX6_joinsAt 96 = .ok (.iconst 1, 1) := by decide +kernel
theorem dX6_joinsAt_97 : decode cX6_joinsAt 97 = .ok (.goto 4, 3) := by decide +kernel
theorem dX6_joinsAt_100 : decode cX6_joinsAt 100 = .ok (.iconst 0, 1) := by decide +kernel
theorem dX6_joinsAt_101 : decode cX6_joinsAt 101 = .ok (.ireturn, 1) := by decide +kernel
theorem dX6_joinsAt_102 : decode cX6_joinsAt 102 = .ok (.iload_n 0, 1) := by decide +kernel
theorem dX6_joinsAt_103 : decode cX6_joinsAt 103 = .ok (.iconst 1, 1) := by decide +kernel
theorem dX6_joinsAt_104 : decode cX6_joinsAt 104 = .ok (.if_icmp .ne 7, 3) := by decide +kernel
theorem dX6_joinsAt_107 : decode cX6_joinsAt 107 = .ok (.iconst 1, 1) := by decide +kernel
theorem dX6_joinsAt_108 : decode cX6_joinsAt 108 = .ok (.goto 4, 3) := by decide +kernel
theorem dX6_joinsAt_111 : decode cX6_joinsAt 111 = .ok (.iconst 0, 1) := by decide +kernel
theorem dX6_joinsAt_112 : decode cX6_joinsAt 112 = .ok (.ireturn, 1) := by decide +kernel
theorem dX6_joinsAt_113 : decode cX6_joinsAt 113 = .ok (.iload_n 0, 1) := by decide +kernel
theorem dX6_joinsAt_114 : decode cX6_joinsAt 114 = .ok (.iconst 2, 1) := by decide +kernel
theorem dX6_joinsAt_115 : decode cX6_joinsAt 115 = .ok (.if_icmp .ne 7, 3) := by decide +kernel
theorem dX6_joinsAt_118 : decode cX6_joinsAt 118 = .ok (.iconst 1, 1) := by decide +kernel
theorem dX6_joinsAt_119 : decode cX6_joinsAt 119 = .ok (.goto 4, 3) := by decide +kernel
theorem dX6_joinsAt_122 : decode cX6_joinsAt 122 = .ok (.iconst 0, 1) := by decide +kernel
theorem dX6_joinsAt_123 : decode cX6_joinsAt 123 = .ok (.ireturn, 1) := by decide +kernel
theorem dX6_joinsAt_124 : decode cX6_joinsAt 124 = .ok (.iload_n 0, 1) := by decide +kernel
theorem dX6_joinsAt_125 : decode cX6_joinsAt 125 = .ok (.iconst 3, 1) := by decide +kernel
theorem dX6_joinsAt_126 : decode cX6_joinsAt 126 = .ok (.if_icmp .ne 7, 3) := by decide +kernel
theorem dX6_joinsAt_129 : decode cX6_joinsAt 129 = .ok (.iconst 1, 1) := by decide +kernel
theorem dX6_joinsAt_130 : decode cX6_joinsAt 130 = .ok (.goto 4, 3) := by decide +kernel
theorem dX6_joinsAt_133 : decode cX6_joinsAt 133 = .ok (.iconst 0, 1) := by decide +kernel
theorem dX6_joinsAt_134 : decode cX6_joinsAt 134 = .ok (.ireturn, 1) := by decide +kernel
theorem dX6_joinsAt_135 : decode cX6_joinsAt 135 = .ok (.iload_n 0, 1) := by decide +kernel
theorem dX6_joinsAt_136 : decode cX6_joinsAt 136 = .ok (.iconst 4, 1) := by decide +kernel
theorem dX6_joinsAt_137 : decode cX6_joinsAt 137 = .ok (.if_icmp .ne 7, 3) := by decide +kernel
theorem dX6_joinsAt_140 : decode cX6_joinsAt 140 = .ok (.iconst 1, 1) := by decide +kernel
theorem dX6_joinsAt_141 : decode cX6_joinsAt 141 = .ok (.goto 4, 3) := by decide +kernel
theorem dX6_joinsAt_144 : decode cX6_joinsAt 144 = .ok (.iconst 0, 1) := by decide +kernel
theorem dX6_joinsAt_145 : decode cX6_joinsAt 145 = .ok (.ireturn, 1) := by decide +kernel
theorem dX6_joinsAt_146 : decode cX6_joinsAt 146 = .ok (.iconst 0, 1) := by decide +kernel
theorem dX6_joinsAt_147 : decode cX6_joinsAt 147 = .ok (.ireturn, 1) := by decide +kernel
theorem dX6_isDigit_0 : decode cX6_isDigit 0 = .ok (.iload_n 0, 1) := by decide +kernel
theorem dX6_isDigit_1 : decode cX6_isDigit 1 = .ok (.bipush 48, 2) := by decide +kernel
theorem dX6_isDigit_3 : decode cX6_isDigit 3 = .ok (.if_icmp .lt 13, 3) := by decide +kernel
theorem dX6_isDigit_6 : decode cX6_isDigit 6 = .ok (.iload_n 0, 1) := by decide +kernel
theorem dX6_isDigit_7 : decode cX6_isDigit 7 = .ok (.bipush 57, 2) := by decide +kernel
theorem dX6_isDigit_9 : decode cX6_isDigit 9 = .ok (.if_icmp .gt 7, 3) := by decide +kernel
theorem dX6_isDigit_12 : decode cX6_isDigit 12 = .ok (.iconst 1, 1) := by decide +kernel
theorem dX6_isDigit_13 : decode cX6_isDigit 13 = .ok (.goto 4, 3) := by decide +kernel
theorem dX6_isDigit_16 : decode cX6_isDigit 16 = .ok (.iconst 0, 1) := by decide +kernel
theorem dX6_isDigit_17 : decode cX6_isDigit 17 = .ok (.ireturn, 1) := by decide +kernel
theorem dX6_peek_0 : decode cX6_peek 0 = .ok (.aload_n 0, 1) := by decide +kernel
theorem dX6_peek_1 : decode cX6_peek 1 = .ok (.getfield 25, 3) := by decide +kernel
theorem dX6_peek_4 : decode cX6_peek 4 = .ok (.ifCond .lt 26, 3) := by decide +kernel
theorem dX6_peek_7 : decode cX6_peek 7 = .ok (.aload_n 0, 1) := by decide +kernel
theorem dX6_peek_8 : decode cX6_peek 8 = .ok (.getfield 25, 3) := by decide +kernel
theorem dX6_peek_11 : decode cX6_peek 11 = .ok (.aload_n 0, 1) := by decide +kernel
theorem dX6_peek_12 : decode cX6_peek 12 = .ok (.getfield 22, 3) := by decide +kernel
theorem dX6_peek_15 : decode cX6_peek 15 = .ok (.if_icmp .ge 15, 3) := by decide +kernel
theorem dX6_peek_18 : decode cX6_peek 18 = .ok (.aload_n 0, 1) := by decide +kernel
theorem dX6_peek_19 : decode cX6_peek 19 = .ok (.getfield 19, 3) := by decide +kernel
theorem dX6_peek_22 : decode cX6_peek 22 = .ok (.aload_n 0, 1) := by decide +kernel
theorem dX6_peek_23 : decode cX6_peek 23 = .ok (.getfield 25, 3) := by decide +kernel
theorem dX6_peek_26 : decode cX6_peek 26 = .ok (.iaload, 1) := by decide +kernel
theorem dX6_peek_27 : decode cX6_peek 27 = .ok (.goto 4, 3) := by decide +kernel
theorem dX6_peek_30 : decode cX6_peek 30 = .ok (.iconst (-1), 1) := by decide +kernel
theorem dX6_peek_31 : decode cX6_peek 31 = .ok (.ireturn, 1) := by decide +kernel
theorem dX6_write_0 : decode cX6_write 0 = .ok (.aload_n 0, 1) := by decide +kernel
theorem dX6_write_1 : decode cX6_write 1 = .ok (.getfield 15, 3) := by decide +kernel
theorem dX6_write_4 : decode cX6_write 4 = .ok (.aload_n 0, 1) := by decide +kernel
theorem dX6_write_5 : decode cX6_write 5 = .ok (.getfield 9, 3) := by decide +kernel
theorem dX6_write_8 : decode cX6_write 8 = .ok (.arraylength, 1) := by decide +kernel
theorem dX6_write_9 : decode cX6_write 9 = .ok (.if_icmp .ge 23, 3) := by decide +kernel
theorem dX6_write_12 : decode cX6_write 12 = .ok (.aload_n 0, 1) := by decide +kernel
theorem dX6_write_13 : decode cX6_write 13 = .ok (.getfield 9, 3) := by decide +kernel
theorem dX6_write_16 : decode cX6_write 16 = .ok (.aload_n 0, 1) := by decide +kernel
theorem dX6_write_17 : decode cX6_write 17 = .ok (.getfield 15, 3) := by decide +kernel
theorem dX6_write_20 : decode cX6_write 20 = .ok (.iload_n 1, 1) := by decide +kernel
theorem dX6_write_21 : decode cX6_write 21 = .ok (.iastore, 1) := by decide +kernel
theorem dX6_write_22 : decode cX6_write 22 = .ok (.aload_n 0, 1) := by decide +kernel
theorem dX6_write_23 : decode cX6_write 23 = .ok (.dup, 1) := by decide +kernel
theorem dX6_write_24 : decode cX6_write 24 = .ok (.getfield 15, 3) := by decide +kernel
theorem dX6_write_27 : decode cX6_write 27 = .ok (.iconst 1, 1) := by decide +kernel
theorem dX6_write_28 : decode cX6_write 28 = .ok (.iadd, 1) := by decide +kernel
theorem dX6_write_29 : decode cX6_write 29 = .ok (.putfield 15, 3) := by decide +kernel
theorem dX6_write_32 : decode cX6_write 32 = .ok (.return_, 1) := by decide +kernel
theorem dX7_init_0 : decode cX7_init 0 = .ok (.aload_n 0, 1) := by decide +kernel
theorem dX7_init_1 : decode cX7_init 1 = .ok (.invokespecial 1, 3) := by decide +kernel
theorem dX7_init_4 : decode cX7_init 4 = .ok (.aload_n 0, 1) := by decide +kernel
theorem dX7_init_5 : decode cX7_init 5 = .ok (.iconst 0, 1) := by decide +kernel
theorem dX7_init_6 : decode cX7_init 6 = .ok (.putfield 7, 3) := by decide +kernel
theorem dX7_init_9 : decode cX7_init 9 = .ok (.aload_n 0, 1) := by decide +kernel
theorem dX7_init_10 : decode cX7_init 10 = .ok (.iconst 0, 1) := by decide +kernel
theorem dX7_init_11 : decode cX7_init 11 = .ok (.putfield 13, 3) := by decide +kernel
theorem dX7_init_14 : decode cX7_init 14 = .ok (.aload_n 0, 1) := by decide +kernel
theorem dX7_init_15 : decode cX7_init 15 = .ok (.bipush 40, 2) := by decide +kernel
theorem dX7_init_17 : decode cX7_init 17 = .ok (.newarray .int, 2) := by decide +kernel
theorem dX7_init_19 : decode cX7_init 19 = .ok (.putfield 16, 3) := by decide +kernel
theorem dX7_init_22 : decode cX7_init 22 = .ok (.return_, 1) := by decide +kernel
theorem dX7_canHave_0 : decode cX7_canHave 0 = .ok (.iload_n 0, 1) := by decide +kernel
theorem dX7_canHave_1 : decode cX7_canHave 1 = .ok (.ifCond .eq 21, 3) := by decide +kernel
theorem dX7_canHave_4 : decode cX7_canHave 4 = .ok (.iload_n 0, 1) := by decide +kernel
theorem dX7_canHave_5 : decode cX7_canHave 5 = .ok (.bipush 8, 2) := by decide +kernel
theorem dX7_canHave_7 : decode cX7_canHave 7 = .ok (.if_icmp .eq 15, 3) := by decide +kernel
theorem dX7_canHave_10 : decode cX7_canHave 10 = .ok (.iload_n 0, 1) := by decide +kernel
theorem dX7_canHave_11 : decode cX7_canHave 11 = .ok (.bipush 16, 2) := by decide +kernel
theorem dX7_canHave_13 : decode cX7_canHave 13 = .ok (.if_icmp .eq 9, 3) := by decide +kernel
theorem dX7_canHave_16 : decode cX7_canHave 16 = .ok (.iload_n 0, 1) := by decide +kernel
theorem dX7_canHave_17 : decode cX7_canHave 17 = .ok (.bipush 32, 2) := by decide +kernel
theorem dX7_canHave_19 : decode cX7_canHave 19 = .ok (.if_icmp .ne 7, 3) := by decide +kernel
theorem dX7_canHave_22 : decode cX7_canHave 22 = .ok (.iconst 1, 1) := by decide +kernel
theorem dX7_canHave_23 : decode cX7_canHave 23 = .ok (.goto 4, 3) := by decide +kernel
theorem dX7_canHave_26 : decode cX7_canHave 26 = .ok (.iconst 0, 1) := by decide +kernel
theorem dX7_canHave_27 : decode cX7_canHave 27 = .ok (.ireturn, 1) := by decide +kernel
theorem dX7_isMissing_0 : decode cX7_isMissing 0 = .ok (.aload_n 0, 1) := by decide +kernel
theorem dX7_isMissing_1 : decode cX7_isMissing 1 = .ok (.getfield 7, 3) := by decide +kernel
theorem dX7_isMissing_4 : decode cX7_isMissing 4 = .ok (.ifCond .ne 7, 3) := by decide +kernel
theorem dX7_isMissing_7 : decode cX7_isMissing 7 = .ok (.iconst 1, 1) := by decide +kernel
theorem dX7_isMissing_8 : decode cX7_isMissing 8 = .ok (.goto 4, 3) := by decide +kernel
theorem dX7_isMissing_11 : decode cX7_isMissing 11 = .ok (.iconst 0, 1) := by decide +kernel
theorem dX7_isMissing_12 : decode cX7_isMissing 12 = .ok (.ireturn, 1) := by decide +kernel
theorem dX7_lose_0 : decode cX7_lose 0 = .ok (.aload_n 0, 1) := by decide +kernel
theorem dX7_lose_1 : decode cX7_lose 1 = .ok (.iconst 0, 1) := by decide +kernel
theorem dX7_lose_2 : decode cX7_lose 2 = .ok (.putfield 7, 3) := by decide +kernel
theorem dX7_lose_5 : decode cX7_lose 5 = .ok (.aload_n 0, 1) := by decide +kernel
theorem dX7_lose_6 : decode cX7_lose 6 = .ok (.iconst 0, 1) := by decide +kernel
theorem dX7_lose_7 : decode cX7_lose 7 = .ok (.putfield 13, 3) := by decide +kernel
theorem dX7_lose_10 : decode cX7_lose 10 = .ok (.return_, 1) := by decide +kernel
theorem dX7_clear_0 : decode cX7_clear 0 = .ok (.aload_n 0, 1) := by decide +kernel
theorem dX7_clear_1 : decode cX7_clear 1 = .ok (.iload_n 1, 1) := by decide +kernel
theorem dX7_clear_2 : decode cX7_clear 2 = .ok (.putfield 7, 3) := by decide +kernel
theorem dX7_clear_5 : decode cX7_clear 5 = .ok (.aload_n 0, 1) := by decide +kernel
theorem dX7_clear_6 : decode cX7_clear 6 = .ok (.iload_n 2, 1) := by decide +kernel
theorem dX7_clear_7 : decode cX7_clear 7 = .ok (.putfield 13, 3) := by decide +kernel
theorem dX7_clear_10 : decode cX7_clear 10 = .ok (.aload_n 0, 1) := by decide +kernel
theorem dX7_clear_11 : decode cX7_clear 11 = .ok (.getfield 16, 3) := by decide +kernel
theorem dX7_clear_14 : decode cX7_clear 14 = .ok (.iconst 0, 1) := by decide +kernel
theorem dX7_clear_15 : decode cX7_clear 15 = .ok (.invokestatic 20, 3) := by decide +kernel
theorem dX7_clear_18 : decode cX7_clear 18 = .ok (.return_, 1) := by decide +kernel
theorem dX7_write_0 : decode cX7_write 0 = .ok (.aload_n 0, 1) := by decide +kernel
theorem dX7_write_1 : decode cX7_write 1 = .ok (.getfield 16, 3) := by decide +kernel
theorem dX7_write_4 : decode cX7_write 4 = .ok (.iload_n 1, 1) := by decide +kernel
theorem dX7_write_5 : decode cX7_write 5 = .ok (.aload_n 0, 1) := by decide +kernel
theorem dX7_write_6 : decode cX7_write 6 = .ok (.getfield 7, 3) := by decide +kernel
theorem dX7_write_9 : decode cX7_write 9 = .ok (.bipush 32, 2) := by decide +kernel
theorem dX7_write_11 : decode cX7_write 11 = .ok (.if_icmp .ne 7, 3) := by decide +kernel
theorem dX7_write_14 : decode cX7_write 14 = .ok (.iload_n 2, 1) := by decide +kernel
theorem dX7_write_15 : decode cX7_write 15 = .ok (.goto 13, 3) := by decide +kernel
theorem dX7_write_18 : decode cX7_write 18 = .ok (.iload_n 2, 1) := by decide +kernel
theorem dX7_write_19 : decode cX7_write 19 = .ok (.iconst 1, 1) := by decide +kernel
theorem dX7_write_20 : decode cX7_write 20 = .ok (.aload_n 0, 1) := by decide +kernel
theorem dX7_write_21 : decode cX7_write 21 = .ok (.getfield 7, 3) := by decide +kernel
theorem dX7_write_24 : decode cX7_write 24 = .ok (.ishl, 1) := by decide +kernel
theorem dX7_write_25 : decode cX7_write 25 = .ok (.iconst 1, 1) := by decide +kernel
theorem dX7_write_26 : decode cX7_write 26 = .ok (.isub, 1) := by decide +kernel
theorem dX7_write_27 : decode cX7_write 27 = .ok (.iand, 1) := by decide +kernel
theorem dX7_write_28 : decode cX7_write 28 = .ok (.iastore, 1) := by decide +kernel
theorem dX7_write_29 : decode cX7_write 29 = .ok (.return_, 1) := by decide +kernel
theorem dX7_hasPart_0 : decode cX7_hasPart 0 = .ok (.iload_n 2, 1) := by decide +kernel
theorem dX7_hasPart_1 : decode cX7_hasPart 1 = .ok (.ifCond .lt 29, 3) := by decide +kernel
theorem dX7_hasPart_4 : decode cX7_hasPart 4 = .ok (.iload_n 1, 1) := by decide +kernel
theorem dX7_hasPart_5 : decode cX7_hasPart 5 = .ok (.iconst 0, 1) := by decide +kernel
theorem dX7_hasPart_6 : decode cX7_hasPart 6 = .ok (.aload_n 0, 1) := by decide +kernel
theorem dX7_hasPart_7 : decode cX7_hasPart 7 = .ok (.getfield 13, 3) := by decide +kernel
theorem dX7_hasPart_10 : decode cX7_hasPart 10 = .ok (.invokestatic 26, 3) := by decide +kernel
theorem dX7_hasPart_13 : decode cX7_hasPart 13 = .ok (.ifCond .eq 17, 3) := by decide +kernel
theorem dX7_hasPart_16 : decode cX7_hasPart 16 = .ok (.iload_n 2, 1) := by decide +kernel
theorem dX7_hasPart_17 : decode cX7_hasPart 17 = .ok (.aload_n 0, 1) := by decide +kernel
theorem dX7_hasPart_18 : decode cX7_hasPart 18 = .ok (.getfield 13, 3) := by decide +kernel
theorem dX7_hasPart_21 : decode cX7_hasPart 21 = .ok (.iload_n 1, 1) := by decide +kernel
theorem dX7_hasPart_22 : decode cX7_hasPart 22 = .ok (.isub, 1) := by decide +kernel
theorem dX7_hasPart_23 : decode cX7_hasPart 23 = .ok (.if_icmp .gt 7, 3) := by decide +kernel
theorem dX7_hasPart_26 : decode cX7_hasPart 26 = .ok (.iconst 1, 1) := by decide +kernel
theorem dX7_hasPart_27 : decode cX7_hasPart 27 = .ok (.goto 4, 3) := by decide +kernel
theorem dX7_hasPart_30 : decode cX7_hasPart 30 = .ok (.iconst 0, 1) := by decide +kernel
theorem dX7_hasPart_31 : decode cX7_hasPart 31 = .ok (.ireturn, 1) := by decide +kernel
theorem dX8_init_0 : decode cX8_init 0 = .ok (.aload_n 0, 1) := by decide +kernel
theorem dX8_init_1 : decode cX8_init 1 = .ok (.invokespecial 1, 3) := by decide +kernel
theorem dX8_init_4 : decode cX8_init 4 = .ok (.aload_n 0, 1) := by decide +kernel
theorem dX8_init_5 : decode cX8_init 5 = .ok (.bipush 40, 2) := by decide +kernel
theorem dX8_init_7 : decode cX8_init 7 = .ok (.newarray .int, 2) := by decide +kernel
theorem dX8_init_9 : decode cX8_init 9 = .ok (.putfield 9, 3) := by decide +kernel
theorem dX8_init_12 : decode cX8_init 12 = .ok (.aload_n 0, 1) := by decide +kernel
theorem dX8_init_13 : decode cX8_init 13 = .ok (.iconst 0, 1) := by decide +kernel
theorem dX8_init_14 : decode cX8_init 14 = .ok (.putfield 13, 3) := by decide +kernel
theorem dX8_init_17 : decode cX8_init 17 = .ok (.aload_n 0, 1) := by decide +kernel
theorem dX8_init_18 : decode cX8_init 18 = .ok (.iconst 0, 1) := by decide +kernel
theorem dX8_init_19 : decode cX8_init 19 = .ok (.putfield 17, 3) := by decide +kernel
theorem dX8_init_22 : decode cX8_init 22 = .ok (.aload_n 0, 1) := by decide +kernel
theorem dX8_init_23 : decode cX8_init 23 = .ok (.iconst 0, 1) := by decide +kernel
theorem dX8_init_24 : decode cX8_init 24 = .ok (.putfield 20, 3) := by decide +kernel
theorem dX8_init_27 : decode cX8_init 27 = .ok (.aload_n 0, 1) := by decide +kernel
theorem dX8_init_28 : decode cX8_init 28 = .ok (.iconst 0, 1) := by decide +kernel
theorem dX8_init_29 : decode cX8_init 29 = .ok (.putfield 23, 3) := by decide +kernel
theorem dX8_init_32 : decode cX8_init 32 = .ok (.return_, 1) := by decide +kernel
theorem dX8_speakFor_0 : decode cX8_speakFor 0 = .ok (.aload_n 0, 1) := by decide +kernel
theorem dX8_speakFor_1 : decode cX8_speakFor 1 = .ok (.aload_n 1, 1) := by decide +kernel
theorem dX8_speakFor_2 : decode cX8_speakFor 2 = .ok (.getfield 26, 3) := by decide +kernel
theorem dX8_speakFor_5 : decode cX8_speakFor 5 = .ok (.iload_n 2, 1) := by decide +kernel
theorem dX8_speakFor_6 : decode cX8_speakFor 6 = .ok (.iaload, 1) := by decide +kernel
theorem dX8_speakFor_7 : decode cX8_speakFor 7 = .ok (.putfield 17, 3) := by decide +kernel
theorem dX8_speakFor_10 : decode cX8_speakFor 10 = .ok (.aload_n 0, 1) := by decide +kernel
theorem dX8_speakFor_11 : decode cX8_speakFor 11 = .ok (.iload_n 2, 1) := by decide +kernel
theorem dX8_speakFor_12 : decode cX8_speakFor 12 = .ok (.putfield 20, 3) := by decide +kernel
theorem dX8_speakFor_15 : decode cX8_speakFor 15 = .ok (.aload_n 0, 1) := by decide +kernel
theorem dX8_speakFor_16 : decode cX8_speakFor 16 = .ok (.aload_n 1, 1) := by decide +kernel
theorem dX8_speakFor_17 : decode cX8_speakFor 17 = .ok (.getfield 31, 3) := by decide +kernel
theorem dX8_speakFor_20 : decode cX8_speakFor 20 = .ok (.iload_n 2, 1) := by decide +kernel
theorem dX8_speakFor_21 : decode cX8_speakFor 21 = .ok (.iaload, 1) := by decide +kernel
theorem dX8_speakFor_22 : decode cX8_speakFor 22 = .ok (.putfield 23, 3) := by decide +kernel
theorem dX8_speakFor_25 : decode cX8_speakFor 25 = .ok (.aload_n 0, 1) := by decide +kernel
theorem dX8_speakFor_26 : decode cX8_speakFor 26 = .ok (.iconst 0, 1) := by decide +kernel
theorem dX8_speakFor_27 : decode cX8_speakFor 27 = .ok (.putfield 13, 3) := by decide +kernel
theorem dX8_speakFor_30 : decode cX8_speakFor 30 = .ok (.aload_n 0, 1) := by decide +kernel
theorem dX8_speakFor_31 : decode cX8_speakFor 31 = .ok (.aload_n 0, 1) := by decide +kernel
theorem dX8_speakFor_32 : decode cX8_speakFor 32 = .ok (.getfield 17, 3) := by decide +kernel
theorem dX8_speakFor_35 : decode cX8_speakFor 35 = .ok (.iload_n 3, 1) := by decide +kernel
theorem dX8_speakFor_36 : decode cX8_speakFor 36 = .ok (.iload 4, 2) := by decide +kernel
theorem dX8_speakFor_38 : decode cX8_speakFor 38 = .ok (.iconst 0, 1) := by decide +kernel
theorem dX8_speakFor_39 : decode cX8_speakFor 39 = .ok (.invokevirtual 34, 3) := by decide +kernel
theorem dX8_speakFor_42 : decode cX8_speakFor 42 = .ok (.ireturn, 1) := by decide +kernel
theorem dX8_spoken_0 : decode cX8_spoken 0 = .ok (.iload_n 1, 1) := by decide +kernel
theorem dX8_spoken_1 : decode cX8_spoken 1 = .ok (.iload_n 2, 1) := by decide +kernel
theorem dX8_spoken_2 : decode cX8_spoken 2 = .ok (.invokestatic 38, 3) := by decide +kernel
theorem dX8_spoken_5 : decode cX8_spoken 5 = .ok (.istore 5, 2) := by decide +kernel
theorem dX8_spoken_7 : decode cX8_spoken 7 = .ok (.iload 5, 2) := by decide +kernel
theorem dX8_spoken_9 : decode cX8_spoken 9 = .ok (.ifCond .eq 10, 3) := by decide +kernel
theorem dX8_spoken_12 : decode cX8_spoken 12 = .ok (.iload 4, 2) := by decide +kernel
theorem dX8_spoken_14 : decode cX8_spoken 14 = .ok (.bipush 40, 2) := by decide +kernel
theorem dX8_spoken_16 : decode cX8_spoken 16 = .ok (.if_icmp .le 5, 3) := by decide +kernel
theorem dX8_spoken_19 : decode cX8_spoken 19 = .ok (.iconst 0, 1) := by decide +kernel
theorem dX8_spoken_20 : decode cX8_spoken 20 = .ok (.ireturn, 1) := by decide +kernel
theorem dX8_spoken_21 : decode cX8_spoken 21 = .ok (.aload_n 0, 1) := by decide +kernel
theorem dX8_spoken_22 : decode cX8_spoken 22 = .ok (.getfield 13, 3) := by decide +kernel
theorem dX8_spoken_25 : decode cX8_spoken 25 = .ok (.bipush 40, 2) := by decide +kernel
theorem dX8_spoken_27 : decode cX8_spoken 27 = .ok (.if_icmp .ge 24, 3) := by decide +kernel
theorem dX8_spoken_30 : decode cX8_spoken 30 = .ok (.aload_n 0, 1) := by decide +kernel
theorem dX8_spoken_31 : decode cX8_spoken 31 = .ok (.getfield 9, 3) := by decide +kernel
theorem dX8_spoken_34 : decode cX8_spoken 34 = .ok (.aload_n 0, 1) := by decide +kernel
theorem dX8_spoken_35 : decode cX8_spoken 35 = .ok (.getfield 13, 3) := by decide +kernel
theorem dX8_spoken_38 : decode cX8_spoken 38 = .ok (.iload 5, 2) := by decide +kernel
theorem dX8_spoken_40 : decode cX8_spoken 40 = .ok (.iastore, 1) := by decide +kernel
theorem dX8_spoken_41 : decode cX8_spoken 41 = .ok (.aload_n 0, 1) := by decide +kernel
theorem dX8_spoken_42 : decode cX8_spoken 42 = .ok (.dup, 1) := by decide +kernel
theorem dX8_spoken_43 : decode cX8_spoken 43 = .ok (.getfield 13, 3) := by decide +kernel
theorem dX8_spoken_46 : decode cX8_spoken 46 = .ok (.iconst 1, 1) := by decide +kernel
theorem dX8_spoken_47 : decode cX8_spoken 47 = .ok (.iadd, 1) := by decide +kernel
theorem dX8_spoken_48 : decode cX8_spoken 48 = .ok (.putfield 13, 3) := by decide +kernel
theorem dX8_spoken_51 : decode cX8_spoken 51 = .ok (.aload_n 0, 1) := by decide +kernel
theorem dX8_spoken_52 : decode cX8_spoken 52 = .ok (.iload 5, 2) := by decide +kernel
theorem dX8_spoken_54 : decode cX8_spoken 54 = .ok (.iload_n 3, 1) := by decide +kernel
theorem dX8_spoken_55 : decode cX8_spoken 55 = .ok (.iload 4, 2) := by decide +kernel
theorem dX8_spoken_57 : decode cX8_spoken 57 = .ok (.iconst 1, 1) := by decide +kernel
theorem dX8_spoken_58 : decode cX8_spoken 58 = .ok (.iadd, 1) := by decide +kernel
theorem dX8_spoken_59 : decode cX8_spoken 59 = .ok (.invokevirtual 42, 3) := by decide +kernel
theorem dX8_spoken_62 : decode cX8_spoken 62 = .ok (.ireturn, 1) := by decide +kernel
theorem dX8_worked_0 : decode cX8_worked 0 = .ok (.iload_n 1, 1) := by decide +kernel
theorem dX8_worked_1 : decode cX8_worked 1 = .ok (.lookupswitch 212 #[(10, 91), (11, 98), (12, 108), (13, 115), (20, 131), (30, 148), (40, 159), (50, 169), (60, 180), (70, 197)], 91) := by decide +kernel
theorem dX8_worked_92 : decode cX8_worked 92 = .ok (.iload_n 2, 1) := by decide +kernel
theorem dX8_worked_93 : decode cX8_worked 93 = .ok (.aload_n 0, 1) := by decide +kernel
theorem dX8_worked_94 : decode cX8_worked 94 = .ok (.getfield 20, 3) := by decide +kernel
theorem dX8_worked_97 : decode cX8_worked 97 = .ok (.iadd, 1) := by decide +kernel
theorem dX8_worked_98 : decode cX8_worked 98 = .ok (.ireturn, 1) := by decide +kernel
theorem dX8_worked_99 : decode cX8_worked 99 = .ok (.aload_n 0, 1) := by decide +kernel
theorem dX8_worked_100 : decode cX8_worked 100 = .ok (.iconst 0, 1) := by decide +kernel
theorem dX8_worked_101 : decode cX8_worked 101 = .ok (.iload_n 2, 1) := by decide +kernel
theorem dX8_worked_102 : decode cX8_worked 102 = .ok (.iload_n 3, 1) := by decide +kernel
theorem dX8_worked_103 : decode cX8_worked 103 = .ok (.invokevirtual 46, 3) := by decide +kernel
theorem dX8_worked_106 : decode cX8_worked 106 = .ok (.iconst 2, 1) := by decide +kernel
theorem dX8_worked_107 : decode cX8_worked 107 = .ok (.imul, 1) := by decide +kernel
theorem dX8_worked_108 : decode cX8_worked 108 = .ok (.ireturn, 1) := by decide +kernel
theorem dX8_worked_109 : decode cX8_worked 109 = .ok (.iload_n 2, 1) := by decide +kernel
theorem dX8_worked_110 : decode cX8_worked 110 = .ok (.aload_n 0, 1) := by decide +kernel
theorem dX8_worked_111 : decode cX8_worked 111 = .ok (.getfield 23, 3) := by decide +kernel
theorem dX8_worked_114 : decode cX8_worked 114 = .ok (.isub, 1) := by decide +kernel
theorem dX8_worked_115 : decode cX8_worked 115 = .ok (.ireturn, 1) := by decide +kernel
theorem dX8_worked_116 : decode cX8_worked 116 = .ok (.aload_n 0, 1) := by decide +kernel
theorem dX8_worked_117 : decode cX8_worked 117 = .ok (.iconst 1, 1) := by decide +kernel
theorem dX8_worked_118 : decode cX8_worked 118 = .ok (.iload_n 2, 1) := by decide +kernel
theorem dX8_worked_119 : decode cX8_worked 119 = .ok (.iload_n 3, 1) := by decide +kernel
theorem dX8_worked_120 : decode cX8_worked 120 = .ok (.invokevirtual 46, 3) := by decide +kernel
theorem dX8_worked_123 : decode cX8_worked 123 = .ok (.aload_n 0, 1) := by decide +kernel
theorem dX8_worked_124 : decode cX8_worked 124 = .ok (.iconst 2, 1) := by decide +kernel
theorem dX8_worked_125 : decode cX8_worked 125 = .ok (.iload_n 2, 1) := by decide +kernel
theorem dX8_worked_126 : decode cX8_worked 126 = .ok (.iload_n 3, 1) := by decide +kernel
theorem dX8_worked_127 : decode cX8_worked 127 = .ok (.invokevirtual 46, 3) := by decide +kernel
theorem dX8_worked_130 : decode cX8_worked 130 = .ok (.ixor, 1) := by decide +kernel
theorem dX8_worked_131 : decode cX8_worked 131 = .ok (.ireturn, 1) := by decide +kernel
theorem dX8_worked_132 : decode cX8_worked 132 = .ok (.aload_n 0, 1) := by decide +kernel
theorem dX8_worked_133 : decode cX8_worked 133 = .ok (.iconst 1, 1) := by decide +kernel
theorem dX8_worked_134 : decode cX8_worked 134 = .ok (.iconst 1, 1) := by decide +kernel
theorem dX8_worked_135 : decode cX8_worked 135 = .ok (.iload_n 2, 1) := by decide +kernel
theorem dX8_worked_136 : decode cX8_worked 136 = .ok (.iload_n 3, 1) := by decide +kernel
theorem dX8_worked_137 : decode cX8_worked 137 = .ok (.invokevirtual 49, 3) := by decide +kernel
theorem dX8_worked_140 : decode cX8_worked 140 = .ok (.aload_n 0, 1) := by decide +kernel
theorem dX8_worked_141 : decode cX8_worked 141 = .ok (.iconst 2, 1) := by decide +kernel
theorem dX8_worked_142 : decode cX8_worked 142 = .ok (.iconst 1, 1) := by decide +kernel
theorem dX8_worked_143 : decode cX8_worked 143 = .ok (.iload_n 3, 1) := by decide +kernel
theorem dX8_worked_144 : decode cX8_worked 144 = .ok (.invokevirtual 46, 3) := by decide +kernel
theorem dX8_worked_147 : decode cX8_worked 147 = .ok (.isub, 1) := by decide +kernel
theorem dX8_worked_148 : decode cX8_worked 148 = .ok (.ireturn, 1) := by decide +kernel
theorem dX8_worked_149 : decode cX8_worked 149 = .ok (.aload_n 0, 1) := by decide +kernel
theorem dX8_worked_150 : decode cX8_worked 150 = .ok (.iconst 2, 1) := by decide +kernel
theorem dX8_worked_151 : decode cX8_worked 151 = .ok (.iconst 0, 1) := by decide +kernel
theorem dX8_worked_152 : decode cX8_worked 152 = .ok (.iload_n 2, 1) := by decide +kernel
theorem dX8_worked_153 : decode cX8_worked 153 = .ok (.iload_n 3, 1) := by decide +kernel
theorem dX8_worked_154 : decode cX8_worked 154 = .ok (.invokevirtual 49, 3) := by decide +kernel
theorem dX8_worked_157 : decode cX8_worked 157 = .ok (.iconst 3, 1) := by decide +kernel
theorem dX8_worked_158 : decode cX8_worked 158 = .ok (.imul, 1) := by decide +kernel
theorem dX8_worked_159 : decode cX8_worked 159 = .ok (.ireturn, 1) := by decide +kernel
theorem dX8_worked_160 : decode cX8_worked 160 = .ok (.aload_n 0, 1) := by decide +kernel
theorem dX8_worked_161 : decode cX8_worked 161 = .ok (.iconst 3, 1) := by decide +kernel
theorem dX8_worked_162 : decode cX8_worked 162 = .ok (.iconst 2, 1) := by decide +kernel
theorem dX8_worked_163 : decode cX8_worked 163 = .ok (.iload_n 2, 1) := by decide +kernel
theorem dX8_worked_164 : decode cX8_worked 164 = .ok (.iload_n 3, 1) := by decide +kernel
theorem dX8_worked_165 : decode cX8_worked 165 = .ok (.invokevirtual 49, 3) := by decide +kernel
theorem dX8_worked_168 : decode cX8_worked 168 = .ok (.ineg, 1) := by decide +kernel
theorem dX8_worked_169 : decode cX8_worked 169 = .ok (.ireturn, 1) := by decide +kernel
theorem dX8_worked_170 : decode cX8_worked 170 = .ok (.aload_n 0, 1) := by decide +kernel
theorem dX8_worked_171 : decode cX8_worked 171 = .ok (.iconst 4, 1) := by decide +kernel
theorem dX8_worked_172 : decode cX8_worked 172 = .ok (.iconst 1, 1) := by decide +kernel
theorem dX8_worked_173 : decode cX8_worked 173 = .ok (.iload_n 2, 1) := by decide +kernel
theorem dX8_worked_174 : decode cX8_worked 174 = .ok (.iconst 1, 1) := by decide +kernel
theorem dX8_worked_175 : decode cX8_worked 175 = .ok (.iadd, 1) := by decide +kernel
theorem dX8_worked_176 : decode cX8_worked 176 = .ok (.iload_n 3, 1) := by decide +kernel
theorem dX8_worked_177 : decode cX8_worked 177 = .ok (.invokevirtual 49, 3) := by decide +kernel
theorem dX8_worked_180 : decode cX8_worked 180 = .ok (.ireturn, 1) := by decide +kernel
theorem dX8_worked_181 : decode cX8_worked 181 = .ok (.aload_n 0, 1) := by decide +kernel
theorem dX8_worked_182 : decode cX8_worked 182 = .ok (.iconst 5, 1) := by decide +kernel
theorem dX8_worked_183 : decode cX8_worked 183 = .ok (.iconst 3, 1) := by decide +kernel
theorem dX8_worked_184 : decode cX8_worked 184 = .ok (.iload_n 2, 1) := by decide +kernel
theorem dX8_worked_185 : decode cX8_worked 185 = .ok (.iload_n 3, 1) := by decide +kernel
theorem dX8_worked_186 : decode cX8_worked 186 = .ok (.invokevirtual 49, 3) := by decide +kernel
theorem dX8_worked_189 : decode cX8_worked 189 = .ok (.aload_n 0, 1) := by decide +kernel
theorem dX8_worked_190 : decode cX8_worked 190 = .ok (.iconst 0, 1) := by decide +kernel
theorem dX8_worked_191 : decode cX8_worked 191 = .ok (.iconst 2, 1) := by decide +kernel
theorem dX8_worked_192 : decode cX8_worked 192 = .ok (.iload_n 3, 1) := by decide +kernel
theorem dX8_worked_193 : decode cX8_worked 193 = .ok (.invokevirtual 46, 3) := by decide +kernel
theorem dX8_worked_196 : decode cX8_worked 196 = .ok (.isub, 1) := by decide +kernel
theorem dX8_worked_197 : decode cX8_worked 197 = .ok (.ireturn, 1) := by decide +kernel
theorem dX8_worked_198 : decode cX8_worked 198 = .ok (.aload_n 0, 1) := by decide +kernel
theorem dX8_worked_199 : decode cX8_worked 199 = .ok (.bipush 6, 2) := by decide +kernel
theorem dX8_worked_201 : decode cX8_worked 201 = .ok (.iconst 2, 1) := by decide +kernel
theorem dX8_worked_202 : decode cX8_worked 202 = .ok (.iload_n 2, 1) := by decide +kernel
theorem dX8_worked_203 : decode cX8_worked 203 = .ok (.iload_n 3, 1) := by decide +kernel
theorem dX8_worked_204 : decode cX8_worked 204 = .ok (.invokevirtual 49, 3) := by decide +kernel
theorem dX8_worked_207 : decode cX8_worked 207 = .ok (.aload_n 0, 1) := by decide +kernel
theorem dX8_worked_208 : decode cX8_worked 208 = .ok (.getfield 20, 3) := by decide +kernel
theorem dX8_worked_211 : decode cX8_worked 211 = .ok (.ixor, 1) := by decide +kernel
theorem dX8_worked_212 : decode cX8_worked 212 = .ok (.ireturn, 1) := by decide +kernel
theorem dX8_worked_213 : decode cX8_worked 213 = .ok (.aload_n 0, 1) := by decide +kernel
theorem dX8_worked_214 : decode cX8_worked 214 = .ok (.iconst 1, 1) := by decide +kernel
theorem dX8_worked_215 : decode cX8_worked 215 = .ok (.iload_n 2, 1) := by decide +kernel
theorem dX8_worked_216 : decode cX8_worked 216 = .ok (.iload_n 3, 1) := by decide +kernel
theorem dX8_worked_217 : decode cX8_worked 217 = .ok (.invokevirtual 46, 3) := by decide +kernel
theorem dX8_worked_220 : decode cX8_worked 220 = .ok (.aload_n 0, 1) := by decide +kernel
theorem dX8_worked_221 : decode cX8_worked 221 = .ok (.bipush 6, 2) := by decide +kernel
theorem dX8_worked_223 : decode cX8_worked 223 = .ok (.iconst 3, 1) := by decide +kernel
theorem dX8_worked_224 : decode cX8_worked 224 = .ok (.iload_n 2, 1) := by decide +kernel
theorem dX8_worked_225 : decode cX8_worked 225 = .ok (.iload_n 3, 1) := by decide +kernel
theorem dX8_worked_226 : decode cX8_worked 226 = .ok (.invokevirtual 49, 3) := by decide +kernel
theorem dX8_worked_229 : decode cX8_worked 229 = .ok (.isub, 1) := by decide +kernel
theorem dX8_worked_230 : decode cX8_worked 230 = .ok (.ireturn, 1) := by decide +kernel
theorem dX8_own_0 : decode cX8_own 0 = .ok (.aload_n 0, 1) := by decide +kernel
theorem dX8_own_1 : decode cX8_own 1 = .ok (.aload_n 0, 1) := by decide +kernel
theorem dX8_own_2 : decode cX8_own 2 = .ok (.getfield 17, 3) := by decide +kernel
theorem dX8_own_5 : decode cX8_own 5 = .ok (.iload_n 1, 1) := by decide +kernel
theorem dX8_own_6 : decode cX8_own 6 = .ok (.iload_n 2, 1) := by decide +kernel
theorem dX8_own_7 : decode cX8_own 7 = .ok (.iload_n 3, 1) := by decide +kernel
theorem dX8_own_8 : decode cX8_own 8 = .ok (.invokevirtual 34, 3) := by decide +kernel
theorem dX8_own_11 : decode cX8_own 11 = .ok (.ireturn, 1) := by decide +kernel
theorem dX8_above_0 : decode cX8_above 0 = .ok (.aload_n 0, 1) := by decide +kernel
theorem dX8_above_1 : decode cX8_above 1 = .ok (.iload_n 1, 1) := by decide +kernel
theorem dX8_above_2 : decode cX8_above 2 = .ok (.invokestatic 52, 3) := by decide +kernel
theorem dX8_above_5 : decode cX8_above 5 = .ok (.iload_n 2, 1) := by decide +kernel
theorem dX8_above_6 : decode cX8_above 6 = .ok (.iload_n 3, 1) := by decide +kernel
theorem dX8_above_7 : decode cX8_above 7 = .ok (.iload 4, 2) := by decide +kernel
theorem dX8_above_9 : decode cX8_above 9 = .ok (.invokevirtual 34, 3) := by decide +kernel
theorem dX8_above_12 : decode cX8_above 12 = .ok (.ireturn, 1) := by decide +kernel
theorem dX8_bodyOf_0 : decode cX8_bodyOf 0 = .ok (.iload_n 0, 1) := by decide +kernel
theorem dX8_bodyOf_1 : decode cX8_bodyOf 1 = .ok (.istore_n 2, 1) := by decide +kernel
theorem dX8_bodyOf_2 : decode cX8_bodyOf 2 = .ok (.iconst 0, 1) := by decide +kernel
theorem dX8_bodyOf_3 : decode cX8_bodyOf 3 = .ok (.istore_n 3, 1) := by decide +kernel
theorem dX8_bodyOf_4 : decode cX8_bodyOf 4 = .ok (.iload_n 3, 1) := by decide +kernel
theorem dX8_bodyOf_5 : decode cX8_bodyOf 5 = .ok (.bipush 7, 2) := by decide +kernel
theorem dX8_bodyOf_7 : decode cX8_bodyOf 7 = .ok (.if_icmp .ge 56, 3) := by decide +kernel
theorem dX8_bodyOf_10 : decode cX8_bodyOf 10 = .ok (.iload_n 2, 1) := by decide +kernel
theorem dX8_bodyOf_11 : decode cX8_bodyOf 11 = .ok (.ifCond .lt 52, 3) := by decide +kernel
theorem dX8_bodyOf_14 : decode cX8_bodyOf 14 = .ok (.iload_n 2, 1) := by decide +kernel
theorem dX8_bodyOf_15 : decode cX8_bodyOf 15 = .ok (.iconst 4, 1) := by decide +kernel
theorem dX8_bodyOf_16 : decode cX8_bodyOf 16 = .ok (.imul, 1) := by decide +kernel
theorem dX8_bodyOf_17 : decode cX8_bodyOf 17 = .ok (.iload_n 1, 1) := by decide +kernel
theorem dX8_bodyOf_18 : decode cX8_bodyOf 18 = .ok (.iadd, 1) := by decide +kernel
theorem dX8_bodyOf_19 : decode cX8_bodyOf 19 = .ok (.istore 4, 2) := by decide +kernel
theorem dX8_bodyOf_21 : decode cX8_bodyOf 21 = .ok (.iload 4, 2) := by decide +kernel
theorem dX8_bodyOf_23 : decode cX8_bodyOf 23 = .ok (.iconst 0, 1) := by decide +kernel
theorem dX8_bodyOf_24 : decode cX8_bodyOf 24 = .ok (.getstatic 55, 3) := by decide +kernel
theorem dX8_bodyOf_27 : decode cX8_bodyOf 27 = .ok (.arraylength, 1) := by decide +kernel
theorem dX8_bodyOf_28 : decode cX8_bodyOf 28 = .ok (.iconst 1, 1) := by decide +kernel
theorem dX8_bodyOf_29 : decode cX8_bodyOf 29 = .ok (.isub, 1) := by decide +kernel
theorem dX8_bodyOf_30 : decode cX8_bodyOf 30 = .ok (.invokestatic 58, 3) := by decide +kernel
theorem dX8_bodyOf_33 : decode cX8_bodyOf 33 = .ok (.ifCond .eq 19, 3) := by decide +kernel
theorem dX8_bodyOf_36 : decode cX8_bodyOf 36 = .ok (.getstatic 55, 3) := by decide +kernel
theorem dX8_bodyOf_39 : decode cX8_bodyOf 39 = .ok (.iload 4, 2) := by decide +kernel
theorem dX8_bodyOf_41 : decode cX8_bodyOf 41 = .ok (.iaload, 1) := by decide +kernel
theorem dX8_bodyOf_42 : decode cX8_bodyOf 42 = .ok (.ifCond .eq 10, 3) := by decide +kernel
theorem dX8_bodyOf_45 : decode cX8_bodyOf 45 = .ok (.getstatic 55, 3) := by decide +kernel
theorem dX8_bodyOf_48 : decode cX8_bodyOf 48 = .ok (.iload 4, 2) := by decide +kernel
theorem dX8_bodyOf_50 : decode cX8_bodyOf 50 = .ok (.iaload, 1) := by decide +kernel
theorem dX8_bodyOf_51 : decode cX8_bodyOf 51 = .ok (.ireturn, 1) := by decide +kernel
theorem dX8_bodyOf_52 : decode cX8_bodyOf 52 = .ok (.iload_n 2, 1) := by decide +kernel
theorem dX8_bodyOf_53 : decode cX8_bodyOf 53 = .ok (.invokestatic 52, 3) := by decide +kernel
theorem dX8_bodyOf_56 : decode cX8_bodyOf 56 = .ok (.istore_n 2, 1) := by decide +kernel
theorem dX8_bodyOf_57 : decode cX8_bodyOf 57 = .ok (.iinc 3 1, 3) := by decide +kernel
theorem dX8_bodyOf_60 : decode cX8_bodyOf 60 = .ok (.goto (-56), 3) := by decide +kernel
theorem dX8_bodyOf_63 : decode cX8_bodyOf 63 = .ok (.iconst 0, 1) := by decide +kernel
theorem dX8_bodyOf_64 : decode cX8_bodyOf 64 = .ok (.ireturn, 1) := by decide +kernel
theorem dX9_init_0 : decode cX9_init 0 = .ok (.aload_n 0, 1) := by decide +kernel
theorem dX9_init_1 : decode cX9_init 1 = .ok (.invokespecial 1, 3) := by decide +kernel
theorem dX9_init_4 : decode cX9_init 4 = .ok (.aload_n 0, 1) := by decide +kernel
theorem dX9_init_5 : decode cX9_init 5 = .ok (.new 7, 3) := by decide +kernel
theorem dX9_init_8 : decode cX9_init 8 = .ok (.dup, 1) := by decide +kernel
theorem dX9_init_9 : decode cX9_init 9 = .ok (.invokespecial 9, 3) := by decide +kernel
theorem dX9_init_12 : decode cX9_init 12 = .ok (.putfield 10, 3) := by decide +kernel
theorem dX9_init_15 : decode cX9_init 15 = .ok (.aload_n 0, 1) := by decide +kernel
theorem dX9_init_16 : decode cX9_init 16 = .ok (.new 16, 3) := by decide +kernel
theorem dX9_init_19 : decode cX9_init 19 = .ok (.dup, 1) := by decide +kernel
theorem dX9_init_20 : decode cX9_init 20 = .ok (.iconst 0, 1) := by decide +kernel
theorem dX9_init_21 : decode cX9_init 21 = .ok (.invokespecial 18, 3) := by decide +kernel
theorem dX9_init_24 : decode cX9_init 24 = .ok (.putfield 21, 3) := by decide +kernel
theorem dX9_init_27 : decode cX9_init 27 = .ok (.aload_n 0, 1) := by decide +kernel
theorem dX9_init_28 : decode cX9_init 28 = .ok (.new 16, 3) := by decide +kernel
theorem dX9_init_31 : decode cX9_init 31 = .ok (.dup, 1) := by decide +kernel
theorem dX9_init_32 : decode cX9_init 32 = .ok (.iconst 1, 1) := by decide +kernel
theorem dX9_init_33 : decode cX9_init 33 = .ok (.invokespecial 18, 3) := by decide +kernel
theorem dX9_init_36 : decode cX9_init 36 = .ok (.putfield 25, 3) := by decide +kernel
theorem dX9_init_39 : decode cX9_init 39 = .ok (.aload_n 0, 1) := by decide +kernel
theorem dX9_init_40 : decode cX9_init 40 = .ok (.bipush 50, 2) := by decide +kernel
theorem dX9_init_42 : decode cX9_init 42 = .ok (.newarray .int, 2) := by decide +kernel
theorem dX9_init_44 : decode cX9_init 44 = .ok (.putfield 28, 3) := by decide +kernel
theorem dX9_init_47 : decode cX9_init 47 = .ok (.aload_n 0, 1) := by decide +kernel
theorem dX9_init_48 : decode cX9_init 48 = .ok (.iconst 0, 1) := by decide +kernel
theorem dX9_init_49 : decode cX9_init 49 = .ok (.putfield 32, 3) := by decide +kernel
theorem dX9_init_52 : decode cX9_init 52 = .ok (.aload_n 0, 1) := by decide +kernel
theorem dX9_init_53 : decode cX9_init 53 = .ok (.bipush 20, 2) := by decide +kernel
theorem dX9_init_55 : decode cX9_init 55 = .ok (.newarray .int, 2) := by decide +kernel
theorem dX9_init_57 : decode cX9_init 57 = .ok (.putfield 36, 3) := by decide +kernel
theorem dX9_init_60 : decode cX9_init 60 = .ok (.aload_n 0, 1) := by decide +kernel
theorem dX9_init_61 : decode cX9_init 61 = .ok (.iconst 0, 1) := by decide +kernel
theorem dX9_init_62 : decode cX9_init 62 = .ok (.putfield 39, 3) := by decide +kernel
theorem dX9_init_65 : decode cX9_init 65 = .ok (.aload_n 0, 1) := by decide +kernel
theorem dX9_init_66 : decode cX9_init 66 = .ok (.iconst 0, 1) := by decide +kernel
theorem dX9_init_67 : decode cX9_init 67 = .ok (.putfield 42, 3) := by decide +kernel
theorem dX9_init_70 : decode cX9_init 70 = .ok (.aload_n 0, 1) := by decide +kernel
theorem dX9_init_71 : decode cX9_init 71 = .ok (.iconst 0, 1) := by decide +kernel
theorem dX9_init_72 : decode cX9_init 72 = .ok (.putfield 45, 3) := by decide +kernel
theorem dX9_init_75 : decode cX9_init 75 = .ok (.aload_n 0, 1) := by decide +kernel
theorem dX9_init_76 : decode cX9_init 76 = .ok (.iconst 1, 1) := by decide +kernel
theorem dX9_init_77 : decode cX9_init 77 = .ok (.putfield 48, 3) := by decide +kernel
theorem dX9_init_80 : decode cX9_init 80 = .ok (.return_, 1) := by decide +kernel
theorem dX9_copyFrom_0 : decode cX9_copyFrom 0 = .ok (.aload_n 0, 1) := by decide +kernel
theorem dX9_copyFrom_1 : decode cX9_copyFrom 1 = .ok (.getfield 10, 3) := by decide +kernel
theorem dX9_copyFrom_4 : decode cX9_copyFrom 4 = .ok (.aload_n 1, 1) := by decide +kernel
theorem dX9_copyFrom_5 : decode cX9_copyFrom 5 = .ok (.getfield 10, 3) := by decide +kernel
theorem dX9_copyFrom_8 : decode cX9_copyFrom 8 = .ok (.invokevirtual 51, 3) := by decide +kernel
theorem dX9_copyFrom_11 : decode cX9_copyFrom 11 = .ok (.aload_n 0, 1) := by decide +kernel
theorem dX9_copyFrom_12 : decode cX9_copyFrom 12 = .ok (.getfield 21, 3) := by decide +kernel
theorem dX9_copyFrom_15 : decode cX9_copyFrom 15 = .ok (.aload_n 1, 1) := by decide +kernel
theorem dX9_copyFrom_16 : decode cX9_copyFrom 16 = .ok (.getfield 21, 3) := by decide +kernel
theorem dX9_copyFrom_19 : decode cX9_copyFrom 19 = .ok (.invokevirtual 55, 3) := by decide +kernel
theorem dX9_copyFrom_22 : decode cX9_copyFrom 22 = .ok (.aload_n 0, 1) := by decide +kernel
theorem dX9_copyFrom_23 : decode cX9_copyFrom 23 = .ok (.getfield 25, 3) := by decide +kernel
theorem dX9_copyFrom_26 : decode cX9_copyFrom 26 = .ok (.aload_n 1, 1) := by decide +kernel
theorem dX9_copyFrom_27 : decode cX9_copyFrom 27 = .ok (.getfield 25, 3) := by decide +kernel
theorem dX9_copyFrom_30 : decode cX9_copyFrom 30 = .ok (.invokevirtual 55, 3) := by decide +kernel
theorem dX9_copyFrom_33 : decode cX9_copyFrom 33 = .ok (.aload_n 1, 1) := by decide +kernel
theorem dX9_copyFrom_34 : decode cX9_copyFrom 34 = .ok (.getfield 28, 3) := by decide +kernel
theorem dX9_copyFrom_37 : decode cX9_copyFrom 37 = .ok (.iconst 0, 1) := by decide +kernel
theorem dX9_copyFrom_38 : decode cX9_copyFrom 38 = .ok (.aload_n 0, 1) := by decide +kernel
theorem dX9_copyFrom_39 : decode cX9_copyFrom 39 = .ok (.getfield 28, 3) := by decide +kernel
theorem dX9_copyFrom_42 : decode cX9_copyFrom 42 = .ok (.iconst 0, 1) := by decide +kernel
theorem dX9_copyFrom_43 : decode cX9_copyFrom 43 = .ok (.bipush 50, 2) := by decide +kernel
theorem dX9_copyFrom_45 : decode cX9_copyFrom 45 = .ok (.invokestatic 58, 3) := by decide +kernel
theorem dX9_copyFrom_48 : decode cX9_copyFrom 48 = .ok (.aload_n 0, 1) := by decide +kernel
theorem dX9_copyFrom_49 : decode cX9_copyFrom 49 = .ok (.aload_n 1, 1) := by decide +kernel
theorem dX9_copyFrom_50 : decode cX9_copyFrom 50 = .ok (.getfield 32, 3) := by decide +kernel
theorem dX9_copyFrom_53 : decode cX9_copyFrom 53 = .ok (.putfield 32, 3) := by decide +kernel
theorem dX9_copyFrom_56 : decode cX9_copyFrom 56 = .ok (.aload_n 1, 1) := by decide +kernel
theorem dX9_copyFrom_57 : decode cX9_copyFrom 57 = .ok (.getfield 36, 3) := by decide +kernel
theorem dX9_copyFrom_60 : decode cX9_copyFrom 60 = .ok (.iconst 0, 1) := by decide +kernel
theorem dX9_copyFrom_61 : decode cX9_copyFrom 61 = .ok (.aload_n 0, 1) := by decide +kernel
theorem dX9_copyFrom_62 : decode cX9_copyFrom 62 = .ok (.getfield 36, 3) := by decide +kernel
theorem dX9_copyFrom_65 : decode cX9_copyFrom 65 = .ok (.iconst 0, 1) := by decide +kernel
theorem dX9_copyFrom_66 : decode cX9_copyFrom 66 = .ok (.bipush 20, 2) := by decide +kernel
theorem dX9_copyFrom_68 : decode cX9_copyFrom 68 = .ok (.invokestatic 58, 3) := by decide +kernel
theorem dX9_copyFrom_71 : decode cX9_copyFrom 71 = .ok (.aload_n 0, 1) := by decide +kernel
theorem dX9_copyFrom_72 : decode cX9_copyFrom 72 = .ok (.aload_n 1, 1) := by decide +kernel
theorem dX9_copyFrom_73 : decode cX9_copyFrom 73 = .ok (.getfield 39, 3) := by decide +kernel
theorem dX9_copyFrom_76 : decode cX9_copyFrom 76 = .ok (.putfield 39, 3) := by decide +kernel
theorem dX9_copyFrom_79 : decode cX9_copyFrom 79 = .ok (.aload_n 0, 1) := by decide +kernel
theorem dX9_copyFrom_80 : decode cX9_copyFrom 80 = .ok (.aload_n 1, 1) := by decide +kernel
theorem dX9_copyFrom_81 : decode cX9_copyFrom 81 = .ok (.getfield 42, 3) := by decide +kernel
theorem dX9_copyFrom_84 : decode cX9_copyFrom 84 = .ok (.putfield 42, 3) := by decide +kernel
theorem dX9_copyFrom_87 : decode cX9_copyFrom 87 = .ok (.aload_n 0, 1) := by decide +kernel
theorem dX9_copyFrom_88 : decode cX9_copyFrom 88 = .ok (.aload_n 1, 1) := by decide +kernel
theorem dX9_copyFrom_89 : decode cX9_copyFrom 89 = .ok (.getfield 45, 3) := by decide +kernel
theorem dX9_copyFrom_92 : decode cX9_copyFrom 92 = .ok (.putfield 45, 3) := by decide +kernel
theorem dX9_copyFrom_95 : decode cX9_copyFrom 95 = .ok (.aload_n 0, 1) := by decide +kernel
theorem dX9_copyFrom_96 : decode cX9_copyFrom 96 = .ok (.aload_n 1, 1) := by decide +kernel
theorem dX9_copyFrom_97 : decode cX9_copyFrom 97 = .ok (.getfield 48, 3) := by decide +kernel
theorem dX9_copyFrom_100 : decode cX9_copyFrom 100 = .ok (.putfield 48, 3) := by decide +kernel
theorem dX9_copyFrom_103 : decode cX9_copyFrom 103 = .ok (.return_, 1) := by decide +kernel
theorem dX9_lawOf_0 : decode cX9_lawOf 0 = .ok (.iload_n 1, 1) := by decide +kernel
theorem dX9_lawOf_1 : decode cX9_lawOf 1 = .ok (.ifCond .ne 10, 3) := by decide +kernel
theorem dX9_lawOf_4 : decode cX9_lawOf 4 = .ok (.aload_n 0, 1) := by decide +kernel
theorem dX9_lawOf_5 : decode cX9_lawOf 5 = .ok (.getfield 21, 3) := by decide +kernel
theorem dX9_lawOf_8 : decode cX9_lawOf 8 = .ok (.goto 7, 3) := by decide +kernel
theorem dX9_lawOf_11 : decode cX9_lawOf 11 = .ok (.aload_n 0, 1) := by decide +kernel
theorem dX9_lawOf_12 : decode cX9_lawOf 12 = .ok (.getfield 25, 3) := by decide +kernel
theorem dX9_lawOf_15 : decode cX9_lawOf 15 = .ok (.areturn, 1) := by decide +kernel
theorem dX9_feedBytes_0 : decode cX9_feedBytes 0 = .ok (.iload_n 3, 1) := by decide +kernel
theorem dX9_feedBytes_1 : decode cX9_feedBytes 1 = .ok (.bipush 50, 2) := by decide +kernel
theorem dX9_feedBytes_3 : decode cX9_feedBytes 3 = .ok (.aload_n 0, 1) := by decide +kernel
theorem dX9_feedBytes_4 : decode cX9_feedBytes 4 = .ok (.getfield 32, 3) := by decide +kernel
theorem dX9_feedBytes_7 : decode cX9_feedBytes 7 = .ok (.isub, 1) := by decide +kernel
theorem dX9_feedBytes_8 : decode cX9_feedBytes 8 = .ok (.if_icmp .le 5, 3) := by decide +kernel
theorem dX9_feedBytes_11 : decode cX9_feedBytes 11 = .ok (.iconst 0, 1) := by decide +kernel
theorem dX9_feedBytes_12 : decode cX9_feedBytes 12 = .ok (.ireturn, 1) := by decide +kernel
theorem dX9_feedBytes_13 : decode cX9_feedBytes 13 = .ok (.iconst 0, 1) := by decide +kernel
theorem dX9_feedBytes_14 : decode cX9_feedBytes 14 = .ok (.istore 4, 2) := by decide +kernel
theorem dX9_feedBytes_16 : decode cX9_feedBytes 16 = .ok (.iload 4, 2) := by decide +kernel
theorem dX9_feedBytes_18 : decode cX9_feedBytes 18 = .ok (.iload_n 3, 1) := by decide +kernel
theorem dX9_feedBytes_19 : decode cX9_feedBytes 19 = .ok (.if_icmp .ge 40, 3) := by decide +kernel
theorem dX9_feedBytes_22 : decode cX9_feedBytes 22 = .ok (.aload_n 0, 1) := by decide +kernel
theorem dX9_feedBytes_23 : decode cX9_feedBytes 23 = .ok (.getfield 28, 3) := by decide +kernel
theorem dX9_feedBytes_26 : decode cX9_feedBytes 26 = .ok (.aload_n 0, 1) := by decide +kernel
theorem dX9_feedBytes_27 : decode cX9_feedBytes 27 = .ok (.getfield 32, 3) := by decide +kernel
theorem dX9_feedBytes_30 : decode cX9_feedBytes 30 = .ok (.lload_n 1, 1) := by decide +kernel
theorem dX9_feedBytes_31 : decode cX9_feedBytes 31 = .ok (.bipush 8, 2) := by decide +kernel
theorem dX9_feedBytes_33 : decode cX9_feedBytes 33 = .ok (.iload 4, 2) := by decide +kernel
theorem dX9_feedBytes_35 : decode cX9_feedBytes 35 = .ok (.imul, 1) := by decide +kernel
theorem dX9_feedBytes_36 : decode cX9_feedBytes 36 = .ok (.lushr, 1) := by decide +kernel
theorem dX9_feedBytes_37 : decode cX9_feedBytes 37 = .ok (.ldc2_w 64, 3) := by decide +kernel
theorem dX9_feedBytes_40 : decode cX9_feedBytes 40 = .ok (.land, 1) := by decide +kernel
theorem dX9_feedBytes_41 : decode cX9_feedBytes 41 = .ok (.l2i, 1) := by decide +kernel
theorem dX9_feedBytes_42 : decode cX9_feedBytes 42 = .ok (.iastore, 1) := by decide +kernel
theorem dX9_feedBytes_43 : decode cX9_feedBytes 43 = .ok (.aload_n 0, 1) := by decide +kernel
theorem dX9_feedBytes_44 : decode cX9_feedBytes 44 = .ok (.dup, 1) := by decide +kernel
theorem dX9_feedBytes_45 : decode cX9_feedBytes 45 = .ok (.getfield 32, 3) := by decide +kernel
theorem dX9_feedBytes_48 : decode cX9_feedBytes 48 = .ok (.iconst 1, 1) := by decide +kernel
theorem dX9_feedBytes_49 : decode cX9_feedBytes 49 = .ok (.iadd, 1) := by decide +kernel
theorem dX9_feedBytes_50 : decode cX9_feedBytes 50 = .ok (.putfield 32, 3) := by decide +kernel
theorem dX9_feedBytes_53 : decode cX9_feedBytes 53 = .ok (.iinc 4 1, 3) := by decide +kernel
theorem dX9_feedBytes_56 : decode cX9_feedBytes 56 = .ok (.goto (-40), 3) := by decide +kernel
theorem dX9_feedBytes_59 : decode cX9_feedBytes 59 = .ok (.iconst 1, 1) := by decide +kernel
theorem dX9_feedBytes_60 : decode cX9_feedBytes 60 = .ok (.ireturn, 1) := by decide +kernel
theorem dX9_addWaiting_0 : decode cX9_addWaiting 0 = .ok (.aload_n 0, 1) := by decide +kernel
theorem dX9_addWaiting_1 : decode cX9_addWaiting 1 = .ok (.getfield 39, 3) := by decide +kernel
theorem dX9_addWaiting_4 : decode cX9_addWaiting 4 = .ok (.bipush 20, 2) := by decide +kernel
theorem dX9_addWaiting_6 : decode cX9_addWaiting 6 = .ok (.if_icmp .lt 5, 3) := by decide +kernel
theorem dX9_addWaiting_9 : decode cX9_addWaiting 9 = .ok (.iconst 0, 1) := by decide +kernel
theorem dX9_addWaiting_10 : decode cX9_addWaiting 10 = .ok (.ireturn, 1) := by decide +kernel
theorem dX9_addWaiting_11 : decode cX9_addWaiting 11 = .ok (.aload_n 0, 1) := by decide +kernel
theorem dX9_addWaiting_12 : decode cX9_addWaiting 12 = .ok (.getfield 36, 3) := by decide +kernel
theorem dX9_addWaiting_15 : decode cX9_addWaiting 15 = .ok (.aload_n 0, 1) := by decide +kernel
theorem dX9_addWaiting_16 : decode cX9_addWaiting 16 = .ok (.getfield 39, 3) := by decide +kernel
theorem dX9_addWaiting_19 : decode cX9_addWaiting 19 = .ok (.iload_n 1, 1) := by decide +kernel
theorem dX9_addWaiting_20 : decode cX9_addWaiting 20 = .ok (.iastore, 1) := by decide +kernel
theorem dX9_addWaiting_21 : decode cX9_addWaiting 21 = .ok (.aload_n 0, 1) := by decide +kernel
theorem dX9_addWaiting_22 : decode cX9_addWaiting 22 = .ok (.dup, 1) := by decide +kernel
theorem dX9_addWaiting_23 : decode cX9_addWaiting 23 = .ok (.getfield 39, 3) := by decide +kernel
theorem dX9_addWaiting_26 : decode cX9_addWaiting 26 = .ok (.iconst 1, 1) := by decide +kernel
theorem dX9_addWaiting_27 : decode cX9_addWaiting 27 = .ok (.iadd, 1) := by decide +kernel
theorem dX9_addWaiting_28 : decode cX9_addWaiting 28 = .ok (.putfield 39, 3) := by decide +kernel
theorem dX9_addWaiting_31 : decode cX9_addWaiting 31 = .ok (.iconst 1, 1) := by decide +kernel
theorem dX9_addWaiting_32 : decode cX9_addWaiting 32 = .ok (.ireturn, 1) := by decide +kernel
theorem dX9_handCost_0 : decode cX9_handCost 0 = .ok (.iload_n 1, 1) := by decide +kernel
theorem dX9_handCost_1 : decode cX9_handCost 1 = .ok (.aload_n 0, 1) := by decide +kernel
theorem dX9_handCost_2 : decode cX9_handCost 2 = .ok (.getfield 10, 3) := by decide +kernel
theorem dX9_handCost_5 : decode cX9_handCost 5 = .ok (.getfield 66, 3) := by decide +kernel
theorem dX9_handCost_8 : decode cX9_handCost 8 = .ok (.invokestatic 69, 3) := by decide +kernel
theorem dX9_handCost_11 : decode cX9_handCost 11 = .ok (.istore_n 2, 1) := by decide +kernel
theorem dX9_handCost_12 : decode cX9_handCost 12 = .ok (.iload_n 1, 1) := by decide +kernel
theorem dX9_handCost_13 : decode cX9_handCost 13 = .ok (.aload_n 0, 1) := by decide +kernel
theorem dX9_handCost_14 : decode cX9_handCost 14 = .ok (.getfield 10, 3) := by decide +kernel
theorem dX9_handCost_17 : decode cX9_handCost 17 = .ok (.getfield 66, 3) := by decide +kernel
theorem dX9_handCost_20 : decode cX9_handCost 20 = .ok (.invokestatic 75, 3) := by decide +kernel
theorem dX9_handCost_23 : decode cX9_handCost 23 = .ok (.istore_n 3, 1) := by decide +kernel
theorem dX9_handCost_24 : decode cX9_handCost 24 = .ok (.aload_n 0, 1) := by decide +kernel
theorem dX9_handCost_25 : decode cX9_handCost 25 = .ok (.getfield 21, 3) := by decide +kernel
theorem dX9_handCost_28 : decode cX9_handCost 28 = .ok (.iload_n 2, 1) := by decide +kernel
theorem dX9_handCost_29 : decode cX9_handCost 29 = .ok (.iload_n 3, 1) := by decide +kernel
theorem dX9_handCost_30 : decode cX9_handCost 30 = .ok (.aload_n 0, 1) := by decide +kernel
theorem dX9_handCost_31 : decode cX9_handCost 31 = .ok (.getfield 10, 3) := by decide +kernel
theorem dX9_handCost_34 : decode cX9_handCost 34 = .ok (.getfield 78, 3) := by decide +kernel
theorem dX9_handCost_37 : decode cX9_handCost 37 = .ok (.iload_n 1, 1) := by decide +kernel
theorem dX9_handCost_38 : decode cX9_handCost 38 = .ok (.iaload, 1) := by decide +kernel
theorem dX9_handCost_39 : decode cX9_handCost 39 = .ok (.invokevirtual 81, 3) := by decide +kernel
theorem dX9_handCost_42 : decode cX9_handCost 42 = .ok (.ireturn, 1) := by decide +kernel
theorem dX9_handTurns_0 : decode cX9_handTurns 0 = .ok (.aload_n 0, 1) := by decide +kernel
theorem dX9_handTurns_1 : decode cX9_handTurns 1 = .ok (.getfield 10, 3) := by decide +kernel
theorem dX9_handTurns_4 : decode cX9_handTurns 4 = .ok (.iload_n 1, 1) := by decide +kernel
theorem dX9_handTurns_5 : decode cX9_handTurns 5 = .ok (.invokevirtual 85, 3) := by decide +kernel
theorem dX9_handTurns_8 : decode cX9_handTurns 8 = .ok (.ifCond .ne 5, 3) := by decide +kernel
theorem dX9_handTurns_11 : decode cX9_handTurns 11 = .ok (.iconst 0, 1) := by decide +kernel
theorem dX9_handTurns_12 : decode cX9_handTurns 12 = .ok (.ireturn, 1) := by decide +kernel
theorem dX9_handTurns_13 : decode cX9_handTurns 13 = .ok (.aload_n 0, 1) := by decide +kernel
theorem dX9_handTurns_14 : decode cX9_handTurns 14 = .ok (.aload_n 0, 1) := by decide +kernel
theorem dX9_handTurns_15 : decode cX9_handTurns 15 = .ok (.iload_n 1, 1) := by decide +kernel
theorem dX9_handTurns_16 : decode cX9_handTurns 16 = .ok (.invokevirtual 89, 3) := by decide +kernel
theorem dX9_handTurns_19 : decode cX9_handTurns 19 = .ok (.ineg, 1) := by decide +kernel
theorem dX9_handTurns_20 : decode cX9_handTurns 20 = .ok (.invokevirtual 93, 3) := by decide +kernel
theorem dX9_handTurns_23 : decode cX9_handTurns 23 = .ok (.aload_n 0, 1) := by decide +kernel
theorem dX9_handTurns_24 : decode cX9_handTurns 24 = .ok (.getfield 10, 3) := by decide +kernel
theorem dX9_handTurns_27 : decode cX9_handTurns 27 = .ok (.iload_n 1, 1) := by decide +kernel
theorem dX9_handTurns_28 : decode cX9_handTurns 28 = .ok (.invokevirtual 96, 3) := by decide +kernel
theorem dX9_handTurns_31 : decode cX9_handTurns 31 = .ok (.iconst 1, 1) := by decide +kernel
theorem dX9_handTurns_32 : decode cX9_handTurns 32 = .ok (.ireturn, 1) := by decide +kernel
theorem dX9_rayIn_0 : decode cX9_rayIn 0 = .ok (.aload_n 1, 1) := by decide +kernel
theorem dX9_rayIn_1 : decode cX9_rayIn 1 = .ok (.aload_n 0, 1) := by decide +kernel
theorem dX9_rayIn_2 : decode cX9_rayIn 2 = .ok (.getfield 10, 3) := by decide +kernel
theorem dX9_rayIn_5 : decode cX9_rayIn 5 = .ok (.iload_n 2, 1) := by decide +kernel
theorem dX9_rayIn_6 : decode cX9_rayIn 6 = .ok (.invokevirtual 99, 3) := by decide +kernel
theorem dX9_rayIn_9 : decode cX9_rayIn 9 = .ok (.istore_n 3, 1) := by decide +kernel
theorem dX9_rayIn_10 : decode cX9_rayIn 10 = .ok (.aload_n 0, 1) := by decide +kernel
theorem dX9_rayIn_11 : decode cX9_rayIn 11 = .ok (.aload_n 0, 1) := by decide +kernel
theorem dX9_rayIn_12 : decode cX9_rayIn 12 = .ok (.getfield 25, 3) := by decide +kernel
theorem dX9_rayIn_15 : decode cX9_rayIn 15 = .ok (.iload_n 2, 1) := by decide +kernel
theorem dX9_rayIn_16 : decode cX9_rayIn 16 = .ok (.iload_n 3, 1) := by decide +kernel
theorem dX9_rayIn_17 : decode cX9_rayIn 17 = .ok (.aload_n 1, 1) := by decide +kernel
theorem dX9_rayIn_18 : decode cX9_rayIn 18 = .ok (.getfield 105, 3) := by decide +kernel
theorem dX9_rayIn_21 : decode cX9_rayIn 21 = .ok (.invokevirtual 81, 3) := by decide +kernel
theorem dX9_rayIn_24 : decode cX9_rayIn 24 = .ok (.invokevirtual 93, 3) := by decide +kernel
theorem dX9_rayIn_27 : decode cX9_rayIn 27 = .ok (.iload_n 3, 1) := by decide +kernel
theorem dX9_rayIn_28 : decode cX9_rayIn 28 = .ok (.ireturn, 1) := by decide +kernel
theorem dX9_liveDay_0 : decode cX9_liveDay 0 = .ok (.aload_n 0, 1) := by decide +kernel
theorem dX9_liveDay_1 : decode cX9_liveDay 1 = .ok (.invokevirtual 108, 3) := by decide +kernel
theorem dX9_liveDay_4 : decode cX9_liveDay 4 = .ok (.aload_n 0, 1) := by decide +kernel
theorem dX9_liveDay_5 : decode cX9_liveDay 5 = .ok (.getfield 10, 3) := by decide +kernel
theorem dX9_liveDay_8 : decode cX9_liveDay 8 = .ok (.invokevirtual 112, 3) := by decide +kernel
theorem dX9_liveDay_11 : decode cX9_liveDay 11 = .ok (.invokestatic 75, 3) := by decide +kernel
theorem dX9_liveDay_14 : decode cX9_liveDay 14 = .ok (.istore_n 2, 1) := by decide +kernel
theorem dX9_liveDay_15 : decode cX9_liveDay 15 = .ok (.aload_n 0, 1) := by decide +kernel
theorem dX9_liveDay_16 : decode cX9_liveDay 16 = .ok (.invokevirtual 108, 3) := by decide +kernel
theorem dX9_liveDay_19 : decode cX9_liveDay 19 = .ok (.aload_n 0, 1) := by decide +kernel
theorem dX9_liveDay_20 : decode cX9_liveDay 20 = .ok (.getfield 10, 3) := by decide +kernel
theorem dX9_liveDay_23 : decode cX9_liveDay 23 = .ok (.invokevirtual 115, 3) := by decide +kernel
theorem dX9_liveDay_26 : decode cX9_liveDay 26 = .ok (.invokestatic 75, 3) := by decide +kernel
theorem dX9_liveDay_29 : decode cX9_liveDay 29 = .ok (.istore_n 3, 1) := by decide +kernel
theorem dX9_liveDay_30 : decode cX9_liveDay 30 = .ok (.aload_n 0, 1) := by decide +kernel
theorem dX9_liveDay_31 : decode cX9_liveDay 31 = .ok (.iload_n 2, 1) := by decide +kernel
theorem dX9_liveDay_32 : decode cX9_liveDay 32 = .ok (.invokevirtual 118, 3) := by decide +kernel
theorem dX9_liveDay_35 : decode cX9_liveDay 35 = .ok (.pop, 1) := by decide +kernel
theorem dX9_liveDay_36 : decode cX9_liveDay 36 = .ok (.aload_n 0, 1) := by decide +kernel
theorem dX9_liveDay_37 : decode cX9_liveDay 37 = .ok (.aload_n 1, 1) := by decide +kernel
theorem dX9_liveDay_38 : decode cX9_liveDay 38 = .ok (.iload_n 3, 1) := by decide +kernel
theorem dX9_liveDay_39 : decode cX9_liveDay 39 = .ok (.invokevirtual 121, 3) := by decide +kernel
theorem dX9_liveDay_42 : decode cX9_liveDay 42 = .ok (.pop, 1) := by decide +kernel
theorem dX9_liveDay_43 : decode cX9_liveDay 43 = .ok (.aload_n 0, 1) := by decide +kernel
theorem dX9_liveDay_44 : decode cX9_liveDay 44 = .ok (.dup, 1) := by decide +kernel
theorem dX9_liveDay_45 : decode cX9_liveDay 45 = .ok (.getfield 45, 3) := by decide +kernel
theorem dX9_liveDay_48 : decode cX9_liveDay 48 = .ok (.iconst 1, 1) := by decide +kernel
theorem dX9_liveDay_49 : decode cX9_liveDay 49 = .ok (.iadd, 1) := by decide +kernel
theorem dX9_liveDay_50 : decode cX9_liveDay 50 = .ok (.putfield 45, 3) := by decide +kernel
theorem dX9_liveDay_53 : decode cX9_liveDay 53 = .ok (.return_, 1) := by decide +kernel
theorem dX9_draw_0 : decode cX9_draw 0 = .ok (.aload_n 0, 1) := by decide +kernel
theorem dX9_draw_1 : decode cX9_draw 1 = .ok (.aload_n 0, 1) := by decide +kernel
theorem dX9_draw_2 : decode cX9_draw 2 = .ok (.getfield 48, 3) := by decide +kernel
theorem dX9_draw_5 : decode cX9_draw 5 = .ok (.ldc 125, 2) := by decide +kernel
theorem dX9_draw_7 : decode cX9_draw 7 = .ok (.imul, 1) := by decide +kernel
theorem dX9_draw_8 : decode cX9_draw 8 = .ok (.sipush 12345, 3) := by decide +kernel
theorem dX9_draw_11 : decode cX9_draw 11 = .ok (.iadd, 1) := by decide +kernel
theorem dX9_draw_12 : decode cX9_draw 12 = .ok (.putfield 48, 3) := by decide +kernel
theorem dX9_draw_15 : decode cX9_draw 15 = .ok (.aload_n 0, 1) := by decide +kernel
theorem dX9_draw_16 : decode cX9_draw 16 = .ok (.getfield 48, 3) := by decide +kernel
theorem dX9_draw_19 : decode cX9_draw 19 = .ok (.bipush 8, 2) := by decide +kernel
theorem dX9_draw_21 : decode cX9_draw 21 = .ok (.iushr, 1) := by decide +kernel
theorem dX9_draw_22 : decode cX9_draw 22 = .ok (.ireturn, 1) := by decide +kernel
theorem dX9_earn_0 : decode cX9_earn 0 = .ok (.aload_n 0, 1) := by decide +kernel
theorem dX9_earn_1 : decode cX9_earn 1 = .ok (.aload_n 0, 1) := by decide +kernel
theorem dX9_earn_2 : decode cX9_earn 2 = .ok (.getfield 42, 3) := by decide +kernel
theorem dX9_earn_5 : decode cX9_earn 5 = .ok (.iload_n 1, 1) := by decide +kernel
theorem dX9_earn_6 : decode cX9_earn 6 = .ok (.iadd, 1) := by decide +kernel
theorem dX9_earn_7 : decode cX9_earn 7 = .ok (.ldc 126, 2) := by decide +kernel
theorem dX9_earn_9 : decode cX9_earn 9 = .ok (.ldc 127, 2) := by decide +kernel
theorem dX9_earn_11 : decode cX9_earn 11 = .ok (.invokestatic 128, 3) := by decide +kernel
theorem dX9_earn_14 : decode cX9_earn 14 = .ok (.putfield 42, 3) := by decide +kernel
theorem dX9_earn_17 : decode cX9_earn 17 = .ok (.return_, 1) := by decide +kernel
theorem dJ6_bitCount_0f7a4_0 : decode cJ6_bitCount_0f7a4 0 = .ok (.iload_n 0, 1) := by decide +kernel
theorem dJ6_bitCount_0f7a4_1 : decode cJ6_bitCount_0f7a4 1 = .ok (.iload_n 0, 1) := by decide +kernel
theorem dJ6_bitCount_0f7a4_2 : decode cJ6_bitCount_0f7a4 2 = .ok (.iconst 1, 1) := by decide +kernel
theorem dJ6_bitCount_0f7a4_3 : decode cJ6_bitCount_0f7a4 3 = .ok (.iushr, 1) := by decide +kernel
theorem dJ6_bitCount_0f7a4_4 : decode cJ6_bitCount_0f7a4 4 = .ok (.ldc_w 265, 3) := by decide +kernel
theorem dJ6_bitCount_0f7a4_7 : decode cJ6_bitCount_0f7a4 7 = .ok (.iand, 1) := by decide +kernel
theorem dJ6_bitCount_0f7a4_8 : decode cJ6_bitCount_0f7a4 8 = .ok (.isub, 1) := by decide +kernel
theorem dJ6_bitCount_0f7a4_9 : decode cJ6_bitCount_0f7a4 9 = .ok (.istore_n 0, 1) := by decide +kernel
theorem dJ6_bitCount_0f7a4_10 : decode cJ6_bitCount_0f7a4 10 = .ok (.iload_n 0, 1) := by decide +kernel
theorem dJ6_bitCount_0f7a4_11 : decode cJ6_bitCount_0f7a4 11 = .ok (.ldc_w 266, 3) := by decide +kernel
theorem dJ6_bitCount_0f7a4_14 : decode cJ6_bitCount_0f7a4 14 = .ok (.iand, 1) := by decide +kernel
theorem dJ6_bitCount_0f7a4_15 : decode cJ6_bitCount_0f7a4 15 = .ok (.iload_n 0, 1) := by decide +kernel
theorem dJ6_bitCount_0f7a4_16 : decode cJ6_bitCount_0f7a4 16 = .ok (.iconst 2, 1) := by decide +kernel
theorem dJ6_bitCount_0f7a4_17 : decode cJ6_bitCount_0f7a4 17 = .ok (.iushr, 1) := by decide +kernel
theorem dJ6_bitCount_0f7a4_18 : decode cJ6_bitCount_0f7a4 18 = .ok (.ldc_w 266, 3) := by decide +kernel
theorem dJ6_bitCount_0f7a4_21 : decode cJ6_bitCount_0f7a4 21 = .ok (.iand, 1) := by decide +kernel
theorem dJ6_bitCount_0f7a4_22 : decode cJ6_bitCount_0f7a4 22 = .ok (.iadd, 1) := by decide +kernel
theorem dJ6_bitCount_0f7a4_23 : decode cJ6_bitCount_0f7a4 23 = .ok (.istore_n 0, 1) := by decide +kernel
theorem dJ6_bitCount_0f7a4_24 : decode cJ6_bitCount_0f7a4 24 = .ok (.iload_n 0, 1) := by decide +kernel
theorem dJ6_bitCount_0f7a4_25 : decode cJ6_bitCount_0f7a4 25 = .ok (.iload_n 0, 1) := by decide +kernel
theorem dJ6_bitCount_0f7a4_26 : decode cJ6_bitCount_0f7a4 26 = .ok (.iconst 4, 1) := by decide +kernel
theorem dJ6_bitCount_0f7a4_27 : decode cJ6_bitCount_0f7a4 27 = .ok (.iushr, 1) := by decide +kernel
theorem dJ6_bitCount_0f7a4_28 : decode cJ6_bitCount_0f7a4 28 = .ok (.iadd, 1) := by decide +kernel
theorem dJ6_bitCount_0f7a4_29 : decode cJ6_bitCount_0f7a4 29 = .ok (.ldc_w 267, 3) := by decide +kernel
theorem dJ6_bitCount_0f7a4_32 : decode cJ6_bitCount_0f7a4 32 = .ok (.iand, 1) := by decide +kernel
theorem dJ6_bitCount_0f7a4_33 : decode cJ6_bitCount_0f7a4 33 = .ok (.istore_n 0, 1) := by decide +kernel
theorem dJ6_bitCount_0f7a4_34 : decode cJ6_bitCount_0f7a4 34 = .ok (.iload_n 0, 1) := by decide +kernel
theorem dJ6_bitCount_0f7a4_35 : decode cJ6_bitCount_0f7a4 35 = .ok (.iload_n 0, 1) := by decide +kernel
theorem dJ6_bitCount_0f7a4_36 : decode cJ6_bitCount_0f7a4 36 = .ok (.bipush 8, 2) := by decide +kernel
theorem dJ6_bitCount_0f7a4_38 : decode cJ6_bitCount_0f7a4 38 = .ok (.iushr, 1) := by decide +kernel
theorem dJ6_bitCount_0f7a4_39 : decode cJ6_bitCount_0f7a4 39 = .ok (.iadd, 1) := by decide +kernel
theorem dJ6_bitCount_0f7a4_40 : decode cJ6_bitCount_0f7a4 40 = .ok (.istore_n 0, 1) := by decide +kernel
theorem dJ6_bitCount_0f7a4_41 : decode cJ6_bitCount_0f7a4 41 = .ok (.iload_n 0, 1) := by decide +kernel
theorem dJ6_bitCount_0f7a4_42 : decode cJ6_bitCount_0f7a4 42 = .ok (.iload_n 0, 1) := by decide +kernel
theorem dJ6_bitCount_0f7a4_43 : decode cJ6_bitCount_0f7a4 43 = .ok (.bipush 16, 2) := by decide +kernel
theorem dJ6_bitCount_0f7a4_45 : decode cJ6_bitCount_0f7a4 45 = .ok (.iushr, 1) := by decide +kernel
theorem dJ6_bitCount_0f7a4_46 : decode cJ6_bitCount_0f7a4 46 = .ok (.iadd, 1) := by decide +kernel
theorem dJ6_bitCount_0f7a4_47 : decode cJ6_bitCount_0f7a4 47 = .ok (.istore_n 0, 1) := by decide +kernel
theorem dJ6_bitCount_0f7a4_48 : decode cJ6_bitCount_0f7a4 48 = .ok (.iload_n 0, 1) := by decide +kernel
theorem dJ6_bitCount_0f7a4_49 : decode cJ6_bitCount_0f7a4 49 = .ok (.bipush 63, 2) := by decide +kernel
theorem dJ6_bitCount_0f7a4_51 : decode cJ6_bitCount_0f7a4 51 = .ok (.iand, 1) := by decide +kernel
theorem dJ6_bitCount_0f7a4_52 : decode cJ6_bitCount_0f7a4 52 = .ok (.ireturn, 1) := by decide +kernel
theorem dJ9_max_7cf53_0 : decode cJ9_max_7cf53 0 = .ok (.iload_n 0, 1) := by decide +kernel
theorem dJ9_max_7cf53_1 : decode cJ9_max_7cf53 1 = .ok (.iload_n 1, 1) := by decide +kernel
theorem dJ9_max_7cf53_2 : decode cJ9_max_7cf53 2 = .ok (.if_icmp .lt 7, 3) := by decide +kernel
theorem dJ9_max_7cf53_5 : decode cJ9_max_7cf53 5 = .ok (.iload_n 0, 1) := by decide +kernel
theorem dJ9_max_7cf53_6 : decode cJ9_max_7cf53 6 = .ok (.goto 4, 3) := by decide +kernel
theorem dJ9_max_7cf53_9 : decode cJ9_max_7cf53 9 = .ok (.iload_n 1, 1) := by decide +kernel
theorem dJ9_max_7cf53_10 : decode cJ9_max_7cf53 10 = .ok (.ireturn, 1) := by decide +kernel
theorem dJ9_min_7cf53_0 : decode cJ9_min_7cf53 0 = .ok (.iload_n 0, 1) := by decide +kernel
theorem dJ9_min_7cf53_1 : decode cJ9_min_7cf53 1 = .ok (.iload_n 1, 1) := by decide +kernel
theorem dJ9_min_7cf53_2 : decode cJ9_min_7cf53 2 = .ok (.if_icmp .gt 7, 3) := by decide +kernel
theorem dJ9_min_7cf53_5 : decode cJ9_min_7cf53 5 = .ok (.iload_n 0, 1) := by decide +kernel
theorem dJ9_min_7cf53_6 : decode cJ9_min_7cf53 6 = .ok (.goto 4, 3) := by decide +kernel
theorem dJ9_min_7cf53_9 : decode cJ9_min_7cf53 9 = .ok (.iload_n 1, 1) := by decide +kernel
theorem dJ9_min_7cf53_10 : decode cJ9_min_7cf53 10 = .ok (.ireturn, 1) := by decide +kernel
theorem dJ7_fill_53178_0 : decode cJ7_fill_53178 0 = .ok (.iconst 0, 1) := by decide +kernel
theorem dJ7_fill_53178_1 : decode cJ7_fill_53178 1 = .ok (.istore_n 2, 1) := by decide +kernel
theorem dJ7_fill_53178_2 : decode cJ7_fill_53178 2 = .ok (.aload_n 0, 1) := by decide +kernel
theorem dJ7_fill_53178_3 : decode cJ7_fill_53178 3 = .ok (.arraylength, 1) := by decide +kernel
theorem dJ7_fill_53178_4 : decode cJ7_fill_53178 4 = .ok (.istore_n 3, 1) := by decide +kernel
theorem dJ7_fill_53178_5 : decode cJ7_fill_53178 5 = .ok (.iload_n 2, 1) := by decide +kernel
theorem dJ7_fill_53178_6 : decode cJ7_fill_53178 6 = .ok (.iload_n 3, 1) := by decide +kernel
theorem dJ7_fill_53178_7 : decode cJ7_fill_53178 7 = .ok (.if_icmp .ge 13, 3) := by decide +kernel
theorem dJ7_fill_53178_10 : decode cJ7_fill_53178 10 = .ok (.aload_n 0, 1) := by decide +kernel
theorem dJ7_fill_53178_11 : decode cJ7_fill_53178 11 = .ok (.iload_n 2, 1) := by decide +kernel
theorem dJ7_fill_53178_12 : decode cJ7_fill_53178 12 = .ok (.iload_n 1, 1) := by decide +kernel
theorem dJ7_fill_53178_13 : decode cJ7_fill_53178 13 = .ok (.iastore, 1) := by decide +kernel
theorem dJ7_fill_53178_14 : decode cJ7_fill_53178 14 = .ok (.iinc 2 1, 3) := by decide +kernel
theorem dJ7_fill_53178_17 : decode cJ7_fill_53178 17 = .ok (.goto (-12), 3) := by decide +kernel
theorem dJ7_fill_53178_20 : decode cJ7_fill_53178 20 = .ok (.return_, 1) := by decide +kernel
end
section
theorem dX10_init_0 : decode cX10_init 0 = .ok (.aload_n 0, 1) := by decide +kernel
theorem dX10_init_1 : decode cX10_init 1 = .ok (.invokespecial 1, 3) := by decide +kernel
theorem dX10_init_4 : decode cX10_init 4 = .ok (.aload_n 0, 1) := by decide +kernel
theorem dX10_init_5 : decode cX10_init 5 = .ok (.bipush 6, 2) := by decide +kernel
theorem dX10_init_7 : decode cX10_init 7 = .ok (.newarray .int, 2) := by decide +kernel
theorem dX10_init_9 : decode cX10_init 9 = .ok (.putfield 7, 3) := by decide +kernel
theorem dX10_init_12 : decode cX10_init 12 = .ok (.aload_n 0, 1) := by decide +kernel
theorem dX10_init_13 : decode cX10_init 13 = .ok (.new 13, 3) := by decide +kernel
theorem dX10_init_16 : decode cX10_init 16 = .ok (.dup, 1) := by decide +kernel
theorem dX10_init_17 : decode cX10_init 17 = .ok (.invokespecial 15, 3) := by decide +kernel
theorem dX10_init_20 : decode cX10_init 20 = .ok (.putfield 16, 3) := by decide +kernel
theorem dX10_init_23 : decode cX10_init 23 = .ok (.aload_n 0, 1) := by decide +kernel
theorem dX10_init_24 : decode cX10_init 24 = .ok (.new 13, 3) := by decide +kernel
theorem dX10_init_27 : decode cX10_init 27 = .ok (.dup, 1) := by decide +kernel
theorem dX10_init_28 : decode cX10_init 28 = .ok (.invokespecial 15, 3) := by decide +kernel
theorem dX10_init_31 : decode cX10_init 31 = .ok (.putfield 20, 3) := by decide +kernel
theorem dX10_init_34 : decode cX10_init 34 = .ok (.aload_n 0, 1) := by decide +kernel
theorem dX10_init_35 : decode cX10_init 35 = .ok (.iconst 0, 1) := by decide +kernel
theorem dX10_init_36 : decode cX10_init 36 = .ok (.putfield 23, 3) := by decide +kernel
theorem dX10_init_39 : decode cX10_init 39 = .ok (.aload_n 0, 1) := by decide +kernel
theorem dX10_init_40 : decode cX10_init 40 = .ok (.iconst 4, 1) := by decide +kernel
theorem dX10_init_41 : decode cX10_init 41 = .ok (.anewarray 27, 3) := by decide +kernel
theorem dX10_init_44 : decode cX10_init 44 = .ok (.putfield 29, 3) := by decide +kernel
theorem dX10_init_47 : decode cX10_init 47 = .ok (.aload_n 0, 1) := by decide +kernel
theorem dX10_init_48 : decode cX10_init 48 = .ok (.new 33, 3) := by decide +kernel
theorem dX10_init_51 : decode cX10_init 51 = .ok (.dup, 1) := by decide +kernel
theorem dX10_init_52 : decode cX10_init 52 = .ok (.invokespecial 35, 3) := by decide +kernel
theorem dX10_init_55 : decode cX10_init 55 = .ok (.putfield 36, 3) := by decide +kernel
theorem dX10_init_58 : decode cX10_init 58 = .ok (.aload_n 0, 1) := by decide +kernel
theorem dX10_init_59 : decode cX10_init 59 = .ok (.new 40, 3) := by decide +kernel
theorem dX10_init_62 : decode cX10_init 62 = .ok (.dup, 1) := by decide +kernel
theorem dX10_init_63 : decode cX10_init 63 = .ok (.invokespecial 42, 3) := by decide +kernel
theorem dX10_init_66 : decode cX10_init 66 = .ok (.putfield 43, 3) := by decide +kernel
theorem dX10_init_69 : decode cX10_init 69 = .ok (.aload_n 0, 1) := by decide +kernel
theorem dX10_init_70 : decode cX10_init 70 = .ok (.new 47, 3) := by decide +kernel
theorem dX10_init_73 : decode cX10_init 73 = .ok (.dup, 1) := by decide +kernel
theorem dX10_init_74 : decode cX10_init 74 = .ok (.invokespecial 49, 3) := by decide +kernel
theorem dX10_init_77 : decode cX10_init 77 = .ok (.putfield 50, 3) := by decide +kernel
theorem dX10_init_80 : decode cX10_init 80 = .ok (.aload_n 0, 1) := by decide +kernel
theorem dX10_init_81 : decode cX10_init 81 = .ok (.new 54, 3) := by decide +kernel
theorem dX10_init_84 : decode cX10_init 84 = .ok (.dup, 1) := by decide +kernel
theorem dX10_init_85 : decode cX10_init 85 = .ok (.invokespecial 56, 3) := by decide +kernel
theorem dX10_init_88 : decode cX10_init 88 = .ok (.putfield 57, 3) := by decide +kernel
theorem dX10_init_91 : decode cX10_init 91 = .ok (.aload_n 0, 1) := by decide +kernel
theorem dX10_init_92 : decode cX10_init 92 = .ok (.new 61, 3) := by decide +kernel
theorem dX10_init_95 : decode cX10_init 95 = .ok (.dup, 1) := by decide +kernel
theorem dX10_init_96 : decode cX10_init 96 = .ok (.invokespecial 63, 3) := by decide +kernel
theorem dX10_init_99 : decode cX10_init 99 = .ok (.putfield 64, 3) := by decide +kernel
theorem dX10_init_102 : decode cX10_init 102 = .ok (.aload_n 0, 1) := by decide +kernel
theorem dX10_init_103 : decode cX10_init 103 = .ok (.new 68, 3) := by decide +kernel
theorem dX10_init_106 : decode cX10_init 106 = .ok (.dup, 1) := by decide +kernel
theorem dX10_init_107 : decode cX10_init 107 = .ok (.invokespecial 70, 3) := by decide +kernel
theorem dX10_init_110 : decode cX10_init 110 = .ok (.putfield 71, 3) := by decide +kernel
theorem dX10_init_113 : decode cX10_init 113 = .ok (.aload_n 0, 1) := by decide +kernel
theorem dX10_init_114 : decode cX10_init 114 = .ok (.new 75, 3) := by decide +kernel
theorem dX10_init_117 : decode cX10_init 117 = .ok (.dup, 1) := by decide +kernel
theorem dX10_init_118 : decode cX10_init 118 = .ok (.invokespecial 77, 3) := by decide +kernel
theorem dX10_init_121 : decode cX10_init 121 = .ok (.putfield 78, 3) := by decide +kernel
theorem dX10_init_124 : decode cX10_init 124 = .ok (.iconst 0, 1) := by decide +kernel
theorem dX10_init_125 : decode cX10_init 125 = .ok (.istore_n 1, 1) := by decide +kernel
theorem dX10_init_126 : decode cX10_init 126 = .ok (.iload_n 1, 1) := by decide +kernel
theorem dX10_init_127 : decode cX10_init 127 = .ok (.aload_n 0, 1) := by decide +kernel
theorem dX10_init_128 : decode cX10_init 128 = .ok (.getfield 29, 3) := by decide +kernel
theorem dX10_init_131 : decode cX10_init 131 = .ok (.arraylength, 1) := by decide +kernel
theorem dX10_init_132 : decode cX10_init 132 = .ok (.if_icmp .ge 22, 3) := by decide +kernel
theorem dX10_init_135 : decode cX10_init 135 = .ok (.aload_n 0, 1) := by decide +kernel
theorem dX10_init_136 : decode cX10_init 136 = .ok (.getfield 29, 3) := by decide +kernel
theorem dX10_init_139 : decode cX10_init 139 = .ok (.iload_n 1, 1) := by decide +kernel
theorem dX10_init_140 : decode cX10_init 140 = .ok (.new 27, 3) := by decide +kernel
theorem dX10_init_143 : decode cX10_init 143 = .ok (.dup, 1) := by decide +kernel
theorem dX10_init_144 : decode cX10_init 144 = .ok (.invokespecial 82, 3) := by decide +kernel
theorem dX10_init_147 : decode cX10_init 147 = .ok (.aastore, 1) := by decide +kernel
theorem dX10_init_148 : decode cX10_init 148 = .ok (.iinc 1 1, 3) := by decide +kernel
theorem dX10_init_151 : decode cX10_init 151 = .ok (.goto (-25), 3) := by decide +kernel
theorem dX10_init_154 : decode cX10_init 154 = .ok (.return_, 1) := by decide +kernel
theorem dX10_hall_0 : decode cX10_hall 0 = .ok (.iload_n 1, 1) := by decide +kernel
theorem dX10_hall_1 : decode cX10_hall 1 = .ok (.iconst 1, 1) := by decide +kernel
theorem dX10_hall_2 : decode cX10_hall 2 = .ok (.iconst 5, 1) := by decide +kernel
theorem dX10_hall_3 : decode cX10_hall 3 = .ok (.invokestatic 83, 3) := by decide +kernel
theorem dX10_hall_6 : decode cX10_hall 6 = .ok (.ifCond .eq 12, 3) := by decide +kernel
theorem dX10_hall_9 : decode cX10_hall 9 = .ok (.iload_n 2, 1) := by decide +kernel
theorem dX10_hall_10 : decode cX10_hall 10 = .ok (.iconst 1, 1) := by decide +kernel
theorem dX10_hall_11 : decode cX10_hall 11 = .ok (.iconst 5, 1) := by decide +kernel
theorem dX10_hall_12 : decode cX10_hall 12 = .ok (.invokestatic 83, 3) := by decide +kernel
theorem dX10_hall_15 : decode cX10_hall 15 = .ok (.ifCond .ne 9, 3) := by decide +kernel
theorem dX10_hall_18 : decode cX10_hall 18 = .ok (.aload_n 0, 1) := by decide +kernel
theorem dX10_hall_19 : decode cX10_hall 19 = .ok (.iconst 1, 1) := by decide +kernel
theorem dX10_hall_20 : decode cX10_hall 20 = .ok (.invokevirtual 87, 3) := by decide +kernel
theorem dX10_hall_23 : decode cX10_hall 23 = .ok (.ireturn, 1) := by decide +kernel
theorem dX10_hall_24 : decode cX10_hall 24 = .ok (.aload_n 0, 1) := by decide +kernel
theorem dX10_hall_25 : decode cX10_hall 25 = .ok (.getfield 16, 3) := by decide +kernel
theorem dX10_hall_28 : decode cX10_hall 28 = .ok (.getfield 91, 3) := by decide +kernel
theorem dX10_hall_31 : decode cX10_hall 31 = .ok (.iload_n 1, 1) := by decide +kernel
theorem dX10_hall_32 : decode cX10_hall 32 = .ok (.iload_n 2, 1) := by decide +kernel
theorem dX10_hall_33 : decode cX10_hall 33 = .ok (.invokevirtual 94, 3) := by decide +kernel
theorem dX10_hall_36 : decode cX10_hall 36 = .ok (.aload_n 0, 1) := by decide +kernel
theorem dX10_hall_37 : decode cX10_hall 37 = .ok (.getfield 16, 3) := by decide +kernel
theorem dX10_hall_40 : decode cX10_hall 40 = .ok (.getfield 91, 3) := by decide +kernel
theorem dX10_hall_43 : decode cX10_hall 43 = .ok (.invokevirtual 98, 3) := by decide +kernel
theorem dX10_hall_46 : decode cX10_hall 46 = .ok (.ireturn, 1) := by decide +kernel
theorem dX10_square_0 : decode cX10_square 0 = .ok (.aload_n 0, 1) := by decide +kernel
theorem dX10_square_1 : decode cX10_square 1 = .ok (.getfield 16, 3) := by decide +kernel
theorem dX10_square_4 : decode cX10_square 4 = .ok (.getfield 91, 3) := by decide +kernel
theorem dX10_square_7 : decode cX10_square 7 = .ok (.astore 4, 2) := by decide +kernel
theorem dX10_square_9 : decode cX10_square 9 = .ok (.aload 4, 2) := by decide +kernel
theorem dX10_square_11 : decode cX10_square 11 = .ok (.iload_n 1, 1) := by decide +kernel
theorem dX10_square_12 : decode cX10_square 12 = .ok (.invokevirtual 102, 3) := by decide +kernel
theorem dX10_square_15 : decode cX10_square 15 = .ok (.ifCond .eq 22, 3) := by decide +kernel
theorem dX10_square_18 : decode cX10_square 18 = .ok (.iload_n 2, 1) := by decide +kernel
theorem dX10_square_19 : decode cX10_square 19 = .ok (.iconst 0, 1) := by decide +kernel
theorem dX10_square_20 : decode cX10_square 20 = .ok (.bipush 69, 2) := by decide +kernel
theorem dX10_square_22 : decode cX10_square 22 = .ok (.invokestatic 83, 3) := by decide +kernel
theorem dX10_square_25 : decode cX10_square 25 = .ok (.ifCond .eq 12, 3) := by decide +kernel
theorem dX10_square_28 : decode cX10_square 28 = .ok (.iload_n 3, 1) := by decide +kernel
theorem dX10_square_29 : decode cX10_square 29 = .ok (.iconst 0, 1) := by decide +kernel
theorem dX10_square_30 : decode cX10_square 30 = .ok (.iconst 1, 1) := by decide +kernel
theorem dX10_square_31 : decode cX10_square 31 = .ok (.invokestatic 83, 3) := by decide +kernel
theorem dX10_square_34 : decode cX10_square 34 = .ok (.ifCond .ne 9, 3) := by decide +kernel
theorem dX10_square_37 : decode cX10_square 37 = .ok (.aload_n 0, 1) := by decide +kernel
theorem dX10_square_38 : decode cX10_square 38 = .ok (.iconst 1, 1) := by decide +kernel
theorem dX10_square_39 : decode cX10_square 39 = .ok (.invokevirtual 87, 3) := by decide +kernel
theorem dX10_square_42 : decode cX10_square 42 = .ok (.ireturn, 1) := by decide +kernel
theorem dX10_square_43 : decode cX10_square 43 = .ok (.aload 4, 2) := by decide +kernel
theorem dX10_square_45 : decode cX10_square 45 = .ok (.getfield 106, 3) := by decide +kernel
theorem dX10_square_48 : decode cX10_square 48 = .ok (.iload_n 1, 1) := by decide +kernel
theorem dX10_square_49 : decode cX10_square 49 = .ok (.iaload, 1) := by decide +kernel
theorem dX10_square_50 : decode cX10_square 50 = .ok (.istore 5, 2) := by decide +kernel
theorem dX10_square_52 : decode cX10_square 52 = .ok (.aload 4, 2) := by decide +kernel
theorem dX10_square_54 : decode cX10_square 54 = .ok (.iload_n 1, 1) := by decide +kernel
theorem dX10_square_55 : decode cX10_square 55 = .ok (.iload_n 2, 1) := by decide +kernel
theorem dX10_square_56 : decode cX10_square 56 = .ok (.bipush 10, 2) := by decide +kernel
theorem dX10_square_58 : decode cX10_square 58 = .ok (.idiv, 1) := by decide +kernel
theorem dX10_square_59 : decode cX10_square 59 = .ok (.iload_n 2, 1) := by decide +kernel
theorem dX10_square_60 : decode cX10_square 60 = .ok (.bipush 10, 2) := by decide +kernel
theorem dX10_square_62 : decode cX10_square 62 = .ok (.irem, 1) := by decide +kernel
theorem dX10_square_63 : decode cX10_square 63 = .ok (.iload_n 3, 1) := by decide +kernel
theorem dX10_square_64 : decode cX10_square 64 = .ok (.invokevirtual 109, 3) := by decide +kernel
theorem dX10_square_67 : decode cX10_square 67 = .ok (.iload 5, 2) := by decide +kernel
theorem dX10_square_69 : decode cX10_square 69 = .ok (.ireturn, 1) := by decide +kernel
theorem dX10_ofSquare_0 : decode cX10_ofSquare 0 = .ok (.aload_n 0, 1) := by decide +kernel
theorem dX10_ofSquare_1 : decode cX10_ofSquare 1 = .ok (.getfield 16, 3) := by decide +kernel
theorem dX10_ofSquare_4 : decode cX10_ofSquare 4 = .ok (.getfield 91, 3) := by decide +kernel
theorem dX10_ofSquare_7 : decode cX10_ofSquare 7 = .ok (.astore_n 3, 1) := by decide +kernel
theorem dX10_ofSquare_8 : decode cX10_ofSquare 8 = .ok (.aload_n 3, 1) := by decide +kernel
theorem dX10_ofSquare_9 : decode cX10_ofSquare 9 = .ok (.iload_n 1, 1) := by decide +kernel
theorem dX10_ofSquare_10 : decode cX10_ofSquare 10 = .ok (.invokevirtual 102, 3) := by decide +kernel
theorem dX10_ofSquare_13 : decode cX10_ofSquare 13 = .ok (.ifCond .eq 13, 3) := by decide +kernel
theorem dX10_ofSquare_16 : decode cX10_ofSquare 16 = .ok (.iload_n 2, 1) := by decide +kernel
theorem dX10_ofSquare_17 : decode cX10_ofSquare 17 = .ok (.iconst 0, 1) := by decide +kernel
theorem dX10_ofSquare_18 : decode cX10_ofSquare 18 = .ok (.bipush 7, 2) := by decide +kernel
theorem dX10_ofSquare_20 : decode cX10_ofSquare 20 = .ok (.invokestatic 83, 3) := by decide +kernel
theorem dX10_ofSquare_23 : decode cX10_ofSquare 23 = .ok (.ifCond .ne 9, 3) := by decide +kernel
theorem dX10_ofSquare_26 : decode cX10_ofSquare 26 = .ok (.aload_n 0, 1) := by decide +kernel
theorem dX10_ofSquare_27 : decode cX10_ofSquare 27 = .ok (.iconst 1, 1) := by decide +kernel
theorem dX10_ofSquare_28 : decode cX10_ofSquare 28 = .ok (.invokevirtual 87, 3) := by decide +kernel
theorem dX10_ofSquare_31 : decode cX10_ofSquare 31 = .ok (.ireturn, 1) := by decide +kernel
theorem dX10_ofSquare_32 : decode cX10_ofSquare 32 = .ok (.aload_n 3, 1) := by decide +kernel
theorem dX10_ofSquare_33 : decode cX10_ofSquare 33 = .ok (.getfield 106, 3) := by decide +kernel
theorem dX10_ofSquare_36 : decode cX10_ofSquare 36 = .ok (.iload_n 1, 1) := by decide +kernel
theorem dX10_ofSquare_37 : decode cX10_ofSquare 37 = .ok (.iaload, 1) := by decide +kernel
theorem dX10_ofSquare_38 : decode cX10_ofSquare 38 = .ok (.istore 4, 2) := by decide +kernel
theorem dX10_ofSquare_40 : decode cX10_ofSquare 40 = .ok (.iload_n 2, 1) := by decide +kernel
theorem dX10_ofSquare_41 : decode cX10_ofSquare 41 = .ok (.tableswitch 107 0 6 #[43, 46, 53, 59, 65, 72, 93], 43) := by decide +kernel
theorem dX10_ofSquare_84 : decode cX10_ofSquare 84 = .ok (.iload 4, 2) := by decide +kernel
theorem dX10_ofSquare_86 : decode cX10_ofSquare 86 = .ok (.ireturn, 1) := by decide +kernel
theorem dX10_ofSquare_87 : decode cX10_ofSquare 87 = .ok (.aload_n 3, 1) := by decide +kernel
theorem dX10_ofSquare_88 : decode cX10_ofSquare 88 = .ok (.getfield 113, 3) := by decide +kernel
theorem dX10_ofSquare_91 : decode cX10_ofSquare 91 = .ok (.iload_n 1, 1) := by decide +kernel
theorem dX10_ofSquare_92 : decode cX10_ofSquare 92 = .ok (.iaload, 1) := by decide +kernel
theorem dX10_ofSquare_93 : decode cX10_ofSquare 93 = .ok (.ireturn, 1) := by decide +kernel
theorem dX10_ofSquare_94 : decode cX10_ofSquare 94 = .ok (.aload_n 3, 1) := by decide +kernel
theorem dX10_ofSquare_95 : decode cX10_ofSquare 95 = .ok (.iload_n 1, 1) := by decide +kernel
theorem dX10_ofSquare_96 : decode cX10_ofSquare 96 = .ok (.invokevirtual 116, 3) := by decide +kernel
theorem dX10_ofSquare_99 : decode cX10_ofSquare 99 = .ok (.ireturn, 1) := by decide +kernel
theorem dX10_ofSquare_100 : decode cX10_ofSquare 100 = .ok (.aload_n 3, 1) := by decide +kernel
theorem dX10_ofSquare_101 : decode cX10_ofSquare 101 = .ok (.iload_n 1, 1) := by decide +kernel
theorem dX10_ofSquare_102 : decode cX10_ofSquare 102 = .ok (.invokevirtual 119, 3) := by decide +kernel
theorem dX10_ofSquare_105 : decode cX10_ofSquare 105 = .ok (.ireturn, 1) := by decide +kernel
theorem dX10_ofSquare_106 : decode cX10_ofSquare 106 = .ok (.aload_n 3, 1) := by decide +kernel
theorem dX10_ofSquare_107 : decode cX10_ofSquare 107 = .ok (.getfield 122, 3) := by decide +kernel
theorem dX10_ofSquare_110 : decode cX10_ofSquare 110 = .ok (.iload_n 1, 1) := by decide +kernel
theorem dX10_ofSquare_111 : decode cX10_ofSquare 111 = .ok (.iaload, 1) := by decide +kernel
theorem dX10_ofSquare_112 : decode cX10_ofSquare 112 = .ok (.ireturn, 1) := by decide +kernel
theorem dX10_ofSquare_113 : decode cX10_ofSquare 113 = .ok (.aload_n 3, 1) := by decide +kernel
theorem dX10_ofSquare_114 : decode cX10_ofSquare 114 = .ok (.iload_n 1, 1) := by decide +kernel
theorem dX10_ofSquare_115 : decode cX10_ofSquare 115 = .ok (.invokevirtual 125, 3) := by decide +kernel
theorem dX10_ofSquare_118 : decode cX10_ofSquare 118 = .ok (.ifCond .eq 14, 3) := by decide +kernel
theorem dX10_ofSquare_121 : decode cX10_ofSquare 121 = .ok (.aload_n 0, 1) := by decide +kernel
theorem dX10_ofSquare_122 : decode cX10_ofSquare 122 = .ok (.getfield 16, 3) := by decide +kernel
theorem dX10_ofSquare_125 : decode cX10_ofSquare 125 = .ok (.iload_n 1, 1) := by decide +kernel
theorem dX10_ofSquare_126 : decode cX10_ofSquare 126 = .ok (.invokevirtual 128, 3) := by decide +kernel
theorem dX10_ofSquare_129 : decode cX10_ofSquare 129 = .ok (.goto 4, 3) := by decide +kernel
theorem dX10_ofSquare_132 : decode cX10_ofSquare 132 = .ok (.iconst (-1), 1) := by decide +kernel
theorem dX10_ofSquare_133 : decode cX10_ofSquare 133 = .ok (.ireturn, 1) := by decide +kernel
theorem dX10_ofSquare_134 : decode cX10_ofSquare 134 = .ok (.iload 4, 2) := by decide +kernel
theorem dX10_ofSquare_136 : decode cX10_ofSquare 136 = .ok (.invokestatic 131, 3) := by decide +kernel
theorem dX10_ofSquare_139 : decode cX10_ofSquare 139 = .ok (.ifCond .eq 7, 3) := by decide +kernel
theorem dX10_ofSquare_142 : decode cX10_ofSquare 142 = .ok (.iconst 1, 1) := by decide +kernel
theorem dX10_ofSquare_143 : decode cX10_ofSquare 143 = .ok (.goto 4, 3) := by decide +kernel
theorem dX10_ofSquare_146 : decode cX10_ofSquare 146 = .ok (.iconst 0, 1) := by decide +kernel
theorem dX10_ofSquare_147 : decode cX10_ofSquare 147 = .ok (.ireturn, 1) := by decide +kernel
theorem dX10_ofSquare_148 : decode cX10_ofSquare 148 = .ok (.iload 4, 2) := by decide +kernel
theorem dX10_ofSquare_150 : decode cX10_ofSquare 150 = .ok (.invokestatic 134, 3) := by decide +kernel
theorem dX10_ofSquare_153 : decode cX10_ofSquare 153 = .ok (.ifCond .eq 7, 3) := by decide +kernel
theorem dX10_ofSquare_156 : decode cX10_ofSquare 156 = .ok (.iconst 1, 1) := by decide +kernel
theorem dX10_ofSquare_157 : decode cX10_ofSquare 157 = .ok (.goto 4, 3) := by decide +kernel
theorem dX10_ofSquare_160 : decode cX10_ofSquare 160 = .ok (.iconst 0, 1) := by decide +kernel
theorem dX10_ofSquare_161 : decode cX10_ofSquare 161 = .ok (.ireturn, 1) := by decide +kernel
theorem dX10_as_0 : decode cX10_as 0 = .ok (.aload_n 0, 1) := by decide +kernel
theorem dX10_as_1 : decode cX10_as 1 = .ok (.getfield 16, 3) := by decide +kernel
theorem dX10_as_4 : decode cX10_as 4 = .ok (.getfield 91, 3) := by decide +kernel
theorem dX10_as_7 : decode cX10_as 7 = .ok (.astore_n 3, 1) := by decide +kernel
theorem dX10_as_8 : decode cX10_as 8 = .ok (.aload_n 3, 1) := by decide +kernel
theorem dX10_as_9 : decode cX10_as 9 = .ok (.iload_n 1, 1) := by decide +kernel
theorem dX10_as_10 : decode cX10_as 10 = .ok (.invokevirtual 102, 3) := by decide +kernel
theorem dX10_as_13 : decode cX10_as 13 = .ok (.ifCond .eq 13, 3) := by decide +kernel
theorem dX10_as_16 : decode cX10_as 16 = .ok (.iload_n 2, 1) := by decide +kernel
theorem dX10_as_17 : decode cX10_as 17 = .ok (.iconst 0, 1) := by decide +kernel
theorem dX10_as_18 : decode cX10_as 18 = .ok (.bipush 6, 2) := by decide +kernel
theorem dX10_as_20 : decode cX10_as 20 = .ok (.invokestatic 83, 3) := by decide +kernel
theorem dX10_as_23 : decode cX10_as 23 = .ok (.ifCond .ne 9, 3) := by decide +kernel
theorem dX10_as_26 : decode cX10_as 26 = .ok (.aload_n 0, 1) := by decide +kernel
theorem dX10_as_27 : decode cX10_as 27 = .ok (.iconst 1, 1) := by decide +kernel
theorem dX10_as_28 : decode cX10_as 28 = .ok (.invokevirtual 87, 3) := by decide +kernel
theorem dX10_as_31 : decode cX10_as 31 = .ok (.ireturn, 1) := by decide +kernel
theorem dX10_as_32 : decode cX10_as 32 = .ok (.aload_n 3, 1) := by decide +kernel
theorem dX10_as_33 : decode cX10_as 33 = .ok (.getfield 106, 3) := by decide +kernel
theorem dX10_as_36 : decode cX10_as 36 = .ok (.iload_n 1, 1) := by decide +kernel
theorem dX10_as_37 : decode cX10_as 37 = .ok (.iaload, 1) := by decide +kernel
theorem dX10_as_38 : decode cX10_as 38 = .ok (.iload_n 2, 1) := by decide +kernel
theorem dX10_as_39 : decode cX10_as 39 = .ok (.invokestatic 137, 3) := by decide +kernel
theorem dX10_as_42 : decode cX10_as 42 = .ok (.ifCond .eq 12, 3) := by decide +kernel
theorem dX10_as_45 : decode cX10_as 45 = .ok (.aload_n 3, 1) := by decide +kernel
theorem dX10_as_46 : decode cX10_as 46 = .ok (.getfield 113, 3) := by decide +kernel
theorem dX10_as_49 : decode cX10_as 49 = .ok (.iload_n 1, 1) := by decide +kernel
theorem dX10_as_50 : decode cX10_as 50 = .ok (.iaload, 1) := by decide +kernel
theorem dX10_as_51 : decode cX10_as 51 = .ok (.goto 8, 3) := by decide +kernel
theorem dX10_as_54 : decode cX10_as 54 = .ok (.aload_n 0, 1) := by decide +kernel
theorem dX10_as_55 : decode cX10_as 55 = .ok (.iconst 5, 1) := by decide +kernel
theorem dX10_as_56 : decode cX10_as 56 = .ok (.invokevirtual 87, 3) := by decide +kernel
theorem dX10_as_59 : decode cX10_as 59 = .ok (.ireturn, 1) := by decide +kernel
theorem dX10_hand_0 : decode cX10_hand 0 = .ok (.aload_n 0, 1) := by decide +kernel
theorem dX10_hand_1 : decode cX10_hand 1 = .ok (.getfield 16, 3) := by decide +kernel
theorem dX10_hand_4 : decode cX10_hand 4 = .ok (.getfield 91, 3) := by decide +kernel
theorem dX10_hand_7 : decode cX10_hand 7 = .ok (.iload_n 1, 1) := by decide +kernel
theorem dX10_hand_8 : decode cX10_hand 8 = .ok (.invokevirtual 102, 3) := by decide +kernel
theorem dX10_hand_11 : decode cX10_hand 11 = .ok (.ifCond .ne 9, 3) := by decide +kernel
theorem dX10_hand_14 : decode cX10_hand 14 = .ok (.aload_n 0, 1) := by decide +kernel
theorem dX10_hand_15 : decode cX10_hand 15 = .ok (.iconst 1, 1) := by decide +kernel
theorem dX10_hand_16 : decode cX10_hand 16 = .ok (.invokevirtual 87, 3) := by decide +kernel
theorem dX10_hand_19 : decode cX10_hand 19 = .ok (.ireturn, 1) := by decide +kernel
theorem dX10_hand_20 : decode cX10_hand 20 = .ok (.aload_n 0, 1) := by decide +kernel
theorem dX10_hand_21 : decode cX10_hand 21 = .ok (.getfield 16, 3) := by decide +kernel
theorem dX10_hand_24 : decode cX10_hand 24 = .ok (.iload_n 1, 1) := by decide +kernel
theorem dX10_hand_25 : decode cX10_hand 25 = .ok (.invokevirtual 141, 3) := by decide +kernel
theorem dX10_hand_28 : decode cX10_hand 28 = .ok (.ifCond .eq 17, 3) := by decide +kernel
theorem dX10_hand_31 : decode cX10_hand 31 = .ok (.aload_n 0, 1) := by decide +kernel
theorem dX10_hand_32 : decode cX10_hand 32 = .ok (.getfield 16, 3) := by decide +kernel
theorem dX10_hand_35 : decode cX10_hand 35 = .ok (.getfield 91, 3) := by decide +kernel
theorem dX10_hand_38 : decode cX10_hand 38 = .ok (.iload_n 1, 1) := by decide +kernel
theorem dX10_hand_39 : decode cX10_hand 39 = .ok (.invokevirtual 116, 3) := by decide +kernel
theorem dX10_hand_42 : decode cX10_hand 42 = .ok (.goto 8, 3) := by decide +kernel
theorem dX10_hand_45 : decode cX10_hand 45 = .ok (.aload_n 0, 1) := by decide +kernel
theorem dX10_hand_46 : decode cX10_hand 46 = .ok (.iconst 3, 1) := by decide +kernel
theorem dX10_hand_47 : decode cX10_hand 47 = .ok (.invokevirtual 87, 3) := by decide +kernel
theorem dX10_hand_50 : decode cX10_hand 50 = .ok (.ireturn, 1) := by decide +kernel
theorem dX10_slants_0 : decode cX10_slants 0 = .ok (.aload_n 0, 1) := by decide +kernel
theorem dX10_slants_1 : decode cX10_slants 1 = .ok (.getfield 16, 3) := by decide +kernel
theorem dX10_slants_4 : decode cX10_slants 4 = .ok (.getfield 91, 3) := by decide +kernel
theorem dX10_slants_7 : decode cX10_slants 7 = .ok (.getfield 144, 3) := by decide +kernel
theorem dX10_slants_10 : decode cX10_slants 10 = .ok (.ireturn, 1) := by decide +kernel
theorem dX10_let_0 : decode cX10_let 0 = .ok (.aload_n 0, 1) := by decide +kernel
theorem dX10_let_1 : decode cX10_let 1 = .ok (.getfield 16, 3) := by decide +kernel
theorem dX10_let_4 : decode cX10_let 4 = .ok (.getfield 91, 3) := by decide +kernel
theorem dX10_let_7 : decode cX10_let 7 = .ok (.iload_n 1, 1) := by decide +kernel
theorem dX10_let_8 : decode cX10_let 8 = .ok (.invokevirtual 147, 3) := by decide +kernel
theorem dX10_let_11 : decode cX10_let 11 = .ok (.ifCond .eq 18, 3) := by decide +kernel
theorem dX10_let_14 : decode cX10_let 14 = .ok (.aload_n 0, 1) := by decide +kernel
theorem dX10_let_15 : decode cX10_let 15 = .ok (.getfield 16, 3) := by decide +kernel
theorem dX10_let_18 : decode cX10_let 18 = .ok (.aload_n 0, 1) := by decide +kernel
theorem dX10_let_19 : decode cX10_let 19 = .ok (.getfield 36, 3) := by decide +kernel
theorem dX10_let_22 : decode cX10_let 22 = .ok (.iload_n 1, 1) := by decide +kernel
theorem dX10_let_23 : decode cX10_let 23 = .ok (.invokevirtual 150, 3) := by decide +kernel
theorem dX10_let_26 : decode cX10_let 26 = .ok (.goto 8, 3) := by decide +kernel
theorem dX10_let_29 : decode cX10_let 29 = .ok (.aload_n 0, 1) := by decide +kernel
theorem dX10_let_30 : decode cX10_let 30 = .ok (.iconst 1, 1) := by decide +kernel
theorem dX10_let_31 : decode cX10_let 31 = .ok (.invokevirtual 87, 3) := by decide +kernel
theorem dX10_let_34 : decode cX10_let 34 = .ok (.ireturn, 1) := by decide +kernel
theorem dX10_out_0 : decode cX10_out 0 = .ok (.aload_n 0, 1) := by decide +kernel
theorem dX10_out_1 : decode cX10_out 1 = .ok (.getfield 16, 3) := by decide +kernel
theorem dX10_out_4 : decode cX10_out 4 = .ok (.getfield 91, 3) := by decide +kernel
theorem dX10_out_7 : decode cX10_out 7 = .ok (.iload_n 1, 1) := by decide +kernel
theorem dX10_out_8 : decode cX10_out 8 = .ok (.invokevirtual 147, 3) := by decide +kernel
theorem dX10_out_11 : decode cX10_out 11 = .ok (.ifCond .eq 12, 3) := by decide +kernel
theorem dX10_out_14 : decode cX10_out 14 = .ok (.iload_n 2, 1) := by decide +kernel
theorem dX10_out_15 : decode cX10_out 15 = .ok (.iconst 0, 1) := by decide +kernel
theorem dX10_out_16 : decode cX10_out 16 = .ok (.iconst 3, 1) := by decide +kernel
theorem dX10_out_17 : decode cX10_out 17 = .ok (.invokestatic 83, 3) := by decide +kernel
theorem dX10_out_20 : decode cX10_out 20 = .ok (.ifCond .ne 9, 3) := by decide +kernel
theorem dX10_out_23 : decode cX10_out 23 = .ok (.aload_n 0, 1) := by decide +kernel
theorem dX10_out_24 : decode cX10_out 24 = .ok (.iconst 1, 1) := by decide +kernel
theorem dX10_out_25 : decode cX10_out 25 = .ok (.invokevirtual 87, 3) := by decide +kernel
theorem dX10_out_28 : decode cX10_out 28 = .ok (.ireturn, 1) := by decide +kernel
theorem dX10_out_29 : decode cX10_out 29 = .ok (.aload_n 0, 1) := by decide +kernel
theorem dX10_out_30 : decode cX10_out 30 = .ok (.getfield 43, 3) := by decide +kernel
theorem dX10_out_33 : decode cX10_out 33 = .ok (.aload_n 0, 1) := by decide +kernel
theorem dX10_out_34 : decode cX10_out 34 = .ok (.getfield 16, 3) := by decide +kernel
theorem dX10_out_37 : decode cX10_out 37 = .ok (.getfield 91, 3) := by decide +kernel
theorem dX10_out_40 : decode cX10_out 40 = .ok (.invokevirtual 154, 3) := by decide +kernel
theorem dX10_out_43 : decode cX10_out 43 = .ok (.aload_n 0, 1) := by decide +kernel
theorem dX10_out_44 : decode cX10_out 44 = .ok (.getfield 36, 3) := by decide +kernel
theorem dX10_out_47 : decode cX10_out 47 = .ok (.aload_n 0, 1) := by decide +kernel
theorem dX10_out_48 : decode cX10_out 48 = .ok (.getfield 43, 3) := by decide +kernel
theorem dX10_out_51 : decode cX10_out 51 = .ok (.iload_n 1, 1) := by decide +kernel
theorem dX10_out_52 : decode cX10_out 52 = .ok (.invokevirtual 158, 3) := by decide +kernel
theorem dX10_out_55 : decode cX10_out 55 = .ok (.istore_n 3, 1) := by decide +kernel
theorem dX10_out_56 : decode cX10_out 56 = .ok (.iload_n 2, 1) := by decide +kernel
theorem dX10_out_57 : decode cX10_out 57 = .ok (.tableswitch 45 0 2 #[27, 29, 37], 27) := by decide +kernel
theorem dX10_out_84 : decode cX10_out 84 = .ok (.iload_n 3, 1) := by decide +kernel
theorem dX10_out_85 : decode cX10_out 85 = .ok (.ireturn, 1) := by decide +kernel
theorem dX10_out_86 : decode cX10_out 86 = .ok (.aload_n 0, 1) := by decide +kernel
theorem dX10_out_87 : decode cX10_out 87 = .ok (.getfield 36, 3) := by decide +kernel
theorem dX10_out_90 : decode cX10_out 90 = .ok (.getfield 162, 3) := by decide +kernel
theorem dX10_out_93 : decode cX10_out 93 = .ok (.ireturn, 1) := by decide +kernel
theorem dX10_out_94 : decode cX10_out 94 = .ok (.aload_n 0, 1) := by decide +kernel
theorem dX10_out_95 : decode cX10_out 95 = .ok (.getfield 36, 3) := by decide +kernel
theorem dX10_out_98 : decode cX10_out 98 = .ok (.getfield 165, 3) := by decide +kernel
theorem dX10_out_101 : decode cX10_out 101 = .ok (.ireturn, 1) := by decide +kernel
theorem dX10_out_102 : decode cX10_out 102 = .ok (.aload_n 0, 1) := by decide +kernel
theorem dX10_out_103 : decode cX10_out 103 = .ok (.getfield 43, 3) := by decide +kernel
theorem dX10_out_106 : decode cX10_out 106 = .ok (.getfield 144, 3) := by decide +kernel
theorem dX10_out_109 : decode cX10_out 109 = .ok (.aload_n 0, 1) := by decide +kernel
theorem dX10_out_110 : decode cX10_out 110 = .ok (.getfield 16, 3) := by decide +kernel
theorem dX10_out_113 : decode cX10_out 113 = .ok (.getfield 91, 3) := by decide +kernel
theorem dX10_out_116 : decode cX10_out 116 = .ok (.getfield 144, 3) := by decide +kernel
theorem dX10_out_119 : decode cX10_out 119 = .ok (.ixor, 1) := by decide +kernel
theorem dX10_out_120 : decode cX10_out 120 = .ok (.invokestatic 168, 3) := by decide +kernel
theorem dX10_out_123 : decode cX10_out 123 = .ok (.ireturn, 1) := by decide +kernel
theorem dX10_way_0 : decode cX10_way 0 = .ok (.aload_n 0, 1) := by decide +kernel
theorem dX10_way_1 : decode cX10_way 1 = .ok (.getfield 16, 3) := by decide +kernel
theorem dX10_way_4 : decode cX10_way 4 = .ok (.getfield 91, 3) := by decide +kernel
theorem dX10_way_7 : decode cX10_way 7 = .ok (.iload_n 1, 1) := by decide +kernel
theorem dX10_way_8 : decode cX10_way 8 = .ok (.invokevirtual 147, 3) := by decide +kernel
theorem dX10_way_11 : decode cX10_way 11 = .ok (.ifCond .eq 7, 3) := by decide +kernel
theorem dX10_way_14 : decode cX10_way 14 = .ok (.iload_n 2, 1) := by decide +kernel
theorem dX10_way_15 : decode cX10_way 15 = .ok (.ifCond .ge 9, 3) := by decide +kernel
theorem dX10_way_18 : decode cX10_way 18 = .ok (.aload_n 0, 1) := by decide +kernel
theorem dX10_way_19 : decode cX10_way 19 = .ok (.iconst 1, 1) := by decide +kernel
theorem dX10_way_20 : decode cX10_way 20 = .ok (.invokevirtual 87, 3) := by decide +kernel
theorem dX10_way_23 : decode cX10_way 23 = .ok (.ireturn, 1) := by decide +kernel
theorem dX10_way_24 : decode cX10_way 24 = .ok (.aload_n 0, 1) := by decide +kernel
theorem dX10_way_25 : decode cX10_way 25 = .ok (.getfield 43, 3) := by decide +kernel
theorem dX10_way_28 : decode cX10_way 28 = .ok (.aload_n 0, 1) := by decide +kernel
theorem dX10_way_29 : decode cX10_way 29 = .ok (.getfield 16, 3) := by decide +kernel
theorem dX10_way_32 : decode cX10_way 32 = .ok (.getfield 91, 3) := by decide +kernel
theorem dX10_way_35 : decode cX10_way 35 = .ok (.invokevirtual 154, 3) := by decide +kernel
theorem dX10_way_38 : decode cX10_way 38 = .ok (.aload_n 0, 1) := by decide +kernel
theorem dX10_way_39 : decode cX10_way 39 = .ok (.getfield 36, 3) := by decide +kernel
theorem dX10_way_42 : decode cX10_way 42 = .ok (.aload_n 0, 1) := by decide +kernel
theorem dX10_way_43 : decode cX10_way 43 = .ok (.getfield 43, 3) := by decide +kernel
theorem dX10_way_46 : decode cX10_way 46 = .ok (.iload_n 1, 1) := by decide +kernel
theorem dX10_way_47 : decode cX10_way 47 = .ok (.iload_n 2, 1) := by decide +kernel
theorem dX10_way_48 : decode cX10_way 48 = .ok (.invokevirtual 173, 3) := by decide +kernel
theorem dX10_way_51 : decode cX10_way 51 = .ok (.istore_n 3, 1) := by decide +kernel
theorem dX10_way_52 : decode cX10_way 52 = .ok (.iload_n 3, 1) := by decide +kernel
theorem dX10_way_53 : decode cX10_way 53 = .ok (.ifCond .ge 11, 3) := by decide +kernel
theorem dX10_way_56 : decode cX10_way 56 = .ok (.aload_n 0, 1) := by decide +kernel
theorem dX10_way_57 : decode cX10_way 57 = .ok (.iconst 2, 1) := by decide +kernel
theorem dX10_way_58 : decode cX10_way 58 = .ok (.invokevirtual 87, 3) := by decide +kernel
theorem dX10_way_61 : decode cX10_way 61 = .ok (.goto 4, 3) := by decide +kernel
theorem dX10_way_64 : decode cX10_way 64 = .ok (.iload_n 3, 1) := by decide +kernel
theorem dX10_way_65 : decode cX10_way 65 = .ok (.ireturn, 1) := by decide +kernel
theorem dX10_undo_0 : decode cX10_undo 0 = .ok (.aload_n 0, 1) := by decide +kernel
theorem dX10_undo_1 : decode cX10_undo 1 = .ok (.getfield 16, 3) := by decide +kernel
theorem dX10_undo_4 : decode cX10_undo 4 = .ok (.getfield 91, 3) := by decide +kernel
theorem dX10_undo_7 : decode cX10_undo 7 = .ok (.iload_n 1, 1) := by decide +kernel
theorem dX10_undo_8 : decode cX10_undo 8 = .ok (.invokevirtual 147, 3) := by decide +kernel
theorem dX10_undo_11 : decode cX10_undo 11 = .ok (.ifCond .ne 9, 3) := by decide +kernel
theorem dX10_undo_14 : decode cX10_undo 14 = .ok (.aload_n 0, 1) := by decide +kernel
theorem dX10_undo_15 : decode cX10_undo 15 = .ok (.iconst 1, 1) := by decide +kernel
theorem dX10_undo_16 : decode cX10_undo 16 = .ok (.invokevirtual 87, 3) := by decide +kernel
theorem dX10_undo_19 : decode cX10_undo 19 = .ok (.ireturn, 1) := by decide +kernel
theorem dX10_undo_20 : decode cX10_undo 20 = .ok (.aload_n 0, 1) := by decide +kernel
theorem dX10_undo_21 : decode cX10_undo 21 = .ok (.getfield 43, 3) := by decide +kernel
theorem dX10_undo_24 : decode cX10_undo 24 = .ok (.aload_n 0, 1) := by decide +kernel
theorem dX10_undo_25 : decode cX10_undo 25 = .ok (.getfield 16, 3) := by decide +kernel
theorem dX10_undo_28 : decode cX10_undo 28 = .ok (.getfield 91, 3) := by decide +kernel
theorem dX10_undo_31 : decode cX10_undo 31 = .ok (.invokevirtual 154, 3) := by decide +kernel
theorem dX10_undo_34 : decode cX10_undo 34 = .ok (.aload_n 0, 1) := by decide +kernel
theorem dX10_undo_35 : decode cX10_undo 35 = .ok (.getfield 36, 3) := by decide +kernel
theorem dX10_undo_38 : decode cX10_undo 38 = .ok (.aload_n 0, 1) := by decide +kernel
theorem dX10_undo_39 : decode cX10_undo 39 = .ok (.getfield 43, 3) := by decide +kernel
theorem dX10_undo_42 : decode cX10_undo 42 = .ok (.iload_n 1, 1) := by decide +kernel
theorem dX10_undo_43 : decode cX10_undo 43 = .ok (.invokevirtual 177, 3) := by decide +kernel
theorem dX10_undo_46 : decode cX10_undo 46 = .ok (.istore_n 2, 1) := by decide +kernel
theorem dX10_undo_47 : decode cX10_undo 47 = .ok (.iload_n 2, 1) := by decide +kernel
theorem dX10_undo_48 : decode cX10_undo 48 = .ok (.bipush 100, 2) := by decide +kernel
theorem dX10_undo_50 : decode cX10_undo 50 = .ok (.if_icmp .ne 9, 3) := by decide +kernel
theorem dX10_undo_53 : decode cX10_undo 53 = .ok (.aload_n 0, 1) := by decide +kernel
theorem dX10_undo_54 : decode cX10_undo 54 = .ok (.iconst 3, 1) := by decide +kernel
theorem dX10_undo_55 : decode cX10_undo 55 = .ok (.invokevirtual 87, 3) := by decide +kernel
theorem dX10_undo_58 : decode cX10_undo 58 = .ok (.ireturn, 1) := by decide +kernel
theorem dX10_undo_59 : decode cX10_undo 59 = .ok (.aload_n 0, 1) := by decide +kernel
theorem dX10_undo_60 : decode cX10_undo 60 = .ok (.getfield 16, 3) := by decide +kernel
theorem dX10_undo_63 : decode cX10_undo 63 = .ok (.getfield 91, 3) := by decide +kernel
theorem dX10_undo_66 : decode cX10_undo 66 = .ok (.aload_n 0, 1) := by decide +kernel
theorem dX10_undo_67 : decode cX10_undo 67 = .ok (.getfield 43, 3) := by decide +kernel
theorem dX10_undo_70 : decode cX10_undo 70 = .ok (.invokevirtual 154, 3) := by decide +kernel
theorem dX10_undo_73 : decode cX10_undo 73 = .ok (.iload_n 2, 1) := by decide +kernel
theorem dX10_undo_74 : decode cX10_undo 74 = .ok (.ireturn, 1) := by decide +kernel
theorem dX10_feed_0 : decode cX10_feed 0 = .ok (.iload_n 3, 1) := by decide +kernel
theorem dX10_feed_1 : decode cX10_feed 1 = .ok (.iconst 1, 1) := by decide +kernel
theorem dX10_feed_2 : decode cX10_feed 2 = .ok (.bipush 8, 2) := by decide +kernel
theorem dX10_feed_4 : decode cX10_feed 4 = .ok (.invokestatic 83, 3) := by decide +kernel
theorem dX10_feed_7 : decode cX10_feed 7 = .ok (.ifCond .ne 9, 3) := by decide +kernel
theorem dX10_feed_10 : decode cX10_feed 10 = .ok (.aload_n 0, 1) := by decide +kernel
theorem dX10_feed_11 : decode cX10_feed 11 = .ok (.iconst 1, 1) := by decide +kernel
theorem dX10_feed_12 : decode cX10_feed 12 = .ok (.invokevirtual 87, 3) := by decide +kernel
theorem dX10_feed_15 : decode cX10_feed 15 = .ok (.ireturn, 1) := by decide +kernel
theorem dX10_feed_16 : decode cX10_feed 16 = .ok (.aload_n 0, 1) := by decide +kernel
theorem dX10_feed_17 : decode cX10_feed 17 = .ok (.getfield 16, 3) := by decide +kernel
theorem dX10_feed_20 : decode cX10_feed 20 = .ok (.lload_n 1, 1) := by decide +kernel
theorem dX10_feed_21 : decode cX10_feed 21 = .ok (.iload_n 3, 1) := by decide +kernel
theorem dX10_feed_22 : decode cX10_feed 22 = .ok (.invokevirtual 180, 3) := by decide +kernel
theorem dX10_feed_25 : decode cX10_feed 25 = .ok (.ifCond .eq 13, 3) := by decide +kernel
theorem dX10_feed_28 : decode cX10_feed 28 = .ok (.aload_n 0, 1) := by decide +kernel
theorem dX10_feed_29 : decode cX10_feed 29 = .ok (.getfield 16, 3) := by decide +kernel
theorem dX10_feed_32 : decode cX10_feed 32 = .ok (.getfield 184, 3) := by decide +kernel
theorem dX10_feed_35 : decode cX10_feed 35 = .ok (.goto 8, 3) := by decide +kernel
theorem dX10_feed_38 : decode cX10_feed 38 = .ok (.aload_n 0, 1) := by decide +kernel
theorem dX10_feed_39 : decode cX10_feed 39 = .ok (.iconst 4, 1) := by decide +kernel
theorem dX10_feed_40 : decode cX10_feed 40 = .ok (.invokevirtual 87, 3) := by decide +kernel
theorem dX10_feed_43 : decode cX10_feed 43 = .ok (.ireturn, 1) := by decide +kernel
theorem dX10_text_0 : decode cX10_text 0 = .ok (.iload_n 1, 1) := by decide +kernel
theorem dX10_text_1 : decode cX10_text 1 = .ok (.iconst 0, 1) := by decide +kernel
theorem dX10_text_2 : decode cX10_text 2 = .ok (.iconst 1, 1) := by decide +kernel
theorem dX10_text_3 : decode cX10_text 3 = .ok (.invokestatic 83, 3) := by decide +kernel
theorem dX10_text_6 : decode cX10_text 6 = .ok (.ifCond .ne 9, 3) := by decide +kernel
theorem dX10_text_9 : decode cX10_text 9 = .ok (.aload_n 0, 1) := by decide +kernel
theorem dX10_text_10 : decode cX10_text 10 = .ok (.iconst 1, 1) := by decide +kernel
theorem dX10_text_11 : decode cX10_text 11 = .ok (.invokevirtual 87, 3) := by decide +kernel
theorem dX10_text_14 : decode cX10_text 14 = .ok (.ireturn, 1) := by decide +kernel
theorem dX10_text_15 : decode cX10_text 15 = .ok (.aload_n 0, 1) := by decide +kernel
theorem dX10_text_16 : decode cX10_text 16 = .ok (.getfield 50, 3) := by decide +kernel
theorem dX10_text_19 : decode cX10_text 19 = .ok (.aload_n 0, 1) := by decide +kernel
theorem dX10_text_20 : decode cX10_text 20 = .ok (.getfield 16, 3) := by decide +kernel
theorem dX10_text_23 : decode cX10_text 23 = .ok (.getfield 187, 3) := by decide +kernel
theorem dX10_text_26 : decode cX10_text 26 = .ok (.aload_n 0, 1) := by decide +kernel
theorem dX10_text_27 : decode cX10_text 27 = .ok (.getfield 16, 3) := by decide +kernel
theorem dX10_text_30 : decode cX10_text 30 = .ok (.getfield 184, 3) := by decide +kernel
theorem dX10_text_33 : decode cX10_text 33 = .ok (.iload_n 1, 1) := by decide +kernel
theorem dX10_text_34 : decode cX10_text 34 = .ok (.invokevirtual 190, 3) := by decide +kernel
theorem dX10_text_37 : decode cX10_text 37 = .ok (.istore_n 2, 1) := by decide +kernel
theorem dX10_text_38 : decode cX10_text 38 = .ok (.aload_n 0, 1) := by decide +kernel
theorem dX10_text_39 : decode cX10_text 39 = .ok (.getfield 16, 3) := by decide +kernel
theorem dX10_text_42 : decode cX10_text 42 = .ok (.iconst 0, 1) := by decide +kernel
theorem dX10_text_43 : decode cX10_text 43 = .ok (.putfield 184, 3) := by decide +kernel
theorem dX10_text_46 : decode cX10_text 46 = .ok (.iload_n 2, 1) := by decide +kernel
theorem dX10_text_47 : decode cX10_text 47 = .ok (.iconst (-1), 1) := by decide +kernel
theorem dX10_text_48 : decode cX10_text 48 = .ok (.if_icmp .eq 8, 3) := by decide +kernel
theorem dX10_text_51 : decode cX10_text 51 = .ok (.bipush (-10), 2) := by decide +kernel
theorem dX10_text_53 : decode cX10_text 53 = .ok (.iload_n 2, 1) := by decide +kernel
theorem dX10_text_54 : decode cX10_text 54 = .ok (.isub, 1) := by decide +kernel
theorem dX10_text_55 : decode cX10_text 55 = .ok (.ireturn, 1) := by decide +kernel
theorem dX10_text_56 : decode cX10_text 56 = .ok (.aload_n 0, 1) := by decide +kernel
theorem dX10_text_57 : decode cX10_text 57 = .ok (.getfield 16, 3) := by decide +kernel
theorem dX10_text_60 : decode cX10_text 60 = .ok (.iload_n 1, 1) := by decide +kernel
theorem dX10_text_61 : decode cX10_text 61 = .ok (.invokevirtual 194, 3) := by decide +kernel
theorem dX10_text_64 : decode cX10_text 64 = .ok (.aload_n 0, 1) := by decide +kernel
theorem dX10_text_65 : decode cX10_text 65 = .ok (.getfield 50, 3) := by decide +kernel
theorem dX10_text_68 : decode cX10_text 68 = .ok (.getfield 198, 3) := by decide +kernel
theorem dX10_text_71 : decode cX10_text 71 = .ok (.aload_n 0, 1) := by decide +kernel
theorem dX10_text_72 : decode cX10_text 72 = .ok (.getfield 50, 3) := by decide +kernel
theorem dX10_text_75 : decode cX10_text 75 = .ok (.getfield 201, 3) := by decide +kernel
theorem dX10_text_78 : decode cX10_text 78 = .ok (.invokevirtual 204, 3) := by decide +kernel
theorem dX10_text_81 : decode cX10_text 81 = .ok (.iconst 1, 1) := by decide +kernel
theorem dX10_text_82 : decode cX10_text 82 = .ok (.ireturn, 1) := by decide +kernel
theorem dX10_law_0 : decode cX10_law 0 = .ok (.iload_n 1, 1) := by decide +kernel
theorem dX10_law_1 : decode cX10_law 1 = .ok (.iconst 0, 1) := by decide +kernel
theorem dX10_law_2 : decode cX10_law 2 = .ok (.iconst 1, 1) := by decide +kernel
theorem dX10_law_3 : decode cX10_law 3 = .ok (.invokestatic 83, 3) := by decide +kernel
theorem dX10_law_6 : decode cX10_law 6 = .ok (.ifCond .eq 21, 3) := by decide +kernel
theorem dX10_law_9 : decode cX10_law 9 = .ok (.aload_n 0, 1) := by decide +kernel
theorem dX10_law_10 : decode cX10_law 10 = .ok (.getfield 16, 3) := by decide +kernel
theorem dX10_law_13 : decode cX10_law 13 = .ok (.iload_n 1, 1) := by decide +kernel
theorem dX10_law_14 : decode cX10_law 14 = .ok (.invokevirtual 194, 3) := by decide +kernel
theorem dX10_law_17 : decode cX10_law 17 = .ok (.iload_n 2, 1) := by decide +kernel
theorem dX10_law_18 : decode cX10_law 18 = .ok (.iload_n 3, 1) := by decide +kernel
theorem dX10_law_19 : decode cX10_law 19 = .ok (.iload 4, 2) := by decide +kernel
theorem dX10_law_21 : decode cX10_law 21 = .ok (.invokevirtual 210, 3) := by decide +kernel
theorem dX10_law_24 : decode cX10_law 24 = .ok (.goto 8, 3) := by decide +kernel
theorem dX10_law_27 : decode cX10_law 27 = .ok (.aload_n 0, 1) := by decide +kernel
theorem dX10_law_28 : decode cX10_law 28 = .ok (.iconst 1, 1) := by decide +kernel
theorem dX10_law_29 : decode cX10_law 29 = .ok (.invokevirtual 87, 3) := by decide +kernel
theorem dX10_law_32 : decode cX10_law 32 = .ok (.ireturn, 1) := by decide +kernel
theorem dX10_round_0 : decode cX10_round 0 = .ok (.aload_n 0, 1) := by decide +kernel
theorem dX10_round_1 : decode cX10_round 1 = .ok (.getfield 16, 3) := by decide +kernel
theorem dX10_round_4 : decode cX10_round 4 = .ok (.getfield 91, 3) := by decide +kernel
theorem dX10_round_7 : decode cX10_round 7 = .ok (.iload_n 1, 1) := by decide +kernel
theorem dX10_round_8 : decode cX10_round 8 = .ok (.invokevirtual 147, 3) := by decide +kernel
theorem dX10_round_11 : decode cX10_round 11 = .ok (.ifCond .ne 9, 3) := by decide +kernel
theorem dX10_round_14 : decode cX10_round 14 = .ok (.aload_n 0, 1) := by decide +kernel
theorem dX10_round_15 : decode cX10_round 15 = .ok (.iconst 1, 1) := by decide +kernel
theorem dX10_round_16 : decode cX10_round 16 = .ok (.invokevirtual 87, 3) := by decide +kernel
theorem dX10_round_19 : decode cX10_round 19 = .ok (.ireturn, 1) := by decide +kernel
theorem dX10_round_20 : decode cX10_round 20 = .ok (.aload_n 0, 1) := by decide +kernel
theorem dX10_round_21 : decode cX10_round 21 = .ok (.getfield 64, 3) := by decide +kernel
theorem dX10_round_24 : decode cX10_round 24 = .ok (.aload_n 0, 1) := by decide +kernel
theorem dX10_round_25 : decode cX10_round 25 = .ok (.getfield 16, 3) := by decide +kernel
theorem dX10_round_28 : decode cX10_round 28 = .ok (.getfield 91, 3) := by decide +kernel
theorem dX10_round_31 : decode cX10_round 31 = .ok (.iload_n 1, 1) := by decide +kernel
theorem dX10_round_32 : decode cX10_round 32 = .ok (.invokevirtual 214, 3) := by decide +kernel
theorem dX10_round_35 : decode cX10_round 35 = .ok (.istore_n 2, 1) := by decide +kernel
theorem dX10_round_36 : decode cX10_round 36 = .ok (.iload_n 2, 1) := by decide +kernel
theorem dX10_round_37 : decode cX10_round 37 = .ok (.iconst 1, 1) := by decide +kernel
theorem dX10_round_38 : decode cX10_round 38 = .ok (.if_icmp .ge 11, 3) := by decide +kernel
theorem dX10_round_41 : decode cX10_round 41 = .ok (.aload_n 0, 1) := by decide +kernel
theorem dX10_round_42 : decode cX10_round 42 = .ok (.iconst 2, 1) := by decide +kernel
theorem dX10_round_43 : decode cX10_round 43 = .ok (.invokevirtual 87, 3) := by decide +kernel
theorem dX10_round_46 : decode cX10_round 46 = .ok (.goto 4, 3) := by decide +kernel
theorem dX10_round_49 : decode cX10_round 49 = .ok (.iload_n 2, 1) := by decide +kernel
theorem dX10_round_50 : decode cX10_round 50 = .ok (.ireturn, 1) := by decide +kernel
theorem dX10_back_0 : decode cX10_back 0 = .ok (.iload_n 1, 1) := by decide +kernel
theorem dX10_back_1 : decode cX10_back 1 = .ok (.iconst (-1), 1) := by decide +kernel
theorem dX10_back_2 : decode cX10_back 2 = .ok (.iconst 2, 1) := by decide +kernel
theorem dX10_back_3 : decode cX10_back 3 = .ok (.invokestatic 83, 3) := by decide +kernel
theorem dX10_back_6 : decode cX10_back 6 = .ok (.ifCond .ne 9, 3) := by decide +kernel
theorem dX10_back_9 : decode cX10_back 9 = .ok (.aload_n 0, 1) := by decide +kernel
theorem dX10_back_10 : decode cX10_back 10 = .ok (.iconst 1, 1) := by decide +kernel
theorem dX10_back_11 : decode cX10_back 11 = .ok (.invokevirtual 87, 3) := by decide +kernel
theorem dX10_back_14 : decode cX10_back 14 = .ok (.ireturn, 1) := by decide +kernel
theorem dX10_back_15 : decode cX10_back 15 = .ok (.aload_n 0, 1) := by decide +kernel
theorem dX10_back_16 : decode cX10_back 16 = .ok (.getfield 23, 3) := by decide +kernel
theorem dX10_back_19 : decode cX10_back 19 = .ok (.ifCond .eq 23, 3) := by decide +kernel
theorem dX10_back_22 : decode cX10_back 22 = .ok (.aload_n 0, 1) := by decide +kernel
theorem dX10_back_23 : decode cX10_back 23 = .ok (.getfield 16, 3) := by decide +kernel
theorem dX10_back_26 : decode cX10_back 26 = .ok (.getfield 91, 3) := by decide +kernel
theorem dX10_back_29 : decode cX10_back 29 = .ok (.aload_n 0, 1) := by decide +kernel
theorem dX10_back_30 : decode cX10_back 30 = .ok (.getfield 20, 3) := by decide +kernel
theorem dX10_back_33 : decode cX10_back 33 = .ok (.getfield 91, 3) := by decide +kernel
theorem dX10_back_36 : decode cX10_back 36 = .ok (.invokevirtual 217, 3) := by decide +kernel
theorem dX10_back_39 : decode cX10_back 39 = .ok (.ifCond .ne 9, 3) := by decide +kernel
theorem dX10_back_42 : decode cX10_back 42 = .ok (.aload_n 0, 1) := by decide +kernel
theorem dX10_back_43 : decode cX10_back 43 = .ok (.iconst 3, 1) := by decide +kernel
theorem dX10_back_44 : decode cX10_back 44 = .ok (.invokevirtual 87, 3) := by decide +kernel
theorem dX10_back_47 : decode cX10_back 47 = .ok (.ireturn, 1) := by decide +kernel
theorem dX10_back_48 : decode cX10_back 48 = .ok (.aload_n 0, 1) := by decide +kernel
theorem dX10_back_49 : decode cX10_back 49 = .ok (.getfield 64, 3) := by decide +kernel
theorem dX10_back_52 : decode cX10_back 52 = .ok (.aload_n 0, 1) := by decide +kernel
theorem dX10_back_53 : decode cX10_back 53 = .ok (.getfield 16, 3) := by decide +kernel
theorem dX10_back_56 : decode cX10_back 56 = .ok (.getfield 91, 3) := by decide +kernel
theorem dX10_back_59 : decode cX10_back 59 = .ok (.aload_n 0, 1) := by decide +kernel
theorem dX10_back_60 : decode cX10_back 60 = .ok (.getfield 20, 3) := by decide +kernel
theorem dX10_back_63 : decode cX10_back 63 = .ok (.getfield 91, 3) := by decide +kernel
theorem dX10_back_66 : decode cX10_back 66 = .ok (.invokevirtual 221, 3) := by decide +kernel
theorem dX10_back_69 : decode cX10_back 69 = .ok (.istore_n 2, 1) := by decide +kernel
theorem dX10_back_70 : decode cX10_back 70 = .ok (.iload_n 2, 1) := by decide +kernel
theorem dX10_back_71 : decode cX10_back 71 = .ok (.ifCond .lt 8, 3) := by decide +kernel
theorem dX10_back_74 : decode cX10_back 74 = .ok (.iload_n 1, 1) := by decide +kernel
theorem dX10_back_75 : decode cX10_back 75 = .ok (.iload_n 2, 1) := by decide +kernel
theorem dX10_back_76 : decode cX10_back 76 = .ok (.if_icmp .lt 9, 3) := by decide +kernel
theorem dX10_back_79 : decode cX10_back 79 = .ok (.aload_n 0, 1) := by decide +kernel
theorem dX10_back_80 : decode cX10_back 80 = .ok (.iconst 2, 1) := by decide +kernel
theorem dX10_back_81 : decode cX10_back 81 = .ok (.invokevirtual 87, 3) := by decide +kernel
theorem dX10_back_84 : decode cX10_back 84 = .ok (.ireturn, 1) := by decide +kernel
theorem dX10_back_85 : decode cX10_back 85 = .ok (.iload_n 1, 1) := by decide +kernel
theorem dX10_back_86 : decode cX10_back 86 = .ok (.ifCond .ge 7, 3) := by decide +kernel
theorem dX10_back_89 : decode cX10_back 89 = .ok (.iload_n 2, 1) := by decide +kernel
theorem dX10_back_90 : decode cX10_back 90 = .ok (.goto 12, 3) := by decide +kernel
theorem dX10_back_93 : decode cX10_back 93 = .ok (.aload_n 0, 1) := by decide +kernel
theorem dX10_back_94 : decode cX10_back 94 = .ok (.getfield 64, 3) := by decide +kernel
theorem dX10_back_97 : decode cX10_back 97 = .ok (.getfield 225, 3) := by decide +kernel
theorem dX10_back_100 : decode cX10_back 100 = .ok (.iload_n 1, 1) := by decide +kernel
theorem dX10_back_101 : decode cX10_back 101 = .ok (.iaload, 1) := by decide +kernel
theorem dX10_back_102 : decode cX10_back 102 = .ok (.ireturn, 1) := by decide +kernel
theorem dX10_throne_0 : decode cX10_throne 0 = .ok (.aload_n 0, 1) := by decide +kernel
theorem dX10_throne_1 : decode cX10_throne 1 = .ok (.getfield 16, 3) := by decide +kernel
theorem dX10_throne_4 : decode cX10_throne 4 = .ok (.getfield 91, 3) := by decide +kernel
theorem dX10_throne_7 : decode cX10_throne 7 = .ok (.iload_n 1, 1) := by decide +kernel
theorem dX10_throne_8 : decode cX10_throne 8 = .ok (.invokevirtual 102, 3) := by decide +kernel
theorem dX10_throne_11 : decode cX10_throne 11 = .ok (.ifCond .eq 26, 3) := by decide +kernel
theorem dX10_throne_14 : decode cX10_throne 14 = .ok (.aload_n 0, 1) := by decide +kernel
theorem dX10_throne_15 : decode cX10_throne 15 = .ok (.getfield 16, 3) := by decide +kernel
theorem dX10_throne_18 : decode cX10_throne 18 = .ok (.getfield 91, 3) := by decide +kernel
theorem dX10_throne_21 : decode cX10_throne 21 = .ok (.iload_n 2, 1) := by decide +kernel
theorem dX10_throne_22 : decode cX10_throne 22 = .ok (.invokevirtual 147, 3) := by decide +kernel
theorem dX10_throne_25 : decode cX10_throne 25 = .ok (.ifCond .eq 12, 3) := by decide +kernel
theorem dX10_throne_28 : decode cX10_throne 28 = .ok (.iload_n 3, 1) := by decide +kernel
theorem dX10_throne_29 : decode cX10_throne 29 = .ok (.iconst 0, 1) := by decide +kernel
theorem dX10_throne_30 : decode cX10_throne 30 = .ok (.iconst 2, 1) := by decide +kernel
theorem dX10_throne_31 : decode cX10_throne 31 = .ok (.invokestatic 83, 3) := by decide +kernel
theorem dX10_throne_34 : decode cX10_throne 34 = .ok (.ifCond .ne 9, 3) := by decide +kernel
theorem dX10_throne_37 : decode cX10_throne 37 = .ok (.aload_n 0, 1) := by decide +kernel
theorem dX10_throne_38 : decode cX10_throne 38 = .ok (.iconst 1, 1) := by decide +kernel
theorem dX10_throne_39 : decode cX10_throne 39 = .ok (.invokevirtual 87, 3) := by decide +kernel
theorem dX10_throne_42 : decode cX10_throne 42 = .ok (.ireturn, 1) := by decide +kernel
theorem dX10_throne_43 : decode cX10_throne 43 = .ok (.aload_n 0, 1) := by decide +kernel
theorem dX10_throne_44 : decode cX10_throne 44 = .ok (.getfield 71, 3) := by decide +kernel
theorem dX10_throne_47 : decode cX10_throne 47 = .ok (.aload_n 0, 1) := by decide +kernel
theorem dX10_throne_48 : decode cX10_throne 48 = .ok (.getfield 16, 3) := by decide +kernel
theorem dX10_throne_51 : decode cX10_throne 51 = .ok (.iload_n 1, 1) := by decide +kernel
theorem dX10_throne_52 : decode cX10_throne 52 = .ok (.iload_n 2, 1) := by decide +kernel
theorem dX10_throne_53 : decode cX10_throne 53 = .ok (.invokevirtual 228, 3) := by decide +kernel
theorem dX10_throne_56 : decode cX10_throne 56 = .ok (.ifCond .ne 9, 3) := by decide +kernel
theorem dX10_throne_59 : decode cX10_throne 59 = .ok (.aload_n 0, 1) := by decide +kernel
theorem dX10_throne_60 : decode cX10_throne 60 = .ok (.iconst 2, 1) := by decide +kernel
theorem dX10_throne_61 : decode cX10_throne 61 = .ok (.invokevirtual 87, 3) := by decide +kernel
theorem dX10_throne_64 : decode cX10_throne 64 = .ok (.ireturn, 1) := by decide +kernel
theorem dX10_throne_65 : decode cX10_throne 65 = .ok (.iload_n 3, 1) := by decide +kernel
theorem dX10_throne_66 : decode cX10_throne 66 = .ok (.ifCond .ne 13, 3) := by decide +kernel
theorem dX10_throne_69 : decode cX10_throne 69 = .ok (.aload_n 0, 1) := by decide +kernel
theorem dX10_throne_70 : decode cX10_throne 70 = .ok (.getfield 71, 3) := by decide +kernel
theorem dX10_throne_73 : decode cX10_throne 73 = .ok (.getfield 232, 3) := by decide +kernel
theorem dX10_throne_76 : decode cX10_throne 76 = .ok (.goto 25, 3) := by decide +kernel
theorem dX10_throne_79 : decode cX10_throne 79 = .ok (.iload_n 3, 1) := by decide +kernel
theorem dX10_throne_80 : decode cX10_throne 80 = .ok (.iconst 1, 1) := by decide +kernel
theorem dX10_throne_81 : decode cX10_throne 81 = .ok (.if_icmp .ne 13, 3) := by decide +kernel
theorem dX10_throne_84 : decode cX10_throne 84 = .ok (.aload_n 0, 1) := by decide +kernel
theorem dX10_throne_85 : decode cX10_throne 85 = .ok (.getfield 71, 3) := by decide +kernel
theorem dX10_throne_88 : decode cX10_throne 88 = .ok (.getfield 235, 3) := by decide +kernel
theorem dX10_throne_91 : decode cX10_throne 91 = .ok (.goto 10, 3) := by decide +kernel
theorem dX10_throne_94 : decode cX10_throne 94 = .ok (.aload_n 0, 1) := by decide +kernel
theorem dX10_throne_95 : decode cX10_throne 95 = .ok (.getfield 71, 3) := by decide +kernel
theorem dX10_throne_98 : decode cX10_throne 98 = .ok (.getfield 238, 3) := by decide +kernel
theorem dX10_throne_101 : decode cX10_throne 101 = .ok (.ireturn, 1) := by decide +kernel
theorem dX10_had_0 : decode cX10_had 0 = .ok (.aload_n 0, 1) := by decide +kernel
theorem dX10_had_1 : decode cX10_had 1 = .ok (.getfield 64, 3) := by decide +kernel
theorem dX10_had_4 : decode cX10_had 4 = .ok (.aload_n 0, 1) := by decide +kernel
theorem dX10_had_5 : decode cX10_had 5 = .ok (.getfield 16, 3) := by decide +kernel
theorem dX10_had_8 : decode cX10_had 8 = .ok (.getfield 91, 3) := by decide +kernel
theorem dX10_had_11 : decode cX10_had 11 = .ok (.invokevirtual 241, 3) := by decide +kernel
theorem dX10_had_14 : decode cX10_had 14 = .ok (.istore_n 1, 1) := by decide +kernel
theorem dX10_had_15 : decode cX10_had 15 = .ok (.iload_n 1, 1) := by decide +kernel
theorem dX10_had_16 : decode cX10_had 16 = .ok (.sipush 200, 3) := by decide +kernel
theorem dX10_had_19 : decode cX10_had 19 = .ok (.if_icmp .le 11, 3) := by decide +kernel
theorem dX10_had_22 : decode cX10_had 22 = .ok (.aload_n 0, 1) := by decide +kernel
theorem dX10_had_23 : decode cX10_had 23 = .ok (.iconst 4, 1) := by decide +kernel
theorem dX10_had_24 : decode cX10_had 24 = .ok (.invokevirtual 87, 3) := by decide +kernel
theorem dX10_had_27 : decode cX10_had 27 = .ok (.goto 4, 3) := by decide +kernel
theorem dX10_had_30 : decode cX10_had 30 = .ok (.iload_n 1, 1) := by decide +kernel
theorem dX10_had_31 : decode cX10_had 31 = .ok (.ireturn, 1) := by decide +kernel
theorem dX10_odds_0 : decode cX10_odds 0 = .ok (.aload_n 0, 1) := by decide +kernel
theorem dX10_odds_1 : decode cX10_odds 1 = .ok (.getfield 16, 3) := by decide +kernel
theorem dX10_odds_4 : decode cX10_odds 4 = .ok (.getfield 91, 3) := by decide +kernel
theorem dX10_odds_7 : decode cX10_odds 7 = .ok (.astore 5, 2) := by decide +kernel
theorem dX10_odds_9 : decode cX10_odds 9 = .ok (.aload 5, 2) := by decide +kernel
theorem dX10_odds_11 : decode cX10_odds 11 = .ok (.iload_n 3, 1) := by decide +kernel
theorem dX10_odds_12 : decode cX10_odds 12 = .ok (.invokevirtual 147, 3) := by decide +kernel
theorem dX10_odds_15 : decode cX10_odds 15 = .ok (.ifCond .ne 9, 3) := by decide +kernel
theorem dX10_odds_18 : decode cX10_odds 18 = .ok (.iload_n 3, 1) := by decide +kernel
theorem dX10_odds_19 : decode cX10_odds 19 = .ok (.bipush 100, 2) := by decide +kernel
theorem dX10_odds_21 : decode cX10_odds 21 = .ok (.if_icmp .ne 7, 3) := by decide +kernel
theorem dX10_odds_24 : decode cX10_odds 24 = .ok (.iconst 1, 1) := by decide +kernel
theorem dX10_odds_25 : decode cX10_odds 25 = .ok (.goto 4, 3) := by decide +kernel
theorem dX10_odds_28 : decode cX10_odds 28 = .ok (.iconst 0, 1) := by decide +kernel
theorem dX10_odds_29 : decode cX10_odds 29 = .ok (.istore 6, 2) := by decide +kernel
theorem dX10_odds_31 : decode cX10_odds 31 = .ok (.aload 5, 2) := by decide +kernel
theorem dX10_odds_33 : decode cX10_odds 33 = .ok (.iload_n 1, 1) := by decide +kernel
theorem dX10_odds_34 : decode cX10_odds 34 = .ok (.invokevirtual 245, 3) := by decide +kernel
theorem dX10_odds_37 : decode cX10_odds 37 = .ok (.ifCond .eq 27, 3) := by decide +kernel
theorem dX10_odds_40 : decode cX10_odds 40 = .ok (.aload 5, 2) := by decide +kernel
theorem dX10_odds_42 : decode cX10_odds 42 = .ok (.iload_n 2, 1) := by decide +kernel
theorem dX10_odds_43 : decode cX10_odds 43 = .ok (.invokevirtual 147, 3) := by decide +kernel
theorem dX10_odds_46 : decode cX10_odds 46 = .ok (.ifCond .eq 18, 3) := by decide +kernel
theorem dX10_odds_49 : decode cX10_odds 49 = .ok (.iload 6, 2) := by decide +kernel
theorem dX10_odds_51 : decode cX10_odds 51 = .ok (.ifCond .eq 13, 3) := by decide +kernel
theorem dX10_odds_54 : decode cX10_odds 54 = .ok (.iload 4, 2) := by decide +kernel
theorem dX10_odds_56 : decode cX10_odds 56 = .ok (.iconst 0, 1) := by decide +kernel
theorem dX10_odds_57 : decode cX10_odds 57 = .ok (.iconst 1, 1) := by decide +kernel
theorem dX10_odds_58 : decode cX10_odds 58 = .ok (.invokestatic 83, 3) := by decide +kernel
theorem dX10_odds_61 : decode cX10_odds 61 = .ok (.ifCond .ne 10, 3) := by decide +kernel
theorem dX10_odds_64 : decode cX10_odds 64 = .ok (.aload_n 0, 1) := by decide +kernel
theorem dX10_odds_65 : decode cX10_odds 65 = .ok (.iconst 1, 1) := by decide +kernel
theorem dX10_odds_66 : decode cX10_odds 66 = .ok (.invokevirtual 87, 3) := by decide +kernel
theorem dX10_odds_69 : decode cX10_odds 69 = .ok (.i2l, 1) := by decide +kernel
theorem dX10_odds_70 : decode cX10_odds 70 = .ok (.lreturn, 1) := by decide +kernel
theorem dX10_odds_71 : decode cX10_odds 71 = .ok (.aload_n 0, 1) := by decide +kernel
theorem dX10_odds_72 : decode cX10_odds 72 = .ok (.getfield 78, 3) := by decide +kernel
theorem dX10_odds_75 : decode cX10_odds 75 = .ok (.aload 5, 2) := by decide +kernel
theorem dX10_odds_77 : decode cX10_odds 77 = .ok (.iload_n 1, 1) := by decide +kernel
theorem dX10_odds_78 : decode cX10_odds 78 = .ok (.invokevirtual 248, 3) := by decide +kernel
theorem dX10_odds_81 : decode cX10_odds 81 = .ok (.aload_n 0, 1) := by decide +kernel
theorem dX10_odds_82 : decode cX10_odds 82 = .ok (.getfield 78, 3) := by decide +kernel
theorem dX10_odds_85 : decode cX10_odds 85 = .ok (.iload_n 2, 1) := by decide +kernel
theorem dX10_odds_86 : decode cX10_odds 86 = .ok (.iload_n 3, 1) := by decide +kernel
theorem dX10_odds_87 : decode cX10_odds 87 = .ok (.invokevirtual 252, 3) := by decide +kernel
theorem dX10_odds_90 : decode cX10_odds 90 = .ok (.iload 4, 2) := by decide +kernel
theorem dX10_odds_92 : decode cX10_odds 92 = .ok (.ifCond .ne 14, 3) := by decide +kernel
theorem dX10_odds_95 : decode cX10_odds 95 = .ok (.aload_n 0, 1) := by decide +kernel
theorem dX10_odds_96 : decode cX10_odds 96 = .ok (.getfield 78, 3) := by decide +kernel
theorem dX10_odds_99 : decode cX10_odds 99 = .ok (.getfield 255, 3) := by decide +kernel
theorem dX10_odds_102 : decode cX10_odds 102 = .ok (.i2l, 1) := by decide +kernel
theorem dX10_odds_103 : decode cX10_odds 103 = .ok (.goto 11, 3) := by decide +kernel
theorem dX10_odds_106 : decode cX10_odds 106 = .ok (.aload_n 0, 1) := by decide +kernel
theorem dX10_odds_107 : decode cX10_odds 107 = .ok (.getfield 78, 3) := by decide +kernel
theorem dX10_odds_110 : decode cX10_odds 110 = .ok (.getfield 258, 3) := by decide +kernel
theorem dX10_odds_113 : decode cX10_odds 113 = .ok (.i2l, 1) := by decide +kernel
theorem dX10_odds_114 : decode cX10_odds 114 = .ok (.lreturn, 1) := by decide +kernel
theorem dX10_fits_0 : decode cX10_fits 0 = .ok (.aload_n 0, 1) := by decide +kernel
theorem dX10_fits_1 : decode cX10_fits 1 = .ok (.getfield 16, 3) := by decide +kernel
theorem dX10_fits_4 : decode cX10_fits 4 = .ok (.getfield 91, 3) := by decide +kernel
theorem dX10_fits_7 : decode cX10_fits 7 = .ok (.iload_n 1, 1) := by decide +kernel
theorem dX10_fits_8 : decode cX10_fits 8 = .ok (.invokevirtual 245, 3) := by decide +kernel
theorem dX10_fits_11 : decode cX10_fits 11 = .ok (.ifCond .eq 10, 3) := by decide +kernel
theorem dX10_fits_14 : decode cX10_fits 14 = .ok (.iload_n 2, 1) := by decide +kernel
theorem dX10_fits_15 : decode cX10_fits 15 = .ok (.invokestatic 261, 3) := by decide +kernel
theorem dX10_fits_18 : decode cX10_fits 18 = .ok (.ifCond .ne 9, 3) := by decide +kernel
theorem dX10_fits_21 : decode cX10_fits 21 = .ok (.aload_n 0, 1) := by decide +kernel
theorem dX10_fits_22 : decode cX10_fits 22 = .ok (.iconst 1, 1) := by decide +kernel
theorem dX10_fits_23 : decode cX10_fits 23 = .ok (.invokevirtual 87, 3) := by decide +kernel
theorem dX10_fits_26 : decode cX10_fits 26 = .ok (.ireturn, 1) := by decide +kernel
theorem dX10_fits_27 : decode cX10_fits 27 = .ok (.aload_n 0, 1) := by decide +kernel
theorem dX10_fits_28 : decode cX10_fits 28 = .ok (.getfield 29, 3) := by decide +kernel
theorem dX10_fits_31 : decode cX10_fits 31 = .ok (.iload_n 2, 1) := by decide +kernel
theorem dX10_fits_32 : decode cX10_fits 32 = .ok (.aaload, 1) := by decide +kernel
theorem dX10_fits_33 : decode cX10_fits 33 = .ok (.astore_n 3, 1) := by decide +kernel
theorem dX10_fits_34 : decode cX10_fits 34 = .ok (.aload_n 0, 1) := by decide +kernel
theorem dX10_fits_35 : decode cX10_fits 35 = .ok (.getfield 78, 3) := by decide +kernel
theorem dX10_fits_38 : decode cX10_fits 38 = .ok (.aload_n 3, 1) := by decide +kernel
theorem dX10_fits_39 : decode cX10_fits 39 = .ok (.aload_n 0, 1) := by decide +kernel
theorem dX10_fits_40 : decode cX10_fits 40 = .ok (.getfield 16, 3) := by decide +kernel
theorem dX10_fits_43 : decode cX10_fits 43 = .ok (.getfield 91, 3) := by decide +kernel
theorem dX10_fits_46 : decode cX10_fits 46 = .ok (.invokevirtual 264, 3) := by decide +kernel
theorem dX10_fits_49 : decode cX10_fits 49 = .ok (.ifCond .ne 9, 3) := by decide +kernel
theorem dX10_fits_52 : decode cX10_fits 52 = .ok (.aload_n 0, 1) := by decide +kernel
theorem dX10_fits_53 : decode cX10_fits 53 = .ok (.iconst 2, 1) := by decide +kernel
theorem dX10_fits_54 : decode cX10_fits 54 = .ok (.invokevirtual 87, 3) := by decide +kernel
theorem dX10_fits_57 : decode cX10_fits 57 = .ok (.ireturn, 1) := by decide +kernel
theorem dX10_fits_58 : decode cX10_fits 58 = .ok (.aload_n 0, 1) := by decide +kernel
theorem dX10_fits_59 : decode cX10_fits 59 = .ok (.getfield 78, 3) := by decide +kernel
theorem dX10_fits_62 : decode cX10_fits 62 = .ok (.aload_n 0, 1) := by decide +kernel
theorem dX10_fits_63 : decode cX10_fits 63 = .ok (.getfield 16, 3) := by decide +kernel
theorem dX10_fits_66 : decode cX10_fits 66 = .ok (.getfield 91, 3) := by decide +kernel
theorem dX10_fits_69 : decode cX10_fits 69 = .ok (.iload_n 1, 1) := by decide +kernel
theorem dX10_fits_70 : decode cX10_fits 70 = .ok (.invokevirtual 248, 3) := by decide +kernel
theorem dX10_fits_73 : decode cX10_fits 73 = .ok (.aload_n 0, 1) := by decide +kernel
theorem dX10_fits_74 : decode cX10_fits 74 = .ok (.getfield 78, 3) := by decide +kernel
theorem dX10_fits_77 : decode cX10_fits 77 = .ok (.aload_n 3, 1) := by decide +kernel
theorem dX10_fits_78 : decode cX10_fits 78 = .ok (.invokevirtual 268, 3) := by decide +kernel
theorem dX10_fits_81 : decode cX10_fits 81 = .ok (.ireturn, 1) := by decide +kernel
theorem dX10_tells_0 : decode cX10_tells 0 = .ok (.aload_n 0, 1) := by decide +kernel
theorem dX10_tells_1 : decode cX10_tells 1 = .ok (.getfield 16, 3) := by decide +kernel
theorem dX10_tells_4 : decode cX10_tells 4 = .ok (.getfield 91, 3) := by decide +kernel
theorem dX10_tells_7 : decode cX10_tells 7 = .ok (.iload_n 1, 1) := by decide +kernel
theorem dX10_tells_8 : decode cX10_tells 8 = .ok (.invokevirtual 245, 3) := by decide +kernel
theorem dX10_tells_11 : decode cX10_tells 11 = .ok (.ifCond .eq 19, 3) := by decide +kernel
theorem dX10_tells_14 : decode cX10_tells 14 = .ok (.iload_n 2, 1) := by decide +kernel
theorem dX10_tells_15 : decode cX10_tells 15 = .ok (.invokestatic 261, 3) := by decide +kernel
theorem dX10_tells_18 : decode cX10_tells 18 = .ok (.ifCond .eq 12, 3) := by decide +kernel
theorem dX10_tells_21 : decode cX10_tells 21 = .ok (.iload_n 3, 1) := by decide +kernel
theorem dX10_tells_22 : decode cX10_tells 22 = .ok (.iconst 0, 1) := by decide +kernel
theorem dX10_tells_23 : decode cX10_tells 23 = .ok (.iconst 1, 1) := by decide +kernel
theorem dX10_tells_24 : decode cX10_tells 24 = .ok (.invokestatic 83, 3) := by decide +kernel
theorem dX10_tells_27 : decode cX10_tells 27 = .ok (.ifCond .ne 9, 3) := by decide +kernel
theorem dX10_tells_30 : decode cX10_tells 30 = .ok (.aload_n 0, 1) := by decide +kernel
theorem dX10_tells_31 : decode cX10_tells 31 = .ok (.iconst 1, 1) := by decide +kernel
theorem dX10_tells_32 : decode cX10_tells 32 = .ok (.invokevirtual 87, 3) := by decide +kernel
theorem dX10_tells_35 : decode cX10_tells 35 = .ok (.ireturn, 1) := by decide +kernel
theorem dX10_tells_36 : decode cX10_tells 36 = .ok (.aload_n 0, 1) := by decide +kernel
theorem dX10_tells_37 : decode cX10_tells 37 = .ok (.getfield 29, 3) := by decide +kernel
theorem dX10_tells_40 : decode cX10_tells 40 = .ok (.iload_n 2, 1) := by decide +kernel
theorem dX10_tells_41 : decode cX10_tells 41 = .ok (.aaload, 1) := by decide +kernel
theorem dX10_tells_42 : decode cX10_tells 42 = .ok (.astore 4, 2) := by decide +kernel
theorem dX10_tells_44 : decode cX10_tells 44 = .ok (.aload_n 0, 1) := by decide +kernel
theorem dX10_tells_45 : decode cX10_tells 45 = .ok (.getfield 78, 3) := by decide +kernel
theorem dX10_tells_48 : decode cX10_tells 48 = .ok (.aload 4, 2) := by decide +kernel
theorem dX10_tells_50 : decode cX10_tells 50 = .ok (.aload_n 0, 1) := by decide +kernel
theorem dX10_tells_51 : decode cX10_tells 51 = .ok (.getfield 16, 3) := by decide +kernel
theorem dX10_tells_54 : decode cX10_tells 54 = .ok (.getfield 91, 3) := by decide +kernel
theorem dX10_tells_57 : decode cX10_tells 57 = .ok (.invokevirtual 264, 3) := by decide +kernel
theorem dX10_tells_60 : decode cX10_tells 60 = .ok (.ifCond .ne 9, 3) := by decide +kernel
theorem dX10_tells_63 : decode cX10_tells 63 = .ok (.aload_n 0, 1) := by decide +kernel
theorem dX10_tells_64 : decode cX10_tells 64 = .ok (.iconst 2, 1) := by decide +kernel
theorem dX10_tells_65 : decode cX10_tells 65 = .ok (.invokevirtual 87, 3) := by decide +kernel
theorem dX10_tells_68 : decode cX10_tells 68 = .ok (.ireturn, 1) := by decide +kernel
theorem dX10_tells_69 : decode cX10_tells 69 = .ok (.aload_n 0, 1) := by decide +kernel
theorem dX10_tells_70 : decode cX10_tells 70 = .ok (.getfield 78, 3) := by decide +kernel
theorem dX10_tells_73 : decode cX10_tells 73 = .ok (.aload_n 0, 1) := by decide +kernel
theorem dX10_tells_74 : decode cX10_tells 74 = .ok (.getfield 16, 3) := by decide +kernel
theorem dX10_tells_77 : decode cX10_tells 77 = .ok (.getfield 91, 3) := by decide +kernel
theorem dX10_tells_80 : decode cX10_tells 80 = .ok (.iload_n 1, 1) := by decide +kernel
theorem dX10_tells_81 : decode cX10_tells 81 = .ok (.invokevirtual 248, 3) := by decide +kernel
theorem dX10_tells_84 : decode cX10_tells 84 = .ok (.aload_n 0, 1) := by decide +kernel
theorem dX10_tells_85 : decode cX10_tells 85 = .ok (.getfield 78, 3) := by decide +kernel
theorem dX10_tells_88 : decode cX10_tells 88 = .ok (.aload 4, 2) := by decide +kernel
theorem dX10_tells_90 : decode cX10_tells 90 = .ok (.invokevirtual 272, 3) := by decide +kernel
theorem dX10_tells_93 : decode cX10_tells 93 = .ok (.ifCond .ne 9, 3) := by decide +kernel
theorem dX10_tells_96 : decode cX10_tells 96 = .ok (.aload_n 0, 1) := by decide +kernel
theorem dX10_tells_97 : decode cX10_tells 97 = .ok (.iconst 2, 1) := by decide +kernel
theorem dX10_tells_98 : decode cX10_tells 98 = .ok (.invokevirtual 87, 3) := by decide +kernel
theorem dX10_tells_101 : decode cX10_tells 101 = .ok (.ireturn, 1) := by decide +kernel
theorem dX10_tells_102 : decode cX10_tells 102 = .ok (.iload_n 3, 1) := by decide +kernel
theorem dX10_tells_103 : decode cX10_tells 103 = .ok (.ifCond .ne 13, 3) := by decide +kernel
theorem dX10_tells_106 : decode cX10_tells 106 = .ok (.aload_n 0, 1) := by decide +kernel
theorem dX10_tells_107 : decode cX10_tells 107 = .ok (.getfield 78, 3) := by decide +kernel
theorem dX10_tells_110 : decode cX10_tells 110 = .ok (.getfield 276, 3) := by decide +kernel
theorem dX10_tells_113 : decode cX10_tells 113 = .ok (.goto 10, 3) := by decide +kernel
theorem dX10_tells_116 : decode cX10_tells 116 = .ok (.aload_n 0, 1) := by decide +kernel
theorem dX10_tells_117 : decode cX10_tells 117 = .ok (.getfield 78, 3) := by decide +kernel
theorem dX10_tells_120 : decode cX10_tells 120 = .ok (.getfield 279, 3) := by decide +kernel
theorem dX10_tells_123 : decode cX10_tells 123 = .ok (.ireturn, 1) := by decide +kernel
theorem dX10_longest_0 : decode cX10_longest 0 = .ok (.iload_n 1, 1) := by decide +kernel
theorem dX10_longest_1 : decode cX10_longest 1 = .ok (.iconst 0, 1) := by decide +kernel
theorem dX10_longest_2 : decode cX10_longest 2 = .ok (.iconst 1, 1) := by decide +kernel
theorem dX10_longest_3 : decode cX10_longest 3 = .ok (.invokestatic 83, 3) := by decide +kernel
theorem dX10_longest_6 : decode cX10_longest 6 = .ok (.ifCond .ne 9, 3) := by decide +kernel
theorem dX10_longest_9 : decode cX10_longest 9 = .ok (.aload_n 0, 1) := by decide +kernel
theorem dX10_longest_10 : decode cX10_longest 10 = .ok (.iconst 1, 1) := by decide +kernel
theorem dX10_longest_11 : decode cX10_longest 11 = .ok (.invokevirtual 87, 3) := by decide +kernel
theorem dX10_longest_14 : decode cX10_longest 14 = .ok (.ireturn, 1) := by decide +kernel
theorem dX10_longest_15 : decode cX10_longest 15 = .ok (.aload_n 0, 1) := by decide +kernel
theorem dX10_longest_16 : decode cX10_longest 16 = .ok (.getfield 64, 3) := by decide +kernel
theorem dX10_longest_19 : decode cX10_longest 19 = .ok (.aload_n 0, 1) := by decide +kernel
theorem dX10_longest_20 : decode cX10_longest 20 = .ok (.getfield 16, 3) := by decide +kernel
theorem dX10_longest_23 : decode cX10_longest 23 = .ok (.getfield 91, 3) := by decide +kernel
theorem dX10_longest_26 : decode cX10_longest 26 = .ok (.invokevirtual 282, 3) := by decide +kernel
theorem dX10_longest_29 : decode cX10_longest 29 = .ok (.iload_n 1, 1) := by decide +kernel
theorem dX10_longest_30 : decode cX10_longest 30 = .ok (.ifCond .ne 13, 3) := by decide +kernel
theorem dX10_longest_33 : decode cX10_longest 33 = .ok (.aload_n 0, 1) := by decide +kernel
theorem dX10_longest_34 : decode cX10_longest 34 = .ok (.getfield 64, 3) := by decide +kernel
theorem dX10_longest_37 : decode cX10_longest 37 = .ok (.getfield 285, 3) := by decide +kernel
theorem dX10_longest_40 : decode cX10_longest 40 = .ok (.goto 10, 3) := by decide +kernel
theorem dX10_longest_43 : decode cX10_longest 43 = .ok (.aload_n 0, 1) := by decide +kernel
theorem dX10_longest_44 : decode cX10_longest 44 = .ok (.getfield 64, 3) := by decide +kernel
theorem dX10_longest_47 : decode cX10_longest 47 = .ok (.getfield 288, 3) := by decide +kernel
theorem dX10_longest_50 : decode cX10_longest 50 = .ok (.ireturn, 1) := by decide +kernel
theorem dX10_days_0 : decode cX10_days 0 = .ok (.iload_n 1, 1) := by decide +kernel
theorem dX10_days_1 : decode cX10_days 1 = .ok (.iconst 1, 1) := by decide +kernel
theorem dX10_days_2 : decode cX10_days 2 = .ok (.sipush 200, 3) := by decide +kernel
theorem dX10_days_5 : decode cX10_days 5 = .ok (.invokestatic 83, 3) := by decide +kernel
theorem dX10_days_8 : decode cX10_days 8 = .ok (.ifCond .ne 9, 3) := by decide +kernel
theorem dX10_days_11 : decode cX10_days 11 = .ok (.aload_n 0, 1) := by decide +kernel
theorem dX10_days_12 : decode cX10_days 12 = .ok (.iconst 1, 1) := by decide +kernel
theorem dX10_days_13 : decode cX10_days 13 = .ok (.invokevirtual 87, 3) := by decide +kernel
theorem dX10_days_16 : decode cX10_days 16 = .ok (.ireturn, 1) := by decide +kernel
theorem dX10_days_17 : decode cX10_days 17 = .ok (.aload_n 0, 1) := by decide +kernel
theorem dX10_days_18 : decode cX10_days 18 = .ok (.getfield 16, 3) := by decide +kernel
theorem dX10_days_21 : decode cX10_days 21 = .ok (.getfield 291, 3) := by decide +kernel
theorem dX10_days_24 : decode cX10_days 24 = .ok (.iload_n 1, 1) := by decide +kernel
theorem dX10_days_25 : decode cX10_days 25 = .ok (.iadd, 1) := by decide +kernel
theorem dX10_days_26 : decode cX10_days 26 = .ok (.sipush 9999, 3) := by decide +kernel
theorem dX10_days_29 : decode cX10_days 29 = .ok (.if_icmp .le 9, 3) := by decide +kernel
theorem dX10_days_32 : decode cX10_days 32 = .ok (.aload_n 0, 1) := by decide +kernel
theorem dX10_days_33 : decode cX10_days 33 = .ok (.iconst 3, 1) := by decide +kernel
theorem dX10_days_34 : decode cX10_days 34 = .ok (.invokevirtual 87, 3) := by decide +kernel
theorem dX10_days_37 : decode cX10_days 37 = .ok (.ireturn, 1) := by decide +kernel
theorem dX10_days_38 : decode cX10_days 38 = .ok (.iconst 0, 1) := by decide +kernel
theorem dX10_days_39 : decode cX10_days 39 = .ok (.istore_n 2, 1) := by decide +kernel
theorem dX10_days_40 : decode cX10_days 40 = .ok (.iload_n 2, 1) := by decide +kernel
theorem dX10_days_41 : decode cX10_days 41 = .ok (.iload_n 1, 1) := by decide +kernel
theorem dX10_days_42 : decode cX10_days 42 = .ok (.if_icmp .ge 20, 3) := by decide +kernel
theorem dX10_days_45 : decode cX10_days 45 = .ok (.aload_n 0, 1) := by decide +kernel
theorem dX10_days_46 : decode cX10_days 46 = .ok (.getfield 16, 3) := by decide +kernel
theorem dX10_days_49 : decode cX10_days 49 = .ok (.aload_n 0, 1) := by decide +kernel
theorem dX10_days_50 : decode cX10_days 50 = .ok (.getfield 36, 3) := by decide +kernel
theorem dX10_days_53 : decode cX10_days 53 = .ok (.invokevirtual 294, 3) := by decide +kernel
theorem dX10_days_56 : decode cX10_days 56 = .ok (.iinc 2 1, 3) := by decide +kernel
theorem dX10_days_59 : decode cX10_days 59 = .ok (.goto (-19), 3) := by decide +kernel
theorem dX10_days_62 : decode cX10_days 62 = .ok (.aload_n 0, 1) := by decide +kernel
theorem dX10_days_63 : decode cX10_days 63 = .ok (.getfield 16, 3) := by decide +kernel
theorem dX10_days_66 : decode cX10_days 66 = .ok (.getfield 298, 3) := by decide +kernel
theorem dX10_days_69 : decode cX10_days 69 = .ok (.ireturn, 1) := by decide +kernel
theorem dX10_seed_0 : decode cX10_seed 0 = .ok (.aload_n 0, 1) := by decide +kernel
theorem dX10_seed_1 : decode cX10_seed 1 = .ok (.getfield 16, 3) := by decide +kernel
theorem dX10_seed_4 : decode cX10_seed 4 = .ok (.getfield 301, 3) := by decide +kernel
theorem dX10_seed_7 : decode cX10_seed 7 = .ok (.istore_n 2, 1) := by decide +kernel
theorem dX10_seed_8 : decode cX10_seed 8 = .ok (.aload_n 0, 1) := by decide +kernel
theorem dX10_seed_9 : decode cX10_seed 9 = .ok (.getfield 16, 3) := by decide +kernel
theorem dX10_seed_12 : decode cX10_seed 12 = .ok (.iload_n 1, 1) := by decide +kernel
theorem dX10_seed_13 : decode cX10_seed 13 = .ok (.putfield 301, 3) := by decide +kernel
theorem dX10_seed_16 : decode cX10_seed 16 = .ok (.iload_n 2, 1) := by decide +kernel
theorem dX10_seed_17 : decode cX10_seed 17 = .ok (.ireturn, 1) := by decide +kernel
theorem dX10_voice_0 : decode cX10_voice 0 = .ok (.aload_n 0, 1) := by decide +kernel
theorem dX10_voice_1 : decode cX10_voice 1 = .ok (.getfield 16, 3) := by decide +kernel
theorem dX10_voice_4 : decode cX10_voice 4 = .ok (.getfield 91, 3) := by decide +kernel
theorem dX10_voice_7 : decode cX10_voice 7 = .ok (.iload_n 1, 1) := by decide +kernel
theorem dX10_voice_8 : decode cX10_voice 8 = .ok (.invokevirtual 102, 3) := by decide +kernel
theorem dX10_voice_11 : decode cX10_voice 11 = .ok (.ifCond .eq 12, 3) := by decide +kernel
theorem dX10_voice_14 : decode cX10_voice 14 = .ok (.iload_n 2, 1) := by decide +kernel
theorem dX10_voice_15 : decode cX10_voice 15 = .ok (.iconst 0, 1) := by decide +kernel
theorem dX10_voice_16 : decode cX10_voice 16 = .ok (.iconst 3, 1) := by decide +kernel
theorem dX10_voice_17 : decode cX10_voice 17 = .ok (.invokestatic 83, 3) := by decide +kernel
theorem dX10_voice_20 : decode cX10_voice 20 = .ok (.ifCond .ne 9, 3) := by decide +kernel
theorem dX10_voice_23 : decode cX10_voice 23 = .ok (.aload_n 0, 1) := by decide +kernel
theorem dX10_voice_24 : decode cX10_voice 24 = .ok (.iconst 1, 1) := by decide +kernel
theorem dX10_voice_25 : decode cX10_voice 25 = .ok (.invokevirtual 87, 3) := by decide +kernel
theorem dX10_voice_28 : decode cX10_voice 28 = .ok (.ireturn, 1) := by decide +kernel
theorem dX10_voice_29 : decode cX10_voice 29 = .ok (.aload_n 0, 1) := by decide +kernel
theorem dX10_voice_30 : decode cX10_voice 30 = .ok (.getfield 57, 3) := by decide +kernel
theorem dX10_voice_33 : decode cX10_voice 33 = .ok (.aload_n 0, 1) := by decide +kernel
theorem dX10_voice_34 : decode cX10_voice 34 = .ok (.getfield 16, 3) := by decide +kernel
theorem dX10_voice_37 : decode cX10_voice 37 = .ok (.getfield 91, 3) := by decide +kernel
theorem dX10_voice_40 : decode cX10_voice 40 = .ok (.iload_n 1, 1) := by decide +kernel
theorem dX10_voice_41 : decode cX10_voice 41 = .ok (.iload_n 2, 1) := by decide +kernel
theorem dX10_voice_42 : decode cX10_voice 42 = .ok (.iload_n 3, 1) := by decide +kernel
theorem dX10_voice_43 : decode cX10_voice 43 = .ok (.invokevirtual 304, 3) := by decide +kernel
theorem dX10_voice_46 : decode cX10_voice 46 = .ok (.ireturn, 1) := by decide +kernel
theorem dX10_trace_0 : decode cX10_trace 0 = .ok (.iload_n 1, 1) := by decide +kernel
theorem dX10_trace_1 : decode cX10_trace 1 = .ok (.iconst 0, 1) := by decide +kernel
theorem dX10_trace_2 : decode cX10_trace 2 = .ok (.aload_n 0, 1) := by decide +kernel
theorem dX10_trace_3 : decode cX10_trace 3 = .ok (.getfield 57, 3) := by decide +kernel
theorem dX10_trace_6 : decode cX10_trace 6 = .ok (.getfield 308, 3) := by decide +kernel
theorem dX10_trace_9 : decode cX10_trace 9 = .ok (.iconst 1, 1) := by decide +kernel
theorem dX10_trace_10 : decode cX10_trace 10 = .ok (.isub, 1) := by decide +kernel
theorem dX10_trace_11 : decode cX10_trace 11 = .ok (.invokestatic 83, 3) := by decide +kernel
theorem dX10_trace_14 : decode cX10_trace 14 = .ok (.ifCond .eq 15, 3) := by decide +kernel
theorem dX10_trace_17 : decode cX10_trace 17 = .ok (.aload_n 0, 1) := by decide +kernel
theorem dX10_trace_18 : decode cX10_trace 18 = .ok (.getfield 57, 3) := by decide +kernel
theorem dX10_trace_21 : decode cX10_trace 21 = .ok (.getfield 311, 3) := by decide +kernel
theorem dX10_trace_24 : decode cX10_trace 24 = .ok (.iload_n 1, 1) := by decide +kernel
theorem dX10_trace_25 : decode cX10_trace 25 = .ok (.iaload, 1) := by decide +kernel
theorem dX10_trace_26 : decode cX10_trace 26 = .ok (.goto 8, 3) := by decide +kernel
theorem dX10_trace_29 : decode cX10_trace 29 = .ok (.aload_n 0, 1) := by decide +kernel
theorem dX10_trace_30 : decode cX10_trace 30 = .ok (.iconst 2, 1) := by decide +kernel
theorem dX10_trace_31 : decode cX10_trace 31 = .ok (.invokevirtual 87, 3) := by decide +kernel
theorem dX10_trace_34 : decode cX10_trace 34 = .ok (.ireturn, 1) := by decide +kernel
theorem dX10_sheet_0 : decode cX10_sheet 0 = .ok (.iload_n 1, 1) := by decide +kernel
theorem dX10_sheet_1 : decode cX10_sheet 1 = .ok (.invokestatic 261, 3) := by decide +kernel
theorem dX10_sheet_4 : decode cX10_sheet 4 = .ok (.ifCond .eq 10, 3) := by decide +kernel
theorem dX10_sheet_7 : decode cX10_sheet 7 = .ok (.iload_n 2, 1) := by decide +kernel
theorem dX10_sheet_8 : decode cX10_sheet 8 = .ok (.invokestatic 314, 3) := by decide +kernel
theorem dX10_sheet_11 : decode cX10_sheet 11 = .ok (.ifCond .ne 9, 3) := by decide +kernel
theorem dX10_sheet_14 : decode cX10_sheet 14 = .ok (.aload_n 0, 1) := by decide +kernel
theorem dX10_sheet_15 : decode cX10_sheet 15 = .ok (.iconst 1, 1) := by decide +kernel
theorem dX10_sheet_16 : decode cX10_sheet 16 = .ok (.invokevirtual 87, 3) := by decide +kernel
theorem dX10_sheet_19 : decode cX10_sheet 19 = .ok (.ireturn, 1) := by decide +kernel
theorem dX10_sheet_20 : decode cX10_sheet 20 = .ok (.iload_n 2, 1) := by decide +kernel
theorem dX10_sheet_21 : decode cX10_sheet 21 = .ok (.ifCond .ne 14, 3) := by decide +kernel
theorem dX10_sheet_24 : decode cX10_sheet 24 = .ok (.aload_n 0, 1) := by decide +kernel
theorem dX10_sheet_25 : decode cX10_sheet 25 = .ok (.getfield 29, 3) := by decide +kernel
theorem dX10_sheet_28 : decode cX10_sheet 28 = .ok (.iload_n 1, 1) := by decide +kernel
theorem dX10_sheet_29 : decode cX10_sheet 29 = .ok (.aaload, 1) := by decide +kernel
theorem dX10_sheet_30 : decode cX10_sheet 30 = .ok (.invokevirtual 317, 3) := by decide +kernel
theorem dX10_sheet_33 : decode cX10_sheet 33 = .ok (.iconst 1, 1) := by decide +kernel
theorem dX10_sheet_34 : decode cX10_sheet 34 = .ok (.ireturn, 1) := by decide +kernel
theorem dX10_sheet_35 : decode cX10_sheet 35 = .ok (.iload_n 3, 1) := by decide +kernel
theorem dX10_sheet_36 : decode cX10_sheet 36 = .ok (.ifCond .ge 9, 3) := by decide +kernel
theorem dX10_sheet_39 : decode cX10_sheet 39 = .ok (.aload_n 0, 1) := by decide +kernel
theorem dX10_sheet_40 : decode cX10_sheet 40 = .ok (.iconst 3, 1) := by decide +kernel
theorem dX10_sheet_41 : decode cX10_sheet 41 = .ok (.invokevirtual 87, 3) := by decide +kernel
theorem dX10_sheet_44 : decode cX10_sheet 44 = .ok (.ireturn, 1) := by decide +kernel
theorem dX10_sheet_45 : decode cX10_sheet 45 = .ok (.iload_n 3, 1) := by decide +kernel
theorem dX10_sheet_46 : decode cX10_sheet 46 = .ok (.bipush 40, 2) := by decide +kernel
theorem dX10_sheet_48 : decode cX10_sheet 48 = .ok (.if_icmp .le 9, 3) := by decide +kernel
theorem dX10_sheet_51 : decode cX10_sheet 51 = .ok (.aload_n 0, 1) := by decide +kernel
theorem dX10_sheet_52 : decode cX10_sheet 52 = .ok (.iconst 1, 1) := by decide +kernel
theorem dX10_sheet_53 : decode cX10_sheet 53 = .ok (.invokevirtual 87, 3) := by decide +kernel
theorem dX10_sheet_56 : decode cX10_sheet 56 = .ok (.ireturn, 1) := by decide +kernel
theorem dX10_sheet_57 : decode cX10_sheet 57 = .ok (.aload_n 0, 1) := by decide +kernel
theorem dX10_sheet_58 : decode cX10_sheet 58 = .ok (.getfield 29, 3) := by decide +kernel
theorem dX10_sheet_61 : decode cX10_sheet 61 = .ok (.iload_n 1, 1) := by decide +kernel
theorem dX10_sheet_62 : decode cX10_sheet 62 = .ok (.aaload, 1) := by decide +kernel
theorem dX10_sheet_63 : decode cX10_sheet 63 = .ok (.iload_n 2, 1) := by decide +kernel
theorem dX10_sheet_64 : decode cX10_sheet 64 = .ok (.iload_n 3, 1) := by decide +kernel
theorem dX10_sheet_65 : decode cX10_sheet 65 = .ok (.invokevirtual 320, 3) := by decide +kernel
theorem dX10_sheet_68 : decode cX10_sheet 68 = .ok (.iconst 1, 1) := by decide +kernel
theorem dX10_sheet_69 : decode cX10_sheet 69 = .ok (.ireturn, 1) := by decide +kernel
theorem dX10_put_0 : decode cX10_put 0 = .ok (.iload_n 1, 1) := by decide +kernel
theorem dX10_put_1 : decode cX10_put 1 = .ok (.invokestatic 261, 3) := by decide +kernel
theorem dX10_put_4 : decode cX10_put 4 = .ok (.ifCond .ne 9, 3) := by decide +kernel
theorem dX10_put_7 : decode cX10_put 7 = .ok (.aload_n 0, 1) := by decide +kernel
theorem dX10_put_8 : decode cX10_put 8 = .ok (.iconst 1, 1) := by decide +kernel
theorem dX10_put_9 : decode cX10_put 9 = .ok (.invokevirtual 87, 3) := by decide +kernel
theorem dX10_put_12 : decode cX10_put 12 = .ok (.ireturn, 1) := by decide +kernel
theorem dX10_put_13 : decode cX10_put 13 = .ok (.aload_n 0, 1) := by decide +kernel
theorem dX10_put_14 : decode cX10_put 14 = .ok (.getfield 29, 3) := by decide +kernel
theorem dX10_put_17 : decode cX10_put 17 = .ok (.iload_n 1, 1) := by decide +kernel
theorem dX10_put_18 : decode cX10_put 18 = .ok (.aaload, 1) := by decide +kernel
theorem dX10_put_19 : decode cX10_put 19 = .ok (.astore 4, 2) := by decide +kernel
theorem dX10_put_21 : decode cX10_put 21 = .ok (.aload 4, 2) := by decide +kernel
theorem dX10_put_23 : decode cX10_put 23 = .ok (.invokevirtual 321, 3) := by decide +kernel
theorem dX10_put_26 : decode cX10_put 26 = .ok (.ifCond .eq 9, 3) := by decide +kernel
theorem dX10_put_29 : decode cX10_put 29 = .ok (.aload_n 0, 1) := by decide +kernel
theorem dX10_put_30 : decode cX10_put 30 = .ok (.iconst 2, 1) := by decide +kernel
theorem dX10_put_31 : decode cX10_put 31 = .ok (.invokevirtual 87, 3) := by decide +kernel
theorem dX10_put_34 : decode cX10_put 34 = .ok (.ireturn, 1) := by decide +kernel
theorem dX10_put_35 : decode cX10_put 35 = .ok (.iload_n 2, 1) := by decide +kernel
theorem dX10_put_36 : decode cX10_put 36 = .ok (.iconst 0, 1) := by decide +kernel
theorem dX10_put_37 : decode cX10_put 37 = .ok (.aload 4, 2) := by decide +kernel
theorem dX10_put_39 : decode cX10_put 39 = .ok (.getfield 325, 3) := by decide +kernel
theorem dX10_put_42 : decode cX10_put 42 = .ok (.iconst 1, 1) := by decide +kernel
theorem dX10_put_43 : decode cX10_put 43 = .ok (.isub, 1) := by decide +kernel
theorem dX10_put_44 : decode cX10_put 44 = .ok (.invokestatic 83, 3) := by decide +kernel
theorem dX10_put_47 : decode cX10_put 47 = .ok (.ifCond .ne 9, 3) := by decide +kernel
theorem dX10_put_50 : decode cX10_put 50 = .ok (.aload_n 0, 1) := by decide +kernel
theorem dX10_put_51 : decode cX10_put 51 = .ok (.iconst 1, 1) := by decide +kernel
theorem dX10_put_52 : decode cX10_put 52 = .ok (.invokevirtual 87, 3) := by decide +kernel
theorem dX10_put_55 : decode cX10_put 55 = .ok (.ireturn, 1) := by decide +kernel
theorem dX10_put_56 : decode cX10_put 56 = .ok (.aload 4, 2) := by decide +kernel
theorem dX10_put_58 : decode cX10_put 58 = .ok (.iload_n 2, 1) := by decide +kernel
theorem dX10_put_59 : decode cX10_put 59 = .ok (.iload_n 3, 1) := by decide +kernel
theorem dX10_put_60 : decode cX10_put 60 = .ok (.invokevirtual 328, 3) := by decide +kernel
theorem dX10_put_63 : decode cX10_put 63 = .ok (.iconst 1, 1) := by decide +kernel
theorem dX10_put_64 : decode cX10_put 64 = .ok (.ireturn, 1) := by decide +kernel
theorem dX10_move_0 : decode cX10_move 0 = .ok (.iload_n 1, 1) := by decide +kernel
theorem dX10_move_1 : decode cX10_move 1 = .ok (.invokestatic 261, 3) := by decide +kernel
theorem dX10_move_4 : decode cX10_move 4 = .ok (.ifCond .eq 10, 3) := by decide +kernel
theorem dX10_move_7 : decode cX10_move 7 = .ok (.iload_n 3, 1) := by decide +kernel
theorem dX10_move_8 : decode cX10_move 8 = .ok (.invokestatic 261, 3) := by decide +kernel
theorem dX10_move_11 : decode cX10_move 11 = .ok (.ifCond .ne 9, 3) := by decide +kernel
theorem dX10_move_14 : decode cX10_move 14 = .ok (.aload_n 0, 1) := by decide +kernel
theorem dX10_move_15 : decode cX10_move 15 = .ok (.iconst 1, 1) := by decide +kernel
theorem dX10_move_16 : decode cX10_move 16 = .ok (.invokevirtual 87, 3) := by decide +kernel
theorem dX10_move_19 : decode cX10_move 19 = .ok (.ireturn, 1) := by decide +kernel
theorem dX10_move_20 : decode cX10_move 20 = .ok (.aload_n 0, 1) := by decide +kernel
theorem dX10_move_21 : decode cX10_move 21 = .ok (.getfield 29, 3) := by decide +kernel
theorem dX10_move_24 : decode cX10_move 24 = .ok (.iload_n 1, 1) := by decide +kernel
theorem dX10_move_25 : decode cX10_move 25 = .ok (.aaload, 1) := by decide +kernel
theorem dX10_move_26 : decode cX10_move 26 = .ok (.astore 6, 2) := by decide +kernel
theorem dX10_move_28 : decode cX10_move 28 = .ok (.aload_n 0, 1) := by decide +kernel
theorem dX10_move_29 : decode cX10_move 29 = .ok (.getfield 29, 3) := by decide +kernel
theorem dX10_move_32 : decode cX10_move 32 = .ok (.iload_n 3, 1) := by decide +kernel
theorem dX10_move_33 : decode cX10_move 33 = .ok (.aaload, 1) := by decide +kernel
theorem dX10_move_34 : decode cX10_move 34 = .ok (.astore 7, 2) := by decide +kernel
theorem dX10_move_36 : decode cX10_move 36 = .ok (.aload 6, 2) := by decide +kernel
theorem dX10_move_38 : decode cX10_move 38 = .ok (.invokevirtual 321, 3) := by decide +kernel
theorem dX10_move_41 : decode cX10_move 41 = .ok (.ifCond .ne 11, 3) := by decide +kernel
theorem dX10_move_44 : decode cX10_move 44 = .ok (.aload 7, 2) := by decide +kernel
theorem dX10_move_46 : decode cX10_move 46 = .ok (.invokevirtual 321, 3) := by decide +kernel
theorem dX10_move_49 : decode cX10_move 49 = .ok (.ifCond .eq 9, 3) := by decide +kernel
theorem dX10_move_52 : decode cX10_move 52 = .ok (.aload_n 0, 1) := by decide +kernel
theorem dX10_move_53 : decode cX10_move 53 = .ok (.iconst 2, 1) := by decide +kernel
theorem dX10_move_54 : decode cX10_move 54 = .ok (.invokevirtual 87, 3) := by decide +kernel
theorem dX10_move_57 : decode cX10_move 57 = .ok (.ireturn, 1) := by decide +kernel
theorem dX10_move_58 : decode cX10_move 58 = .ok (.aload 6, 2) := by decide +kernel
theorem dX10_move_60 : decode cX10_move 60 = .ok (.getfield 331, 3) := by decide +kernel
theorem dX10_move_63 : decode cX10_move 63 = .ok (.aload 7, 2) := by decide +kernel
theorem dX10_move_65 : decode cX10_move 65 = .ok (.getfield 331, 3) := by decide +kernel
theorem dX10_move_68 : decode cX10_move 68 = .ok (.if_icmp .eq 9, 3) := by decide +kernel
theorem dX10_move_71 : decode cX10_move 71 = .ok (.aload_n 0, 1) := by decide +kernel
theorem dX10_move_72 : decode cX10_move 72 = .ok (.iconst 5, 1) := by decide +kernel
theorem dX10_move_73 : decode cX10_move 73 = .ok (.invokevirtual 87, 3) := by decide +kernel
theorem dX10_move_76 : decode cX10_move 76 = .ok (.ireturn, 1) := by decide +kernel
theorem dX10_move_77 : decode cX10_move 77 = .ok (.aload 6, 2) := by decide +kernel
theorem dX10_move_79 : decode cX10_move 79 = .ok (.iload_n 2, 1) := by decide +kernel
theorem dX10_move_80 : decode cX10_move 80 = .ok (.iload 5, 2) := by decide +kernel
theorem dX10_move_82 : decode cX10_move 82 = .ok (.invokevirtual 334, 3) := by decide +kernel
theorem dX10_move_85 : decode cX10_move 85 = .ok (.ifCond .eq 15, 3) := by decide +kernel
theorem dX10_move_88 : decode cX10_move 88 = .ok (.aload 7, 2) := by decide +kernel
theorem dX10_move_90 : decode cX10_move 90 = .ok (.iload 4, 2) := by decide +kernel
theorem dX10_move_92 : decode cX10_move 92 = .ok (.iload 5, 2) := by decide +kernel
theorem dX10_move_94 : decode cX10_move 94 = .ok (.invokevirtual 334, 3) := by decide +kernel
theorem dX10_move_97 : decode cX10_move 97 = .ok (.ifCond .ne 9, 3) := by decide +kernel
theorem dX10_move_100 : decode cX10_move 100 = .ok (.aload_n 0, 1) := by decide +kernel
theorem dX10_move_101 : decode cX10_move 101 = .ok (.iconst 1, 1) := by decide +kernel
theorem dX10_move_102 : decode cX10_move 102 = .ok (.invokevirtual 87, 3) := by decide +kernel
theorem dX10_move_105 : decode cX10_move 105 = .ok (.ireturn, 1) := by decide +kernel
theorem dX10_move_106 : decode cX10_move 106 = .ok (.aload 6, 2) := by decide +kernel
theorem dX10_move_108 : decode cX10_move 108 = .ok (.getfield 337, 3) := by decide +kernel
theorem dX10_move_111 : decode cX10_move 111 = .ok (.iload_n 2, 1) := by decide +kernel
theorem dX10_move_112 : decode cX10_move 112 = .ok (.aload 7, 2) := by decide +kernel
theorem dX10_move_114 : decode cX10_move 114 = .ok (.getfield 337, 3) := by decide +kernel
theorem dX10_move_117 : decode cX10_move 117 = .ok (.iload 4, 2) := by decide +kernel
theorem dX10_move_119 : decode cX10_move 119 = .ok (.iload 5, 2) := by decide +kernel
theorem dX10_move_121 : decode cX10_move 121 = .ok (.invokestatic 338, 3) := by decide +kernel
theorem dX10_move_124 : decode cX10_move 124 = .ok (.iload 5, 2) := by decide +kernel
theorem dX10_move_126 : decode cX10_move 126 = .ok (.ireturn, 1) := by decide +kernel
theorem dX10_lets_0 : decode cX10_lets 0 = .ok (.iload_n 1, 1) := by decide +kernel
theorem dX10_lets_1 : decode cX10_lets 1 = .ok (.invokestatic 261, 3) := by decide +kernel
theorem dX10_lets_4 : decode cX10_lets 4 = .ok (.ifCond .ne 9, 3) := by decide +kernel
theorem dX10_lets_7 : decode cX10_lets 7 = .ok (.aload_n 0, 1) := by decide +kernel
theorem dX10_lets_8 : decode cX10_lets 8 = .ok (.iconst 1, 1) := by decide +kernel
theorem dX10_lets_9 : decode cX10_lets 9 = .ok (.invokevirtual 87, 3) := by decide +kernel
theorem dX10_lets_12 : decode cX10_lets 12 = .ok (.ireturn, 1) := by decide +kernel
theorem dX10_lets_13 : decode cX10_lets 13 = .ok (.aload_n 0, 1) := by decide +kernel
theorem dX10_lets_14 : decode cX10_lets 14 = .ok (.getfield 29, 3) := by decide +kernel
theorem dX10_lets_17 : decode cX10_lets 17 = .ok (.iload_n 1, 1) := by decide +kernel
theorem dX10_lets_18 : decode cX10_lets 18 = .ok (.aaload, 1) := by decide +kernel
theorem dX10_lets_19 : decode cX10_lets 19 = .ok (.astore_n 2, 1) := by decide +kernel
theorem dX10_lets_20 : decode cX10_lets 20 = .ok (.aload_n 2, 1) := by decide +kernel
theorem dX10_lets_21 : decode cX10_lets 21 = .ok (.invokevirtual 321, 3) := by decide +kernel
theorem dX10_lets_24 : decode cX10_lets 24 = .ok (.ifCond .eq 9, 3) := by decide +kernel
theorem dX10_lets_27 : decode cX10_lets 27 = .ok (.aload_n 0, 1) := by decide +kernel
theorem dX10_lets_28 : decode cX10_lets 28 = .ok (.iconst 2, 1) := by decide +kernel
theorem dX10_lets_29 : decode cX10_lets 29 = .ok (.invokevirtual 87, 3) := by decide +kernel
theorem dX10_lets_32 : decode cX10_lets 32 = .ok (.ireturn, 1) := by decide +kernel
theorem dX10_lets_33 : decode cX10_lets 33 = .ok (.iconst 0, 1) := by decide +kernel
theorem dX10_lets_34 : decode cX10_lets 34 = .ok (.istore_n 3, 1) := by decide +kernel
theorem dX10_lets_35 : decode cX10_lets 35 = .ok (.iload_n 3, 1) := by decide +kernel
theorem dX10_lets_36 : decode cX10_lets 36 = .ok (.aload_n 2, 1) := by decide +kernel
theorem dX10_lets_37 : decode cX10_lets 37 = .ok (.getfield 325, 3) := by decide +kernel
theorem dX10_lets_40 : decode cX10_lets 40 = .ok (.if_icmp .ge 46, 3) := by decide +kernel
theorem dX10_lets_43 : decode cX10_lets 43 = .ok (.aload_n 0, 1) := by decide +kernel
theorem dX10_lets_44 : decode cX10_lets 44 = .ok (.getfield 16, 3) := by decide +kernel
theorem dX10_lets_47 : decode cX10_lets 47 = .ok (.getfield 91, 3) := by decide +kernel
theorem dX10_lets_50 : decode cX10_lets 50 = .ok (.aload_n 2, 1) := by decide +kernel
theorem dX10_lets_51 : decode cX10_lets 51 = .ok (.getfield 337, 3) := by decide +kernel
theorem dX10_lets_54 : decode cX10_lets 54 = .ok (.iload_n 3, 1) := by decide +kernel
theorem dX10_lets_55 : decode cX10_lets 55 = .ok (.iaload, 1) := by decide +kernel
theorem dX10_lets_56 : decode cX10_lets 56 = .ok (.invokevirtual 147, 3) := by decide +kernel
theorem dX10_lets_59 : decode cX10_lets 59 = .ok (.ifCond .eq 27, 3) := by decide +kernel
theorem dX10_lets_62 : decode cX10_lets 62 = .ok (.aload_n 0, 1) := by decide +kernel
theorem dX10_lets_63 : decode cX10_lets 63 = .ok (.getfield 16, 3) := by decide +kernel
theorem dX10_lets_66 : decode cX10_lets 66 = .ok (.aload_n 0, 1) := by decide +kernel
theorem dX10_lets_67 : decode cX10_lets 67 = .ok (.getfield 36, 3) := by decide +kernel
theorem dX10_lets_70 : decode cX10_lets 70 = .ok (.aload_n 2, 1) := by decide +kernel
theorem dX10_lets_71 : decode cX10_lets 71 = .ok (.getfield 337, 3) := by decide +kernel
theorem dX10_lets_74 : decode cX10_lets 74 = .ok (.iload_n 3, 1) := by decide +kernel
theorem dX10_lets_75 : decode cX10_lets 75 = .ok (.iaload, 1) := by decide +kernel
theorem dX10_lets_76 : decode cX10_lets 76 = .ok (.invokevirtual 150, 3) := by decide +kernel
theorem dX10_lets_79 : decode cX10_lets 79 = .ok (.pop, 1) := by decide +kernel
theorem dX10_lets_80 : decode cX10_lets 80 = .ok (.iinc 3 1, 3) := by decide +kernel
theorem dX10_lets_83 : decode cX10_lets 83 = .ok (.goto (-48), 3) := by decide +kernel
theorem dX10_lets_86 : decode cX10_lets 86 = .ok (.iload_n 3, 1) := by decide +kernel
theorem dX10_lets_87 : decode cX10_lets 87 = .ok (.ireturn, 1) := by decide +kernel
theorem dX10_judge_0 : decode cX10_judge 0 = .ok (.iload_n 1, 1) := by decide +kernel
theorem dX10_judge_1 : decode cX10_judge 1 = .ok (.invokestatic 261, 3) := by decide +kernel
theorem dX10_judge_4 : decode cX10_judge 4 = .ok (.ifCond .ne 9, 3) := by decide +kernel
theorem dX10_judge_7 : decode cX10_judge 7 = .ok (.aload_n 0, 1) := by decide +kernel
theorem dX10_judge_8 : decode cX10_judge 8 = .ok (.iconst 1, 1) := by decide +kernel
theorem dX10_judge_9 : decode cX10_judge 9 = .ok (.invokevirtual 87, 3) := by decide +kernel
theorem dX10_judge_12 : decode cX10_judge 12 = .ok (.ireturn, 1) := by decide +kernel
theorem dX10_judge_13 : decode cX10_judge 13 = .ok (.aload_n 0, 1) := by decide +kernel
theorem dX10_judge_14 : decode cX10_judge 14 = .ok (.getfield 29, 3) := by decide +kernel
theorem dX10_judge_17 : decode cX10_judge 17 = .ok (.iload_n 1, 1) := by decide +kernel
theorem dX10_judge_18 : decode cX10_judge 18 = .ok (.aaload, 1) := by decide +kernel
theorem dX10_judge_19 : decode cX10_judge 19 = .ok (.astore_n 2, 1) := by decide +kernel
theorem dX10_judge_20 : decode cX10_judge 20 = .ok (.aload_n 2, 1) := by decide +kernel
theorem dX10_judge_21 : decode cX10_judge 21 = .ok (.invokevirtual 321, 3) := by decide +kernel
theorem dX10_judge_24 : decode cX10_judge 24 = .ok (.ifCond .eq 9, 3) := by decide +kernel
theorem dX10_judge_27 : decode cX10_judge 27 = .ok (.aload_n 0, 1) := by decide +kernel
theorem dX10_judge_28 : decode cX10_judge 28 = .ok (.iconst 2, 1) := by decide +kernel
theorem dX10_judge_29 : decode cX10_judge 29 = .ok (.invokevirtual 87, 3) := by decide +kernel
theorem dX10_judge_32 : decode cX10_judge 32 = .ok (.ireturn, 1) := by decide +kernel
theorem dX10_judge_33 : decode cX10_judge 33 = .ok (.aload_n 0, 1) := by decide +kernel
theorem dX10_judge_34 : decode cX10_judge 34 = .ok (.getfield 16, 3) := by decide +kernel
theorem dX10_judge_37 : decode cX10_judge 37 = .ok (.getfield 91, 3) := by decide +kernel
theorem dX10_judge_40 : decode cX10_judge 40 = .ok (.invokevirtual 344, 3) := by decide +kernel
theorem dX10_judge_43 : decode cX10_judge 43 = .ok (.istore_n 3, 1) := by decide +kernel
theorem dX10_judge_44 : decode cX10_judge 44 = .ok (.aload_n 2, 1) := by decide +kernel
theorem dX10_judge_45 : decode cX10_judge 45 = .ok (.getfield 325, 3) := by decide +kernel
theorem dX10_judge_48 : decode cX10_judge 48 = .ok (.iload_n 3, 1) := by decide +kernel
theorem dX10_judge_49 : decode cX10_judge 49 = .ok (.invokestatic 346, 3) := by decide +kernel
theorem dX10_judge_52 : decode cX10_judge 52 = .ok (.istore 4, 2) := by decide +kernel
theorem dX10_judge_54 : decode cX10_judge 54 = .ok (.iconst 0, 1) := by decide +kernel
theorem dX10_judge_55 : decode cX10_judge 55 = .ok (.istore 5, 2) := by decide +kernel
theorem dX10_judge_57 : decode cX10_judge 57 = .ok (.iload 5, 2) := by decide +kernel
theorem dX10_judge_59 : decode cX10_judge 59 = .ok (.iload 4, 2) := by decide +kernel
theorem dX10_judge_61 : decode cX10_judge 61 = .ok (.if_icmp .ge 34, 3) := by decide +kernel
theorem dX10_judge_64 : decode cX10_judge 64 = .ok (.aload_n 2, 1) := by decide +kernel
theorem dX10_judge_65 : decode cX10_judge 65 = .ok (.getfield 337, 3) := by decide +kernel
theorem dX10_judge_68 : decode cX10_judge 68 = .ok (.iload 5, 2) := by decide +kernel
theorem dX10_judge_70 : decode cX10_judge 70 = .ok (.iaload, 1) := by decide +kernel
theorem dX10_judge_71 : decode cX10_judge 71 = .ok (.aload_n 0, 1) := by decide +kernel
theorem dX10_judge_72 : decode cX10_judge 72 = .ok (.getfield 16, 3) := by decide +kernel
theorem dX10_judge_75 : decode cX10_judge 75 = .ok (.getfield 91, 3) := by decide +kernel
theorem dX10_judge_78 : decode cX10_judge 78 = .ok (.iload 5, 2) := by decide +kernel
theorem dX10_judge_80 : decode cX10_judge 80 = .ok (.invokevirtual 116, 3) := by decide +kernel
theorem dX10_judge_83 : decode cX10_judge 83 = .ok (.if_icmp .eq 6, 3) := by decide +kernel
theorem dX10_judge_86 : decode cX10_judge 86 = .ok (.iload 5, 2) := by decide +kernel
theorem dX10_judge_88 : decode cX10_judge 88 = .ok (.ireturn, 1) := by decide +kernel
theorem dX10_judge_89 : decode cX10_judge 89 = .ok (.iinc 5 1, 3) := by decide +kernel
theorem dX10_judge_92 : decode cX10_judge 92 = .ok (.goto (-35), 3) := by decide +kernel
theorem dX10_judge_95 : decode cX10_judge 95 = .ok (.aload_n 2, 1) := by decide +kernel
theorem dX10_judge_96 : decode cX10_judge 96 = .ok (.getfield 325, 3) := by decide +kernel
theorem dX10_judge_99 : decode cX10_judge 99 = .ok (.iload_n 3, 1) := by decide +kernel
theorem dX10_judge_100 : decode cX10_judge 100 = .ok (.if_icmp .ne 7, 3) := by decide +kernel
theorem dX10_judge_103 : decode cX10_judge 103 = .ok (.iconst (-1), 1) := by decide +kernel
theorem dX10_judge_104 : decode cX10_judge 104 = .ok (.goto 5, 3) := by decide +kernel
theorem dX10_judge_107 : decode cX10_judge 107 = .ok (.iload 4, 2) := by decide +kernel
theorem dX10_judge_109 : decode cX10_judge 109 = .ok (.ireturn, 1) := by decide +kernel
theorem dX10_image_0 : decode cX10_image 0 = .ok (.aload_n 0, 1) := by decide +kernel
theorem dX10_image_1 : decode cX10_image 1 = .ok (.getfield 20, 3) := by decide +kernel
theorem dX10_image_4 : decode cX10_image 4 = .ok (.aload_n 0, 1) := by decide +kernel
theorem dX10_image_5 : decode cX10_image 5 = .ok (.getfield 16, 3) := by decide +kernel
theorem dX10_image_8 : decode cX10_image 8 = .ok (.invokevirtual 352, 3) := by decide +kernel
theorem dX10_image_11 : decode cX10_image 11 = .ok (.aload_n 0, 1) := by decide +kernel
theorem dX10_image_12 : decode cX10_image 12 = .ok (.dup, 1) := by decide +kernel
theorem dX10_image_13 : decode cX10_image 13 = .ok (.getfield 23, 3) := by decide +kernel
theorem dX10_image_16 : decode cX10_image 16 = .ok (.iconst 1, 1) := by decide +kernel
theorem dX10_image_17 : decode cX10_image 17 = .ok (.iadd, 1) := by decide +kernel
theorem dX10_image_18 : decode cX10_image 18 = .ok (.putfield 23, 3) := by decide +kernel
theorem dX10_image_21 : decode cX10_image 21 = .ok (.aload_n 0, 1) := by decide +kernel
theorem dX10_image_22 : decode cX10_image 22 = .ok (.getfield 23, 3) := by decide +kernel
theorem dX10_image_25 : decode cX10_image 25 = .ok (.ireturn, 1) := by decide +kernel
theorem dX10_restore_0 : decode cX10_restore 0 = .ok (.aload_n 0, 1) := by decide +kernel
theorem dX10_restore_1 : decode cX10_restore 1 = .ok (.getfield 23, 3) := by decide +kernel
theorem dX10_restore_4 : decode cX10_restore 4 = .ok (.ifCond .ne 9, 3) := by decide +kernel
theorem dX10_restore_7 : decode cX10_restore 7 = .ok (.aload_n 0, 1) := by decide +kernel
theorem dX10_restore_8 : decode cX10_restore 8 = .ok (.iconst 2, 1) := by decide +kernel
theorem dX10_restore_9 : decode cX10_restore 9 = .ok (.invokevirtual 87, 3) := by decide +kernel
theorem dX10_restore_12 : decode cX10_restore 12 = .ok (.ireturn, 1) := by decide +kernel
theorem dX10_restore_13 : decode cX10_restore 13 = .ok (.aload_n 0, 1) := by decide +kernel
theorem dX10_restore_14 : decode cX10_restore 14 = .ok (.getfield 16, 3) := by decide +kernel
theorem dX10_restore_17 : decode cX10_restore 17 = .ok (.aload_n 0, 1) := by decide +kernel
theorem dX10_restore_18 : decode cX10_restore 18 = .ok (.getfield 20, 3) := by decide +kernel
theorem dX10_restore_21 : decode cX10_restore 21 = .ok (.invokevirtual 352, 3) := by decide +kernel
theorem dX10_restore_24 : decode cX10_restore 24 = .ok (.aload_n 0, 1) := by decide +kernel
theorem dX10_restore_25 : decode cX10_restore 25 = .ok (.getfield 16, 3) := by decide +kernel
theorem dX10_restore_28 : decode cX10_restore 28 = .ok (.getfield 291, 3) := by decide +kernel
theorem dX10_restore_31 : decode cX10_restore 31 = .ok (.ireturn, 1) := by decide +kernel
theorem dX10_tell_0 : decode cX10_tell 0 = .ok (.aload_n 0, 1) := by decide +kernel
theorem dX10_tell_1 : decode cX10_tell 1 = .ok (.getfield 16, 3) := by decide +kernel
theorem dX10_tell_4 : decode cX10_tell 4 = .ok (.iload_n 1, 1) := by decide +kernel
theorem dX10_tell_5 : decode cX10_tell 5 = .ok (.invokevirtual 355, 3) := by decide +kernel
theorem dX10_tell_8 : decode cX10_tell 8 = .ok (.ifCond .eq 13, 3) := by decide +kernel
theorem dX10_tell_11 : decode cX10_tell 11 = .ok (.aload_n 0, 1) := by decide +kernel
theorem dX10_tell_12 : decode cX10_tell 12 = .ok (.getfield 16, 3) := by decide +kernel
theorem dX10_tell_15 : decode cX10_tell 15 = .ok (.getfield 358, 3) := by decide +kernel
theorem dX10_tell_18 : decode cX10_tell 18 = .ok (.goto 8, 3) := by decide +kernel
theorem dX10_tell_21 : decode cX10_tell 21 = .ok (.aload_n 0, 1) := by decide +kernel
theorem dX10_tell_22 : decode cX10_tell 22 = .ok (.iconst 4, 1) := by decide +kernel
theorem dX10_tell_23 : decode cX10_tell 23 = .ok (.invokevirtual 87, 3) := by decide +kernel
theorem dX10_tell_26 : decode cX10_tell 26 = .ok (.ireturn, 1) := by decide +kernel
theorem dX10_check_0 : decode cX10_check 0 = .ok (.aload_n 0, 1) := by decide +kernel
theorem dX10_check_1 : decode cX10_check 1 = .ok (.getfield 16, 3) := by decide +kernel
theorem dX10_check_4 : decode cX10_check 4 = .ok (.getfield 358, 3) := by decide +kernel
theorem dX10_check_7 : decode cX10_check 7 = .ok (.istore_n 1, 1) := by decide +kernel
theorem dX10_check_8 : decode cX10_check 8 = .ok (.aload_n 0, 1) := by decide +kernel
theorem dX10_check_9 : decode cX10_check 9 = .ok (.getfield 16, 3) := by decide +kernel
theorem dX10_check_12 : decode cX10_check 12 = .ok (.iconst 0, 1) := by decide +kernel
theorem dX10_check_13 : decode cX10_check 13 = .ok (.putfield 358, 3) := by decide +kernel
theorem dX10_check_16 : decode cX10_check 16 = .ok (.aload_n 0, 1) := by decide +kernel
theorem dX10_check_17 : decode cX10_check 17 = .ok (.getfield 43, 3) := by decide +kernel
theorem dX10_check_20 : decode cX10_check 20 = .ok (.aload_n 0, 1) := by decide +kernel
theorem dX10_check_21 : decode cX10_check 21 = .ok (.getfield 16, 3) := by decide +kernel
theorem dX10_check_24 : decode cX10_check 24 = .ok (.getfield 91, 3) := by decide +kernel
theorem dX10_check_27 : decode cX10_check 27 = .ok (.invokevirtual 154, 3) := by decide +kernel
theorem dX10_check_30 : decode cX10_check 30 = .ok (.iconst 0, 1) := by decide +kernel
theorem dX10_check_31 : decode cX10_check 31 = .ok (.istore_n 2, 1) := by decide +kernel
theorem dX10_check_32 : decode cX10_check 32 = .ok (.iload_n 2, 1) := by decide +kernel
theorem dX10_check_33 : decode cX10_check 33 = .ok (.iload_n 1, 1) := by decide +kernel
theorem dX10_check_34 : decode cX10_check 34 = .ok (.if_icmp .ge 77, 3) := by decide +kernel
theorem dX10_check_37 : decode cX10_check 37 = .ok (.iload_n 2, 1) := by decide +kernel
theorem dX10_check_38 : decode cX10_check 38 = .ok (.aload_n 0, 1) := by decide +kernel
theorem dX10_check_39 : decode cX10_check 39 = .ok (.getfield 16, 3) := by decide +kernel
theorem dX10_check_42 : decode cX10_check 42 = .ok (.getfield 361, 3) := by decide +kernel
theorem dX10_check_45 : decode cX10_check 45 = .ok (.arraylength, 1) := by decide +kernel
theorem dX10_check_46 : decode cX10_check 46 = .ok (.if_icmp .ge 65, 3) := by decide +kernel
theorem dX10_check_49 : decode cX10_check 49 = .ok (.aload_n 0, 1) := by decide +kernel
theorem dX10_check_50 : decode cX10_check 50 = .ok (.getfield 43, 3) := by decide +kernel
theorem dX10_check_53 : decode cX10_check 53 = .ok (.aload_n 0, 1) := by decide +kernel
theorem dX10_check_54 : decode cX10_check 54 = .ok (.getfield 16, 3) := by decide +kernel
theorem dX10_check_57 : decode cX10_check 57 = .ok (.getfield 91, 3) := by decide +kernel
theorem dX10_check_60 : decode cX10_check 60 = .ok (.invokevirtual 364, 3) := by decide +kernel
theorem dX10_check_63 : decode cX10_check 63 = .ok (.aload_n 0, 1) := by decide +kernel
theorem dX10_check_64 : decode cX10_check 64 = .ok (.getfield 16, 3) := by decide +kernel
theorem dX10_check_67 : decode cX10_check 67 = .ok (.getfield 91, 3) := by decide +kernel
theorem dX10_check_70 : decode cX10_check 70 = .ok (.iload_n 2, 1) := by decide +kernel
theorem dX10_check_71 : decode cX10_check 71 = .ok (.invokevirtual 147, 3) := by decide +kernel
theorem dX10_check_74 : decode cX10_check 74 = .ok (.ifCond .eq 27, 3) := by decide +kernel
theorem dX10_check_77 : decode cX10_check 77 = .ok (.aload_n 0, 1) := by decide +kernel
theorem dX10_check_78 : decode cX10_check 78 = .ok (.getfield 36, 3) := by decide +kernel
theorem dX10_check_81 : decode cX10_check 81 = .ok (.aload_n 0, 1) := by decide +kernel
theorem dX10_check_82 : decode cX10_check 82 = .ok (.getfield 43, 3) := by decide +kernel
theorem dX10_check_85 : decode cX10_check 85 = .ok (.iload_n 2, 1) := by decide +kernel
theorem dX10_check_86 : decode cX10_check 86 = .ok (.invokevirtual 158, 3) := by decide +kernel
theorem dX10_check_89 : decode cX10_check 89 = .ok (.aload_n 0, 1) := by decide +kernel
theorem dX10_check_90 : decode cX10_check 90 = .ok (.getfield 16, 3) := by decide +kernel
theorem dX10_check_93 : decode cX10_check 93 = .ok (.getfield 361, 3) := by decide +kernel
theorem dX10_check_96 : decode cX10_check 96 = .ok (.iload_n 2, 1) := by decide +kernel
theorem dX10_check_97 : decode cX10_check 97 = .ok (.iaload, 1) := by decide +kernel
theorem dX10_check_98 : decode cX10_check 98 = .ok (.if_icmp .eq 7, 3) := by decide +kernel
theorem dX10_check_101 : decode cX10_check 101 = .ok (.iconst 1, 1) := by decide +kernel
theorem dX10_check_102 : decode cX10_check 102 = .ok (.iload_n 2, 1) := by decide +kernel
theorem dX10_check_103 : decode cX10_check 103 = .ok (.iadd, 1) := by decide +kernel
theorem dX10_check_104 : decode cX10_check 104 = .ok (.ireturn, 1) := by decide +kernel
theorem dX10_check_105 : decode cX10_check 105 = .ok (.iinc 2 1, 3) := by decide +kernel
theorem dX10_check_108 : decode cX10_check 108 = .ok (.goto (-76), 3) := by decide +kernel
theorem dX10_check_111 : decode cX10_check 111 = .ok (.iconst 0, 1) := by decide +kernel
theorem dX10_check_112 : decode cX10_check 112 = .ok (.ireturn, 1) := by decide +kernel
theorem dX10_count_0 : decode cX10_count 0 = .ok (.iload_n 1, 1) := by decide +kernel
theorem dX10_count_1 : decode cX10_count 1 = .ok (.tableswitch 162 0 10 #[59, 70, 81, 92, 103, 114, 122, 130, 138, 146, 154], 59) := by decide +kernel
theorem dX10_count_60 : decode cX10_count 60 = .ok (.aload_n 0, 1) := by decide +kernel
theorem dX10_count_61 : decode cX10_count 61 = .ok (.getfield 16, 3) := by decide +kernel
theorem dX10_count_64 : decode cX10_count 64 = .ok (.getfield 91, 3) := by decide +kernel
theorem dX10_count_67 : decode cX10_count 67 = .ok (.getfield 367, 3) := by decide +kernel
theorem dX10_count_70 : decode cX10_count 70 = .ok (.ireturn, 1) := by decide +kernel
theorem dX10_count_71 : decode cX10_count 71 = .ok (.aload_n 0, 1) := by decide +kernel
theorem dX10_count_72 : decode cX10_count 72 = .ok (.getfield 16, 3) := by decide +kernel
theorem dX10_count_75 : decode cX10_count 75 = .ok (.getfield 91, 3) := by decide +kernel
theorem dX10_count_78 : decode cX10_count 78 = .ok (.getfield 370, 3) := by decide +kernel
theorem dX10_count_81 : decode cX10_count 81 = .ok (.ireturn, 1) := by decide +kernel
theorem dX10_count_82 : decode cX10_count 82 = .ok (.aload_n 0, 1) := by decide +kernel
theorem dX10_count_83 : decode cX10_count 83 = .ok (.getfield 16, 3) := by decide +kernel
theorem dX10_count_86 : decode cX10_count 86 = .ok (.getfield 91, 3) := by decide +kernel
theorem dX10_count_89 : decode cX10_count 89 = .ok (.invokevirtual 98, 3) := by decide +kernel
theorem dX10_count_92 : decode cX10_count 92 = .ok (.ireturn, 1) := by decide +kernel
theorem dX10_count_93 : decode cX10_count 93 = .ok (.aload_n 0, 1) := by decide +kernel
theorem dX10_count_94 : decode cX10_count 94 = .ok (.getfield 16, 3) := by decide +kernel
theorem dX10_count_97 : decode cX10_count 97 = .ok (.getfield 91, 3) := by decide +kernel
theorem dX10_count_100 : decode cX10_count 100 = .ok (.invokevirtual 373, 3) := by decide +kernel
theorem dX10_count_103 : decode cX10_count 103 = .ok (.ireturn, 1) := by decide +kernel
theorem dX10_count_104 : decode cX10_count 104 = .ok (.aload_n 0, 1) := by decide +kernel
theorem dX10_count_105 : decode cX10_count 105 = .ok (.getfield 16, 3) := by decide +kernel
theorem dX10_count_108 : decode cX10_count 108 = .ok (.getfield 91, 3) := by decide +kernel
theorem dX10_count_111 : decode cX10_count 111 = .ok (.invokevirtual 376, 3) := by decide +kernel
theorem dX10_count_114 : decode cX10_count 114 = .ok (.ireturn, 1) := by decide +kernel
theorem dX10_count_115 : decode cX10_count 115 = .ok (.aload_n 0, 1) := by decide +kernel
theorem dX10_count_116 : decode cX10_count 116 = .ok (.getfield 16, 3) := by decide +kernel
theorem dX10_count_119 : decode cX10_count 119 = .ok (.getfield 298, 3) := by decide +kernel
theorem dX10_count_122 : decode cX10_count 122 = .ok (.ireturn, 1) := by decide +kernel
theorem dX10_count_123 : decode cX10_count 123 = .ok (.aload_n 0, 1) := by decide +kernel
theorem dX10_count_124 : decode cX10_count 124 = .ok (.getfield 16, 3) := by decide +kernel
theorem dX10_count_127 : decode cX10_count 127 = .ok (.getfield 291, 3) := by decide +kernel
theorem dX10_count_130 : decode cX10_count 130 = .ok (.ireturn, 1) := by decide +kernel
theorem dX10_count_131 : decode cX10_count 131 = .ok (.aload_n 0, 1) := by decide +kernel
theorem dX10_count_132 : decode cX10_count 132 = .ok (.getfield 16, 3) := by decide +kernel
theorem dX10_count_135 : decode cX10_count 135 = .ok (.getfield 184, 3) := by decide +kernel
theorem dX10_count_138 : decode cX10_count 138 = .ok (.ireturn, 1) := by decide +kernel
theorem dX10_count_139 : decode cX10_count 139 = .ok (.aload_n 0, 1) := by decide +kernel
theorem dX10_count_140 : decode cX10_count 140 = .ok (.getfield 16, 3) := by decide +kernel
theorem dX10_count_143 : decode cX10_count 143 = .ok (.getfield 358, 3) := by decide +kernel
theorem dX10_count_146 : decode cX10_count 146 = .ok (.ireturn, 1) := by decide +kernel
theorem dX10_count_147 : decode cX10_count 147 = .ok (.aload_n 0, 1) := by decide +kernel
theorem dX10_count_148 : decode cX10_count 148 = .ok (.getfield 57, 3) := by decide +kernel
theorem dX10_count_151 : decode cX10_count 151 = .ok (.getfield 308, 3) := by decide +kernel
theorem dX10_count_154 : decode cX10_count 154 = .ok (.ireturn, 1) := by decide +kernel
theorem dX10_count_155 : decode cX10_count 155 = .ok (.aload_n 0, 1) := by decide +kernel
theorem dX10_count_156 : decode cX10_count 156 = .ok (.getfield 16, 3) := by decide +kernel
theorem dX10_count_159 : decode cX10_count 159 = .ok (.getfield 301, 3) := by decide +kernel
theorem dX10_count_162 : decode cX10_count 162 = .ok (.ireturn, 1) := by decide +kernel
theorem dX10_count_163 : decode cX10_count 163 = .ok (.aload_n 0, 1) := by decide +kernel
theorem dX10_count_164 : decode cX10_count 164 = .ok (.iconst 1, 1) := by decide +kernel
theorem dX10_count_165 : decode cX10_count 165 = .ok (.invokevirtual 87, 3) := by decide +kernel
theorem dX10_count_168 : decode cX10_count 168 = .ok (.ireturn, 1) := by decide +kernel
theorem dX10_told_0 : decode cX10_told 0 = .ok (.iload_n 1, 1) := by decide +kernel
theorem dX10_told_1 : decode cX10_told 1 = .ok (.iconst 1, 1) := by decide +kernel
theorem dX10_told_2 : decode cX10_told 2 = .ok (.iconst 5, 1) := by decide +kernel
theorem dX10_told_3 : decode cX10_told 3 = .ok (.invokestatic 83, 3) := by decide +kernel
theorem dX10_told_6 : decode cX10_told 6 = .ok (.ifCond .eq 12, 3) := by decide +kernel
theorem dX10_told_9 : decode cX10_told 9 = .ok (.aload_n 0, 1) := by decide +kernel
theorem dX10_told_10 : decode cX10_told 10 = .ok (.getfield 7, 3) := by decide +kernel
theorem dX10_told_13 : decode cX10_told 13 = .ok (.iload_n 1, 1) := by decide +kernel
theorem dX10_told_14 : decode cX10_told 14 = .ok (.iaload, 1) := by decide +kernel
theorem dX10_told_15 : decode cX10_told 15 = .ok (.goto 8, 3) := by decide +kernel
theorem dX10_told_18 : decode cX10_told 18 = .ok (.aload_n 0, 1) := by decide +kernel
theorem dX10_told_19 : decode cX10_told 19 = .ok (.iconst 1, 1) := by decide +kernel
theorem dX10_told_20 : decode cX10_told 20 = .ok (.invokevirtual 87, 3) := by decide +kernel
theorem dX10_told_23 : decode cX10_told 23 = .ok (.ireturn, 1) := by decide +kernel
theorem dX10_fail_0 : decode cX10_fail 0 = .ok (.iload_n 1, 1) := by decide +kernel
theorem dX10_fail_1 : decode cX10_fail 1 = .ok (.iconst 1, 1) := by decide +kernel
theorem dX10_fail_2 : decode cX10_fail 2 = .ok (.iconst 5, 1) := by decide +kernel
theorem dX10_fail_3 : decode cX10_fail 3 = .ok (.invokestatic 83, 3) := by decide +kernel
theorem dX10_fail_6 : decode cX10_fail 6 = .ok (.ifCond .eq 13, 3) := by decide +kernel
theorem dX10_fail_9 : decode cX10_fail 9 = .ok (.aload_n 0, 1) := by decide +kernel
theorem dX10_fail_10 : decode cX10_fail 10 = .ok (.getfield 7, 3) := by decide +kernel
theorem dX10_fail_13 : decode cX10_fail 13 = .ok (.iload_n 1, 1) := by decide +kernel
theorem dX10_fail_14 : decode cX10_fail 14 = .ok (.dup2, 1) := by decide +kernel
theorem dX10_fail_15 : decode cX10_fail 15 = .ok (.iaload, 1) := by decide +kernel
theorem dX10_fail_16 : decode cX10_fail 16 = .ok (.iconst 1, 1) := by decide +kernel
theorem dX10_fail_17 : decode cX10_fail 17 = .ok (.iadd, 1) := by decide +kernel
theorem dX10_fail_18 : decode cX10_fail 18 = .ok (.iastore, 1) := by decide +kernel
theorem dX10_fail_19 : decode cX10_fail 19 = .ok (.ldc_w 379, 3) := by decide +kernel
theorem dX10_fail_22 : decode cX10_fail 22 = .ok (.iload_n 1, 1) := by decide +kernel
theorem dX10_fail_23 : decode cX10_fail 23 = .ok (.isub, 1) := by decide +kernel
theorem dX10_fail_24 : decode cX10_fail 24 = .ok (.ireturn, 1) := by decide +kernel
theorem dX10_hasSheet_0 : decode cX10_hasSheet 0 = .ok (.iload_n 0, 1) := by decide +kernel
theorem dX10_hasSheet_1 : decode cX10_hasSheet 1 = .ok (.iconst 0, 1) := by decide +kernel
theorem dX10_hasSheet_2 : decode cX10_hasSheet 2 = .ok (.iconst 3, 1) := by decide +kernel
theorem dX10_hasSheet_3 : decode cX10_hasSheet 3 = .ok (.invokestatic 83, 3) := by decide +kernel
theorem dX10_hasSheet_6 : decode cX10_hasSheet 6 = .ok (.ireturn, 1) := by decide +kernel
theorem dX10_within_0 : decode cX10_within 0 = .ok (.iload_n 0, 1) := by decide +kernel
theorem dX10_within_1 : decode cX10_within 1 = .ok (.iload_n 1, 1) := by decide +kernel
theorem dX10_within_2 : decode cX10_within 2 = .ok (.if_icmp .lt 12, 3) := by decide +kernel
theorem dX10_within_5 : decode cX10_within 5 = .ok (.iload_n 0, 1) := by decide +kernel
theorem dX10_within_6 : decode cX10_within 6 = .ok (.iload_n 2, 1) := by decide +kernel
theorem dX10_within_7 : decode cX10_within 7 = .ok (.if_icmp .gt 7, 3) := by decide +kernel
theorem dX10_within_10 : decode cX10_within 10 = .ok (.iconst 1, 1) := by decide +kernel
theorem dX10_within_11 : decode cX10_within 11 = .ok (.goto 4, 3) := by decide +kernel
theorem dX10_within_14 : decode cX10_within 14 = .ok (.iconst 0, 1) := by decide +kernel
theorem dX10_within_15 : decode cX10_within 15 = .ok (.ireturn, 1) := by decide +kernel
theorem dX10_held_0 : decode cX10_held 0 = .ok (.iload_n 1, 1) := by decide +kernel
theorem dX10_held_1 : decode cX10_held 1 = .ok (.iload_n 2, 1) := by decide +kernel
theorem dX10_held_2 : decode cX10_held 2 = .ok (.iload_n 0, 1) := by decide +kernel
theorem dX10_held_3 : decode cX10_held 3 = .ok (.invokestatic 346, 3) := by decide +kernel
theorem dX10_held_6 : decode cX10_held 6 = .ok (.invokestatic 380, 3) := by decide +kernel
theorem dX10_held_9 : decode cX10_held 9 = .ok (.ireturn, 1) := by decide +kernel
theorem dX10_quotient_0 : decode cX10_quotient 0 = .ok (.iload_n 1, 1) := by decide +kernel
theorem dX10_quotient_1 : decode cX10_quotient 1 = .ok (.ifCond .ne 7, 3) := by decide +kernel
theorem dX10_quotient_4 : decode cX10_quotient 4 = .ok (.iconst 0, 1) := by decide +kernel
theorem dX10_quotient_5 : decode cX10_quotient 5 = .ok (.goto 6, 3) := by decide +kernel
theorem dX10_quotient_8 : decode cX10_quotient 8 = .ok (.iload_n 0, 1) := by decide +kernel
theorem dX10_quotient_9 : decode cX10_quotient 9 = .ok (.iload_n 1, 1) := by decide +kernel
theorem dX10_quotient_10 : decode cX10_quotient 10 = .ok (.idiv, 1) := by decide +kernel
theorem dX10_quotient_11 : decode cX10_quotient 11 = .ok (.ireturn, 1) := by decide +kernel
theorem dX10_rest_0 : decode cX10_rest 0 = .ok (.iload_n 1, 1) := by decide +kernel
theorem dX10_rest_1 : decode cX10_rest 1 = .ok (.ifCond .ne 7, 3) := by decide +kernel
theorem dX10_rest_4 : decode cX10_rest 4 = .ok (.iconst 0, 1) := by decide +kernel
theorem dX10_rest_5 : decode cX10_rest 5 = .ok (.goto 6, 3) := by decide +kernel
theorem dX10_rest_8 : decode cX10_rest 8 = .ok (.iload_n 0, 1) := by decide +kernel
theorem dX10_rest_9 : decode cX10_rest 9 = .ok (.iload_n 1, 1) := by decide +kernel
theorem dX10_rest_10 : decode cX10_rest 10 = .ok (.irem, 1) := by decide +kernel
theorem dX10_rest_11 : decode cX10_rest 11 = .ok (.ireturn, 1) := by decide +kernel
end
section
theorem dX11_init_0 : decode cX11_init 0 = .ok (.aload_n 0, 1) := by decide +kernel
theorem dX11_init_1 : decode cX11_init 1 = .ok (.invokespecial 1, 3) := by decide +kernel
theorem dX11_init_4 : decode cX11_init 4 = .ok (.aload_n 0, 1) := by decide +kernel
theorem dX11_init_5 : decode cX11_init 5 = .ok (.sipush 305, 3) := by decide +kernel
theorem dX11_init_8 : decode cX11_init 8 = .ok (.newarray .int, 2) := by decide +kernel
theorem dX11_init_10 : decode cX11_init 10 = .ok (.putfield 7, 3) := by decide +kernel
theorem dX11_init_13 : decode cX11_init 13 = .ok (.aload_n 0, 1) := by decide +kernel
theorem dX11_init_14 : decode cX11_init 14 = .ok (.sipush 305, 3) := by decide +kernel
theorem dX11_init_17 : decode cX11_init 17 = .ok (.newarray .int, 2) := by decide +kernel
theorem dX11_init_19 : decode cX11_init 19 = .ok (.putfield 13, 3) := by decide +kernel
theorem dX11_init_22 : decode cX11_init 22 = .ok (.aload_n 0, 1) := by decide +kernel
theorem dX11_init_23 : decode cX11_init 23 = .ok (.sipush 305, 3) := by decide +kernel
theorem dX11_init_26 : decode cX11_init 26 = .ok (.newarray .int, 2) := by decide +kernel
theorem dX11_init_28 : decode cX11_init 28 = .ok (.putfield 16, 3) := by decide +kernel
theorem dX11_init_31 : decode cX11_init 31 = .ok (.aload_n 0, 1) := by decide +kernel
theorem dX11_init_32 : decode cX11_init 32 = .ok (.sipush 305, 3) := by decide +kernel
theorem dX11_init_35 : decode cX11_init 35 = .ok (.newarray .int, 2) := by decide +kernel
theorem dX11_init_37 : decode cX11_init 37 = .ok (.putfield 19, 3) := by decide +kernel
theorem dX11_init_40 : decode cX11_init 40 = .ok (.aload_n 0, 1) := by decide +kernel
theorem dX11_init_41 : decode cX11_init 41 = .ok (.bipush 6, 2) := by decide +kernel
theorem dX11_init_43 : decode cX11_init 43 = .ok (.newarray .int, 2) := by decide +kernel
theorem dX11_init_45 : decode cX11_init 45 = .ok (.putfield 22, 3) := by decide +kernel
theorem dX11_init_48 : decode cX11_init 48 = .ok (.aload_n 0, 1) := by decide +kernel
theorem dX11_init_49 : decode cX11_init 49 = .ok (.iconst (-1), 1) := by decide +kernel
theorem dX11_init_50 : decode cX11_init 50 = .ok (.putfield 25, 3) := by decide +kernel
theorem dX11_init_53 : decode cX11_init 53 = .ok (.aload_n 0, 1) := by decide +kernel
theorem dX11_init_54 : decode cX11_init 54 = .ok (.iconst (-1), 1) := by decide +kernel
theorem dX11_init_55 : decode cX11_init 55 = .ok (.putfield 29, 3) := by decide +kernel
theorem dX11_init_58 : decode cX11_init 58 = .ok (.aload_n 0, 1) := by decide +kernel
theorem dX11_init_59 : decode cX11_init 59 = .ok (.iconst 3, 1) := by decide +kernel
theorem dX11_init_60 : decode cX11_init 60 = .ok (.newarray .int, 2) := by decide +kernel
theorem dX11_init_62 : decode cX11_init 62 = .ok (.putfield 32, 3) := by decide +kernel
theorem dX11_init_65 : decode cX11_init 65 = .ok (.aload_n 0, 1) := by decide +kernel
theorem dX11_init_66 : decode cX11_init 66 = .ok (.sipush 1220, 3) := by decide +kernel
theorem dX11_init_69 : decode cX11_init 69 = .ok (.newarray .int, 2) := by decide +kernel
theorem dX11_init_71 : decode cX11_init 71 = .ok (.putfield 35, 3) := by decide +kernel
theorem dX11_init_74 : decode cX11_init 74 = .ok (.aload_n 0, 1) := by decide +kernel
theorem dX11_init_75 : decode cX11_init 75 = .ok (.sipush 201, 3) := by decide +kernel
theorem dX11_init_78 : decode cX11_init 78 = .ok (.newarray .int, 2) := by decide +kernel
theorem dX11_init_80 : decode cX11_init 80 = .ok (.putfield 38, 3) := by decide +kernel
theorem dX11_init_83 : decode cX11_init 83 = .ok (.aload_n 0, 1) := by decide +kernel
theorem dX11_init_84 : decode cX11_init 84 = .ok (.sipush 201, 3) := by decide +kernel
theorem dX11_init_87 : decode cX11_init 87 = .ok (.newarray .long, 2) := by decide +kernel
theorem dX11_init_89 : decode cX11_init 89 = .ok (.putfield 41, 3) := by decide +kernel
theorem dX11_init_92 : decode cX11_init 92 = .ok (.aload_n 0, 1) := by decide +kernel
theorem dX11_init_93 : decode cX11_init 93 = .ok (.iconst 5, 1) := by decide +kernel
theorem dX11_init_94 : decode cX11_init 94 = .ok (.newarray .int, 2) := by decide +kernel
theorem dX11_init_96 : decode cX11_init 96 = .ok (.putfield 45, 3) := by decide +kernel
theorem dX11_init_99 : decode cX11_init 99 = .ok (.aload_n 0, 1) := by decide +kernel
theorem dX11_init_100 : decode cX11_init 100 = .ok (.iconst 4, 1) := by decide +kernel
theorem dX11_init_101 : decode cX11_init 101 = .ok (.newarray .int, 2) := by decide +kernel
theorem dX11_init_103 : decode cX11_init 103 = .ok (.putfield 48, 3) := by decide +kernel
theorem dX11_init_106 : decode cX11_init 106 = .ok (.aload_n 0, 1) := by decide +kernel
theorem dX11_init_107 : decode cX11_init 107 = .ok (.iconst 4, 1) := by decide +kernel
theorem dX11_init_108 : decode cX11_init 108 = .ok (.newarray .int, 2) := by decide +kernel
theorem dX11_init_110 : decode cX11_init 110 = .ok (.putfield 51, 3) := by decide +kernel
theorem dX11_init_113 : decode cX11_init 113 = .ok (.aload_n 0, 1) := by decide +kernel
theorem dX11_init_114 : decode cX11_init 114 = .ok (.sipush 160, 3) := by decide +kernel
theorem dX11_init_117 : decode cX11_init 117 = .ok (.newarray .int, 2) := by decide +kernel
theorem dX11_init_119 : decode cX11_init 119 = .ok (.putfield 54, 3) := by decide +kernel
theorem dX11_init_122 : decode cX11_init 122 = .ok (.aload_n 0, 1) := by decide +kernel
theorem dX11_init_123 : decode cX11_init 123 = .ok (.bipush 40, 2) := by decide +kernel
theorem dX11_init_125 : decode cX11_init 125 = .ok (.newarray .int, 2) := by decide +kernel
theorem dX11_init_127 : decode cX11_init 127 = .ok (.putfield 57, 3) := by decide +kernel
theorem dX11_init_130 : decode cX11_init 130 = .ok (.aload_n 0, 1) := by decide +kernel
theorem dX11_init_131 : decode cX11_init 131 = .ok (.bipush 20, 2) := by decide +kernel
theorem dX11_init_133 : decode cX11_init 133 = .ok (.newarray .int, 2) := by decide +kernel
theorem dX11_init_135 : decode cX11_init 135 = .ok (.putfield 60, 3) := by decide +kernel
theorem dX11_init_138 : decode cX11_init 138 = .ok (.aload_n 0, 1) := by decide +kernel
theorem dX11_init_139 : decode cX11_init 139 = .ok (.bipush 40, 2) := by decide +kernel
theorem dX11_init_141 : decode cX11_init 141 = .ok (.newarray .int, 2) := by decide +kernel
theorem dX11_init_143 : decode cX11_init 143 = .ok (.putfield 63, 3) := by decide +kernel
theorem dX11_init_146 : decode cX11_init 146 = .ok (.aload_n 0, 1) := by decide +kernel
theorem dX11_init_147 : decode cX11_init 147 = .ok (.getfield 7, 3) := by decide +kernel
theorem dX11_init_150 : decode cX11_init 150 = .ok (.iconst 0, 1) := by decide +kernel
theorem dX11_init_151 : decode cX11_init 151 = .ok (.iconst 1, 1) := by decide +kernel
theorem dX11_init_152 : decode cX11_init 152 = .ok (.iastore, 1) := by decide +kernel
theorem dX11_init_153 : decode cX11_init 153 = .ok (.aload_n 0, 1) := by decide +kernel
theorem dX11_init_154 : decode cX11_init 154 = .ok (.getfield 7, 3) := by decide +kernel
theorem dX11_init_157 : decode cX11_init 157 = .ok (.iconst 1, 1) := by decide +kernel
theorem dX11_init_158 : decode cX11_init 158 = .ok (.iconst 1, 1) := by decide +kernel
theorem dX11_init_159 : decode cX11_init 159 = .ok (.iastore, 1) := by decide +kernel
theorem dX11_init_160 : decode cX11_init 160 = .ok (.aload_n 0, 1) := by decide +kernel
theorem dX11_init_161 : decode cX11_init 161 = .ok (.getfield 7, 3) := by decide +kernel
theorem dX11_init_164 : decode cX11_init 164 = .ok (.iconst 4, 1) := by decide +kernel
theorem dX11_init_165 : decode cX11_init 165 = .ok (.iconst 1, 1) := by decide +kernel
theorem dX11_init_166 : decode cX11_init 166 = .ok (.iastore, 1) := by decide +kernel
theorem dX11_init_167 : decode cX11_init 167 = .ok (.aload_n 0, 1) := by decide +kernel
theorem dX11_init_168 : decode cX11_init 168 = .ok (.getfield 7, 3) := by decide +kernel
theorem dX11_init_171 : decode cX11_init 171 = .ok (.bipush 7, 2) := by decide +kernel
theorem dX11_init_173 : decode cX11_init 173 = .ok (.iconst (-1), 1) := by decide +kernel
theorem dX11_init_174 : decode cX11_init 174 = .ok (.iastore, 1) := by decide +kernel
theorem dX11_init_175 : decode cX11_init 175 = .ok (.aload_n 0, 1) := by decide +kernel
theorem dX11_init_176 : decode cX11_init 176 = .ok (.getfield 7, 3) := by decide +kernel
theorem dX11_init_179 : decode cX11_init 179 = .ok (.bipush 8, 2) := by decide +kernel
theorem dX11_init_181 : decode cX11_init 181 = .ok (.iconst (-1), 1) := by decide +kernel
theorem dX11_init_182 : decode cX11_init 182 = .ok (.iastore, 1) := by decide +kernel
theorem dX11_init_183 : decode cX11_init 183 = .ok (.return_, 1) := by decide +kernel
theorem dX11_in_0 : decode cX11_in 0 = .ok (.iload_n 0, 1) := by decide +kernel
theorem dX11_in_1 : decode cX11_in 1 = .ok (.iload_n 1, 1) := by decide +kernel
theorem dX11_in_2 : decode cX11_in 2 = .ok (.if_icmp .lt 12, 3) := by decide +kernel
theorem dX11_in_5 : decode cX11_in 5 = .ok (.iload_n 0, 1) := by decide +kernel
theorem dX11_in_6 : decode cX11_in 6 = .ok (.iload_n 2, 1) := by decide +kernel
theorem dX11_in_7 : decode cX11_in 7 = .ok (.if_icmp .gt 7, 3) := by decide +kernel
theorem dX11_in_10 : decode cX11_in 10 = .ok (.iconst 1, 1) := by decide +kernel
theorem dX11_in_11 : decode cX11_in 11 = .ok (.goto 4, 3) := by decide +kernel
theorem dX11_in_14 : decode cX11_in 14 = .ok (.iconst 0, 1) := by decide +kernel
theorem dX11_in_15 : decode cX11_in 15 = .ok (.ireturn, 1) := by decide +kernel
theorem dX11_errs_0 : decode cX11_errs 0 = .ok (.aload_n 0, 1) := by decide +kernel
theorem dX11_errs_1 : decode cX11_errs 1 = .ok (.getfield 22, 3) := by decide +kernel
theorem dX11_errs_4 : decode cX11_errs 4 = .ok (.ldc 66, 2) := by decide +kernel
theorem dX11_errs_6 : decode cX11_errs 6 = .ok (.iload_n 1, 1) := by decide +kernel
theorem dX11_errs_7 : decode cX11_errs 7 = .ok (.isub, 1) := by decide +kernel
theorem dX11_errs_8 : decode cX11_errs 8 = .ok (.dup2, 1) := by decide +kernel
theorem dX11_errs_9 : decode cX11_errs 9 = .ok (.iaload, 1) := by decide +kernel
theorem dX11_errs_10 : decode cX11_errs 10 = .ok (.iconst 1, 1) := by decide +kernel
theorem dX11_errs_11 : decode cX11_errs 11 = .ok (.iadd, 1) := by decide +kernel
theorem dX11_errs_12 : decode cX11_errs 12 = .ok (.iastore, 1) := by decide +kernel
theorem dX11_errs_13 : decode cX11_errs 13 = .ok (.iload_n 1, 1) := by decide +kernel
theorem dX11_errs_14 : decode cX11_errs 14 = .ok (.ireturn, 1) := by decide +kernel
theorem dX11_held_0 : decode cX11_held 0 = .ok (.iload_n 0, 1) := by decide +kernel
theorem dX11_held_1 : decode cX11_held 1 = .ok (.iload_n 1, 1) := by decide +kernel
theorem dX11_held_2 : decode cX11_held 2 = .ok (.if_icmp .ge 7, 3) := by decide +kernel
theorem dX11_held_5 : decode cX11_held 5 = .ok (.iload_n 1, 1) := by decide +kernel
theorem dX11_held_6 : decode cX11_held 6 = .ok (.goto 13, 3) := by decide +kernel
theorem dX11_held_9 : decode cX11_held 9 = .ok (.iload_n 0, 1) := by decide +kernel
theorem dX11_held_10 : decode cX11_held 10 = .ok (.iload_n 2, 1) := by decide +kernel
theorem dX11_held_11 : decode cX11_held 11 = .ok (.if_icmp .le 7, 3) := by decide +kernel
theorem dX11_held_14 : decode cX11_held 14 = .ok (.iload_n 2, 1) := by decide +kernel
theorem dX11_held_15 : decode cX11_held 15 = .ok (.goto 4, 3) := by decide +kernel
theorem dX11_held_18 : decode cX11_held 18 = .ok (.iload_n 0, 1) := by decide +kernel
theorem dX11_held_19 : decode cX11_held 19 = .ok (.ireturn, 1) := by decide +kernel
theorem dX11_moveAll_0 : decode cX11_moveAll 0 = .ok (.iconst 0, 1) := by decide +kernel
theorem dX11_moveAll_1 : decode cX11_moveAll 1 = .ok (.istore_n 3, 1) := by decide +kernel
theorem dX11_moveAll_2 : decode cX11_moveAll 2 = .ok (.iload_n 3, 1) := by decide +kernel
theorem dX11_moveAll_3 : decode cX11_moveAll 3 = .ok (.sipush 305, 3) := by decide +kernel
theorem dX11_moveAll_6 : decode cX11_moveAll 6 = .ok (.if_icmp .ge 15, 3) := by decide +kernel
theorem dX11_moveAll_9 : decode cX11_moveAll 9 = .ok (.aload_n 2, 1) := by decide +kernel
theorem dX11_moveAll_10 : decode cX11_moveAll 10 = .ok (.iload_n 3, 1) := by decide +kernel
theorem dX11_moveAll_11 : decode cX11_moveAll 11 = .ok (.aload_n 1, 1) := by decide +kernel
theorem dX11_moveAll_12 : decode cX11_moveAll 12 = .ok (.iload_n 3, 1) := by decide +kernel
theorem dX11_moveAll_13 : decode cX11_moveAll 13 = .ok (.iaload, 1) := by decide +kernel
theorem dX11_moveAll_14 : decode cX11_moveAll 14 = .ok (.iastore, 1) := by decide +kernel
theorem dX11_moveAll_15 : decode cX11_moveAll 15 = .ok (.iinc 3 1, 3) := by decide +kernel
theorem dX11_moveAll_18 : decode cX11_moveAll 18 = .ok (.goto (-16), 3) := by decide +kernel
theorem dX11_moveAll_21 : decode cX11_moveAll 21 = .ok (.return_, 1) := by decide +kernel
theorem dX11_many_0 : decode cX11_many 0 = .ok (.aload_n 0, 1) := by decide +kernel
theorem dX11_many_1 : decode cX11_many 1 = .ok (.getfield 7, 3) := by decide +kernel
theorem dX11_many_4 : decode cX11_many 4 = .ok (.iconst 0, 1) := by decide +kernel
theorem dX11_many_5 : decode cX11_many 5 = .ok (.iaload, 1) := by decide +kernel
theorem dX11_many_6 : decode cX11_many 6 = .ok (.aload_n 0, 1) := by decide +kernel
theorem dX11_many_7 : decode cX11_many 7 = .ok (.getfield 7, 3) := by decide +kernel
theorem dX11_many_10 : decode cX11_many 10 = .ok (.iconst 1, 1) := by decide +kernel
theorem dX11_many_11 : decode cX11_many 11 = .ok (.iaload, 1) := by decide +kernel
theorem dX11_many_12 : decode cX11_many 12 = .ok (.imul, 1) := by decide +kernel
theorem dX11_many_13 : decode cX11_many 13 = .ok (.ireturn, 1) := by decide +kernel
theorem dX11_windows_0 : decode cX11_windows 0 = .ok (.iconst 2, 1) := by decide +kernel
theorem dX11_windows_1 : decode cX11_windows 1 = .ok (.aload_n 0, 1) := by decide +kernel
theorem dX11_windows_2 : decode cX11_windows 2 = .ok (.getfield 7, 3) := by decide +kernel
theorem dX11_windows_5 : decode cX11_windows 5 = .ok (.iconst 0, 1) := by decide +kernel
theorem dX11_windows_6 : decode cX11_windows 6 = .ok (.iaload, 1) := by decide +kernel
theorem dX11_windows_7 : decode cX11_windows 7 = .ok (.aload_n 0, 1) := by decide +kernel
theorem dX11_windows_8 : decode cX11_windows 8 = .ok (.getfield 7, 3) := by decide +kernel
theorem dX11_windows_11 : decode cX11_windows 11 = .ok (.iconst 1, 1) := by decide +kernel
theorem dX11_windows_12 : decode cX11_windows 12 = .ok (.iaload, 1) := by decide +kernel
theorem dX11_windows_13 : decode cX11_windows 13 = .ok (.iadd, 1) := by decide +kernel
theorem dX11_windows_14 : decode cX11_windows 14 = .ok (.imul, 1) := by decide +kernel
theorem dX11_windows_15 : decode cX11_windows 15 = .ok (.ireturn, 1) := by decide +kernel
theorem dX11_isSquare_0 : decode cX11_isSquare 0 = .ok (.iload_n 1, 1) := by decide +kernel
theorem dX11_isSquare_1 : decode cX11_isSquare 1 = .ok (.iconst 0, 1) := by decide +kernel
theorem dX11_isSquare_2 : decode cX11_isSquare 2 = .ok (.aload_n 0, 1) := by decide +kernel
theorem dX11_isSquare_3 : decode cX11_isSquare 3 = .ok (.invokevirtual 67, 3) := by decide +kernel
theorem dX11_isSquare_6 : decode cX11_isSquare 6 = .ok (.iconst 1, 1) := by decide +kernel
theorem dX11_isSquare_7 : decode cX11_isSquare 7 = .ok (.isub, 1) := by decide +kernel
theorem dX11_isSquare_8 : decode cX11_isSquare 8 = .ok (.invokestatic 71, 3) := by decide +kernel
theorem dX11_isSquare_11 : decode cX11_isSquare 11 = .ok (.ireturn, 1) := by decide +kernel
theorem dX11_isWindow_0 : decode cX11_isWindow 0 = .ok (.iload_n 1, 1) := by decide +kernel
theorem dX11_isWindow_1 : decode cX11_isWindow 1 = .ok (.iconst 0, 1) := by decide +kernel
theorem dX11_isWindow_2 : decode cX11_isWindow 2 = .ok (.aload_n 0, 1) := by decide +kernel
theorem dX11_isWindow_3 : decode cX11_isWindow 3 = .ok (.invokevirtual 75, 3) := by decide +kernel
theorem dX11_isWindow_6 : decode cX11_isWindow 6 = .ok (.iconst 1, 1) := by decide +kernel
theorem dX11_isWindow_7 : decode cX11_isWindow 7 = .ok (.isub, 1) := by decide +kernel
theorem dX11_isWindow_8 : decode cX11_isWindow 8 = .ok (.invokestatic 71, 3) := by decide +kernel
theorem dX11_isWindow_11 : decode cX11_isWindow 11 = .ok (.ireturn, 1) := by decide +kernel
theorem dX11_its_0 : decode cX11_its 0 = .ok (.aload_n 0, 1) := by decide +kernel
theorem dX11_its_1 : decode cX11_its 1 = .ok (.getfield 7, 3) := by decide +kernel
theorem dX11_its_4 : decode cX11_its 4 = .ok (.bipush 10, 2) := by decide +kernel
theorem dX11_its_6 : decode cX11_its 6 = .ok (.iconst 5, 1) := by decide +kernel
theorem dX11_its_7 : decode cX11_its 7 = .ok (.iload_n 1, 1) := by decide +kernel
theorem dX11_its_8 : decode cX11_its 8 = .ok (.imul, 1) := by decide +kernel
theorem dX11_its_9 : decode cX11_its 9 = .ok (.iadd, 1) := by decide +kernel
theorem dX11_its_10 : decode cX11_its 10 = .ok (.iload_n 2, 1) := by decide +kernel
theorem dX11_its_11 : decode cX11_its 11 = .ok (.iadd, 1) := by decide +kernel
theorem dX11_its_12 : decode cX11_its 12 = .ok (.iaload, 1) := by decide +kernel
theorem dX11_its_13 : decode cX11_its 13 = .ok (.ireturn, 1) := by decide +kernel
theorem dX11_puts_0 : decode cX11_puts 0 = .ok (.aload_n 0, 1) := by decide +kernel
theorem dX11_puts_1 : decode cX11_puts 1 = .ok (.getfield 7, 3) := by decide +kernel
theorem dX11_puts_4 : decode cX11_puts 4 = .ok (.bipush 10, 2) := by decide +kernel
theorem dX11_puts_6 : decode cX11_puts 6 = .ok (.iconst 5, 1) := by decide +kernel
theorem dX11_puts_7 : decode cX11_puts 7 = .ok (.iload_n 1, 1) := by decide +kernel
theorem dX11_puts_8 : decode cX11_puts 8 = .ok (.imul, 1) := by decide +kernel
theorem dX11_puts_9 : decode cX11_puts 9 = .ok (.iadd, 1) := by decide +kernel
theorem dX11_puts_10 : decode cX11_puts 10 = .ok (.iload_n 2, 1) := by decide +kernel
theorem dX11_puts_11 : decode cX11_puts 11 = .ok (.iadd, 1) := by decide +kernel
theorem dX11_puts_12 : decode cX11_puts 12 = .ok (.iload_n 3, 1) := by decide +kernel
theorem dX11_puts_13 : decode cX11_puts 13 = .ok (.iastore, 1) := by decide +kernel
theorem dX11_puts_14 : decode cX11_puts 14 = .ok (.return_, 1) := by decide +kernel
theorem dX11_hall_0 : decode cX11_hall 0 = .ok (.iload_n 1, 1) := by decide +kernel
theorem dX11_hall_1 : decode cX11_hall 1 = .ok (.iconst 1, 1) := by decide +kernel
theorem dX11_hall_2 : decode cX11_hall 2 = .ok (.iconst 5, 1) := by decide +kernel
theorem dX11_hall_3 : decode cX11_hall 3 = .ok (.invokestatic 71, 3) := by decide +kernel
theorem dX11_hall_6 : decode cX11_hall 6 = .ok (.ifCond .eq 12, 3) := by decide +kernel
theorem dX11_hall_9 : decode cX11_hall 9 = .ok (.iload_n 2, 1) := by decide +kernel
theorem dX11_hall_10 : decode cX11_hall 10 = .ok (.iconst 1, 1) := by decide +kernel
theorem dX11_hall_11 : decode cX11_hall 11 = .ok (.iconst 5, 1) := by decide +kernel
theorem dX11_hall_12 : decode cX11_hall 12 = .ok (.invokestatic 71, 3) := by decide +kernel
theorem dX11_hall_15 : decode cX11_hall 15 = .ok (.ifCond .ne 10, 3) := by decide +kernel
theorem dX11_hall_18 : decode cX11_hall 18 = .ok (.aload_n 0, 1) := by decide +kernel
theorem dX11_hall_19 : decode cX11_hall 19 = .ok (.ldc 78, 2) := by decide +kernel
theorem dX11_hall_21 : decode cX11_hall 21 = .ok (.invokevirtual 79, 3) := by decide +kernel
theorem dX11_hall_24 : decode cX11_hall 24 = .ok (.ireturn, 1) := by decide +kernel
theorem dX11_hall_25 : decode cX11_hall 25 = .ok (.aload_n 0, 1) := by decide +kernel
theorem dX11_hall_26 : decode cX11_hall 26 = .ok (.getfield 7, 3) := by decide +kernel
theorem dX11_hall_29 : decode cX11_hall 29 = .ok (.iconst 0, 1) := by decide +kernel
theorem dX11_hall_30 : decode cX11_hall 30 = .ok (.iload_n 1, 1) := by decide +kernel
theorem dX11_hall_31 : decode cX11_hall 31 = .ok (.iastore, 1) := by decide +kernel
theorem dX11_hall_32 : decode cX11_hall 32 = .ok (.aload_n 0, 1) := by decide +kernel
theorem dX11_hall_33 : decode cX11_hall 33 = .ok (.getfield 7, 3) := by decide +kernel
theorem dX11_hall_36 : decode cX11_hall 36 = .ok (.iconst 1, 1) := by decide +kernel
theorem dX11_hall_37 : decode cX11_hall 37 = .ok (.iload_n 2, 1) := by decide +kernel
theorem dX11_hall_38 : decode cX11_hall 38 = .ok (.iastore, 1) := by decide +kernel
theorem dX11_hall_39 : decode cX11_hall 39 = .ok (.bipush 10, 2) := by decide +kernel
theorem dX11_hall_41 : decode cX11_hall 41 = .ok (.istore_n 3, 1) := by decide +kernel
theorem dX11_hall_42 : decode cX11_hall 42 = .ok (.iload_n 3, 1) := by decide +kernel
theorem dX11_hall_43 : decode cX11_hall 43 = .ok (.sipush 135, 3) := by decide +kernel
theorem dX11_hall_46 : decode cX11_hall 46 = .ok (.if_icmp .ge 16, 3) := by decide +kernel
theorem dX11_hall_49 : decode cX11_hall 49 = .ok (.aload_n 0, 1) := by decide +kernel
theorem dX11_hall_50 : decode cX11_hall 50 = .ok (.getfield 7, 3) := by decide +kernel
theorem dX11_hall_53 : decode cX11_hall 53 = .ok (.iload_n 3, 1) := by decide +kernel
theorem dX11_hall_54 : decode cX11_hall 54 = .ok (.iconst 0, 1) := by decide +kernel
theorem dX11_hall_55 : decode cX11_hall 55 = .ok (.iastore, 1) := by decide +kernel
theorem dX11_hall_56 : decode cX11_hall 56 = .ok (.iinc 3 1, 3) := by decide +kernel
theorem dX11_hall_59 : decode cX11_hall 59 = .ok (.goto (-17), 3) := by decide +kernel
theorem dX11_hall_62 : decode cX11_hall 62 = .ok (.aload_n 0, 1) := by decide +kernel
theorem dX11_hall_63 : decode cX11_hall 63 = .ok (.invokevirtual 75, 3) := by decide +kernel
theorem dX11_hall_66 : decode cX11_hall 66 = .ok (.ireturn, 1) := by decide +kernel
theorem dX11_square_0 : decode cX11_square 0 = .ok (.aload_n 0, 1) := by decide +kernel
theorem dX11_square_1 : decode cX11_square 1 = .ok (.iload_n 1, 1) := by decide +kernel
theorem dX11_square_2 : decode cX11_square 2 = .ok (.invokevirtual 83, 3) := by decide +kernel
theorem dX11_square_5 : decode cX11_square 5 = .ok (.ifCond .eq 22, 3) := by decide +kernel
theorem dX11_square_8 : decode cX11_square 8 = .ok (.iload_n 2, 1) := by decide +kernel
theorem dX11_square_9 : decode cX11_square 9 = .ok (.iconst 0, 1) := by decide +kernel
theorem dX11_square_10 : decode cX11_square 10 = .ok (.bipush 69, 2) := by decide +kernel
theorem dX11_square_12 : decode cX11_square 12 = .ok (.invokestatic 71, 3) := by decide +kernel
theorem dX11_square_15 : decode cX11_square 15 = .ok (.ifCond .eq 12, 3) := by decide +kernel
theorem dX11_square_18 : decode cX11_square 18 = .ok (.iload_n 3, 1) := by decide +kernel
theorem dX11_square_19 : decode cX11_square 19 = .ok (.iconst 0, 1) := by decide +kernel
theorem dX11_square_20 : decode cX11_square 20 = .ok (.iconst 1, 1) := by decide +kernel
theorem dX11_square_21 : decode cX11_square 21 = .ok (.invokestatic 71, 3) := by decide +kernel
theorem dX11_square_24 : decode cX11_square 24 = .ok (.ifCond .ne 10, 3) := by decide +kernel
theorem dX11_square_27 : decode cX11_square 27 = .ok (.aload_n 0, 1) := by decide +kernel
theorem dX11_square_28 : decode cX11_square 28 = .ok (.ldc 78, 2) := by decide +kernel
theorem dX11_square_30 : decode cX11_square 30 = .ok (.invokevirtual 79, 3) := by decide +kernel
theorem dX11_square_33 : decode cX11_square 33 = .ok (.ireturn, 1) := by decide +kernel
theorem dX11_square_34 : decode cX11_square 34 = .ok (.aload_n 0, 1) := by decide +kernel
theorem dX11_square_35 : decode cX11_square 35 = .ok (.iload_n 1, 1) := by decide +kernel
theorem dX11_square_36 : decode cX11_square 36 = .ok (.iconst 0, 1) := by decide +kernel
theorem dX11_square_37 : decode cX11_square 37 = .ok (.invokevirtual 87, 3) := by decide +kernel
theorem dX11_square_40 : decode cX11_square 40 = .ok (.istore 4, 2) := by decide +kernel
theorem dX11_square_42 : decode cX11_square 42 = .ok (.aload_n 0, 1) := by decide +kernel
theorem dX11_square_43 : decode cX11_square 43 = .ok (.iload_n 1, 1) := by decide +kernel
theorem dX11_square_44 : decode cX11_square 44 = .ok (.iconst 0, 1) := by decide +kernel
theorem dX11_square_45 : decode cX11_square 45 = .ok (.iload_n 2, 1) := by decide +kernel
theorem dX11_square_46 : decode cX11_square 46 = .ok (.bipush 10, 2) := by decide +kernel
theorem dX11_square_48 : decode cX11_square 48 = .ok (.idiv, 1) := by decide +kernel
theorem dX11_square_49 : decode cX11_square 49 = .ok (.invokevirtual 91, 3) := by decide +kernel
theorem dX11_square_52 : decode cX11_square 52 = .ok (.aload_n 0, 1) := by decide +kernel
theorem dX11_square_53 : decode cX11_square 53 = .ok (.iload_n 1, 1) := by decide +kernel
theorem dX11_square_54 : decode cX11_square 54 = .ok (.iconst 1, 1) := by decide +kernel
theorem dX11_square_55 : decode cX11_square 55 = .ok (.iload_n 2, 1) := by decide +kernel
theorem dX11_square_56 : decode cX11_square 56 = .ok (.bipush 10, 2) := by decide +kernel
theorem dX11_square_58 : decode cX11_square 58 = .ok (.irem, 1) := by decide +kernel
theorem dX11_square_59 : decode cX11_square 59 = .ok (.invokevirtual 91, 3) := by decide +kernel
theorem dX11_square_62 : decode cX11_square 62 = .ok (.aload_n 0, 1) := by decide +kernel
theorem dX11_square_63 : decode cX11_square 63 = .ok (.iload_n 1, 1) := by decide +kernel
theorem dX11_square_64 : decode cX11_square 64 = .ok (.iconst 2, 1) := by decide +kernel
theorem dX11_square_65 : decode cX11_square 65 = .ok (.iload_n 3, 1) := by decide +kernel
theorem dX11_square_66 : decode cX11_square 66 = .ok (.invokevirtual 91, 3) := by decide +kernel
theorem dX11_square_69 : decode cX11_square 69 = .ok (.aload_n 0, 1) := by decide +kernel
theorem dX11_square_70 : decode cX11_square 70 = .ok (.iload_n 1, 1) := by decide +kernel
theorem dX11_square_71 : decode cX11_square 71 = .ok (.iconst 3, 1) := by decide +kernel
theorem dX11_square_72 : decode cX11_square 72 = .ok (.iconst 0, 1) := by decide +kernel
theorem dX11_square_73 : decode cX11_square 73 = .ok (.invokevirtual 91, 3) := by decide +kernel
theorem dX11_square_76 : decode cX11_square 76 = .ok (.iload 4, 2) := by decide +kernel
theorem dX11_square_78 : decode cX11_square 78 = .ok (.ireturn, 1) := by decide +kernel
theorem dX11_doesThrow_0 : decode cX11_doesThrow 0 = .ok (.aload_n 0, 1) := by decide +kernel
theorem dX11_doesThrow_1 : decode cX11_doesThrow 1 = .ok (.iload_n 1, 1) := by decide +kernel
theorem dX11_doesThrow_2 : decode cX11_doesThrow 2 = .ok (.iconst 0, 1) := by decide +kernel
theorem dX11_doesThrow_3 : decode cX11_doesThrow 3 = .ok (.invokevirtual 87, 3) := by decide +kernel
theorem dX11_doesThrow_6 : decode cX11_doesThrow 6 = .ok (.istore_n 2, 1) := by decide +kernel
theorem dX11_doesThrow_7 : decode cX11_doesThrow 7 = .ok (.iload_n 2, 1) := by decide +kernel
theorem dX11_doesThrow_8 : decode cX11_doesThrow 8 = .ok (.iconst 1, 1) := by decide +kernel
theorem dX11_doesThrow_9 : decode cX11_doesThrow 9 = .ok (.if_icmp .eq 13, 3) := by decide +kernel
theorem dX11_doesThrow_12 : decode cX11_doesThrow 12 = .ok (.iload_n 2, 1) := by decide +kernel
theorem dX11_doesThrow_13 : decode cX11_doesThrow 13 = .ok (.iconst 4, 1) := by decide +kernel
theorem dX11_doesThrow_14 : decode cX11_doesThrow 14 = .ok (.if_icmp .eq 8, 3) := by decide +kernel
theorem dX11_doesThrow_17 : decode cX11_doesThrow 17 = .ok (.iload_n 2, 1) := by decide +kernel
theorem dX11_doesThrow_18 : decode cX11_doesThrow 18 = .ok (.iconst 5, 1) := by decide +kernel
theorem dX11_doesThrow_19 : decode cX11_doesThrow 19 = .ok (.if_icmp .ne 7, 3) := by decide +kernel
theorem dX11_doesThrow_22 : decode cX11_doesThrow 22 = .ok (.iconst 1, 1) := by decide +kernel
theorem dX11_doesThrow_23 : decode cX11_doesThrow 23 = .ok (.goto 4, 3) := by decide +kernel
theorem dX11_doesThrow_26 : decode cX11_doesThrow 26 = .ok (.iconst 0, 1) := by decide +kernel
theorem dX11_doesThrow_27 : decode cX11_doesThrow 27 = .ok (.ireturn, 1) := by decide +kernel
theorem dX11_doesStop_0 : decode cX11_doesStop 0 = .ok (.aload_n 0, 1) := by decide +kernel
theorem dX11_doesStop_1 : decode cX11_doesStop 1 = .ok (.iload_n 1, 1) := by decide +kernel
theorem dX11_doesStop_2 : decode cX11_doesStop 2 = .ok (.iconst 0, 1) := by decide +kernel
theorem dX11_doesStop_3 : decode cX11_doesStop 3 = .ok (.invokevirtual 87, 3) := by decide +kernel
theorem dX11_doesStop_6 : decode cX11_doesStop 6 = .ok (.istore_n 2, 1) := by decide +kernel
theorem dX11_doesStop_7 : decode cX11_doesStop 7 = .ok (.iload_n 2, 1) := by decide +kernel
theorem dX11_doesStop_8 : decode cX11_doesStop 8 = .ok (.iconst 3, 1) := by decide +kernel
theorem dX11_doesStop_9 : decode cX11_doesStop 9 = .ok (.if_icmp .eq 9, 3) := by decide +kernel
theorem dX11_doesStop_12 : decode cX11_doesStop 12 = .ok (.iload_n 2, 1) := by decide +kernel
theorem dX11_doesStop_13 : decode cX11_doesStop 13 = .ok (.bipush 6, 2) := by decide +kernel
theorem dX11_doesStop_15 : decode cX11_doesStop 15 = .ok (.if_icmp .ne 7, 3) := by decide +kernel
theorem dX11_doesStop_18 : decode cX11_doesStop 18 = .ok (.iconst 1, 1) := by decide +kernel
theorem dX11_doesStop_19 : decode cX11_doesStop 19 = .ok (.goto 4, 3) := by decide +kernel
theorem dX11_doesStop_22 : decode cX11_doesStop 22 = .ok (.iconst 0, 1) := by decide +kernel
theorem dX11_doesStop_23 : decode cX11_doesStop 23 = .ok (.ireturn, 1) := by decide +kernel
theorem dX11_canTurn_0 : decode cX11_canTurn 0 = .ok (.aload_n 0, 1) := by decide +kernel
theorem dX11_canTurn_1 : decode cX11_canTurn 1 = .ok (.iload_n 1, 1) := by decide +kernel
theorem dX11_canTurn_2 : decode cX11_canTurn 2 = .ok (.iconst 0, 1) := by decide +kernel
theorem dX11_canTurn_3 : decode cX11_canTurn 3 = .ok (.invokevirtual 87, 3) := by decide +kernel
theorem dX11_canTurn_6 : decode cX11_canTurn 6 = .ok (.istore_n 2, 1) := by decide +kernel
theorem dX11_canTurn_7 : decode cX11_canTurn 7 = .ok (.iload_n 2, 1) := by decide +kernel
theorem dX11_canTurn_8 : decode cX11_canTurn 8 = .ok (.iconst 1, 1) := by decide +kernel
theorem dX11_canTurn_9 : decode cX11_canTurn 9 = .ok (.if_icmp .eq 8, 3) := by decide +kernel
theorem dX11_canTurn_12 : decode cX11_canTurn 12 = .ok (.iload_n 2, 1) := by decide +kernel
theorem dX11_canTurn_13 : decode cX11_canTurn 13 = .ok (.iconst 5, 1) := by decide +kernel
theorem dX11_canTurn_14 : decode cX11_canTurn 14 = .ok (.if_icmp .ne 7, 3) := by decide +kernel
theorem dX11_canTurn_17 : decode cX11_canTurn 17 = .ok (.iconst 1, 1) := by decide +kernel
theorem dX11_canTurn_18 : decode cX11_canTurn 18 = .ok (.goto 4, 3) := by decide +kernel
theorem dX11_canTurn_21 : decode cX11_canTurn 21 = .ok (.iconst 0, 1) := by decide +kernel
theorem dX11_canTurn_22 : decode cX11_canTurn 22 = .ok (.ireturn, 1) := by decide +kernel
theorem dX11_costOf_0 : decode cX11_costOf 0 = .ok (.aload_n 0, 1) := by decide +kernel
theorem dX11_costOf_1 : decode cX11_costOf 1 = .ok (.iconst 0, 1) := by decide +kernel
theorem dX11_costOf_2 : decode cX11_costOf 2 = .ok (.iload_n 1, 1) := by decide +kernel
theorem dX11_costOf_3 : decode cX11_costOf 3 = .ok (.aload_n 0, 1) := by decide +kernel
theorem dX11_costOf_4 : decode cX11_costOf 4 = .ok (.getfield 7, 3) := by decide +kernel
theorem dX11_costOf_7 : decode cX11_costOf 7 = .ok (.iconst 1, 1) := by decide +kernel
theorem dX11_costOf_8 : decode cX11_costOf 8 = .ok (.iaload, 1) := by decide +kernel
theorem dX11_costOf_9 : decode cX11_costOf 9 = .ok (.idiv, 1) := by decide +kernel
theorem dX11_costOf_10 : decode cX11_costOf 10 = .ok (.iload_n 1, 1) := by decide +kernel
theorem dX11_costOf_11 : decode cX11_costOf 11 = .ok (.aload_n 0, 1) := by decide +kernel
theorem dX11_costOf_12 : decode cX11_costOf 12 = .ok (.getfield 7, 3) := by decide +kernel
theorem dX11_costOf_15 : decode cX11_costOf 15 = .ok (.iconst 1, 1) := by decide +kernel
theorem dX11_costOf_16 : decode cX11_costOf 16 = .ok (.iaload, 1) := by decide +kernel
theorem dX11_costOf_17 : decode cX11_costOf 17 = .ok (.irem, 1) := by decide +kernel
theorem dX11_costOf_18 : decode cX11_costOf 18 = .ok (.aload_n 0, 1) := by decide +kernel
theorem dX11_costOf_19 : decode cX11_costOf 19 = .ok (.iload_n 1, 1) := by decide +kernel
theorem dX11_costOf_20 : decode cX11_costOf 20 = .ok (.iconst 1, 1) := by decide +kernel
theorem dX11_costOf_21 : decode cX11_costOf 21 = .ok (.invokevirtual 87, 3) := by decide +kernel
theorem dX11_costOf_24 : decode cX11_costOf 24 = .ok (.invokevirtual 95, 3) := by decide +kernel
theorem dX11_costOf_27 : decode cX11_costOf 27 = .ok (.ireturn, 1) := by decide +kernel
theorem dX11_ofSquare_0 : decode cX11_ofSquare 0 = .ok (.aload_n 0, 1) := by decide +kernel
theorem dX11_ofSquare_1 : decode cX11_ofSquare 1 = .ok (.iload_n 1, 1) := by decide +kernel
theorem dX11_ofSquare_2 : decode cX11_ofSquare 2 = .ok (.invokevirtual 83, 3) := by decide +kernel
theorem dX11_ofSquare_5 : decode cX11_ofSquare 5 = .ok (.ifCond .eq 13, 3) := by decide +kernel
theorem dX11_ofSquare_8 : decode cX11_ofSquare 8 = .ok (.iload_n 2, 1) := by decide +kernel
theorem dX11_ofSquare_9 : decode cX11_ofSquare 9 = .ok (.iconst 0, 1) := by decide +kernel
theorem dX11_ofSquare_10 : decode cX11_ofSquare 10 = .ok (.bipush 7, 2) := by decide +kernel
theorem dX11_ofSquare_12 : decode cX11_ofSquare 12 = .ok (.invokestatic 71, 3) := by decide +kernel
theorem dX11_ofSquare_15 : decode cX11_ofSquare 15 = .ok (.ifCond .ne 10, 3) := by decide +kernel
theorem dX11_ofSquare_18 : decode cX11_ofSquare 18 = .ok (.aload_n 0, 1) := by decide +kernel
theorem dX11_ofSquare_19 : decode cX11_ofSquare 19 = .ok (.ldc 78, 2) := by decide +kernel
theorem dX11_ofSquare_21 : decode cX11_ofSquare 21 = .ok (.invokevirtual 79, 3) := by decide +kernel
theorem dX11_ofSquare_24 : decode cX11_ofSquare 24 = .ok (.ireturn, 1) := by decide +kernel
theorem dX11_ofSquare_25 : decode cX11_ofSquare 25 = .ok (.iload_n 2, 1) := by decide +kernel
theorem dX11_ofSquare_26 : decode cX11_ofSquare 26 = .ok (.tableswitch 72 5 7 #[26, 44, 58], 26) := by decide +kernel
theorem dX11_ofSquare_52 : decode cX11_ofSquare 52 = .ok (.aload_n 0, 1) := by decide +kernel
theorem dX11_ofSquare_53 : decode cX11_ofSquare 53 = .ok (.iload_n 1, 1) := by decide +kernel
theorem dX11_ofSquare_54 : decode cX11_ofSquare 54 = .ok (.invokevirtual 99, 3) := by decide +kernel
theorem dX11_ofSquare_57 : decode cX11_ofSquare 57 = .ok (.ifCond .eq 11, 3) := by decide +kernel
theorem dX11_ofSquare_60 : decode cX11_ofSquare 60 = .ok (.aload_n 0, 1) := by decide +kernel
theorem dX11_ofSquare_61 : decode cX11_ofSquare 61 = .ok (.iload_n 1, 1) := by decide +kernel
theorem dX11_ofSquare_62 : decode cX11_ofSquare 62 = .ok (.invokevirtual 102, 3) := by decide +kernel
theorem dX11_ofSquare_65 : decode cX11_ofSquare 65 = .ok (.goto 4, 3) := by decide +kernel
theorem dX11_ofSquare_68 : decode cX11_ofSquare 68 = .ok (.iconst (-1), 1) := by decide +kernel
theorem dX11_ofSquare_69 : decode cX11_ofSquare 69 = .ok (.ireturn, 1) := by decide +kernel
theorem dX11_ofSquare_70 : decode cX11_ofSquare 70 = .ok (.aload_n 0, 1) := by decide +kernel
theorem dX11_ofSquare_71 : decode cX11_ofSquare 71 = .ok (.iload_n 1, 1) := by decide +kernel
theorem dX11_ofSquare_72 : decode cX11_ofSquare 72 = .ok (.invokevirtual 105, 3) := by decide +kernel
theorem dX11_ofSquare_75 : decode cX11_ofSquare 75 = .ok (.ifCond .eq 7, 3) := by decide +kernel
theorem dX11_ofSquare_78 : decode cX11_ofSquare 78 = .ok (.iconst 1, 1) := by decide +kernel
theorem dX11_ofSquare_79 : decode cX11_ofSquare 79 = .ok (.goto 4, 3) := by decide +kernel
theorem dX11_ofSquare_82 : decode cX11_ofSquare 82 = .ok (.iconst 0, 1) := by decide +kernel
theorem dX11_ofSquare_83 : decode cX11_ofSquare 83 = .ok (.ireturn, 1) := by decide +kernel
theorem dX11_ofSquare_84 : decode cX11_ofSquare 84 = .ok (.aload_n 0, 1) := by decide +kernel
theorem dX11_ofSquare_85 : decode cX11_ofSquare 85 = .ok (.iload_n 1, 1) := by decide +kernel
theorem dX11_ofSquare_86 : decode cX11_ofSquare 86 = .ok (.invokevirtual 108, 3) := by decide +kernel
theorem dX11_ofSquare_89 : decode cX11_ofSquare 89 = .ok (.ifCond .eq 7, 3) := by decide +kernel
theorem dX11_ofSquare_92 : decode cX11_ofSquare 92 = .ok (.iconst 1, 1) := by decide +kernel
theorem dX11_ofSquare_93 : decode cX11_ofSquare 93 = .ok (.goto 4, 3) := by decide +kernel
theorem dX11_ofSquare_96 : decode cX11_ofSquare 96 = .ok (.iconst 0, 1) := by decide +kernel
theorem dX11_ofSquare_97 : decode cX11_ofSquare 97 = .ok (.ireturn, 1) := by decide +kernel
theorem dX11_ofSquare_98 : decode cX11_ofSquare 98 = .ok (.aload_n 0, 1) := by decide +kernel
theorem dX11_ofSquare_99 : decode cX11_ofSquare 99 = .ok (.iload_n 1, 1) := by decide +kernel
theorem dX11_ofSquare_100 : decode cX11_ofSquare 100 = .ok (.iload_n 2, 1) := by decide +kernel
theorem dX11_ofSquare_101 : decode cX11_ofSquare 101 = .ok (.invokevirtual 87, 3) := by decide +kernel
theorem dX11_ofSquare_104 : decode cX11_ofSquare 104 = .ok (.ireturn, 1) := by decide +kernel
theorem dX11_above_0 : decode cX11_above 0 = .ok (.iload_n 0, 1) := by decide +kernel
theorem dX11_above_1 : decode cX11_above 1 = .ok (.ifCond .ne 7, 3) := by decide +kernel
theorem dX11_above_4 : decode cX11_above 4 = .ok (.iconst (-1), 1) := by decide +kernel
theorem dX11_above_5 : decode cX11_above 5 = .ok (.goto 28, 3) := by decide +kernel
theorem dX11_above_8 : decode cX11_above 8 = .ok (.iload_n 0, 1) := by decide +kernel
theorem dX11_above_9 : decode cX11_above 9 = .ok (.iconst 4, 1) := by decide +kernel
theorem dX11_above_10 : decode cX11_above 10 = .ok (.if_icmp .eq 8, 3) := by decide +kernel
theorem dX11_above_13 : decode cX11_above 13 = .ok (.iload_n 0, 1) := by decide +kernel
theorem dX11_above_14 : decode cX11_above 14 = .ok (.iconst 5, 1) := by decide +kernel
theorem dX11_above_15 : decode cX11_above 15 = .ok (.if_icmp .ne 7, 3) := by decide +kernel
theorem dX11_above_18 : decode cX11_above 18 = .ok (.iconst 1, 1) := by decide +kernel
theorem dX11_above_19 : decode cX11_above 19 = .ok (.goto 14, 3) := by decide +kernel
theorem dX11_above_22 : decode cX11_above 22 = .ok (.iload_n 0, 1) := by decide +kernel
theorem dX11_above_23 : decode cX11_above 23 = .ok (.bipush 6, 2) := by decide +kernel
theorem dX11_above_25 : decode cX11_above 25 = .ok (.if_icmp .ne 7, 3) := by decide +kernel
theorem dX11_above_28 : decode cX11_above 28 = .ok (.iconst 2, 1) := by decide +kernel
theorem dX11_above_29 : decode cX11_above 29 = .ok (.goto 4, 3) := by decide +kernel
theorem dX11_above_32 : decode cX11_above 32 = .ok (.iconst 0, 1) := by decide +kernel
theorem dX11_above_33 : decode cX11_above 33 = .ok (.ireturn, 1) := by decide +kernel
theorem dX11_as_0 : decode cX11_as 0 = .ok (.aload_n 0, 1) := by decide +kernel
theorem dX11_as_1 : decode cX11_as 1 = .ok (.iload_n 1, 1) := by decide +kernel
theorem dX11_as_2 : decode cX11_as 2 = .ok (.invokevirtual 83, 3) := by decide +kernel
theorem dX11_as_5 : decode cX11_as 5 = .ok (.ifCond .eq 13, 3) := by decide +kernel
theorem dX11_as_8 : decode cX11_as 8 = .ok (.iload_n 2, 1) := by decide +kernel
theorem dX11_as_9 : decode cX11_as 9 = .ok (.iconst 0, 1) := by decide +kernel
theorem dX11_as_10 : decode cX11_as 10 = .ok (.bipush 6, 2) := by decide +kernel
theorem dX11_as_12 : decode cX11_as 12 = .ok (.invokestatic 71, 3) := by decide +kernel
theorem dX11_as_15 : decode cX11_as 15 = .ok (.ifCond .ne 10, 3) := by decide +kernel
theorem dX11_as_18 : decode cX11_as 18 = .ok (.aload_n 0, 1) := by decide +kernel
theorem dX11_as_19 : decode cX11_as 19 = .ok (.ldc 78, 2) := by decide +kernel
theorem dX11_as_21 : decode cX11_as 21 = .ok (.invokevirtual 79, 3) := by decide +kernel
theorem dX11_as_24 : decode cX11_as 24 = .ok (.ireturn, 1) := by decide +kernel
theorem dX11_as_25 : decode cX11_as 25 = .ok (.aload_n 0, 1) := by decide +kernel
theorem dX11_as_26 : decode cX11_as 26 = .ok (.iload_n 1, 1) := by decide +kernel
theorem dX11_as_27 : decode cX11_as 27 = .ok (.iconst 0, 1) := by decide +kernel
theorem dX11_as_28 : decode cX11_as 28 = .ok (.invokevirtual 87, 3) := by decide +kernel
theorem dX11_as_31 : decode cX11_as 31 = .ok (.istore_n 3, 1) := by decide +kernel
theorem dX11_as_32 : decode cX11_as 32 = .ok (.iload_n 3, 1) := by decide +kernel
theorem dX11_as_33 : decode cX11_as 33 = .ok (.ifCond .lt 16, 3) := by decide +kernel
theorem dX11_as_36 : decode cX11_as 36 = .ok (.iload_n 3, 1) := by decide +kernel
theorem dX11_as_37 : decode cX11_as 37 = .ok (.iload_n 2, 1) := by decide +kernel
theorem dX11_as_38 : decode cX11_as 38 = .ok (.if_icmp .eq 11, 3) := by decide +kernel
theorem dX11_as_41 : decode cX11_as 41 = .ok (.iload_n 3, 1) := by decide +kernel
theorem dX11_as_42 : decode cX11_as 42 = .ok (.invokestatic 111, 3) := by decide +kernel
theorem dX11_as_45 : decode cX11_as 45 = .ok (.istore_n 3, 1) := by decide +kernel
theorem dX11_as_46 : decode cX11_as 46 = .ok (.goto (-14), 3) := by decide +kernel
theorem dX11_as_49 : decode cX11_as 49 = .ok (.iload_n 3, 1) := by decide +kernel
theorem dX11_as_50 : decode cX11_as 50 = .ok (.ifCond .ge 12, 3) := by decide +kernel
theorem dX11_as_53 : decode cX11_as 53 = .ok (.aload_n 0, 1) := by decide +kernel
theorem dX11_as_54 : decode cX11_as 54 = .ok (.ldc 114, 2) := by decide +kernel
theorem dX11_as_56 : decode cX11_as 56 = .ok (.invokevirtual 79, 3) := by decide +kernel
theorem dX11_as_59 : decode cX11_as 59 = .ok (.goto 9, 3) := by decide +kernel
theorem dX11_as_62 : decode cX11_as 62 = .ok (.aload_n 0, 1) := by decide +kernel
theorem dX11_as_63 : decode cX11_as 63 = .ok (.iload_n 1, 1) := by decide +kernel
theorem dX11_as_64 : decode cX11_as 64 = .ok (.iconst 1, 1) := by decide +kernel
theorem dX11_as_65 : decode cX11_as 65 = .ok (.invokevirtual 87, 3) := by decide +kernel
theorem dX11_as_68 : decode cX11_as 68 = .ok (.ireturn, 1) := by decide +kernel
theorem dX11_takes_0 : decode cX11_takes 0 = .ok (.aload_n 0, 1) := by decide +kernel
theorem dX11_takes_1 : decode cX11_takes 1 = .ok (.getfield 7, 3) := by decide +kernel
theorem dX11_takes_4 : decode cX11_takes 4 = .ok (.iconst 2, 1) := by decide +kernel
theorem dX11_takes_5 : decode cX11_takes 5 = .ok (.aload_n 0, 1) := by decide +kernel
theorem dX11_takes_6 : decode cX11_takes 6 = .ok (.getfield 7, 3) := by decide +kernel
theorem dX11_takes_9 : decode cX11_takes 9 = .ok (.iconst 2, 1) := by decide +kernel
theorem dX11_takes_10 : decode cX11_takes 10 = .ok (.iaload, 1) := by decide +kernel
theorem dX11_takes_11 : decode cX11_takes 11 = .ok (.iload_n 1, 1) := by decide +kernel
theorem dX11_takes_12 : decode cX11_takes 12 = .ok (.iadd, 1) := by decide +kernel
theorem dX11_takes_13 : decode cX11_takes 13 = .ok (.ldc 115, 2) := by decide +kernel
theorem dX11_takes_15 : decode cX11_takes 15 = .ok (.ldc 116, 2) := by decide +kernel
theorem dX11_takes_17 : decode cX11_takes 17 = .ok (.invokestatic 117, 3) := by decide +kernel
theorem dX11_takes_20 : decode cX11_takes 20 = .ok (.iastore, 1) := by decide +kernel
theorem dX11_takes_21 : decode cX11_takes 21 = .ok (.return_, 1) := by decide +kernel
theorem dX11_flips_0 : decode cX11_flips 0 = .ok (.aload_n 0, 1) := by decide +kernel
theorem dX11_flips_1 : decode cX11_flips 1 = .ok (.iload_n 1, 1) := by decide +kernel
theorem dX11_flips_2 : decode cX11_flips 2 = .ok (.iconst 2, 1) := by decide +kernel
theorem dX11_flips_3 : decode cX11_flips 3 = .ok (.iconst 1, 1) := by decide +kernel
theorem dX11_flips_4 : decode cX11_flips 4 = .ok (.aload_n 0, 1) := by decide +kernel
theorem dX11_flips_5 : decode cX11_flips 5 = .ok (.iload_n 1, 1) := by decide +kernel
theorem dX11_flips_6 : decode cX11_flips 6 = .ok (.iconst 2, 1) := by decide +kernel
theorem dX11_flips_7 : decode cX11_flips 7 = .ok (.invokevirtual 87, 3) := by decide +kernel
theorem dX11_flips_10 : decode cX11_flips 10 = .ok (.isub, 1) := by decide +kernel
theorem dX11_flips_11 : decode cX11_flips 11 = .ok (.invokevirtual 91, 3) := by decide +kernel
theorem dX11_flips_14 : decode cX11_flips 14 = .ok (.return_, 1) := by decide +kernel
theorem dX11_hands_0 : decode cX11_hands 0 = .ok (.aload_n 0, 1) := by decide +kernel
theorem dX11_hands_1 : decode cX11_hands 1 = .ok (.aload_n 0, 1) := by decide +kernel
theorem dX11_hands_2 : decode cX11_hands 2 = .ok (.iload_n 1, 1) := by decide +kernel
theorem dX11_hands_3 : decode cX11_hands 3 = .ok (.invokevirtual 102, 3) := by decide +kernel
theorem dX11_hands_6 : decode cX11_hands 6 = .ok (.ineg, 1) := by decide +kernel
theorem dX11_hands_7 : decode cX11_hands 7 = .ok (.invokevirtual 121, 3) := by decide +kernel
theorem dX11_hands_10 : decode cX11_hands 10 = .ok (.aload_n 0, 1) := by decide +kernel
theorem dX11_hands_11 : decode cX11_hands 11 = .ok (.iload_n 1, 1) := by decide +kernel
theorem dX11_hands_12 : decode cX11_hands 12 = .ok (.invokevirtual 125, 3) := by decide +kernel
theorem dX11_hands_15 : decode cX11_hands 15 = .ok (.return_, 1) := by decide +kernel
theorem dX11_hand_0 : decode cX11_hand 0 = .ok (.aload_n 0, 1) := by decide +kernel
theorem dX11_hand_1 : decode cX11_hand 1 = .ok (.iload_n 1, 1) := by decide +kernel
theorem dX11_hand_2 : decode cX11_hand 2 = .ok (.invokevirtual 83, 3) := by decide +kernel
theorem dX11_hand_5 : decode cX11_hand 5 = .ok (.ifCond .ne 10, 3) := by decide +kernel
theorem dX11_hand_8 : decode cX11_hand 8 = .ok (.aload_n 0, 1) := by decide +kernel
theorem dX11_hand_9 : decode cX11_hand 9 = .ok (.ldc 78, 2) := by decide +kernel
theorem dX11_hand_11 : decode cX11_hand 11 = .ok (.invokevirtual 79, 3) := by decide +kernel
theorem dX11_hand_14 : decode cX11_hand 14 = .ok (.ireturn, 1) := by decide +kernel
theorem dX11_hand_15 : decode cX11_hand 15 = .ok (.aload_n 0, 1) := by decide +kernel
theorem dX11_hand_16 : decode cX11_hand 16 = .ok (.iload_n 1, 1) := by decide +kernel
theorem dX11_hand_17 : decode cX11_hand 17 = .ok (.invokevirtual 99, 3) := by decide +kernel
theorem dX11_hand_20 : decode cX11_hand 20 = .ok (.ifCond .ne 10, 3) := by decide +kernel
theorem dX11_hand_23 : decode cX11_hand 23 = .ok (.aload_n 0, 1) := by decide +kernel
theorem dX11_hand_24 : decode cX11_hand 24 = .ok (.ldc 128, 2) := by decide +kernel
theorem dX11_hand_26 : decode cX11_hand 26 = .ok (.invokevirtual 79, 3) := by decide +kernel
theorem dX11_hand_29 : decode cX11_hand 29 = .ok (.ireturn, 1) := by decide +kernel
theorem dX11_hand_30 : decode cX11_hand 30 = .ok (.aload_n 0, 1) := by decide +kernel
theorem dX11_hand_31 : decode cX11_hand 31 = .ok (.iload_n 1, 1) := by decide +kernel
theorem dX11_hand_32 : decode cX11_hand 32 = .ok (.invokevirtual 129, 3) := by decide +kernel
theorem dX11_hand_35 : decode cX11_hand 35 = .ok (.aload_n 0, 1) := by decide +kernel
theorem dX11_hand_36 : decode cX11_hand 36 = .ok (.iload_n 1, 1) := by decide +kernel
theorem dX11_hand_37 : decode cX11_hand 37 = .ok (.iconst 2, 1) := by decide +kernel
theorem dX11_hand_38 : decode cX11_hand 38 = .ok (.invokevirtual 87, 3) := by decide +kernel
theorem dX11_hand_41 : decode cX11_hand 41 = .ok (.ireturn, 1) := by decide +kernel
theorem dX11_slantBits_0 : decode cX11_slantBits 0 = .ok (.iconst 0, 1) := by decide +kernel
theorem dX11_slantBits_1 : decode cX11_slantBits 1 = .ok (.istore_n 1, 1) := by decide +kernel
theorem dX11_slantBits_2 : decode cX11_slantBits 2 = .ok (.iconst 0, 1) := by decide +kernel
theorem dX11_slantBits_3 : decode cX11_slantBits 3 = .ok (.istore_n 2, 1) := by decide +kernel
theorem dX11_slantBits_4 : decode cX11_slantBits 4 = .ok (.iload_n 2, 1) := by decide +kernel
theorem dX11_slantBits_5 : decode cX11_slantBits 5 = .ok (.aload_n 0, 1) := by decide +kernel
theorem dX11_slantBits_6 : decode cX11_slantBits 6 = .ok (.invokevirtual 67, 3) := by decide +kernel
theorem dX11_slantBits_9 : decode cX11_slantBits 9 = .ok (.if_icmp .ge 20, 3) := by decide +kernel
theorem dX11_slantBits_12 : decode cX11_slantBits 12 = .ok (.iload_n 1, 1) := by decide +kernel
theorem dX11_slantBits_13 : decode cX11_slantBits 13 = .ok (.aload_n 0, 1) := by decide +kernel
theorem dX11_slantBits_14 : decode cX11_slantBits 14 = .ok (.iload_n 2, 1) := by decide +kernel
theorem dX11_slantBits_15 : decode cX11_slantBits 15 = .ok (.iconst 2, 1) := by decide +kernel
theorem dX11_slantBits_16 : decode cX11_slantBits 16 = .ok (.invokevirtual 87, 3) := by decide +kernel
theorem dX11_slantBits_19 : decode cX11_slantBits 19 = .ok (.iload_n 2, 1) := by decide +kernel
theorem dX11_slantBits_20 : decode cX11_slantBits 20 = .ok (.ishl, 1) := by decide +kernel
theorem dX11_slantBits_21 : decode cX11_slantBits 21 = .ok (.ior, 1) := by decide +kernel
theorem dX11_slantBits_22 : decode cX11_slantBits 22 = .ok (.istore_n 1, 1) := by decide +kernel
theorem dX11_slantBits_23 : decode cX11_slantBits 23 = .ok (.iinc 2 1, 3) := by decide +kernel
theorem dX11_slantBits_26 : decode cX11_slantBits 26 = .ok (.goto (-22), 3) := by decide +kernel
theorem dX11_slantBits_29 : decode cX11_slantBits 29 = .ok (.iload_n 1, 1) := by decide +kernel
theorem dX11_slantBits_30 : decode cX11_slantBits 30 = .ok (.ireturn, 1) := by decide +kernel
theorem dX11_slants_0 : decode cX11_slants 0 = .ok (.aload_n 0, 1) := by decide +kernel
theorem dX11_slants_1 : decode cX11_slants 1 = .ok (.invokevirtual 132, 3) := by decide +kernel
theorem dX11_slants_4 : decode cX11_slants 4 = .ok (.ireturn, 1) := by decide +kernel
theorem dX11_enters_0 : decode cX11_enters 0 = .ok (.aload_n 0, 1) := by decide +kernel
theorem dX11_enters_1 : decode cX11_enters 1 = .ok (.getfield 7, 3) := by decide +kernel
theorem dX11_enters_4 : decode cX11_enters 4 = .ok (.iconst 1, 1) := by decide +kernel
theorem dX11_enters_5 : decode cX11_enters 5 = .ok (.iaload, 1) := by decide +kernel
theorem dX11_enters_6 : decode cX11_enters 6 = .ok (.istore_n 2, 1) := by decide +kernel
theorem dX11_enters_7 : decode cX11_enters 7 = .ok (.aload_n 0, 1) := by decide +kernel
theorem dX11_enters_8 : decode cX11_enters 8 = .ok (.getfield 7, 3) := by decide +kernel
theorem dX11_enters_11 : decode cX11_enters 11 = .ok (.iconst 0, 1) := by decide +kernel
theorem dX11_enters_12 : decode cX11_enters 12 = .ok (.iaload, 1) := by decide +kernel
theorem dX11_enters_13 : decode cX11_enters 13 = .ok (.istore_n 3, 1) := by decide +kernel
theorem dX11_enters_14 : decode cX11_enters 14 = .ok (.aload_n 0, 1) := by decide +kernel
theorem dX11_enters_15 : decode cX11_enters 15 = .ok (.iconst 0, 1) := by decide +kernel
theorem dX11_enters_16 : decode cX11_enters 16 = .ok (.putfield 135, 3) := by decide +kernel
theorem dX11_enters_19 : decode cX11_enters 19 = .ok (.aload_n 0, 1) := by decide +kernel
theorem dX11_enters_20 : decode cX11_enters 20 = .ok (.iconst 0, 1) := by decide +kernel
theorem dX11_enters_21 : decode cX11_enters 21 = .ok (.putfield 138, 3) := by decide +kernel
theorem dX11_enters_24 : decode cX11_enters 24 = .ok (.iload_n 1, 1) := by decide +kernel
theorem dX11_enters_25 : decode cX11_enters 25 = .ok (.iload_n 2, 1) := by decide +kernel
theorem dX11_enters_26 : decode cX11_enters 26 = .ok (.if_icmp .ge 21, 3) := by decide +kernel
theorem dX11_enters_29 : decode cX11_enters 29 = .ok (.aload_n 0, 1) := by decide +kernel
theorem dX11_enters_30 : decode cX11_enters 30 = .ok (.iconst 0, 1) := by decide +kernel
theorem dX11_enters_31 : decode cX11_enters 31 = .ok (.putfield 141, 3) := by decide +kernel
theorem dX11_enters_34 : decode cX11_enters 34 = .ok (.aload_n 0, 1) := by decide +kernel
theorem dX11_enters_35 : decode cX11_enters 35 = .ok (.iload_n 1, 1) := by decide +kernel
theorem dX11_enters_36 : decode cX11_enters 36 = .ok (.putfield 144, 3) := by decide +kernel
theorem dX11_enters_39 : decode cX11_enters 39 = .ok (.aload_n 0, 1) := by decide +kernel
theorem dX11_enters_40 : decode cX11_enters 40 = .ok (.iconst 2, 1) := by decide +kernel
theorem dX11_enters_41 : decode cX11_enters 41 = .ok (.putfield 147, 3) := by decide +kernel
theorem dX11_enters_44 : decode cX11_enters 44 = .ok (.goto 86, 3) := by decide +kernel
theorem dX11_enters_47 : decode cX11_enters 47 = .ok (.iload_n 1, 1) := by decide +kernel
theorem dX11_enters_48 : decode cX11_enters 48 = .ok (.iload_n 2, 1) := by decide +kernel
theorem dX11_enters_49 : decode cX11_enters 49 = .ok (.iload_n 3, 1) := by decide +kernel
theorem dX11_enters_50 : decode cX11_enters 50 = .ok (.iadd, 1) := by decide +kernel
theorem dX11_enters_51 : decode cX11_enters 51 = .ok (.if_icmp .ge 25, 3) := by decide +kernel
theorem dX11_enters_54 : decode cX11_enters 54 = .ok (.aload_n 0, 1) := by decide +kernel
theorem dX11_enters_55 : decode cX11_enters 55 = .ok (.iload_n 1, 1) := by decide +kernel
theorem dX11_enters_56 : decode cX11_enters 56 = .ok (.iload_n 2, 1) := by decide +kernel
theorem dX11_enters_57 : decode cX11_enters 57 = .ok (.isub, 1) := by decide +kernel
theorem dX11_enters_58 : decode cX11_enters 58 = .ok (.putfield 141, 3) := by decide +kernel
theorem dX11_enters_61 : decode cX11_enters 61 = .ok (.aload_n 0, 1) := by decide +kernel
theorem dX11_enters_62 : decode cX11_enters 62 = .ok (.iload_n 2, 1) := by decide +kernel
theorem dX11_enters_63 : decode cX11_enters 63 = .ok (.iconst 1, 1) := by decide +kernel
theorem dX11_enters_64 : decode cX11_enters 64 = .ok (.isub, 1) := by decide +kernel
theorem dX11_enters_65 : decode cX11_enters 65 = .ok (.putfield 144, 3) := by decide +kernel
theorem dX11_enters_68 : decode cX11_enters 68 = .ok (.aload_n 0, 1) := by decide +kernel
theorem dX11_enters_69 : decode cX11_enters 69 = .ok (.iconst 3, 1) := by decide +kernel
theorem dX11_enters_70 : decode cX11_enters 70 = .ok (.putfield 147, 3) := by decide +kernel
theorem dX11_enters_73 : decode cX11_enters 73 = .ok (.goto 57, 3) := by decide +kernel
theorem dX11_enters_76 : decode cX11_enters 76 = .ok (.iload_n 1, 1) := by decide +kernel
theorem dX11_enters_77 : decode cX11_enters 77 = .ok (.iconst 2, 1) := by decide +kernel
theorem dX11_enters_78 : decode cX11_enters 78 = .ok (.iload_n 2, 1) := by decide +kernel
theorem dX11_enters_79 : decode cX11_enters 79 = .ok (.imul, 1) := by decide +kernel
theorem dX11_enters_80 : decode cX11_enters 80 = .ok (.iload_n 3, 1) := by decide +kernel
theorem dX11_enters_81 : decode cX11_enters 81 = .ok (.iadd, 1) := by decide +kernel
theorem dX11_enters_82 : decode cX11_enters 82 = .ok (.if_icmp .ge 27, 3) := by decide +kernel
theorem dX11_enters_85 : decode cX11_enters 85 = .ok (.aload_n 0, 1) := by decide +kernel
theorem dX11_enters_86 : decode cX11_enters 86 = .ok (.iload_n 3, 1) := by decide +kernel
theorem dX11_enters_87 : decode cX11_enters 87 = .ok (.iconst 1, 1) := by decide +kernel
theorem dX11_enters_88 : decode cX11_enters 88 = .ok (.isub, 1) := by decide +kernel
theorem dX11_enters_89 : decode cX11_enters 89 = .ok (.putfield 141, 3) := by decide +kernel
theorem dX11_enters_92 : decode cX11_enters 92 = .ok (.aload_n 0, 1) := by decide +kernel
theorem dX11_enters_93 : decode cX11_enters 93 = .ok (.iload_n 1, 1) := by decide +kernel
theorem dX11_enters_94 : decode cX11_enters 94 = .ok (.iload_n 2, 1) := by decide +kernel
theorem dX11_enters_95 : decode cX11_enters 95 = .ok (.isub, 1) := by decide +kernel
theorem dX11_enters_96 : decode cX11_enters 96 = .ok (.iload_n 3, 1) := by decide +kernel
theorem dX11_enters_97 : decode cX11_enters 97 = .ok (.isub, 1) := by decide +kernel
theorem dX11_enters_98 : decode cX11_enters 98 = .ok (.putfield 144, 3) := by decide +kernel
theorem dX11_enters_101 : decode cX11_enters 101 = .ok (.aload_n 0, 1) := by decide +kernel
theorem dX11_enters_102 : decode cX11_enters 102 = .ok (.iconst 0, 1) := by decide +kernel
theorem dX11_enters_103 : decode cX11_enters 103 = .ok (.putfield 147, 3) := by decide +kernel
theorem dX11_enters_106 : decode cX11_enters 106 = .ok (.goto 24, 3) := by decide +kernel
theorem dX11_enters_109 : decode cX11_enters 109 = .ok (.aload_n 0, 1) := by decide +kernel
theorem dX11_enters_110 : decode cX11_enters 110 = .ok (.iload_n 1, 1) := by decide +kernel
theorem dX11_enters_111 : decode cX11_enters 111 = .ok (.iconst 2, 1) := by decide +kernel
theorem dX11_enters_112 : decode cX11_enters 112 = .ok (.iload_n 2, 1) := by decide +kernel
theorem dX11_enters_113 : decode cX11_enters 113 = .ok (.imul, 1) := by decide +kernel
theorem dX11_enters_114 : decode cX11_enters 114 = .ok (.isub, 1) := by decide +kernel
theorem dX11_enters_115 : decode cX11_enters 115 = .ok (.iload_n 3, 1) := by decide +kernel
theorem dX11_enters_116 : decode cX11_enters 116 = .ok (.isub, 1) := by decide +kernel
theorem dX11_enters_117 : decode cX11_enters 117 = .ok (.putfield 141, 3) := by decide +kernel
theorem dX11_enters_120 : decode cX11_enters 120 = .ok (.aload_n 0, 1) := by decide +kernel
theorem dX11_enters_121 : decode cX11_enters 121 = .ok (.iconst 0, 1) := by decide +kernel
theorem dX11_enters_122 : decode cX11_enters 122 = .ok (.putfield 144, 3) := by decide +kernel
theorem dX11_enters_125 : decode cX11_enters 125 = .ok (.aload_n 0, 1) := by decide +kernel
theorem dX11_enters_126 : decode cX11_enters 126 = .ok (.iconst 1, 1) := by decide +kernel
theorem dX11_enters_127 : decode cX11_enters 127 = .ok (.putfield 147, 3) := by decide +kernel
theorem dX11_enters_130 : decode cX11_enters 130 = .ok (.return_, 1) := by decide +kernel
theorem dX11_goesOn_0 : decode cX11_goesOn 0 = .ok (.aload_n 0, 1) := by decide +kernel
theorem dX11_goesOn_1 : decode cX11_goesOn 1 = .ok (.dup, 1) := by decide +kernel
theorem dX11_goesOn_2 : decode cX11_goesOn 2 = .ok (.getfield 141, 3) := by decide +kernel
theorem dX11_goesOn_5 : decode cX11_goesOn 5 = .ok (.aload_n 0, 1) := by decide +kernel
theorem dX11_goesOn_6 : decode cX11_goesOn 6 = .ok (.getfield 147, 3) := by decide +kernel
theorem dX11_goesOn_9 : decode cX11_goesOn 9 = .ok (.ifCond .ne 7, 3) := by decide +kernel
theorem dX11_goesOn_12 : decode cX11_goesOn 12 = .ok (.iconst (-1), 1) := by decide +kernel
theorem dX11_goesOn_13 : decode cX11_goesOn 13 = .ok (.goto 16, 3) := by decide +kernel
theorem dX11_goesOn_16 : decode cX11_goesOn 16 = .ok (.aload_n 0, 1) := by decide +kernel
theorem dX11_goesOn_17 : decode cX11_goesOn 17 = .ok (.getfield 147, 3) := by decide +kernel
theorem dX11_goesOn_20 : decode cX11_goesOn 20 = .ok (.iconst 2, 1) := by decide +kernel
theorem dX11_goesOn_21 : decode cX11_goesOn 21 = .ok (.if_icmp .ne 7, 3) := by decide +kernel
theorem dX11_goesOn_24 : decode cX11_goesOn 24 = .ok (.iconst 1, 1) := by decide +kernel
theorem dX11_goesOn_25 : decode cX11_goesOn 25 = .ok (.goto 4, 3) := by decide +kernel
theorem dX11_goesOn_28 : decode cX11_goesOn 28 = .ok (.iconst 0, 1) := by decide +kernel
theorem dX11_goesOn_29 : decode cX11_goesOn 29 = .ok (.iadd, 1) := by decide +kernel
theorem dX11_goesOn_30 : decode cX11_goesOn 30 = .ok (.putfield 141, 3) := by decide +kernel
theorem dX11_goesOn_33 : decode cX11_goesOn 33 = .ok (.aload_n 0, 1) := by decide +kernel
theorem dX11_goesOn_34 : decode cX11_goesOn 34 = .ok (.dup, 1) := by decide +kernel
theorem dX11_goesOn_35 : decode cX11_goesOn 35 = .ok (.getfield 144, 3) := by decide +kernel
theorem dX11_goesOn_38 : decode cX11_goesOn 38 = .ok (.aload_n 0, 1) := by decide +kernel
theorem dX11_goesOn_39 : decode cX11_goesOn 39 = .ok (.getfield 147, 3) := by decide +kernel
theorem dX11_goesOn_42 : decode cX11_goesOn 42 = .ok (.iconst 1, 1) := by decide +kernel
theorem dX11_goesOn_43 : decode cX11_goesOn 43 = .ok (.if_icmp .ne 7, 3) := by decide +kernel
theorem dX11_goesOn_46 : decode cX11_goesOn 46 = .ok (.iconst 1, 1) := by decide +kernel
theorem dX11_goesOn_47 : decode cX11_goesOn 47 = .ok (.goto 16, 3) := by decide +kernel
theorem dX11_goesOn_50 : decode cX11_goesOn 50 = .ok (.aload_n 0, 1) := by decide +kernel
theorem dX11_goesOn_51 : decode cX11_goesOn 51 = .ok (.getfield 147, 3) := by decide +kernel
theorem dX11_goesOn_54 : decode cX11_goesOn 54 = .ok (.iconst 3, 1) := by decide +kernel
theorem dX11_goesOn_55 : decode cX11_goesOn 55 = .ok (.if_icmp .ne 7, 3) := by decide +kernel
theorem dX11_goesOn_58 : decode cX11_goesOn 58 = .ok (.iconst (-1), 1) := by decide +kernel
theorem dX11_goesOn_59 : decode cX11_goesOn 59 = .ok (.goto 4, 3) := by decide +kernel
theorem dX11_goesOn_62 : decode cX11_goesOn 62 = .ok (.iconst 0, 1) := by decide +kernel
theorem dX11_goesOn_63 : decode cX11_goesOn 63 = .ok (.iadd, 1) := by decide +kernel
theorem dX11_goesOn_64 : decode cX11_goesOn 64 = .ok (.putfield 144, 3) := by decide +kernel
theorem dX11_goesOn_67 : decode cX11_goesOn 67 = .ok (.return_, 1) := by decide +kernel
theorem dX11_isOut_0 : decode cX11_isOut 0 = .ok (.aload_n 0, 1) := by decide +kernel
theorem dX11_isOut_1 : decode cX11_isOut 1 = .ok (.getfield 141, 3) := by decide +kernel
theorem dX11_isOut_4 : decode cX11_isOut 4 = .ok (.iconst 0, 1) := by decide +kernel
theorem dX11_isOut_5 : decode cX11_isOut 5 = .ok (.aload_n 0, 1) := by decide +kernel
theorem dX11_isOut_6 : decode cX11_isOut 6 = .ok (.getfield 7, 3) := by decide +kernel
theorem dX11_isOut_9 : decode cX11_isOut 9 = .ok (.iconst 0, 1) := by decide +kernel
theorem dX11_isOut_10 : decode cX11_isOut 10 = .ok (.iaload, 1) := by decide +kernel
theorem dX11_isOut_11 : decode cX11_isOut 11 = .ok (.iconst 1, 1) := by decide +kernel
theorem dX11_isOut_12 : decode cX11_isOut 12 = .ok (.isub, 1) := by decide +kernel
theorem dX11_isOut_13 : decode cX11_isOut 13 = .ok (.invokestatic 71, 3) := by decide +kernel
theorem dX11_isOut_16 : decode cX11_isOut 16 = .ok (.ifCond .eq 22, 3) := by decide +kernel
theorem dX11_isOut_19 : decode cX11_isOut 19 = .ok (.aload_n 0, 1) := by decide +kernel
theorem dX11_isOut_20 : decode cX11_isOut 20 = .ok (.getfield 144, 3) := by decide +kernel
theorem dX11_isOut_23 : decode cX11_isOut 23 = .ok (.iconst 0, 1) := by decide +kernel
theorem dX11_isOut_24 : decode cX11_isOut 24 = .ok (.aload_n 0, 1) := by decide +kernel
theorem dX11_isOut_25 : decode cX11_isOut 25 = .ok (.getfield 7, 3) := by decide +kernel
theorem dX11_isOut_28 : decode cX11_isOut 28 = .ok (.iconst 1, 1) := by decide +kernel
theorem dX11_isOut_29 : decode cX11_isOut 29 = .ok (.iaload, 1) := by decide +kernel
theorem dX11_isOut_30 : decode cX11_isOut 30 = .ok (.iconst 1, 1) := by decide +kernel
theorem dX11_isOut_31 : decode cX11_isOut 31 = .ok (.isub, 1) := by decide +kernel
theorem dX11_isOut_32 : decode cX11_isOut 32 = .ok (.invokestatic 71, 3) := by decide +kernel
theorem dX11_isOut_35 : decode cX11_isOut 35 = .ok (.ifCond .ne 7, 3) := by decide +kernel
theorem dX11_isOut_38 : decode cX11_isOut 38 = .ok (.iconst 1, 1) := by decide +kernel
theorem dX11_isOut_39 : decode cX11_isOut 39 = .ok (.goto 4, 3) := by decide +kernel
theorem dX11_isOut_42 : decode cX11_isOut 42 = .ok (.iconst 0, 1) := by decide +kernel
theorem dX11_isOut_43 : decode cX11_isOut 43 = .ok (.ireturn, 1) := by decide +kernel
theorem dX11_windowThere_0 : decode cX11_windowThere 0 = .ok (.aload_n 0, 1) := by decide +kernel
theorem dX11_windowThere_1 : decode cX11_windowThere 1 = .ok (.getfield 7, 3) := by decide +kernel
theorem dX11_windowThere_4 : decode cX11_windowThere 4 = .ok (.iconst 1, 1) := by decide +kernel
theorem dX11_windowThere_5 : decode cX11_windowThere 5 = .ok (.iaload, 1) := by decide +kernel
theorem dX11_windowThere_6 : decode cX11_windowThere 6 = .ok (.istore_n 1, 1) := by decide +kernel
theorem dX11_windowThere_7 : decode cX11_windowThere 7 = .ok (.aload_n 0, 1) := by decide +kernel
theorem dX11_windowThere_8 : decode cX11_windowThere 8 = .ok (.getfield 7, 3) := by decide +kernel
theorem dX11_windowThere_11 : decode cX11_windowThere 11 = .ok (.iconst 0, 1) := by decide +kernel
theorem dX11_windowThere_12 : decode cX11_windowThere 12 = .ok (.iaload, 1) := by decide +kernel
theorem dX11_windowThere_13 : decode cX11_windowThere 13 = .ok (.istore_n 2, 1) := by decide +kernel
theorem dX11_windowThere_14 : decode cX11_windowThere 14 = .ok (.aload_n 0, 1) := by decide +kernel
theorem dX11_windowThere_15 : decode cX11_windowThere 15 = .ok (.getfield 147, 3) := by decide +kernel
theorem dX11_windowThere_18 : decode cX11_windowThere 18 = .ok (.ifCond .ne 10, 3) := by decide +kernel
theorem dX11_windowThere_21 : decode cX11_windowThere 21 = .ok (.aload_n 0, 1) := by decide +kernel
theorem dX11_windowThere_22 : decode cX11_windowThere 22 = .ok (.getfield 144, 3) := by decide +kernel
theorem dX11_windowThere_25 : decode cX11_windowThere 25 = .ok (.goto 49, 3) := by decide +kernel
theorem dX11_windowThere_28 : decode cX11_windowThere 28 = .ok (.aload_n 0, 1) := by decide +kernel
theorem dX11_windowThere_29 : decode cX11_windowThere 29 = .ok (.getfield 147, 3) := by decide +kernel
theorem dX11_windowThere_32 : decode cX11_windowThere 32 = .ok (.iconst 1, 1) := by decide +kernel
theorem dX11_windowThere_33 : decode cX11_windowThere 33 = .ok (.if_icmp .ne 12, 3) := by decide +kernel
theorem dX11_windowThere_36 : decode cX11_windowThere 36 = .ok (.iload_n 1, 1) := by decide +kernel
theorem dX11_windowThere_37 : decode cX11_windowThere 37 = .ok (.aload_n 0, 1) := by decide +kernel
theorem dX11_windowThere_38 : decode cX11_windowThere 38 = .ok (.getfield 141, 3) := by decide +kernel
theorem dX11_windowThere_41 : decode cX11_windowThere 41 = .ok (.iadd, 1) := by decide +kernel
theorem dX11_windowThere_42 : decode cX11_windowThere 42 = .ok (.goto 32, 3) := by decide +kernel
theorem dX11_windowThere_45 : decode cX11_windowThere 45 = .ok (.aload_n 0, 1) := by decide +kernel
theorem dX11_windowThere_46 : decode cX11_windowThere 46 = .ok (.getfield 147, 3) := by decide +kernel
theorem dX11_windowThere_49 : decode cX11_windowThere 49 = .ok (.iconst 2, 1) := by decide +kernel
theorem dX11_windowThere_50 : decode cX11_windowThere 50 = .ok (.if_icmp .ne 14, 3) := by decide +kernel
theorem dX11_windowThere_53 : decode cX11_windowThere 53 = .ok (.iload_n 1, 1) := by decide +kernel
theorem dX11_windowThere_54 : decode cX11_windowThere 54 = .ok (.iload_n 2, 1) := by decide +kernel
theorem dX11_windowThere_55 : decode cX11_windowThere 55 = .ok (.iadd, 1) := by decide +kernel
theorem dX11_windowThere_56 : decode cX11_windowThere 56 = .ok (.aload_n 0, 1) := by decide +kernel
theorem dX11_windowThere_57 : decode cX11_windowThere 57 = .ok (.getfield 144, 3) := by decide +kernel
theorem dX11_windowThere_60 : decode cX11_windowThere 60 = .ok (.iadd, 1) := by decide +kernel
theorem dX11_windowThere_61 : decode cX11_windowThere 61 = .ok (.goto 13, 3) := by decide +kernel
theorem dX11_windowThere_64 : decode cX11_windowThere 64 = .ok (.iconst 2, 1) := by decide +kernel
theorem dX11_windowThere_65 : decode cX11_windowThere 65 = .ok (.iload_n 1, 1) := by decide +kernel
theorem dX11_windowThere_66 : decode cX11_windowThere 66 = .ok (.imul, 1) := by decide +kernel
theorem dX11_windowThere_67 : decode cX11_windowThere 67 = .ok (.iload_n 2, 1) := by decide +kernel
theorem dX11_windowThere_68 : decode cX11_windowThere 68 = .ok (.iadd, 1) := by decide +kernel
theorem dX11_windowThere_69 : decode cX11_windowThere 69 = .ok (.aload_n 0, 1) := by decide +kernel
theorem dX11_windowThere_70 : decode cX11_windowThere 70 = .ok (.getfield 141, 3) := by decide +kernel
theorem dX11_windowThere_73 : decode cX11_windowThere 73 = .ok (.iadd, 1) := by decide +kernel
theorem dX11_windowThere_74 : decode cX11_windowThere 74 = .ok (.ireturn, 1) := by decide +kernel
theorem dX11_thrown_0 : decode cX11_thrown 0 = .ok (.iload_n 1, 1) := by decide +kernel
theorem dX11_thrown_1 : decode cX11_thrown 1 = .ok (.ifCond .ne 9, 3) := by decide +kernel
theorem dX11_thrown_4 : decode cX11_thrown 4 = .ok (.iload_n 0, 1) := by decide +kernel
theorem dX11_thrown_5 : decode cX11_thrown 5 = .ok (.iconst 1, 1) := by decide +kernel
theorem dX11_thrown_6 : decode cX11_thrown 6 = .ok (.ixor, 1) := by decide +kernel
theorem dX11_thrown_7 : decode cX11_thrown 7 = .ok (.goto 6, 3) := by decide +kernel
theorem dX11_thrown_10 : decode cX11_thrown 10 = .ok (.iconst 3, 1) := by decide +kernel
theorem dX11_thrown_11 : decode cX11_thrown 11 = .ok (.iload_n 0, 1) := by decide +kernel
theorem dX11_thrown_12 : decode cX11_thrown 12 = .ok (.isub, 1) := by decide +kernel
theorem dX11_thrown_13 : decode cX11_thrown 13 = .ok (.ireturn, 1) := by decide +kernel
theorem dX11_turns_0 : decode cX11_turns 0 = .ok (.aload_n 0, 1) := by decide +kernel
theorem dX11_turns_1 : decode cX11_turns 1 = .ok (.iload_n 1, 1) := by decide +kernel
theorem dX11_turns_2 : decode cX11_turns 2 = .ok (.iconst 0, 1) := by decide +kernel
theorem dX11_turns_3 : decode cX11_turns 3 = .ok (.invokevirtual 87, 3) := by decide +kernel
theorem dX11_turns_6 : decode cX11_turns 6 = .ok (.istore_n 2, 1) := by decide +kernel
theorem dX11_turns_7 : decode cX11_turns 7 = .ok (.iload_n 2, 1) := by decide +kernel
theorem dX11_turns_8 : decode cX11_turns 8 = .ok (.iconst 5, 1) := by decide +kernel
theorem dX11_turns_9 : decode cX11_turns 9 = .ok (.if_icmp .ne 51, 3) := by decide +kernel
theorem dX11_turns_12 : decode cX11_turns 12 = .ok (.aload_n 0, 1) := by decide +kernel
theorem dX11_turns_13 : decode cX11_turns 13 = .ok (.iload_n 1, 1) := by decide +kernel
theorem dX11_turns_14 : decode cX11_turns 14 = .ok (.iconst 3, 1) := by decide +kernel
theorem dX11_turns_15 : decode cX11_turns 15 = .ok (.aload_n 0, 1) := by decide +kernel
theorem dX11_turns_16 : decode cX11_turns 16 = .ok (.iload_n 1, 1) := by decide +kernel
theorem dX11_turns_17 : decode cX11_turns 17 = .ok (.iconst 3, 1) := by decide +kernel
theorem dX11_turns_18 : decode cX11_turns 18 = .ok (.invokevirtual 87, 3) := by decide +kernel
theorem dX11_turns_21 : decode cX11_turns 21 = .ok (.iconst 1, 1) := by decide +kernel
theorem dX11_turns_22 : decode cX11_turns 22 = .ok (.iadd, 1) := by decide +kernel
theorem dX11_turns_23 : decode cX11_turns 23 = .ok (.invokevirtual 91, 3) := by decide +kernel
theorem dX11_turns_26 : decode cX11_turns 26 = .ok (.aload_n 0, 1) := by decide +kernel
theorem dX11_turns_27 : decode cX11_turns 27 = .ok (.iload_n 1, 1) := by decide +kernel
theorem dX11_turns_28 : decode cX11_turns 28 = .ok (.iconst 3, 1) := by decide +kernel
theorem dX11_turns_29 : decode cX11_turns 29 = .ok (.invokevirtual 87, 3) := by decide +kernel
theorem dX11_turns_32 : decode cX11_turns 32 = .ok (.iconst 2, 1) := by decide +kernel
theorem dX11_turns_33 : decode cX11_turns 33 = .ok (.aload_n 0, 1) := by decide +kernel
theorem dX11_turns_34 : decode cX11_turns 34 = .ok (.iload_n 1, 1) := by decide +kernel
theorem dX11_turns_35 : decode cX11_turns 35 = .ok (.iconst 1, 1) := by decide +kernel
theorem dX11_turns_36 : decode cX11_turns 36 = .ok (.invokevirtual 87, 3) := by decide +kernel
theorem dX11_turns_39 : decode cX11_turns 39 = .ok (.iconst 3, 1) := by decide +kernel
theorem dX11_turns_40 : decode cX11_turns 40 = .ok (.irem, 1) := by decide +kernel
theorem dX11_turns_41 : decode cX11_turns 41 = .ok (.iadd, 1) := by decide +kernel
theorem dX11_turns_42 : decode cX11_turns 42 = .ok (.if_icmp .ne 28, 3) := by decide +kernel
theorem dX11_turns_45 : decode cX11_turns 45 = .ok (.aload_n 0, 1) := by decide +kernel
theorem dX11_turns_46 : decode cX11_turns 46 = .ok (.iload_n 1, 1) := by decide +kernel
theorem dX11_turns_47 : decode cX11_turns 47 = .ok (.iconst 3, 1) := by decide +kernel
theorem dX11_turns_48 : decode cX11_turns 48 = .ok (.iconst 0, 1) := by decide +kernel
theorem dX11_turns_49 : decode cX11_turns 49 = .ok (.invokevirtual 91, 3) := by decide +kernel
theorem dX11_turns_52 : decode cX11_turns 52 = .ok (.aload_n 0, 1) := by decide +kernel
theorem dX11_turns_53 : decode cX11_turns 53 = .ok (.iload_n 1, 1) := by decide +kernel
theorem dX11_turns_54 : decode cX11_turns 54 = .ok (.invokevirtual 125, 3) := by decide +kernel
theorem dX11_turns_57 : decode cX11_turns 57 = .ok (.goto 13, 3) := by decide +kernel
theorem dX11_turns_60 : decode cX11_turns 60 = .ok (.iload_n 2, 1) := by decide +kernel
theorem dX11_turns_61 : decode cX11_turns 61 = .ok (.iconst 1, 1) := by decide +kernel
theorem dX11_turns_62 : decode cX11_turns 62 = .ok (.if_icmp .ne 8, 3) := by decide +kernel
theorem dX11_turns_65 : decode cX11_turns 65 = .ok (.aload_n 0, 1) := by decide +kernel
theorem dX11_turns_66 : decode cX11_turns 66 = .ok (.iload_n 1, 1) := by decide +kernel
theorem dX11_turns_67 : decode cX11_turns 67 = .ok (.invokevirtual 125, 3) := by decide +kernel
theorem dX11_turns_70 : decode cX11_turns 70 = .ok (.return_, 1) := by decide +kernel
theorem dX11_comesInto_0 : decode cX11_comesInto 0 = .ok (.aload_n 0, 1) := by decide +kernel
theorem dX11_comesInto_1 : decode cX11_comesInto 1 = .ok (.dup, 1) := by decide +kernel
theorem dX11_comesInto_2 : decode cX11_comesInto 2 = .ok (.getfield 135, 3) := by decide +kernel
theorem dX11_comesInto_5 : decode cX11_comesInto 5 = .ok (.iconst 1, 1) := by decide +kernel
theorem dX11_comesInto_6 : decode cX11_comesInto 6 = .ok (.iadd, 1) := by decide +kernel
theorem dX11_comesInto_7 : decode cX11_comesInto 7 = .ok (.putfield 135, 3) := by decide +kernel
theorem dX11_comesInto_10 : decode cX11_comesInto 10 = .ok (.aload_n 0, 1) := by decide +kernel
theorem dX11_comesInto_11 : decode cX11_comesInto 11 = .ok (.iload_n 1, 1) := by decide +kernel
theorem dX11_comesInto_12 : decode cX11_comesInto 12 = .ok (.iconst 4, 1) := by decide +kernel
theorem dX11_comesInto_13 : decode cX11_comesInto 13 = .ok (.aload_n 0, 1) := by decide +kernel
theorem dX11_comesInto_14 : decode cX11_comesInto 14 = .ok (.iload_n 1, 1) := by decide +kernel
theorem dX11_comesInto_15 : decode cX11_comesInto 15 = .ok (.iconst 4, 1) := by decide +kernel
theorem dX11_comesInto_16 : decode cX11_comesInto 16 = .ok (.invokevirtual 87, 3) := by decide +kernel
theorem dX11_comesInto_19 : decode cX11_comesInto 19 = .ok (.sipush 9999, 3) := by decide +kernel
theorem dX11_comesInto_22 : decode cX11_comesInto 22 = .ok (.if_icmp .ge 14, 3) := by decide +kernel
theorem dX11_comesInto_25 : decode cX11_comesInto 25 = .ok (.aload_n 0, 1) := by decide +kernel
theorem dX11_comesInto_26 : decode cX11_comesInto 26 = .ok (.iload_n 1, 1) := by decide +kernel
theorem dX11_comesInto_27 : decode cX11_comesInto 27 = .ok (.iconst 4, 1) := by decide +kernel
theorem dX11_comesInto_28 : decode cX11_comesInto 28 = .ok (.invokevirtual 87, 3) := by decide +kernel
theorem dX11_comesInto_31 : decode cX11_comesInto 31 = .ok (.iconst 1, 1) := by decide +kernel
theorem dX11_comesInto_32 : decode cX11_comesInto 32 = .ok (.iadd, 1) := by decide +kernel
theorem dX11_comesInto_33 : decode cX11_comesInto 33 = .ok (.goto 6, 3) := by decide +kernel
theorem dX11_comesInto_36 : decode cX11_comesInto 36 = .ok (.sipush 9999, 3) := by decide +kernel
theorem dX11_comesInto_39 : decode cX11_comesInto 39 = .ok (.invokevirtual 91, 3) := by decide +kernel
theorem dX11_comesInto_42 : decode cX11_comesInto 42 = .ok (.aload_n 0, 1) := by decide +kernel
theorem dX11_comesInto_43 : decode cX11_comesInto 43 = .ok (.iload_n 1, 1) := by decide +kernel
theorem dX11_comesInto_44 : decode cX11_comesInto 44 = .ok (.invokevirtual 105, 3) := by decide +kernel
theorem dX11_comesInto_47 : decode cX11_comesInto 47 = .ok (.ifCond .eq 35, 3) := by decide +kernel
theorem dX11_comesInto_50 : decode cX11_comesInto 50 = .ok (.aload_n 0, 1) := by decide +kernel
theorem dX11_comesInto_51 : decode cX11_comesInto 51 = .ok (.aload_n 0, 1) := by decide +kernel
theorem dX11_comesInto_52 : decode cX11_comesInto 52 = .ok (.getfield 147, 3) := by decide +kernel
theorem dX11_comesInto_55 : decode cX11_comesInto 55 = .ok (.aload_n 0, 1) := by decide +kernel
theorem dX11_comesInto_56 : decode cX11_comesInto 56 = .ok (.iload_n 1, 1) := by decide +kernel
theorem dX11_comesInto_57 : decode cX11_comesInto 57 = .ok (.iconst 2, 1) := by decide +kernel
theorem dX11_comesInto_58 : decode cX11_comesInto 58 = .ok (.invokevirtual 87, 3) := by decide +kernel
theorem dX11_comesInto_61 : decode cX11_comesInto 61 = .ok (.invokestatic 150, 3) := by decide +kernel
theorem dX11_comesInto_64 : decode cX11_comesInto 64 = .ok (.putfield 147, 3) := by decide +kernel
theorem dX11_comesInto_67 : decode cX11_comesInto 67 = .ok (.aload_n 0, 1) := by decide +kernel
theorem dX11_comesInto_68 : decode cX11_comesInto 68 = .ok (.dup, 1) := by decide +kernel
theorem dX11_comesInto_69 : decode cX11_comesInto 69 = .ok (.getfield 138, 3) := by decide +kernel
theorem dX11_comesInto_72 : decode cX11_comesInto 72 = .ok (.iconst 1, 1) := by decide +kernel
theorem dX11_comesInto_73 : decode cX11_comesInto 73 = .ok (.iadd, 1) := by decide +kernel
theorem dX11_comesInto_74 : decode cX11_comesInto 74 = .ok (.putfield 138, 3) := by decide +kernel
theorem dX11_comesInto_77 : decode cX11_comesInto 77 = .ok (.aload_n 0, 1) := by decide +kernel
theorem dX11_comesInto_78 : decode cX11_comesInto 78 = .ok (.iload_n 1, 1) := by decide +kernel
theorem dX11_comesInto_79 : decode cX11_comesInto 79 = .ok (.invokevirtual 153, 3) := by decide +kernel
theorem dX11_comesInto_82 : decode cX11_comesInto 82 = .ok (.aload_n 0, 1) := by decide +kernel
theorem dX11_comesInto_83 : decode cX11_comesInto 83 = .ok (.iload_n 1, 1) := by decide +kernel
theorem dX11_comesInto_84 : decode cX11_comesInto 84 = .ok (.invokevirtual 108, 3) := by decide +kernel
theorem dX11_comesInto_87 : decode cX11_comesInto 87 = .ok (.ireturn, 1) := by decide +kernel
theorem dX11_goes_0 : decode cX11_goes 0 = .ok (.aload_n 0, 1) := by decide +kernel
theorem dX11_goes_1 : decode cX11_goes 1 = .ok (.iload_n 1, 1) := by decide +kernel
theorem dX11_goes_2 : decode cX11_goes 2 = .ok (.invokevirtual 156, 3) := by decide +kernel
theorem dX11_goes_5 : decode cX11_goes 5 = .ok (.aload_n 0, 1) := by decide +kernel
theorem dX11_goes_6 : decode cX11_goes 6 = .ok (.iconst 0, 1) := by decide +kernel
theorem dX11_goes_7 : decode cX11_goes 7 = .ok (.putfield 159, 3) := by decide +kernel
theorem dX11_goes_10 : decode cX11_goes 10 = .ok (.aload_n 0, 1) := by decide +kernel
theorem dX11_goes_11 : decode cX11_goes 11 = .ok (.iconst (-1), 1) := by decide +kernel
theorem dX11_goes_12 : decode cX11_goes 12 = .ok (.putfield 163, 3) := by decide +kernel
theorem dX11_goes_15 : decode cX11_goes 15 = .ok (.iconst 0, 1) := by decide +kernel
theorem dX11_goes_16 : decode cX11_goes 16 = .ok (.istore_n 2, 1) := by decide +kernel
theorem dX11_goes_17 : decode cX11_goes 17 = .ok (.iload_n 2, 1) := by decide +kernel
theorem dX11_goes_18 : decode cX11_goes 18 = .ok (.ifCond .ne 111, 3) := by decide +kernel
theorem dX11_goes_21 : decode cX11_goes 21 = .ok (.aload_n 0, 1) := by decide +kernel
theorem dX11_goes_22 : decode cX11_goes 22 = .ok (.invokevirtual 166, 3) := by decide +kernel
theorem dX11_goes_25 : decode cX11_goes 25 = .ok (.ifCond .ne 104, 3) := by decide +kernel
theorem dX11_goes_28 : decode cX11_goes 28 = .ok (.aload_n 0, 1) := by decide +kernel
theorem dX11_goes_29 : decode cX11_goes 29 = .ok (.getfield 135, 3) := by decide +kernel
theorem dX11_goes_32 : decode cX11_goes 32 = .ok (.sipush 5000, 3) := by decide +kernel
theorem dX11_goes_35 : decode cX11_goes 35 = .ok (.if_icmp .ne 7, 3) := by decide +kernel
theorem dX11_goes_38 : decode cX11_goes 38 = .ok (.iconst 1, 1) := by decide +kernel
theorem dX11_goes_39 : decode cX11_goes 39 = .ok (.goto 4, 3) := by decide +kernel
theorem dX11_goes_42 : decode cX11_goes 42 = .ok (.iconst 0, 1) := by decide +kernel
theorem dX11_goes_43 : decode cX11_goes 43 = .ok (.istore_n 2, 1) := by decide +kernel
theorem dX11_goes_44 : decode cX11_goes 44 = .ok (.iload_n 2, 1) := by decide +kernel
theorem dX11_goes_45 : decode cX11_goes 45 = .ok (.ifCond .ne 73, 3) := by decide +kernel
theorem dX11_goes_48 : decode cX11_goes 48 = .ok (.aload_n 0, 1) := by decide +kernel
theorem dX11_goes_49 : decode cX11_goes 49 = .ok (.getfield 7, 3) := by decide +kernel
theorem dX11_goes_52 : decode cX11_goes 52 = .ok (.iconst 1, 1) := by decide +kernel
theorem dX11_goes_53 : decode cX11_goes 53 = .ok (.iaload, 1) := by decide +kernel
theorem dX11_goes_54 : decode cX11_goes 54 = .ok (.aload_n 0, 1) := by decide +kernel
theorem dX11_goes_55 : decode cX11_goes 55 = .ok (.getfield 141, 3) := by decide +kernel
theorem dX11_goes_58 : decode cX11_goes 58 = .ok (.imul, 1) := by decide +kernel
theorem dX11_goes_59 : decode cX11_goes 59 = .ok (.aload_n 0, 1) := by decide +kernel
theorem dX11_goes_60 : decode cX11_goes 60 = .ok (.getfield 144, 3) := by decide +kernel
theorem dX11_goes_63 : decode cX11_goes 63 = .ok (.iadd, 1) := by decide +kernel
theorem dX11_goes_64 : decode cX11_goes 64 = .ok (.istore_n 3, 1) := by decide +kernel
theorem dX11_goes_65 : decode cX11_goes 65 = .ok (.aload_n 0, 1) := by decide +kernel
theorem dX11_goes_66 : decode cX11_goes 66 = .ok (.aload_n 0, 1) := by decide +kernel
theorem dX11_goes_67 : decode cX11_goes 67 = .ok (.getfield 159, 3) := by decide +kernel
theorem dX11_goes_70 : decode cX11_goes 70 = .ok (.ifCond .ne 11, 3) := by decide +kernel
theorem dX11_goes_73 : decode cX11_goes 73 = .ok (.iload_n 3, 1) := by decide +kernel
theorem dX11_goes_74 : decode cX11_goes 74 = .ok (.aload_n 0, 1) := by decide +kernel
theorem dX11_goes_75 : decode cX11_goes 75 = .ok (.getfield 25, 3) := by decide +kernel
theorem dX11_goes_78 : decode cX11_goes 78 = .ok (.if_icmp .ne 7, 3) := by decide +kernel
theorem dX11_goes_81 : decode cX11_goes 81 = .ok (.iconst 1, 1) := by decide +kernel
theorem dX11_goes_82 : decode cX11_goes 82 = .ok (.goto 4, 3) := by decide +kernel
theorem dX11_goes_85 : decode cX11_goes 85 = .ok (.iconst 0, 1) := by decide +kernel
theorem dX11_goes_86 : decode cX11_goes 86 = .ok (.putfield 159, 3) := by decide +kernel
theorem dX11_goes_89 : decode cX11_goes 89 = .ok (.aload_n 0, 1) := by decide +kernel
theorem dX11_goes_90 : decode cX11_goes 90 = .ok (.aload_n 0, 1) := by decide +kernel
theorem dX11_goes_91 : decode cX11_goes 91 = .ok (.getfield 135, 3) := by decide +kernel
theorem dX11_goes_94 : decode cX11_goes 94 = .ok (.aload_n 0, 1) := by decide +kernel
theorem dX11_goes_95 : decode cX11_goes 95 = .ok (.getfield 29, 3) := by decide +kernel
theorem dX11_goes_98 : decode cX11_goes 98 = .ok (.if_icmp .ne 7, 3) := by decide +kernel
theorem dX11_goes_101 : decode cX11_goes 101 = .ok (.iload_n 3, 1) := by decide +kernel
theorem dX11_goes_102 : decode cX11_goes 102 = .ok (.goto 7, 3) := by decide +kernel
theorem dX11_goes_105 : decode cX11_goes 105 = .ok (.aload_n 0, 1) := by decide +kernel
theorem dX11_goes_106 : decode cX11_goes 106 = .ok (.getfield 163, 3) := by decide +kernel
theorem dX11_goes_109 : decode cX11_goes 109 = .ok (.putfield 163, 3) := by decide +kernel
theorem dX11_goes_112 : decode cX11_goes 112 = .ok (.aload_n 0, 1) := by decide +kernel
theorem dX11_goes_113 : decode cX11_goes 113 = .ok (.iload_n 3, 1) := by decide +kernel
theorem dX11_goes_114 : decode cX11_goes 114 = .ok (.invokevirtual 170, 3) := by decide +kernel
theorem dX11_goes_117 : decode cX11_goes 117 = .ok (.istore_n 2, 1) := by decide +kernel
theorem dX11_goes_118 : decode cX11_goes 118 = .ok (.iload_n 2, 1) := by decide +kernel
theorem dX11_goes_119 : decode cX11_goes 119 = .ok (.ifCond .ne (-102), 3) := by decide +kernel
theorem dX11_goes_122 : decode cX11_goes 122 = .ok (.aload_n 0, 1) := by decide +kernel
theorem dX11_goes_123 : decode cX11_goes 123 = .ok (.invokevirtual 173, 3) := by decide +kernel
theorem dX11_goes_126 : decode cX11_goes 126 = .ok (.goto (-109), 3) := by decide +kernel
theorem dX11_goes_129 : decode cX11_goes 129 = .ok (.iload_n 2, 1) := by decide +kernel
theorem dX11_goes_130 : decode cX11_goes 130 = .ok (.ifCond .eq 8, 3) := by decide +kernel
theorem dX11_goes_133 : decode cX11_goes 133 = .ok (.bipush 100, 2) := by decide +kernel
theorem dX11_goes_135 : decode cX11_goes 135 = .ok (.goto 7, 3) := by decide +kernel
theorem dX11_goes_138 : decode cX11_goes 138 = .ok (.aload_n 0, 1) := by decide +kernel
theorem dX11_goes_139 : decode cX11_goes 139 = .ok (.invokevirtual 176, 3) := by decide +kernel
theorem dX11_goes_142 : decode cX11_goes 142 = .ok (.ireturn, 1) := by decide +kernel
theorem dX11_letIn_0 : decode cX11_letIn 0 = .ok (.aload_n 0, 1) := by decide +kernel
theorem dX11_letIn_1 : decode cX11_letIn 1 = .ok (.iload_n 1, 1) := by decide +kernel
theorem dX11_letIn_2 : decode cX11_letIn 2 = .ok (.invokevirtual 179, 3) := by decide +kernel
theorem dX11_letIn_5 : decode cX11_letIn 5 = .ok (.istore_n 2, 1) := by decide +kernel
theorem dX11_letIn_6 : decode cX11_letIn 6 = .ok (.aload_n 0, 1) := by decide +kernel
theorem dX11_letIn_7 : decode cX11_letIn 7 = .ok (.aload_n 0, 1) := by decide +kernel
theorem dX11_letIn_8 : decode cX11_letIn 8 = .ok (.iconst 1, 1) := by decide +kernel
theorem dX11_letIn_9 : decode cX11_letIn 9 = .ok (.iload_n 1, 1) := by decide +kernel
theorem dX11_letIn_10 : decode cX11_letIn 10 = .ok (.iload_n 2, 1) := by decide +kernel
theorem dX11_letIn_11 : decode cX11_letIn 11 = .ok (.aload_n 0, 1) := by decide +kernel
theorem dX11_letIn_12 : decode cX11_letIn 12 = .ok (.getfield 138, 3) := by decide +kernel
theorem dX11_letIn_15 : decode cX11_letIn 15 = .ok (.invokevirtual 95, 3) := by decide +kernel
theorem dX11_letIn_18 : decode cX11_letIn 18 = .ok (.invokevirtual 121, 3) := by decide +kernel
theorem dX11_letIn_21 : decode cX11_letIn 21 = .ok (.iload_n 2, 1) := by decide +kernel
theorem dX11_letIn_22 : decode cX11_letIn 22 = .ok (.ireturn, 1) := by decide +kernel
theorem dX11_let_0 : decode cX11_let 0 = .ok (.aload_n 0, 1) := by decide +kernel
theorem dX11_let_1 : decode cX11_let 1 = .ok (.iload_n 1, 1) := by decide +kernel
theorem dX11_let_2 : decode cX11_let 2 = .ok (.invokevirtual 182, 3) := by decide +kernel
theorem dX11_let_5 : decode cX11_let 5 = .ok (.ifCond .eq 11, 3) := by decide +kernel
theorem dX11_let_8 : decode cX11_let 8 = .ok (.aload_n 0, 1) := by decide +kernel
theorem dX11_let_9 : decode cX11_let 9 = .ok (.iload_n 1, 1) := by decide +kernel
theorem dX11_let_10 : decode cX11_let 10 = .ok (.invokevirtual 185, 3) := by decide +kernel
theorem dX11_let_13 : decode cX11_let 13 = .ok (.goto 9, 3) := by decide +kernel
theorem dX11_let_16 : decode cX11_let 16 = .ok (.aload_n 0, 1) := by decide +kernel
theorem dX11_let_17 : decode cX11_let 17 = .ok (.ldc 78, 2) := by decide +kernel
theorem dX11_let_19 : decode cX11_let 19 = .ok (.invokevirtual 79, 3) := by decide +kernel
theorem dX11_let_22 : decode cX11_let 22 = .ok (.ireturn, 1) := by decide +kernel
theorem dX11_bits_0 : decode cX11_bits 0 = .ok (.iconst 0, 1) := by decide +kernel
theorem dX11_bits_1 : decode cX11_bits 1 = .ok (.istore_n 1, 1) := by decide +kernel
theorem dX11_bits_2 : decode cX11_bits 2 = .ok (.iconst 0, 1) := by decide +kernel
theorem dX11_bits_3 : decode cX11_bits 3 = .ok (.istore_n 2, 1) := by decide +kernel
theorem dX11_bits_4 : decode cX11_bits 4 = .ok (.iload_n 2, 1) := by decide +kernel
theorem dX11_bits_5 : decode cX11_bits 5 = .ok (.bipush 25, 2) := by decide +kernel
theorem dX11_bits_7 : decode cX11_bits 7 = .ok (.if_icmp .ge 17, 3) := by decide +kernel
theorem dX11_bits_10 : decode cX11_bits 10 = .ok (.iload_n 1, 1) := by decide +kernel
theorem dX11_bits_11 : decode cX11_bits 11 = .ok (.iload_n 0, 1) := by decide +kernel
theorem dX11_bits_12 : decode cX11_bits 12 = .ok (.iload_n 2, 1) := by decide +kernel
theorem dX11_bits_13 : decode cX11_bits 13 = .ok (.ishr, 1) := by decide +kernel
theorem dX11_bits_14 : decode cX11_bits 14 = .ok (.iconst 1, 1) := by decide +kernel
theorem dX11_bits_15 : decode cX11_bits 15 = .ok (.iand, 1) := by decide +kernel
theorem dX11_bits_16 : decode cX11_bits 16 = .ok (.iadd, 1) := by decide +kernel
theorem dX11_bits_17 : decode cX11_bits 17 = .ok (.istore_n 1, 1) := by decide +kernel
theorem dX11_bits_18 : decode cX11_bits 18 = .ok (.iinc 2 1, 3) := by decide +kernel
theorem dX11_bits_21 : decode cX11_bits 21 = .ok (.goto (-17), 3) := by decide +kernel
theorem dX11_bits_24 : decode cX11_bits 24 = .ok (.iload_n 1, 1) := by decide +kernel
theorem dX11_bits_25 : decode cX11_bits 25 = .ok (.ireturn, 1) := by decide +kernel
theorem dX11_out_0 : decode cX11_out 0 = .ok (.aload_n 0, 1) := by decide +kernel
theorem dX11_out_1 : decode cX11_out 1 = .ok (.iload_n 1, 1) := by decide +kernel
theorem dX11_out_2 : decode cX11_out 2 = .ok (.invokevirtual 182, 3) := by decide +kernel
theorem dX11_out_5 : decode cX11_out 5 = .ok (.ifCond .eq 12, 3) := by decide +kernel
theorem dX11_out_8 : decode cX11_out 8 = .ok (.iload_n 2, 1) := by decide +kernel
theorem dX11_out_9 : decode cX11_out 9 = .ok (.iconst 0, 1) := by decide +kernel
theorem dX11_out_10 : decode cX11_out 10 = .ok (.iconst 3, 1) := by decide +kernel
theorem dX11_out_11 : decode cX11_out 11 = .ok (.invokestatic 71, 3) := by decide +kernel
theorem dX11_out_14 : decode cX11_out 14 = .ok (.ifCond .ne 10, 3) := by decide +kernel
theorem dX11_out_17 : decode cX11_out 17 = .ok (.aload_n 0, 1) := by decide +kernel
theorem dX11_out_18 : decode cX11_out 18 = .ok (.ldc 78, 2) := by decide +kernel
theorem dX11_out_20 : decode cX11_out 20 = .ok (.invokevirtual 79, 3) := by decide +kernel
theorem dX11_out_23 : decode cX11_out 23 = .ok (.ireturn, 1) := by decide +kernel
theorem dX11_out_24 : decode cX11_out 24 = .ok (.aload_n 0, 1) := by decide +kernel
theorem dX11_out_25 : decode cX11_out 25 = .ok (.aload_n 0, 1) := by decide +kernel
theorem dX11_out_26 : decode cX11_out 26 = .ok (.getfield 7, 3) := by decide +kernel
theorem dX11_out_29 : decode cX11_out 29 = .ok (.aload_n 0, 1) := by decide +kernel
theorem dX11_out_30 : decode cX11_out 30 = .ok (.getfield 16, 3) := by decide +kernel
theorem dX11_out_33 : decode cX11_out 33 = .ok (.invokevirtual 188, 3) := by decide +kernel
theorem dX11_out_36 : decode cX11_out 36 = .ok (.aload_n 0, 1) := by decide +kernel
theorem dX11_out_37 : decode cX11_out 37 = .ok (.invokevirtual 132, 3) := by decide +kernel
theorem dX11_out_40 : decode cX11_out 40 = .ok (.istore_n 3, 1) := by decide +kernel
theorem dX11_out_41 : decode cX11_out 41 = .ok (.aload_n 0, 1) := by decide +kernel
theorem dX11_out_42 : decode cX11_out 42 = .ok (.iload_n 1, 1) := by decide +kernel
theorem dX11_out_43 : decode cX11_out 43 = .ok (.invokevirtual 179, 3) := by decide +kernel
theorem dX11_out_46 : decode cX11_out 46 = .ok (.istore 4, 2) := by decide +kernel
theorem dX11_out_48 : decode cX11_out 48 = .ok (.iload_n 3, 1) := by decide +kernel
theorem dX11_out_49 : decode cX11_out 49 = .ok (.aload_n 0, 1) := by decide +kernel
theorem dX11_out_50 : decode cX11_out 50 = .ok (.invokevirtual 132, 3) := by decide +kernel
theorem dX11_out_53 : decode cX11_out 53 = .ok (.ixor, 1) := by decide +kernel
theorem dX11_out_54 : decode cX11_out 54 = .ok (.invokestatic 192, 3) := by decide +kernel
theorem dX11_out_57 : decode cX11_out 57 = .ok (.istore 5, 2) := by decide +kernel
theorem dX11_out_59 : decode cX11_out 59 = .ok (.aload_n 0, 1) := by decide +kernel
theorem dX11_out_60 : decode cX11_out 60 = .ok (.aload_n 0, 1) := by decide +kernel
theorem dX11_out_61 : decode cX11_out 61 = .ok (.getfield 16, 3) := by decide +kernel
theorem dX11_out_64 : decode cX11_out 64 = .ok (.aload_n 0, 1) := by decide +kernel
theorem dX11_out_65 : decode cX11_out 65 = .ok (.getfield 7, 3) := by decide +kernel
theorem dX11_out_68 : decode cX11_out 68 = .ok (.invokevirtual 188, 3) := by decide +kernel
theorem dX11_out_71 : decode cX11_out 71 = .ok (.iload_n 2, 1) := by decide +kernel
theorem dX11_out_72 : decode cX11_out 72 = .ok (.ifCond .ne 8, 3) := by decide +kernel
theorem dX11_out_75 : decode cX11_out 75 = .ok (.iload 4, 2) := by decide +kernel
theorem dX11_out_77 : decode cX11_out 77 = .ok (.goto 29, 3) := by decide +kernel
theorem dX11_out_80 : decode cX11_out 80 = .ok (.iload_n 2, 1) := by decide +kernel
theorem dX11_out_81 : decode cX11_out 81 = .ok (.iconst 1, 1) := by decide +kernel
theorem dX11_out_82 : decode cX11_out 82 = .ok (.if_icmp .ne 10, 3) := by decide +kernel
theorem dX11_out_85 : decode cX11_out 85 = .ok (.aload_n 0, 1) := by decide +kernel
theorem dX11_out_86 : decode cX11_out 86 = .ok (.getfield 135, 3) := by decide +kernel
theorem dX11_out_89 : decode cX11_out 89 = .ok (.goto 17, 3) := by decide +kernel
theorem dX11_out_92 : decode cX11_out 92 = .ok (.iload_n 2, 1) := by decide +kernel
theorem dX11_out_93 : decode cX11_out 93 = .ok (.iconst 2, 1) := by decide +kernel
theorem dX11_out_94 : decode cX11_out 94 = .ok (.if_icmp .ne 10, 3) := by decide +kernel
theorem dX11_out_97 : decode cX11_out 97 = .ok (.aload_n 0, 1) := by decide +kernel
theorem dX11_out_98 : decode cX11_out 98 = .ok (.getfield 138, 3) := by decide +kernel
theorem dX11_out_101 : decode cX11_out 101 = .ok (.goto 5, 3) := by decide +kernel
theorem dX11_out_104 : decode cX11_out 104 = .ok (.iload 5, 2) := by decide +kernel
theorem dX11_out_106 : decode cX11_out 106 = .ok (.ireturn, 1) := by decide +kernel
theorem dX11_way_0 : decode cX11_way 0 = .ok (.aload_n 0, 1) := by decide +kernel
theorem dX11_way_1 : decode cX11_way 1 = .ok (.iload_n 1, 1) := by decide +kernel
theorem dX11_way_2 : decode cX11_way 2 = .ok (.invokevirtual 182, 3) := by decide +kernel
theorem dX11_way_5 : decode cX11_way 5 = .ok (.ifCond .eq 7, 3) := by decide +kernel
theorem dX11_way_8 : decode cX11_way 8 = .ok (.iload_n 2, 1) := by decide +kernel
theorem dX11_way_9 : decode cX11_way 9 = .ok (.ifCond .ge 10, 3) := by decide +kernel
theorem dX11_way_12 : decode cX11_way 12 = .ok (.aload_n 0, 1) := by decide +kernel
theorem dX11_way_13 : decode cX11_way 13 = .ok (.ldc 78, 2) := by decide +kernel
theorem dX11_way_15 : decode cX11_way 15 = .ok (.invokevirtual 79, 3) := by decide +kernel
theorem dX11_way_18 : decode cX11_way 18 = .ok (.ireturn, 1) := by decide +kernel
theorem dX11_way_19 : decode cX11_way 19 = .ok (.aload_n 0, 1) := by decide +kernel
theorem dX11_way_20 : decode cX11_way 20 = .ok (.aload_n 0, 1) := by decide +kernel
theorem dX11_way_21 : decode cX11_way 21 = .ok (.getfield 7, 3) := by decide +kernel
theorem dX11_way_24 : decode cX11_way 24 = .ok (.aload_n 0, 1) := by decide +kernel
theorem dX11_way_25 : decode cX11_way 25 = .ok (.getfield 16, 3) := by decide +kernel
theorem dX11_way_28 : decode cX11_way 28 = .ok (.invokevirtual 188, 3) := by decide +kernel
theorem dX11_way_31 : decode cX11_way 31 = .ok (.aload_n 0, 1) := by decide +kernel
theorem dX11_way_32 : decode cX11_way 32 = .ok (.iload_n 2, 1) := by decide +kernel
theorem dX11_way_33 : decode cX11_way 33 = .ok (.putfield 29, 3) := by decide +kernel
theorem dX11_way_36 : decode cX11_way 36 = .ok (.aload_n 0, 1) := by decide +kernel
theorem dX11_way_37 : decode cX11_way 37 = .ok (.iload_n 1, 1) := by decide +kernel
theorem dX11_way_38 : decode cX11_way 38 = .ok (.invokevirtual 179, 3) := by decide +kernel
theorem dX11_way_41 : decode cX11_way 41 = .ok (.istore_n 3, 1) := by decide +kernel
theorem dX11_way_42 : decode cX11_way 42 = .ok (.aload_n 0, 1) := by decide +kernel
theorem dX11_way_43 : decode cX11_way 43 = .ok (.iconst (-1), 1) := by decide +kernel
theorem dX11_way_44 : decode cX11_way 44 = .ok (.putfield 29, 3) := by decide +kernel
theorem dX11_way_47 : decode cX11_way 47 = .ok (.aload_n 0, 1) := by decide +kernel
theorem dX11_way_48 : decode cX11_way 48 = .ok (.aload_n 0, 1) := by decide +kernel
theorem dX11_way_49 : decode cX11_way 49 = .ok (.getfield 16, 3) := by decide +kernel
theorem dX11_way_52 : decode cX11_way 52 = .ok (.aload_n 0, 1) := by decide +kernel
theorem dX11_way_53 : decode cX11_way 53 = .ok (.getfield 7, 3) := by decide +kernel
theorem dX11_way_56 : decode cX11_way 56 = .ok (.invokevirtual 188, 3) := by decide +kernel
theorem dX11_way_59 : decode cX11_way 59 = .ok (.iload_n 3, 1) := by decide +kernel
theorem dX11_way_60 : decode cX11_way 60 = .ok (.ifCond .lt 10, 3) := by decide +kernel
theorem dX11_way_63 : decode cX11_way 63 = .ok (.aload_n 0, 1) := by decide +kernel
theorem dX11_way_64 : decode cX11_way 64 = .ok (.getfield 163, 3) := by decide +kernel
theorem dX11_way_67 : decode cX11_way 67 = .ok (.ifCond .ge 12, 3) := by decide +kernel
theorem dX11_way_70 : decode cX11_way 70 = .ok (.aload_n 0, 1) := by decide +kernel
theorem dX11_way_71 : decode cX11_way 71 = .ok (.ldc 195, 2) := by decide +kernel
theorem dX11_way_73 : decode cX11_way 73 = .ok (.invokevirtual 79, 3) := by decide +kernel
theorem dX11_way_76 : decode cX11_way 76 = .ok (.goto 7, 3) := by decide +kernel
theorem dX11_way_79 : decode cX11_way 79 = .ok (.aload_n 0, 1) := by decide +kernel
theorem dX11_way_80 : decode cX11_way 80 = .ok (.getfield 163, 3) := by decide +kernel
theorem dX11_way_83 : decode cX11_way 83 = .ok (.ireturn, 1) := by decide +kernel
theorem dX11_comesBack_0 : decode cX11_comesBack 0 = .ok (.aload_n 0, 1) := by decide +kernel
theorem dX11_comesBack_1 : decode cX11_comesBack 1 = .ok (.iload_n 1, 1) := by decide +kernel
theorem dX11_comesBack_2 : decode cX11_comesBack 2 = .ok (.iconst 0, 1) := by decide +kernel
theorem dX11_comesBack_3 : decode cX11_comesBack 3 = .ok (.invokevirtual 87, 3) := by decide +kernel
theorem dX11_comesBack_6 : decode cX11_comesBack 6 = .ok (.istore_n 3, 1) := by decide +kernel
theorem dX11_comesBack_7 : decode cX11_comesBack 7 = .ok (.aload_n 0, 1) := by decide +kernel
theorem dX11_comesBack_8 : decode cX11_comesBack 8 = .ok (.iload_n 1, 1) := by decide +kernel
theorem dX11_comesBack_9 : decode cX11_comesBack 9 = .ok (.iconst 4, 1) := by decide +kernel
theorem dX11_comesBack_10 : decode cX11_comesBack 10 = .ok (.aload_n 0, 1) := by decide +kernel
theorem dX11_comesBack_11 : decode cX11_comesBack 11 = .ok (.iload_n 1, 1) := by decide +kernel
theorem dX11_comesBack_12 : decode cX11_comesBack 12 = .ok (.iconst 4, 1) := by decide +kernel
theorem dX11_comesBack_13 : decode cX11_comesBack 13 = .ok (.invokevirtual 87, 3) := by decide +kernel
theorem dX11_comesBack_16 : decode cX11_comesBack 16 = .ok (.ifCond .le 14, 3) := by decide +kernel
theorem dX11_comesBack_19 : decode cX11_comesBack 19 = .ok (.aload_n 0, 1) := by decide +kernel
theorem dX11_comesBack_20 : decode cX11_comesBack 20 = .ok (.iload_n 1, 1) := by decide +kernel
theorem dX11_comesBack_21 : decode cX11_comesBack 21 = .ok (.iconst 4, 1) := by decide +kernel
theorem dX11_comesBack_22 : decode cX11_comesBack 22 = .ok (.invokevirtual 87, 3) := by decide +kernel
theorem dX11_comesBack_25 : decode cX11_comesBack 25 = .ok (.iconst 1, 1) := by decide +kernel
theorem dX11_comesBack_26 : decode cX11_comesBack 26 = .ok (.isub, 1) := by decide +kernel
theorem dX11_comesBack_27 : decode cX11_comesBack 27 = .ok (.goto 4, 3) := by decide +kernel
theorem dX11_comesBack_30 : decode cX11_comesBack 30 = .ok (.iconst 0, 1) := by decide +kernel
theorem dX11_comesBack_31 : decode cX11_comesBack 31 = .ok (.invokevirtual 91, 3) := by decide +kernel
theorem dX11_comesBack_34 : decode cX11_comesBack 34 = .ok (.iload_n 3, 1) := by decide +kernel
theorem dX11_comesBack_35 : decode cX11_comesBack 35 = .ok (.iconst 5, 1) := by decide +kernel
theorem dX11_comesBack_36 : decode cX11_comesBack 36 = .ok (.if_icmp .ne 29, 3) := by decide +kernel
theorem dX11_comesBack_39 : decode cX11_comesBack 39 = .ok (.aload_n 0, 1) := by decide +kernel
theorem dX11_comesBack_40 : decode cX11_comesBack 40 = .ok (.iload_n 1, 1) := by decide +kernel
theorem dX11_comesBack_41 : decode cX11_comesBack 41 = .ok (.iconst 3, 1) := by decide +kernel
theorem dX11_comesBack_42 : decode cX11_comesBack 42 = .ok (.invokevirtual 87, 3) := by decide +kernel
theorem dX11_comesBack_45 : decode cX11_comesBack 45 = .ok (.ifCond .le 20, 3) := by decide +kernel
theorem dX11_comesBack_48 : decode cX11_comesBack 48 = .ok (.aload_n 0, 1) := by decide +kernel
theorem dX11_comesBack_49 : decode cX11_comesBack 49 = .ok (.iload_n 1, 1) := by decide +kernel
theorem dX11_comesBack_50 : decode cX11_comesBack 50 = .ok (.iconst 3, 1) := by decide +kernel
theorem dX11_comesBack_51 : decode cX11_comesBack 51 = .ok (.aload_n 0, 1) := by decide +kernel
theorem dX11_comesBack_52 : decode cX11_comesBack 52 = .ok (.iload_n 1, 1) := by decide +kernel
theorem dX11_comesBack_53 : decode cX11_comesBack 53 = .ok (.iconst 3, 1) := by decide +kernel
theorem dX11_comesBack_54 : decode cX11_comesBack 54 = .ok (.invokevirtual 87, 3) := by decide +kernel
theorem dX11_comesBack_57 : decode cX11_comesBack 57 = .ok (.iconst 1, 1) := by decide +kernel
theorem dX11_comesBack_58 : decode cX11_comesBack 58 = .ok (.isub, 1) := by decide +kernel
theorem dX11_comesBack_59 : decode cX11_comesBack 59 = .ok (.invokevirtual 91, 3) := by decide +kernel
theorem dX11_comesBack_62 : decode cX11_comesBack 62 = .ok (.goto 42, 3) := by decide +kernel
theorem dX11_comesBack_65 : decode cX11_comesBack 65 = .ok (.iload_n 3, 1) := by decide +kernel
theorem dX11_comesBack_66 : decode cX11_comesBack 66 = .ok (.iconst 5, 1) := by decide +kernel
theorem dX11_comesBack_67 : decode cX11_comesBack 67 = .ok (.if_icmp .ne 27, 3) := by decide +kernel
theorem dX11_comesBack_70 : decode cX11_comesBack 70 = .ok (.aload_n 0, 1) := by decide +kernel
theorem dX11_comesBack_71 : decode cX11_comesBack 71 = .ok (.iload_n 1, 1) := by decide +kernel
theorem dX11_comesBack_72 : decode cX11_comesBack 72 = .ok (.iconst 3, 1) := by decide +kernel
theorem dX11_comesBack_73 : decode cX11_comesBack 73 = .ok (.iconst 1, 1) := by decide +kernel
theorem dX11_comesBack_74 : decode cX11_comesBack 74 = .ok (.aload_n 0, 1) := by decide +kernel
theorem dX11_comesBack_75 : decode cX11_comesBack 75 = .ok (.iload_n 1, 1) := by decide +kernel
theorem dX11_comesBack_76 : decode cX11_comesBack 76 = .ok (.iconst 1, 1) := by decide +kernel
theorem dX11_comesBack_77 : decode cX11_comesBack 77 = .ok (.invokevirtual 87, 3) := by decide +kernel
theorem dX11_comesBack_80 : decode cX11_comesBack 80 = .ok (.iconst 3, 1) := by decide +kernel
theorem dX11_comesBack_81 : decode cX11_comesBack 81 = .ok (.irem, 1) := by decide +kernel
theorem dX11_comesBack_82 : decode cX11_comesBack 82 = .ok (.iadd, 1) := by decide +kernel
theorem dX11_comesBack_83 : decode cX11_comesBack 83 = .ok (.invokevirtual 91, 3) := by decide +kernel
theorem dX11_comesBack_86 : decode cX11_comesBack 86 = .ok (.aload_n 0, 1) := by decide +kernel
theorem dX11_comesBack_87 : decode cX11_comesBack 87 = .ok (.iload_n 1, 1) := by decide +kernel
theorem dX11_comesBack_88 : decode cX11_comesBack 88 = .ok (.invokevirtual 125, 3) := by decide +kernel
theorem dX11_comesBack_91 : decode cX11_comesBack 91 = .ok (.goto 13, 3) := by decide +kernel
theorem dX11_comesBack_94 : decode cX11_comesBack 94 = .ok (.iload_n 3, 1) := by decide +kernel
theorem dX11_comesBack_95 : decode cX11_comesBack 95 = .ok (.iconst 1, 1) := by decide +kernel
theorem dX11_comesBack_96 : decode cX11_comesBack 96 = .ok (.if_icmp .ne 8, 3) := by decide +kernel
theorem dX11_comesBack_99 : decode cX11_comesBack 99 = .ok (.aload_n 0, 1) := by decide +kernel
theorem dX11_comesBack_100 : decode cX11_comesBack 100 = .ok (.iload_n 1, 1) := by decide +kernel
theorem dX11_comesBack_101 : decode cX11_comesBack 101 = .ok (.invokevirtual 125, 3) := by decide +kernel
theorem dX11_comesBack_104 : decode cX11_comesBack 104 = .ok (.aload_n 0, 1) := by decide +kernel
theorem dX11_comesBack_105 : decode cX11_comesBack 105 = .ok (.iload_n 1, 1) := by decide +kernel
theorem dX11_comesBack_106 : decode cX11_comesBack 106 = .ok (.invokevirtual 105, 3) := by decide +kernel
theorem dX11_comesBack_109 : decode cX11_comesBack 109 = .ok (.ifCond .eq 16, 3) := by decide +kernel
theorem dX11_comesBack_112 : decode cX11_comesBack 112 = .ok (.iload_n 2, 1) := by decide +kernel
theorem dX11_comesBack_113 : decode cX11_comesBack 113 = .ok (.aload_n 0, 1) := by decide +kernel
theorem dX11_comesBack_114 : decode cX11_comesBack 114 = .ok (.iload_n 1, 1) := by decide +kernel
theorem dX11_comesBack_115 : decode cX11_comesBack 115 = .ok (.iconst 2, 1) := by decide +kernel
theorem dX11_comesBack_116 : decode cX11_comesBack 116 = .ok (.invokevirtual 87, 3) := by decide +kernel
theorem dX11_comesBack_119 : decode cX11_comesBack 119 = .ok (.invokestatic 150, 3) := by decide +kernel
theorem dX11_comesBack_122 : decode cX11_comesBack 122 = .ok (.goto 4, 3) := by decide +kernel
theorem dX11_comesBack_125 : decode cX11_comesBack 125 = .ok (.iload_n 2, 1) := by decide +kernel
theorem dX11_comesBack_126 : decode cX11_comesBack 126 = .ok (.istore 4, 2) := by decide +kernel
theorem dX11_comesBack_128 : decode cX11_comesBack 128 = .ok (.aload_n 0, 1) := by decide +kernel
theorem dX11_comesBack_129 : decode cX11_comesBack 129 = .ok (.iload 4, 2) := by decide +kernel
theorem dX11_comesBack_131 : decode cX11_comesBack 131 = .ok (.iconst 2, 1) := by decide +kernel
theorem dX11_comesBack_132 : decode cX11_comesBack 132 = .ok (.iadd, 1) := by decide +kernel
theorem dX11_comesBack_133 : decode cX11_comesBack 133 = .ok (.iconst 4, 1) := by decide +kernel
theorem dX11_comesBack_134 : decode cX11_comesBack 134 = .ok (.irem, 1) := by decide +kernel
theorem dX11_comesBack_135 : decode cX11_comesBack 135 = .ok (.putfield 147, 3) := by decide +kernel
theorem dX11_comesBack_138 : decode cX11_comesBack 138 = .ok (.return_, 1) := by decide +kernel
theorem dX11_undo_0 : decode cX11_undo 0 = .ok (.aload_n 0, 1) := by decide +kernel
theorem dX11_undo_1 : decode cX11_undo 1 = .ok (.iload_n 1, 1) := by decide +kernel
theorem dX11_undo_2 : decode cX11_undo 2 = .ok (.invokevirtual 182, 3) := by decide +kernel
theorem dX11_undo_5 : decode cX11_undo 5 = .ok (.ifCond .ne 10, 3) := by decide +kernel
theorem dX11_undo_8 : decode cX11_undo 8 = .ok (.aload_n 0, 1) := by decide +kernel
theorem dX11_undo_9 : decode cX11_undo 9 = .ok (.ldc 78, 2) := by decide +kernel
theorem dX11_undo_11 : decode cX11_undo 11 = .ok (.invokevirtual 79, 3) := by decide +kernel
theorem dX11_undo_14 : decode cX11_undo 14 = .ok (.ireturn, 1) := by decide +kernel
theorem dX11_undo_15 : decode cX11_undo 15 = .ok (.aload_n 0, 1) := by decide +kernel
theorem dX11_undo_16 : decode cX11_undo 16 = .ok (.aload_n 0, 1) := by decide +kernel
theorem dX11_undo_17 : decode cX11_undo 17 = .ok (.getfield 7, 3) := by decide +kernel
theorem dX11_undo_20 : decode cX11_undo 20 = .ok (.aload_n 0, 1) := by decide +kernel
theorem dX11_undo_21 : decode cX11_undo 21 = .ok (.getfield 16, 3) := by decide +kernel
theorem dX11_undo_24 : decode cX11_undo 24 = .ok (.invokevirtual 188, 3) := by decide +kernel
theorem dX11_undo_27 : decode cX11_undo 27 = .ok (.aload_n 0, 1) := by decide +kernel
theorem dX11_undo_28 : decode cX11_undo 28 = .ok (.iload_n 1, 1) := by decide +kernel
theorem dX11_undo_29 : decode cX11_undo 29 = .ok (.invokevirtual 156, 3) := by decide +kernel
theorem dX11_undo_32 : decode cX11_undo 32 = .ok (.iconst 1, 1) := by decide +kernel
theorem dX11_undo_33 : decode cX11_undo 33 = .ok (.istore_n 2, 1) := by decide +kernel
theorem dX11_undo_34 : decode cX11_undo 34 = .ok (.iload_n 2, 1) := by decide +kernel
theorem dX11_undo_35 : decode cX11_undo 35 = .ok (.ifCond .eq 85, 3) := by decide +kernel
theorem dX11_undo_38 : decode cX11_undo 38 = .ok (.aload_n 0, 1) := by decide +kernel
theorem dX11_undo_39 : decode cX11_undo 39 = .ok (.invokevirtual 166, 3) := by decide +kernel
theorem dX11_undo_42 : decode cX11_undo 42 = .ok (.ifCond .ne 78, 3) := by decide +kernel
theorem dX11_undo_45 : decode cX11_undo 45 = .ok (.aload_n 0, 1) := by decide +kernel
theorem dX11_undo_46 : decode cX11_undo 46 = .ok (.getfield 7, 3) := by decide +kernel
theorem dX11_undo_49 : decode cX11_undo 49 = .ok (.iconst 1, 1) := by decide +kernel
theorem dX11_undo_50 : decode cX11_undo 50 = .ok (.iaload, 1) := by decide +kernel
theorem dX11_undo_51 : decode cX11_undo 51 = .ok (.aload_n 0, 1) := by decide +kernel
theorem dX11_undo_52 : decode cX11_undo 52 = .ok (.getfield 141, 3) := by decide +kernel
theorem dX11_undo_55 : decode cX11_undo 55 = .ok (.imul, 1) := by decide +kernel
theorem dX11_undo_56 : decode cX11_undo 56 = .ok (.aload_n 0, 1) := by decide +kernel
theorem dX11_undo_57 : decode cX11_undo 57 = .ok (.getfield 144, 3) := by decide +kernel
theorem dX11_undo_60 : decode cX11_undo 60 = .ok (.iadd, 1) := by decide +kernel
theorem dX11_undo_61 : decode cX11_undo 61 = .ok (.istore_n 3, 1) := by decide +kernel
theorem dX11_undo_62 : decode cX11_undo 62 = .ok (.aload_n 0, 1) := by decide +kernel
theorem dX11_undo_63 : decode cX11_undo 63 = .ok (.iload_n 3, 1) := by decide +kernel
theorem dX11_undo_64 : decode cX11_undo 64 = .ok (.invokevirtual 108, 3) := by decide +kernel
theorem dX11_undo_67 : decode cX11_undo 67 = .ok (.ifCond .ne 17, 3) := by decide +kernel
theorem dX11_undo_70 : decode cX11_undo 70 = .ok (.aload_n 0, 1) := by decide +kernel
theorem dX11_undo_71 : decode cX11_undo 71 = .ok (.getfield 135, 3) := by decide +kernel
theorem dX11_undo_74 : decode cX11_undo 74 = .ok (.sipush 5000, 3) := by decide +kernel
theorem dX11_undo_77 : decode cX11_undo 77 = .ok (.if_icmp .ge 7, 3) := by decide +kernel
theorem dX11_undo_80 : decode cX11_undo 80 = .ok (.iconst 1, 1) := by decide +kernel
theorem dX11_undo_81 : decode cX11_undo 81 = .ok (.goto 4, 3) := by decide +kernel
theorem dX11_undo_84 : decode cX11_undo 84 = .ok (.iconst 0, 1) := by decide +kernel
theorem dX11_undo_85 : decode cX11_undo 85 = .ok (.istore_n 2, 1) := by decide +kernel
theorem dX11_undo_86 : decode cX11_undo 86 = .ok (.iload_n 2, 1) := by decide +kernel
theorem dX11_undo_87 : decode cX11_undo 87 = .ok (.ifCond .eq 30, 3) := by decide +kernel
theorem dX11_undo_90 : decode cX11_undo 90 = .ok (.aload_n 0, 1) := by decide +kernel
theorem dX11_undo_91 : decode cX11_undo 91 = .ok (.dup, 1) := by decide +kernel
theorem dX11_undo_92 : decode cX11_undo 92 = .ok (.getfield 135, 3) := by decide +kernel
theorem dX11_undo_95 : decode cX11_undo 95 = .ok (.iconst 1, 1) := by decide +kernel
theorem dX11_undo_96 : decode cX11_undo 96 = .ok (.iadd, 1) := by decide +kernel
theorem dX11_undo_97 : decode cX11_undo 97 = .ok (.putfield 135, 3) := by decide +kernel
theorem dX11_undo_100 : decode cX11_undo 100 = .ok (.aload_n 0, 1) := by decide +kernel
theorem dX11_undo_101 : decode cX11_undo 101 = .ok (.iload_n 3, 1) := by decide +kernel
theorem dX11_undo_102 : decode cX11_undo 102 = .ok (.aload_n 0, 1) := by decide +kernel
theorem dX11_undo_103 : decode cX11_undo 103 = .ok (.getfield 147, 3) := by decide +kernel
theorem dX11_undo_106 : decode cX11_undo 106 = .ok (.iconst 2, 1) := by decide +kernel
theorem dX11_undo_107 : decode cX11_undo 107 = .ok (.iadd, 1) := by decide +kernel
theorem dX11_undo_108 : decode cX11_undo 108 = .ok (.iconst 4, 1) := by decide +kernel
theorem dX11_undo_109 : decode cX11_undo 109 = .ok (.irem, 1) := by decide +kernel
theorem dX11_undo_110 : decode cX11_undo 110 = .ok (.invokevirtual 196, 3) := by decide +kernel
theorem dX11_undo_113 : decode cX11_undo 113 = .ok (.aload_n 0, 1) := by decide +kernel
theorem dX11_undo_114 : decode cX11_undo 114 = .ok (.invokevirtual 173, 3) := by decide +kernel
theorem dX11_undo_117 : decode cX11_undo 117 = .ok (.goto (-83), 3) := by decide +kernel
theorem dX11_undo_120 : decode cX11_undo 120 = .ok (.iload_n 2, 1) := by decide +kernel
theorem dX11_undo_121 : decode cX11_undo 121 = .ok (.ifCond .ne 22, 3) := by decide +kernel
theorem dX11_undo_124 : decode cX11_undo 124 = .ok (.aload_n 0, 1) := by decide +kernel
theorem dX11_undo_125 : decode cX11_undo 125 = .ok (.aload_n 0, 1) := by decide +kernel
theorem dX11_undo_126 : decode cX11_undo 126 = .ok (.getfield 16, 3) := by decide +kernel
theorem dX11_undo_129 : decode cX11_undo 129 = .ok (.aload_n 0, 1) := by decide +kernel
theorem dX11_undo_130 : decode cX11_undo 130 = .ok (.getfield 7, 3) := by decide +kernel
theorem dX11_undo_133 : decode cX11_undo 133 = .ok (.invokevirtual 188, 3) := by decide +kernel
theorem dX11_undo_136 : decode cX11_undo 136 = .ok (.aload_n 0, 1) := by decide +kernel
theorem dX11_undo_137 : decode cX11_undo 137 = .ok (.ldc 128, 2) := by decide +kernel
theorem dX11_undo_139 : decode cX11_undo 139 = .ok (.invokevirtual 79, 3) := by decide +kernel
theorem dX11_undo_142 : decode cX11_undo 142 = .ok (.ireturn, 1) := by decide +kernel
theorem dX11_undo_143 : decode cX11_undo 143 = .ok (.aload_n 0, 1) := by decide +kernel
theorem dX11_undo_144 : decode cX11_undo 144 = .ok (.invokevirtual 176, 3) := by decide +kernel
theorem dX11_undo_147 : decode cX11_undo 147 = .ok (.ireturn, 1) := by decide +kernel
theorem dX11_byteAt_0 : decode cX11_byteAt 0 = .ok (.iload_n 1, 1) := by decide +kernel
theorem dX11_byteAt_1 : decode cX11_byteAt 1 = .ok (.aload_n 0, 1) := by decide +kernel
theorem dX11_byteAt_2 : decode cX11_byteAt 2 = .ok (.getfield 200, 3) := by decide +kernel
theorem dX11_byteAt_5 : decode cX11_byteAt 5 = .ok (.if_icmp .ge 24, 3) := by decide +kernel
theorem dX11_byteAt_8 : decode cX11_byteAt 8 = .ok (.aload_n 0, 1) := by decide +kernel
theorem dX11_byteAt_9 : decode cX11_byteAt 9 = .ok (.getfield 7, 3) := by decide +kernel
theorem dX11_byteAt_12 : decode cX11_byteAt 12 = .ok (.sipush 205, 3) := by decide +kernel
theorem dX11_byteAt_15 : decode cX11_byteAt 15 = .ok (.bipush 50, 2) := by decide +kernel
theorem dX11_byteAt_17 : decode cX11_byteAt 17 = .ok (.aload_n 0, 1) := by decide +kernel
theorem dX11_byteAt_18 : decode cX11_byteAt 18 = .ok (.getfield 203, 3) := by decide +kernel
theorem dX11_byteAt_21 : decode cX11_byteAt 21 = .ok (.imul, 1) := by decide +kernel
theorem dX11_byteAt_22 : decode cX11_byteAt 22 = .ok (.iadd, 1) := by decide +kernel
theorem dX11_byteAt_23 : decode cX11_byteAt 23 = .ok (.iload_n 1, 1) := by decide +kernel
theorem dX11_byteAt_24 : decode cX11_byteAt 24 = .ok (.iadd, 1) := by decide +kernel
theorem dX11_byteAt_25 : decode cX11_byteAt 25 = .ok (.iaload, 1) := by decide +kernel
theorem dX11_byteAt_26 : decode cX11_byteAt 26 = .ok (.goto 4, 3) := by decide +kernel
theorem dX11_byteAt_29 : decode cX11_byteAt 29 = .ok (.iconst (-1), 1) := by decide +kernel
theorem dX11_byteAt_30 : decode cX11_byteAt 30 = .ok (.ireturn, 1) := by decide +kernel
theorem dX11_isDigit_0 : decode cX11_isDigit 0 = .ok (.iload_n 0, 1) := by decide +kernel
theorem dX11_isDigit_1 : decode cX11_isDigit 1 = .ok (.bipush 48, 2) := by decide +kernel
theorem dX11_isDigit_3 : decode cX11_isDigit 3 = .ok (.bipush 57, 2) := by decide +kernel
theorem dX11_isDigit_5 : decode cX11_isDigit 5 = .ok (.invokestatic 71, 3) := by decide +kernel
theorem dX11_isDigit_8 : decode cX11_isDigit 8 = .ok (.ireturn, 1) := by decide +kernel
theorem dX11_fails_0 : decode cX11_fails 0 = .ok (.aload_n 0, 1) := by decide +kernel
theorem dX11_fails_1 : decode cX11_fails 1 = .ok (.iconst 0, 1) := by decide +kernel
theorem dX11_fails_2 : decode cX11_fails 2 = .ok (.putfield 206, 3) := by decide +kernel
theorem dX11_fails_5 : decode cX11_fails 5 = .ok (.iconst 0, 1) := by decide +kernel
theorem dX11_fails_6 : decode cX11_fails 6 = .ok (.ireturn, 1) := by decide +kernel
theorem dX11_number_0 : decode cX11_number 0 = .ok (.iconst 0, 1) := by decide +kernel
theorem dX11_number_1 : decode cX11_number 1 = .ok (.istore_n 1, 1) := by decide +kernel
theorem dX11_number_2 : decode cX11_number 2 = .ok (.iconst 0, 1) := by decide +kernel
theorem dX11_number_3 : decode cX11_number 3 = .ok (.istore_n 2, 1) := by decide +kernel
theorem dX11_number_4 : decode cX11_number 4 = .ok (.iload_n 2, 1) := by decide +kernel
theorem dX11_number_5 : decode cX11_number 5 = .ok (.iconst 4, 1) := by decide +kernel
theorem dX11_number_6 : decode cX11_number 6 = .ok (.if_icmp .ge 50, 3) := by decide +kernel
theorem dX11_number_9 : decode cX11_number 9 = .ok (.aload_n 0, 1) := by decide +kernel
theorem dX11_number_10 : decode cX11_number 10 = .ok (.aload_n 0, 1) := by decide +kernel
theorem dX11_number_11 : decode cX11_number 11 = .ok (.getfield 209, 3) := by decide +kernel
theorem dX11_number_14 : decode cX11_number 14 = .ok (.invokevirtual 212, 3) := by decide +kernel
theorem dX11_number_17 : decode cX11_number 17 = .ok (.invokestatic 215, 3) := by decide +kernel
theorem dX11_number_20 : decode cX11_number 20 = .ok (.ifCond .eq 36, 3) := by decide +kernel
theorem dX11_number_23 : decode cX11_number 23 = .ok (.bipush 10, 2) := by decide +kernel
theorem dX11_number_25 : decode cX11_number 25 = .ok (.iload_n 1, 1) := by decide +kernel
theorem dX11_number_26 : decode cX11_number 26 = .ok (.imul, 1) := by decide +kernel
theorem dX11_number_27 : decode cX11_number 27 = .ok (.aload_n 0, 1) := by decide +kernel
theorem dX11_number_28 : decode cX11_number 28 = .ok (.aload_n 0, 1) := by decide +kernel
theorem dX11_number_29 : decode cX11_number 29 = .ok (.getfield 209, 3) := by decide +kernel
theorem dX11_number_32 : decode cX11_number 32 = .ok (.invokevirtual 212, 3) := by decide +kernel
theorem dX11_number_35 : decode cX11_number 35 = .ok (.iadd, 1) := by decide +kernel
theorem dX11_number_36 : decode cX11_number 36 = .ok (.bipush 48, 2) := by decide +kernel
theorem dX11_number_38 : decode cX11_number 38 = .ok (.isub, 1) := by decide +kernel
theorem dX11_number_39 : decode cX11_number 39 = .ok (.istore_n 1, 1) := by decide +kernel
theorem dX11_number_40 : decode cX11_number 40 = .ok (.aload_n 0, 1) := by decide +kernel
theorem dX11_number_41 : decode cX11_number 41 = .ok (.dup, 1) := by decide +kernel
theorem dX11_number_42 : decode cX11_number 42 = .ok (.getfield 209, 3) := by decide +kernel
theorem dX11_number_45 : decode cX11_number 45 = .ok (.iconst 1, 1) := by decide +kernel
theorem dX11_number_46 : decode cX11_number 46 = .ok (.iadd, 1) := by decide +kernel
theorem dX11_number_47 : decode cX11_number 47 = .ok (.putfield 209, 3) := by decide +kernel
theorem dX11_number_50 : decode cX11_number 50 = .ok (.iinc 2 1, 3) := by decide +kernel
theorem dX11_number_53 : decode cX11_number 53 = .ok (.goto (-49), 3) := by decide +kernel
theorem dX11_number_56 : decode cX11_number 56 = .ok (.iload_n 1, 1) := by decide +kernel
theorem dX11_number_57 : decode cX11_number 57 = .ok (.ireturn, 1) := by decide +kernel
theorem dX11_named_0 : decode cX11_named 0 = .ok (.iload_n 1, 1) := by decide +kernel
theorem dX11_named_1 : decode cX11_named 1 = .ok (.aload_n 0, 1) := by decide +kernel
theorem dX11_named_2 : decode cX11_named 2 = .ok (.getfield 203, 3) := by decide +kernel
theorem dX11_named_5 : decode cX11_named 5 = .ok (.ifCond .ne 8, 3) := by decide +kernel
theorem dX11_named_8 : decode cX11_named 8 = .ok (.bipush 114, 2) := by decide +kernel
theorem dX11_named_10 : decode cX11_named 10 = .ok (.goto 5, 3) := by decide +kernel
theorem dX11_named_13 : decode cX11_named 13 = .ok (.bipush 105, 2) := by decide +kernel
theorem dX11_named_15 : decode cX11_named 15 = .ok (.if_icmp .ne 7, 3) := by decide +kernel
theorem dX11_named_18 : decode cX11_named 18 = .ok (.iconst 1, 1) := by decide +kernel
theorem dX11_named_19 : decode cX11_named 19 = .ok (.goto 4, 3) := by decide +kernel
theorem dX11_named_22 : decode cX11_named 22 = .ok (.iconst 0, 1) := by decide +kernel
theorem dX11_named_23 : decode cX11_named 23 = .ok (.istore_n 2, 1) := by decide +kernel
theorem dX11_named_24 : decode cX11_named 24 = .ok (.iload_n 1, 1) := by decide +kernel
theorem dX11_named_25 : decode cX11_named 25 = .ok (.aload_n 0, 1) := by decide +kernel
theorem dX11_named_26 : decode cX11_named 26 = .ok (.getfield 203, 3) := by decide +kernel
theorem dX11_named_29 : decode cX11_named 29 = .ok (.ifCond .ne 8, 3) := by decide +kernel
theorem dX11_named_32 : decode cX11_named 32 = .ok (.bipush 99, 2) := by decide +kernel
theorem dX11_named_34 : decode cX11_named 34 = .ok (.goto 5, 3) := by decide +kernel
theorem dX11_named_37 : decode cX11_named 37 = .ok (.bipush 111, 2) := by decide +kernel
theorem dX11_named_39 : decode cX11_named 39 = .ok (.if_icmp .ne 7, 3) := by decide +kernel
theorem dX11_named_42 : decode cX11_named 42 = .ok (.iconst 1, 1) := by decide +kernel
theorem dX11_named_43 : decode cX11_named 43 = .ok (.goto 4, 3) := by decide +kernel
theorem dX11_named_46 : decode cX11_named 46 = .ok (.iconst 0, 1) := by decide +kernel
theorem dX11_named_47 : decode cX11_named 47 = .ok (.istore_n 3, 1) := by decide +kernel
theorem dX11_named_48 : decode cX11_named 48 = .ok (.iload_n 1, 1) := by decide +kernel
theorem dX11_named_49 : decode cX11_named 49 = .ok (.aload_n 0, 1) := by decide +kernel
theorem dX11_named_50 : decode cX11_named 50 = .ok (.getfield 203, 3) := by decide +kernel
theorem dX11_named_53 : decode cX11_named 53 = .ok (.ifCond .ne 8, 3) := by decide +kernel
theorem dX11_named_56 : decode cX11_named 56 = .ok (.bipush 109, 2) := by decide +kernel
theorem dX11_named_58 : decode cX11_named 58 = .ok (.goto 5, 3) := by decide +kernel
theorem dX11_named_61 : decode cX11_named 61 = .ok (.bipush 116, 2) := by decide +kernel
theorem dX11_named_63 : decode cX11_named 63 = .ok (.if_icmp .ne 7, 3) := by decide +kernel
theorem dX11_named_66 : decode cX11_named 66 = .ok (.iconst 1, 1) := by decide +kernel
theorem dX11_named_67 : decode cX11_named 67 = .ok (.goto 4, 3) := by decide +kernel
theorem dX11_named_70 : decode cX11_named 70 = .ok (.iconst 0, 1) := by decide +kernel
theorem dX11_named_71 : decode cX11_named 71 = .ok (.istore 4, 2) := by decide +kernel
theorem dX11_named_73 : decode cX11_named 73 = .ok (.iload_n 2, 1) := by decide +kernel
theorem dX11_named_74 : decode cX11_named 74 = .ok (.ifCond .ne 17, 3) := by decide +kernel
theorem dX11_named_77 : decode cX11_named 77 = .ok (.iload_n 3, 1) := by decide +kernel
theorem dX11_named_78 : decode cX11_named 78 = .ok (.ifCond .ne 13, 3) := by decide +kernel
theorem dX11_named_81 : decode cX11_named 81 = .ok (.iload 4, 2) := by decide +kernel
theorem dX11_named_83 : decode cX11_named 83 = .ok (.ifCond .ne 8, 3) := by decide +kernel
theorem dX11_named_86 : decode cX11_named 86 = .ok (.aload_n 0, 1) := by decide +kernel
theorem dX11_named_87 : decode cX11_named 87 = .ok (.invokevirtual 218, 3) := by decide +kernel
theorem dX11_named_90 : decode cX11_named 90 = .ok (.ireturn, 1) := by decide +kernel
theorem dX11_named_91 : decode cX11_named 91 = .ok (.aload_n 0, 1) := by decide +kernel
theorem dX11_named_92 : decode cX11_named 92 = .ok (.dup, 1) := by decide +kernel
theorem dX11_named_93 : decode cX11_named 93 = .ok (.getfield 209, 3) := by decide +kernel
theorem dX11_named_96 : decode cX11_named 96 = .ok (.iconst 1, 1) := by decide +kernel
theorem dX11_named_97 : decode cX11_named 97 = .ok (.iadd, 1) := by decide +kernel
theorem dX11_named_98 : decode cX11_named 98 = .ok (.putfield 209, 3) := by decide +kernel
theorem dX11_named_101 : decode cX11_named 101 = .ok (.iload_n 2, 1) := by decide +kernel
theorem dX11_named_102 : decode cX11_named 102 = .ok (.ifCond .eq 10, 3) := by decide +kernel
theorem dX11_named_105 : decode cX11_named 105 = .ok (.aload_n 0, 1) := by decide +kernel
theorem dX11_named_106 : decode cX11_named 106 = .ok (.getfield 221, 3) := by decide +kernel
theorem dX11_named_109 : decode cX11_named 109 = .ok (.goto 18, 3) := by decide +kernel
theorem dX11_named_112 : decode cX11_named 112 = .ok (.iload_n 3, 1) := by decide +kernel
theorem dX11_named_113 : decode cX11_named 113 = .ok (.ifCond .eq 10, 3) := by decide +kernel
theorem dX11_named_116 : decode cX11_named 116 = .ok (.aload_n 0, 1) := by decide +kernel
theorem dX11_named_117 : decode cX11_named 117 = .ok (.getfield 224, 3) := by decide +kernel
theorem dX11_named_120 : decode cX11_named 120 = .ok (.goto 7, 3) := by decide +kernel
theorem dX11_named_123 : decode cX11_named 123 = .ok (.aload_n 0, 1) := by decide +kernel
theorem dX11_named_124 : decode cX11_named 124 = .ok (.getfield 227, 3) := by decide +kernel
theorem dX11_named_127 : decode cX11_named 127 = .ok (.ireturn, 1) := by decide +kernel
theorem dX11_factor_0 : decode cX11_factor 0 = .ok (.aload_n 0, 1) := by decide +kernel
theorem dX11_factor_1 : decode cX11_factor 1 = .ok (.aload_n 0, 1) := by decide +kernel
theorem dX11_factor_2 : decode cX11_factor 2 = .ok (.getfield 209, 3) := by decide +kernel
theorem dX11_factor_5 : decode cX11_factor 5 = .ok (.invokevirtual 212, 3) := by decide +kernel
theorem dX11_factor_8 : decode cX11_factor 8 = .ok (.istore_n 1, 1) := by decide +kernel
theorem dX11_factor_9 : decode cX11_factor 9 = .ok (.iload_n 1, 1) := by decide +kernel
theorem dX11_factor_10 : decode cX11_factor 10 = .ok (.invokestatic 215, 3) := by decide +kernel
theorem dX11_factor_13 : decode cX11_factor 13 = .ok (.ifCond .eq 8, 3) := by decide +kernel
theorem dX11_factor_16 : decode cX11_factor 16 = .ok (.aload_n 0, 1) := by decide +kernel
theorem dX11_factor_17 : decode cX11_factor 17 = .ok (.invokevirtual 230, 3) := by decide +kernel
theorem dX11_factor_20 : decode cX11_factor 20 = .ok (.ireturn, 1) := by decide +kernel
theorem dX11_factor_21 : decode cX11_factor 21 = .ok (.iload_n 1, 1) := by decide +kernel
theorem dX11_factor_22 : decode cX11_factor 22 = .ok (.bipush 33, 2) := by decide +kernel
theorem dX11_factor_24 : decode cX11_factor 24 = .ok (.if_icmp .eq 15, 3) := by decide +kernel
theorem dX11_factor_27 : decode cX11_factor 27 = .ok (.iload_n 1, 1) := by decide +kernel
theorem dX11_factor_28 : decode cX11_factor 28 = .ok (.bipush 40, 2) := by decide +kernel
theorem dX11_factor_30 : decode cX11_factor 30 = .ok (.if_icmp .eq 9, 3) := by decide +kernel
theorem dX11_factor_33 : decode cX11_factor 33 = .ok (.aload_n 0, 1) := by decide +kernel
theorem dX11_factor_34 : decode cX11_factor 34 = .ok (.iload_n 1, 1) := by decide +kernel
theorem dX11_factor_35 : decode cX11_factor 35 = .ok (.invokevirtual 233, 3) := by decide +kernel
theorem dX11_factor_38 : decode cX11_factor 38 = .ok (.ireturn, 1) := by decide +kernel
theorem dX11_factor_39 : decode cX11_factor 39 = .ok (.aload_n 0, 1) := by decide +kernel
theorem dX11_factor_40 : decode cX11_factor 40 = .ok (.getfield 236, 3) := by decide +kernel
theorem dX11_factor_43 : decode cX11_factor 43 = .ok (.iconst 5, 1) := by decide +kernel
theorem dX11_factor_44 : decode cX11_factor 44 = .ok (.if_icmp .ne 8, 3) := by decide +kernel
theorem dX11_factor_47 : decode cX11_factor 47 = .ok (.aload_n 0, 1) := by decide +kernel
theorem dX11_factor_48 : decode cX11_factor 48 = .ok (.invokevirtual 218, 3) := by decide +kernel
theorem dX11_factor_51 : decode cX11_factor 51 = .ok (.ireturn, 1) := by decide +kernel
theorem dX11_factor_52 : decode cX11_factor 52 = .ok (.aload_n 0, 1) := by decide +kernel
theorem dX11_factor_53 : decode cX11_factor 53 = .ok (.dup, 1) := by decide +kernel
theorem dX11_factor_54 : decode cX11_factor 54 = .ok (.getfield 236, 3) := by decide +kernel
theorem dX11_factor_57 : decode cX11_factor 57 = .ok (.iconst 1, 1) := by decide +kernel
theorem dX11_factor_58 : decode cX11_factor 58 = .ok (.iadd, 1) := by decide +kernel
theorem dX11_factor_59 : decode cX11_factor 59 = .ok (.putfield 236, 3) := by decide +kernel
theorem dX11_factor_62 : decode cX11_factor 62 = .ok (.aload_n 0, 1) := by decide +kernel
theorem dX11_factor_63 : decode cX11_factor 63 = .ok (.dup, 1) := by decide +kernel
theorem dX11_factor_64 : decode cX11_factor 64 = .ok (.getfield 209, 3) := by decide +kernel
theorem dX11_factor_67 : decode cX11_factor 67 = .ok (.iconst 1, 1) := by decide +kernel
theorem dX11_factor_68 : decode cX11_factor 68 = .ok (.iadd, 1) := by decide +kernel
theorem dX11_factor_69 : decode cX11_factor 69 = .ok (.putfield 209, 3) := by decide +kernel
theorem dX11_factor_72 : decode cX11_factor 72 = .ok (.iload_n 1, 1) := by decide +kernel
theorem dX11_factor_73 : decode cX11_factor 73 = .ok (.bipush 33, 2) := by decide +kernel
theorem dX11_factor_75 : decode cX11_factor 75 = .ok (.if_icmp .ne 10, 3) := by decide +kernel
theorem dX11_factor_78 : decode cX11_factor 78 = .ok (.aload_n 0, 1) := by decide +kernel
theorem dX11_factor_79 : decode cX11_factor 79 = .ok (.invokevirtual 239, 3) := by decide +kernel
theorem dX11_factor_82 : decode cX11_factor 82 = .ok (.goto 7, 3) := by decide +kernel
theorem dX11_factor_85 : decode cX11_factor 85 = .ok (.aload_n 0, 1) := by decide +kernel
theorem dX11_factor_86 : decode cX11_factor 86 = .ok (.invokevirtual 242, 3) := by decide +kernel
theorem dX11_factor_89 : decode cX11_factor 89 = .ok (.istore_n 2, 1) := by decide +kernel
theorem dX11_factor_90 : decode cX11_factor 90 = .ok (.aload_n 0, 1) := by decide +kernel
theorem dX11_factor_91 : decode cX11_factor 91 = .ok (.dup, 1) := by decide +kernel
theorem dX11_factor_92 : decode cX11_factor 92 = .ok (.getfield 236, 3) := by decide +kernel
theorem dX11_factor_95 : decode cX11_factor 95 = .ok (.iconst 1, 1) := by decide +kernel
theorem dX11_factor_96 : decode cX11_factor 96 = .ok (.isub, 1) := by decide +kernel
theorem dX11_factor_97 : decode cX11_factor 97 = .ok (.putfield 236, 3) := by decide +kernel
theorem dX11_factor_100 : decode cX11_factor 100 = .ok (.iload_n 1, 1) := by decide +kernel
theorem dX11_factor_101 : decode cX11_factor 101 = .ok (.bipush 33, 2) := by decide +kernel
theorem dX11_factor_103 : decode cX11_factor 103 = .ok (.if_icmp .ne 13, 3) := by decide +kernel
theorem dX11_factor_106 : decode cX11_factor 106 = .ok (.iload_n 2, 1) := by decide +kernel
theorem dX11_factor_107 : decode cX11_factor 107 = .ok (.ifCond .ne 7, 3) := by decide +kernel
theorem dX11_factor_110 : decode cX11_factor 110 = .ok (.iconst 1, 1) := by decide +kernel
theorem dX11_factor_111 : decode cX11_factor 111 = .ok (.goto 4, 3) := by decide +kernel
theorem dX11_factor_114 : decode cX11_factor 114 = .ok (.iconst 0, 1) := by decide +kernel
theorem dX11_factor_115 : decode cX11_factor 115 = .ok (.ireturn, 1) := by decide +kernel
theorem dX11_factor_116 : decode cX11_factor 116 = .ok (.aload_n 0, 1) := by decide +kernel
theorem dX11_factor_117 : decode cX11_factor 117 = .ok (.getfield 206, 3) := by decide +kernel
theorem dX11_factor_120 : decode cX11_factor 120 = .ok (.ifCond .eq 28, 3) := by decide +kernel
theorem dX11_factor_123 : decode cX11_factor 123 = .ok (.aload_n 0, 1) := by decide +kernel
theorem dX11_factor_124 : decode cX11_factor 124 = .ok (.aload_n 0, 1) := by decide +kernel
theorem dX11_factor_125 : decode cX11_factor 125 = .ok (.getfield 209, 3) := by decide +kernel
theorem dX11_factor_128 : decode cX11_factor 128 = .ok (.invokevirtual 212, 3) := by decide +kernel
theorem dX11_factor_131 : decode cX11_factor 131 = .ok (.bipush 41, 2) := by decide +kernel
theorem dX11_factor_133 : decode cX11_factor 133 = .ok (.if_icmp .ne 15, 3) := by decide +kernel
theorem dX11_factor_136 : decode cX11_factor 136 = .ok (.aload_n 0, 1) := by decide +kernel
theorem dX11_factor_137 : decode cX11_factor 137 = .ok (.dup, 1) := by decide +kernel
theorem dX11_factor_138 : decode cX11_factor 138 = .ok (.getfield 209, 3) := by decide +kernel
theorem dX11_factor_141 : decode cX11_factor 141 = .ok (.iconst 1, 1) := by decide +kernel
theorem dX11_factor_142 : decode cX11_factor 142 = .ok (.iadd, 1) := by decide +kernel
theorem dX11_factor_143 : decode cX11_factor 143 = .ok (.putfield 209, 3) := by decide +kernel
theorem dX11_factor_146 : decode cX11_factor 146 = .ok (.iload_n 2, 1) := by decide +kernel
theorem dX11_factor_147 : decode cX11_factor 147 = .ok (.ireturn, 1) := by decide +kernel
theorem dX11_factor_148 : decode cX11_factor 148 = .ok (.aload_n 0, 1) := by decide +kernel
theorem dX11_factor_149 : decode cX11_factor 149 = .ok (.invokevirtual 218, 3) := by decide +kernel
theorem dX11_factor_152 : decode cX11_factor 152 = .ok (.ireturn, 1) := by decide +kernel
theorem dX11_product_0 : decode cX11_product 0 = .ok (.aload_n 0, 1) := by decide +kernel
theorem dX11_product_1 : decode cX11_product 1 = .ok (.invokevirtual 239, 3) := by decide +kernel
theorem dX11_product_4 : decode cX11_product 4 = .ok (.istore_n 1, 1) := by decide +kernel
theorem dX11_product_5 : decode cX11_product 5 = .ok (.aload_n 0, 1) := by decide +kernel
theorem dX11_product_6 : decode cX11_product 6 = .ok (.getfield 206, 3) := by decide +kernel
theorem dX11_product_9 : decode cX11_product 9 = .ok (.ifCond .eq 105, 3) := by decide +kernel
theorem dX11_product_12 : decode cX11_product 12 = .ok (.aload_n 0, 1) := by decide +kernel
theorem dX11_product_13 : decode cX11_product 13 = .ok (.aload_n 0, 1) := by decide +kernel
theorem dX11_product_14 : decode cX11_product 14 = .ok (.getfield 209, 3) := by decide +kernel
theorem dX11_product_17 : decode cX11_product 17 = .ok (.invokevirtual 212, 3) := by decide +kernel
theorem dX11_product_20 : decode cX11_product 20 = .ok (.bipush 42, 2) := by decide +kernel
theorem dX11_product_22 : decode cX11_product 22 = .ok (.if_icmp .eq 29, 3) := by decide +kernel
theorem dX11_product_25 : decode cX11_product 25 = .ok (.aload_n 0, 1) := by decide +kernel
theorem dX11_product_26 : decode cX11_product 26 = .ok (.aload_n 0, 1) := by decide +kernel
theorem dX11_product_27 : decode cX11_product 27 = .ok (.getfield 209, 3) := by decide +kernel
theorem dX11_product_30 : decode cX11_product 30 = .ok (.invokevirtual 212, 3) := by decide +kernel
theorem dX11_product_33 : decode cX11_product 33 = .ok (.bipush 47, 2) := by decide +kernel
theorem dX11_product_35 : decode cX11_product 35 = .ok (.if_icmp .eq 16, 3) := by decide +kernel
theorem dX11_product_38 : decode cX11_product 38 = .ok (.aload_n 0, 1) := by decide +kernel
theorem dX11_product_39 : decode cX11_product 39 = .ok (.aload_n 0, 1) := by decide +kernel
theorem dX11_product_40 : decode cX11_product 40 = .ok (.getfield 209, 3) := by decide +kernel
theorem dX11_product_43 : decode cX11_product 43 = .ok (.invokevirtual 212, 3) := by decide +kernel
theorem dX11_product_46 : decode cX11_product 46 = .ok (.bipush 37, 2) := by decide +kernel
theorem dX11_product_48 : decode cX11_product 48 = .ok (.if_icmp .ne 66, 3) := by decide +kernel
theorem dX11_product_51 : decode cX11_product 51 = .ok (.aload_n 0, 1) := by decide +kernel
theorem dX11_product_52 : decode cX11_product 52 = .ok (.aload_n 0, 1) := by decide +kernel
theorem dX11_product_53 : decode cX11_product 53 = .ok (.getfield 209, 3) := by decide +kernel
theorem dX11_product_56 : decode cX11_product 56 = .ok (.invokevirtual 212, 3) := by decide +kernel
theorem dX11_product_59 : decode cX11_product 59 = .ok (.istore_n 2, 1) := by decide +kernel
theorem dX11_product_60 : decode cX11_product 60 = .ok (.aload_n 0, 1) := by decide +kernel
theorem dX11_product_61 : decode cX11_product 61 = .ok (.dup, 1) := by decide +kernel
theorem dX11_product_62 : decode cX11_product 62 = .ok (.getfield 209, 3) := by decide +kernel
theorem dX11_product_65 : decode cX11_product 65 = .ok (.iconst 1, 1) := by decide +kernel
theorem dX11_product_66 : decode cX11_product 66 = .ok (.iadd, 1) := by decide +kernel
theorem dX11_product_67 : decode cX11_product 67 = .ok (.putfield 209, 3) := by decide +kernel
theorem dX11_product_70 : decode cX11_product 70 = .ok (.aload_n 0, 1) := by decide +kernel
theorem dX11_product_71 : decode cX11_product 71 = .ok (.invokevirtual 239, 3) := by decide +kernel
theorem dX11_product_74 : decode cX11_product 74 = .ok (.istore_n 3, 1) := by decide +kernel
theorem dX11_product_75 : decode cX11_product 75 = .ok (.iload_n 2, 1) := by decide +kernel
theorem dX11_product_76 : decode cX11_product 76 = .ok (.bipush 42, 2) := by decide +kernel
theorem dX11_product_78 : decode cX11_product 78 = .ok (.if_icmp .ne 9, 3) := by decide +kernel
theorem dX11_product_81 : decode cX11_product 81 = .ok (.iload_n 1, 1) := by decide +kernel
theorem dX11_product_82 : decode cX11_product 82 = .ok (.iload_n 3, 1) := by decide +kernel
theorem dX11_product_83 : decode cX11_product 83 = .ok (.imul, 1) := by decide +kernel
theorem dX11_product_84 : decode cX11_product 84 = .ok (.goto 26, 3) := by decide +kernel
theorem dX11_product_87 : decode cX11_product 87 = .ok (.iload_n 3, 1) := by decide +kernel
theorem dX11_product_88 : decode cX11_product 88 = .ok (.ifCond .ne 7, 3) := by decide +kernel
theorem dX11_product_91 : decode cX11_product 91 = .ok (.iconst 0, 1) := by decide +kernel
theorem dX11_product_92 : decode cX11_product 92 = .ok (.goto 18, 3) := by decide +kernel
theorem dX11_product_95 : decode cX11_product 95 = .ok (.iload_n 2, 1) := by decide +kernel
theorem dX11_product_96 : decode cX11_product 96 = .ok (.bipush 47, 2) := by decide +kernel
theorem dX11_product_98 : decode cX11_product 98 = .ok (.if_icmp .ne 9, 3) := by decide +kernel
theorem dX11_product_101 : decode cX11_product 101 = .ok (.iload_n 1, 1) := by decide +kernel
theorem dX11_product_102 : decode cX11_product 102 = .ok (.iload_n 3, 1) := by decide +kernel
theorem dX11_product_103 : decode cX11_product 103 = .ok (.idiv, 1) := by decide +kernel
theorem dX11_product_104 : decode cX11_product 104 = .ok (.goto 6, 3) := by decide +kernel
theorem dX11_product_107 : decode cX11_product 107 = .ok (.iload_n 1, 1) := by decide +kernel
theorem dX11_product_108 : decode cX11_product 108 = .ok (.iload_n 3, 1) := by decide +kernel
theorem dX11_product_109 : decode cX11_product 109 = .ok (.irem, 1) := by decide +kernel
theorem dX11_product_110 : decode cX11_product 110 = .ok (.istore_n 1, 1) := by decide +kernel
theorem dX11_product_111 : decode cX11_product 111 = .ok (.goto (-106), 3) := by decide +kernel
theorem dX11_product_114 : decode cX11_product 114 = .ok (.iload_n 1, 1) := by decide +kernel
theorem dX11_product_115 : decode cX11_product 115 = .ok (.ireturn, 1) := by decide +kernel
theorem dX11_sum_0 : decode cX11_sum 0 = .ok (.aload_n 0, 1) := by decide +kernel
theorem dX11_sum_1 : decode cX11_sum 1 = .ok (.invokevirtual 245, 3) := by decide +kernel
theorem dX11_sum_4 : decode cX11_sum 4 = .ok (.istore_n 1, 1) := by decide +kernel
theorem dX11_sum_5 : decode cX11_sum 5 = .ok (.aload_n 0, 1) := by decide +kernel
theorem dX11_sum_6 : decode cX11_sum 6 = .ok (.getfield 206, 3) := by decide +kernel
theorem dX11_sum_9 : decode cX11_sum 9 = .ok (.ifCond .eq 72, 3) := by decide +kernel
theorem dX11_sum_12 : decode cX11_sum 12 = .ok (.aload_n 0, 1) := by decide +kernel
theorem dX11_sum_13 : decode cX11_sum 13 = .ok (.aload_n 0, 1) := by decide +kernel
theorem dX11_sum_14 : decode cX11_sum 14 = .ok (.getfield 209, 3) := by decide +kernel
theorem dX11_sum_17 : decode cX11_sum 17 = .ok (.invokevirtual 212, 3) := by decide +kernel
theorem dX11_sum_20 : decode cX11_sum 20 = .ok (.bipush 43, 2) := by decide +kernel
theorem dX11_sum_22 : decode cX11_sum 22 = .ok (.if_icmp .eq 16, 3) := by decide +kernel
theorem dX11_sum_25 : decode cX11_sum 25 = .ok (.aload_n 0, 1) := by decide +kernel
theorem dX11_sum_26 : decode cX11_sum 26 = .ok (.aload_n 0, 1) := by decide +kernel
theorem dX11_sum_27 : decode cX11_sum 27 = .ok (.getfield 209, 3) := by decide +kernel
theorem dX11_sum_30 : decode cX11_sum 30 = .ok (.invokevirtual 212, 3) := by decide +kernel
theorem dX11_sum_33 : decode cX11_sum 33 = .ok (.bipush 45, 2) := by decide +kernel
theorem dX11_sum_35 : decode cX11_sum 35 = .ok (.if_icmp .ne 46, 3) := by decide +kernel
theorem dX11_sum_38 : decode cX11_sum 38 = .ok (.aload_n 0, 1) := by decide +kernel
theorem dX11_sum_39 : decode cX11_sum 39 = .ok (.aload_n 0, 1) := by decide +kernel
theorem dX11_sum_40 : decode cX11_sum 40 = .ok (.getfield 209, 3) := by decide +kernel
theorem dX11_sum_43 : decode cX11_sum 43 = .ok (.invokevirtual 212, 3) := by decide +kernel
theorem dX11_sum_46 : decode cX11_sum 46 = .ok (.istore_n 2, 1) := by decide +kernel
theorem dX11_sum_47 : decode cX11_sum 47 = .ok (.aload_n 0, 1) := by decide +kernel
theorem dX11_sum_48 : decode cX11_sum 48 = .ok (.dup, 1) := by decide +kernel
theorem dX11_sum_49 : decode cX11_sum 49 = .ok (.getfield 209, 3) := by decide +kernel
theorem dX11_sum_52 : decode cX11_sum 52 = .ok (.iconst 1, 1) := by decide +kernel
theorem dX11_sum_53 : decode cX11_sum 53 = .ok (.iadd, 1) := by decide +kernel
theorem dX11_sum_54 : decode cX11_sum 54 = .ok (.putfield 209, 3) := by decide +kernel
theorem dX11_sum_57 : decode cX11_sum 57 = .ok (.aload_n 0, 1) := by decide +kernel
theorem dX11_sum_58 : decode cX11_sum 58 = .ok (.invokevirtual 245, 3) := by decide +kernel
theorem dX11_sum_61 : decode cX11_sum 61 = .ok (.istore_n 3, 1) := by decide +kernel
theorem dX11_sum_62 : decode cX11_sum 62 = .ok (.iload_n 2, 1) := by decide +kernel
theorem dX11_sum_63 : decode cX11_sum 63 = .ok (.bipush 43, 2) := by decide +kernel
theorem dX11_sum_65 : decode cX11_sum 65 = .ok (.if_icmp .ne 9, 3) := by decide +kernel
theorem dX11_sum_68 : decode cX11_sum 68 = .ok (.iload_n 1, 1) := by decide +kernel
theorem dX11_sum_69 : decode cX11_sum 69 = .ok (.iload_n 3, 1) := by decide +kernel
theorem dX11_sum_70 : decode cX11_sum 70 = .ok (.iadd, 1) := by decide +kernel
theorem dX11_sum_71 : decode cX11_sum 71 = .ok (.goto 6, 3) := by decide +kernel
theorem dX11_sum_74 : decode cX11_sum 74 = .ok (.iload_n 1, 1) := by decide +kernel
theorem dX11_sum_75 : decode cX11_sum 75 = .ok (.iload_n 3, 1) := by decide +kernel
theorem dX11_sum_76 : decode cX11_sum 76 = .ok (.isub, 1) := by decide +kernel
theorem dX11_sum_77 : decode cX11_sum 77 = .ok (.istore_n 1, 1) := by decide +kernel
theorem dX11_sum_78 : decode cX11_sum 78 = .ok (.goto (-73), 3) := by decide +kernel
theorem dX11_sum_81 : decode cX11_sum 81 = .ok (.iload_n 1, 1) := by decide +kernel
theorem dX11_sum_82 : decode cX11_sum 82 = .ok (.ireturn, 1) := by decide +kernel
theorem dX11_compared_0 : decode cX11_compared 0 = .ok (.aload_n 0, 1) := by decide +kernel
theorem dX11_compared_1 : decode cX11_compared 1 = .ok (.invokevirtual 248, 3) := by decide +kernel
theorem dX11_compared_4 : decode cX11_compared 4 = .ok (.istore_n 1, 1) := by decide +kernel
theorem dX11_compared_5 : decode cX11_compared 5 = .ok (.aload_n 0, 1) := by decide +kernel
theorem dX11_compared_6 : decode cX11_compared 6 = .ok (.getfield 206, 3) := by decide +kernel
theorem dX11_compared_9 : decode cX11_compared 9 = .ok (.ifCond .eq 14, 3) := by decide +kernel
theorem dX11_compared_12 : decode cX11_compared 12 = .ok (.aload_n 0, 1) := by decide +kernel
theorem dX11_compared_13 : decode cX11_compared 13 = .ok (.aload_n 0, 1) := by decide +kernel
theorem dX11_compared_14 : decode cX11_compared 14 = .ok (.getfield 209, 3) := by decide +kernel
theorem dX11_compared_17 : decode cX11_compared 17 = .ok (.invokevirtual 212, 3) := by decide +kernel
theorem dX11_compared_20 : decode cX11_compared 20 = .ok (.goto 4, 3) := by decide +kernel
theorem dX11_compared_23 : decode cX11_compared 23 = .ok (.iconst (-1), 1) := by decide +kernel
theorem dX11_compared_24 : decode cX11_compared 24 = .ok (.istore_n 2, 1) := by decide +kernel
theorem dX11_compared_25 : decode cX11_compared 25 = .ok (.iload_n 2, 1) := by decide +kernel
theorem dX11_compared_26 : decode cX11_compared 26 = .ok (.bipush 60, 2) := by decide +kernel
theorem dX11_compared_28 : decode cX11_compared 28 = .ok (.if_icmp .eq 17, 3) := by decide +kernel
theorem dX11_compared_31 : decode cX11_compared 31 = .ok (.iload_n 2, 1) := by decide +kernel
theorem dX11_compared_32 : decode cX11_compared 32 = .ok (.bipush 61, 2) := by decide +kernel
theorem dX11_compared_34 : decode cX11_compared 34 = .ok (.if_icmp .eq 11, 3) := by decide +kernel
theorem dX11_compared_37 : decode cX11_compared 37 = .ok (.iload_n 2, 1) := by decide +kernel
theorem dX11_compared_38 : decode cX11_compared 38 = .ok (.bipush 62, 2) := by decide +kernel
theorem dX11_compared_40 : decode cX11_compared 40 = .ok (.if_icmp .eq 5, 3) := by decide +kernel
theorem dX11_compared_43 : decode cX11_compared 43 = .ok (.iload_n 1, 1) := by decide +kernel
theorem dX11_compared_44 : decode cX11_compared 44 = .ok (.ireturn, 1) := by decide +kernel
theorem dX11_compared_45 : decode cX11_compared 45 = .ok (.aload_n 0, 1) := by decide +kernel
theorem dX11_compared_46 : decode cX11_compared 46 = .ok (.dup, 1) := by decide +kernel
theorem dX11_compared_47 : decode cX11_compared 47 = .ok (.getfield 209, 3) := by decide +kernel
theorem dX11_compared_50 : decode cX11_compared 50 = .ok (.iconst 1, 1) := by decide +kernel
theorem dX11_compared_51 : decode cX11_compared 51 = .ok (.iadd, 1) := by decide +kernel
theorem dX11_compared_52 : decode cX11_compared 52 = .ok (.putfield 209, 3) := by decide +kernel
theorem dX11_compared_55 : decode cX11_compared 55 = .ok (.aload_n 0, 1) := by decide +kernel
theorem dX11_compared_56 : decode cX11_compared 56 = .ok (.invokevirtual 248, 3) := by decide +kernel
theorem dX11_compared_59 : decode cX11_compared 59 = .ok (.istore_n 3, 1) := by decide +kernel
theorem dX11_compared_60 : decode cX11_compared 60 = .ok (.iload_n 2, 1) := by decide +kernel
theorem dX11_compared_61 : decode cX11_compared 61 = .ok (.bipush 60, 2) := by decide +kernel
theorem dX11_compared_63 : decode cX11_compared 63 = .ok (.if_icmp .ne 16, 3) := by decide +kernel
theorem dX11_compared_66 : decode cX11_compared 66 = .ok (.iload_n 1, 1) := by decide +kernel
theorem dX11_compared_67 : decode cX11_compared 67 = .ok (.iload_n 3, 1) := by decide +kernel
theorem dX11_compared_68 : decode cX11_compared 68 = .ok (.if_icmp .ge 7, 3) := by decide +kernel
theorem dX11_compared_71 : decode cX11_compared 71 = .ok (.iconst 1, 1) := by decide +kernel
theorem dX11_compared_72 : decode cX11_compared 72 = .ok (.goto 36, 3) := by decide +kernel
theorem dX11_compared_75 : decode cX11_compared 75 = .ok (.iconst 0, 1) := by decide +kernel
theorem dX11_compared_76 : decode cX11_compared 76 = .ok (.goto 32, 3) := by decide +kernel
theorem dX11_compared_79 : decode cX11_compared 79 = .ok (.iload_n 2, 1) := by decide +kernel
theorem dX11_compared_80 : decode cX11_compared 80 = .ok (.bipush 61, 2) := by decide +kernel
theorem dX11_compared_82 : decode cX11_compared 82 = .ok (.if_icmp .ne 16, 3) := by decide +kernel
theorem dX11_compared_85 : decode cX11_compared 85 = .ok (.iload_n 1, 1) := by decide +kernel
theorem dX11_compared_86 : decode cX11_compared 86 = .ok (.iload_n 3, 1) := by decide +kernel
theorem dX11_compared_87 : decode cX11_compared 87 = .ok (.if_icmp .ne 7, 3) := by decide +kernel
theorem dX11_compared_90 : decode cX11_compared 90 = .ok (.iconst 1, 1) := by decide +kernel
theorem dX11_compared_91 : decode cX11_compared 91 = .ok (.goto 17, 3) := by decide +kernel
theorem dX11_compared_94 : decode cX11_compared 94 = .ok (.iconst 0, 1) := by decide +kernel
theorem dX11_compared_95 : decode cX11_compared 95 = .ok (.goto 13, 3) := by decide +kernel
theorem dX11_compared_98 : decode cX11_compared 98 = .ok (.iload_n 1, 1) := by decide +kernel
theorem dX11_compared_99 : decode cX11_compared 99 = .ok (.iload_n 3, 1) := by decide +kernel
theorem dX11_compared_100 : decode cX11_compared 100 = .ok (.if_icmp .le 7, 3) := by decide +kernel
theorem dX11_compared_103 : decode cX11_compared 103 = .ok (.iconst 1, 1) := by decide +kernel
theorem dX11_compared_104 : decode cX11_compared 104 = .ok (.goto 4, 3) := by decide +kernel
theorem dX11_compared_107 : decode cX11_compared 107 = .ok (.iconst 0, 1) := by decide +kernel
theorem dX11_compared_108 : decode cX11_compared 108 = .ok (.istore 4, 2) := by decide +kernel
theorem dX11_compared_110 : decode cX11_compared 110 = .ok (.iload 4, 2) := by decide +kernel
theorem dX11_compared_112 : decode cX11_compared 112 = .ok (.ifCond .eq 7, 3) := by decide +kernel
theorem dX11_compared_115 : decode cX11_compared 115 = .ok (.iconst 1, 1) := by decide +kernel
theorem dX11_compared_116 : decode cX11_compared 116 = .ok (.goto 4, 3) := by decide +kernel
theorem dX11_compared_119 : decode cX11_compared 119 = .ok (.iconst 0, 1) := by decide +kernel
theorem dX11_compared_120 : decode cX11_compared 120 = .ok (.ireturn, 1) := by decide +kernel
theorem dX11_both_0 : decode cX11_both 0 = .ok (.aload_n 0, 1) := by decide +kernel
theorem dX11_both_1 : decode cX11_both 1 = .ok (.invokevirtual 251, 3) := by decide +kernel
theorem dX11_both_4 : decode cX11_both 4 = .ok (.istore_n 1, 1) := by decide +kernel
theorem dX11_both_5 : decode cX11_both 5 = .ok (.aload_n 0, 1) := by decide +kernel
theorem dX11_both_6 : decode cX11_both 6 = .ok (.getfield 206, 3) := by decide +kernel
theorem dX11_both_9 : decode cX11_both 9 = .ok (.ifCond .eq 48, 3) := by decide +kernel
theorem dX11_both_12 : decode cX11_both 12 = .ok (.aload_n 0, 1) := by decide +kernel
theorem dX11_both_13 : decode cX11_both 13 = .ok (.aload_n 0, 1) := by decide +kernel
theorem dX11_both_14 : decode cX11_both 14 = .ok (.getfield 209, 3) := by decide +kernel
theorem dX11_both_17 : decode cX11_both 17 = .ok (.invokevirtual 212, 3) := by decide +kernel
theorem dX11_both_20 : decode cX11_both 20 = .ok (.bipush 38, 2) := by decide +kernel
theorem dX11_both_22 : decode cX11_both 22 = .ok (.if_icmp .ne 35, 3) := by decide +kernel
theorem dX11_both_25 : decode cX11_both 25 = .ok (.aload_n 0, 1) := by decide +kernel
theorem dX11_both_26 : decode cX11_both 26 = .ok (.dup, 1) := by decide +kernel
theorem dX11_both_27 : decode cX11_both 27 = .ok (.getfield 209, 3) := by decide +kernel
theorem dX11_both_30 : decode cX11_both 30 = .ok (.iconst 1, 1) := by decide +kernel
theorem dX11_both_31 : decode cX11_both 31 = .ok (.iadd, 1) := by decide +kernel
theorem dX11_both_32 : decode cX11_both 32 = .ok (.putfield 209, 3) := by decide +kernel
theorem dX11_both_35 : decode cX11_both 35 = .ok (.aload_n 0, 1) := by decide +kernel
theorem dX11_both_36 : decode cX11_both 36 = .ok (.invokevirtual 251, 3) := by decide +kernel
theorem dX11_both_39 : decode cX11_both 39 = .ok (.istore_n 2, 1) := by decide +kernel
theorem dX11_both_40 : decode cX11_both 40 = .ok (.iload_n 1, 1) := by decide +kernel
theorem dX11_both_41 : decode cX11_both 41 = .ok (.ifCond .eq 11, 3) := by decide +kernel
theorem dX11_both_44 : decode cX11_both 44 = .ok (.iload_n 2, 1) := by decide +kernel
theorem dX11_both_45 : decode cX11_both 45 = .ok (.ifCond .eq 7, 3) := by decide +kernel
theorem dX11_both_48 : decode cX11_both 48 = .ok (.iconst 1, 1) := by decide +kernel
theorem dX11_both_49 : decode cX11_both 49 = .ok (.goto 4, 3) := by decide +kernel
theorem dX11_both_52 : decode cX11_both 52 = .ok (.iconst 0, 1) := by decide +kernel
theorem dX11_both_53 : decode cX11_both 53 = .ok (.istore_n 1, 1) := by decide +kernel
theorem dX11_both_54 : decode cX11_both 54 = .ok (.goto (-49), 3) := by decide +kernel
theorem dX11_both_57 : decode cX11_both 57 = .ok (.iload_n 1, 1) := by decide +kernel
theorem dX11_both_58 : decode cX11_both 58 = .ok (.ireturn, 1) := by decide +kernel
theorem dX11_whole_0 : decode cX11_whole 0 = .ok (.aload_n 0, 1) := by decide +kernel
theorem dX11_whole_1 : decode cX11_whole 1 = .ok (.invokevirtual 254, 3) := by decide +kernel
theorem dX11_whole_4 : decode cX11_whole 4 = .ok (.istore_n 1, 1) := by decide +kernel
theorem dX11_whole_5 : decode cX11_whole 5 = .ok (.aload_n 0, 1) := by decide +kernel
theorem dX11_whole_6 : decode cX11_whole 6 = .ok (.getfield 206, 3) := by decide +kernel
theorem dX11_whole_9 : decode cX11_whole 9 = .ok (.ifCond .eq 48, 3) := by decide +kernel
theorem dX11_whole_12 : decode cX11_whole 12 = .ok (.aload_n 0, 1) := by decide +kernel
theorem dX11_whole_13 : decode cX11_whole 13 = .ok (.aload_n 0, 1) := by decide +kernel
theorem dX11_whole_14 : decode cX11_whole 14 = .ok (.getfield 209, 3) := by decide +kernel
theorem dX11_whole_17 : decode cX11_whole 17 = .ok (.invokevirtual 212, 3) := by decide +kernel
theorem dX11_whole_20 : decode cX11_whole 20 = .ok (.bipush 124, 2) := by decide +kernel
theorem dX11_whole_22 : decode cX11_whole 22 = .ok (.if_icmp .ne 35, 3) := by decide +kernel
theorem dX11_whole_25 : decode cX11_whole 25 = .ok (.aload_n 0, 1) := by decide +kernel
theorem dX11_whole_26 : decode cX11_whole 26 = .ok (.dup, 1) := by decide +kernel
theorem dX11_whole_27 : decode cX11_whole 27 = .ok (.getfield 209, 3) := by decide +kernel
theorem dX11_whole_30 : decode cX11_whole 30 = .ok (.iconst 1, 1) := by decide +kernel
theorem dX11_whole_31 : decode cX11_whole 31 = .ok (.iadd, 1) := by decide +kernel
theorem dX11_whole_32 : decode cX11_whole 32 = .ok (.putfield 209, 3) := by decide +kernel
theorem dX11_whole_35 : decode cX11_whole 35 = .ok (.aload_n 0, 1) := by decide +kernel
theorem dX11_whole_36 : decode cX11_whole 36 = .ok (.invokevirtual 254, 3) := by decide +kernel
theorem dX11_whole_39 : decode cX11_whole 39 = .ok (.istore_n 2, 1) := by decide +kernel
theorem dX11_whole_40 : decode cX11_whole 40 = .ok (.iload_n 1, 1) := by decide +kernel
theorem dX11_whole_41 : decode cX11_whole 41 = .ok (.ifCond .ne 7, 3) := by decide +kernel
theorem dX11_whole_44 : decode cX11_whole 44 = .ok (.iload_n 2, 1) := by decide +kernel
theorem dX11_whole_45 : decode cX11_whole 45 = .ok (.ifCond .eq 7, 3) := by decide +kernel
theorem dX11_whole_48 : decode cX11_whole 48 = .ok (.iconst 1, 1) := by decide +kernel
theorem dX11_whole_49 : decode cX11_whole 49 = .ok (.goto 4, 3) := by decide +kernel
theorem dX11_whole_52 : decode cX11_whole 52 = .ok (.iconst 0, 1) := by decide +kernel
theorem dX11_whole_53 : decode cX11_whole 53 = .ok (.istore_n 1, 1) := by decide +kernel
theorem dX11_whole_54 : decode cX11_whole 54 = .ok (.goto (-49), 3) := by decide +kernel
theorem dX11_whole_57 : decode cX11_whole 57 = .ok (.iload_n 1, 1) := by decide +kernel
theorem dX11_whole_58 : decode cX11_whole 58 = .ok (.ireturn, 1) := by decide +kernel
theorem dX11_walks_0 : decode cX11_walks 0 = .ok (.aload_n 0, 1) := by decide +kernel
theorem dX11_walks_1 : decode cX11_walks 1 = .ok (.iload_n 1, 1) := by decide +kernel
theorem dX11_walks_2 : decode cX11_walks 2 = .ok (.putfield 203, 3) := by decide +kernel
theorem dX11_walks_5 : decode cX11_walks 5 = .ok (.aload_n 0, 1) := by decide +kernel
theorem dX11_walks_6 : decode cX11_walks 6 = .ok (.iconst 0, 1) := by decide +kernel
theorem dX11_walks_7 : decode cX11_walks 7 = .ok (.putfield 209, 3) := by decide +kernel
theorem dX11_walks_10 : decode cX11_walks 10 = .ok (.aload_n 0, 1) := by decide +kernel
theorem dX11_walks_11 : decode cX11_walks 11 = .ok (.aload_n 0, 1) := by decide +kernel
theorem dX11_walks_12 : decode cX11_walks 12 = .ok (.getfield 7, 3) := by decide +kernel
theorem dX11_walks_15 : decode cX11_walks 15 = .ok (.bipush 7, 2) := by decide +kernel
theorem dX11_walks_17 : decode cX11_walks 17 = .ok (.iload_n 1, 1) := by decide +kernel
theorem dX11_walks_18 : decode cX11_walks 18 = .ok (.iadd, 1) := by decide +kernel
theorem dX11_walks_19 : decode cX11_walks 19 = .ok (.iaload, 1) := by decide +kernel
theorem dX11_walks_20 : decode cX11_walks 20 = .ok (.putfield 200, 3) := by decide +kernel
theorem dX11_walks_23 : decode cX11_walks 23 = .ok (.aload_n 0, 1) := by decide +kernel
theorem dX11_walks_24 : decode cX11_walks 24 = .ok (.iconst 0, 1) := by decide +kernel
theorem dX11_walks_25 : decode cX11_walks 25 = .ok (.putfield 236, 3) := by decide +kernel
theorem dX11_walks_28 : decode cX11_walks 28 = .ok (.aload_n 0, 1) := by decide +kernel
theorem dX11_walks_29 : decode cX11_walks 29 = .ok (.iconst 1, 1) := by decide +kernel
theorem dX11_walks_30 : decode cX11_walks 30 = .ok (.putfield 206, 3) := by decide +kernel
theorem dX11_walks_33 : decode cX11_walks 33 = .ok (.aload_n 0, 1) := by decide +kernel
theorem dX11_walks_34 : decode cX11_walks 34 = .ok (.iload_n 2, 1) := by decide +kernel
theorem dX11_walks_35 : decode cX11_walks 35 = .ok (.putfield 221, 3) := by decide +kernel
theorem dX11_walks_38 : decode cX11_walks 38 = .ok (.aload_n 0, 1) := by decide +kernel
theorem dX11_walks_39 : decode cX11_walks 39 = .ok (.iload_n 3, 1) := by decide +kernel
theorem dX11_walks_40 : decode cX11_walks 40 = .ok (.putfield 224, 3) := by decide +kernel
theorem dX11_walks_43 : decode cX11_walks 43 = .ok (.aload_n 0, 1) := by decide +kernel
theorem dX11_walks_44 : decode cX11_walks 44 = .ok (.iload 4, 2) := by decide +kernel
theorem dX11_walks_46 : decode cX11_walks 46 = .ok (.putfield 227, 3) := by decide +kernel
theorem dX11_walks_49 : decode cX11_walks 49 = .ok (.aload_n 0, 1) := by decide +kernel
theorem dX11_walks_50 : decode cX11_walks 50 = .ok (.invokevirtual 242, 3) := by decide +kernel
theorem dX11_walks_53 : decode cX11_walks 53 = .ok (.istore 5, 2) := by decide +kernel
theorem dX11_walks_55 : decode cX11_walks 55 = .ok (.aload_n 0, 1) := by decide +kernel
theorem dX11_walks_56 : decode cX11_walks 56 = .ok (.aload_n 0, 1) := by decide +kernel
theorem dX11_walks_57 : decode cX11_walks 57 = .ok (.getfield 206, 3) := by decide +kernel
theorem dX11_walks_60 : decode cX11_walks 60 = .ok (.ifCond .eq 18, 3) := by decide +kernel
theorem dX11_walks_63 : decode cX11_walks 63 = .ok (.aload_n 0, 1) := by decide +kernel
theorem dX11_walks_64 : decode cX11_walks 64 = .ok (.getfield 209, 3) := by decide +kernel
theorem dX11_walks_67 : decode cX11_walks 67 = .ok (.aload_n 0, 1) := by decide +kernel
theorem dX11_walks_68 : decode cX11_walks 68 = .ok (.getfield 200, 3) := by decide +kernel
theorem dX11_walks_71 : decode cX11_walks 71 = .ok (.if_icmp .ne 7, 3) := by decide +kernel
theorem dX11_walks_74 : decode cX11_walks 74 = .ok (.iconst 1, 1) := by decide +kernel
theorem dX11_walks_75 : decode cX11_walks 75 = .ok (.goto 4, 3) := by decide +kernel
theorem dX11_walks_78 : decode cX11_walks 78 = .ok (.iconst 0, 1) := by decide +kernel
theorem dX11_walks_79 : decode cX11_walks 79 = .ok (.putfield 206, 3) := by decide +kernel
theorem dX11_walks_82 : decode cX11_walks 82 = .ok (.iload 5, 2) := by decide +kernel
theorem dX11_walks_84 : decode cX11_walks 84 = .ok (.ireturn, 1) := by decide +kernel
theorem dX11_lawOf_0 : decode cX11_lawOf 0 = .ok (.aload_n 0, 1) := by decide +kernel
theorem dX11_lawOf_1 : decode cX11_lawOf 1 = .ok (.getfield 7, 3) := by decide +kernel
theorem dX11_lawOf_4 : decode cX11_lawOf 4 = .ok (.bipush 7, 2) := by decide +kernel
theorem dX11_lawOf_6 : decode cX11_lawOf 6 = .ok (.iload_n 1, 1) := by decide +kernel
theorem dX11_lawOf_7 : decode cX11_lawOf 7 = .ok (.iadd, 1) := by decide +kernel
theorem dX11_lawOf_8 : decode cX11_lawOf 8 = .ok (.iaload, 1) := by decide +kernel
theorem dX11_lawOf_9 : decode cX11_lawOf 9 = .ok (.ifCond .ge 22, 3) := by decide +kernel
theorem dX11_lawOf_12 : decode cX11_lawOf 12 = .ok (.iload_n 1, 1) := by decide +kernel
theorem dX11_lawOf_13 : decode cX11_lawOf 13 = .ok (.ifCond .ne 16, 3) := by decide +kernel
theorem dX11_lawOf_16 : decode cX11_lawOf 16 = .ok (.iconst 5, 1) := by decide +kernel
theorem dX11_lawOf_17 : decode cX11_lawOf 17 = .ok (.iload 4, 2) := by decide +kernel
theorem dX11_lawOf_19 : decode cX11_lawOf 19 = .ok (.iadd, 1) := by decide +kernel
theorem dX11_lawOf_20 : decode cX11_lawOf 20 = .ok (.iconst 0, 1) := by decide +kernel
theorem dX11_lawOf_21 : decode cX11_lawOf 21 = .ok (.bipush 99, 2) := by decide +kernel
theorem dX11_lawOf_23 : decode cX11_lawOf 23 = .ok (.invokestatic 117, 3) := by decide +kernel
theorem dX11_lawOf_26 : decode cX11_lawOf 26 = .ok (.goto 4, 3) := by decide +kernel
theorem dX11_lawOf_29 : decode cX11_lawOf 29 = .ok (.iconst 0, 1) := by decide +kernel
theorem dX11_lawOf_30 : decode cX11_lawOf 30 = .ok (.ireturn, 1) := by decide +kernel
theorem dX11_lawOf_31 : decode cX11_lawOf 31 = .ok (.aload_n 0, 1) := by decide +kernel
theorem dX11_lawOf_32 : decode cX11_lawOf 32 = .ok (.iload_n 1, 1) := by decide +kernel
theorem dX11_lawOf_33 : decode cX11_lawOf 33 = .ok (.iload_n 2, 1) := by decide +kernel
theorem dX11_lawOf_34 : decode cX11_lawOf 34 = .ok (.iload_n 3, 1) := by decide +kernel
theorem dX11_lawOf_35 : decode cX11_lawOf 35 = .ok (.iload 4, 2) := by decide +kernel
theorem dX11_lawOf_37 : decode cX11_lawOf 37 = .ok (.invokevirtual 257, 3) := by decide +kernel
theorem dX11_lawOf_40 : decode cX11_lawOf 40 = .ok (.iload_n 1, 1) := by decide +kernel
theorem dX11_lawOf_41 : decode cX11_lawOf 41 = .ok (.ifCond .ne 7, 3) := by decide +kernel
theorem dX11_lawOf_44 : decode cX11_lawOf 44 = .ok (.iconst 0, 1) := by decide +kernel
theorem dX11_lawOf_45 : decode cX11_lawOf 45 = .ok (.goto 5, 3) := by decide +kernel
theorem dX11_lawOf_48 : decode cX11_lawOf 48 = .ok (.bipush (-99), 2) := by decide +kernel
theorem dX11_lawOf_50 : decode cX11_lawOf 50 = .ok (.bipush 99, 2) := by decide +kernel
theorem dX11_lawOf_52 : decode cX11_lawOf 52 = .ok (.invokestatic 117, 3) := by decide +kernel
theorem dX11_lawOf_55 : decode cX11_lawOf 55 = .ok (.ireturn, 1) := by decide +kernel
theorem dX11_law_0 : decode cX11_law 0 = .ok (.iload_n 1, 1) := by decide +kernel
theorem dX11_law_1 : decode cX11_law 1 = .ok (.iconst 0, 1) := by decide +kernel
theorem dX11_law_2 : decode cX11_law 2 = .ok (.iconst 1, 1) := by decide +kernel
theorem dX11_law_3 : decode cX11_law 3 = .ok (.invokestatic 71, 3) := by decide +kernel
theorem dX11_law_6 : decode cX11_law 6 = .ok (.ifCond .eq 15, 3) := by decide +kernel
theorem dX11_law_9 : decode cX11_law 9 = .ok (.aload_n 0, 1) := by decide +kernel
theorem dX11_law_10 : decode cX11_law 10 = .ok (.iload_n 1, 1) := by decide +kernel
theorem dX11_law_11 : decode cX11_law 11 = .ok (.iload_n 2, 1) := by decide +kernel
theorem dX11_law_12 : decode cX11_law 12 = .ok (.iload_n 3, 1) := by decide +kernel
theorem dX11_law_13 : decode cX11_law 13 = .ok (.iload 4, 2) := by decide +kernel
theorem dX11_law_15 : decode cX11_law 15 = .ok (.invokevirtual 95, 3) := by decide +kernel
theorem dX11_law_18 : decode cX11_law 18 = .ok (.goto 9, 3) := by decide +kernel
theorem dX11_law_21 : decode cX11_law 21 = .ok (.aload_n 0, 1) := by decide +kernel
theorem dX11_law_22 : decode cX11_law 22 = .ok (.ldc 78, 2) := by decide +kernel
theorem dX11_law_24 : decode cX11_law 24 = .ok (.invokevirtual 79, 3) := by decide +kernel
theorem dX11_law_27 : decode cX11_law 27 = .ok (.ireturn, 1) := by decide +kernel
theorem dX11_feed_0 : decode cX11_feed 0 = .ok (.iload_n 3, 1) := by decide +kernel
theorem dX11_feed_1 : decode cX11_feed 1 = .ok (.iconst 1, 1) := by decide +kernel
theorem dX11_feed_2 : decode cX11_feed 2 = .ok (.bipush 8, 2) := by decide +kernel
theorem dX11_feed_4 : decode cX11_feed 4 = .ok (.invokestatic 71, 3) := by decide +kernel
theorem dX11_feed_7 : decode cX11_feed 7 = .ok (.ifCond .ne 10, 3) := by decide +kernel
theorem dX11_feed_10 : decode cX11_feed 10 = .ok (.aload_n 0, 1) := by decide +kernel
theorem dX11_feed_11 : decode cX11_feed 11 = .ok (.ldc 78, 2) := by decide +kernel
theorem dX11_feed_13 : decode cX11_feed 13 = .ok (.invokevirtual 79, 3) := by decide +kernel
theorem dX11_feed_16 : decode cX11_feed 16 = .ok (.ireturn, 1) := by decide +kernel
theorem dX11_feed_17 : decode cX11_feed 17 = .ok (.aload_n 0, 1) := by decide +kernel
theorem dX11_feed_18 : decode cX11_feed 18 = .ok (.getfield 7, 3) := by decide +kernel
theorem dX11_feed_21 : decode cX11_feed 21 = .ok (.iconst 5, 1) := by decide +kernel
theorem dX11_feed_22 : decode cX11_feed 22 = .ok (.iaload, 1) := by decide +kernel
theorem dX11_feed_23 : decode cX11_feed 23 = .ok (.iload_n 3, 1) := by decide +kernel
theorem dX11_feed_24 : decode cX11_feed 24 = .ok (.iadd, 1) := by decide +kernel
theorem dX11_feed_25 : decode cX11_feed 25 = .ok (.bipush 50, 2) := by decide +kernel
theorem dX11_feed_27 : decode cX11_feed 27 = .ok (.if_icmp .le 11, 3) := by decide +kernel
theorem dX11_feed_30 : decode cX11_feed 30 = .ok (.aload_n 0, 1) := by decide +kernel
theorem dX11_feed_31 : decode cX11_feed 31 = .ok (.ldc_w 260, 3) := by decide +kernel
theorem dX11_feed_34 : decode cX11_feed 34 = .ok (.invokevirtual 79, 3) := by decide +kernel
theorem dX11_feed_37 : decode cX11_feed 37 = .ok (.ireturn, 1) := by decide +kernel
theorem dX11_feed_38 : decode cX11_feed 38 = .ok (.iconst 0, 1) := by decide +kernel
theorem dX11_feed_39 : decode cX11_feed 39 = .ok (.istore 4, 2) := by decide +kernel
theorem dX11_feed_41 : decode cX11_feed 41 = .ok (.iload 4, 2) := by decide +kernel
theorem dX11_feed_43 : decode cX11_feed 43 = .ok (.iload_n 3, 1) := by decide +kernel
theorem dX11_feed_44 : decode cX11_feed 44 = .ok (.if_icmp .ge 46, 3) := by decide +kernel
theorem dX11_feed_47 : decode cX11_feed 47 = .ok (.aload_n 0, 1) := by decide +kernel
theorem dX11_feed_48 : decode cX11_feed 48 = .ok (.getfield 7, 3) := by decide +kernel
theorem dX11_feed_51 : decode cX11_feed 51 = .ok (.sipush 135, 3) := by decide +kernel
theorem dX11_feed_54 : decode cX11_feed 54 = .ok (.aload_n 0, 1) := by decide +kernel
theorem dX11_feed_55 : decode cX11_feed 55 = .ok (.getfield 7, 3) := by decide +kernel
theorem dX11_feed_58 : decode cX11_feed 58 = .ok (.iconst 5, 1) := by decide +kernel
theorem dX11_feed_59 : decode cX11_feed 59 = .ok (.iaload, 1) := by decide +kernel
theorem dX11_feed_60 : decode cX11_feed 60 = .ok (.iadd, 1) := by decide +kernel
theorem dX11_feed_61 : decode cX11_feed 61 = .ok (.lload_n 1, 1) := by decide +kernel
theorem dX11_feed_62 : decode cX11_feed 62 = .ok (.bipush 8, 2) := by decide +kernel
theorem dX11_feed_64 : decode cX11_feed 64 = .ok (.iload 4, 2) := by decide +kernel
theorem dX11_feed_66 : decode cX11_feed 66 = .ok (.imul, 1) := by decide +kernel
theorem dX11_feed_67 : decode cX11_feed 67 = .ok (.lshr, 1) := by decide +kernel
theorem dX11_feed_68 : decode cX11_feed 68 = .ok (.ldc2_w 261, 3) := by decide +kernel
theorem dX11_feed_71 : decode cX11_feed 71 = .ok (.land, 1) := by decide +kernel
theorem dX11_feed_72 : decode cX11_feed 72 = .ok (.l2i, 1) := by decide +kernel
theorem dX11_feed_73 : decode cX11_feed 73 = .ok (.iastore, 1) := by decide +kernel
theorem dX11_feed_74 : decode cX11_feed 74 = .ok (.aload_n 0, 1) := by decide +kernel
theorem dX11_feed_75 : decode cX11_feed 75 = .ok (.getfield 7, 3) := by decide +kernel
theorem dX11_feed_78 : decode cX11_feed 78 = .ok (.iconst 5, 1) := by decide +kernel
theorem dX11_feed_79 : decode cX11_feed 79 = .ok (.dup2, 1) := by decide +kernel
theorem dX11_feed_80 : decode cX11_feed 80 = .ok (.iaload, 1) := by decide +kernel
theorem dX11_feed_81 : decode cX11_feed 81 = .ok (.iconst 1, 1) := by decide +kernel
theorem dX11_feed_82 : decode cX11_feed 82 = .ok (.iadd, 1) := by decide +kernel
theorem dX11_feed_83 : decode cX11_feed 83 = .ok (.iastore, 1) := by decide +kernel
theorem dX11_feed_84 : decode cX11_feed 84 = .ok (.iinc 4 1, 3) := by decide +kernel
theorem dX11_feed_87 : decode cX11_feed 87 = .ok (.goto (-46), 3) := by decide +kernel
theorem dX11_feed_90 : decode cX11_feed 90 = .ok (.aload_n 0, 1) := by decide +kernel
theorem dX11_feed_91 : decode cX11_feed 91 = .ok (.getfield 7, 3) := by decide +kernel
theorem dX11_feed_94 : decode cX11_feed 94 = .ok (.iconst 5, 1) := by decide +kernel
theorem dX11_feed_95 : decode cX11_feed 95 = .ok (.iaload, 1) := by decide +kernel
theorem dX11_feed_96 : decode cX11_feed 96 = .ok (.ireturn, 1) := by decide +kernel
theorem dX11_text_0 : decode cX11_text 0 = .ok (.iload_n 1, 1) := by decide +kernel
theorem dX11_text_1 : decode cX11_text 1 = .ok (.iconst 0, 1) := by decide +kernel
theorem dX11_text_2 : decode cX11_text 2 = .ok (.iconst 1, 1) := by decide +kernel
theorem dX11_text_3 : decode cX11_text 3 = .ok (.invokestatic 71, 3) := by decide +kernel
theorem dX11_text_6 : decode cX11_text 6 = .ok (.ifCond .ne 10, 3) := by decide +kernel
theorem dX11_text_9 : decode cX11_text 9 = .ok (.aload_n 0, 1) := by decide +kernel
theorem dX11_text_10 : decode cX11_text 10 = .ok (.ldc 78, 2) := by decide +kernel
theorem dX11_text_12 : decode cX11_text 12 = .ok (.invokevirtual 79, 3) := by decide +kernel
theorem dX11_text_15 : decode cX11_text 15 = .ok (.ireturn, 1) := by decide +kernel
theorem dX11_text_16 : decode cX11_text 16 = .ok (.aload_n 0, 1) := by decide +kernel
theorem dX11_text_17 : decode cX11_text 17 = .ok (.aload_n 0, 1) := by decide +kernel
theorem dX11_text_18 : decode cX11_text 18 = .ok (.getfield 7, 3) := by decide +kernel
theorem dX11_text_21 : decode cX11_text 21 = .ok (.aload_n 0, 1) := by decide +kernel
theorem dX11_text_22 : decode cX11_text 22 = .ok (.getfield 19, 3) := by decide +kernel
theorem dX11_text_25 : decode cX11_text 25 = .ok (.invokevirtual 188, 3) := by decide +kernel
theorem dX11_text_28 : decode cX11_text 28 = .ok (.iconst 0, 1) := by decide +kernel
theorem dX11_text_29 : decode cX11_text 29 = .ok (.istore_n 2, 1) := by decide +kernel
theorem dX11_text_30 : decode cX11_text 30 = .ok (.iload_n 2, 1) := by decide +kernel
theorem dX11_text_31 : decode cX11_text 31 = .ok (.bipush 50, 2) := by decide +kernel
theorem dX11_text_33 : decode cX11_text 33 = .ok (.if_icmp .ge 34, 3) := by decide +kernel
theorem dX11_text_36 : decode cX11_text 36 = .ok (.aload_n 0, 1) := by decide +kernel
theorem dX11_text_37 : decode cX11_text 37 = .ok (.getfield 7, 3) := by decide +kernel
theorem dX11_text_40 : decode cX11_text 40 = .ok (.sipush 205, 3) := by decide +kernel
theorem dX11_text_43 : decode cX11_text 43 = .ok (.bipush 50, 2) := by decide +kernel
theorem dX11_text_45 : decode cX11_text 45 = .ok (.iload_n 1, 1) := by decide +kernel
theorem dX11_text_46 : decode cX11_text 46 = .ok (.imul, 1) := by decide +kernel
theorem dX11_text_47 : decode cX11_text 47 = .ok (.iadd, 1) := by decide +kernel
theorem dX11_text_48 : decode cX11_text 48 = .ok (.iload_n 2, 1) := by decide +kernel
theorem dX11_text_49 : decode cX11_text 49 = .ok (.iadd, 1) := by decide +kernel
theorem dX11_text_50 : decode cX11_text 50 = .ok (.aload_n 0, 1) := by decide +kernel
theorem dX11_text_51 : decode cX11_text 51 = .ok (.getfield 7, 3) := by decide +kernel
theorem dX11_text_54 : decode cX11_text 54 = .ok (.sipush 135, 3) := by decide +kernel
theorem dX11_text_57 : decode cX11_text 57 = .ok (.iload_n 2, 1) := by decide +kernel
theorem dX11_text_58 : decode cX11_text 58 = .ok (.iadd, 1) := by decide +kernel
theorem dX11_text_59 : decode cX11_text 59 = .ok (.iaload, 1) := by decide +kernel
theorem dX11_text_60 : decode cX11_text 60 = .ok (.iastore, 1) := by decide +kernel
theorem dX11_text_61 : decode cX11_text 61 = .ok (.iinc 2 1, 3) := by decide +kernel
theorem dX11_text_64 : decode cX11_text 64 = .ok (.goto (-34), 3) := by decide +kernel
theorem dX11_text_67 : decode cX11_text 67 = .ok (.aload_n 0, 1) := by decide +kernel
theorem dX11_text_68 : decode cX11_text 68 = .ok (.getfield 7, 3) := by decide +kernel
theorem dX11_text_71 : decode cX11_text 71 = .ok (.bipush 7, 2) := by decide +kernel
theorem dX11_text_73 : decode cX11_text 73 = .ok (.iload_n 1, 1) := by decide +kernel
theorem dX11_text_74 : decode cX11_text 74 = .ok (.iadd, 1) := by decide +kernel
theorem dX11_text_75 : decode cX11_text 75 = .ok (.aload_n 0, 1) := by decide +kernel
theorem dX11_text_76 : decode cX11_text 76 = .ok (.getfield 7, 3) := by decide +kernel
theorem dX11_text_79 : decode cX11_text 79 = .ok (.iconst 5, 1) := by decide +kernel
theorem dX11_text_80 : decode cX11_text 80 = .ok (.iaload, 1) := by decide +kernel
theorem dX11_text_81 : decode cX11_text 81 = .ok (.iastore, 1) := by decide +kernel
theorem dX11_text_82 : decode cX11_text 82 = .ok (.aload_n 0, 1) := by decide +kernel
theorem dX11_text_83 : decode cX11_text 83 = .ok (.iload_n 1, 1) := by decide +kernel
theorem dX11_text_84 : decode cX11_text 84 = .ok (.iconst 1, 1) := by decide +kernel
theorem dX11_text_85 : decode cX11_text 85 = .ok (.iconst 1, 1) := by decide +kernel
theorem dX11_text_86 : decode cX11_text 86 = .ok (.iconst 1, 1) := by decide +kernel
theorem dX11_text_87 : decode cX11_text 87 = .ok (.invokevirtual 257, 3) := by decide +kernel
theorem dX11_text_90 : decode cX11_text 90 = .ok (.istore_n 2, 1) := by decide +kernel
theorem dX11_text_91 : decode cX11_text 91 = .ok (.aload_n 0, 1) := by decide +kernel
theorem dX11_text_92 : decode cX11_text 92 = .ok (.getfield 206, 3) := by decide +kernel
theorem dX11_text_95 : decode cX11_text 95 = .ok (.ifCond .eq 12, 3) := by decide +kernel
theorem dX11_text_98 : decode cX11_text 98 = .ok (.iload_n 2, 1) := by decide +kernel
theorem dX11_text_99 : decode cX11_text 99 = .ok (.iload_n 2, 1) := by decide +kernel
theorem dX11_text_100 : decode cX11_text 100 = .ok (.if_icmp .ne 7, 3) := by decide +kernel
theorem dX11_text_103 : decode cX11_text 103 = .ok (.iconst 1, 1) := by decide +kernel
theorem dX11_text_104 : decode cX11_text 104 = .ok (.goto 4, 3) := by decide +kernel
theorem dX11_text_107 : decode cX11_text 107 = .ok (.iconst 0, 1) := by decide +kernel
theorem dX11_text_108 : decode cX11_text 108 = .ok (.istore_n 3, 1) := by decide +kernel
theorem dX11_text_109 : decode cX11_text 109 = .ok (.aload_n 0, 1) := by decide +kernel
theorem dX11_text_110 : decode cX11_text 110 = .ok (.getfield 209, 3) := by decide +kernel
theorem dX11_text_113 : decode cX11_text 113 = .ok (.istore 4, 2) := by decide +kernel
theorem dX11_text_115 : decode cX11_text 115 = .ok (.iload_n 3, 1) := by decide +kernel
theorem dX11_text_116 : decode cX11_text 116 = .ok (.ifCond .ne 15, 3) := by decide +kernel
theorem dX11_text_119 : decode cX11_text 119 = .ok (.aload_n 0, 1) := by decide +kernel
theorem dX11_text_120 : decode cX11_text 120 = .ok (.aload_n 0, 1) := by decide +kernel
theorem dX11_text_121 : decode cX11_text 121 = .ok (.getfield 19, 3) := by decide +kernel
theorem dX11_text_124 : decode cX11_text 124 = .ok (.aload_n 0, 1) := by decide +kernel
theorem dX11_text_125 : decode cX11_text 125 = .ok (.getfield 7, 3) := by decide +kernel
theorem dX11_text_128 : decode cX11_text 128 = .ok (.invokevirtual 188, 3) := by decide +kernel
theorem dX11_text_131 : decode cX11_text 131 = .ok (.aload_n 0, 1) := by decide +kernel
theorem dX11_text_132 : decode cX11_text 132 = .ok (.getfield 7, 3) := by decide +kernel
theorem dX11_text_135 : decode cX11_text 135 = .ok (.iconst 5, 1) := by decide +kernel
theorem dX11_text_136 : decode cX11_text 136 = .ok (.iconst 0, 1) := by decide +kernel
theorem dX11_text_137 : decode cX11_text 137 = .ok (.iastore, 1) := by decide +kernel
theorem dX11_text_138 : decode cX11_text 138 = .ok (.iload_n 3, 1) := by decide +kernel
theorem dX11_text_139 : decode cX11_text 139 = .ok (.ifCond .eq 7, 3) := by decide +kernel
theorem dX11_text_142 : decode cX11_text 142 = .ok (.iconst 1, 1) := by decide +kernel
theorem dX11_text_143 : decode cX11_text 143 = .ok (.goto 8, 3) := by decide +kernel
theorem dX11_text_146 : decode cX11_text 146 = .ok (.bipush (-10), 2) := by decide +kernel
theorem dX11_text_148 : decode cX11_text 148 = .ok (.iload 4, 2) := by decide +kernel
theorem dX11_text_150 : decode cX11_text 150 = .ok (.isub, 1) := by decide +kernel
theorem dX11_text_151 : decode cX11_text 151 = .ok (.ireturn, 1) := by decide +kernel
theorem dX11_standsAs_0 : decode cX11_standsAs 0 = .ok (.iconst 1, 1) := by decide +kernel
theorem dX11_standsAs_1 : decode cX11_standsAs 1 = .ok (.istore_n 2, 1) := by decide +kernel
theorem dX11_standsAs_2 : decode cX11_standsAs 2 = .ok (.iconst 0, 1) := by decide +kernel
theorem dX11_standsAs_3 : decode cX11_standsAs 3 = .ok (.istore_n 3, 1) := by decide +kernel
theorem dX11_standsAs_4 : decode cX11_standsAs 4 = .ok (.iload_n 3, 1) := by decide +kernel
theorem dX11_standsAs_5 : decode cX11_standsAs 5 = .ok (.aload_n 0, 1) := by decide +kernel
theorem dX11_standsAs_6 : decode cX11_standsAs 6 = .ok (.invokevirtual 67, 3) := by decide +kernel
theorem dX11_standsAs_9 : decode cX11_standsAs 9 = .ok (.if_icmp .ge 63, 3) := by decide +kernel
theorem dX11_standsAs_12 : decode cX11_standsAs 12 = .ok (.bipush 10, 2) := by decide +kernel
theorem dX11_standsAs_14 : decode cX11_standsAs 14 = .ok (.iconst 5, 1) := by decide +kernel
theorem dX11_standsAs_15 : decode cX11_standsAs 15 = .ok (.iload_n 3, 1) := by decide +kernel
theorem dX11_standsAs_16 : decode cX11_standsAs 16 = .ok (.imul, 1) := by decide +kernel
theorem dX11_standsAs_17 : decode cX11_standsAs 17 = .ok (.iadd, 1) := by decide +kernel
theorem dX11_standsAs_18 : decode cX11_standsAs 18 = .ok (.istore 4, 2) := by decide +kernel
theorem dX11_standsAs_20 : decode cX11_standsAs 20 = .ok (.iload_n 2, 1) := by decide +kernel
theorem dX11_standsAs_21 : decode cX11_standsAs 21 = .ok (.ifCond .eq 43, 3) := by decide +kernel
theorem dX11_standsAs_24 : decode cX11_standsAs 24 = .ok (.aload_n 0, 1) := by decide +kernel
theorem dX11_standsAs_25 : decode cX11_standsAs 25 = .ok (.getfield 7, 3) := by decide +kernel
theorem dX11_standsAs_28 : decode cX11_standsAs 28 = .ok (.iload 4, 2) := by decide +kernel
theorem dX11_standsAs_30 : decode cX11_standsAs 30 = .ok (.iconst 2, 1) := by decide +kernel
theorem dX11_standsAs_31 : decode cX11_standsAs 31 = .ok (.iadd, 1) := by decide +kernel
theorem dX11_standsAs_32 : decode cX11_standsAs 32 = .ok (.iaload, 1) := by decide +kernel
theorem dX11_standsAs_33 : decode cX11_standsAs 33 = .ok (.aload_n 1, 1) := by decide +kernel
theorem dX11_standsAs_34 : decode cX11_standsAs 34 = .ok (.iload 4, 2) := by decide +kernel
theorem dX11_standsAs_36 : decode cX11_standsAs 36 = .ok (.iconst 2, 1) := by decide +kernel
theorem dX11_standsAs_37 : decode cX11_standsAs 37 = .ok (.iadd, 1) := by decide +kernel
theorem dX11_standsAs_38 : decode cX11_standsAs 38 = .ok (.iaload, 1) := by decide +kernel
theorem dX11_standsAs_39 : decode cX11_standsAs 39 = .ok (.if_icmp .ne 25, 3) := by decide +kernel
theorem dX11_standsAs_42 : decode cX11_standsAs 42 = .ok (.aload_n 0, 1) := by decide +kernel
theorem dX11_standsAs_43 : decode cX11_standsAs 43 = .ok (.getfield 7, 3) := by decide +kernel
theorem dX11_standsAs_46 : decode cX11_standsAs 46 = .ok (.iload 4, 2) := by decide +kernel
theorem dX11_standsAs_48 : decode cX11_standsAs 48 = .ok (.iconst 3, 1) := by decide +kernel
theorem dX11_standsAs_49 : decode cX11_standsAs 49 = .ok (.iadd, 1) := by decide +kernel
theorem dX11_standsAs_50 : decode cX11_standsAs 50 = .ok (.iaload, 1) := by decide +kernel
theorem dX11_standsAs_51 : decode cX11_standsAs 51 = .ok (.aload_n 1, 1) := by decide +kernel
theorem dX11_standsAs_52 : decode cX11_standsAs 52 = .ok (.iload 4, 2) := by decide +kernel
theorem dX11_standsAs_54 : decode cX11_standsAs 54 = .ok (.iconst 3, 1) := by decide +kernel
theorem dX11_standsAs_55 : decode cX11_standsAs 55 = .ok (.iadd, 1) := by decide +kernel
theorem dX11_standsAs_56 : decode cX11_standsAs 56 = .ok (.iaload, 1) := by decide +kernel
theorem dX11_standsAs_57 : decode cX11_standsAs 57 = .ok (.if_icmp .ne 7, 3) := by decide +kernel
theorem dX11_standsAs_60 : decode cX11_standsAs 60 = .ok (.iconst 1, 1) := by decide +kernel
theorem dX11_standsAs_61 : decode cX11_standsAs 61 = .ok (.goto 4, 3) := by decide +kernel
theorem dX11_standsAs_64 : decode cX11_standsAs 64 = .ok (.iconst 0, 1) := by decide +kernel
theorem dX11_standsAs_65 : decode cX11_standsAs 65 = .ok (.istore_n 2, 1) := by decide +kernel
theorem dX11_standsAs_66 : decode cX11_standsAs 66 = .ok (.iinc 3 1, 3) := by decide +kernel
theorem dX11_standsAs_69 : decode cX11_standsAs 69 = .ok (.goto (-65), 3) := by decide +kernel
theorem dX11_standsAs_72 : decode cX11_standsAs 72 = .ok (.iload_n 2, 1) := by decide +kernel
theorem dX11_standsAs_73 : decode cX11_standsAs 73 = .ok (.ireturn, 1) := by decide +kernel
theorem dX11_round_0 : decode cX11_round 0 = .ok (.aload_n 0, 1) := by decide +kernel
theorem dX11_round_1 : decode cX11_round 1 = .ok (.iload_n 1, 1) := by decide +kernel
theorem dX11_round_2 : decode cX11_round 2 = .ok (.invokevirtual 182, 3) := by decide +kernel
theorem dX11_round_5 : decode cX11_round 5 = .ok (.ifCond .ne 10, 3) := by decide +kernel
theorem dX11_round_8 : decode cX11_round 8 = .ok (.aload_n 0, 1) := by decide +kernel
theorem dX11_round_9 : decode cX11_round 9 = .ok (.ldc 78, 2) := by decide +kernel
theorem dX11_round_11 : decode cX11_round 11 = .ok (.invokevirtual 79, 3) := by decide +kernel
theorem dX11_round_14 : decode cX11_round 14 = .ok (.ireturn, 1) := by decide +kernel
theorem dX11_round_15 : decode cX11_round 15 = .ok (.aload_n 0, 1) := by decide +kernel
theorem dX11_round_16 : decode cX11_round 16 = .ok (.aload_n 0, 1) := by decide +kernel
theorem dX11_round_17 : decode cX11_round 17 = .ok (.getfield 7, 3) := by decide +kernel
theorem dX11_round_20 : decode cX11_round 20 = .ok (.aload_n 0, 1) := by decide +kernel
theorem dX11_round_21 : decode cX11_round 21 = .ok (.getfield 16, 3) := by decide +kernel
theorem dX11_round_24 : decode cX11_round 24 = .ok (.invokevirtual 188, 3) := by decide +kernel
theorem dX11_round_27 : decode cX11_round 27 = .ok (.iconst 0, 1) := by decide +kernel
theorem dX11_round_28 : decode cX11_round 28 = .ok (.istore_n 2, 1) := by decide +kernel
theorem dX11_round_29 : decode cX11_round 29 = .ok (.iconst 0, 1) := by decide +kernel
theorem dX11_round_30 : decode cX11_round 30 = .ok (.istore_n 3, 1) := by decide +kernel
theorem dX11_round_31 : decode cX11_round 31 = .ok (.iload_n 2, 1) := by decide +kernel
theorem dX11_round_32 : decode cX11_round 32 = .ok (.sipush 400, 3) := by decide +kernel
theorem dX11_round_35 : decode cX11_round 35 = .ok (.if_icmp .ge 42, 3) := by decide +kernel
theorem dX11_round_38 : decode cX11_round 38 = .ok (.iload_n 3, 1) := by decide +kernel
theorem dX11_round_39 : decode cX11_round 39 = .ok (.ifCond .ne 38, 3) := by decide +kernel
theorem dX11_round_42 : decode cX11_round 42 = .ok (.aload_n 0, 1) := by decide +kernel
theorem dX11_round_43 : decode cX11_round 43 = .ok (.iload_n 1, 1) := by decide +kernel
theorem dX11_round_44 : decode cX11_round 44 = .ok (.invokevirtual 179, 3) := by decide +kernel
theorem dX11_round_47 : decode cX11_round 47 = .ok (.istore 4, 2) := by decide +kernel
theorem dX11_round_49 : decode cX11_round 49 = .ok (.iinc 2 1, 3) := by decide +kernel
theorem dX11_round_52 : decode cX11_round 52 = .ok (.iload 4, 2) := by decide +kernel
theorem dX11_round_54 : decode cX11_round 54 = .ok (.ifCond .lt 18, 3) := by decide +kernel
theorem dX11_round_57 : decode cX11_round 57 = .ok (.aload_n 0, 1) := by decide +kernel
theorem dX11_round_58 : decode cX11_round 58 = .ok (.aload_n 0, 1) := by decide +kernel
theorem dX11_round_59 : decode cX11_round 59 = .ok (.getfield 16, 3) := by decide +kernel
theorem dX11_round_62 : decode cX11_round 62 = .ok (.invokevirtual 263, 3) := by decide +kernel
theorem dX11_round_65 : decode cX11_round 65 = .ok (.ifCond .eq 7, 3) := by decide +kernel
theorem dX11_round_68 : decode cX11_round 68 = .ok (.iconst 1, 1) := by decide +kernel
theorem dX11_round_69 : decode cX11_round 69 = .ok (.goto 4, 3) := by decide +kernel
theorem dX11_round_72 : decode cX11_round 72 = .ok (.iconst 0, 1) := by decide +kernel
theorem dX11_round_73 : decode cX11_round 73 = .ok (.istore_n 3, 1) := by decide +kernel
theorem dX11_round_74 : decode cX11_round 74 = .ok (.goto (-43), 3) := by decide +kernel
theorem dX11_round_77 : decode cX11_round 77 = .ok (.aload_n 0, 1) := by decide +kernel
theorem dX11_round_78 : decode cX11_round 78 = .ok (.aload_n 0, 1) := by decide +kernel
theorem dX11_round_79 : decode cX11_round 79 = .ok (.getfield 16, 3) := by decide +kernel
theorem dX11_round_82 : decode cX11_round 82 = .ok (.aload_n 0, 1) := by decide +kernel
theorem dX11_round_83 : decode cX11_round 83 = .ok (.getfield 7, 3) := by decide +kernel
theorem dX11_round_86 : decode cX11_round 86 = .ok (.invokevirtual 188, 3) := by decide +kernel
theorem dX11_round_89 : decode cX11_round 89 = .ok (.iload_n 3, 1) := by decide +kernel
theorem dX11_round_90 : decode cX11_round 90 = .ok (.ifCond .eq 7, 3) := by decide +kernel
theorem dX11_round_93 : decode cX11_round 93 = .ok (.iload_n 2, 1) := by decide +kernel
theorem dX11_round_94 : decode cX11_round 94 = .ok (.goto 9, 3) := by decide +kernel
theorem dX11_round_97 : decode cX11_round 97 = .ok (.aload_n 0, 1) := by decide +kernel
theorem dX11_round_98 : decode cX11_round 98 = .ok (.ldc 195, 2) := by decide +kernel
theorem dX11_round_100 : decode cX11_round 100 = .ok (.invokevirtual 79, 3) := by decide +kernel
theorem dX11_round_103 : decode cX11_round 103 = .ok (.ireturn, 1) := by decide +kernel
theorem dX11_saves_0 : decode cX11_saves 0 = .ok (.iconst 0, 1) := by decide +kernel
theorem dX11_saves_1 : decode cX11_saves 1 = .ok (.istore_n 2, 1) := by decide +kernel
theorem dX11_saves_2 : decode cX11_saves 2 = .ok (.iload_n 2, 1) := by decide +kernel
theorem dX11_saves_3 : decode cX11_saves 3 = .ok (.sipush 305, 3) := by decide +kernel
theorem dX11_saves_6 : decode cX11_saves 6 = .ok (.if_icmp .ge 27, 3) := by decide +kernel
theorem dX11_saves_9 : decode cX11_saves 9 = .ok (.aload_n 0, 1) := by decide +kernel
theorem dX11_saves_10 : decode cX11_saves 10 = .ok (.getfield 35, 3) := by decide +kernel
theorem dX11_saves_13 : decode cX11_saves 13 = .ok (.sipush 305, 3) := by decide +kernel
theorem dX11_saves_16 : decode cX11_saves 16 = .ok (.iload_n 1, 1) := by decide +kernel
theorem dX11_saves_17 : decode cX11_saves 17 = .ok (.imul, 1) := by decide +kernel
theorem dX11_saves_18 : decode cX11_saves 18 = .ok (.iload_n 2, 1) := by decide +kernel
theorem dX11_saves_19 : decode cX11_saves 19 = .ok (.iadd, 1) := by decide +kernel
theorem dX11_saves_20 : decode cX11_saves 20 = .ok (.aload_n 0, 1) := by decide +kernel
theorem dX11_saves_21 : decode cX11_saves 21 = .ok (.getfield 7, 3) := by decide +kernel
theorem dX11_saves_24 : decode cX11_saves 24 = .ok (.iload_n 2, 1) := by decide +kernel
theorem dX11_saves_25 : decode cX11_saves 25 = .ok (.iaload, 1) := by decide +kernel
theorem dX11_saves_26 : decode cX11_saves 26 = .ok (.iastore, 1) := by decide +kernel
theorem dX11_saves_27 : decode cX11_saves 27 = .ok (.iinc 2 1, 3) := by decide +kernel
theorem dX11_saves_30 : decode cX11_saves 30 = .ok (.goto (-28), 3) := by decide +kernel
theorem dX11_saves_33 : decode cX11_saves 33 = .ok (.return_, 1) := by decide +kernel
theorem dX11_loads_0 : decode cX11_loads 0 = .ok (.iconst 0, 1) := by decide +kernel
theorem dX11_loads_1 : decode cX11_loads 1 = .ok (.istore_n 2, 1) := by decide +kernel
theorem dX11_loads_2 : decode cX11_loads 2 = .ok (.iload_n 2, 1) := by decide +kernel
theorem dX11_loads_3 : decode cX11_loads 3 = .ok (.sipush 305, 3) := by decide +kernel
theorem dX11_loads_6 : decode cX11_loads 6 = .ok (.if_icmp .ge 27, 3) := by decide +kernel
theorem dX11_loads_9 : decode cX11_loads 9 = .ok (.aload_n 0, 1) := by decide +kernel
theorem dX11_loads_10 : decode cX11_loads 10 = .ok (.getfield 7, 3) := by decide +kernel
theorem dX11_loads_13 : decode cX11_loads 13 = .ok (.iload_n 2, 1) := by decide +kernel
theorem dX11_loads_14 : decode cX11_loads 14 = .ok (.aload_n 0, 1) := by decide +kernel
theorem dX11_loads_15 : decode cX11_loads 15 = .ok (.getfield 35, 3) := by decide +kernel
theorem dX11_loads_18 : decode cX11_loads 18 = .ok (.sipush 305, 3) := by decide +kernel
theorem dX11_loads_21 : decode cX11_loads 21 = .ok (.iload_n 1, 1) := by decide +kernel
theorem dX11_loads_22 : decode cX11_loads 22 = .ok (.imul, 1) := by decide +kernel
theorem dX11_loads_23 : decode cX11_loads 23 = .ok (.iload_n 2, 1) := by decide +kernel
theorem dX11_loads_24 : decode cX11_loads 24 = .ok (.iadd, 1) := by decide +kernel
theorem dX11_loads_25 : decode cX11_loads 25 = .ok (.iaload, 1) := by decide +kernel
theorem dX11_loads_26 : decode cX11_loads 26 = .ok (.iastore, 1) := by decide +kernel
theorem dX11_loads_27 : decode cX11_loads 27 = .ok (.iinc 2 1, 3) := by decide +kernel
theorem dX11_loads_30 : decode cX11_loads 30 = .ok (.goto (-28), 3) := by decide +kernel
theorem dX11_loads_33 : decode cX11_loads 33 = .ok (.return_, 1) := by decide +kernel
theorem dX11_bringsBack_0 : decode cX11_bringsBack 0 = .ok (.iload_n 1, 1) := by decide +kernel
theorem dX11_bringsBack_1 : decode cX11_bringsBack 1 = .ok (.ifCond .ne 12, 3) := by decide +kernel
theorem dX11_bringsBack_4 : decode cX11_bringsBack 4 = .ok (.aload_n 0, 1) := by decide +kernel
theorem dX11_bringsBack_5 : decode cX11_bringsBack 5 = .ok (.aload_n 0, 1) := by decide +kernel
theorem dX11_bringsBack_6 : decode cX11_bringsBack 6 = .ok (.getfield 13, 3) := by decide +kernel
theorem dX11_bringsBack_9 : decode cX11_bringsBack 9 = .ok (.invokevirtual 263, 3) := by decide +kernel
theorem dX11_bringsBack_12 : decode cX11_bringsBack 12 = .ok (.ireturn, 1) := by decide +kernel
theorem dX11_bringsBack_13 : decode cX11_bringsBack 13 = .ok (.aload_n 0, 1) := by decide +kernel
theorem dX11_bringsBack_14 : decode cX11_bringsBack 14 = .ok (.iload_n 2, 1) := by decide +kernel
theorem dX11_bringsBack_15 : decode cX11_bringsBack 15 = .ok (.invokevirtual 267, 3) := by decide +kernel
theorem dX11_bringsBack_18 : decode cX11_bringsBack 18 = .ok (.iconst 0, 1) := by decide +kernel
theorem dX11_bringsBack_19 : decode cX11_bringsBack 19 = .ok (.istore_n 3, 1) := by decide +kernel
theorem dX11_bringsBack_20 : decode cX11_bringsBack 20 = .ok (.iconst 0, 1) := by decide +kernel
theorem dX11_bringsBack_21 : decode cX11_bringsBack 21 = .ok (.istore 4, 2) := by decide +kernel
theorem dX11_bringsBack_23 : decode cX11_bringsBack 23 = .ok (.iload 4, 2) := by decide +kernel
theorem dX11_bringsBack_25 : decode cX11_bringsBack 25 = .ok (.aload_n 0, 1) := by decide +kernel
theorem dX11_bringsBack_26 : decode cX11_bringsBack 26 = .ok (.invokevirtual 75, 3) := by decide +kernel
theorem dX11_bringsBack_29 : decode cX11_bringsBack 29 = .ok (.if_icmp .ge 58, 3) := by decide +kernel
theorem dX11_bringsBack_32 : decode cX11_bringsBack 32 = .ok (.iload_n 3, 1) := by decide +kernel
theorem dX11_bringsBack_33 : decode cX11_bringsBack 33 = .ok (.ifCond .ne 54, 3) := by decide +kernel
theorem dX11_bringsBack_36 : decode cX11_bringsBack 36 = .ok (.aload_n 0, 1) := by decide +kernel
theorem dX11_bringsBack_37 : decode cX11_bringsBack 37 = .ok (.getfield 32, 3) := by decide +kernel
theorem dX11_bringsBack_40 : decode cX11_bringsBack 40 = .ok (.iload_n 2, 1) := by decide +kernel
theorem dX11_bringsBack_41 : decode cX11_bringsBack 41 = .ok (.iload 4, 2) := by decide +kernel
theorem dX11_bringsBack_43 : decode cX11_bringsBack 43 = .ok (.iastore, 1) := by decide +kernel
theorem dX11_bringsBack_44 : decode cX11_bringsBack 44 = .ok (.aload_n 0, 1) := by decide +kernel
theorem dX11_bringsBack_45 : decode cX11_bringsBack 45 = .ok (.iload 4, 2) := by decide +kernel
theorem dX11_bringsBack_47 : decode cX11_bringsBack 47 = .ok (.invokevirtual 179, 3) := by decide +kernel
theorem dX11_bringsBack_50 : decode cX11_bringsBack 50 = .ok (.istore 5, 2) := by decide +kernel
theorem dX11_bringsBack_52 : decode cX11_bringsBack 52 = .ok (.iload 5, 2) := by decide +kernel
theorem dX11_bringsBack_54 : decode cX11_bringsBack 54 = .ok (.ifCond .lt 20, 3) := by decide +kernel
theorem dX11_bringsBack_57 : decode cX11_bringsBack 57 = .ok (.aload_n 0, 1) := by decide +kernel
theorem dX11_bringsBack_58 : decode cX11_bringsBack 58 = .ok (.iload_n 1, 1) := by decide +kernel
theorem dX11_bringsBack_59 : decode cX11_bringsBack 59 = .ok (.iconst 1, 1) := by decide +kernel
theorem dX11_bringsBack_60 : decode cX11_bringsBack 60 = .ok (.isub, 1) := by decide +kernel
theorem dX11_bringsBack_61 : decode cX11_bringsBack 61 = .ok (.iload_n 2, 1) := by decide +kernel
theorem dX11_bringsBack_62 : decode cX11_bringsBack 62 = .ok (.iconst 1, 1) := by decide +kernel
theorem dX11_bringsBack_63 : decode cX11_bringsBack 63 = .ok (.iadd, 1) := by decide +kernel
theorem dX11_bringsBack_64 : decode cX11_bringsBack 64 = .ok (.invokevirtual 270, 3) := by decide +kernel
theorem dX11_bringsBack_67 : decode cX11_bringsBack 67 = .ok (.ifCond .eq 7, 3) := by decide +kernel
theorem dX11_bringsBack_70 : decode cX11_bringsBack 70 = .ok (.iconst 1, 1) := by decide +kernel
theorem dX11_bringsBack_71 : decode cX11_bringsBack 71 = .ok (.goto 4, 3) := by decide +kernel
theorem dX11_bringsBack_74 : decode cX11_bringsBack 74 = .ok (.iconst 0, 1) := by decide +kernel
theorem dX11_bringsBack_75 : decode cX11_bringsBack 75 = .ok (.istore_n 3, 1) := by decide +kernel
theorem dX11_bringsBack_76 : decode cX11_bringsBack 76 = .ok (.aload_n 0, 1) := by decide +kernel
theorem dX11_bringsBack_77 : decode cX11_bringsBack 77 = .ok (.iload_n 2, 1) := by decide +kernel
theorem dX11_bringsBack_78 : decode cX11_bringsBack 78 = .ok (.invokevirtual 274, 3) := by decide +kernel
theorem dX11_bringsBack_81 : decode cX11_bringsBack 81 = .ok (.iinc 4 1, 3) := by decide +kernel
theorem dX11_bringsBack_84 : decode cX11_bringsBack 84 = .ok (.goto (-61), 3) := by decide +kernel
theorem dX11_bringsBack_87 : decode cX11_bringsBack 87 = .ok (.iload_n 3, 1) := by decide +kernel
theorem dX11_bringsBack_88 : decode cX11_bringsBack 88 = .ok (.ireturn, 1) := by decide +kernel
theorem dX11_back_0 : decode cX11_back 0 = .ok (.iload_n 1, 1) := by decide +kernel
theorem dX11_back_1 : decode cX11_back 1 = .ok (.iconst (-1), 1) := by decide +kernel
theorem dX11_back_2 : decode cX11_back 2 = .ok (.iconst 2, 1) := by decide +kernel
theorem dX11_back_3 : decode cX11_back 3 = .ok (.invokestatic 71, 3) := by decide +kernel
theorem dX11_back_6 : decode cX11_back 6 = .ok (.ifCond .ne 10, 3) := by decide +kernel
theorem dX11_back_9 : decode cX11_back 9 = .ok (.aload_n 0, 1) := by decide +kernel
theorem dX11_back_10 : decode cX11_back 10 = .ok (.ldc 78, 2) := by decide +kernel
theorem dX11_back_12 : decode cX11_back 12 = .ok (.invokevirtual 79, 3) := by decide +kernel
theorem dX11_back_15 : decode cX11_back 15 = .ok (.ireturn, 1) := by decide +kernel
theorem dX11_back_16 : decode cX11_back 16 = .ok (.aload_n 0, 1) := by decide +kernel
theorem dX11_back_17 : decode cX11_back 17 = .ok (.getfield 277, 3) := by decide +kernel
theorem dX11_back_20 : decode cX11_back 20 = .ok (.ifCond .eq 33, 3) := by decide +kernel
theorem dX11_back_23 : decode cX11_back 23 = .ok (.aload_n 0, 1) := by decide +kernel
theorem dX11_back_24 : decode cX11_back 24 = .ok (.getfield 13, 3) := by decide +kernel
theorem dX11_back_27 : decode cX11_back 27 = .ok (.iconst 0, 1) := by decide +kernel
theorem dX11_back_28 : decode cX11_back 28 = .ok (.iaload, 1) := by decide +kernel
theorem dX11_back_29 : decode cX11_back 29 = .ok (.aload_n 0, 1) := by decide +kernel
theorem dX11_back_30 : decode cX11_back 30 = .ok (.getfield 7, 3) := by decide +kernel
theorem dX11_back_33 : decode cX11_back 33 = .ok (.iconst 0, 1) := by decide +kernel
theorem dX11_back_34 : decode cX11_back 34 = .ok (.iaload, 1) := by decide +kernel
theorem dX11_back_35 : decode cX11_back 35 = .ok (.if_icmp .ne 18, 3) := by decide +kernel
theorem dX11_back_38 : decode cX11_back 38 = .ok (.aload_n 0, 1) := by decide +kernel
theorem dX11_back_39 : decode cX11_back 39 = .ok (.getfield 13, 3) := by decide +kernel
theorem dX11_back_42 : decode cX11_back 42 = .ok (.iconst 1, 1) := by decide +kernel
theorem dX11_back_43 : decode cX11_back 43 = .ok (.iaload, 1) := by decide +kernel
theorem dX11_back_44 : decode cX11_back 44 = .ok (.aload_n 0, 1) := by decide +kernel
theorem dX11_back_45 : decode cX11_back 45 = .ok (.getfield 7, 3) := by decide +kernel
theorem dX11_back_48 : decode cX11_back 48 = .ok (.iconst 1, 1) := by decide +kernel
theorem dX11_back_49 : decode cX11_back 49 = .ok (.iaload, 1) := by decide +kernel
theorem dX11_back_50 : decode cX11_back 50 = .ok (.if_icmp .eq 10, 3) := by decide +kernel
theorem dX11_back_53 : decode cX11_back 53 = .ok (.aload_n 0, 1) := by decide +kernel
theorem dX11_back_54 : decode cX11_back 54 = .ok (.ldc 128, 2) := by decide +kernel
theorem dX11_back_56 : decode cX11_back 56 = .ok (.invokevirtual 79, 3) := by decide +kernel
theorem dX11_back_59 : decode cX11_back 59 = .ok (.ireturn, 1) := by decide +kernel
theorem dX11_back_60 : decode cX11_back 60 = .ok (.iconst 0, 1) := by decide +kernel
theorem dX11_back_61 : decode cX11_back 61 = .ok (.istore_n 2, 1) := by decide +kernel
theorem dX11_back_62 : decode cX11_back 62 = .ok (.iload_n 2, 1) := by decide +kernel
theorem dX11_back_63 : decode cX11_back 63 = .ok (.iconst 4, 1) := by decide +kernel
theorem dX11_back_64 : decode cX11_back 64 = .ok (.if_icmp .ge 18, 3) := by decide +kernel
theorem dX11_back_67 : decode cX11_back 67 = .ok (.aload_n 0, 1) := by decide +kernel
theorem dX11_back_68 : decode cX11_back 68 = .ok (.iload_n 2, 1) := by decide +kernel
theorem dX11_back_69 : decode cX11_back 69 = .ok (.iconst 0, 1) := by decide +kernel
theorem dX11_back_70 : decode cX11_back 70 = .ok (.invokevirtual 270, 3) := by decide +kernel
theorem dX11_back_73 : decode cX11_back 73 = .ok (.ifCond .ne 9, 3) := by decide +kernel
theorem dX11_back_76 : decode cX11_back 76 = .ok (.iinc 2 1, 3) := by decide +kernel
theorem dX11_back_79 : decode cX11_back 79 = .ok (.goto (-17), 3) := by decide +kernel
theorem dX11_back_82 : decode cX11_back 82 = .ok (.iload_n 2, 1) := by decide +kernel
theorem dX11_back_83 : decode cX11_back 83 = .ok (.iconst 4, 1) := by decide +kernel
theorem dX11_back_84 : decode cX11_back 84 = .ok (.if_icmp .eq 8, 3) := by decide +kernel
theorem dX11_back_87 : decode cX11_back 87 = .ok (.iload_n 1, 1) := by decide +kernel
theorem dX11_back_88 : decode cX11_back 88 = .ok (.iload_n 2, 1) := by decide +kernel
theorem dX11_back_89 : decode cX11_back 89 = .ok (.if_icmp .lt 10, 3) := by decide +kernel
theorem dX11_back_92 : decode cX11_back 92 = .ok (.aload_n 0, 1) := by decide +kernel
theorem dX11_back_93 : decode cX11_back 93 = .ok (.ldc 195, 2) := by decide +kernel
theorem dX11_back_95 : decode cX11_back 95 = .ok (.invokevirtual 79, 3) := by decide +kernel
theorem dX11_back_98 : decode cX11_back 98 = .ok (.ireturn, 1) := by decide +kernel
theorem dX11_back_99 : decode cX11_back 99 = .ok (.iload_n 1, 1) := by decide +kernel
theorem dX11_back_100 : decode cX11_back 100 = .ok (.ifCond .ge 7, 3) := by decide +kernel
theorem dX11_back_103 : decode cX11_back 103 = .ok (.iload_n 2, 1) := by decide +kernel
theorem dX11_back_104 : decode cX11_back 104 = .ok (.goto 9, 3) := by decide +kernel
theorem dX11_back_107 : decode cX11_back 107 = .ok (.aload_n 0, 1) := by decide +kernel
theorem dX11_back_108 : decode cX11_back 108 = .ok (.getfield 32, 3) := by decide +kernel
theorem dX11_back_111 : decode cX11_back 111 = .ok (.iload_n 1, 1) := by decide +kernel
theorem dX11_back_112 : decode cX11_back 112 = .ok (.iaload, 1) := by decide +kernel
theorem dX11_back_113 : decode cX11_back 113 = .ok (.ireturn, 1) := by decide +kernel
theorem dX11_lights_0 : decode cX11_lights 0 = .ok (.aload_n 0, 1) := by decide +kernel
theorem dX11_lights_1 : decode cX11_lights 1 = .ok (.aload_n 0, 1) := by decide +kernel
theorem dX11_lights_2 : decode cX11_lights 2 = .ok (.getfield 7, 3) := by decide +kernel
theorem dX11_lights_5 : decode cX11_lights 5 = .ok (.aload_n 0, 1) := by decide +kernel
theorem dX11_lights_6 : decode cX11_lights 6 = .ok (.getfield 16, 3) := by decide +kernel
theorem dX11_lights_9 : decode cX11_lights 9 = .ok (.invokevirtual 188, 3) := by decide +kernel
theorem dX11_lights_12 : decode cX11_lights 12 = .ok (.iload_n 3, 1) := by decide +kernel
theorem dX11_lights_13 : decode cX11_lights 13 = .ok (.ifCond .lt 8, 3) := by decide +kernel
theorem dX11_lights_16 : decode cX11_lights 16 = .ok (.aload_n 0, 1) := by decide +kernel
theorem dX11_lights_17 : decode cX11_lights 17 = .ok (.iload_n 3, 1) := by decide +kernel
theorem dX11_lights_18 : decode cX11_lights 18 = .ok (.invokevirtual 125, 3) := by decide +kernel
theorem dX11_lights_21 : decode cX11_lights 21 = .ok (.iload 4, 2) := by decide +kernel
theorem dX11_lights_23 : decode cX11_lights 23 = .ok (.ifCond .lt 9, 3) := by decide +kernel
theorem dX11_lights_26 : decode cX11_lights 26 = .ok (.aload_n 0, 1) := by decide +kernel
theorem dX11_lights_27 : decode cX11_lights 27 = .ok (.iload 4, 2) := by decide +kernel
theorem dX11_lights_29 : decode cX11_lights 29 = .ok (.invokevirtual 125, 3) := by decide +kernel
theorem dX11_lights_32 : decode cX11_lights 32 = .ok (.aload_n 0, 1) := by decide +kernel
theorem dX11_lights_33 : decode cX11_lights 33 = .ok (.iload_n 1, 1) := by decide +kernel
theorem dX11_lights_34 : decode cX11_lights 34 = .ok (.putfield 25, 3) := by decide +kernel
theorem dX11_lights_37 : decode cX11_lights 37 = .ok (.aload_n 0, 1) := by decide +kernel
theorem dX11_lights_38 : decode cX11_lights 38 = .ok (.iload_n 2, 1) := by decide +kernel
theorem dX11_lights_39 : decode cX11_lights 39 = .ok (.invokevirtual 179, 3) := by decide +kernel
theorem dX11_lights_42 : decode cX11_lights 42 = .ok (.istore 5, 2) := by decide +kernel
theorem dX11_lights_44 : decode cX11_lights 44 = .ok (.aload_n 0, 1) := by decide +kernel
theorem dX11_lights_45 : decode cX11_lights 45 = .ok (.iconst (-1), 1) := by decide +kernel
theorem dX11_lights_46 : decode cX11_lights 46 = .ok (.putfield 25, 3) := by decide +kernel
theorem dX11_lights_49 : decode cX11_lights 49 = .ok (.iload 5, 2) := by decide +kernel
theorem dX11_lights_51 : decode cX11_lights 51 = .ok (.ifCond .lt 14, 3) := by decide +kernel
theorem dX11_lights_54 : decode cX11_lights 54 = .ok (.aload_n 0, 1) := by decide +kernel
theorem dX11_lights_55 : decode cX11_lights 55 = .ok (.getfield 159, 3) := by decide +kernel
theorem dX11_lights_58 : decode cX11_lights 58 = .ok (.ifCond .eq 7, 3) := by decide +kernel
theorem dX11_lights_61 : decode cX11_lights 61 = .ok (.iconst 1, 1) := by decide +kernel
theorem dX11_lights_62 : decode cX11_lights 62 = .ok (.goto 4, 3) := by decide +kernel
theorem dX11_lights_65 : decode cX11_lights 65 = .ok (.iconst 0, 1) := by decide +kernel
theorem dX11_lights_66 : decode cX11_lights 66 = .ok (.istore 6, 2) := by decide +kernel
theorem dX11_lights_68 : decode cX11_lights 68 = .ok (.aload_n 0, 1) := by decide +kernel
theorem dX11_lights_69 : decode cX11_lights 69 = .ok (.aload_n 0, 1) := by decide +kernel
theorem dX11_lights_70 : decode cX11_lights 70 = .ok (.getfield 16, 3) := by decide +kernel
theorem dX11_lights_73 : decode cX11_lights 73 = .ok (.aload_n 0, 1) := by decide +kernel
theorem dX11_lights_74 : decode cX11_lights 74 = .ok (.getfield 7, 3) := by decide +kernel
theorem dX11_lights_77 : decode cX11_lights 77 = .ok (.invokevirtual 188, 3) := by decide +kernel
theorem dX11_lights_80 : decode cX11_lights 80 = .ok (.iload 6, 2) := by decide +kernel
theorem dX11_lights_82 : decode cX11_lights 82 = .ok (.ireturn, 1) := by decide +kernel
theorem dX11_findHands_0 : decode cX11_findHands 0 = .ok (.aload_n 0, 1) := by decide +kernel
theorem dX11_findHands_1 : decode cX11_findHands 1 = .ok (.aload_n 0, 1) := by decide +kernel
theorem dX11_findHands_2 : decode cX11_findHands 2 = .ok (.iload_n 1, 1) := by decide +kernel
theorem dX11_findHands_3 : decode cX11_findHands 3 = .ok (.iload_n 2, 1) := by decide +kernel
theorem dX11_findHands_4 : decode cX11_findHands 4 = .ok (.iconst (-1), 1) := by decide +kernel
theorem dX11_findHands_5 : decode cX11_findHands 5 = .ok (.iconst (-1), 1) := by decide +kernel
theorem dX11_findHands_6 : decode cX11_findHands 6 = .ok (.invokevirtual 280, 3) := by decide +kernel
theorem dX11_findHands_9 : decode cX11_findHands 9 = .ok (.ifCond .eq 7, 3) := by decide +kernel
theorem dX11_findHands_12 : decode cX11_findHands 12 = .ok (.iconst 0, 1) := by decide +kernel
theorem dX11_findHands_13 : decode cX11_findHands 13 = .ok (.goto 4, 3) := by decide +kernel
theorem dX11_findHands_16 : decode cX11_findHands 16 = .ok (.iconst (-1), 1) := by decide +kernel
theorem dX11_findHands_17 : decode cX11_findHands 17 = .ok (.putfield 284, 3) := by decide +kernel
theorem dX11_findHands_20 : decode cX11_findHands 20 = .ok (.aload_n 0, 1) := by decide +kernel
theorem dX11_findHands_21 : decode cX11_findHands 21 = .ok (.iconst (-1), 1) := by decide +kernel
theorem dX11_findHands_22 : decode cX11_findHands 22 = .ok (.putfield 287, 3) := by decide +kernel
theorem dX11_findHands_25 : decode cX11_findHands 25 = .ok (.aload_n 0, 1) := by decide +kernel
theorem dX11_findHands_26 : decode cX11_findHands 26 = .ok (.iconst 0, 1) := by decide +kernel
theorem dX11_findHands_27 : decode cX11_findHands 27 = .ok (.putfield 290, 3) := by decide +kernel
theorem dX11_findHands_30 : decode cX11_findHands 30 = .ok (.iconst 0, 1) := by decide +kernel
theorem dX11_findHands_31 : decode cX11_findHands 31 = .ok (.istore_n 3, 1) := by decide +kernel
theorem dX11_findHands_32 : decode cX11_findHands 32 = .ok (.iload_n 3, 1) := by decide +kernel
theorem dX11_findHands_33 : decode cX11_findHands 33 = .ok (.aload_n 0, 1) := by decide +kernel
theorem dX11_findHands_34 : decode cX11_findHands 34 = .ok (.invokevirtual 67, 3) := by decide +kernel
theorem dX11_findHands_37 : decode cX11_findHands 37 = .ok (.if_icmp .ge 88, 3) := by decide +kernel
theorem dX11_findHands_40 : decode cX11_findHands 40 = .ok (.aload_n 0, 1) := by decide +kernel
theorem dX11_findHands_41 : decode cX11_findHands 41 = .ok (.getfield 284, 3) := by decide +kernel
theorem dX11_findHands_44 : decode cX11_findHands 44 = .ok (.ifCond .eq 81, 3) := by decide +kernel
theorem dX11_findHands_47 : decode cX11_findHands 47 = .ok (.aload_n 0, 1) := by decide +kernel
theorem dX11_findHands_48 : decode cX11_findHands 48 = .ok (.iload_n 3, 1) := by decide +kernel
theorem dX11_findHands_49 : decode cX11_findHands 49 = .ok (.invokevirtual 99, 3) := by decide +kernel
theorem dX11_findHands_52 : decode cX11_findHands 52 = .ok (.ifCond .eq 37, 3) := by decide +kernel
theorem dX11_findHands_55 : decode cX11_findHands 55 = .ok (.aload_n 0, 1) := by decide +kernel
theorem dX11_findHands_56 : decode cX11_findHands 56 = .ok (.getfield 284, 3) := by decide +kernel
theorem dX11_findHands_59 : decode cX11_findHands 59 = .ok (.ifCond .lt 15, 3) := by decide +kernel
theorem dX11_findHands_62 : decode cX11_findHands 62 = .ok (.aload_n 0, 1) := by decide +kernel
theorem dX11_findHands_63 : decode cX11_findHands 63 = .ok (.iload_n 3, 1) := by decide +kernel
theorem dX11_findHands_64 : decode cX11_findHands 64 = .ok (.invokevirtual 102, 3) := by decide +kernel
theorem dX11_findHands_67 : decode cX11_findHands 67 = .ok (.aload_n 0, 1) := by decide +kernel
theorem dX11_findHands_68 : decode cX11_findHands 68 = .ok (.getfield 290, 3) := by decide +kernel
theorem dX11_findHands_71 : decode cX11_findHands 71 = .ok (.if_icmp .ge 18, 3) := by decide +kernel
theorem dX11_findHands_74 : decode cX11_findHands 74 = .ok (.aload_n 0, 1) := by decide +kernel
theorem dX11_findHands_75 : decode cX11_findHands 75 = .ok (.iload_n 1, 1) := by decide +kernel
theorem dX11_findHands_76 : decode cX11_findHands 76 = .ok (.iload_n 2, 1) := by decide +kernel
theorem dX11_findHands_77 : decode cX11_findHands 77 = .ok (.iload_n 3, 1) := by decide +kernel
theorem dX11_findHands_78 : decode cX11_findHands 78 = .ok (.iconst (-1), 1) := by decide +kernel
theorem dX11_findHands_79 : decode cX11_findHands 79 = .ok (.invokevirtual 280, 3) := by decide +kernel
theorem dX11_findHands_82 : decode cX11_findHands 82 = .ok (.ifCond .eq 7, 3) := by decide +kernel
theorem dX11_findHands_85 : decode cX11_findHands 85 = .ok (.iconst 1, 1) := by decide +kernel
theorem dX11_findHands_86 : decode cX11_findHands 86 = .ok (.goto 4, 3) := by decide +kernel
theorem dX11_findHands_89 : decode cX11_findHands 89 = .ok (.iconst 0, 1) := by decide +kernel
theorem dX11_findHands_90 : decode cX11_findHands 90 = .ok (.istore 4, 2) := by decide +kernel
theorem dX11_findHands_92 : decode cX11_findHands 92 = .ok (.iload 4, 2) := by decide +kernel
theorem dX11_findHands_94 : decode cX11_findHands 94 = .ok (.ifCond .eq 25, 3) := by decide +kernel
theorem dX11_findHands_97 : decode cX11_findHands 97 = .ok (.aload_n 0, 1) := by decide +kernel
theorem dX11_findHands_98 : decode cX11_findHands 98 = .ok (.iconst 1, 1) := by decide +kernel
theorem dX11_findHands_99 : decode cX11_findHands 99 = .ok (.putfield 284, 3) := by decide +kernel
theorem dX11_findHands_102 : decode cX11_findHands 102 = .ok (.aload_n 0, 1) := by decide +kernel
theorem dX11_findHands_103 : decode cX11_findHands 103 = .ok (.bipush 101, 2) := by decide +kernel
theorem dX11_findHands_105 : decode cX11_findHands 105 = .ok (.iload_n 3, 1) := by decide +kernel
theorem dX11_findHands_106 : decode cX11_findHands 106 = .ok (.imul, 1) := by decide +kernel
theorem dX11_findHands_107 : decode cX11_findHands 107 = .ok (.putfield 287, 3) := by decide +kernel
theorem dX11_findHands_110 : decode cX11_findHands 110 = .ok (.aload_n 0, 1) := by decide +kernel
theorem dX11_findHands_111 : decode cX11_findHands 111 = .ok (.aload_n 0, 1) := by decide +kernel
theorem dX11_findHands_112 : decode cX11_findHands 112 = .ok (.iload_n 3, 1) := by decide +kernel
theorem dX11_findHands_113 : decode cX11_findHands 113 = .ok (.invokevirtual 102, 3) := by decide +kernel
theorem dX11_findHands_116 : decode cX11_findHands 116 = .ok (.putfield 290, 3) := by decide +kernel
theorem dX11_findHands_119 : decode cX11_findHands 119 = .ok (.iinc 3 1, 3) := by decide +kernel
theorem dX11_findHands_122 : decode cX11_findHands 122 = .ok (.goto (-90), 3) := by decide +kernel
theorem dX11_findHands_125 : decode cX11_findHands 125 = .ok (.aload_n 0, 1) := by decide +kernel
theorem dX11_findHands_126 : decode cX11_findHands 126 = .ok (.getfield 284, 3) := by decide +kernel
theorem dX11_findHands_129 : decode cX11_findHands 129 = .ok (.ifCond .lt 4, 3) := by decide +kernel
theorem dX11_findHands_132 : decode cX11_findHands 132 = .ok (.return_, 1) := by decide +kernel
theorem dX11_findHands_133 : decode cX11_findHands 133 = .ok (.iconst 0, 1) := by decide +kernel
theorem dX11_findHands_134 : decode cX11_findHands 134 = .ok (.istore_n 3, 1) := by decide +kernel
theorem dX11_findHands_135 : decode cX11_findHands 135 = .ok (.iload_n 3, 1) := by decide +kernel
theorem dX11_findHands_136 : decode cX11_findHands 136 = .ok (.aload_n 0, 1) := by decide +kernel
theorem dX11_findHands_137 : decode cX11_findHands 137 = .ok (.invokevirtual 67, 3) := by decide +kernel
theorem dX11_findHands_140 : decode cX11_findHands 140 = .ok (.if_icmp .ge 128, 3) := by decide +kernel
theorem dX11_findHands_143 : decode cX11_findHands 143 = .ok (.iload_n 3, 1) := by decide +kernel
theorem dX11_findHands_144 : decode cX11_findHands 144 = .ok (.iconst 1, 1) := by decide +kernel
theorem dX11_findHands_145 : decode cX11_findHands 145 = .ok (.iadd, 1) := by decide +kernel
theorem dX11_findHands_146 : decode cX11_findHands 146 = .ok (.istore 4, 2) := by decide +kernel
theorem dX11_findHands_148 : decode cX11_findHands 148 = .ok (.iload 4, 2) := by decide +kernel
theorem dX11_findHands_150 : decode cX11_findHands 150 = .ok (.aload_n 0, 1) := by decide +kernel
theorem dX11_findHands_151 : decode cX11_findHands 151 = .ok (.invokevirtual 67, 3) := by decide +kernel
theorem dX11_findHands_154 : decode cX11_findHands 154 = .ok (.if_icmp .ge 108, 3) := by decide +kernel
theorem dX11_findHands_157 : decode cX11_findHands 157 = .ok (.aload_n 0, 1) := by decide +kernel
theorem dX11_findHands_158 : decode cX11_findHands 158 = .ok (.iload_n 3, 1) := by decide +kernel
theorem dX11_findHands_159 : decode cX11_findHands 159 = .ok (.invokevirtual 99, 3) := by decide +kernel
theorem dX11_findHands_162 : decode cX11_findHands 162 = .ok (.ifCond .eq 54, 3) := by decide +kernel
theorem dX11_findHands_165 : decode cX11_findHands 165 = .ok (.aload_n 0, 1) := by decide +kernel
theorem dX11_findHands_166 : decode cX11_findHands 166 = .ok (.iload 4, 2) := by decide +kernel
theorem dX11_findHands_168 : decode cX11_findHands 168 = .ok (.invokevirtual 99, 3) := by decide +kernel
theorem dX11_findHands_171 : decode cX11_findHands 171 = .ok (.ifCond .eq 45, 3) := by decide +kernel
theorem dX11_findHands_174 : decode cX11_findHands 174 = .ok (.aload_n 0, 1) := by decide +kernel
theorem dX11_findHands_175 : decode cX11_findHands 175 = .ok (.getfield 284, 3) := by decide +kernel
theorem dX11_findHands_178 : decode cX11_findHands 178 = .ok (.ifCond .lt 22, 3) := by decide +kernel
theorem dX11_findHands_181 : decode cX11_findHands 181 = .ok (.aload_n 0, 1) := by decide +kernel
theorem dX11_findHands_182 : decode cX11_findHands 182 = .ok (.iload_n 3, 1) := by decide +kernel
theorem dX11_findHands_183 : decode cX11_findHands 183 = .ok (.invokevirtual 102, 3) := by decide +kernel
theorem dX11_findHands_186 : decode cX11_findHands 186 = .ok (.aload_n 0, 1) := by decide +kernel
theorem dX11_findHands_187 : decode cX11_findHands 187 = .ok (.iload 4, 2) := by decide +kernel
theorem dX11_findHands_189 : decode cX11_findHands 189 = .ok (.invokevirtual 102, 3) := by decide +kernel
theorem dX11_findHands_192 : decode cX11_findHands 192 = .ok (.iadd, 1) := by decide +kernel
theorem dX11_findHands_193 : decode cX11_findHands 193 = .ok (.aload_n 0, 1) := by decide +kernel
theorem dX11_findHands_194 : decode cX11_findHands 194 = .ok (.getfield 290, 3) := by decide +kernel
theorem dX11_findHands_197 : decode cX11_findHands 197 = .ok (.if_icmp .ge 19, 3) := by decide +kernel
theorem dX11_findHands_200 : decode cX11_findHands 200 = .ok (.aload_n 0, 1) := by decide +kernel
theorem dX11_findHands_201 : decode cX11_findHands 201 = .ok (.iload_n 1, 1) := by decide +kernel
theorem dX11_findHands_202 : decode cX11_findHands 202 = .ok (.iload_n 2, 1) := by decide +kernel
theorem dX11_findHands_203 : decode cX11_findHands 203 = .ok (.iload_n 3, 1) := by decide +kernel
theorem dX11_findHands_204 : decode cX11_findHands 204 = .ok (.iload 4, 2) := by decide +kernel
theorem dX11_findHands_206 : decode cX11_findHands 206 = .ok (.invokevirtual 280, 3) := by decide +kernel
theorem dX11_findHands_209 : decode cX11_findHands 209 = .ok (.ifCond .eq 7, 3) := by decide +kernel
theorem dX11_findHands_212 : decode cX11_findHands 212 = .ok (.iconst 1, 1) := by decide +kernel
theorem dX11_findHands_213 : decode cX11_findHands 213 = .ok (.goto 4, 3) := by decide +kernel
theorem dX11_findHands_216 : decode cX11_findHands 216 = .ok (.iconst 0, 1) := by decide +kernel
theorem dX11_findHands_217 : decode cX11_findHands 217 = .ok (.istore 5, 2) := by decide +kernel
theorem dX11_findHands_219 : decode cX11_findHands 219 = .ok (.iload 5, 2) := by decide +kernel
theorem dX11_findHands_221 : decode cX11_findHands 221 = .ok (.ifCond .eq 35, 3) := by decide +kernel
theorem dX11_findHands_224 : decode cX11_findHands 224 = .ok (.aload_n 0, 1) := by decide +kernel
theorem dX11_findHands_225 : decode cX11_findHands 225 = .ok (.iconst 2, 1) := by decide +kernel
theorem dX11_findHands_226 : decode cX11_findHands 226 = .ok (.putfield 284, 3) := by decide +kernel
theorem dX11_findHands_229 : decode cX11_findHands 229 = .ok (.aload_n 0, 1) := by decide +kernel
theorem dX11_findHands_230 : decode cX11_findHands 230 = .ok (.bipush 100, 2) := by decide +kernel
theorem dX11_findHands_232 : decode cX11_findHands 232 = .ok (.iload_n 3, 1) := by decide +kernel
theorem dX11_findHands_233 : decode cX11_findHands 233 = .ok (.imul, 1) := by decide +kernel
theorem dX11_findHands_234 : decode cX11_findHands 234 = .ok (.iload 4, 2) := by decide +kernel
theorem dX11_findHands_236 : decode cX11_findHands 236 = .ok (.iadd, 1) := by decide +kernel
theorem dX11_findHands_237 : decode cX11_findHands 237 = .ok (.putfield 287, 3) := by decide +kernel
theorem dX11_findHands_240 : decode cX11_findHands 240 = .ok (.aload_n 0, 1) := by decide +kernel
theorem dX11_findHands_241 : decode cX11_findHands 241 = .ok (.aload_n 0, 1) := by decide +kernel
theorem dX11_findHands_242 : decode cX11_findHands 242 = .ok (.iload_n 3, 1) := by decide +kernel
theorem dX11_findHands_243 : decode cX11_findHands 243 = .ok (.invokevirtual 102, 3) := by decide +kernel
theorem dX11_findHands_246 : decode cX11_findHands 246 = .ok (.aload_n 0, 1) := by decide +kernel
theorem dX11_findHands_247 : decode cX11_findHands 247 = .ok (.iload 4, 2) := by decide +kernel
theorem dX11_findHands_249 : decode cX11_findHands 249 = .ok (.invokevirtual 102, 3) := by decide +kernel
theorem dX11_findHands_252 : decode cX11_findHands 252 = .ok (.iadd, 1) := by decide +kernel
theorem dX11_findHands_253 : decode cX11_findHands 253 = .ok (.putfield 290, 3) := by decide +kernel
theorem dX11_findHands_256 : decode cX11_findHands 256 = .ok (.iinc 4 1, 3) := by decide +kernel
theorem dX11_findHands_259 : decode cX11_findHands 259 = .ok (.goto (-111), 3) := by decide +kernel
theorem dX11_findHands_262 : decode cX11_findHands 262 = .ok (.iinc 3 1, 3) := by decide +kernel
theorem dX11_findHands_265 : decode cX11_findHands 265 = .ok (.goto (-130), 3) := by decide +kernel
theorem dX11_findHands_268 : decode cX11_findHands 268 = .ok (.return_, 1) := by decide +kernel
theorem dX11_throne_0 : decode cX11_throne 0 = .ok (.aload_n 0, 1) := by decide +kernel
theorem dX11_throne_1 : decode cX11_throne 1 = .ok (.iload_n 1, 1) := by decide +kernel
theorem dX11_throne_2 : decode cX11_throne 2 = .ok (.invokevirtual 83, 3) := by decide +kernel
theorem dX11_throne_5 : decode cX11_throne 5 = .ok (.ifCond .eq 20, 3) := by decide +kernel
theorem dX11_throne_8 : decode cX11_throne 8 = .ok (.aload_n 0, 1) := by decide +kernel
theorem dX11_throne_9 : decode cX11_throne 9 = .ok (.iload_n 2, 1) := by decide +kernel
theorem dX11_throne_10 : decode cX11_throne 10 = .ok (.invokevirtual 182, 3) := by decide +kernel
theorem dX11_throne_13 : decode cX11_throne 13 = .ok (.ifCond .eq 12, 3) := by decide +kernel
theorem dX11_throne_16 : decode cX11_throne 16 = .ok (.iload_n 3, 1) := by decide +kernel
theorem dX11_throne_17 : decode cX11_throne 17 = .ok (.iconst 0, 1) := by decide +kernel
theorem dX11_throne_18 : decode cX11_throne 18 = .ok (.iconst 2, 1) := by decide +kernel
theorem dX11_throne_19 : decode cX11_throne 19 = .ok (.invokestatic 71, 3) := by decide +kernel
theorem dX11_throne_22 : decode cX11_throne 22 = .ok (.ifCond .ne 10, 3) := by decide +kernel
theorem dX11_throne_25 : decode cX11_throne 25 = .ok (.aload_n 0, 1) := by decide +kernel
theorem dX11_throne_26 : decode cX11_throne 26 = .ok (.ldc 78, 2) := by decide +kernel
theorem dX11_throne_28 : decode cX11_throne 28 = .ok (.invokevirtual 79, 3) := by decide +kernel
theorem dX11_throne_31 : decode cX11_throne 31 = .ok (.ireturn, 1) := by decide +kernel
theorem dX11_throne_32 : decode cX11_throne 32 = .ok (.aload_n 0, 1) := by decide +kernel
theorem dX11_throne_33 : decode cX11_throne 33 = .ok (.iload_n 1, 1) := by decide +kernel
theorem dX11_throne_34 : decode cX11_throne 34 = .ok (.iload_n 2, 1) := by decide +kernel
theorem dX11_throne_35 : decode cX11_throne 35 = .ok (.invokevirtual 293, 3) := by decide +kernel
theorem dX11_throne_38 : decode cX11_throne 38 = .ok (.aload_n 0, 1) := by decide +kernel
theorem dX11_throne_39 : decode cX11_throne 39 = .ok (.getfield 284, 3) := by decide +kernel
theorem dX11_throne_42 : decode cX11_throne 42 = .ok (.ifCond .ge 10, 3) := by decide +kernel
theorem dX11_throne_45 : decode cX11_throne 45 = .ok (.aload_n 0, 1) := by decide +kernel
theorem dX11_throne_46 : decode cX11_throne 46 = .ok (.ldc 195, 2) := by decide +kernel
theorem dX11_throne_48 : decode cX11_throne 48 = .ok (.invokevirtual 79, 3) := by decide +kernel
theorem dX11_throne_51 : decode cX11_throne 51 = .ok (.ireturn, 1) := by decide +kernel
theorem dX11_throne_52 : decode cX11_throne 52 = .ok (.iload_n 3, 1) := by decide +kernel
theorem dX11_throne_53 : decode cX11_throne 53 = .ok (.ifCond .ne 10, 3) := by decide +kernel
theorem dX11_throne_56 : decode cX11_throne 56 = .ok (.aload_n 0, 1) := by decide +kernel
theorem dX11_throne_57 : decode cX11_throne 57 = .ok (.getfield 284, 3) := by decide +kernel
theorem dX11_throne_60 : decode cX11_throne 60 = .ok (.goto 19, 3) := by decide +kernel
theorem dX11_throne_63 : decode cX11_throne 63 = .ok (.iload_n 3, 1) := by decide +kernel
theorem dX11_throne_64 : decode cX11_throne 64 = .ok (.iconst 1, 1) := by decide +kernel
theorem dX11_throne_65 : decode cX11_throne 65 = .ok (.if_icmp .ne 10, 3) := by decide +kernel
theorem dX11_throne_68 : decode cX11_throne 68 = .ok (.aload_n 0, 1) := by decide +kernel
theorem dX11_throne_69 : decode cX11_throne 69 = .ok (.getfield 287, 3) := by decide +kernel
theorem dX11_throne_72 : decode cX11_throne 72 = .ok (.goto 7, 3) := by decide +kernel
theorem dX11_throne_75 : decode cX11_throne 75 = .ok (.aload_n 0, 1) := by decide +kernel
theorem dX11_throne_76 : decode cX11_throne 76 = .ok (.getfield 290, 3) := by decide +kernel
theorem dX11_throne_79 : decode cX11_throne 79 = .ok (.ireturn, 1) := by decide +kernel
theorem dX11_timeBits_0 : decode cX11_timeBits 0 = .ok (.lconst 0, 1) := by decide +kernel
theorem dX11_timeBits_1 : decode cX11_timeBits 1 = .ok (.lstore_n 1, 1) := by decide +kernel
theorem dX11_timeBits_2 : decode cX11_timeBits 2 = .ok (.iconst 0, 1) := by decide +kernel
theorem dX11_timeBits_3 : decode cX11_timeBits 3 = .ok (.istore_n 3, 1) := by decide +kernel
theorem dX11_timeBits_4 : decode cX11_timeBits 4 = .ok (.iload_n 3, 1) := by decide +kernel
theorem dX11_timeBits_5 : decode cX11_timeBits 5 = .ok (.aload_n 0, 1) := by decide +kernel
theorem dX11_timeBits_6 : decode cX11_timeBits 6 = .ok (.invokevirtual 67, 3) := by decide +kernel
theorem dX11_timeBits_9 : decode cX11_timeBits 9 = .ok (.if_icmp .ge 23, 3) := by decide +kernel
theorem dX11_timeBits_12 : decode cX11_timeBits 12 = .ok (.lload_n 1, 1) := by decide +kernel
theorem dX11_timeBits_13 : decode cX11_timeBits 13 = .ok (.aload_n 0, 1) := by decide +kernel
theorem dX11_timeBits_14 : decode cX11_timeBits 14 = .ok (.iload_n 3, 1) := by decide +kernel
theorem dX11_timeBits_15 : decode cX11_timeBits 15 = .ok (.iconst 3, 1) := by decide +kernel
theorem dX11_timeBits_16 : decode cX11_timeBits 16 = .ok (.invokevirtual 87, 3) := by decide +kernel
theorem dX11_timeBits_19 : decode cX11_timeBits 19 = .ok (.i2l, 1) := by decide +kernel
theorem dX11_timeBits_20 : decode cX11_timeBits 20 = .ok (.iconst 2, 1) := by decide +kernel
theorem dX11_timeBits_21 : decode cX11_timeBits 21 = .ok (.iload_n 3, 1) := by decide +kernel
theorem dX11_timeBits_22 : decode cX11_timeBits 22 = .ok (.imul, 1) := by decide +kernel
theorem dX11_timeBits_23 : decode cX11_timeBits 23 = .ok (.lshl, 1) := by decide +kernel
theorem dX11_timeBits_24 : decode cX11_timeBits 24 = .ok (.lor, 1) := by decide +kernel
theorem dX11_timeBits_25 : decode cX11_timeBits 25 = .ok (.lstore_n 1, 1) := by decide +kernel
theorem dX11_timeBits_26 : decode cX11_timeBits 26 = .ok (.iinc 3 1, 3) := by decide +kernel
theorem dX11_timeBits_29 : decode cX11_timeBits 29 = .ok (.goto (-25), 3) := by decide +kernel
theorem dX11_timeBits_32 : decode cX11_timeBits 32 = .ok (.lload_n 1, 1) := by decide +kernel
theorem dX11_timeBits_33 : decode cX11_timeBits 33 = .ok (.lreturn, 1) := by decide +kernel
theorem dX11_meets_0 : decode cX11_meets 0 = .ok (.aload_n 0, 1) := by decide +kernel
theorem dX11_meets_1 : decode cX11_meets 1 = .ok (.invokevirtual 132, 3) := by decide +kernel
theorem dX11_meets_4 : decode cX11_meets 4 = .ok (.istore_n 1, 1) := by decide +kernel
theorem dX11_meets_5 : decode cX11_meets 5 = .ok (.aload_n 0, 1) := by decide +kernel
theorem dX11_meets_6 : decode cX11_meets 6 = .ok (.invokevirtual 296, 3) := by decide +kernel
theorem dX11_meets_9 : decode cX11_meets 9 = .ok (.lstore_n 2, 1) := by decide +kernel
theorem dX11_meets_10 : decode cX11_meets 10 = .ok (.aload_n 0, 1) := by decide +kernel
theorem dX11_meets_11 : decode cX11_meets 11 = .ok (.getfield 300, 3) := by decide +kernel
theorem dX11_meets_14 : decode cX11_meets 14 = .ok (.sipush 200, 3) := by decide +kernel
theorem dX11_meets_17 : decode cX11_meets 17 = .ok (.if_icmp .le 7, 3) := by decide +kernel
theorem dX11_meets_20 : decode cX11_meets 20 = .ok (.iconst 1, 1) := by decide +kernel
theorem dX11_meets_21 : decode cX11_meets 21 = .ok (.goto 4, 3) := by decide +kernel
theorem dX11_meets_24 : decode cX11_meets 24 = .ok (.iconst 0, 1) := by decide +kernel
theorem dX11_meets_25 : decode cX11_meets 25 = .ok (.istore 4, 2) := by decide +kernel
theorem dX11_meets_27 : decode cX11_meets 27 = .ok (.iconst 0, 1) := by decide +kernel
theorem dX11_meets_28 : decode cX11_meets 28 = .ok (.istore 5, 2) := by decide +kernel
theorem dX11_meets_30 : decode cX11_meets 30 = .ok (.iload 5, 2) := by decide +kernel
theorem dX11_meets_32 : decode cX11_meets 32 = .ok (.aload_n 0, 1) := by decide +kernel
theorem dX11_meets_33 : decode cX11_meets 33 = .ok (.getfield 300, 3) := by decide +kernel
theorem dX11_meets_36 : decode cX11_meets 36 = .ok (.if_icmp .ge 44, 3) := by decide +kernel
theorem dX11_meets_39 : decode cX11_meets 39 = .ok (.iload 4, 2) := by decide +kernel
theorem dX11_meets_41 : decode cX11_meets 41 = .ok (.ifCond .ne 39, 3) := by decide +kernel
theorem dX11_meets_44 : decode cX11_meets 44 = .ok (.aload_n 0, 1) := by decide +kernel
theorem dX11_meets_45 : decode cX11_meets 45 = .ok (.getfield 38, 3) := by decide +kernel
theorem dX11_meets_48 : decode cX11_meets 48 = .ok (.iload 5, 2) := by decide +kernel
theorem dX11_meets_50 : decode cX11_meets 50 = .ok (.iaload, 1) := by decide +kernel
theorem dX11_meets_51 : decode cX11_meets 51 = .ok (.iload_n 1, 1) := by decide +kernel
theorem dX11_meets_52 : decode cX11_meets 52 = .ok (.if_icmp .ne 19, 3) := by decide +kernel
theorem dX11_meets_55 : decode cX11_meets 55 = .ok (.aload_n 0, 1) := by decide +kernel
theorem dX11_meets_56 : decode cX11_meets 56 = .ok (.getfield 41, 3) := by decide +kernel
theorem dX11_meets_59 : decode cX11_meets 59 = .ok (.iload 5, 2) := by decide +kernel
theorem dX11_meets_61 : decode cX11_meets 61 = .ok (.laload, 1) := by decide +kernel
theorem dX11_meets_62 : decode cX11_meets 62 = .ok (.lload_n 2, 1) := by decide +kernel
theorem dX11_meets_63 : decode cX11_meets 63 = .ok (.lcmp, 1) := by decide +kernel
theorem dX11_meets_64 : decode cX11_meets 64 = .ok (.ifCond .ne 7, 3) := by decide +kernel
theorem dX11_meets_67 : decode cX11_meets 67 = .ok (.iconst 1, 1) := by decide +kernel
theorem dX11_meets_68 : decode cX11_meets 68 = .ok (.goto 4, 3) := by decide +kernel
theorem dX11_meets_71 : decode cX11_meets 71 = .ok (.iconst 0, 1) := by decide +kernel
theorem dX11_meets_72 : decode cX11_meets 72 = .ok (.istore 4, 2) := by decide +kernel
theorem dX11_meets_74 : decode cX11_meets 74 = .ok (.iinc 5 1, 3) := by decide +kernel
theorem dX11_meets_77 : decode cX11_meets 77 = .ok (.goto (-47), 3) := by decide +kernel
theorem dX11_meets_80 : decode cX11_meets 80 = .ok (.iload 4, 2) := by decide +kernel
theorem dX11_meets_82 : decode cX11_meets 82 = .ok (.ifCond .ne 33, 3) := by decide +kernel
theorem dX11_meets_85 : decode cX11_meets 85 = .ok (.aload_n 0, 1) := by decide +kernel
theorem dX11_meets_86 : decode cX11_meets 86 = .ok (.getfield 38, 3) := by decide +kernel
theorem dX11_meets_89 : decode cX11_meets 89 = .ok (.aload_n 0, 1) := by decide +kernel
theorem dX11_meets_90 : decode cX11_meets 90 = .ok (.getfield 300, 3) := by decide +kernel
theorem dX11_meets_93 : decode cX11_meets 93 = .ok (.iload_n 1, 1) := by decide +kernel
theorem dX11_meets_94 : decode cX11_meets 94 = .ok (.iastore, 1) := by decide +kernel
theorem dX11_meets_95 : decode cX11_meets 95 = .ok (.aload_n 0, 1) := by decide +kernel
theorem dX11_meets_96 : decode cX11_meets 96 = .ok (.getfield 41, 3) := by decide +kernel
theorem dX11_meets_99 : decode cX11_meets 99 = .ok (.aload_n 0, 1) := by decide +kernel
theorem dX11_meets_100 : decode cX11_meets 100 = .ok (.getfield 300, 3) := by decide +kernel
theorem dX11_meets_103 : decode cX11_meets 103 = .ok (.lload_n 2, 1) := by decide +kernel
theorem dX11_meets_104 : decode cX11_meets 104 = .ok (.lastore, 1) := by decide +kernel
theorem dX11_meets_105 : decode cX11_meets 105 = .ok (.aload_n 0, 1) := by decide +kernel
theorem dX11_meets_106 : decode cX11_meets 106 = .ok (.dup, 1) := by decide +kernel
theorem dX11_meets_107 : decode cX11_meets 107 = .ok (.getfield 300, 3) := by decide +kernel
theorem dX11_meets_110 : decode cX11_meets 110 = .ok (.iconst 1, 1) := by decide +kernel
theorem dX11_meets_111 : decode cX11_meets 111 = .ok (.iadd, 1) := by decide +kernel
theorem dX11_meets_112 : decode cX11_meets 112 = .ok (.putfield 300, 3) := by decide +kernel
theorem dX11_meets_115 : decode cX11_meets 115 = .ok (.return_, 1) := by decide +kernel
theorem dX11_standsAsMet_0 : decode cX11_standsAsMet 0 = .ok (.iconst 0, 1) := by decide +kernel
theorem dX11_standsAsMet_1 : decode cX11_standsAsMet 1 = .ok (.istore_n 2, 1) := by decide +kernel
theorem dX11_standsAsMet_2 : decode cX11_standsAsMet 2 = .ok (.iload_n 2, 1) := by decide +kernel
theorem dX11_standsAsMet_3 : decode cX11_standsAsMet 3 = .ok (.aload_n 0, 1) := by decide +kernel
theorem dX11_standsAsMet_4 : decode cX11_standsAsMet 4 = .ok (.invokevirtual 67, 3) := by decide +kernel
theorem dX11_standsAsMet_7 : decode cX11_standsAsMet 7 = .ok (.if_icmp .ge 46, 3) := by decide +kernel
theorem dX11_standsAsMet_10 : decode cX11_standsAsMet 10 = .ok (.aload_n 0, 1) := by decide +kernel
theorem dX11_standsAsMet_11 : decode cX11_standsAsMet 11 = .ok (.iload_n 2, 1) := by decide +kernel
theorem dX11_standsAsMet_12 : decode cX11_standsAsMet 12 = .ok (.iconst 2, 1) := by decide +kernel
theorem dX11_standsAsMet_13 : decode cX11_standsAsMet 13 = .ok (.aload_n 0, 1) := by decide +kernel
theorem dX11_standsAsMet_14 : decode cX11_standsAsMet 14 = .ok (.getfield 38, 3) := by decide +kernel
theorem dX11_standsAsMet_17 : decode cX11_standsAsMet 17 = .ok (.iload_n 1, 1) := by decide +kernel
theorem dX11_standsAsMet_18 : decode cX11_standsAsMet 18 = .ok (.iaload, 1) := by decide +kernel
theorem dX11_standsAsMet_19 : decode cX11_standsAsMet 19 = .ok (.iload_n 2, 1) := by decide +kernel
theorem dX11_standsAsMet_20 : decode cX11_standsAsMet 20 = .ok (.ishr, 1) := by decide +kernel
theorem dX11_standsAsMet_21 : decode cX11_standsAsMet 21 = .ok (.iconst 1, 1) := by decide +kernel
theorem dX11_standsAsMet_22 : decode cX11_standsAsMet 22 = .ok (.iand, 1) := by decide +kernel
theorem dX11_standsAsMet_23 : decode cX11_standsAsMet 23 = .ok (.invokevirtual 91, 3) := by decide +kernel
theorem dX11_standsAsMet_26 : decode cX11_standsAsMet 26 = .ok (.aload_n 0, 1) := by decide +kernel
theorem dX11_standsAsMet_27 : decode cX11_standsAsMet 27 = .ok (.iload_n 2, 1) := by decide +kernel
theorem dX11_standsAsMet_28 : decode cX11_standsAsMet 28 = .ok (.iconst 3, 1) := by decide +kernel
theorem dX11_standsAsMet_29 : decode cX11_standsAsMet 29 = .ok (.aload_n 0, 1) := by decide +kernel
theorem dX11_standsAsMet_30 : decode cX11_standsAsMet 30 = .ok (.getfield 41, 3) := by decide +kernel
theorem dX11_standsAsMet_33 : decode cX11_standsAsMet 33 = .ok (.iload_n 1, 1) := by decide +kernel
theorem dX11_standsAsMet_34 : decode cX11_standsAsMet 34 = .ok (.laload, 1) := by decide +kernel
theorem dX11_standsAsMet_35 : decode cX11_standsAsMet 35 = .ok (.iconst 2, 1) := by decide +kernel
theorem dX11_standsAsMet_36 : decode cX11_standsAsMet 36 = .ok (.iload_n 2, 1) := by decide +kernel
theorem dX11_standsAsMet_37 : decode cX11_standsAsMet 37 = .ok (.imul, 1) := by decide +kernel
theorem dX11_standsAsMet_38 : decode cX11_standsAsMet 38 = .ok (.lshr, 1) := by decide +kernel
theorem dX11_standsAsMet_39 : decode cX11_standsAsMet 39 = .ok (.ldc2_w 303, 3) := by decide +kernel
theorem dX11_standsAsMet_42 : decode cX11_standsAsMet 42 = .ok (.land, 1) := by decide +kernel
theorem dX11_standsAsMet_43 : decode cX11_standsAsMet 43 = .ok (.l2i, 1) := by decide +kernel
theorem dX11_standsAsMet_44 : decode cX11_standsAsMet 44 = .ok (.invokevirtual 91, 3) := by decide +kernel
theorem dX11_standsAsMet_47 : decode cX11_standsAsMet 47 = .ok (.iinc 2 1, 3) := by decide +kernel
theorem dX11_standsAsMet_50 : decode cX11_standsAsMet 50 = .ok (.goto (-48), 3) := by decide +kernel
theorem dX11_standsAsMet_53 : decode cX11_standsAsMet 53 = .ok (.return_, 1) := by decide +kernel
theorem dX11_had_0 : decode cX11_had 0 = .ok (.aload_n 0, 1) := by decide +kernel
theorem dX11_had_1 : decode cX11_had 1 = .ok (.aload_n 0, 1) := by decide +kernel
theorem dX11_had_2 : decode cX11_had 2 = .ok (.getfield 7, 3) := by decide +kernel
theorem dX11_had_5 : decode cX11_had 5 = .ok (.aload_n 0, 1) := by decide +kernel
theorem dX11_had_6 : decode cX11_had 6 = .ok (.getfield 16, 3) := by decide +kernel
theorem dX11_had_9 : decode cX11_had 9 = .ok (.invokevirtual 188, 3) := by decide +kernel
theorem dX11_had_12 : decode cX11_had 12 = .ok (.aload_n 0, 1) := by decide +kernel
theorem dX11_had_13 : decode cX11_had 13 = .ok (.iconst 0, 1) := by decide +kernel
theorem dX11_had_14 : decode cX11_had 14 = .ok (.putfield 300, 3) := by decide +kernel
theorem dX11_had_17 : decode cX11_had 17 = .ok (.aload_n 0, 1) := by decide +kernel
theorem dX11_had_18 : decode cX11_had 18 = .ok (.invokevirtual 305, 3) := by decide +kernel
theorem dX11_had_21 : decode cX11_had 21 = .ok (.iconst 0, 1) := by decide +kernel
theorem dX11_had_22 : decode cX11_had 22 = .ok (.istore_n 1, 1) := by decide +kernel
theorem dX11_had_23 : decode cX11_had 23 = .ok (.iload_n 1, 1) := by decide +kernel
theorem dX11_had_24 : decode cX11_had 24 = .ok (.aload_n 0, 1) := by decide +kernel
theorem dX11_had_25 : decode cX11_had 25 = .ok (.getfield 300, 3) := by decide +kernel
theorem dX11_had_28 : decode cX11_had 28 = .ok (.if_icmp .ge 64, 3) := by decide +kernel
theorem dX11_had_31 : decode cX11_had 31 = .ok (.aload_n 0, 1) := by decide +kernel
theorem dX11_had_32 : decode cX11_had 32 = .ok (.getfield 300, 3) := by decide +kernel
theorem dX11_had_35 : decode cX11_had 35 = .ok (.sipush 200, 3) := by decide +kernel
theorem dX11_had_38 : decode cX11_had 38 = .ok (.if_icmp .gt 54, 3) := by decide +kernel
theorem dX11_had_41 : decode cX11_had 41 = .ok (.iconst 0, 1) := by decide +kernel
theorem dX11_had_42 : decode cX11_had 42 = .ok (.istore_n 2, 1) := by decide +kernel
theorem dX11_had_43 : decode cX11_had 43 = .ok (.iload_n 2, 1) := by decide +kernel
theorem dX11_had_44 : decode cX11_had 44 = .ok (.aload_n 0, 1) := by decide +kernel
theorem dX11_had_45 : decode cX11_had 45 = .ok (.invokevirtual 75, 3) := by decide +kernel
theorem dX11_had_48 : decode cX11_had 48 = .ok (.if_icmp .ge 38, 3) := by decide +kernel
theorem dX11_had_51 : decode cX11_had 51 = .ok (.aload_n 0, 1) := by decide +kernel
theorem dX11_had_52 : decode cX11_had 52 = .ok (.getfield 300, 3) := by decide +kernel
theorem dX11_had_55 : decode cX11_had 55 = .ok (.sipush 200, 3) := by decide +kernel
theorem dX11_had_58 : decode cX11_had 58 = .ok (.if_icmp .gt 28, 3) := by decide +kernel
theorem dX11_had_61 : decode cX11_had 61 = .ok (.aload_n 0, 1) := by decide +kernel
theorem dX11_had_62 : decode cX11_had 62 = .ok (.iload_n 1, 1) := by decide +kernel
theorem dX11_had_63 : decode cX11_had 63 = .ok (.invokevirtual 308, 3) := by decide +kernel
theorem dX11_had_66 : decode cX11_had 66 = .ok (.aload_n 0, 1) := by decide +kernel
theorem dX11_had_67 : decode cX11_had 67 = .ok (.iload_n 2, 1) := by decide +kernel
theorem dX11_had_68 : decode cX11_had 68 = .ok (.invokevirtual 179, 3) := by decide +kernel
theorem dX11_had_71 : decode cX11_had 71 = .ok (.istore_n 3, 1) := by decide +kernel
theorem dX11_had_72 : decode cX11_had 72 = .ok (.iload_n 3, 1) := by decide +kernel
theorem dX11_had_73 : decode cX11_had 73 = .ok (.ifCond .lt 7, 3) := by decide +kernel
theorem dX11_had_76 : decode cX11_had 76 = .ok (.aload_n 0, 1) := by decide +kernel
theorem dX11_had_77 : decode cX11_had 77 = .ok (.invokevirtual 305, 3) := by decide +kernel
theorem dX11_had_80 : decode cX11_had 80 = .ok (.iinc 2 1, 3) := by decide +kernel
theorem dX11_had_83 : decode cX11_had 83 = .ok (.goto (-40), 3) := by decide +kernel
theorem dX11_had_86 : decode cX11_had 86 = .ok (.iinc 1 1, 3) := by decide +kernel
theorem dX11_had_89 : decode cX11_had 89 = .ok (.goto (-66), 3) := by decide +kernel
theorem dX11_had_92 : decode cX11_had 92 = .ok (.aload_n 0, 1) := by decide +kernel
theorem dX11_had_93 : decode cX11_had 93 = .ok (.aload_n 0, 1) := by decide +kernel
theorem dX11_had_94 : decode cX11_had 94 = .ok (.getfield 16, 3) := by decide +kernel
theorem dX11_had_97 : decode cX11_had 97 = .ok (.aload_n 0, 1) := by decide +kernel
theorem dX11_had_98 : decode cX11_had 98 = .ok (.getfield 7, 3) := by decide +kernel
theorem dX11_had_101 : decode cX11_had 101 = .ok (.invokevirtual 188, 3) := by decide +kernel
theorem dX11_had_104 : decode cX11_had 104 = .ok (.aload_n 0, 1) := by decide +kernel
theorem dX11_had_105 : decode cX11_had 105 = .ok (.getfield 300, 3) := by decide +kernel
theorem dX11_had_108 : decode cX11_had 108 = .ok (.sipush 200, 3) := by decide +kernel
theorem dX11_had_111 : decode cX11_had 111 = .ok (.if_icmp .le 13, 3) := by decide +kernel
theorem dX11_had_114 : decode cX11_had 114 = .ok (.aload_n 0, 1) := by decide +kernel
theorem dX11_had_115 : decode cX11_had 115 = .ok (.ldc_w 260, 3) := by decide +kernel
theorem dX11_had_118 : decode cX11_had 118 = .ok (.invokevirtual 79, 3) := by decide +kernel
theorem dX11_had_121 : decode cX11_had 121 = .ok (.goto 7, 3) := by decide +kernel
theorem dX11_had_124 : decode cX11_had 124 = .ok (.aload_n 0, 1) := by decide +kernel
theorem dX11_had_125 : decode cX11_had 125 = .ok (.getfield 300, 3) := by decide +kernel
theorem dX11_had_128 : decode cX11_had 128 = .ok (.ireturn, 1) := by decide +kernel
theorem dX11_findUnknown_0 : decode cX11_findUnknown 0 = .ok (.aload_n 0, 1) := by decide +kernel
theorem dX11_findUnknown_1 : decode cX11_findUnknown 1 = .ok (.iconst 0, 1) := by decide +kernel
theorem dX11_findUnknown_2 : decode cX11_findUnknown 2 = .ok (.putfield 311, 3) := by decide +kernel
theorem dX11_findUnknown_5 : decode cX11_findUnknown 5 = .ok (.iconst 0, 1) := by decide +kernel
theorem dX11_findUnknown_6 : decode cX11_findUnknown 6 = .ok (.istore_n 2, 1) := by decide +kernel
theorem dX11_findUnknown_7 : decode cX11_findUnknown 7 = .ok (.iload_n 2, 1) := by decide +kernel
theorem dX11_findUnknown_8 : decode cX11_findUnknown 8 = .ok (.aload_n 0, 1) := by decide +kernel
theorem dX11_findUnknown_9 : decode cX11_findUnknown 9 = .ok (.invokevirtual 67, 3) := by decide +kernel
theorem dX11_findUnknown_12 : decode cX11_findUnknown 12 = .ok (.if_icmp .ge 54, 3) := by decide +kernel
theorem dX11_findUnknown_15 : decode cX11_findUnknown 15 = .ok (.aload_n 0, 1) := by decide +kernel
theorem dX11_findUnknown_16 : decode cX11_findUnknown 16 = .ok (.getfield 311, 3) := by decide +kernel
theorem dX11_findUnknown_19 : decode cX11_findUnknown 19 = .ok (.iconst 5, 1) := by decide +kernel
theorem dX11_findUnknown_20 : decode cX11_findUnknown 20 = .ok (.if_icmp .ge 46, 3) := by decide +kernel
theorem dX11_findUnknown_23 : decode cX11_findUnknown 23 = .ok (.iload_n 1, 1) := by decide +kernel
theorem dX11_findUnknown_24 : decode cX11_findUnknown 24 = .ok (.iload_n 2, 1) := by decide +kernel
theorem dX11_findUnknown_25 : decode cX11_findUnknown 25 = .ok (.ishr, 1) := by decide +kernel
theorem dX11_findUnknown_26 : decode cX11_findUnknown 26 = .ok (.iconst 1, 1) := by decide +kernel
theorem dX11_findUnknown_27 : decode cX11_findUnknown 27 = .ok (.iand, 1) := by decide +kernel
theorem dX11_findUnknown_28 : decode cX11_findUnknown 28 = .ok (.iconst 1, 1) := by decide +kernel
theorem dX11_findUnknown_29 : decode cX11_findUnknown 29 = .ok (.if_icmp .ne 31, 3) := by decide +kernel
theorem dX11_findUnknown_32 : decode cX11_findUnknown 32 = .ok (.aload_n 0, 1) := by decide +kernel
theorem dX11_findUnknown_33 : decode cX11_findUnknown 33 = .ok (.iload_n 2, 1) := by decide +kernel
theorem dX11_findUnknown_34 : decode cX11_findUnknown 34 = .ok (.invokevirtual 105, 3) := by decide +kernel
theorem dX11_findUnknown_37 : decode cX11_findUnknown 37 = .ok (.ifCond .eq 23, 3) := by decide +kernel
theorem dX11_findUnknown_40 : decode cX11_findUnknown 40 = .ok (.aload_n 0, 1) := by decide +kernel
theorem dX11_findUnknown_41 : decode cX11_findUnknown 41 = .ok (.getfield 45, 3) := by decide +kernel
theorem dX11_findUnknown_44 : decode cX11_findUnknown 44 = .ok (.aload_n 0, 1) := by decide +kernel
theorem dX11_findUnknown_45 : decode cX11_findUnknown 45 = .ok (.getfield 311, 3) := by decide +kernel
theorem dX11_findUnknown_48 : decode cX11_findUnknown 48 = .ok (.iload_n 2, 1) := by decide +kernel
theorem dX11_findUnknown_49 : decode cX11_findUnknown 49 = .ok (.iastore, 1) := by decide +kernel
theorem dX11_findUnknown_50 : decode cX11_findUnknown 50 = .ok (.aload_n 0, 1) := by decide +kernel
theorem dX11_findUnknown_51 : decode cX11_findUnknown 51 = .ok (.dup, 1) := by decide +kernel
theorem dX11_findUnknown_52 : decode cX11_findUnknown 52 = .ok (.getfield 311, 3) := by decide +kernel
theorem dX11_findUnknown_55 : decode cX11_findUnknown 55 = .ok (.iconst 1, 1) := by decide +kernel
theorem dX11_findUnknown_56 : decode cX11_findUnknown 56 = .ok (.iadd, 1) := by decide +kernel
theorem dX11_findUnknown_57 : decode cX11_findUnknown 57 = .ok (.putfield 311, 3) := by decide +kernel
theorem dX11_findUnknown_60 : decode cX11_findUnknown 60 = .ok (.iinc 2 1, 3) := by decide +kernel
theorem dX11_findUnknown_63 : decode cX11_findUnknown 63 = .ok (.goto (-56), 3) := by decide +kernel
theorem dX11_findUnknown_66 : decode cX11_findUnknown 66 = .ok (.return_, 1) := by decide +kernel
theorem dX11_slantsAre_0 : decode cX11_slantsAre 0 = .ok (.iconst 0, 1) := by decide +kernel
theorem dX11_slantsAre_1 : decode cX11_slantsAre 1 = .ok (.istore_n 2, 1) := by decide +kernel
theorem dX11_slantsAre_2 : decode cX11_slantsAre 2 = .ok (.iload_n 2, 1) := by decide +kernel
theorem dX11_slantsAre_3 : decode cX11_slantsAre 3 = .ok (.aload_n 0, 1) := by decide +kernel
theorem dX11_slantsAre_4 : decode cX11_slantsAre 4 = .ok (.getfield 311, 3) := by decide +kernel
theorem dX11_slantsAre_7 : decode cX11_slantsAre 7 = .ok (.if_icmp .ge 25, 3) := by decide +kernel
theorem dX11_slantsAre_10 : decode cX11_slantsAre 10 = .ok (.aload_n 0, 1) := by decide +kernel
theorem dX11_slantsAre_11 : decode cX11_slantsAre 11 = .ok (.aload_n 0, 1) := by decide +kernel
theorem dX11_slantsAre_12 : decode cX11_slantsAre 12 = .ok (.getfield 45, 3) := by decide +kernel
theorem dX11_slantsAre_15 : decode cX11_slantsAre 15 = .ok (.iload_n 2, 1) := by decide +kernel
theorem dX11_slantsAre_16 : decode cX11_slantsAre 16 = .ok (.iaload, 1) := by decide +kernel
theorem dX11_slantsAre_17 : decode cX11_slantsAre 17 = .ok (.iconst 2, 1) := by decide +kernel
theorem dX11_slantsAre_18 : decode cX11_slantsAre 18 = .ok (.iload_n 1, 1) := by decide +kernel
theorem dX11_slantsAre_19 : decode cX11_slantsAre 19 = .ok (.iload_n 2, 1) := by decide +kernel
theorem dX11_slantsAre_20 : decode cX11_slantsAre 20 = .ok (.ishr, 1) := by decide +kernel
theorem dX11_slantsAre_21 : decode cX11_slantsAre 21 = .ok (.iconst 1, 1) := by decide +kernel
theorem dX11_slantsAre_22 : decode cX11_slantsAre 22 = .ok (.iand, 1) := by decide +kernel
theorem dX11_slantsAre_23 : decode cX11_slantsAre 23 = .ok (.invokevirtual 91, 3) := by decide +kernel
theorem dX11_slantsAre_26 : decode cX11_slantsAre 26 = .ok (.iinc 2 1, 3) := by decide +kernel
theorem dX11_slantsAre_29 : decode cX11_slantsAre 29 = .ok (.goto (-27), 3) := by decide +kernel
theorem dX11_slantsAre_32 : decode cX11_slantsAre 32 = .ok (.return_, 1) := by decide +kernel
theorem dX11_isMask_0 : decode cX11_isMask 0 = .ok (.iload_n 1, 1) := by decide +kernel
theorem dX11_isMask_1 : decode cX11_isMask 1 = .ok (.iconst 0, 1) := by decide +kernel
theorem dX11_isMask_2 : decode cX11_isMask 2 = .ok (.iconst 1, 1) := by decide +kernel
theorem dX11_isMask_3 : decode cX11_isMask 3 = .ok (.aload_n 0, 1) := by decide +kernel
theorem dX11_isMask_4 : decode cX11_isMask 4 = .ok (.invokevirtual 67, 3) := by decide +kernel
theorem dX11_isMask_7 : decode cX11_isMask 7 = .ok (.ishl, 1) := by decide +kernel
theorem dX11_isMask_8 : decode cX11_isMask 8 = .ok (.iconst 1, 1) := by decide +kernel
theorem dX11_isMask_9 : decode cX11_isMask 9 = .ok (.isub, 1) := by decide +kernel
theorem dX11_isMask_10 : decode cX11_isMask 10 = .ok (.invokestatic 71, 3) := by decide +kernel
theorem dX11_isMask_13 : decode cX11_isMask 13 = .ok (.ireturn, 1) := by decide +kernel
theorem dX11_isOutThere_0 : decode cX11_isOutThere 0 = .ok (.aload_n 0, 1) := by decide +kernel
theorem dX11_isOutThere_1 : decode cX11_isOutThere 1 = .ok (.iload_n 1, 1) := by decide +kernel
theorem dX11_isOutThere_2 : decode cX11_isOutThere 2 = .ok (.invokevirtual 182, 3) := by decide +kernel
theorem dX11_isOutThere_5 : decode cX11_isOutThere 5 = .ok (.ifCond .ne 9, 3) := by decide +kernel
theorem dX11_isOutThere_8 : decode cX11_isOutThere 8 = .ok (.iload_n 1, 1) := by decide +kernel
theorem dX11_isOutThere_9 : decode cX11_isOutThere 9 = .ok (.bipush 100, 2) := by decide +kernel
theorem dX11_isOutThere_11 : decode cX11_isOutThere 11 = .ok (.if_icmp .ne 7, 3) := by decide +kernel
theorem dX11_isOutThere_14 : decode cX11_isOutThere 14 = .ok (.iconst 1, 1) := by decide +kernel
theorem dX11_isOutThere_15 : decode cX11_isOutThere 15 = .ok (.goto 4, 3) := by decide +kernel
theorem dX11_isOutThere_18 : decode cX11_isOutThere 18 = .ok (.iconst 0, 1) := by decide +kernel
theorem dX11_isOutThere_19 : decode cX11_isOutThere 19 = .ok (.ireturn, 1) := by decide +kernel
theorem dX11_divisor_0 : decode cX11_divisor 0 = .ok (.iload_n 0, 1) := by decide +kernel
theorem dX11_divisor_1 : decode cX11_divisor 1 = .ok (.istore_n 2, 1) := by decide +kernel
theorem dX11_divisor_2 : decode cX11_divisor 2 = .ok (.iload_n 1, 1) := by decide +kernel
theorem dX11_divisor_3 : decode cX11_divisor 3 = .ok (.istore_n 3, 1) := by decide +kernel
theorem dX11_divisor_4 : decode cX11_divisor 4 = .ok (.iload_n 3, 1) := by decide +kernel
theorem dX11_divisor_5 : decode cX11_divisor 5 = .ok (.ifCond .eq 16, 3) := by decide +kernel
theorem dX11_divisor_8 : decode cX11_divisor 8 = .ok (.iload_n 2, 1) := by decide +kernel
theorem dX11_divisor_9 : decode cX11_divisor 9 = .ok (.iload_n 3, 1) := by decide +kernel
theorem dX11_divisor_10 : decode cX11_divisor 10 = .ok (.irem, 1) := by decide +kernel
theorem dX11_divisor_11 : decode cX11_divisor 11 = .ok (.istore 4, 2) := by decide +kernel
theorem dX11_divisor_13 : decode cX11_divisor 13 = .ok (.iload_n 3, 1) := by decide +kernel
theorem dX11_divisor_14 : decode cX11_divisor 14 = .ok (.istore_n 2, 1) := by decide +kernel
theorem dX11_divisor_15 : decode cX11_divisor 15 = .ok (.iload 4, 2) := by decide +kernel
theorem dX11_divisor_17 : decode cX11_divisor 17 = .ok (.istore_n 3, 1) := by decide +kernel
theorem dX11_divisor_18 : decode cX11_divisor 18 = .ok (.goto (-14), 3) := by decide +kernel
theorem dX11_divisor_21 : decode cX11_divisor 21 = .ok (.iload_n 2, 1) := by decide +kernel
theorem dX11_divisor_22 : decode cX11_divisor 22 = .ok (.ireturn, 1) := by decide +kernel
theorem dX11_odds_0 : decode cX11_odds 0 = .ok (.aload_n 0, 1) := by decide +kernel
theorem dX11_odds_1 : decode cX11_odds 1 = .ok (.iload_n 1, 1) := by decide +kernel
theorem dX11_odds_2 : decode cX11_odds 2 = .ok (.invokevirtual 314, 3) := by decide +kernel
theorem dX11_odds_5 : decode cX11_odds 5 = .ok (.ifCond .eq 29, 3) := by decide +kernel
theorem dX11_odds_8 : decode cX11_odds 8 = .ok (.aload_n 0, 1) := by decide +kernel
theorem dX11_odds_9 : decode cX11_odds 9 = .ok (.iload_n 2, 1) := by decide +kernel
theorem dX11_odds_10 : decode cX11_odds 10 = .ok (.invokevirtual 182, 3) := by decide +kernel
theorem dX11_odds_13 : decode cX11_odds 13 = .ok (.ifCond .eq 21, 3) := by decide +kernel
theorem dX11_odds_16 : decode cX11_odds 16 = .ok (.aload_n 0, 1) := by decide +kernel
theorem dX11_odds_17 : decode cX11_odds 17 = .ok (.iload_n 3, 1) := by decide +kernel
theorem dX11_odds_18 : decode cX11_odds 18 = .ok (.invokevirtual 317, 3) := by decide +kernel
theorem dX11_odds_21 : decode cX11_odds 21 = .ok (.ifCond .eq 13, 3) := by decide +kernel
theorem dX11_odds_24 : decode cX11_odds 24 = .ok (.iload 4, 2) := by decide +kernel
theorem dX11_odds_26 : decode cX11_odds 26 = .ok (.iconst 0, 1) := by decide +kernel
theorem dX11_odds_27 : decode cX11_odds 27 = .ok (.iconst 1, 1) := by decide +kernel
theorem dX11_odds_28 : decode cX11_odds 28 = .ok (.invokestatic 71, 3) := by decide +kernel
theorem dX11_odds_31 : decode cX11_odds 31 = .ok (.ifCond .ne 11, 3) := by decide +kernel
theorem dX11_odds_34 : decode cX11_odds 34 = .ok (.aload_n 0, 1) := by decide +kernel
theorem dX11_odds_35 : decode cX11_odds 35 = .ok (.ldc 78, 2) := by decide +kernel
theorem dX11_odds_37 : decode cX11_odds 37 = .ok (.invokevirtual 79, 3) := by decide +kernel
theorem dX11_odds_40 : decode cX11_odds 40 = .ok (.i2l, 1) := by decide +kernel
theorem dX11_odds_41 : decode cX11_odds 41 = .ok (.lreturn, 1) := by decide +kernel
theorem dX11_odds_42 : decode cX11_odds 42 = .ok (.aload_n 0, 1) := by decide +kernel
theorem dX11_odds_43 : decode cX11_odds 43 = .ok (.iload_n 1, 1) := by decide +kernel
theorem dX11_odds_44 : decode cX11_odds 44 = .ok (.invokevirtual 320, 3) := by decide +kernel
theorem dX11_odds_47 : decode cX11_odds 47 = .ok (.aload_n 0, 1) := by decide +kernel
theorem dX11_odds_48 : decode cX11_odds 48 = .ok (.aload_n 0, 1) := by decide +kernel
theorem dX11_odds_49 : decode cX11_odds 49 = .ok (.getfield 7, 3) := by decide +kernel
theorem dX11_odds_52 : decode cX11_odds 52 = .ok (.aload_n 0, 1) := by decide +kernel
theorem dX11_odds_53 : decode cX11_odds 53 = .ok (.getfield 16, 3) := by decide +kernel
theorem dX11_odds_56 : decode cX11_odds 56 = .ok (.invokevirtual 188, 3) := by decide +kernel
theorem dX11_odds_59 : decode cX11_odds 59 = .ok (.iconst 0, 1) := by decide +kernel
theorem dX11_odds_60 : decode cX11_odds 60 = .ok (.istore 5, 2) := by decide +kernel
theorem dX11_odds_62 : decode cX11_odds 62 = .ok (.iconst 0, 1) := by decide +kernel
theorem dX11_odds_63 : decode cX11_odds 63 = .ok (.istore 6, 2) := by decide +kernel
theorem dX11_odds_65 : decode cX11_odds 65 = .ok (.iload 6, 2) := by decide +kernel
theorem dX11_odds_67 : decode cX11_odds 67 = .ok (.iconst 1, 1) := by decide +kernel
theorem dX11_odds_68 : decode cX11_odds 68 = .ok (.aload_n 0, 1) := by decide +kernel
theorem dX11_odds_69 : decode cX11_odds 69 = .ok (.getfield 311, 3) := by decide +kernel
theorem dX11_odds_72 : decode cX11_odds 72 = .ok (.ishl, 1) := by decide +kernel
theorem dX11_odds_73 : decode cX11_odds 73 = .ok (.if_icmp .ge 46, 3) := by decide +kernel
theorem dX11_odds_76 : decode cX11_odds 76 = .ok (.aload_n 0, 1) := by decide +kernel
theorem dX11_odds_77 : decode cX11_odds 77 = .ok (.iload 6, 2) := by decide +kernel
theorem dX11_odds_79 : decode cX11_odds 79 = .ok (.invokevirtual 323, 3) := by decide +kernel
theorem dX11_odds_82 : decode cX11_odds 82 = .ok (.iload 5, 2) := by decide +kernel
theorem dX11_odds_84 : decode cX11_odds 84 = .ok (.aload_n 0, 1) := by decide +kernel
theorem dX11_odds_85 : decode cX11_odds 85 = .ok (.iload_n 2, 1) := by decide +kernel
theorem dX11_odds_86 : decode cX11_odds 86 = .ok (.invokevirtual 179, 3) := by decide +kernel
theorem dX11_odds_89 : decode cX11_odds 89 = .ok (.iload_n 3, 1) := by decide +kernel
theorem dX11_odds_90 : decode cX11_odds 90 = .ok (.if_icmp .ne 7, 3) := by decide +kernel
theorem dX11_odds_93 : decode cX11_odds 93 = .ok (.iconst 1, 1) := by decide +kernel
theorem dX11_odds_94 : decode cX11_odds 94 = .ok (.goto 4, 3) := by decide +kernel
theorem dX11_odds_97 : decode cX11_odds 97 = .ok (.iconst 0, 1) := by decide +kernel
theorem dX11_odds_98 : decode cX11_odds 98 = .ok (.iadd, 1) := by decide +kernel
theorem dX11_odds_99 : decode cX11_odds 99 = .ok (.istore 5, 2) := by decide +kernel
theorem dX11_odds_101 : decode cX11_odds 101 = .ok (.aload_n 0, 1) := by decide +kernel
theorem dX11_odds_102 : decode cX11_odds 102 = .ok (.aload_n 0, 1) := by decide +kernel
theorem dX11_odds_103 : decode cX11_odds 103 = .ok (.getfield 16, 3) := by decide +kernel
theorem dX11_odds_106 : decode cX11_odds 106 = .ok (.aload_n 0, 1) := by decide +kernel
theorem dX11_odds_107 : decode cX11_odds 107 = .ok (.getfield 7, 3) := by decide +kernel
theorem dX11_odds_110 : decode cX11_odds 110 = .ok (.invokevirtual 188, 3) := by decide +kernel
theorem dX11_odds_113 : decode cX11_odds 113 = .ok (.iinc 6 1, 3) := by decide +kernel
theorem dX11_odds_116 : decode cX11_odds 116 = .ok (.goto (-51), 3) := by decide +kernel
theorem dX11_odds_119 : decode cX11_odds 119 = .ok (.iconst 1, 1) := by decide +kernel
theorem dX11_odds_120 : decode cX11_odds 120 = .ok (.aload_n 0, 1) := by decide +kernel
theorem dX11_odds_121 : decode cX11_odds 121 = .ok (.getfield 311, 3) := by decide +kernel
theorem dX11_odds_124 : decode cX11_odds 124 = .ok (.ishl, 1) := by decide +kernel
theorem dX11_odds_125 : decode cX11_odds 125 = .ok (.istore 6, 2) := by decide +kernel
theorem dX11_odds_127 : decode cX11_odds 127 = .ok (.iload 5, 2) := by decide +kernel
theorem dX11_odds_129 : decode cX11_odds 129 = .ok (.iload 6, 2) := by decide +kernel
theorem dX11_odds_131 : decode cX11_odds 131 = .ok (.invokestatic 326, 3) := by decide +kernel
theorem dX11_odds_134 : decode cX11_odds 134 = .ok (.istore 7, 2) := by decide +kernel
theorem dX11_odds_136 : decode cX11_odds 136 = .ok (.iload 4, 2) := by decide +kernel
theorem dX11_odds_138 : decode cX11_odds 138 = .ok (.ifCond .ne 12, 3) := by decide +kernel
theorem dX11_odds_141 : decode cX11_odds 141 = .ok (.iload 5, 2) := by decide +kernel
theorem dX11_odds_143 : decode cX11_odds 143 = .ok (.iload 7, 2) := by decide +kernel
theorem dX11_odds_145 : decode cX11_odds 145 = .ok (.idiv, 1) := by decide +kernel
theorem dX11_odds_146 : decode cX11_odds 146 = .ok (.i2l, 1) := by decide +kernel
theorem dX11_odds_147 : decode cX11_odds 147 = .ok (.goto 9, 3) := by decide +kernel
theorem dX11_odds_150 : decode cX11_odds 150 = .ok (.iload 6, 2) := by decide +kernel
theorem dX11_odds_152 : decode cX11_odds 152 = .ok (.iload 7, 2) := by decide +kernel
theorem dX11_odds_154 : decode cX11_odds 154 = .ok (.idiv, 1) := by decide +kernel
theorem dX11_odds_155 : decode cX11_odds 155 = .ok (.i2l, 1) := by decide +kernel
theorem dX11_odds_156 : decode cX11_odds 156 = .ok (.lreturn, 1) := by decide +kernel
theorem dX11_isSheet_0 : decode cX11_isSheet 0 = .ok (.iload_n 0, 1) := by decide +kernel
theorem dX11_isSheet_1 : decode cX11_isSheet 1 = .ok (.iconst 0, 1) := by decide +kernel
theorem dX11_isSheet_2 : decode cX11_isSheet 2 = .ok (.iconst 3, 1) := by decide +kernel
theorem dX11_isSheet_3 : decode cX11_isSheet 3 = .ok (.invokestatic 71, 3) := by decide +kernel
theorem dX11_isSheet_6 : decode cX11_isSheet 6 = .ok (.ireturn, 1) := by decide +kernel
theorem dX11_areLetters_0 : decode cX11_areLetters 0 = .ok (.aload_n 0, 1) := by decide +kernel
theorem dX11_areLetters_1 : decode cX11_areLetters 1 = .ok (.getfield 48, 3) := by decide +kernel
theorem dX11_areLetters_4 : decode cX11_areLetters 4 = .ok (.iload_n 1, 1) := by decide +kernel
theorem dX11_areLetters_5 : decode cX11_areLetters 5 = .ok (.iaload, 1) := by decide +kernel
theorem dX11_areLetters_6 : decode cX11_areLetters 6 = .ok (.ifCond .eq 7, 3) := by decide +kernel
theorem dX11_areLetters_9 : decode cX11_areLetters 9 = .ok (.iconst 1, 1) := by decide +kernel
theorem dX11_areLetters_10 : decode cX11_areLetters 10 = .ok (.goto 4, 3) := by decide +kernel
theorem dX11_areLetters_13 : decode cX11_areLetters 13 = .ok (.iconst 0, 1) := by decide +kernel
theorem dX11_areLetters_14 : decode cX11_areLetters 14 = .ok (.istore_n 2, 1) := by decide +kernel
theorem dX11_areLetters_15 : decode cX11_areLetters 15 = .ok (.iconst 0, 1) := by decide +kernel
theorem dX11_areLetters_16 : decode cX11_areLetters 16 = .ok (.istore_n 3, 1) := by decide +kernel
theorem dX11_areLetters_17 : decode cX11_areLetters 17 = .ok (.iload_n 3, 1) := by decide +kernel
theorem dX11_areLetters_18 : decode cX11_areLetters 18 = .ok (.iconst 1, 1) := by decide +kernel
theorem dX11_areLetters_19 : decode cX11_areLetters 19 = .ok (.iadd, 1) := by decide +kernel
theorem dX11_areLetters_20 : decode cX11_areLetters 20 = .ok (.aload_n 0, 1) := by decide +kernel
theorem dX11_areLetters_21 : decode cX11_areLetters 21 = .ok (.getfield 51, 3) := by decide +kernel
theorem dX11_areLetters_24 : decode cX11_areLetters 24 = .ok (.iload_n 1, 1) := by decide +kernel
theorem dX11_areLetters_25 : decode cX11_areLetters 25 = .ok (.iaload, 1) := by decide +kernel
theorem dX11_areLetters_26 : decode cX11_areLetters 26 = .ok (.if_icmp .ge 57, 3) := by decide +kernel
theorem dX11_areLetters_29 : decode cX11_areLetters 29 = .ok (.iload_n 2, 1) := by decide +kernel
theorem dX11_areLetters_30 : decode cX11_areLetters 30 = .ok (.ifCond .eq 53, 3) := by decide +kernel
theorem dX11_areLetters_33 : decode cX11_areLetters 33 = .ok (.aload_n 0, 1) := by decide +kernel
theorem dX11_areLetters_34 : decode cX11_areLetters 34 = .ok (.aload_n 0, 1) := by decide +kernel
theorem dX11_areLetters_35 : decode cX11_areLetters 35 = .ok (.getfield 54, 3) := by decide +kernel
theorem dX11_areLetters_38 : decode cX11_areLetters 38 = .ok (.bipush 40, 2) := by decide +kernel
theorem dX11_areLetters_40 : decode cX11_areLetters 40 = .ok (.iload_n 1, 1) := by decide +kernel
theorem dX11_areLetters_41 : decode cX11_areLetters 41 = .ok (.imul, 1) := by decide +kernel
theorem dX11_areLetters_42 : decode cX11_areLetters 42 = .ok (.iload_n 3, 1) := by decide +kernel
theorem dX11_areLetters_43 : decode cX11_areLetters 43 = .ok (.iadd, 1) := by decide +kernel
theorem dX11_areLetters_44 : decode cX11_areLetters 44 = .ok (.iaload, 1) := by decide +kernel
theorem dX11_areLetters_45 : decode cX11_areLetters 45 = .ok (.invokevirtual 182, 3) := by decide +kernel
theorem dX11_areLetters_48 : decode cX11_areLetters 48 = .ok (.ifCond .eq 27, 3) := by decide +kernel
theorem dX11_areLetters_51 : decode cX11_areLetters 51 = .ok (.aload_n 0, 1) := by decide +kernel
theorem dX11_areLetters_52 : decode cX11_areLetters 52 = .ok (.aload_n 0, 1) := by decide +kernel
theorem dX11_areLetters_53 : decode cX11_areLetters 53 = .ok (.getfield 54, 3) := by decide +kernel
theorem dX11_areLetters_56 : decode cX11_areLetters 56 = .ok (.bipush 40, 2) := by decide +kernel
theorem dX11_areLetters_58 : decode cX11_areLetters 58 = .ok (.iload_n 1, 1) := by decide +kernel
theorem dX11_areLetters_59 : decode cX11_areLetters 59 = .ok (.imul, 1) := by decide +kernel
theorem dX11_areLetters_60 : decode cX11_areLetters 60 = .ok (.iload_n 3, 1) := by decide +kernel
theorem dX11_areLetters_61 : decode cX11_areLetters 61 = .ok (.iadd, 1) := by decide +kernel
theorem dX11_areLetters_62 : decode cX11_areLetters 62 = .ok (.iconst 1, 1) := by decide +kernel
theorem dX11_areLetters_63 : decode cX11_areLetters 63 = .ok (.iadd, 1) := by decide +kernel
theorem dX11_areLetters_64 : decode cX11_areLetters 64 = .ok (.iaload, 1) := by decide +kernel
theorem dX11_areLetters_65 : decode cX11_areLetters 65 = .ok (.invokevirtual 317, 3) := by decide +kernel
theorem dX11_areLetters_68 : decode cX11_areLetters 68 = .ok (.ifCond .eq 7, 3) := by decide +kernel
theorem dX11_areLetters_71 : decode cX11_areLetters 71 = .ok (.iconst 1, 1) := by decide +kernel
theorem dX11_areLetters_72 : decode cX11_areLetters 72 = .ok (.goto 4, 3) := by decide +kernel
theorem dX11_areLetters_75 : decode cX11_areLetters 75 = .ok (.iconst 0, 1) := by decide +kernel
theorem dX11_areLetters_76 : decode cX11_areLetters 76 = .ok (.istore_n 2, 1) := by decide +kernel
theorem dX11_areLetters_77 : decode cX11_areLetters 77 = .ok (.iinc 3 2, 3) := by decide +kernel
theorem dX11_areLetters_80 : decode cX11_areLetters 80 = .ok (.goto (-63), 3) := by decide +kernel
theorem dX11_areLetters_83 : decode cX11_areLetters 83 = .ok (.iload_n 2, 1) := by decide +kernel
theorem dX11_areLetters_84 : decode cX11_areLetters 84 = .ok (.ireturn, 1) := by decide +kernel
theorem dX11_cameSo_0 : decode cX11_cameSo 0 = .ok (.iconst 1, 1) := by decide +kernel
theorem dX11_cameSo_1 : decode cX11_cameSo 1 = .ok (.istore_n 2, 1) := by decide +kernel
theorem dX11_cameSo_2 : decode cX11_cameSo 2 = .ok (.iconst 0, 1) := by decide +kernel
theorem dX11_cameSo_3 : decode cX11_cameSo 3 = .ok (.istore_n 3, 1) := by decide +kernel
theorem dX11_cameSo_4 : decode cX11_cameSo 4 = .ok (.iload_n 3, 1) := by decide +kernel
theorem dX11_cameSo_5 : decode cX11_cameSo 5 = .ok (.iconst 1, 1) := by decide +kernel
theorem dX11_cameSo_6 : decode cX11_cameSo 6 = .ok (.iadd, 1) := by decide +kernel
theorem dX11_cameSo_7 : decode cX11_cameSo 7 = .ok (.aload_n 0, 1) := by decide +kernel
theorem dX11_cameSo_8 : decode cX11_cameSo 8 = .ok (.getfield 51, 3) := by decide +kernel
theorem dX11_cameSo_11 : decode cX11_cameSo 11 = .ok (.iload_n 1, 1) := by decide +kernel
theorem dX11_cameSo_12 : decode cX11_cameSo 12 = .ok (.iaload, 1) := by decide +kernel
theorem dX11_cameSo_13 : decode cX11_cameSo 13 = .ok (.if_icmp .ge 50, 3) := by decide +kernel
theorem dX11_cameSo_16 : decode cX11_cameSo 16 = .ok (.iload_n 2, 1) := by decide +kernel
theorem dX11_cameSo_17 : decode cX11_cameSo 17 = .ok (.ifCond .eq 46, 3) := by decide +kernel
theorem dX11_cameSo_20 : decode cX11_cameSo 20 = .ok (.aload_n 0, 1) := by decide +kernel
theorem dX11_cameSo_21 : decode cX11_cameSo 21 = .ok (.aload_n 0, 1) := by decide +kernel
theorem dX11_cameSo_22 : decode cX11_cameSo 22 = .ok (.getfield 54, 3) := by decide +kernel
theorem dX11_cameSo_25 : decode cX11_cameSo 25 = .ok (.bipush 40, 2) := by decide +kernel
theorem dX11_cameSo_27 : decode cX11_cameSo 27 = .ok (.iload_n 1, 1) := by decide +kernel
theorem dX11_cameSo_28 : decode cX11_cameSo 28 = .ok (.imul, 1) := by decide +kernel
theorem dX11_cameSo_29 : decode cX11_cameSo 29 = .ok (.iload_n 3, 1) := by decide +kernel
theorem dX11_cameSo_30 : decode cX11_cameSo 30 = .ok (.iadd, 1) := by decide +kernel
theorem dX11_cameSo_31 : decode cX11_cameSo 31 = .ok (.iaload, 1) := by decide +kernel
theorem dX11_cameSo_32 : decode cX11_cameSo 32 = .ok (.invokevirtual 179, 3) := by decide +kernel
theorem dX11_cameSo_35 : decode cX11_cameSo 35 = .ok (.aload_n 0, 1) := by decide +kernel
theorem dX11_cameSo_36 : decode cX11_cameSo 36 = .ok (.getfield 54, 3) := by decide +kernel
theorem dX11_cameSo_39 : decode cX11_cameSo 39 = .ok (.bipush 40, 2) := by decide +kernel
theorem dX11_cameSo_41 : decode cX11_cameSo 41 = .ok (.iload_n 1, 1) := by decide +kernel
theorem dX11_cameSo_42 : decode cX11_cameSo 42 = .ok (.imul, 1) := by decide +kernel
theorem dX11_cameSo_43 : decode cX11_cameSo 43 = .ok (.iload_n 3, 1) := by decide +kernel
theorem dX11_cameSo_44 : decode cX11_cameSo 44 = .ok (.iadd, 1) := by decide +kernel
theorem dX11_cameSo_45 : decode cX11_cameSo 45 = .ok (.iconst 1, 1) := by decide +kernel
theorem dX11_cameSo_46 : decode cX11_cameSo 46 = .ok (.iadd, 1) := by decide +kernel
theorem dX11_cameSo_47 : decode cX11_cameSo 47 = .ok (.iaload, 1) := by decide +kernel
theorem dX11_cameSo_48 : decode cX11_cameSo 48 = .ok (.if_icmp .ne 7, 3) := by decide +kernel
theorem dX11_cameSo_51 : decode cX11_cameSo 51 = .ok (.iconst 1, 1) := by decide +kernel
theorem dX11_cameSo_52 : decode cX11_cameSo 52 = .ok (.goto 4, 3) := by decide +kernel
theorem dX11_cameSo_55 : decode cX11_cameSo 55 = .ok (.iconst 0, 1) := by decide +kernel
theorem dX11_cameSo_56 : decode cX11_cameSo 56 = .ok (.istore_n 2, 1) := by decide +kernel
theorem dX11_cameSo_57 : decode cX11_cameSo 57 = .ok (.iinc 3 2, 3) := by decide +kernel
theorem dX11_cameSo_60 : decode cX11_cameSo 60 = .ok (.goto (-56), 3) := by decide +kernel
theorem dX11_cameSo_63 : decode cX11_cameSo 63 = .ok (.iload_n 2, 1) := by decide +kernel
theorem dX11_cameSo_64 : decode cX11_cameSo 64 = .ok (.ireturn, 1) := by decide +kernel
theorem dX11_findFits_0 : decode cX11_findFits 0 = .ok (.aload_n 0, 1) := by decide +kernel
theorem dX11_findFits_1 : decode cX11_findFits 1 = .ok (.aload_n 0, 1) := by decide +kernel
theorem dX11_findFits_2 : decode cX11_findFits 2 = .ok (.getfield 7, 3) := by decide +kernel
theorem dX11_findFits_5 : decode cX11_findFits 5 = .ok (.aload_n 0, 1) := by decide +kernel
theorem dX11_findFits_6 : decode cX11_findFits 6 = .ok (.getfield 16, 3) := by decide +kernel
theorem dX11_findFits_9 : decode cX11_findFits 9 = .ok (.invokevirtual 188, 3) := by decide +kernel
theorem dX11_findFits_12 : decode cX11_findFits 12 = .ok (.iconst 0, 1) := by decide +kernel
theorem dX11_findFits_13 : decode cX11_findFits 13 = .ok (.istore_n 2, 1) := by decide +kernel
theorem dX11_findFits_14 : decode cX11_findFits 14 = .ok (.iconst 0, 1) := by decide +kernel
theorem dX11_findFits_15 : decode cX11_findFits 15 = .ok (.istore_n 3, 1) := by decide +kernel
theorem dX11_findFits_16 : decode cX11_findFits 16 = .ok (.iload_n 3, 1) := by decide +kernel
theorem dX11_findFits_17 : decode cX11_findFits 17 = .ok (.bipush 20, 2) := by decide +kernel
theorem dX11_findFits_19 : decode cX11_findFits 19 = .ok (.if_icmp .ge 16, 3) := by decide +kernel
theorem dX11_findFits_22 : decode cX11_findFits 22 = .ok (.aload_n 0, 1) := by decide +kernel
theorem dX11_findFits_23 : decode cX11_findFits 23 = .ok (.getfield 60, 3) := by decide +kernel
theorem dX11_findFits_26 : decode cX11_findFits 26 = .ok (.iload_n 3, 1) := by decide +kernel
theorem dX11_findFits_27 : decode cX11_findFits 27 = .ok (.iconst 0, 1) := by decide +kernel
theorem dX11_findFits_28 : decode cX11_findFits 28 = .ok (.iastore, 1) := by decide +kernel
theorem dX11_findFits_29 : decode cX11_findFits 29 = .ok (.iinc 3 1, 3) := by decide +kernel
theorem dX11_findFits_32 : decode cX11_findFits 32 = .ok (.goto (-16), 3) := by decide +kernel
theorem dX11_findFits_35 : decode cX11_findFits 35 = .ok (.iconst 0, 1) := by decide +kernel
theorem dX11_findFits_36 : decode cX11_findFits 36 = .ok (.istore_n 3, 1) := by decide +kernel
theorem dX11_findFits_37 : decode cX11_findFits 37 = .ok (.iload_n 3, 1) := by decide +kernel
theorem dX11_findFits_38 : decode cX11_findFits 38 = .ok (.iconst 1, 1) := by decide +kernel
theorem dX11_findFits_39 : decode cX11_findFits 39 = .ok (.aload_n 0, 1) := by decide +kernel
theorem dX11_findFits_40 : decode cX11_findFits 40 = .ok (.getfield 311, 3) := by decide +kernel
theorem dX11_findFits_43 : decode cX11_findFits 43 = .ok (.ishl, 1) := by decide +kernel
theorem dX11_findFits_44 : decode cX11_findFits 44 = .ok (.if_icmp .ge 114, 3) := by decide +kernel
theorem dX11_findFits_47 : decode cX11_findFits 47 = .ok (.aload_n 0, 1) := by decide +kernel
theorem dX11_findFits_48 : decode cX11_findFits 48 = .ok (.iload_n 3, 1) := by decide +kernel
theorem dX11_findFits_49 : decode cX11_findFits 49 = .ok (.invokevirtual 323, 3) := by decide +kernel
theorem dX11_findFits_52 : decode cX11_findFits 52 = .ok (.aload_n 0, 1) := by decide +kernel
theorem dX11_findFits_53 : decode cX11_findFits 53 = .ok (.iload_n 1, 1) := by decide +kernel
theorem dX11_findFits_54 : decode cX11_findFits 54 = .ok (.invokevirtual 329, 3) := by decide +kernel
theorem dX11_findFits_57 : decode cX11_findFits 57 = .ok (.ifCond .eq 83, 3) := by decide +kernel
theorem dX11_findFits_60 : decode cX11_findFits 60 = .ok (.iinc 2 1, 3) := by decide +kernel
theorem dX11_findFits_63 : decode cX11_findFits 63 = .ok (.aload_n 0, 1) := by decide +kernel
theorem dX11_findFits_64 : decode cX11_findFits 64 = .ok (.aload_n 0, 1) := by decide +kernel
theorem dX11_findFits_65 : decode cX11_findFits 65 = .ok (.getfield 7, 3) := by decide +kernel
theorem dX11_findFits_68 : decode cX11_findFits 68 = .ok (.aload_n 0, 1) := by decide +kernel
theorem dX11_findFits_69 : decode cX11_findFits 69 = .ok (.getfield 19, 3) := by decide +kernel
theorem dX11_findFits_72 : decode cX11_findFits 72 = .ok (.invokevirtual 188, 3) := by decide +kernel
theorem dX11_findFits_75 : decode cX11_findFits 75 = .ok (.iconst 0, 1) := by decide +kernel
theorem dX11_findFits_76 : decode cX11_findFits 76 = .ok (.istore 4, 2) := by decide +kernel
theorem dX11_findFits_78 : decode cX11_findFits 78 = .ok (.iload 4, 2) := by decide +kernel
theorem dX11_findFits_80 : decode cX11_findFits 80 = .ok (.aload_n 0, 1) := by decide +kernel
theorem dX11_findFits_81 : decode cX11_findFits 81 = .ok (.invokevirtual 75, 3) := by decide +kernel
theorem dX11_findFits_84 : decode cX11_findFits 84 = .ok (.if_icmp .ge 56, 3) := by decide +kernel
theorem dX11_findFits_87 : decode cX11_findFits 87 = .ok (.aload_n 0, 1) := by decide +kernel
theorem dX11_findFits_88 : decode cX11_findFits 88 = .ok (.iload 4, 2) := by decide +kernel
theorem dX11_findFits_90 : decode cX11_findFits 90 = .ok (.invokevirtual 179, 3) := by decide +kernel
theorem dX11_findFits_93 : decode cX11_findFits 93 = .ok (.istore 5, 2) := by decide +kernel
theorem dX11_findFits_95 : decode cX11_findFits 95 = .ok (.aload_n 0, 1) := by decide +kernel
theorem dX11_findFits_96 : decode cX11_findFits 96 = .ok (.getfield 60, 3) := by decide +kernel
theorem dX11_findFits_99 : decode cX11_findFits 99 = .ok (.iload 4, 2) := by decide +kernel
theorem dX11_findFits_101 : decode cX11_findFits 101 = .ok (.dup2, 1) := by decide +kernel
theorem dX11_findFits_102 : decode cX11_findFits 102 = .ok (.iaload, 1) := by decide +kernel
theorem dX11_findFits_103 : decode cX11_findFits 103 = .ok (.iload 5, 2) := by decide +kernel
theorem dX11_findFits_105 : decode cX11_findFits 105 = .ok (.bipush 100, 2) := by decide +kernel
theorem dX11_findFits_107 : decode cX11_findFits 107 = .ok (.if_icmp .ne 9, 3) := by decide +kernel
theorem dX11_findFits_110 : decode cX11_findFits 110 = .ok (.ldc_w 332, 3) := by decide +kernel
theorem dX11_findFits_113 : decode cX11_findFits 113 = .ok (.goto 7, 3) := by decide +kernel
theorem dX11_findFits_116 : decode cX11_findFits 116 = .ok (.iconst 1, 1) := by decide +kernel
theorem dX11_findFits_117 : decode cX11_findFits 117 = .ok (.iload 5, 2) := by decide +kernel
theorem dX11_findFits_119 : decode cX11_findFits 119 = .ok (.ishl, 1) := by decide +kernel
theorem dX11_findFits_120 : decode cX11_findFits 120 = .ok (.ior, 1) := by decide +kernel
theorem dX11_findFits_121 : decode cX11_findFits 121 = .ok (.iastore, 1) := by decide +kernel
theorem dX11_findFits_122 : decode cX11_findFits 122 = .ok (.aload_n 0, 1) := by decide +kernel
theorem dX11_findFits_123 : decode cX11_findFits 123 = .ok (.aload_n 0, 1) := by decide +kernel
theorem dX11_findFits_124 : decode cX11_findFits 124 = .ok (.getfield 19, 3) := by decide +kernel
theorem dX11_findFits_127 : decode cX11_findFits 127 = .ok (.aload_n 0, 1) := by decide +kernel
theorem dX11_findFits_128 : decode cX11_findFits 128 = .ok (.getfield 7, 3) := by decide +kernel
theorem dX11_findFits_131 : decode cX11_findFits 131 = .ok (.invokevirtual 188, 3) := by decide +kernel
theorem dX11_findFits_134 : decode cX11_findFits 134 = .ok (.iinc 4 1, 3) := by decide +kernel
theorem dX11_findFits_137 : decode cX11_findFits 137 = .ok (.goto (-59), 3) := by decide +kernel
theorem dX11_findFits_140 : decode cX11_findFits 140 = .ok (.aload_n 0, 1) := by decide +kernel
theorem dX11_findFits_141 : decode cX11_findFits 141 = .ok (.aload_n 0, 1) := by decide +kernel
theorem dX11_findFits_142 : decode cX11_findFits 142 = .ok (.getfield 16, 3) := by decide +kernel
theorem dX11_findFits_145 : decode cX11_findFits 145 = .ok (.aload_n 0, 1) := by decide +kernel
theorem dX11_findFits_146 : decode cX11_findFits 146 = .ok (.getfield 7, 3) := by decide +kernel
theorem dX11_findFits_149 : decode cX11_findFits 149 = .ok (.invokevirtual 188, 3) := by decide +kernel
theorem dX11_findFits_152 : decode cX11_findFits 152 = .ok (.iinc 3 1, 3) := by decide +kernel
theorem dX11_findFits_155 : decode cX11_findFits 155 = .ok (.goto (-118), 3) := by decide +kernel
theorem dX11_findFits_158 : decode cX11_findFits 158 = .ok (.iload_n 2, 1) := by decide +kernel
theorem dX11_findFits_159 : decode cX11_findFits 159 = .ok (.ireturn, 1) := by decide +kernel
theorem dX11_fits_0 : decode cX11_fits 0 = .ok (.aload_n 0, 1) := by decide +kernel
theorem dX11_fits_1 : decode cX11_fits 1 = .ok (.iload_n 1, 1) := by decide +kernel
theorem dX11_fits_2 : decode cX11_fits 2 = .ok (.invokevirtual 314, 3) := by decide +kernel
theorem dX11_fits_5 : decode cX11_fits 5 = .ok (.ifCond .eq 10, 3) := by decide +kernel
theorem dX11_fits_8 : decode cX11_fits 8 = .ok (.iload_n 2, 1) := by decide +kernel
theorem dX11_fits_9 : decode cX11_fits 9 = .ok (.invokestatic 333, 3) := by decide +kernel
theorem dX11_fits_12 : decode cX11_fits 12 = .ok (.ifCond .ne 10, 3) := by decide +kernel
theorem dX11_fits_15 : decode cX11_fits 15 = .ok (.aload_n 0, 1) := by decide +kernel
theorem dX11_fits_16 : decode cX11_fits 16 = .ok (.ldc 78, 2) := by decide +kernel
theorem dX11_fits_18 : decode cX11_fits 18 = .ok (.invokevirtual 79, 3) := by decide +kernel
theorem dX11_fits_21 : decode cX11_fits 21 = .ok (.ireturn, 1) := by decide +kernel
theorem dX11_fits_22 : decode cX11_fits 22 = .ok (.aload_n 0, 1) := by decide +kernel
theorem dX11_fits_23 : decode cX11_fits 23 = .ok (.iload_n 2, 1) := by decide +kernel
theorem dX11_fits_24 : decode cX11_fits 24 = .ok (.invokevirtual 336, 3) := by decide +kernel
theorem dX11_fits_27 : decode cX11_fits 27 = .ok (.ifCond .ne 10, 3) := by decide +kernel
theorem dX11_fits_30 : decode cX11_fits 30 = .ok (.aload_n 0, 1) := by decide +kernel
theorem dX11_fits_31 : decode cX11_fits 31 = .ok (.ldc 195, 2) := by decide +kernel
theorem dX11_fits_33 : decode cX11_fits 33 = .ok (.invokevirtual 79, 3) := by decide +kernel
theorem dX11_fits_36 : decode cX11_fits 36 = .ok (.ireturn, 1) := by decide +kernel
theorem dX11_fits_37 : decode cX11_fits 37 = .ok (.aload_n 0, 1) := by decide +kernel
theorem dX11_fits_38 : decode cX11_fits 38 = .ok (.iload_n 1, 1) := by decide +kernel
theorem dX11_fits_39 : decode cX11_fits 39 = .ok (.invokevirtual 320, 3) := by decide +kernel
theorem dX11_fits_42 : decode cX11_fits 42 = .ok (.aload_n 0, 1) := by decide +kernel
theorem dX11_fits_43 : decode cX11_fits 43 = .ok (.iload_n 2, 1) := by decide +kernel
theorem dX11_fits_44 : decode cX11_fits 44 = .ok (.invokevirtual 339, 3) := by decide +kernel
theorem dX11_fits_47 : decode cX11_fits 47 = .ok (.ireturn, 1) := by decide +kernel
theorem dX11_tells_0 : decode cX11_tells 0 = .ok (.aload_n 0, 1) := by decide +kernel
theorem dX11_tells_1 : decode cX11_tells 1 = .ok (.iload_n 1, 1) := by decide +kernel
theorem dX11_tells_2 : decode cX11_tells 2 = .ok (.invokevirtual 314, 3) := by decide +kernel
theorem dX11_tells_5 : decode cX11_tells 5 = .ok (.ifCond .eq 19, 3) := by decide +kernel
theorem dX11_tells_8 : decode cX11_tells 8 = .ok (.iload_n 2, 1) := by decide +kernel
theorem dX11_tells_9 : decode cX11_tells 9 = .ok (.invokestatic 333, 3) := by decide +kernel
theorem dX11_tells_12 : decode cX11_tells 12 = .ok (.ifCond .eq 12, 3) := by decide +kernel
theorem dX11_tells_15 : decode cX11_tells 15 = .ok (.iload_n 3, 1) := by decide +kernel
theorem dX11_tells_16 : decode cX11_tells 16 = .ok (.iconst 0, 1) := by decide +kernel
theorem dX11_tells_17 : decode cX11_tells 17 = .ok (.iconst 1, 1) := by decide +kernel
theorem dX11_tells_18 : decode cX11_tells 18 = .ok (.invokestatic 71, 3) := by decide +kernel
theorem dX11_tells_21 : decode cX11_tells 21 = .ok (.ifCond .ne 10, 3) := by decide +kernel
theorem dX11_tells_24 : decode cX11_tells 24 = .ok (.aload_n 0, 1) := by decide +kernel
theorem dX11_tells_25 : decode cX11_tells 25 = .ok (.ldc 78, 2) := by decide +kernel
theorem dX11_tells_27 : decode cX11_tells 27 = .ok (.invokevirtual 79, 3) := by decide +kernel
theorem dX11_tells_30 : decode cX11_tells 30 = .ok (.ireturn, 1) := by decide +kernel
theorem dX11_tells_31 : decode cX11_tells 31 = .ok (.aload_n 0, 1) := by decide +kernel
theorem dX11_tells_32 : decode cX11_tells 32 = .ok (.iload_n 2, 1) := by decide +kernel
theorem dX11_tells_33 : decode cX11_tells 33 = .ok (.invokevirtual 336, 3) := by decide +kernel
theorem dX11_tells_36 : decode cX11_tells 36 = .ok (.ifCond .ne 10, 3) := by decide +kernel
theorem dX11_tells_39 : decode cX11_tells 39 = .ok (.aload_n 0, 1) := by decide +kernel
theorem dX11_tells_40 : decode cX11_tells 40 = .ok (.ldc 195, 2) := by decide +kernel
theorem dX11_tells_42 : decode cX11_tells 42 = .ok (.invokevirtual 79, 3) := by decide +kernel
theorem dX11_tells_45 : decode cX11_tells 45 = .ok (.ireturn, 1) := by decide +kernel
theorem dX11_tells_46 : decode cX11_tells 46 = .ok (.aload_n 0, 1) := by decide +kernel
theorem dX11_tells_47 : decode cX11_tells 47 = .ok (.iload_n 1, 1) := by decide +kernel
theorem dX11_tells_48 : decode cX11_tells 48 = .ok (.invokevirtual 320, 3) := by decide +kernel
theorem dX11_tells_51 : decode cX11_tells 51 = .ok (.aload_n 0, 1) := by decide +kernel
theorem dX11_tells_52 : decode cX11_tells 52 = .ok (.iload_n 2, 1) := by decide +kernel
theorem dX11_tells_53 : decode cX11_tells 53 = .ok (.invokevirtual 339, 3) := by decide +kernel
theorem dX11_tells_56 : decode cX11_tells 56 = .ok (.ifCond .ne 10, 3) := by decide +kernel
theorem dX11_tells_59 : decode cX11_tells 59 = .ok (.aload_n 0, 1) := by decide +kernel
theorem dX11_tells_60 : decode cX11_tells 60 = .ok (.ldc 195, 2) := by decide +kernel
theorem dX11_tells_62 : decode cX11_tells 62 = .ok (.invokevirtual 79, 3) := by decide +kernel
theorem dX11_tells_65 : decode cX11_tells 65 = .ok (.ireturn, 1) := by decide +kernel
theorem dX11_tells_66 : decode cX11_tells 66 = .ok (.iconst 0, 1) := by decide +kernel
theorem dX11_tells_67 : decode cX11_tells 67 = .ok (.istore 4, 2) := by decide +kernel
theorem dX11_tells_69 : decode cX11_tells 69 = .ok (.iconst 1, 1) := by decide +kernel
theorem dX11_tells_70 : decode cX11_tells 70 = .ok (.istore 5, 2) := by decide +kernel
theorem dX11_tells_72 : decode cX11_tells 72 = .ok (.iload 5, 2) := by decide +kernel
theorem dX11_tells_74 : decode cX11_tells 74 = .ok (.aload_n 0, 1) := by decide +kernel
theorem dX11_tells_75 : decode cX11_tells 75 = .ok (.invokevirtual 75, 3) := by decide +kernel
theorem dX11_tells_78 : decode cX11_tells 78 = .ok (.if_icmp .ge 41, 3) := by decide +kernel
theorem dX11_tells_81 : decode cX11_tells 81 = .ok (.aload_n 0, 1) := by decide +kernel
theorem dX11_tells_82 : decode cX11_tells 82 = .ok (.getfield 60, 3) := by decide +kernel
theorem dX11_tells_85 : decode cX11_tells 85 = .ok (.iload 5, 2) := by decide +kernel
theorem dX11_tells_87 : decode cX11_tells 87 = .ok (.iaload, 1) := by decide +kernel
theorem dX11_tells_88 : decode cX11_tells 88 = .ok (.invokestatic 192, 3) := by decide +kernel
theorem dX11_tells_91 : decode cX11_tells 91 = .ok (.aload_n 0, 1) := by decide +kernel
theorem dX11_tells_92 : decode cX11_tells 92 = .ok (.getfield 60, 3) := by decide +kernel
theorem dX11_tells_95 : decode cX11_tells 95 = .ok (.iload 4, 2) := by decide +kernel
theorem dX11_tells_97 : decode cX11_tells 97 = .ok (.iaload, 1) := by decide +kernel
theorem dX11_tells_98 : decode cX11_tells 98 = .ok (.invokestatic 192, 3) := by decide +kernel
theorem dX11_tells_101 : decode cX11_tells 101 = .ok (.if_icmp .le 8, 3) := by decide +kernel
theorem dX11_tells_104 : decode cX11_tells 104 = .ok (.iload 5, 2) := by decide +kernel
theorem dX11_tells_106 : decode cX11_tells 106 = .ok (.goto 5, 3) := by decide +kernel
theorem dX11_tells_109 : decode cX11_tells 109 = .ok (.iload 4, 2) := by decide +kernel
theorem dX11_tells_111 : decode cX11_tells 111 = .ok (.istore 4, 2) := by decide +kernel
theorem dX11_tells_113 : decode cX11_tells 113 = .ok (.iinc 5 1, 3) := by decide +kernel
theorem dX11_tells_116 : decode cX11_tells 116 = .ok (.goto (-44), 3) := by decide +kernel
theorem dX11_tells_119 : decode cX11_tells 119 = .ok (.iload_n 3, 1) := by decide +kernel
theorem dX11_tells_120 : decode cX11_tells 120 = .ok (.ifCond .ne 8, 3) := by decide +kernel
theorem dX11_tells_123 : decode cX11_tells 123 = .ok (.iload 4, 2) := by decide +kernel
theorem dX11_tells_125 : decode cX11_tells 125 = .ok (.goto 13, 3) := by decide +kernel
theorem dX11_tells_128 : decode cX11_tells 128 = .ok (.aload_n 0, 1) := by decide +kernel
theorem dX11_tells_129 : decode cX11_tells 129 = .ok (.getfield 60, 3) := by decide +kernel
theorem dX11_tells_132 : decode cX11_tells 132 = .ok (.iload 4, 2) := by decide +kernel
theorem dX11_tells_134 : decode cX11_tells 134 = .ok (.iaload, 1) := by decide +kernel
theorem dX11_tells_135 : decode cX11_tells 135 = .ok (.invokestatic 192, 3) := by decide +kernel
theorem dX11_tells_138 : decode cX11_tells 138 = .ok (.ireturn, 1) := by decide +kernel
theorem dX11_longest_0 : decode cX11_longest 0 = .ok (.iload_n 1, 1) := by decide +kernel
theorem dX11_longest_1 : decode cX11_longest 1 = .ok (.iconst 0, 1) := by decide +kernel
theorem dX11_longest_2 : decode cX11_longest 2 = .ok (.iconst 1, 1) := by decide +kernel
theorem dX11_longest_3 : decode cX11_longest 3 = .ok (.invokestatic 71, 3) := by decide +kernel
theorem dX11_longest_6 : decode cX11_longest 6 = .ok (.ifCond .ne 10, 3) := by decide +kernel
theorem dX11_longest_9 : decode cX11_longest 9 = .ok (.aload_n 0, 1) := by decide +kernel
theorem dX11_longest_10 : decode cX11_longest 10 = .ok (.ldc 78, 2) := by decide +kernel
theorem dX11_longest_12 : decode cX11_longest 12 = .ok (.invokevirtual 79, 3) := by decide +kernel
theorem dX11_longest_15 : decode cX11_longest 15 = .ok (.ireturn, 1) := by decide +kernel
theorem dX11_longest_16 : decode cX11_longest 16 = .ok (.aload_n 0, 1) := by decide +kernel
theorem dX11_longest_17 : decode cX11_longest 17 = .ok (.aload_n 0, 1) := by decide +kernel
theorem dX11_longest_18 : decode cX11_longest 18 = .ok (.getfield 7, 3) := by decide +kernel
theorem dX11_longest_21 : decode cX11_longest 21 = .ok (.aload_n 0, 1) := by decide +kernel
theorem dX11_longest_22 : decode cX11_longest 22 = .ok (.getfield 16, 3) := by decide +kernel
theorem dX11_longest_25 : decode cX11_longest 25 = .ok (.invokevirtual 188, 3) := by decide +kernel
theorem dX11_longest_28 : decode cX11_longest 28 = .ok (.iconst 0, 1) := by decide +kernel
theorem dX11_longest_29 : decode cX11_longest 29 = .ok (.istore_n 2, 1) := by decide +kernel
theorem dX11_longest_30 : decode cX11_longest 30 = .ok (.iconst 0, 1) := by decide +kernel
theorem dX11_longest_31 : decode cX11_longest 31 = .ok (.istore_n 3, 1) := by decide +kernel
theorem dX11_longest_32 : decode cX11_longest 32 = .ok (.iconst 0, 1) := by decide +kernel
theorem dX11_longest_33 : decode cX11_longest 33 = .ok (.istore 4, 2) := by decide +kernel
theorem dX11_longest_35 : decode cX11_longest 35 = .ok (.iload 4, 2) := by decide +kernel
theorem dX11_longest_37 : decode cX11_longest 37 = .ok (.aload_n 0, 1) := by decide +kernel
theorem dX11_longest_38 : decode cX11_longest 38 = .ok (.invokevirtual 75, 3) := by decide +kernel
theorem dX11_longest_41 : decode cX11_longest 41 = .ok (.if_icmp .ge 75, 3) := by decide +kernel
theorem dX11_longest_44 : decode cX11_longest 44 = .ok (.aload_n 0, 1) := by decide +kernel
theorem dX11_longest_45 : decode cX11_longest 45 = .ok (.iload 4, 2) := by decide +kernel
theorem dX11_longest_47 : decode cX11_longest 47 = .ok (.invokevirtual 179, 3) := by decide +kernel
theorem dX11_longest_50 : decode cX11_longest 50 = .ok (.istore 5, 2) := by decide +kernel
theorem dX11_longest_52 : decode cX11_longest 52 = .ok (.iload 5, 2) := by decide +kernel
theorem dX11_longest_54 : decode cX11_longest 54 = .ok (.ifCond .lt 15, 3) := by decide +kernel
theorem dX11_longest_57 : decode cX11_longest 57 = .ok (.aload_n 0, 1) := by decide +kernel
theorem dX11_longest_58 : decode cX11_longest 58 = .ok (.getfield 135, 3) := by decide +kernel
theorem dX11_longest_61 : decode cX11_longest 61 = .ok (.iload_n 3, 1) := by decide +kernel
theorem dX11_longest_62 : decode cX11_longest 62 = .ok (.if_icmp .le 7, 3) := by decide +kernel
theorem dX11_longest_65 : decode cX11_longest 65 = .ok (.iconst 1, 1) := by decide +kernel
theorem dX11_longest_66 : decode cX11_longest 66 = .ok (.goto 4, 3) := by decide +kernel
theorem dX11_longest_69 : decode cX11_longest 69 = .ok (.iconst 0, 1) := by decide +kernel
theorem dX11_longest_70 : decode cX11_longest 70 = .ok (.istore 6, 2) := by decide +kernel
theorem dX11_longest_72 : decode cX11_longest 72 = .ok (.iload 6, 2) := by decide +kernel
theorem dX11_longest_74 : decode cX11_longest 74 = .ok (.ifCond .eq 8, 3) := by decide +kernel
theorem dX11_longest_77 : decode cX11_longest 77 = .ok (.iload 4, 2) := by decide +kernel
theorem dX11_longest_79 : decode cX11_longest 79 = .ok (.goto 4, 3) := by decide +kernel
theorem dX11_longest_82 : decode cX11_longest 82 = .ok (.iload_n 2, 1) := by decide +kernel
theorem dX11_longest_83 : decode cX11_longest 83 = .ok (.istore_n 2, 1) := by decide +kernel
theorem dX11_longest_84 : decode cX11_longest 84 = .ok (.iload 6, 2) := by decide +kernel
theorem dX11_longest_86 : decode cX11_longest 86 = .ok (.ifCond .eq 10, 3) := by decide +kernel
theorem dX11_longest_89 : decode cX11_longest 89 = .ok (.aload_n 0, 1) := by decide +kernel
theorem dX11_longest_90 : decode cX11_longest 90 = .ok (.getfield 135, 3) := by decide +kernel
theorem dX11_longest_93 : decode cX11_longest 93 = .ok (.goto 4, 3) := by decide +kernel
theorem dX11_longest_96 : decode cX11_longest 96 = .ok (.iload_n 3, 1) := by decide +kernel
theorem dX11_longest_97 : decode cX11_longest 97 = .ok (.istore_n 3, 1) := by decide +kernel
theorem dX11_longest_98 : decode cX11_longest 98 = .ok (.aload_n 0, 1) := by decide +kernel
theorem dX11_longest_99 : decode cX11_longest 99 = .ok (.aload_n 0, 1) := by decide +kernel
theorem dX11_longest_100 : decode cX11_longest 100 = .ok (.getfield 16, 3) := by decide +kernel
theorem dX11_longest_103 : decode cX11_longest 103 = .ok (.aload_n 0, 1) := by decide +kernel
theorem dX11_longest_104 : decode cX11_longest 104 = .ok (.getfield 7, 3) := by decide +kernel
theorem dX11_longest_107 : decode cX11_longest 107 = .ok (.invokevirtual 188, 3) := by decide +kernel
theorem dX11_longest_110 : decode cX11_longest 110 = .ok (.iinc 4 1, 3) := by decide +kernel
theorem dX11_longest_113 : decode cX11_longest 113 = .ok (.goto (-78), 3) := by decide +kernel
theorem dX11_longest_116 : decode cX11_longest 116 = .ok (.iload_n 1, 1) := by decide +kernel
theorem dX11_longest_117 : decode cX11_longest 117 = .ok (.ifCond .ne 7, 3) := by decide +kernel
theorem dX11_longest_120 : decode cX11_longest 120 = .ok (.iload_n 2, 1) := by decide +kernel
theorem dX11_longest_121 : decode cX11_longest 121 = .ok (.goto 4, 3) := by decide +kernel
theorem dX11_longest_124 : decode cX11_longest 124 = .ok (.iload_n 3, 1) := by decide +kernel
theorem dX11_longest_125 : decode cX11_longest 125 = .ok (.ireturn, 1) := by decide +kernel
theorem dX11_drawn_0 : decode cX11_drawn 0 = .ok (.aload_n 0, 1) := by decide +kernel
theorem dX11_drawn_1 : decode cX11_drawn 1 = .ok (.getfield 7, 3) := by decide +kernel
theorem dX11_drawn_4 : decode cX11_drawn 4 = .ok (.iconst 4, 1) := by decide +kernel
theorem dX11_drawn_5 : decode cX11_drawn 5 = .ok (.aload_n 0, 1) := by decide +kernel
theorem dX11_drawn_6 : decode cX11_drawn 6 = .ok (.getfield 7, 3) := by decide +kernel
theorem dX11_drawn_9 : decode cX11_drawn 9 = .ok (.iconst 4, 1) := by decide +kernel
theorem dX11_drawn_10 : decode cX11_drawn 10 = .ok (.iaload, 1) := by decide +kernel
theorem dX11_drawn_11 : decode cX11_drawn 11 = .ok (.ldc_w 342, 3) := by decide +kernel
theorem dX11_drawn_14 : decode cX11_drawn 14 = .ok (.imul, 1) := by decide +kernel
theorem dX11_drawn_15 : decode cX11_drawn 15 = .ok (.sipush 12345, 3) := by decide +kernel
theorem dX11_drawn_18 : decode cX11_drawn 18 = .ok (.iadd, 1) := by decide +kernel
theorem dX11_drawn_19 : decode cX11_drawn 19 = .ok (.iastore, 1) := by decide +kernel
theorem dX11_drawn_20 : decode cX11_drawn 20 = .ok (.aload_n 0, 1) := by decide +kernel
theorem dX11_drawn_21 : decode cX11_drawn 21 = .ok (.getfield 7, 3) := by decide +kernel
theorem dX11_drawn_24 : decode cX11_drawn 24 = .ok (.iconst 4, 1) := by decide +kernel
theorem dX11_drawn_25 : decode cX11_drawn 25 = .ok (.iaload, 1) := by decide +kernel
theorem dX11_drawn_26 : decode cX11_drawn 26 = .ok (.bipush 8, 2) := by decide +kernel
theorem dX11_drawn_28 : decode cX11_drawn 28 = .ok (.iushr, 1) := by decide +kernel
theorem dX11_drawn_29 : decode cX11_drawn 29 = .ok (.iload_n 1, 1) := by decide +kernel
theorem dX11_drawn_30 : decode cX11_drawn 30 = .ok (.irem, 1) := by decide +kernel
theorem dX11_drawn_31 : decode cX11_drawn 31 = .ok (.ireturn, 1) := by decide +kernel
theorem dX11_days_0 : decode cX11_days 0 = .ok (.iload_n 1, 1) := by decide +kernel
theorem dX11_days_1 : decode cX11_days 1 = .ok (.iconst 1, 1) := by decide +kernel
theorem dX11_days_2 : decode cX11_days 2 = .ok (.sipush 200, 3) := by decide +kernel
theorem dX11_days_5 : decode cX11_days 5 = .ok (.invokestatic 71, 3) := by decide +kernel
theorem dX11_days_8 : decode cX11_days 8 = .ok (.ifCond .ne 10, 3) := by decide +kernel
theorem dX11_days_11 : decode cX11_days 11 = .ok (.aload_n 0, 1) := by decide +kernel
theorem dX11_days_12 : decode cX11_days 12 = .ok (.ldc 78, 2) := by decide +kernel
theorem dX11_days_14 : decode cX11_days 14 = .ok (.invokevirtual 79, 3) := by decide +kernel
theorem dX11_days_17 : decode cX11_days 17 = .ok (.ireturn, 1) := by decide +kernel
theorem dX11_days_18 : decode cX11_days 18 = .ok (.aload_n 0, 1) := by decide +kernel
theorem dX11_days_19 : decode cX11_days 19 = .ok (.getfield 7, 3) := by decide +kernel
theorem dX11_days_22 : decode cX11_days 22 = .ok (.iconst 3, 1) := by decide +kernel
theorem dX11_days_23 : decode cX11_days 23 = .ok (.iaload, 1) := by decide +kernel
theorem dX11_days_24 : decode cX11_days 24 = .ok (.iload_n 1, 1) := by decide +kernel
theorem dX11_days_25 : decode cX11_days 25 = .ok (.iadd, 1) := by decide +kernel
theorem dX11_days_26 : decode cX11_days 26 = .ok (.sipush 9999, 3) := by decide +kernel
theorem dX11_days_29 : decode cX11_days 29 = .ok (.if_icmp .le 10, 3) := by decide +kernel
theorem dX11_days_32 : decode cX11_days 32 = .ok (.aload_n 0, 1) := by decide +kernel
theorem dX11_days_33 : decode cX11_days 33 = .ok (.ldc 128, 2) := by decide +kernel
theorem dX11_days_35 : decode cX11_days 35 = .ok (.invokevirtual 79, 3) := by decide +kernel
theorem dX11_days_38 : decode cX11_days 38 = .ok (.ireturn, 1) := by decide +kernel
theorem dX11_days_39 : decode cX11_days 39 = .ok (.iconst 0, 1) := by decide +kernel
theorem dX11_days_40 : decode cX11_days 40 = .ok (.istore_n 2, 1) := by decide +kernel
theorem dX11_days_41 : decode cX11_days 41 = .ok (.iload_n 2, 1) := by decide +kernel
theorem dX11_days_42 : decode cX11_days 42 = .ok (.iload_n 1, 1) := by decide +kernel
theorem dX11_days_43 : decode cX11_days 43 = .ok (.if_icmp .ge 68, 3) := by decide +kernel
theorem dX11_days_46 : decode cX11_days 46 = .ok (.aload_n 0, 1) := by decide +kernel
theorem dX11_days_47 : decode cX11_days 47 = .ok (.aload_n 0, 1) := by decide +kernel
theorem dX11_days_48 : decode cX11_days 48 = .ok (.invokevirtual 67, 3) := by decide +kernel
theorem dX11_days_51 : decode cX11_days 51 = .ok (.invokevirtual 343, 3) := by decide +kernel
theorem dX11_days_54 : decode cX11_days 54 = .ok (.istore_n 3, 1) := by decide +kernel
theorem dX11_days_55 : decode cX11_days 55 = .ok (.aload_n 0, 1) := by decide +kernel
theorem dX11_days_56 : decode cX11_days 56 = .ok (.aload_n 0, 1) := by decide +kernel
theorem dX11_days_57 : decode cX11_days 57 = .ok (.invokevirtual 75, 3) := by decide +kernel
theorem dX11_days_60 : decode cX11_days 60 = .ok (.invokevirtual 343, 3) := by decide +kernel
theorem dX11_days_63 : decode cX11_days 63 = .ok (.istore 4, 2) := by decide +kernel
theorem dX11_days_65 : decode cX11_days 65 = .ok (.aload_n 0, 1) := by decide +kernel
theorem dX11_days_66 : decode cX11_days 66 = .ok (.iload_n 3, 1) := by decide +kernel
theorem dX11_days_67 : decode cX11_days 67 = .ok (.invokevirtual 99, 3) := by decide +kernel
theorem dX11_days_70 : decode cX11_days 70 = .ok (.ifCond .eq 8, 3) := by decide +kernel
theorem dX11_days_73 : decode cX11_days 73 = .ok (.aload_n 0, 1) := by decide +kernel
theorem dX11_days_74 : decode cX11_days 74 = .ok (.iload_n 3, 1) := by decide +kernel
theorem dX11_days_75 : decode cX11_days 75 = .ok (.invokevirtual 129, 3) := by decide +kernel
theorem dX11_days_78 : decode cX11_days 78 = .ok (.aload_n 0, 1) := by decide +kernel
theorem dX11_days_79 : decode cX11_days 79 = .ok (.iload 4, 2) := by decide +kernel
theorem dX11_days_81 : decode cX11_days 81 = .ok (.invokevirtual 185, 3) := by decide +kernel
theorem dX11_days_84 : decode cX11_days 84 = .ok (.istore 5, 2) := by decide +kernel
theorem dX11_days_86 : decode cX11_days 86 = .ok (.aload_n 0, 1) := by decide +kernel
theorem dX11_days_87 : decode cX11_days 87 = .ok (.getfield 7, 3) := by decide +kernel
theorem dX11_days_90 : decode cX11_days 90 = .ok (.iconst 3, 1) := by decide +kernel
theorem dX11_days_91 : decode cX11_days 91 = .ok (.dup2, 1) := by decide +kernel
theorem dX11_days_92 : decode cX11_days 92 = .ok (.iaload, 1) := by decide +kernel
theorem dX11_days_93 : decode cX11_days 93 = .ok (.iload 5, 2) := by decide +kernel
theorem dX11_days_95 : decode cX11_days 95 = .ok (.ifCond .ge 7, 3) := by decide +kernel
theorem dX11_days_98 : decode cX11_days 98 = .ok (.iconst 0, 1) := by decide +kernel
theorem dX11_days_99 : decode cX11_days 99 = .ok (.goto 4, 3) := by decide +kernel
theorem dX11_days_102 : decode cX11_days 102 = .ok (.iconst 1, 1) := by decide +kernel
theorem dX11_days_103 : decode cX11_days 103 = .ok (.iadd, 1) := by decide +kernel
theorem dX11_days_104 : decode cX11_days 104 = .ok (.iastore, 1) := by decide +kernel
theorem dX11_days_105 : decode cX11_days 105 = .ok (.iinc 2 1, 3) := by decide +kernel
theorem dX11_days_108 : decode cX11_days 108 = .ok (.goto (-67), 3) := by decide +kernel
theorem dX11_days_111 : decode cX11_days 111 = .ok (.aload_n 0, 1) := by decide +kernel
theorem dX11_days_112 : decode cX11_days 112 = .ok (.getfield 7, 3) := by decide +kernel
theorem dX11_days_115 : decode cX11_days 115 = .ok (.iconst 2, 1) := by decide +kernel
theorem dX11_days_116 : decode cX11_days 116 = .ok (.iaload, 1) := by decide +kernel
theorem dX11_days_117 : decode cX11_days 117 = .ok (.ireturn, 1) := by decide +kernel
theorem dX11_seed_0 : decode cX11_seed 0 = .ok (.aload_n 0, 1) := by decide +kernel
theorem dX11_seed_1 : decode cX11_seed 1 = .ok (.getfield 7, 3) := by decide +kernel
theorem dX11_seed_4 : decode cX11_seed 4 = .ok (.iconst 4, 1) := by decide +kernel
theorem dX11_seed_5 : decode cX11_seed 5 = .ok (.iaload, 1) := by decide +kernel
theorem dX11_seed_6 : decode cX11_seed 6 = .ok (.istore_n 2, 1) := by decide +kernel
theorem dX11_seed_7 : decode cX11_seed 7 = .ok (.aload_n 0, 1) := by decide +kernel
theorem dX11_seed_8 : decode cX11_seed 8 = .ok (.getfield 7, 3) := by decide +kernel
theorem dX11_seed_11 : decode cX11_seed 11 = .ok (.iconst 4, 1) := by decide +kernel
theorem dX11_seed_12 : decode cX11_seed 12 = .ok (.iload_n 1, 1) := by decide +kernel
theorem dX11_seed_13 : decode cX11_seed 13 = .ok (.iastore, 1) := by decide +kernel
theorem dX11_seed_14 : decode cX11_seed 14 = .ok (.iload_n 2, 1) := by decide +kernel
theorem dX11_seed_15 : decode cX11_seed 15 = .ok (.ireturn, 1) := by decide +kernel
theorem dX11_ran_0 : decode cX11_ran 0 = .ok (.aload_n 0, 1) := by decide +kernel
theorem dX11_ran_1 : decode cX11_ran 1 = .ok (.getfield 346, 3) := by decide +kernel
theorem dX11_ran_4 : decode cX11_ran 4 = .ok (.bipush 40, 2) := by decide +kernel
theorem dX11_ran_6 : decode cX11_ran 6 = .ok (.if_icmp .ge 23, 3) := by decide +kernel
theorem dX11_ran_9 : decode cX11_ran 9 = .ok (.aload_n 0, 1) := by decide +kernel
theorem dX11_ran_10 : decode cX11_ran 10 = .ok (.getfield 63, 3) := by decide +kernel
theorem dX11_ran_13 : decode cX11_ran 13 = .ok (.aload_n 0, 1) := by decide +kernel
theorem dX11_ran_14 : decode cX11_ran 14 = .ok (.getfield 346, 3) := by decide +kernel
theorem dX11_ran_17 : decode cX11_ran 17 = .ok (.iload_n 1, 1) := by decide +kernel
theorem dX11_ran_18 : decode cX11_ran 18 = .ok (.iastore, 1) := by decide +kernel
theorem dX11_ran_19 : decode cX11_ran 19 = .ok (.aload_n 0, 1) := by decide +kernel
theorem dX11_ran_20 : decode cX11_ran 20 = .ok (.dup, 1) := by decide +kernel
theorem dX11_ran_21 : decode cX11_ran 21 = .ok (.getfield 346, 3) := by decide +kernel
theorem dX11_ran_24 : decode cX11_ran 24 = .ok (.iconst 1, 1) := by decide +kernel
theorem dX11_ran_25 : decode cX11_ran 25 = .ok (.iadd, 1) := by decide +kernel
theorem dX11_ran_26 : decode cX11_ran 26 = .ok (.putfield 346, 3) := by decide +kernel
theorem dX11_ran_29 : decode cX11_ran 29 = .ok (.return_, 1) := by decide +kernel
theorem dX11_casts_0 : decode cX11_casts 0 = .ok (.iload_n 1, 1) := by decide +kernel
theorem dX11_casts_1 : decode cX11_casts 1 = .ok (.ifCond .ne 16, 3) := by decide +kernel
theorem dX11_casts_4 : decode cX11_casts 4 = .ok (.aload_n 0, 1) := by decide +kernel
theorem dX11_casts_5 : decode cX11_casts 5 = .ok (.bipush 10, 2) := by decide +kernel
theorem dX11_casts_7 : decode cX11_casts 7 = .ok (.invokevirtual 349, 3) := by decide +kernel
theorem dX11_casts_10 : decode cX11_casts 10 = .ok (.iload_n 2, 1) := by decide +kernel
theorem dX11_casts_11 : decode cX11_casts 11 = .ok (.aload_n 0, 1) := by decide +kernel
theorem dX11_casts_12 : decode cX11_casts 12 = .ok (.getfield 352, 3) := by decide +kernel
theorem dX11_casts_15 : decode cX11_casts 15 = .ok (.iadd, 1) := by decide +kernel
theorem dX11_casts_16 : decode cX11_casts 16 = .ok (.ireturn, 1) := by decide +kernel
theorem dX11_casts_17 : decode cX11_casts 17 = .ok (.iload_n 1, 1) := by decide +kernel
theorem dX11_casts_18 : decode cX11_casts 18 = .ok (.iconst 2, 1) := by decide +kernel
theorem dX11_casts_19 : decode cX11_casts 19 = .ok (.if_icmp .ne 18, 3) := by decide +kernel
theorem dX11_casts_22 : decode cX11_casts 22 = .ok (.aload_n 0, 1) := by decide +kernel
theorem dX11_casts_23 : decode cX11_casts 23 = .ok (.bipush 30, 2) := by decide +kernel
theorem dX11_casts_25 : decode cX11_casts 25 = .ok (.invokevirtual 349, 3) := by decide +kernel
theorem dX11_casts_28 : decode cX11_casts 28 = .ok (.aload_n 0, 1) := by decide +kernel
theorem dX11_casts_29 : decode cX11_casts 29 = .ok (.iconst 0, 1) := by decide +kernel
theorem dX11_casts_30 : decode cX11_casts 30 = .ok (.iload_n 2, 1) := by decide +kernel
theorem dX11_casts_31 : decode cX11_casts 31 = .ok (.invokevirtual 355, 3) := by decide +kernel
theorem dX11_casts_34 : decode cX11_casts 34 = .ok (.iconst 3, 1) := by decide +kernel
theorem dX11_casts_35 : decode cX11_casts 35 = .ok (.imul, 1) := by decide +kernel
theorem dX11_casts_36 : decode cX11_casts 36 = .ok (.ireturn, 1) := by decide +kernel
theorem dX11_casts_37 : decode cX11_casts 37 = .ok (.aload_n 0, 1) := by decide +kernel
theorem dX11_casts_38 : decode cX11_casts 38 = .ok (.iload_n 1, 1) := by decide +kernel
theorem dX11_casts_39 : decode cX11_casts 39 = .ok (.invokestatic 111, 3) := by decide +kernel
theorem dX11_casts_42 : decode cX11_casts 42 = .ok (.iload_n 2, 1) := by decide +kernel
theorem dX11_casts_43 : decode cX11_casts 43 = .ok (.invokevirtual 355, 3) := by decide +kernel
theorem dX11_casts_46 : decode cX11_casts 46 = .ok (.ireturn, 1) := by decide +kernel
theorem dX11_lightsBy_0 : decode cX11_lightsBy 0 = .ok (.iload_n 1, 1) := by decide +kernel
theorem dX11_lightsBy_1 : decode cX11_lightsBy 1 = .ok (.ifCond .ne 16, 3) := by decide +kernel
theorem dX11_lightsBy_4 : decode cX11_lightsBy 4 = .ok (.aload_n 0, 1) := by decide +kernel
theorem dX11_lightsBy_5 : decode cX11_lightsBy 5 = .ok (.bipush 12, 2) := by decide +kernel
theorem dX11_lightsBy_7 : decode cX11_lightsBy 7 = .ok (.invokevirtual 349, 3) := by decide +kernel
theorem dX11_lightsBy_10 : decode cX11_lightsBy 10 = .ok (.iload_n 2, 1) := by decide +kernel
theorem dX11_lightsBy_11 : decode cX11_lightsBy 11 = .ok (.aload_n 0, 1) := by decide +kernel
theorem dX11_lightsBy_12 : decode cX11_lightsBy 12 = .ok (.getfield 358, 3) := by decide +kernel
theorem dX11_lightsBy_15 : decode cX11_lightsBy 15 = .ok (.isub, 1) := by decide +kernel
theorem dX11_lightsBy_16 : decode cX11_lightsBy 16 = .ok (.ireturn, 1) := by decide +kernel
theorem dX11_lightsBy_17 : decode cX11_lightsBy 17 = .ok (.iload_n 1, 1) := by decide +kernel
theorem dX11_lightsBy_18 : decode cX11_lightsBy 18 = .ok (.iconst 3, 1) := by decide +kernel
theorem dX11_lightsBy_19 : decode cX11_lightsBy 19 = .ok (.if_icmp .ne 17, 3) := by decide +kernel
theorem dX11_lightsBy_22 : decode cX11_lightsBy 22 = .ok (.aload_n 0, 1) := by decide +kernel
theorem dX11_lightsBy_23 : decode cX11_lightsBy 23 = .ok (.bipush 40, 2) := by decide +kernel
theorem dX11_lightsBy_25 : decode cX11_lightsBy 25 = .ok (.invokevirtual 349, 3) := by decide +kernel
theorem dX11_lightsBy_28 : decode cX11_lightsBy 28 = .ok (.aload_n 0, 1) := by decide +kernel
theorem dX11_lightsBy_29 : decode cX11_lightsBy 29 = .ok (.iconst 0, 1) := by decide +kernel
theorem dX11_lightsBy_30 : decode cX11_lightsBy 30 = .ok (.iload_n 2, 1) := by decide +kernel
theorem dX11_lightsBy_31 : decode cX11_lightsBy 31 = .ok (.invokevirtual 361, 3) := by decide +kernel
theorem dX11_lightsBy_34 : decode cX11_lightsBy 34 = .ok (.ineg, 1) := by decide +kernel
theorem dX11_lightsBy_35 : decode cX11_lightsBy 35 = .ok (.ireturn, 1) := by decide +kernel
theorem dX11_lightsBy_36 : decode cX11_lightsBy 36 = .ok (.iload_n 1, 1) := by decide +kernel
theorem dX11_lightsBy_37 : decode cX11_lightsBy 37 = .ok (.bipush 6, 2) := by decide +kernel
theorem dX11_lightsBy_39 : decode cX11_lightsBy 39 = .ok (.if_icmp .ne 21, 3) := by decide +kernel
theorem dX11_lightsBy_42 : decode cX11_lightsBy 42 = .ok (.aload_n 0, 1) := by decide +kernel
theorem dX11_lightsBy_43 : decode cX11_lightsBy 43 = .ok (.bipush 70, 2) := by decide +kernel
theorem dX11_lightsBy_45 : decode cX11_lightsBy 45 = .ok (.invokevirtual 349, 3) := by decide +kernel
theorem dX11_lightsBy_48 : decode cX11_lightsBy 48 = .ok (.aload_n 0, 1) := by decide +kernel
theorem dX11_lightsBy_49 : decode cX11_lightsBy 49 = .ok (.iconst 2, 1) := by decide +kernel
theorem dX11_lightsBy_50 : decode cX11_lightsBy 50 = .ok (.iload_n 2, 1) := by decide +kernel
theorem dX11_lightsBy_51 : decode cX11_lightsBy 51 = .ok (.invokevirtual 361, 3) := by decide +kernel
theorem dX11_lightsBy_54 : decode cX11_lightsBy 54 = .ok (.aload_n 0, 1) := by decide +kernel
theorem dX11_lightsBy_55 : decode cX11_lightsBy 55 = .ok (.getfield 352, 3) := by decide +kernel
theorem dX11_lightsBy_58 : decode cX11_lightsBy 58 = .ok (.ixor, 1) := by decide +kernel
theorem dX11_lightsBy_59 : decode cX11_lightsBy 59 = .ok (.ireturn, 1) := by decide +kernel
theorem dX11_lightsBy_60 : decode cX11_lightsBy 60 = .ok (.aload_n 0, 1) := by decide +kernel
theorem dX11_lightsBy_61 : decode cX11_lightsBy 61 = .ok (.iload_n 1, 1) := by decide +kernel
theorem dX11_lightsBy_62 : decode cX11_lightsBy 62 = .ok (.invokestatic 111, 3) := by decide +kernel
theorem dX11_lightsBy_65 : decode cX11_lightsBy 65 = .ok (.iload_n 2, 1) := by decide +kernel
theorem dX11_lightsBy_66 : decode cX11_lightsBy 66 = .ok (.invokevirtual 361, 3) := by decide +kernel
theorem dX11_lightsBy_69 : decode cX11_lightsBy 69 = .ok (.ireturn, 1) := by decide +kernel
theorem dX11_turnsBy_0 : decode cX11_turnsBy 0 = .ok (.iload_n 1, 1) := by decide +kernel
theorem dX11_turnsBy_1 : decode cX11_turnsBy 1 = .ok (.ifCond .ne 21, 3) := by decide +kernel
theorem dX11_turnsBy_4 : decode cX11_turnsBy 4 = .ok (.aload_n 0, 1) := by decide +kernel
theorem dX11_turnsBy_5 : decode cX11_turnsBy 5 = .ok (.bipush 11, 2) := by decide +kernel
theorem dX11_turnsBy_7 : decode cX11_turnsBy 7 = .ok (.invokevirtual 349, 3) := by decide +kernel
theorem dX11_turnsBy_10 : decode cX11_turnsBy 10 = .ok (.aload_n 0, 1) := by decide +kernel
theorem dX11_turnsBy_11 : decode cX11_turnsBy 11 = .ok (.aload_n 0, 1) := by decide +kernel
theorem dX11_turnsBy_12 : decode cX11_turnsBy 12 = .ok (.getfield 364, 3) := by decide +kernel
theorem dX11_turnsBy_15 : decode cX11_turnsBy 15 = .ok (.iload_n 2, 1) := by decide +kernel
theorem dX11_turnsBy_16 : decode cX11_turnsBy 16 = .ok (.invokevirtual 355, 3) := by decide +kernel
theorem dX11_turnsBy_19 : decode cX11_turnsBy 19 = .ok (.iconst 2, 1) := by decide +kernel
theorem dX11_turnsBy_20 : decode cX11_turnsBy 20 = .ok (.imul, 1) := by decide +kernel
theorem dX11_turnsBy_21 : decode cX11_turnsBy 21 = .ok (.ireturn, 1) := by decide +kernel
theorem dX11_turnsBy_22 : decode cX11_turnsBy 22 = .ok (.iload_n 1, 1) := by decide +kernel
theorem dX11_turnsBy_23 : decode cX11_turnsBy 23 = .ok (.iconst 1, 1) := by decide +kernel
theorem dX11_turnsBy_24 : decode cX11_turnsBy 24 = .ok (.if_icmp .ne 28, 3) := by decide +kernel
theorem dX11_turnsBy_27 : decode cX11_turnsBy 27 = .ok (.aload_n 0, 1) := by decide +kernel
theorem dX11_turnsBy_28 : decode cX11_turnsBy 28 = .ok (.bipush 20, 2) := by decide +kernel
theorem dX11_turnsBy_30 : decode cX11_turnsBy 30 = .ok (.invokevirtual 349, 3) := by decide +kernel
theorem dX11_turnsBy_33 : decode cX11_turnsBy 33 = .ok (.aload_n 0, 1) := by decide +kernel
theorem dX11_turnsBy_34 : decode cX11_turnsBy 34 = .ok (.iconst 0, 1) := by decide +kernel
theorem dX11_turnsBy_35 : decode cX11_turnsBy 35 = .ok (.iload_n 2, 1) := by decide +kernel
theorem dX11_turnsBy_36 : decode cX11_turnsBy 36 = .ok (.invokevirtual 367, 3) := by decide +kernel
theorem dX11_turnsBy_39 : decode cX11_turnsBy 39 = .ok (.istore_n 3, 1) := by decide +kernel
theorem dX11_turnsBy_40 : decode cX11_turnsBy 40 = .ok (.iload_n 3, 1) := by decide +kernel
theorem dX11_turnsBy_41 : decode cX11_turnsBy 41 = .ok (.aload_n 0, 1) := by decide +kernel
theorem dX11_turnsBy_42 : decode cX11_turnsBy 42 = .ok (.aload_n 0, 1) := by decide +kernel
theorem dX11_turnsBy_43 : decode cX11_turnsBy 43 = .ok (.getfield 364, 3) := by decide +kernel
theorem dX11_turnsBy_46 : decode cX11_turnsBy 46 = .ok (.iconst 1, 1) := by decide +kernel
theorem dX11_turnsBy_47 : decode cX11_turnsBy 47 = .ok (.invokevirtual 361, 3) := by decide +kernel
theorem dX11_turnsBy_50 : decode cX11_turnsBy 50 = .ok (.isub, 1) := by decide +kernel
theorem dX11_turnsBy_51 : decode cX11_turnsBy 51 = .ok (.ireturn, 1) := by decide +kernel
theorem dX11_turnsBy_52 : decode cX11_turnsBy 52 = .ok (.iload_n 1, 1) := by decide +kernel
theorem dX11_turnsBy_53 : decode cX11_turnsBy 53 = .ok (.iconst 4, 1) := by decide +kernel
theorem dX11_turnsBy_54 : decode cX11_turnsBy 54 = .ok (.if_icmp .ne 18, 3) := by decide +kernel
theorem dX11_turnsBy_57 : decode cX11_turnsBy 57 = .ok (.aload_n 0, 1) := by decide +kernel
theorem dX11_turnsBy_58 : decode cX11_turnsBy 58 = .ok (.bipush 50, 2) := by decide +kernel
theorem dX11_turnsBy_60 : decode cX11_turnsBy 60 = .ok (.invokevirtual 349, 3) := by decide +kernel
theorem dX11_turnsBy_63 : decode cX11_turnsBy 63 = .ok (.aload_n 0, 1) := by decide +kernel
theorem dX11_turnsBy_64 : decode cX11_turnsBy 64 = .ok (.iconst 1, 1) := by decide +kernel
theorem dX11_turnsBy_65 : decode cX11_turnsBy 65 = .ok (.iload_n 2, 1) := by decide +kernel
theorem dX11_turnsBy_66 : decode cX11_turnsBy 66 = .ok (.iconst 1, 1) := by decide +kernel
theorem dX11_turnsBy_67 : decode cX11_turnsBy 67 = .ok (.iadd, 1) := by decide +kernel
theorem dX11_turnsBy_68 : decode cX11_turnsBy 68 = .ok (.invokevirtual 367, 3) := by decide +kernel
theorem dX11_turnsBy_71 : decode cX11_turnsBy 71 = .ok (.ireturn, 1) := by decide +kernel
theorem dX11_turnsBy_72 : decode cX11_turnsBy 72 = .ok (.aload_n 0, 1) := by decide +kernel
theorem dX11_turnsBy_73 : decode cX11_turnsBy 73 = .ok (.iload_n 1, 1) := by decide +kernel
theorem dX11_turnsBy_74 : decode cX11_turnsBy 74 = .ok (.invokestatic 111, 3) := by decide +kernel
theorem dX11_turnsBy_77 : decode cX11_turnsBy 77 = .ok (.iload_n 2, 1) := by decide +kernel
theorem dX11_turnsBy_78 : decode cX11_turnsBy 78 = .ok (.invokevirtual 367, 3) := by decide +kernel
theorem dX11_turnsBy_81 : decode cX11_turnsBy 81 = .ok (.ireturn, 1) := by decide +kernel
theorem dX11_tellsBy_0 : decode cX11_tellsBy 0 = .ok (.iload_n 1, 1) := by decide +kernel
theorem dX11_tellsBy_1 : decode cX11_tellsBy 1 = .ok (.ifCond .ne 31, 3) := by decide +kernel
theorem dX11_tellsBy_4 : decode cX11_tellsBy 4 = .ok (.aload_n 0, 1) := by decide +kernel
theorem dX11_tellsBy_5 : decode cX11_tellsBy 5 = .ok (.bipush 13, 2) := by decide +kernel
theorem dX11_tellsBy_7 : decode cX11_tellsBy 7 = .ok (.invokevirtual 349, 3) := by decide +kernel
theorem dX11_tellsBy_10 : decode cX11_tellsBy 10 = .ok (.aload_n 0, 1) := by decide +kernel
theorem dX11_tellsBy_11 : decode cX11_tellsBy 11 = .ok (.aload_n 0, 1) := by decide +kernel
theorem dX11_tellsBy_12 : decode cX11_tellsBy 12 = .ok (.getfield 364, 3) := by decide +kernel
theorem dX11_tellsBy_15 : decode cX11_tellsBy 15 = .ok (.iload_n 2, 1) := by decide +kernel
theorem dX11_tellsBy_16 : decode cX11_tellsBy 16 = .ok (.invokevirtual 367, 3) := by decide +kernel
theorem dX11_tellsBy_19 : decode cX11_tellsBy 19 = .ok (.istore_n 3, 1) := by decide +kernel
theorem dX11_tellsBy_20 : decode cX11_tellsBy 20 = .ok (.iload_n 3, 1) := by decide +kernel
theorem dX11_tellsBy_21 : decode cX11_tellsBy 21 = .ok (.aload_n 0, 1) := by decide +kernel
theorem dX11_tellsBy_22 : decode cX11_tellsBy 22 = .ok (.aload_n 0, 1) := by decide +kernel
theorem dX11_tellsBy_23 : decode cX11_tellsBy 23 = .ok (.getfield 364, 3) := by decide +kernel
theorem dX11_tellsBy_26 : decode cX11_tellsBy 26 = .ok (.iload_n 2, 1) := by decide +kernel
theorem dX11_tellsBy_27 : decode cX11_tellsBy 27 = .ok (.invokevirtual 361, 3) := by decide +kernel
theorem dX11_tellsBy_30 : decode cX11_tellsBy 30 = .ok (.ixor, 1) := by decide +kernel
theorem dX11_tellsBy_31 : decode cX11_tellsBy 31 = .ok (.ireturn, 1) := by decide +kernel
theorem dX11_tellsBy_32 : decode cX11_tellsBy 32 = .ok (.iload_n 1, 1) := by decide +kernel
theorem dX11_tellsBy_33 : decode cX11_tellsBy 33 = .ok (.iconst 5, 1) := by decide +kernel
theorem dX11_tellsBy_34 : decode cX11_tellsBy 34 = .ok (.if_icmp .ne 28, 3) := by decide +kernel
theorem dX11_tellsBy_37 : decode cX11_tellsBy 37 = .ok (.aload_n 0, 1) := by decide +kernel
theorem dX11_tellsBy_38 : decode cX11_tellsBy 38 = .ok (.bipush 60, 2) := by decide +kernel
theorem dX11_tellsBy_40 : decode cX11_tellsBy 40 = .ok (.invokevirtual 349, 3) := by decide +kernel
theorem dX11_tellsBy_43 : decode cX11_tellsBy 43 = .ok (.aload_n 0, 1) := by decide +kernel
theorem dX11_tellsBy_44 : decode cX11_tellsBy 44 = .ok (.iconst 1, 1) := by decide +kernel
theorem dX11_tellsBy_45 : decode cX11_tellsBy 45 = .ok (.iload_n 2, 1) := by decide +kernel
theorem dX11_tellsBy_46 : decode cX11_tellsBy 46 = .ok (.invokevirtual 370, 3) := by decide +kernel
theorem dX11_tellsBy_49 : decode cX11_tellsBy 49 = .ok (.istore_n 3, 1) := by decide +kernel
theorem dX11_tellsBy_50 : decode cX11_tellsBy 50 = .ok (.iload_n 3, 1) := by decide +kernel
theorem dX11_tellsBy_51 : decode cX11_tellsBy 51 = .ok (.aload_n 0, 1) := by decide +kernel
theorem dX11_tellsBy_52 : decode cX11_tellsBy 52 = .ok (.aload_n 0, 1) := by decide +kernel
theorem dX11_tellsBy_53 : decode cX11_tellsBy 53 = .ok (.getfield 364, 3) := by decide +kernel
theorem dX11_tellsBy_56 : decode cX11_tellsBy 56 = .ok (.iconst 2, 1) := by decide +kernel
theorem dX11_tellsBy_57 : decode cX11_tellsBy 57 = .ok (.invokevirtual 355, 3) := by decide +kernel
theorem dX11_tellsBy_60 : decode cX11_tellsBy 60 = .ok (.isub, 1) := by decide +kernel
theorem dX11_tellsBy_61 : decode cX11_tellsBy 61 = .ok (.ireturn, 1) := by decide +kernel
theorem dX11_tellsBy_62 : decode cX11_tellsBy 62 = .ok (.iload_n 1, 1) := by decide +kernel
theorem dX11_tellsBy_63 : decode cX11_tellsBy 63 = .ok (.bipush 6, 2) := by decide +kernel
theorem dX11_tellsBy_65 : decode cX11_tellsBy 65 = .ok (.if_icmp .ne 28, 3) := by decide +kernel
theorem dX11_tellsBy_68 : decode cX11_tellsBy 68 = .ok (.aload_n 0, 1) := by decide +kernel
theorem dX11_tellsBy_69 : decode cX11_tellsBy 69 = .ok (.bipush 71, 2) := by decide +kernel
theorem dX11_tellsBy_71 : decode cX11_tellsBy 71 = .ok (.invokevirtual 349, 3) := by decide +kernel
theorem dX11_tellsBy_74 : decode cX11_tellsBy 74 = .ok (.aload_n 0, 1) := by decide +kernel
theorem dX11_tellsBy_75 : decode cX11_tellsBy 75 = .ok (.aload_n 0, 1) := by decide +kernel
theorem dX11_tellsBy_76 : decode cX11_tellsBy 76 = .ok (.getfield 364, 3) := by decide +kernel
theorem dX11_tellsBy_79 : decode cX11_tellsBy 79 = .ok (.iload_n 2, 1) := by decide +kernel
theorem dX11_tellsBy_80 : decode cX11_tellsBy 80 = .ok (.invokevirtual 367, 3) := by decide +kernel
theorem dX11_tellsBy_83 : decode cX11_tellsBy 83 = .ok (.istore_n 3, 1) := by decide +kernel
theorem dX11_tellsBy_84 : decode cX11_tellsBy 84 = .ok (.iload_n 3, 1) := by decide +kernel
theorem dX11_tellsBy_85 : decode cX11_tellsBy 85 = .ok (.aload_n 0, 1) := by decide +kernel
theorem dX11_tellsBy_86 : decode cX11_tellsBy 86 = .ok (.iconst 2, 1) := by decide +kernel
theorem dX11_tellsBy_87 : decode cX11_tellsBy 87 = .ok (.iload_n 2, 1) := by decide +kernel
theorem dX11_tellsBy_88 : decode cX11_tellsBy 88 = .ok (.invokevirtual 370, 3) := by decide +kernel
theorem dX11_tellsBy_91 : decode cX11_tellsBy 91 = .ok (.isub, 1) := by decide +kernel
theorem dX11_tellsBy_92 : decode cX11_tellsBy 92 = .ok (.ireturn, 1) := by decide +kernel
theorem dX11_tellsBy_93 : decode cX11_tellsBy 93 = .ok (.aload_n 0, 1) := by decide +kernel
theorem dX11_tellsBy_94 : decode cX11_tellsBy 94 = .ok (.iload_n 1, 1) := by decide +kernel
theorem dX11_tellsBy_95 : decode cX11_tellsBy 95 = .ok (.invokestatic 111, 3) := by decide +kernel
theorem dX11_tellsBy_98 : decode cX11_tellsBy 98 = .ok (.iload_n 2, 1) := by decide +kernel
theorem dX11_tellsBy_99 : decode cX11_tellsBy 99 = .ok (.invokevirtual 370, 3) := by decide +kernel
theorem dX11_tellsBy_102 : decode cX11_tellsBy 102 = .ok (.ireturn, 1) := by decide +kernel
theorem dX11_voice_0 : decode cX11_voice 0 = .ok (.aload_n 0, 1) := by decide +kernel
theorem dX11_voice_1 : decode cX11_voice 1 = .ok (.iload_n 1, 1) := by decide +kernel
theorem dX11_voice_2 : decode cX11_voice 2 = .ok (.invokevirtual 83, 3) := by decide +kernel
theorem dX11_voice_5 : decode cX11_voice 5 = .ok (.ifCond .eq 12, 3) := by decide +kernel
theorem dX11_voice_8 : decode cX11_voice 8 = .ok (.iload_n 2, 1) := by decide +kernel
theorem dX11_voice_9 : decode cX11_voice 9 = .ok (.iconst 0, 1) := by decide +kernel
theorem dX11_voice_10 : decode cX11_voice 10 = .ok (.iconst 3, 1) := by decide +kernel
theorem dX11_voice_11 : decode cX11_voice 11 = .ok (.invokestatic 71, 3) := by decide +kernel
theorem dX11_voice_14 : decode cX11_voice 14 = .ok (.ifCond .ne 10, 3) := by decide +kernel
theorem dX11_voice_17 : decode cX11_voice 17 = .ok (.aload_n 0, 1) := by decide +kernel
theorem dX11_voice_18 : decode cX11_voice 18 = .ok (.ldc 78, 2) := by decide +kernel
theorem dX11_voice_20 : decode cX11_voice 20 = .ok (.invokevirtual 79, 3) := by decide +kernel
theorem dX11_voice_23 : decode cX11_voice 23 = .ok (.ireturn, 1) := by decide +kernel
theorem dX11_voice_24 : decode cX11_voice 24 = .ok (.aload_n 0, 1) := by decide +kernel
theorem dX11_voice_25 : decode cX11_voice 25 = .ok (.iconst 0, 1) := by decide +kernel
theorem dX11_voice_26 : decode cX11_voice 26 = .ok (.putfield 346, 3) := by decide +kernel
theorem dX11_voice_29 : decode cX11_voice 29 = .ok (.aload_n 0, 1) := by decide +kernel
theorem dX11_voice_30 : decode cX11_voice 30 = .ok (.aload_n 0, 1) := by decide +kernel
theorem dX11_voice_31 : decode cX11_voice 31 = .ok (.iload_n 1, 1) := by decide +kernel
theorem dX11_voice_32 : decode cX11_voice 32 = .ok (.iconst 0, 1) := by decide +kernel
theorem dX11_voice_33 : decode cX11_voice 33 = .ok (.invokevirtual 87, 3) := by decide +kernel
theorem dX11_voice_36 : decode cX11_voice 36 = .ok (.putfield 364, 3) := by decide +kernel
theorem dX11_voice_39 : decode cX11_voice 39 = .ok (.aload_n 0, 1) := by decide +kernel
theorem dX11_voice_40 : decode cX11_voice 40 = .ok (.iload_n 1, 1) := by decide +kernel
theorem dX11_voice_41 : decode cX11_voice 41 = .ok (.putfield 352, 3) := by decide +kernel
theorem dX11_voice_44 : decode cX11_voice 44 = .ok (.aload_n 0, 1) := by decide +kernel
theorem dX11_voice_45 : decode cX11_voice 45 = .ok (.aload_n 0, 1) := by decide +kernel
theorem dX11_voice_46 : decode cX11_voice 46 = .ok (.iload_n 1, 1) := by decide +kernel
theorem dX11_voice_47 : decode cX11_voice 47 = .ok (.iconst 1, 1) := by decide +kernel
theorem dX11_voice_48 : decode cX11_voice 48 = .ok (.invokevirtual 87, 3) := by decide +kernel
theorem dX11_voice_51 : decode cX11_voice 51 = .ok (.putfield 358, 3) := by decide +kernel
theorem dX11_voice_54 : decode cX11_voice 54 = .ok (.iload_n 2, 1) := by decide +kernel
theorem dX11_voice_55 : decode cX11_voice 55 = .ok (.tableswitch 55 0 2 #[25, 35, 45], 25) := by decide +kernel
theorem dX11_voice_80 : decode cX11_voice 80 = .ok (.aload_n 0, 1) := by decide +kernel
theorem dX11_voice_81 : decode cX11_voice 81 = .ok (.aload_n 0, 1) := by decide +kernel
theorem dX11_voice_82 : decode cX11_voice 82 = .ok (.getfield 364, 3) := by decide +kernel
theorem dX11_voice_85 : decode cX11_voice 85 = .ok (.iload_n 3, 1) := by decide +kernel
theorem dX11_voice_86 : decode cX11_voice 86 = .ok (.invokevirtual 355, 3) := by decide +kernel
theorem dX11_voice_89 : decode cX11_voice 89 = .ok (.ireturn, 1) := by decide +kernel
theorem dX11_voice_90 : decode cX11_voice 90 = .ok (.aload_n 0, 1) := by decide +kernel
theorem dX11_voice_91 : decode cX11_voice 91 = .ok (.aload_n 0, 1) := by decide +kernel
theorem dX11_voice_92 : decode cX11_voice 92 = .ok (.getfield 364, 3) := by decide +kernel
theorem dX11_voice_95 : decode cX11_voice 95 = .ok (.iload_n 3, 1) := by decide +kernel
theorem dX11_voice_96 : decode cX11_voice 96 = .ok (.invokevirtual 367, 3) := by decide +kernel
theorem dX11_voice_99 : decode cX11_voice 99 = .ok (.ireturn, 1) := by decide +kernel
theorem dX11_voice_100 : decode cX11_voice 100 = .ok (.aload_n 0, 1) := by decide +kernel
theorem dX11_voice_101 : decode cX11_voice 101 = .ok (.aload_n 0, 1) := by decide +kernel
theorem dX11_voice_102 : decode cX11_voice 102 = .ok (.getfield 364, 3) := by decide +kernel
theorem dX11_voice_105 : decode cX11_voice 105 = .ok (.iload_n 3, 1) := by decide +kernel
theorem dX11_voice_106 : decode cX11_voice 106 = .ok (.invokevirtual 361, 3) := by decide +kernel
theorem dX11_voice_109 : decode cX11_voice 109 = .ok (.ireturn, 1) := by decide +kernel
theorem dX11_voice_110 : decode cX11_voice 110 = .ok (.aload_n 0, 1) := by decide +kernel
theorem dX11_voice_111 : decode cX11_voice 111 = .ok (.aload_n 0, 1) := by decide +kernel
theorem dX11_voice_112 : decode cX11_voice 112 = .ok (.getfield 364, 3) := by decide +kernel
theorem dX11_voice_115 : decode cX11_voice 115 = .ok (.iload_n 3, 1) := by decide +kernel
theorem dX11_voice_116 : decode cX11_voice 116 = .ok (.invokevirtual 370, 3) := by decide +kernel
theorem dX11_voice_119 : decode cX11_voice 119 = .ok (.ireturn, 1) := by decide +kernel
theorem dX11_trace_0 : decode cX11_trace 0 = .ok (.iload_n 1, 1) := by decide +kernel
theorem dX11_trace_1 : decode cX11_trace 1 = .ok (.iconst 0, 1) := by decide +kernel
theorem dX11_trace_2 : decode cX11_trace 2 = .ok (.aload_n 0, 1) := by decide +kernel
theorem dX11_trace_3 : decode cX11_trace 3 = .ok (.getfield 346, 3) := by decide +kernel
theorem dX11_trace_6 : decode cX11_trace 6 = .ok (.iconst 1, 1) := by decide +kernel
theorem dX11_trace_7 : decode cX11_trace 7 = .ok (.isub, 1) := by decide +kernel
theorem dX11_trace_8 : decode cX11_trace 8 = .ok (.invokestatic 71, 3) := by decide +kernel
theorem dX11_trace_11 : decode cX11_trace 11 = .ok (.ifCond .eq 12, 3) := by decide +kernel
theorem dX11_trace_14 : decode cX11_trace 14 = .ok (.aload_n 0, 1) := by decide +kernel
theorem dX11_trace_15 : decode cX11_trace 15 = .ok (.getfield 63, 3) := by decide +kernel
theorem dX11_trace_18 : decode cX11_trace 18 = .ok (.iload_n 1, 1) := by decide +kernel
theorem dX11_trace_19 : decode cX11_trace 19 = .ok (.iaload, 1) := by decide +kernel
theorem dX11_trace_20 : decode cX11_trace 20 = .ok (.goto 9, 3) := by decide +kernel
theorem dX11_trace_23 : decode cX11_trace 23 = .ok (.aload_n 0, 1) := by decide +kernel
theorem dX11_trace_24 : decode cX11_trace 24 = .ok (.ldc 195, 2) := by decide +kernel
theorem dX11_trace_26 : decode cX11_trace 26 = .ok (.invokevirtual 79, 3) := by decide +kernel
theorem dX11_trace_29 : decode cX11_trace 29 = .ok (.ireturn, 1) := by decide +kernel
theorem dX11_narrow_0 : decode cX11_narrow 0 = .ok (.iload_n 0, 1) := by decide +kernel
theorem dX11_narrow_1 : decode cX11_narrow 1 = .ok (.bipush 8, 2) := by decide +kernel
theorem dX11_narrow_3 : decode cX11_narrow 3 = .ok (.if_icmp .ne 8, 3) := by decide +kernel
theorem dX11_narrow_6 : decode cX11_narrow 6 = .ok (.iload_n 1, 1) := by decide +kernel
theorem dX11_narrow_7 : decode cX11_narrow 7 = .ok (.i2b, 1) := by decide +kernel
theorem dX11_narrow_8 : decode cX11_narrow 8 = .ok (.goto 15, 3) := by decide +kernel
theorem dX11_narrow_11 : decode cX11_narrow 11 = .ok (.iload_n 0, 1) := by decide +kernel
theorem dX11_narrow_12 : decode cX11_narrow 12 = .ok (.bipush 16, 2) := by decide +kernel
theorem dX11_narrow_14 : decode cX11_narrow 14 = .ok (.if_icmp .ne 8, 3) := by decide +kernel
theorem dX11_narrow_17 : decode cX11_narrow 17 = .ok (.iload_n 1, 1) := by decide +kernel
theorem dX11_narrow_18 : decode cX11_narrow 18 = .ok (.i2s, 1) := by decide +kernel
theorem dX11_narrow_19 : decode cX11_narrow 19 = .ok (.goto 4, 3) := by decide +kernel
theorem dX11_narrow_22 : decode cX11_narrow 22 = .ok (.iload_n 1, 1) := by decide +kernel
theorem dX11_narrow_23 : decode cX11_narrow 23 = .ok (.ireturn, 1) := by decide +kernel
theorem dX11_sheet_0 : decode cX11_sheet 0 = .ok (.iload_n 1, 1) := by decide +kernel
theorem dX11_sheet_1 : decode cX11_sheet 1 = .ok (.invokestatic 333, 3) := by decide +kernel
theorem dX11_sheet_4 : decode cX11_sheet 4 = .ok (.ifCond .eq 25, 3) := by decide +kernel
theorem dX11_sheet_7 : decode cX11_sheet 7 = .ok (.iload_n 2, 1) := by decide +kernel
theorem dX11_sheet_8 : decode cX11_sheet 8 = .ok (.ifCond .eq 28, 3) := by decide +kernel
theorem dX11_sheet_11 : decode cX11_sheet 11 = .ok (.iload_n 2, 1) := by decide +kernel
theorem dX11_sheet_12 : decode cX11_sheet 12 = .ok (.bipush 8, 2) := by decide +kernel
theorem dX11_sheet_14 : decode cX11_sheet 14 = .ok (.if_icmp .eq 22, 3) := by decide +kernel
theorem dX11_sheet_17 : decode cX11_sheet 17 = .ok (.iload_n 2, 1) := by decide +kernel
theorem dX11_sheet_18 : decode cX11_sheet 18 = .ok (.bipush 16, 2) := by decide +kernel
theorem dX11_sheet_20 : decode cX11_sheet 20 = .ok (.if_icmp .eq 16, 3) := by decide +kernel
theorem dX11_sheet_23 : decode cX11_sheet 23 = .ok (.iload_n 2, 1) := by decide +kernel
theorem dX11_sheet_24 : decode cX11_sheet 24 = .ok (.bipush 32, 2) := by decide +kernel
theorem dX11_sheet_26 : decode cX11_sheet 26 = .ok (.if_icmp .eq 10, 3) := by decide +kernel
theorem dX11_sheet_29 : decode cX11_sheet 29 = .ok (.aload_n 0, 1) := by decide +kernel
theorem dX11_sheet_30 : decode cX11_sheet 30 = .ok (.ldc 78, 2) := by decide +kernel
theorem dX11_sheet_32 : decode cX11_sheet 32 = .ok (.invokevirtual 79, 3) := by decide +kernel
theorem dX11_sheet_35 : decode cX11_sheet 35 = .ok (.ireturn, 1) := by decide +kernel
theorem dX11_sheet_36 : decode cX11_sheet 36 = .ok (.iload_n 2, 1) := by decide +kernel
theorem dX11_sheet_37 : decode cX11_sheet 37 = .ok (.ifCond .eq 14, 3) := by decide +kernel
theorem dX11_sheet_40 : decode cX11_sheet 40 = .ok (.iload_n 3, 1) := by decide +kernel
theorem dX11_sheet_41 : decode cX11_sheet 41 = .ok (.ifCond .ge 10, 3) := by decide +kernel
theorem dX11_sheet_44 : decode cX11_sheet 44 = .ok (.aload_n 0, 1) := by decide +kernel
theorem dX11_sheet_45 : decode cX11_sheet 45 = .ok (.ldc 128, 2) := by decide +kernel
theorem dX11_sheet_47 : decode cX11_sheet 47 = .ok (.invokevirtual 79, 3) := by decide +kernel
theorem dX11_sheet_50 : decode cX11_sheet 50 = .ok (.ireturn, 1) := by decide +kernel
theorem dX11_sheet_51 : decode cX11_sheet 51 = .ok (.iload_n 2, 1) := by decide +kernel
theorem dX11_sheet_52 : decode cX11_sheet 52 = .ok (.ifCond .eq 16, 3) := by decide +kernel
theorem dX11_sheet_55 : decode cX11_sheet 55 = .ok (.iload_n 3, 1) := by decide +kernel
theorem dX11_sheet_56 : decode cX11_sheet 56 = .ok (.bipush 40, 2) := by decide +kernel
theorem dX11_sheet_58 : decode cX11_sheet 58 = .ok (.if_icmp .le 10, 3) := by decide +kernel
theorem dX11_sheet_61 : decode cX11_sheet 61 = .ok (.aload_n 0, 1) := by decide +kernel
theorem dX11_sheet_62 : decode cX11_sheet 62 = .ok (.ldc 78, 2) := by decide +kernel
theorem dX11_sheet_64 : decode cX11_sheet 64 = .ok (.invokevirtual 79, 3) := by decide +kernel
theorem dX11_sheet_67 : decode cX11_sheet 67 = .ok (.ireturn, 1) := by decide +kernel
theorem dX11_sheet_68 : decode cX11_sheet 68 = .ok (.aload_n 0, 1) := by decide +kernel
theorem dX11_sheet_69 : decode cX11_sheet 69 = .ok (.getfield 48, 3) := by decide +kernel
theorem dX11_sheet_72 : decode cX11_sheet 72 = .ok (.iload_n 1, 1) := by decide +kernel
theorem dX11_sheet_73 : decode cX11_sheet 73 = .ok (.iload_n 2, 1) := by decide +kernel
theorem dX11_sheet_74 : decode cX11_sheet 74 = .ok (.iastore, 1) := by decide +kernel
theorem dX11_sheet_75 : decode cX11_sheet 75 = .ok (.aload_n 0, 1) := by decide +kernel
theorem dX11_sheet_76 : decode cX11_sheet 76 = .ok (.getfield 51, 3) := by decide +kernel
theorem dX11_sheet_79 : decode cX11_sheet 79 = .ok (.iload_n 1, 1) := by decide +kernel
theorem dX11_sheet_80 : decode cX11_sheet 80 = .ok (.iload_n 2, 1) := by decide +kernel
theorem dX11_sheet_81 : decode cX11_sheet 81 = .ok (.ifCond .ne 7, 3) := by decide +kernel
theorem dX11_sheet_84 : decode cX11_sheet 84 = .ok (.iconst 0, 1) := by decide +kernel
theorem dX11_sheet_85 : decode cX11_sheet 85 = .ok (.goto 4, 3) := by decide +kernel
theorem dX11_sheet_88 : decode cX11_sheet 88 = .ok (.iload_n 3, 1) := by decide +kernel
theorem dX11_sheet_89 : decode cX11_sheet 89 = .ok (.iastore, 1) := by decide +kernel
theorem dX11_sheet_90 : decode cX11_sheet 90 = .ok (.iconst 0, 1) := by decide +kernel
theorem dX11_sheet_91 : decode cX11_sheet 91 = .ok (.istore 4, 2) := by decide +kernel
theorem dX11_sheet_93 : decode cX11_sheet 93 = .ok (.iload 4, 2) := by decide +kernel
theorem dX11_sheet_95 : decode cX11_sheet 95 = .ok (.bipush 40, 2) := by decide +kernel
theorem dX11_sheet_97 : decode cX11_sheet 97 = .ok (.if_icmp .ge 22, 3) := by decide +kernel
theorem dX11_sheet_100 : decode cX11_sheet 100 = .ok (.aload_n 0, 1) := by decide +kernel
theorem dX11_sheet_101 : decode cX11_sheet 101 = .ok (.getfield 54, 3) := by decide +kernel
theorem dX11_sheet_104 : decode cX11_sheet 104 = .ok (.bipush 40, 2) := by decide +kernel
theorem dX11_sheet_106 : decode cX11_sheet 106 = .ok (.iload_n 1, 1) := by decide +kernel
theorem dX11_sheet_107 : decode cX11_sheet 107 = .ok (.imul, 1) := by decide +kernel
theorem dX11_sheet_108 : decode cX11_sheet 108 = .ok (.iload 4, 2) := by decide +kernel
theorem dX11_sheet_110 : decode cX11_sheet 110 = .ok (.iadd, 1) := by decide +kernel
theorem dX11_sheet_111 : decode cX11_sheet 111 = .ok (.iconst 0, 1) := by decide +kernel
theorem dX11_sheet_112 : decode cX11_sheet 112 = .ok (.iastore, 1) := by decide +kernel
theorem dX11_sheet_113 : decode cX11_sheet 113 = .ok (.iinc 4 1, 3) := by decide +kernel
theorem dX11_sheet_116 : decode cX11_sheet 116 = .ok (.goto (-23), 3) := by decide +kernel
theorem dX11_sheet_119 : decode cX11_sheet 119 = .ok (.iconst 1, 1) := by decide +kernel
theorem dX11_sheet_120 : decode cX11_sheet 120 = .ok (.ireturn, 1) := by decide +kernel
theorem dX11_put_0 : decode cX11_put 0 = .ok (.iload_n 1, 1) := by decide +kernel
theorem dX11_put_1 : decode cX11_put 1 = .ok (.invokestatic 333, 3) := by decide +kernel
theorem dX11_put_4 : decode cX11_put 4 = .ok (.ifCond .ne 10, 3) := by decide +kernel
theorem dX11_put_7 : decode cX11_put 7 = .ok (.aload_n 0, 1) := by decide +kernel
theorem dX11_put_8 : decode cX11_put 8 = .ok (.ldc 78, 2) := by decide +kernel
theorem dX11_put_10 : decode cX11_put 10 = .ok (.invokevirtual 79, 3) := by decide +kernel
theorem dX11_put_13 : decode cX11_put 13 = .ok (.ireturn, 1) := by decide +kernel
theorem dX11_put_14 : decode cX11_put 14 = .ok (.aload_n 0, 1) := by decide +kernel
theorem dX11_put_15 : decode cX11_put 15 = .ok (.getfield 48, 3) := by decide +kernel
theorem dX11_put_18 : decode cX11_put 18 = .ok (.iload_n 1, 1) := by decide +kernel
theorem dX11_put_19 : decode cX11_put 19 = .ok (.iaload, 1) := by decide +kernel
theorem dX11_put_20 : decode cX11_put 20 = .ok (.ifCond .ne 10, 3) := by decide +kernel
theorem dX11_put_23 : decode cX11_put 23 = .ok (.aload_n 0, 1) := by decide +kernel
theorem dX11_put_24 : decode cX11_put 24 = .ok (.ldc 195, 2) := by decide +kernel
theorem dX11_put_26 : decode cX11_put 26 = .ok (.invokevirtual 79, 3) := by decide +kernel
theorem dX11_put_29 : decode cX11_put 29 = .ok (.ireturn, 1) := by decide +kernel
theorem dX11_put_30 : decode cX11_put 30 = .ok (.iload_n 2, 1) := by decide +kernel
theorem dX11_put_31 : decode cX11_put 31 = .ok (.iconst 0, 1) := by decide +kernel
theorem dX11_put_32 : decode cX11_put 32 = .ok (.aload_n 0, 1) := by decide +kernel
theorem dX11_put_33 : decode cX11_put 33 = .ok (.getfield 51, 3) := by decide +kernel
theorem dX11_put_36 : decode cX11_put 36 = .ok (.iload_n 1, 1) := by decide +kernel
theorem dX11_put_37 : decode cX11_put 37 = .ok (.iaload, 1) := by decide +kernel
theorem dX11_put_38 : decode cX11_put 38 = .ok (.iconst 1, 1) := by decide +kernel
theorem dX11_put_39 : decode cX11_put 39 = .ok (.isub, 1) := by decide +kernel
theorem dX11_put_40 : decode cX11_put 40 = .ok (.invokestatic 71, 3) := by decide +kernel
theorem dX11_put_43 : decode cX11_put 43 = .ok (.ifCond .ne 10, 3) := by decide +kernel
theorem dX11_put_46 : decode cX11_put 46 = .ok (.aload_n 0, 1) := by decide +kernel
theorem dX11_put_47 : decode cX11_put 47 = .ok (.ldc 78, 2) := by decide +kernel
theorem dX11_put_49 : decode cX11_put 49 = .ok (.invokevirtual 79, 3) := by decide +kernel
theorem dX11_put_52 : decode cX11_put 52 = .ok (.ireturn, 1) := by decide +kernel
theorem dX11_put_53 : decode cX11_put 53 = .ok (.aload_n 0, 1) := by decide +kernel
theorem dX11_put_54 : decode cX11_put 54 = .ok (.getfield 54, 3) := by decide +kernel
theorem dX11_put_57 : decode cX11_put 57 = .ok (.bipush 40, 2) := by decide +kernel
theorem dX11_put_59 : decode cX11_put 59 = .ok (.iload_n 1, 1) := by decide +kernel
theorem dX11_put_60 : decode cX11_put 60 = .ok (.imul, 1) := by decide +kernel
theorem dX11_put_61 : decode cX11_put 61 = .ok (.iload_n 2, 1) := by decide +kernel
theorem dX11_put_62 : decode cX11_put 62 = .ok (.iadd, 1) := by decide +kernel
theorem dX11_put_63 : decode cX11_put 63 = .ok (.aload_n 0, 1) := by decide +kernel
theorem dX11_put_64 : decode cX11_put 64 = .ok (.getfield 48, 3) := by decide +kernel
theorem dX11_put_67 : decode cX11_put 67 = .ok (.iload_n 1, 1) := by decide +kernel
theorem dX11_put_68 : decode cX11_put 68 = .ok (.iaload, 1) := by decide +kernel
theorem dX11_put_69 : decode cX11_put 69 = .ok (.iload_n 3, 1) := by decide +kernel
theorem dX11_put_70 : decode cX11_put 70 = .ok (.invokestatic 373, 3) := by decide +kernel
theorem dX11_put_73 : decode cX11_put 73 = .ok (.iastore, 1) := by decide +kernel
theorem dX11_put_74 : decode cX11_put 74 = .ok (.iconst 1, 1) := by decide +kernel
theorem dX11_put_75 : decode cX11_put 75 = .ok (.ireturn, 1) := by decide +kernel
theorem dX11_move_0 : decode cX11_move 0 = .ok (.iload_n 1, 1) := by decide +kernel
theorem dX11_move_1 : decode cX11_move 1 = .ok (.invokestatic 333, 3) := by decide +kernel
theorem dX11_move_4 : decode cX11_move 4 = .ok (.ifCond .eq 10, 3) := by decide +kernel
theorem dX11_move_7 : decode cX11_move 7 = .ok (.iload_n 3, 1) := by decide +kernel
theorem dX11_move_8 : decode cX11_move 8 = .ok (.invokestatic 333, 3) := by decide +kernel
theorem dX11_move_11 : decode cX11_move 11 = .ok (.ifCond .ne 10, 3) := by decide +kernel
theorem dX11_move_14 : decode cX11_move 14 = .ok (.aload_n 0, 1) := by decide +kernel
theorem dX11_move_15 : decode cX11_move 15 = .ok (.ldc 78, 2) := by decide +kernel
theorem dX11_move_17 : decode cX11_move 17 = .ok (.invokevirtual 79, 3) := by decide +kernel
theorem dX11_move_20 : decode cX11_move 20 = .ok (.ireturn, 1) := by decide +kernel
theorem dX11_move_21 : decode cX11_move 21 = .ok (.aload_n 0, 1) := by decide +kernel
theorem dX11_move_22 : decode cX11_move 22 = .ok (.getfield 48, 3) := by decide +kernel
theorem dX11_move_25 : decode cX11_move 25 = .ok (.iload_n 1, 1) := by decide +kernel
theorem dX11_move_26 : decode cX11_move 26 = .ok (.iaload, 1) := by decide +kernel
theorem dX11_move_27 : decode cX11_move 27 = .ok (.ifCond .eq 12, 3) := by decide +kernel
theorem dX11_move_30 : decode cX11_move 30 = .ok (.aload_n 0, 1) := by decide +kernel
theorem dX11_move_31 : decode cX11_move 31 = .ok (.getfield 48, 3) := by decide +kernel
theorem dX11_move_34 : decode cX11_move 34 = .ok (.iload_n 3, 1) := by decide +kernel
theorem dX11_move_35 : decode cX11_move 35 = .ok (.iaload, 1) := by decide +kernel
theorem dX11_move_36 : decode cX11_move 36 = .ok (.ifCond .ne 10, 3) := by decide +kernel
theorem dX11_move_39 : decode cX11_move 39 = .ok (.aload_n 0, 1) := by decide +kernel
theorem dX11_move_40 : decode cX11_move 40 = .ok (.ldc 195, 2) := by decide +kernel
theorem dX11_move_42 : decode cX11_move 42 = .ok (.invokevirtual 79, 3) := by decide +kernel
theorem dX11_move_45 : decode cX11_move 45 = .ok (.ireturn, 1) := by decide +kernel
theorem dX11_move_46 : decode cX11_move 46 = .ok (.aload_n 0, 1) := by decide +kernel
theorem dX11_move_47 : decode cX11_move 47 = .ok (.getfield 48, 3) := by decide +kernel
theorem dX11_move_50 : decode cX11_move 50 = .ok (.iload_n 1, 1) := by decide +kernel
theorem dX11_move_51 : decode cX11_move 51 = .ok (.iaload, 1) := by decide +kernel
theorem dX11_move_52 : decode cX11_move 52 = .ok (.aload_n 0, 1) := by decide +kernel
theorem dX11_move_53 : decode cX11_move 53 = .ok (.getfield 48, 3) := by decide +kernel
theorem dX11_move_56 : decode cX11_move 56 = .ok (.iload_n 3, 1) := by decide +kernel
theorem dX11_move_57 : decode cX11_move 57 = .ok (.iaload, 1) := by decide +kernel
theorem dX11_move_58 : decode cX11_move 58 = .ok (.if_icmp .eq 10, 3) := by decide +kernel
theorem dX11_move_61 : decode cX11_move 61 = .ok (.aload_n 0, 1) := by decide +kernel
theorem dX11_move_62 : decode cX11_move 62 = .ok (.ldc 114, 2) := by decide +kernel
theorem dX11_move_64 : decode cX11_move 64 = .ok (.invokevirtual 79, 3) := by decide +kernel
theorem dX11_move_67 : decode cX11_move 67 = .ok (.ireturn, 1) := by decide +kernel
theorem dX11_move_68 : decode cX11_move 68 = .ok (.iload 5, 2) := by decide +kernel
theorem dX11_move_70 : decode cX11_move 70 = .ok (.ifCond .lt 39, 3) := by decide +kernel
theorem dX11_move_73 : decode cX11_move 73 = .ok (.iload_n 2, 1) := by decide +kernel
theorem dX11_move_74 : decode cX11_move 74 = .ok (.ifCond .lt 35, 3) := by decide +kernel
theorem dX11_move_77 : decode cX11_move 77 = .ok (.iload 4, 2) := by decide +kernel
theorem dX11_move_79 : decode cX11_move 79 = .ok (.ifCond .lt 30, 3) := by decide +kernel
theorem dX11_move_82 : decode cX11_move 82 = .ok (.iload_n 2, 1) := by decide +kernel
theorem dX11_move_83 : decode cX11_move 83 = .ok (.aload_n 0, 1) := by decide +kernel
theorem dX11_move_84 : decode cX11_move 84 = .ok (.getfield 51, 3) := by decide +kernel
theorem dX11_move_87 : decode cX11_move 87 = .ok (.iload_n 1, 1) := by decide +kernel
theorem dX11_move_88 : decode cX11_move 88 = .ok (.iaload, 1) := by decide +kernel
theorem dX11_move_89 : decode cX11_move 89 = .ok (.iload 5, 2) := by decide +kernel
theorem dX11_move_91 : decode cX11_move 91 = .ok (.isub, 1) := by decide +kernel
theorem dX11_move_92 : decode cX11_move 92 = .ok (.if_icmp .gt 17, 3) := by decide +kernel
theorem dX11_move_95 : decode cX11_move 95 = .ok (.iload 4, 2) := by decide +kernel
theorem dX11_move_97 : decode cX11_move 97 = .ok (.aload_n 0, 1) := by decide +kernel
theorem dX11_move_98 : decode cX11_move 98 = .ok (.getfield 51, 3) := by decide +kernel
theorem dX11_move_101 : decode cX11_move 101 = .ok (.iload_n 3, 1) := by decide +kernel
theorem dX11_move_102 : decode cX11_move 102 = .ok (.iaload, 1) := by decide +kernel
theorem dX11_move_103 : decode cX11_move 103 = .ok (.iload 5, 2) := by decide +kernel
theorem dX11_move_105 : decode cX11_move 105 = .ok (.isub, 1) := by decide +kernel
theorem dX11_move_106 : decode cX11_move 106 = .ok (.if_icmp .le 10, 3) := by decide +kernel
theorem dX11_move_109 : decode cX11_move 109 = .ok (.aload_n 0, 1) := by decide +kernel
theorem dX11_move_110 : decode cX11_move 110 = .ok (.ldc 78, 2) := by decide +kernel
theorem dX11_move_112 : decode cX11_move 112 = .ok (.invokevirtual 79, 3) := by decide +kernel
theorem dX11_move_115 : decode cX11_move 115 = .ok (.ireturn, 1) := by decide +kernel
theorem dX11_move_116 : decode cX11_move 116 = .ok (.iconst 0, 1) := by decide +kernel
theorem dX11_move_117 : decode cX11_move 117 = .ok (.istore 6, 2) := by decide +kernel
theorem dX11_move_119 : decode cX11_move 119 = .ok (.iload 6, 2) := by decide +kernel
theorem dX11_move_121 : decode cX11_move 121 = .ok (.iload 5, 2) := by decide +kernel
theorem dX11_move_123 : decode cX11_move 123 = .ok (.if_icmp .ge 30, 3) := by decide +kernel
theorem dX11_move_126 : decode cX11_move 126 = .ok (.aload_n 0, 1) := by decide +kernel
theorem dX11_move_127 : decode cX11_move 127 = .ok (.getfield 57, 3) := by decide +kernel
theorem dX11_move_130 : decode cX11_move 130 = .ok (.iload 6, 2) := by decide +kernel
theorem dX11_move_132 : decode cX11_move 132 = .ok (.aload_n 0, 1) := by decide +kernel
theorem dX11_move_133 : decode cX11_move 133 = .ok (.getfield 54, 3) := by decide +kernel
theorem dX11_move_136 : decode cX11_move 136 = .ok (.bipush 40, 2) := by decide +kernel
theorem dX11_move_138 : decode cX11_move 138 = .ok (.iload_n 1, 1) := by decide +kernel
theorem dX11_move_139 : decode cX11_move 139 = .ok (.imul, 1) := by decide +kernel
theorem dX11_move_140 : decode cX11_move 140 = .ok (.iload_n 2, 1) := by decide +kernel
theorem dX11_move_141 : decode cX11_move 141 = .ok (.iadd, 1) := by decide +kernel
theorem dX11_move_142 : decode cX11_move 142 = .ok (.iload 6, 2) := by decide +kernel
theorem dX11_move_144 : decode cX11_move 144 = .ok (.iadd, 1) := by decide +kernel
theorem dX11_move_145 : decode cX11_move 145 = .ok (.iaload, 1) := by decide +kernel
theorem dX11_move_146 : decode cX11_move 146 = .ok (.iastore, 1) := by decide +kernel
theorem dX11_move_147 : decode cX11_move 147 = .ok (.iinc 6 1, 3) := by decide +kernel
theorem dX11_move_150 : decode cX11_move 150 = .ok (.goto (-31), 3) := by decide +kernel
theorem dX11_move_153 : decode cX11_move 153 = .ok (.iconst 0, 1) := by decide +kernel
theorem dX11_move_154 : decode cX11_move 154 = .ok (.istore 6, 2) := by decide +kernel
theorem dX11_move_156 : decode cX11_move 156 = .ok (.iload 6, 2) := by decide +kernel
theorem dX11_move_158 : decode cX11_move 158 = .ok (.iload 5, 2) := by decide +kernel
theorem dX11_move_160 : decode cX11_move 160 = .ok (.if_icmp .ge 31, 3) := by decide +kernel
theorem dX11_move_163 : decode cX11_move 163 = .ok (.aload_n 0, 1) := by decide +kernel
theorem dX11_move_164 : decode cX11_move 164 = .ok (.getfield 54, 3) := by decide +kernel
theorem dX11_move_167 : decode cX11_move 167 = .ok (.bipush 40, 2) := by decide +kernel
theorem dX11_move_169 : decode cX11_move 169 = .ok (.iload_n 3, 1) := by decide +kernel
theorem dX11_move_170 : decode cX11_move 170 = .ok (.imul, 1) := by decide +kernel
theorem dX11_move_171 : decode cX11_move 171 = .ok (.iload 4, 2) := by decide +kernel
theorem dX11_move_173 : decode cX11_move 173 = .ok (.iadd, 1) := by decide +kernel
theorem dX11_move_174 : decode cX11_move 174 = .ok (.iload 6, 2) := by decide +kernel
theorem dX11_move_176 : decode cX11_move 176 = .ok (.iadd, 1) := by decide +kernel
theorem dX11_move_177 : decode cX11_move 177 = .ok (.aload_n 0, 1) := by decide +kernel
theorem dX11_move_178 : decode cX11_move 178 = .ok (.getfield 57, 3) := by decide +kernel
theorem dX11_move_181 : decode cX11_move 181 = .ok (.iload 6, 2) := by decide +kernel
theorem dX11_move_183 : decode cX11_move 183 = .ok (.iaload, 1) := by decide +kernel
theorem dX11_move_184 : decode cX11_move 184 = .ok (.iastore, 1) := by decide +kernel
theorem dX11_move_185 : decode cX11_move 185 = .ok (.iinc 6 1, 3) := by decide +kernel
theorem dX11_move_188 : decode cX11_move 188 = .ok (.goto (-32), 3) := by decide +kernel
theorem dX11_move_191 : decode cX11_move 191 = .ok (.iload 5, 2) := by decide +kernel
theorem dX11_move_193 : decode cX11_move 193 = .ok (.ireturn, 1) := by decide +kernel
theorem dX11_lets_0 : decode cX11_lets 0 = .ok (.iload_n 1, 1) := by decide +kernel
theorem dX11_lets_1 : decode cX11_lets 1 = .ok (.invokestatic 333, 3) := by decide +kernel
theorem dX11_lets_4 : decode cX11_lets 4 = .ok (.ifCond .ne 10, 3) := by decide +kernel
theorem dX11_lets_7 : decode cX11_lets 7 = .ok (.aload_n 0, 1) := by decide +kernel
theorem dX11_lets_8 : decode cX11_lets 8 = .ok (.ldc 78, 2) := by decide +kernel
theorem dX11_lets_10 : decode cX11_lets 10 = .ok (.invokevirtual 79, 3) := by decide +kernel
theorem dX11_lets_13 : decode cX11_lets 13 = .ok (.ireturn, 1) := by decide +kernel
theorem dX11_lets_14 : decode cX11_lets 14 = .ok (.aload_n 0, 1) := by decide +kernel
theorem dX11_lets_15 : decode cX11_lets 15 = .ok (.getfield 48, 3) := by decide +kernel
theorem dX11_lets_18 : decode cX11_lets 18 = .ok (.iload_n 1, 1) := by decide +kernel
theorem dX11_lets_19 : decode cX11_lets 19 = .ok (.iaload, 1) := by decide +kernel
theorem dX11_lets_20 : decode cX11_lets 20 = .ok (.ifCond .ne 10, 3) := by decide +kernel
theorem dX11_lets_23 : decode cX11_lets 23 = .ok (.aload_n 0, 1) := by decide +kernel
theorem dX11_lets_24 : decode cX11_lets 24 = .ok (.ldc 195, 2) := by decide +kernel
theorem dX11_lets_26 : decode cX11_lets 26 = .ok (.invokevirtual 79, 3) := by decide +kernel
theorem dX11_lets_29 : decode cX11_lets 29 = .ok (.ireturn, 1) := by decide +kernel
theorem dX11_lets_30 : decode cX11_lets 30 = .ok (.iconst 0, 1) := by decide +kernel
theorem dX11_lets_31 : decode cX11_lets 31 = .ok (.istore_n 2, 1) := by decide +kernel
theorem dX11_lets_32 : decode cX11_lets 32 = .ok (.iload_n 2, 1) := by decide +kernel
theorem dX11_lets_33 : decode cX11_lets 33 = .ok (.aload_n 0, 1) := by decide +kernel
theorem dX11_lets_34 : decode cX11_lets 34 = .ok (.getfield 51, 3) := by decide +kernel
theorem dX11_lets_37 : decode cX11_lets 37 = .ok (.iload_n 1, 1) := by decide +kernel
theorem dX11_lets_38 : decode cX11_lets 38 = .ok (.iaload, 1) := by decide +kernel
theorem dX11_lets_39 : decode cX11_lets 39 = .ok (.if_icmp .ge 52, 3) := by decide +kernel
theorem dX11_lets_42 : decode cX11_lets 42 = .ok (.aload_n 0, 1) := by decide +kernel
theorem dX11_lets_43 : decode cX11_lets 43 = .ok (.aload_n 0, 1) := by decide +kernel
theorem dX11_lets_44 : decode cX11_lets 44 = .ok (.getfield 54, 3) := by decide +kernel
theorem dX11_lets_47 : decode cX11_lets 47 = .ok (.bipush 40, 2) := by decide +kernel
theorem dX11_lets_49 : decode cX11_lets 49 = .ok (.iload_n 1, 1) := by decide +kernel
theorem dX11_lets_50 : decode cX11_lets 50 = .ok (.imul, 1) := by decide +kernel
theorem dX11_lets_51 : decode cX11_lets 51 = .ok (.iload_n 2, 1) := by decide +kernel
theorem dX11_lets_52 : decode cX11_lets 52 = .ok (.iadd, 1) := by decide +kernel
theorem dX11_lets_53 : decode cX11_lets 53 = .ok (.iaload, 1) := by decide +kernel
theorem dX11_lets_54 : decode cX11_lets 54 = .ok (.invokevirtual 182, 3) := by decide +kernel
theorem dX11_lets_57 : decode cX11_lets 57 = .ok (.ifCond .eq 34, 3) := by decide +kernel
theorem dX11_lets_60 : decode cX11_lets 60 = .ok (.aload_n 0, 1) := by decide +kernel
theorem dX11_lets_61 : decode cX11_lets 61 = .ok (.aload_n 0, 1) := by decide +kernel
theorem dX11_lets_62 : decode cX11_lets 62 = .ok (.getfield 54, 3) := by decide +kernel
theorem dX11_lets_65 : decode cX11_lets 65 = .ok (.bipush 40, 2) := by decide +kernel
theorem dX11_lets_67 : decode cX11_lets 67 = .ok (.iload_n 1, 1) := by decide +kernel
theorem dX11_lets_68 : decode cX11_lets 68 = .ok (.imul, 1) := by decide +kernel
theorem dX11_lets_69 : decode cX11_lets 69 = .ok (.iload_n 2, 1) := by decide +kernel
theorem dX11_lets_70 : decode cX11_lets 70 = .ok (.iadd, 1) := by decide +kernel
theorem dX11_lets_71 : decode cX11_lets 71 = .ok (.iaload, 1) := by decide +kernel
theorem dX11_lets_72 : decode cX11_lets 72 = .ok (.invokevirtual 185, 3) := by decide +kernel
theorem dX11_lets_75 : decode cX11_lets 75 = .ok (.istore_n 3, 1) := by decide +kernel
theorem dX11_lets_76 : decode cX11_lets 76 = .ok (.iload_n 2, 1) := by decide +kernel
theorem dX11_lets_77 : decode cX11_lets 77 = .ok (.iload_n 3, 1) := by decide +kernel
theorem dX11_lets_78 : decode cX11_lets 78 = .ok (.ifCond .ge 7, 3) := by decide +kernel
theorem dX11_lets_81 : decode cX11_lets 81 = .ok (.iconst 0, 1) := by decide +kernel
theorem dX11_lets_82 : decode cX11_lets 82 = .ok (.goto 4, 3) := by decide +kernel
theorem dX11_lets_85 : decode cX11_lets 85 = .ok (.iconst 1, 1) := by decide +kernel
theorem dX11_lets_86 : decode cX11_lets 86 = .ok (.iadd, 1) := by decide +kernel
theorem dX11_lets_87 : decode cX11_lets 87 = .ok (.istore_n 2, 1) := by decide +kernel
theorem dX11_lets_88 : decode cX11_lets 88 = .ok (.goto (-56), 3) := by decide +kernel
theorem dX11_lets_91 : decode cX11_lets 91 = .ok (.iload_n 2, 1) := by decide +kernel
theorem dX11_lets_92 : decode cX11_lets 92 = .ok (.ireturn, 1) := by decide +kernel
theorem dX11_judge_0 : decode cX11_judge 0 = .ok (.iload_n 1, 1) := by decide +kernel
theorem dX11_judge_1 : decode cX11_judge 1 = .ok (.invokestatic 333, 3) := by decide +kernel
theorem dX11_judge_4 : decode cX11_judge 4 = .ok (.ifCond .ne 10, 3) := by decide +kernel
theorem dX11_judge_7 : decode cX11_judge 7 = .ok (.aload_n 0, 1) := by decide +kernel
theorem dX11_judge_8 : decode cX11_judge 8 = .ok (.ldc 78, 2) := by decide +kernel
theorem dX11_judge_10 : decode cX11_judge 10 = .ok (.invokevirtual 79, 3) := by decide +kernel
theorem dX11_judge_13 : decode cX11_judge 13 = .ok (.ireturn, 1) := by decide +kernel
theorem dX11_judge_14 : decode cX11_judge 14 = .ok (.aload_n 0, 1) := by decide +kernel
theorem dX11_judge_15 : decode cX11_judge 15 = .ok (.getfield 48, 3) := by decide +kernel
theorem dX11_judge_18 : decode cX11_judge 18 = .ok (.iload_n 1, 1) := by decide +kernel
theorem dX11_judge_19 : decode cX11_judge 19 = .ok (.iaload, 1) := by decide +kernel
theorem dX11_judge_20 : decode cX11_judge 20 = .ok (.ifCond .ne 10, 3) := by decide +kernel
theorem dX11_judge_23 : decode cX11_judge 23 = .ok (.aload_n 0, 1) := by decide +kernel
theorem dX11_judge_24 : decode cX11_judge 24 = .ok (.ldc 195, 2) := by decide +kernel
theorem dX11_judge_26 : decode cX11_judge 26 = .ok (.invokevirtual 79, 3) := by decide +kernel
theorem dX11_judge_29 : decode cX11_judge 29 = .ok (.ireturn, 1) := by decide +kernel
theorem dX11_judge_30 : decode cX11_judge 30 = .ok (.iconst 0, 1) := by decide +kernel
theorem dX11_judge_31 : decode cX11_judge 31 = .ok (.istore_n 2, 1) := by decide +kernel
theorem dX11_judge_32 : decode cX11_judge 32 = .ok (.iload_n 2, 1) := by decide +kernel
theorem dX11_judge_33 : decode cX11_judge 33 = .ok (.aload_n 0, 1) := by decide +kernel
theorem dX11_judge_34 : decode cX11_judge 34 = .ok (.getfield 51, 3) := by decide +kernel
theorem dX11_judge_37 : decode cX11_judge 37 = .ok (.iload_n 1, 1) := by decide +kernel
theorem dX11_judge_38 : decode cX11_judge 38 = .ok (.iaload, 1) := by decide +kernel
theorem dX11_judge_39 : decode cX11_judge 39 = .ok (.if_icmp .ge 37, 3) := by decide +kernel
theorem dX11_judge_42 : decode cX11_judge 42 = .ok (.iload_n 2, 1) := by decide +kernel
theorem dX11_judge_43 : decode cX11_judge 43 = .ok (.aload_n 0, 1) := by decide +kernel
theorem dX11_judge_44 : decode cX11_judge 44 = .ok (.invokevirtual 67, 3) := by decide +kernel
theorem dX11_judge_47 : decode cX11_judge 47 = .ok (.if_icmp .ge 29, 3) := by decide +kernel
theorem dX11_judge_50 : decode cX11_judge 50 = .ok (.aload_n 0, 1) := by decide +kernel
theorem dX11_judge_51 : decode cX11_judge 51 = .ok (.getfield 54, 3) := by decide +kernel
theorem dX11_judge_54 : decode cX11_judge 54 = .ok (.bipush 40, 2) := by decide +kernel
theorem dX11_judge_56 : decode cX11_judge 56 = .ok (.iload_n 1, 1) := by decide +kernel
theorem dX11_judge_57 : decode cX11_judge 57 = .ok (.imul, 1) := by decide +kernel
theorem dX11_judge_58 : decode cX11_judge 58 = .ok (.iload_n 2, 1) := by decide +kernel
theorem dX11_judge_59 : decode cX11_judge 59 = .ok (.iadd, 1) := by decide +kernel
theorem dX11_judge_60 : decode cX11_judge 60 = .ok (.iaload, 1) := by decide +kernel
theorem dX11_judge_61 : decode cX11_judge 61 = .ok (.aload_n 0, 1) := by decide +kernel
theorem dX11_judge_62 : decode cX11_judge 62 = .ok (.iload_n 2, 1) := by decide +kernel
theorem dX11_judge_63 : decode cX11_judge 63 = .ok (.iconst 2, 1) := by decide +kernel
theorem dX11_judge_64 : decode cX11_judge 64 = .ok (.invokevirtual 87, 3) := by decide +kernel
theorem dX11_judge_67 : decode cX11_judge 67 = .ok (.if_icmp .ne 9, 3) := by decide +kernel
theorem dX11_judge_70 : decode cX11_judge 70 = .ok (.iinc 2 1, 3) := by decide +kernel
theorem dX11_judge_73 : decode cX11_judge 73 = .ok (.goto (-41), 3) := by decide +kernel
theorem dX11_judge_76 : decode cX11_judge 76 = .ok (.iload_n 2, 1) := by decide +kernel
theorem dX11_judge_77 : decode cX11_judge 77 = .ok (.aload_n 0, 1) := by decide +kernel
theorem dX11_judge_78 : decode cX11_judge 78 = .ok (.getfield 51, 3) := by decide +kernel
theorem dX11_judge_81 : decode cX11_judge 81 = .ok (.iload_n 1, 1) := by decide +kernel
theorem dX11_judge_82 : decode cX11_judge 82 = .ok (.iaload, 1) := by decide +kernel
theorem dX11_judge_83 : decode cX11_judge 83 = .ok (.if_icmp .ne 15, 3) := by decide +kernel
theorem dX11_judge_86 : decode cX11_judge 86 = .ok (.iload_n 2, 1) := by decide +kernel
theorem dX11_judge_87 : decode cX11_judge 87 = .ok (.aload_n 0, 1) := by decide +kernel
theorem dX11_judge_88 : decode cX11_judge 88 = .ok (.invokevirtual 67, 3) := by decide +kernel
theorem dX11_judge_91 : decode cX11_judge 91 = .ok (.if_icmp .ne 7, 3) := by decide +kernel
theorem dX11_judge_94 : decode cX11_judge 94 = .ok (.iconst (-1), 1) := by decide +kernel
theorem dX11_judge_95 : decode cX11_judge 95 = .ok (.goto 4, 3) := by decide +kernel
theorem dX11_judge_98 : decode cX11_judge 98 = .ok (.iload_n 2, 1) := by decide +kernel
theorem dX11_judge_99 : decode cX11_judge 99 = .ok (.ireturn, 1) := by decide +kernel
theorem dX11_image_0 : decode cX11_image 0 = .ok (.aload_n 0, 1) := by decide +kernel
theorem dX11_image_1 : decode cX11_image 1 = .ok (.aload_n 0, 1) := by decide +kernel
theorem dX11_image_2 : decode cX11_image 2 = .ok (.getfield 7, 3) := by decide +kernel
theorem dX11_image_5 : decode cX11_image 5 = .ok (.aload_n 0, 1) := by decide +kernel
theorem dX11_image_6 : decode cX11_image 6 = .ok (.getfield 13, 3) := by decide +kernel
theorem dX11_image_9 : decode cX11_image 9 = .ok (.invokevirtual 188, 3) := by decide +kernel
theorem dX11_image_12 : decode cX11_image 12 = .ok (.aload_n 0, 1) := by decide +kernel
theorem dX11_image_13 : decode cX11_image 13 = .ok (.iconst 1, 1) := by decide +kernel
theorem dX11_image_14 : decode cX11_image 14 = .ok (.putfield 277, 3) := by decide +kernel
theorem dX11_image_17 : decode cX11_image 17 = .ok (.aload_n 0, 1) := by decide +kernel
theorem dX11_image_18 : decode cX11_image 18 = .ok (.dup, 1) := by decide +kernel
theorem dX11_image_19 : decode cX11_image 19 = .ok (.getfield 376, 3) := by decide +kernel
theorem dX11_image_22 : decode cX11_image 22 = .ok (.iconst 1, 1) := by decide +kernel
theorem dX11_image_23 : decode cX11_image 23 = .ok (.iadd, 1) := by decide +kernel
theorem dX11_image_24 : decode cX11_image 24 = .ok (.putfield 376, 3) := by decide +kernel
theorem dX11_image_27 : decode cX11_image 27 = .ok (.aload_n 0, 1) := by decide +kernel
theorem dX11_image_28 : decode cX11_image 28 = .ok (.getfield 376, 3) := by decide +kernel
theorem dX11_image_31 : decode cX11_image 31 = .ok (.ireturn, 1) := by decide +kernel
theorem dX11_restore_0 : decode cX11_restore 0 = .ok (.aload_n 0, 1) := by decide +kernel
theorem dX11_restore_1 : decode cX11_restore 1 = .ok (.getfield 277, 3) := by decide +kernel
theorem dX11_restore_4 : decode cX11_restore 4 = .ok (.ifCond .ne 10, 3) := by decide +kernel
theorem dX11_restore_7 : decode cX11_restore 7 = .ok (.aload_n 0, 1) := by decide +kernel
theorem dX11_restore_8 : decode cX11_restore 8 = .ok (.ldc 195, 2) := by decide +kernel
theorem dX11_restore_10 : decode cX11_restore 10 = .ok (.invokevirtual 79, 3) := by decide +kernel
theorem dX11_restore_13 : decode cX11_restore 13 = .ok (.ireturn, 1) := by decide +kernel
theorem dX11_restore_14 : decode cX11_restore 14 = .ok (.aload_n 0, 1) := by decide +kernel
theorem dX11_restore_15 : decode cX11_restore 15 = .ok (.aload_n 0, 1) := by decide +kernel
theorem dX11_restore_16 : decode cX11_restore 16 = .ok (.getfield 13, 3) := by decide +kernel
theorem dX11_restore_19 : decode cX11_restore 19 = .ok (.aload_n 0, 1) := by decide +kernel
theorem dX11_restore_20 : decode cX11_restore 20 = .ok (.getfield 7, 3) := by decide +kernel
theorem dX11_restore_23 : decode cX11_restore 23 = .ok (.invokevirtual 188, 3) := by decide +kernel
theorem dX11_restore_26 : decode cX11_restore 26 = .ok (.aload_n 0, 1) := by decide +kernel
theorem dX11_restore_27 : decode cX11_restore 27 = .ok (.getfield 7, 3) := by decide +kernel
theorem dX11_restore_30 : decode cX11_restore 30 = .ok (.iconst 3, 1) := by decide +kernel
theorem dX11_restore_31 : decode cX11_restore 31 = .ok (.iaload, 1) := by decide +kernel
theorem dX11_restore_32 : decode cX11_restore 32 = .ok (.ireturn, 1) := by decide +kernel
theorem dX11_tell_0 : decode cX11_tell 0 = .ok (.aload_n 0, 1) := by decide +kernel
theorem dX11_tell_1 : decode cX11_tell 1 = .ok (.getfield 7, 3) := by decide +kernel
theorem dX11_tell_4 : decode cX11_tell 4 = .ok (.bipush 6, 2) := by decide +kernel
theorem dX11_tell_6 : decode cX11_tell 6 = .ok (.iaload, 1) := by decide +kernel
theorem dX11_tell_7 : decode cX11_tell 7 = .ok (.bipush 20, 2) := by decide +kernel
theorem dX11_tell_9 : decode cX11_tell 9 = .ok (.if_icmp .ne 11, 3) := by decide +kernel
theorem dX11_tell_12 : decode cX11_tell 12 = .ok (.aload_n 0, 1) := by decide +kernel
theorem dX11_tell_13 : decode cX11_tell 13 = .ok (.ldc_w 260, 3) := by decide +kernel
theorem dX11_tell_16 : decode cX11_tell 16 = .ok (.invokevirtual 79, 3) := by decide +kernel
theorem dX11_tell_19 : decode cX11_tell 19 = .ok (.ireturn, 1) := by decide +kernel
theorem dX11_tell_20 : decode cX11_tell 20 = .ok (.aload_n 0, 1) := by decide +kernel
theorem dX11_tell_21 : decode cX11_tell 21 = .ok (.getfield 7, 3) := by decide +kernel
theorem dX11_tell_24 : decode cX11_tell 24 = .ok (.sipush 185, 3) := by decide +kernel
theorem dX11_tell_27 : decode cX11_tell 27 = .ok (.aload_n 0, 1) := by decide +kernel
theorem dX11_tell_28 : decode cX11_tell 28 = .ok (.getfield 7, 3) := by decide +kernel
theorem dX11_tell_31 : decode cX11_tell 31 = .ok (.bipush 6, 2) := by decide +kernel
theorem dX11_tell_33 : decode cX11_tell 33 = .ok (.iaload, 1) := by decide +kernel
theorem dX11_tell_34 : decode cX11_tell 34 = .ok (.iadd, 1) := by decide +kernel
theorem dX11_tell_35 : decode cX11_tell 35 = .ok (.iload_n 1, 1) := by decide +kernel
theorem dX11_tell_36 : decode cX11_tell 36 = .ok (.iastore, 1) := by decide +kernel
theorem dX11_tell_37 : decode cX11_tell 37 = .ok (.aload_n 0, 1) := by decide +kernel
theorem dX11_tell_38 : decode cX11_tell 38 = .ok (.getfield 7, 3) := by decide +kernel
theorem dX11_tell_41 : decode cX11_tell 41 = .ok (.bipush 6, 2) := by decide +kernel
theorem dX11_tell_43 : decode cX11_tell 43 = .ok (.dup2, 1) := by decide +kernel
theorem dX11_tell_44 : decode cX11_tell 44 = .ok (.iaload, 1) := by decide +kernel
theorem dX11_tell_45 : decode cX11_tell 45 = .ok (.iconst 1, 1) := by decide +kernel
theorem dX11_tell_46 : decode cX11_tell 46 = .ok (.iadd, 1) := by decide +kernel
theorem dX11_tell_47 : decode cX11_tell 47 = .ok (.iastore, 1) := by decide +kernel
theorem dX11_tell_48 : decode cX11_tell 48 = .ok (.aload_n 0, 1) := by decide +kernel
theorem dX11_tell_49 : decode cX11_tell 49 = .ok (.getfield 7, 3) := by decide +kernel
theorem dX11_tell_52 : decode cX11_tell 52 = .ok (.bipush 6, 2) := by decide +kernel
theorem dX11_tell_54 : decode cX11_tell 54 = .ok (.iaload, 1) := by decide +kernel
theorem dX11_tell_55 : decode cX11_tell 55 = .ok (.ireturn, 1) := by decide +kernel
theorem dX11_check_0 : decode cX11_check 0 = .ok (.aload_n 0, 1) := by decide +kernel
theorem dX11_check_1 : decode cX11_check 1 = .ok (.getfield 7, 3) := by decide +kernel
theorem dX11_check_4 : decode cX11_check 4 = .ok (.bipush 6, 2) := by decide +kernel
theorem dX11_check_6 : decode cX11_check 6 = .ok (.iaload, 1) := by decide +kernel
theorem dX11_check_7 : decode cX11_check 7 = .ok (.istore_n 1, 1) := by decide +kernel
theorem dX11_check_8 : decode cX11_check 8 = .ok (.aload_n 0, 1) := by decide +kernel
theorem dX11_check_9 : decode cX11_check 9 = .ok (.getfield 7, 3) := by decide +kernel
theorem dX11_check_12 : decode cX11_check 12 = .ok (.bipush 6, 2) := by decide +kernel
theorem dX11_check_14 : decode cX11_check 14 = .ok (.iconst 0, 1) := by decide +kernel
theorem dX11_check_15 : decode cX11_check 15 = .ok (.iastore, 1) := by decide +kernel
theorem dX11_check_16 : decode cX11_check 16 = .ok (.aload_n 0, 1) := by decide +kernel
theorem dX11_check_17 : decode cX11_check 17 = .ok (.aload_n 0, 1) := by decide +kernel
theorem dX11_check_18 : decode cX11_check 18 = .ok (.getfield 7, 3) := by decide +kernel
theorem dX11_check_21 : decode cX11_check 21 = .ok (.aload_n 0, 1) := by decide +kernel
theorem dX11_check_22 : decode cX11_check 22 = .ok (.getfield 16, 3) := by decide +kernel
theorem dX11_check_25 : decode cX11_check 25 = .ok (.invokevirtual 188, 3) := by decide +kernel
theorem dX11_check_28 : decode cX11_check 28 = .ok (.iconst 0, 1) := by decide +kernel
theorem dX11_check_29 : decode cX11_check 29 = .ok (.istore_n 2, 1) := by decide +kernel
theorem dX11_check_30 : decode cX11_check 30 = .ok (.iconst 1, 1) := by decide +kernel
theorem dX11_check_31 : decode cX11_check 31 = .ok (.istore_n 3, 1) := by decide +kernel
theorem dX11_check_32 : decode cX11_check 32 = .ok (.iload_n 2, 1) := by decide +kernel
theorem dX11_check_33 : decode cX11_check 33 = .ok (.iload_n 1, 1) := by decide +kernel
theorem dX11_check_34 : decode cX11_check 34 = .ok (.if_icmp .ge 66, 3) := by decide +kernel
theorem dX11_check_37 : decode cX11_check 37 = .ok (.iload_n 3, 1) := by decide +kernel
theorem dX11_check_38 : decode cX11_check 38 = .ok (.ifCond .eq 62, 3) := by decide +kernel
theorem dX11_check_41 : decode cX11_check 41 = .ok (.aload_n 0, 1) := by decide +kernel
theorem dX11_check_42 : decode cX11_check 42 = .ok (.iload_n 2, 1) := by decide +kernel
theorem dX11_check_43 : decode cX11_check 43 = .ok (.invokevirtual 182, 3) := by decide +kernel
theorem dX11_check_46 : decode cX11_check 46 = .ok (.ifCond .eq 25, 3) := by decide +kernel
theorem dX11_check_49 : decode cX11_check 49 = .ok (.aload_n 0, 1) := by decide +kernel
theorem dX11_check_50 : decode cX11_check 50 = .ok (.iload_n 2, 1) := by decide +kernel
theorem dX11_check_51 : decode cX11_check 51 = .ok (.invokevirtual 179, 3) := by decide +kernel
theorem dX11_check_54 : decode cX11_check 54 = .ok (.aload_n 0, 1) := by decide +kernel
theorem dX11_check_55 : decode cX11_check 55 = .ok (.getfield 7, 3) := by decide +kernel
theorem dX11_check_58 : decode cX11_check 58 = .ok (.sipush 185, 3) := by decide +kernel
theorem dX11_check_61 : decode cX11_check 61 = .ok (.iload_n 2, 1) := by decide +kernel
theorem dX11_check_62 : decode cX11_check 62 = .ok (.iadd, 1) := by decide +kernel
theorem dX11_check_63 : decode cX11_check 63 = .ok (.iaload, 1) := by decide +kernel
theorem dX11_check_64 : decode cX11_check 64 = .ok (.if_icmp .ne 7, 3) := by decide +kernel
theorem dX11_check_67 : decode cX11_check 67 = .ok (.iconst 1, 1) := by decide +kernel
theorem dX11_check_68 : decode cX11_check 68 = .ok (.goto 4, 3) := by decide +kernel
theorem dX11_check_71 : decode cX11_check 71 = .ok (.iconst 0, 1) := by decide +kernel
theorem dX11_check_72 : decode cX11_check 72 = .ok (.istore_n 3, 1) := by decide +kernel
theorem dX11_check_73 : decode cX11_check 73 = .ok (.aload_n 0, 1) := by decide +kernel
theorem dX11_check_74 : decode cX11_check 74 = .ok (.aload_n 0, 1) := by decide +kernel
theorem dX11_check_75 : decode cX11_check 75 = .ok (.getfield 16, 3) := by decide +kernel
theorem dX11_check_78 : decode cX11_check 78 = .ok (.aload_n 0, 1) := by decide +kernel
theorem dX11_check_79 : decode cX11_check 79 = .ok (.getfield 7, 3) := by decide +kernel
theorem dX11_check_82 : decode cX11_check 82 = .ok (.invokevirtual 188, 3) := by decide +kernel
theorem dX11_check_85 : decode cX11_check 85 = .ok (.iload_n 2, 1) := by decide +kernel
theorem dX11_check_86 : decode cX11_check 86 = .ok (.iload_n 3, 1) := by decide +kernel
theorem dX11_check_87 : decode cX11_check 87 = .ok (.ifCond .eq 7, 3) := by decide +kernel
theorem dX11_check_90 : decode cX11_check 90 = .ok (.iconst 1, 1) := by decide +kernel
theorem dX11_check_91 : decode cX11_check 91 = .ok (.goto 4, 3) := by decide +kernel
theorem dX11_check_94 : decode cX11_check 94 = .ok (.iconst 0, 1) := by decide +kernel
theorem dX11_check_95 : decode cX11_check 95 = .ok (.iadd, 1) := by decide +kernel
theorem dX11_check_96 : decode cX11_check 96 = .ok (.istore_n 2, 1) := by decide +kernel
theorem dX11_check_97 : decode cX11_check 97 = .ok (.goto (-65), 3) := by decide +kernel
theorem dX11_check_100 : decode cX11_check 100 = .ok (.iload_n 2, 1) := by decide +kernel
theorem dX11_check_101 : decode cX11_check 101 = .ok (.iload_n 1, 1) := by decide +kernel
theorem dX11_check_102 : decode cX11_check 102 = .ok (.if_icmp .ne 7, 3) := by decide +kernel
theorem dX11_check_105 : decode cX11_check 105 = .ok (.iconst 0, 1) := by decide +kernel
theorem dX11_check_106 : decode cX11_check 106 = .ok (.goto 6, 3) := by decide +kernel
theorem dX11_check_109 : decode cX11_check 109 = .ok (.iconst 1, 1) := by decide +kernel
theorem dX11_check_110 : decode cX11_check 110 = .ok (.iload_n 2, 1) := by decide +kernel
theorem dX11_check_111 : decode cX11_check 111 = .ok (.iadd, 1) := by decide +kernel
theorem dX11_check_112 : decode cX11_check 112 = .ok (.ireturn, 1) := by decide +kernel
theorem dX11_mirrors_0 : decode cX11_mirrors 0 = .ok (.iconst 0, 1) := by decide +kernel
theorem dX11_mirrors_1 : decode cX11_mirrors 1 = .ok (.istore_n 1, 1) := by decide +kernel
theorem dX11_mirrors_2 : decode cX11_mirrors 2 = .ok (.iconst 0, 1) := by decide +kernel
theorem dX11_mirrors_3 : decode cX11_mirrors 3 = .ok (.istore_n 2, 1) := by decide +kernel
theorem dX11_mirrors_4 : decode cX11_mirrors 4 = .ok (.iload_n 2, 1) := by decide +kernel
theorem dX11_mirrors_5 : decode cX11_mirrors 5 = .ok (.aload_n 0, 1) := by decide +kernel
theorem dX11_mirrors_6 : decode cX11_mirrors 6 = .ok (.invokevirtual 67, 3) := by decide +kernel
theorem dX11_mirrors_9 : decode cX11_mirrors 9 = .ok (.if_icmp .ge 25, 3) := by decide +kernel
theorem dX11_mirrors_12 : decode cX11_mirrors 12 = .ok (.iload_n 1, 1) := by decide +kernel
theorem dX11_mirrors_13 : decode cX11_mirrors 13 = .ok (.aload_n 0, 1) := by decide +kernel
theorem dX11_mirrors_14 : decode cX11_mirrors 14 = .ok (.iload_n 2, 1) := by decide +kernel
theorem dX11_mirrors_15 : decode cX11_mirrors 15 = .ok (.invokevirtual 105, 3) := by decide +kernel
theorem dX11_mirrors_18 : decode cX11_mirrors 18 = .ok (.ifCond .eq 7, 3) := by decide +kernel
theorem dX11_mirrors_21 : decode cX11_mirrors 21 = .ok (.iconst 1, 1) := by decide +kernel
theorem dX11_mirrors_22 : decode cX11_mirrors 22 = .ok (.goto 4, 3) := by decide +kernel
theorem dX11_mirrors_25 : decode cX11_mirrors 25 = .ok (.iconst 0, 1) := by decide +kernel
theorem dX11_mirrors_26 : decode cX11_mirrors 26 = .ok (.iadd, 1) := by decide +kernel
theorem dX11_mirrors_27 : decode cX11_mirrors 27 = .ok (.istore_n 1, 1) := by decide +kernel
theorem dX11_mirrors_28 : decode cX11_mirrors 28 = .ok (.iinc 2 1, 3) := by decide +kernel
theorem dX11_mirrors_31 : decode cX11_mirrors 31 = .ok (.goto (-27), 3) := by decide +kernel
theorem dX11_mirrors_34 : decode cX11_mirrors 34 = .ok (.iload_n 1, 1) := by decide +kernel
theorem dX11_mirrors_35 : decode cX11_mirrors 35 = .ok (.ireturn, 1) := by decide +kernel
theorem dX11_litAll_0 : decode cX11_litAll 0 = .ok (.iconst 0, 1) := by decide +kernel
theorem dX11_litAll_1 : decode cX11_litAll 1 = .ok (.istore_n 1, 1) := by decide +kernel
theorem dX11_litAll_2 : decode cX11_litAll 2 = .ok (.iconst 0, 1) := by decide +kernel
theorem dX11_litAll_3 : decode cX11_litAll 3 = .ok (.istore_n 2, 1) := by decide +kernel
theorem dX11_litAll_4 : decode cX11_litAll 4 = .ok (.iload_n 2, 1) := by decide +kernel
theorem dX11_litAll_5 : decode cX11_litAll 5 = .ok (.aload_n 0, 1) := by decide +kernel
theorem dX11_litAll_6 : decode cX11_litAll 6 = .ok (.invokevirtual 67, 3) := by decide +kernel
theorem dX11_litAll_9 : decode cX11_litAll 9 = .ok (.if_icmp .ge 18, 3) := by decide +kernel
theorem dX11_litAll_12 : decode cX11_litAll 12 = .ok (.iload_n 1, 1) := by decide +kernel
theorem dX11_litAll_13 : decode cX11_litAll 13 = .ok (.aload_n 0, 1) := by decide +kernel
theorem dX11_litAll_14 : decode cX11_litAll 14 = .ok (.iload_n 2, 1) := by decide +kernel
theorem dX11_litAll_15 : decode cX11_litAll 15 = .ok (.iconst 4, 1) := by decide +kernel
theorem dX11_litAll_16 : decode cX11_litAll 16 = .ok (.invokevirtual 87, 3) := by decide +kernel
theorem dX11_litAll_19 : decode cX11_litAll 19 = .ok (.iadd, 1) := by decide +kernel
theorem dX11_litAll_20 : decode cX11_litAll 20 = .ok (.istore_n 1, 1) := by decide +kernel
theorem dX11_litAll_21 : decode cX11_litAll 21 = .ok (.iinc 2 1, 3) := by decide +kernel
theorem dX11_litAll_24 : decode cX11_litAll 24 = .ok (.goto (-20), 3) := by decide +kernel
theorem dX11_litAll_27 : decode cX11_litAll 27 = .ok (.iload_n 1, 1) := by decide +kernel
theorem dX11_litAll_28 : decode cX11_litAll 28 = .ok (.ireturn, 1) := by decide +kernel
theorem dX11_count_0 : decode cX11_count 0 = .ok (.iload_n 1, 1) := by decide +kernel
theorem dX11_count_1 : decode cX11_count 1 = .ok (.tableswitch 129 0 10 #[59, 66, 73, 78, 83, 88, 95, 102, 109, 117, 122], 59) := by decide +kernel
theorem dX11_count_60 : decode cX11_count 60 = .ok (.aload_n 0, 1) := by decide +kernel
theorem dX11_count_61 : decode cX11_count 61 = .ok (.getfield 7, 3) := by decide +kernel
theorem dX11_count_64 : decode cX11_count 64 = .ok (.iconst 0, 1) := by decide +kernel
theorem dX11_count_65 : decode cX11_count 65 = .ok (.iaload, 1) := by decide +kernel
theorem dX11_count_66 : decode cX11_count 66 = .ok (.ireturn, 1) := by decide +kernel
theorem dX11_count_67 : decode cX11_count 67 = .ok (.aload_n 0, 1) := by decide +kernel
theorem dX11_count_68 : decode cX11_count 68 = .ok (.getfield 7, 3) := by decide +kernel
theorem dX11_count_71 : decode cX11_count 71 = .ok (.iconst 1, 1) := by decide +kernel
theorem dX11_count_72 : decode cX11_count 72 = .ok (.iaload, 1) := by decide +kernel
theorem dX11_count_73 : decode cX11_count 73 = .ok (.ireturn, 1) := by decide +kernel
theorem dX11_count_74 : decode cX11_count 74 = .ok (.aload_n 0, 1) := by decide +kernel
theorem dX11_count_75 : decode cX11_count 75 = .ok (.invokevirtual 75, 3) := by decide +kernel
theorem dX11_count_78 : decode cX11_count 78 = .ok (.ireturn, 1) := by decide +kernel
theorem dX11_count_79 : decode cX11_count 79 = .ok (.aload_n 0, 1) := by decide +kernel
theorem dX11_count_80 : decode cX11_count 80 = .ok (.invokevirtual 379, 3) := by decide +kernel
theorem dX11_count_83 : decode cX11_count 83 = .ok (.ireturn, 1) := by decide +kernel
theorem dX11_count_84 : decode cX11_count 84 = .ok (.aload_n 0, 1) := by decide +kernel
theorem dX11_count_85 : decode cX11_count 85 = .ok (.invokevirtual 382, 3) := by decide +kernel
theorem dX11_count_88 : decode cX11_count 88 = .ok (.ireturn, 1) := by decide +kernel
theorem dX11_count_89 : decode cX11_count 89 = .ok (.aload_n 0, 1) := by decide +kernel
theorem dX11_count_90 : decode cX11_count 90 = .ok (.getfield 7, 3) := by decide +kernel
theorem dX11_count_93 : decode cX11_count 93 = .ok (.iconst 2, 1) := by decide +kernel
theorem dX11_count_94 : decode cX11_count 94 = .ok (.iaload, 1) := by decide +kernel
theorem dX11_count_95 : decode cX11_count 95 = .ok (.ireturn, 1) := by decide +kernel
theorem dX11_count_96 : decode cX11_count 96 = .ok (.aload_n 0, 1) := by decide +kernel
theorem dX11_count_97 : decode cX11_count 97 = .ok (.getfield 7, 3) := by decide +kernel
theorem dX11_count_100 : decode cX11_count 100 = .ok (.iconst 3, 1) := by decide +kernel
theorem dX11_count_101 : decode cX11_count 101 = .ok (.iaload, 1) := by decide +kernel
theorem dX11_count_102 : decode cX11_count 102 = .ok (.ireturn, 1) := by decide +kernel
theorem dX11_count_103 : decode cX11_count 103 = .ok (.aload_n 0, 1) := by decide +kernel
theorem dX11_count_104 : decode cX11_count 104 = .ok (.getfield 7, 3) := by decide +kernel
theorem dX11_count_107 : decode cX11_count 107 = .ok (.iconst 5, 1) := by decide +kernel
theorem dX11_count_108 : decode cX11_count 108 = .ok (.iaload, 1) := by decide +kernel
theorem dX11_count_109 : decode cX11_count 109 = .ok (.ireturn, 1) := by decide +kernel
theorem dX11_count_110 : decode cX11_count 110 = .ok (.aload_n 0, 1) := by decide +kernel
theorem dX11_count_111 : decode cX11_count 111 = .ok (.getfield 7, 3) := by decide +kernel
theorem dX11_count_114 : decode cX11_count 114 = .ok (.bipush 6, 2) := by decide +kernel
theorem dX11_count_116 : decode cX11_count 116 = .ok (.iaload, 1) := by decide +kernel
theorem dX11_count_117 : decode cX11_count 117 = .ok (.ireturn, 1) := by decide +kernel
theorem dX11_count_118 : decode cX11_count 118 = .ok (.aload_n 0, 1) := by decide +kernel
theorem dX11_count_119 : decode cX11_count 119 = .ok (.getfield 346, 3) := by decide +kernel
theorem dX11_count_122 : decode cX11_count 122 = .ok (.ireturn, 1) := by decide +kernel
theorem dX11_count_123 : decode cX11_count 123 = .ok (.aload_n 0, 1) := by decide +kernel
theorem dX11_count_124 : decode cX11_count 124 = .ok (.getfield 7, 3) := by decide +kernel
theorem dX11_count_127 : decode cX11_count 127 = .ok (.iconst 4, 1) := by decide +kernel
theorem dX11_count_128 : decode cX11_count 128 = .ok (.iaload, 1) := by decide +kernel
theorem dX11_count_129 : decode cX11_count 129 = .ok (.ireturn, 1) := by decide +kernel
theorem dX11_count_130 : decode cX11_count 130 = .ok (.aload_n 0, 1) := by decide +kernel
theorem dX11_count_131 : decode cX11_count 131 = .ok (.ldc 78, 2) := by decide +kernel
theorem dX11_count_133 : decode cX11_count 133 = .ok (.invokevirtual 79, 3) := by decide +kernel
theorem dX11_count_136 : decode cX11_count 136 = .ok (.ireturn, 1) := by decide +kernel
theorem dX11_told_0 : decode cX11_told 0 = .ok (.iload_n 1, 1) := by decide +kernel
theorem dX11_told_1 : decode cX11_told 1 = .ok (.iconst 1, 1) := by decide +kernel
theorem dX11_told_2 : decode cX11_told 2 = .ok (.iconst 5, 1) := by decide +kernel
theorem dX11_told_3 : decode cX11_told 3 = .ok (.invokestatic 71, 3) := by decide +kernel
theorem dX11_told_6 : decode cX11_told 6 = .ok (.ifCond .eq 12, 3) := by decide +kernel
theorem dX11_told_9 : decode cX11_told 9 = .ok (.aload_n 0, 1) := by decide +kernel
theorem dX11_told_10 : decode cX11_told 10 = .ok (.getfield 22, 3) := by decide +kernel
theorem dX11_told_13 : decode cX11_told 13 = .ok (.iload_n 1, 1) := by decide +kernel
theorem dX11_told_14 : decode cX11_told 14 = .ok (.iaload, 1) := by decide +kernel
theorem dX11_told_15 : decode cX11_told 15 = .ok (.goto 9, 3) := by decide +kernel
theorem dX11_told_18 : decode cX11_told 18 = .ok (.aload_n 0, 1) := by decide +kernel
theorem dX11_told_19 : decode cX11_told 19 = .ok (.ldc 78, 2) := by decide +kernel
theorem dX11_told_21 : decode cX11_told 21 = .ok (.invokevirtual 79, 3) := by decide +kernel
theorem dX11_told_24 : decode cX11_told 24 = .ok (.ireturn, 1) := by decide +kernel
end
section
theorem dL_law_0 : decode cL_law 0 = .ok (.new 7, 3) := by decide +kernel
theorem dL_law_3 : decode cL_law 3 = .ok (.dup, 1) := by decide +kernel
theorem dL_law_4 : decode cL_law 4 = .ok (.invokespecial 9, 3) := by decide +kernel
theorem dL_law_7 : decode cL_law 7 = .ok (.astore_n 1, 1) := by decide +kernel
theorem dL_law_8 : decode cL_law 8 = .ok (.new 10, 3) := by decide +kernel
theorem dL_law_11 : decode cL_law 11 = .ok (.dup, 1) := by decide +kernel
theorem dL_law_12 : decode cL_law 12 = .ok (.invokespecial 12, 3) := by decide +kernel
theorem dL_law_15 : decode cL_law 15 = .ok (.astore_n 2, 1) := by decide +kernel
theorem dL_law_16 : decode cL_law 16 = .ok (.iconst 0, 1) := by decide +kernel
theorem dL_law_17 : decode cL_law 17 = .ok (.istore_n 3, 1) := by decide +kernel
theorem dL_law_18 : decode cL_law 18 = .ok (.iload_n 3, 1) := by decide +kernel
theorem dL_law_19 : decode cL_law 19 = .ok (.aload_n 0, 1) := by decide +kernel
theorem dL_law_20 : decode cL_law 20 = .ok (.arraylength, 1) := by decide +kernel
theorem dL_law_21 : decode cL_law 21 = .ok (.bipush 6, 2) := by decide +kernel
theorem dL_law_23 : decode cL_law 23 = .ok (.isub, 1) := by decide +kernel
theorem dL_law_24 : decode cL_law 24 = .ok (.if_icmp .gt 1273, 3) := by decide +kernel
theorem dL_law_27 : decode cL_law 27 = .ok (.aload_n 0, 1) := by decide +kernel
theorem dL_law_28 : decode cL_law 28 = .ok (.iload_n 3, 1) := by decide +kernel
theorem dL_law_29 : decode cL_law 29 = .ok (.iaload, 1) := by decide +kernel
theorem dL_law_30 : decode cL_law 30 = .ok (.bipush 63, 2) := by decide +kernel
theorem dL_law_32 : decode cL_law 32 = .ok (.iand, 1) := by decide +kernel
theorem dL_law_33 : decode cL_law 33 = .ok (.tableswitch 1258 0 35 #[159, 192, 235, 268, 301, 324, 337, 360, 393, 426, 449, 512, 535, 588, 611, 634, 677, 690, 744, 777, 820, 843, 866, 889, 932, 955, 998, 1041, 1104, 1127, 1150, 1163, 1176, 1199, 1212, 1235], 159) := by decide +kernel
theorem dL_law_192 : decode cL_law 192 = .ok (.aload_n 1, 1) := by decide +kernel
theorem dL_law_193 : decode cL_law 193 = .ok (.aload_n 0, 1) := by decide +kernel
theorem dL_law_194 : decode cL_law 194 = .ok (.iload_n 3, 1) := by decide +kernel
theorem dL_law_195 : decode cL_law 195 = .ok (.iconst 1, 1) := by decide +kernel
theorem dL_law_196 : decode cL_law 196 = .ok (.iadd, 1) := by decide +kernel
theorem dL_law_197 : decode cL_law 197 = .ok (.iaload, 1) := by decide +kernel
theorem dL_law_198 : decode cL_law 198 = .ok (.aload_n 0, 1) := by decide +kernel
theorem dL_law_199 : decode cL_law 199 = .ok (.iload_n 3, 1) := by decide +kernel
theorem dL_law_200 : decode cL_law 200 = .ok (.iconst 2, 1) := by decide +kernel
theorem dL_law_201 : decode cL_law 201 = .ok (.iadd, 1) := by decide +kernel
theorem dL_law_202 : decode cL_law 202 = .ok (.iaload, 1) := by decide +kernel
theorem dL_law_203 : decode cL_law 203 = .ok (.invokevirtual 13, 3) := by decide +kernel
theorem dL_law_206 : decode cL_law 206 = .ok (.aload_n 2, 1) := by decide +kernel
theorem dL_law_207 : decode cL_law 207 = .ok (.aload_n 0, 1) := by decide +kernel
theorem dL_law_208 : decode cL_law 208 = .ok (.iload_n 3, 1) := by decide +kernel
theorem dL_law_209 : decode cL_law 209 = .ok (.iconst 1, 1) := by decide +kernel
theorem dL_law_210 : decode cL_law 210 = .ok (.iadd, 1) := by decide +kernel
theorem dL_law_211 : decode cL_law 211 = .ok (.iaload, 1) := by decide +kernel
theorem dL_law_212 : decode cL_law 212 = .ok (.aload_n 0, 1) := by decide +kernel
theorem dL_law_213 : decode cL_law 213 = .ok (.iload_n 3, 1) := by decide +kernel
theorem dL_law_214 : decode cL_law 214 = .ok (.iconst 2, 1) := by decide +kernel
theorem dL_law_215 : decode cL_law 215 = .ok (.iadd, 1) := by decide +kernel
theorem dL_law_216 : decode cL_law 216 = .ok (.iaload, 1) := by decide +kernel
theorem dL_law_217 : decode cL_law 217 = .ok (.invokevirtual 17, 3) := by decide +kernel
theorem dL_law_220 : decode cL_law 220 = .ok (.if_icmp .eq 1071, 3) := by decide +kernel
theorem dL_law_223 : decode cL_law 223 = .ok (.iconst 0, 1) := by decide +kernel
theorem dL_law_224 : decode cL_law 224 = .ok (.ireturn, 1) := by decide +kernel
theorem dL_law_225 : decode cL_law 225 = .ok (.aload_n 1, 1) := by decide +kernel
theorem dL_law_226 : decode cL_law 226 = .ok (.aload_n 0, 1) := by decide +kernel
theorem dL_law_227 : decode cL_law 227 = .ok (.iload_n 3, 1) := by decide +kernel
theorem dL_law_228 : decode cL_law 228 = .ok (.iconst 1, 1) := by decide +kernel
theorem dL_law_229 : decode cL_law 229 = .ok (.iadd, 1) := by decide +kernel
theorem dL_law_230 : decode cL_law 230 = .ok (.iaload, 1) := by decide +kernel
theorem dL_law_231 : decode cL_law 231 = .ok (.aload_n 0, 1) := by decide +kernel
theorem dL_law_232 : decode cL_law 232 = .ok (.iload_n 3, 1) := by decide +kernel
theorem dL_law_233 : decode cL_law 233 = .ok (.iconst 2, 1) := by decide +kernel
theorem dL_law_234 : decode cL_law 234 = .ok (.iadd, 1) := by decide +kernel
theorem dL_law_235 : decode cL_law 235 = .ok (.iaload, 1) := by decide +kernel
theorem dL_law_236 : decode cL_law 236 = .ok (.aload_n 0, 1) := by decide +kernel
theorem dL_law_237 : decode cL_law 237 = .ok (.iload_n 3, 1) := by decide +kernel
theorem dL_law_238 : decode cL_law 238 = .ok (.iconst 3, 1) := by decide +kernel
theorem dL_law_239 : decode cL_law 239 = .ok (.iadd, 1) := by decide +kernel
theorem dL_law_240 : decode cL_law 240 = .ok (.iaload, 1) := by decide +kernel
theorem dL_law_241 : decode cL_law 241 = .ok (.invokevirtual 18, 3) := by decide +kernel
theorem dL_law_244 : decode cL_law 244 = .ok (.aload_n 2, 1) := by decide +kernel
theorem dL_law_245 : decode cL_law 245 = .ok (.aload_n 0, 1) := by decide +kernel
theorem dL_law_246 : decode cL_law 246 = .ok (.iload_n 3, 1) := by decide +kernel
theorem dL_law_247 : decode cL_law 247 = .ok (.iconst 1, 1) := by decide +kernel
theorem dL_law_248 : decode cL_law 248 = .ok (.iadd, 1) := by decide +kernel
theorem dL_law_249 : decode cL_law 249 = .ok (.iaload, 1) := by decide +kernel
theorem dL_law_250 : decode cL_law 250 = .ok (.aload_n 0, 1) := by decide +kernel
theorem dL_law_251 : decode cL_law 251 = .ok (.iload_n 3, 1) := by decide +kernel
theorem dL_law_252 : decode cL_law 252 = .ok (.iconst 2, 1) := by decide +kernel
theorem dL_law_253 : decode cL_law 253 = .ok (.iadd, 1) := by decide +kernel
theorem dL_law_254 : decode cL_law 254 = .ok (.iaload, 1) := by decide +kernel
theorem dL_law_255 : decode cL_law 255 = .ok (.aload_n 0, 1) := by decide +kernel
theorem dL_law_256 : decode cL_law 256 = .ok (.iload_n 3, 1) := by decide +kernel
theorem dL_law_257 : decode cL_law 257 = .ok (.iconst 3, 1) := by decide +kernel
theorem dL_law_258 : decode cL_law 258 = .ok (.iadd, 1) := by decide +kernel
theorem dL_law_259 : decode cL_law 259 = .ok (.iaload, 1) := by decide +kernel
theorem dL_law_260 : decode cL_law 260 = .ok (.invokevirtual 22, 3) := by decide +kernel
theorem dL_law_263 : decode cL_law 263 = .ok (.if_icmp .eq 1028, 3) := by decide +kernel
theorem dL_law_266 : decode cL_law 266 = .ok (.iconst 0, 1) := by decide +kernel
theorem dL_law_267 : decode cL_law 267 = .ok (.ireturn, 1) := by decide +kernel
theorem dL_law_268 : decode cL_law 268 = .ok (.aload_n 1, 1) := by decide +kernel
theorem dL_law_269 : decode cL_law 269 = .ok (.aload_n 0, 1) := by decide +kernel
theorem dL_law_270 : decode cL_law 270 = .ok (.iload_n 3, 1) := by decide +kernel
theorem dL_law_271 : decode cL_law 271 = .ok (.iconst 1, 1) := by decide +kernel
theorem dL_law_272 : decode cL_law 272 = .ok (.iadd, 1) := by decide +kernel
theorem dL_law_273 : decode cL_law 273 = .ok (.iaload, 1) := by decide +kernel
theorem dL_law_274 : decode cL_law 274 = .ok (.aload_n 0, 1) := by decide +kernel
theorem dL_law_275 : decode cL_law 275 = .ok (.iload_n 3, 1) := by decide +kernel
theorem dL_law_276 : decode cL_law 276 = .ok (.iconst 2, 1) := by decide +kernel
theorem dL_law_277 : decode cL_law 277 = .ok (.iadd, 1) := by decide +kernel
theorem dL_law_278 : decode cL_law 278 = .ok (.iaload, 1) := by decide +kernel
theorem dL_law_279 : decode cL_law 279 = .ok (.invokevirtual 23, 3) := by decide +kernel
theorem dL_law_282 : decode cL_law 282 = .ok (.aload_n 2, 1) := by decide +kernel
theorem dL_law_283 : decode cL_law 283 = .ok (.aload_n 0, 1) := by decide +kernel
theorem dL_law_284 : decode cL_law 284 = .ok (.iload_n 3, 1) := by decide +kernel
theorem dL_law_285 : decode cL_law 285 = .ok (.iconst 1, 1) := by decide +kernel
theorem dL_law_286 : decode cL_law 286 = .ok (.iadd, 1) := by decide +kernel
theorem dL_law_287 : decode cL_law 287 = .ok (.iaload, 1) := by decide +kernel
theorem dL_law_288 : decode cL_law 288 = .ok (.aload_n 0, 1) := by decide +kernel
theorem dL_law_289 : decode cL_law 289 = .ok (.iload_n 3, 1) := by decide +kernel
theorem dL_law_290 : decode cL_law 290 = .ok (.iconst 2, 1) := by decide +kernel
theorem dL_law_291 : decode cL_law 291 = .ok (.iadd, 1) := by decide +kernel
theorem dL_law_292 : decode cL_law 292 = .ok (.iaload, 1) := by decide +kernel
theorem dL_law_293 : decode cL_law 293 = .ok (.invokevirtual 26, 3) := by decide +kernel
theorem dL_law_296 : decode cL_law 296 = .ok (.if_icmp .eq 995, 3) := by decide +kernel
theorem dL_law_299 : decode cL_law 299 = .ok (.iconst 0, 1) := by decide +kernel
theorem dL_law_300 : decode cL_law 300 = .ok (.ireturn, 1) := by decide +kernel
theorem dL_law_301 : decode cL_law 301 = .ok (.aload_n 1, 1) := by decide +kernel
theorem dL_law_302 : decode cL_law 302 = .ok (.aload_n 0, 1) := by decide +kernel
theorem dL_law_303 : decode cL_law 303 = .ok (.iload_n 3, 1) := by decide +kernel
theorem dL_law_304 : decode cL_law 304 = .ok (.iconst 1, 1) := by decide +kernel
theorem dL_law_305 : decode cL_law 305 = .ok (.iadd, 1) := by decide +kernel
theorem dL_law_306 : decode cL_law 306 = .ok (.iaload, 1) := by decide +kernel
theorem dL_law_307 : decode cL_law 307 = .ok (.aload_n 0, 1) := by decide +kernel
theorem dL_law_308 : decode cL_law 308 = .ok (.iload_n 3, 1) := by decide +kernel
theorem dL_law_309 : decode cL_law 309 = .ok (.iconst 2, 1) := by decide +kernel
theorem dL_law_310 : decode cL_law 310 = .ok (.iadd, 1) := by decide +kernel
theorem dL_law_311 : decode cL_law 311 = .ok (.iaload, 1) := by decide +kernel
theorem dL_law_312 : decode cL_law 312 = .ok (.invokevirtual 27, 3) := by decide +kernel
theorem dL_law_315 : decode cL_law 315 = .ok (.aload_n 2, 1) := by decide +kernel
theorem dL_law_316 : decode cL_law 316 = .ok (.aload_n 0, 1) := by decide +kernel
theorem dL_law_317 : decode cL_law 317 = .ok (.iload_n 3, 1) := by decide +kernel
theorem dL_law_318 : decode cL_law 318 = .ok (.iconst 1, 1) := by decide +kernel
theorem dL_law_319 : decode cL_law 319 = .ok (.iadd, 1) := by decide +kernel
theorem dL_law_320 : decode cL_law 320 = .ok (.iaload, 1) := by decide +kernel
theorem dL_law_321 : decode cL_law 321 = .ok (.aload_n 0, 1) := by decide +kernel
theorem dL_law_322 : decode cL_law 322 = .ok (.iload_n 3, 1) := by decide +kernel
theorem dL_law_323 : decode cL_law 323 = .ok (.iconst 2, 1) := by decide +kernel
theorem dL_law_324 : decode cL_law 324 = .ok (.iadd, 1) := by decide +kernel
theorem dL_law_325 : decode cL_law 325 = .ok (.iaload, 1) := by decide +kernel
theorem dL_law_326 : decode cL_law 326 = .ok (.invokevirtual 30, 3) := by decide +kernel
theorem dL_law_329 : decode cL_law 329 = .ok (.if_icmp .eq 962, 3) := by decide +kernel
theorem dL_law_332 : decode cL_law 332 = .ok (.iconst 0, 1) := by decide +kernel
theorem dL_law_333 : decode cL_law 333 = .ok (.ireturn, 1) := by decide +kernel
theorem dL_law_334 : decode cL_law 334 = .ok (.aload_n 1, 1) := by decide +kernel
theorem dL_law_335 : decode cL_law 335 = .ok (.aload_n 0, 1) := by decide +kernel
theorem dL_law_336 : decode cL_law 336 = .ok (.iload_n 3, 1) := by decide +kernel
theorem dL_law_337 : decode cL_law 337 = .ok (.iconst 1, 1) := by decide +kernel
theorem dL_law_338 : decode cL_law 338 = .ok (.iadd, 1) := by decide +kernel
theorem dL_law_339 : decode cL_law 339 = .ok (.iaload, 1) := by decide +kernel
theorem dL_law_340 : decode cL_law 340 = .ok (.invokevirtual 31, 3) := by decide +kernel
theorem dL_law_343 : decode cL_law 343 = .ok (.aload_n 2, 1) := by decide +kernel
theorem dL_law_344 : decode cL_law 344 = .ok (.aload_n 0, 1) := by decide +kernel
theorem dL_law_345 : decode cL_law 345 = .ok (.iload_n 3, 1) := by decide +kernel
theorem dL_law_346 : decode cL_law 346 = .ok (.iconst 1, 1) := by decide +kernel
theorem dL_law_347 : decode cL_law 347 = .ok (.iadd, 1) := by decide +kernel
theorem dL_law_348 : decode cL_law 348 = .ok (.iaload, 1) := by decide +kernel
theorem dL_law_349 : decode cL_law 349 = .ok (.invokevirtual 35, 3) := by decide +kernel
theorem dL_law_352 : decode cL_law 352 = .ok (.if_icmp .eq 939, 3) := by decide +kernel
theorem dL_law_355 : decode cL_law 355 = .ok (.iconst 0, 1) := by decide +kernel
theorem dL_law_356 : decode cL_law 356 = .ok (.ireturn, 1) := by decide +kernel
theorem dL_law_357 : decode cL_law 357 = .ok (.aload_n 1, 1) := by decide +kernel
theorem dL_law_358 : decode cL_law 358 = .ok (.invokevirtual 36, 3) := by decide +kernel
theorem dL_law_361 : decode cL_law 361 = .ok (.aload_n 2, 1) := by decide +kernel
theorem dL_law_362 : decode cL_law 362 = .ok (.invokevirtual 40, 3) := by decide +kernel
theorem dL_law_365 : decode cL_law 365 = .ok (.if_icmp .eq 926, 3) := by decide +kernel
theorem dL_law_368 : decode cL_law 368 = .ok (.iconst 0, 1) := by decide +kernel
theorem dL_law_369 : decode cL_law 369 = .ok (.ireturn, 1) := by decide +kernel
theorem dL_law_370 : decode cL_law 370 = .ok (.aload_n 1, 1) := by decide +kernel
theorem dL_law_371 : decode cL_law 371 = .ok (.aload_n 0, 1) := by decide +kernel
theorem dL_law_372 : decode cL_law 372 = .ok (.iload_n 3, 1) := by decide +kernel
theorem dL_law_373 : decode cL_law 373 = .ok (.iconst 1, 1) := by decide +kernel
theorem dL_law_374 : decode cL_law 374 = .ok (.iadd, 1) := by decide +kernel
theorem dL_law_375 : decode cL_law 375 = .ok (.iaload, 1) := by decide +kernel
theorem dL_law_376 : decode cL_law 376 = .ok (.invokevirtual 41, 3) := by decide +kernel
theorem dL_law_379 : decode cL_law 379 = .ok (.aload_n 2, 1) := by decide +kernel
theorem dL_law_380 : decode cL_law 380 = .ok (.aload_n 0, 1) := by decide +kernel
theorem dL_law_381 : decode cL_law 381 = .ok (.iload_n 3, 1) := by decide +kernel
theorem dL_law_382 : decode cL_law 382 = .ok (.iconst 1, 1) := by decide +kernel
theorem dL_law_383 : decode cL_law 383 = .ok (.iadd, 1) := by decide +kernel
theorem dL_law_384 : decode cL_law 384 = .ok (.iaload, 1) := by decide +kernel
theorem dL_law_385 : decode cL_law 385 = .ok (.invokevirtual 44, 3) := by decide +kernel
theorem dL_law_388 : decode cL_law 388 = .ok (.if_icmp .eq 903, 3) := by decide +kernel
theorem dL_law_391 : decode cL_law 391 = .ok (.iconst 0, 1) := by decide +kernel
theorem dL_law_392 : decode cL_law 392 = .ok (.ireturn, 1) := by decide +kernel
theorem dL_law_393 : decode cL_law 393 = .ok (.aload_n 1, 1) := by decide +kernel
theorem dL_law_394 : decode cL_law 394 = .ok (.aload_n 0, 1) := by decide +kernel
theorem dL_law_395 : decode cL_law 395 = .ok (.iload_n 3, 1) := by decide +kernel
theorem dL_law_396 : decode cL_law 396 = .ok (.iconst 1, 1) := by decide +kernel
theorem dL_law_397 : decode cL_law 397 = .ok (.iadd, 1) := by decide +kernel
theorem dL_law_398 : decode cL_law 398 = .ok (.iaload, 1) := by decide +kernel
theorem dL_law_399 : decode cL_law 399 = .ok (.aload_n 0, 1) := by decide +kernel
theorem dL_law_400 : decode cL_law 400 = .ok (.iload_n 3, 1) := by decide +kernel
theorem dL_law_401 : decode cL_law 401 = .ok (.iconst 2, 1) := by decide +kernel
theorem dL_law_402 : decode cL_law 402 = .ok (.iadd, 1) := by decide +kernel
theorem dL_law_403 : decode cL_law 403 = .ok (.iaload, 1) := by decide +kernel
theorem dL_law_404 : decode cL_law 404 = .ok (.invokevirtual 45, 3) := by decide +kernel
theorem dL_law_407 : decode cL_law 407 = .ok (.aload_n 2, 1) := by decide +kernel
theorem dL_law_408 : decode cL_law 408 = .ok (.aload_n 0, 1) := by decide +kernel
theorem dL_law_409 : decode cL_law 409 = .ok (.iload_n 3, 1) := by decide +kernel
theorem dL_law_410 : decode cL_law 410 = .ok (.iconst 1, 1) := by decide +kernel
theorem dL_law_411 : decode cL_law 411 = .ok (.iadd, 1) := by decide +kernel
theorem dL_law_412 : decode cL_law 412 = .ok (.iaload, 1) := by decide +kernel
theorem dL_law_413 : decode cL_law 413 = .ok (.aload_n 0, 1) := by decide +kernel
theorem dL_law_414 : decode cL_law 414 = .ok (.iload_n 3, 1) := by decide +kernel
theorem dL_law_415 : decode cL_law 415 = .ok (.iconst 2, 1) := by decide +kernel
theorem dL_law_416 : decode cL_law 416 = .ok (.iadd, 1) := by decide +kernel
theorem dL_law_417 : decode cL_law 417 = .ok (.iaload, 1) := by decide +kernel
theorem dL_law_418 : decode cL_law 418 = .ok (.invokevirtual 48, 3) := by decide +kernel
theorem dL_law_421 : decode cL_law 421 = .ok (.if_icmp .eq 870, 3) := by decide +kernel
theorem dL_law_424 : decode cL_law 424 = .ok (.iconst 0, 1) := by decide +kernel
theorem dL_law_425 : decode cL_law 425 = .ok (.ireturn, 1) := by decide +kernel
theorem dL_law_426 : decode cL_law 426 = .ok (.aload_n 1, 1) := by decide +kernel
theorem dL_law_427 : decode cL_law 427 = .ok (.aload_n 0, 1) := by decide +kernel
theorem dL_law_428 : decode cL_law 428 = .ok (.iload_n 3, 1) := by decide +kernel
theorem dL_law_429 : decode cL_law 429 = .ok (.iconst 1, 1) := by decide +kernel
theorem dL_law_430 : decode cL_law 430 = .ok (.iadd, 1) := by decide +kernel
theorem dL_law_431 : decode cL_law 431 = .ok (.iaload, 1) := by decide +kernel
theorem dL_law_432 : decode cL_law 432 = .ok (.aload_n 0, 1) := by decide +kernel
theorem dL_law_433 : decode cL_law 433 = .ok (.iload_n 3, 1) := by decide +kernel
theorem dL_law_434 : decode cL_law 434 = .ok (.iconst 2, 1) := by decide +kernel
theorem dL_law_435 : decode cL_law 435 = .ok (.iadd, 1) := by decide +kernel
theorem dL_law_436 : decode cL_law 436 = .ok (.iaload, 1) := by decide +kernel
theorem dL_law_437 : decode cL_law 437 = .ok (.invokevirtual 49, 3) := by decide +kernel
theorem dL_law_440 : decode cL_law 440 = .ok (.aload_n 2, 1) := by decide +kernel
theorem dL_law_441 : decode cL_law 441 = .ok (.aload_n 0, 1) := by decide +kernel
theorem dL_law_442 : decode cL_law 442 = .ok (.iload_n 3, 1) := by decide +kernel
theorem dL_law_443 : decode cL_law 443 = .ok (.iconst 1, 1) := by decide +kernel
theorem dL_law_444 : decode cL_law 444 = .ok (.iadd, 1) := by decide +kernel
theorem dL_law_445 : decode cL_law 445 = .ok (.iaload, 1) := by decide +kernel
theorem dL_law_446 : decode cL_law 446 = .ok (.aload_n 0, 1) := by decide +kernel
theorem dL_law_447 : decode cL_law 447 = .ok (.iload_n 3, 1) := by decide +kernel
theorem dL_law_448 : decode cL_law 448 = .ok (.iconst 2, 1) := by decide +kernel
theorem dL_law_449 : decode cL_law 449 = .ok (.iadd, 1) := by decide +kernel
theorem dL_law_450 : decode cL_law 450 = .ok (.iaload, 1) := by decide +kernel
theorem dL_law_451 : decode cL_law 451 = .ok (.invokevirtual 52, 3) := by decide +kernel
theorem dL_law_454 : decode cL_law 454 = .ok (.if_icmp .eq 837, 3) := by decide +kernel
theorem dL_law_457 : decode cL_law 457 = .ok (.iconst 0, 1) := by decide +kernel
theorem dL_law_458 : decode cL_law 458 = .ok (.ireturn, 1) := by decide +kernel
theorem dL_law_459 : decode cL_law 459 = .ok (.aload_n 1, 1) := by decide +kernel
theorem dL_law_460 : decode cL_law 460 = .ok (.aload_n 0, 1) := by decide +kernel
theorem dL_law_461 : decode cL_law 461 = .ok (.iload_n 3, 1) := by decide +kernel
theorem dL_law_462 : decode cL_law 462 = .ok (.iconst 1, 1) := by decide +kernel
theorem dL_law_463 : decode cL_law 463 = .ok (.iadd, 1) := by decide +kernel
theorem dL_law_464 : decode cL_law 464 = .ok (.iaload, 1) := by decide +kernel
theorem dL_law_465 : decode cL_law 465 = .ok (.invokevirtual 53, 3) := by decide +kernel
theorem dL_law_468 : decode cL_law 468 = .ok (.aload_n 2, 1) := by decide +kernel
theorem dL_law_469 : decode cL_law 469 = .ok (.aload_n 0, 1) := by decide +kernel
theorem dL_law_470 : decode cL_law 470 = .ok (.iload_n 3, 1) := by decide +kernel
theorem dL_law_471 : decode cL_law 471 = .ok (.iconst 1, 1) := by decide +kernel
theorem dL_law_472 : decode cL_law 472 = .ok (.iadd, 1) := by decide +kernel
theorem dL_law_473 : decode cL_law 473 = .ok (.iaload, 1) := by decide +kernel
theorem dL_law_474 : decode cL_law 474 = .ok (.invokevirtual 56, 3) := by decide +kernel
theorem dL_law_477 : decode cL_law 477 = .ok (.if_icmp .eq 814, 3) := by decide +kernel
theorem dL_law_480 : decode cL_law 480 = .ok (.iconst 0, 1) := by decide +kernel
theorem dL_law_481 : decode cL_law 481 = .ok (.ireturn, 1) := by decide +kernel
theorem dL_law_482 : decode cL_law 482 = .ok (.aload_n 1, 1) := by decide +kernel
theorem dL_law_483 : decode cL_law 483 = .ok (.aload_n 0, 1) := by decide +kernel
theorem dL_law_484 : decode cL_law 484 = .ok (.iload_n 3, 1) := by decide +kernel
theorem dL_law_485 : decode cL_law 485 = .ok (.iconst 1, 1) := by decide +kernel
theorem dL_law_486 : decode cL_law 486 = .ok (.iadd, 1) := by decide +kernel
theorem dL_law_487 : decode cL_law 487 = .ok (.iaload, 1) := by decide +kernel
theorem dL_law_488 : decode cL_law 488 = .ok (.i2l, 1) := by decide +kernel
theorem dL_law_489 : decode cL_law 489 = .ok (.bipush 32, 2) := by decide +kernel
theorem dL_law_491 : decode cL_law 491 = .ok (.lshl, 1) := by decide +kernel
theorem dL_law_492 : decode cL_law 492 = .ok (.aload_n 0, 1) := by decide +kernel
theorem dL_law_493 : decode cL_law 493 = .ok (.iload_n 3, 1) := by decide +kernel
theorem dL_law_494 : decode cL_law 494 = .ok (.iconst 2, 1) := by decide +kernel
theorem dL_law_495 : decode cL_law 495 = .ok (.iadd, 1) := by decide +kernel
theorem dL_law_496 : decode cL_law 496 = .ok (.iaload, 1) := by decide +kernel
theorem dL_law_497 : decode cL_law 497 = .ok (.i2l, 1) := by decide +kernel
theorem dL_law_498 : decode cL_law 498 = .ok (.ldc2_w 57, 3) := by decide +kernel
theorem dL_law_501 : decode cL_law 501 = .ok (.land, 1) := by decide +kernel
theorem dL_law_502 : decode cL_law 502 = .ok (.lor, 1) := by decide +kernel
theorem dL_law_503 : decode cL_law 503 = .ok (.aload_n 0, 1) := by decide +kernel
theorem dL_law_504 : decode cL_law 504 = .ok (.iload_n 3, 1) := by decide +kernel
theorem dL_law_505 : decode cL_law 505 = .ok (.iconst 3, 1) := by decide +kernel
theorem dL_law_506 : decode cL_law 506 = .ok (.iadd, 1) := by decide +kernel
theorem dL_law_507 : decode cL_law 507 = .ok (.iaload, 1) := by decide +kernel
theorem dL_law_508 : decode cL_law 508 = .ok (.invokevirtual 59, 3) := by decide +kernel
theorem dL_law_511 : decode cL_law 511 = .ok (.aload_n 2, 1) := by decide +kernel
theorem dL_law_512 : decode cL_law 512 = .ok (.aload_n 0, 1) := by decide +kernel
theorem dL_law_513 : decode cL_law 513 = .ok (.iload_n 3, 1) := by decide +kernel
theorem dL_law_514 : decode cL_law 514 = .ok (.iconst 1, 1) := by decide +kernel
theorem dL_law_515 : decode cL_law 515 = .ok (.iadd, 1) := by decide +kernel
theorem dL_law_516 : decode cL_law 516 = .ok (.iaload, 1) := by decide +kernel
theorem dL_law_517 : decode cL_law 517 = .ok (.i2l, 1) := by decide +kernel
theorem dL_law_518 : decode cL_law 518 = .ok (.bipush 32, 2) := by decide +kernel
theorem dL_law_520 : decode cL_law 520 = .ok (.lshl, 1) := by decide +kernel
theorem dL_law_521 : decode cL_law 521 = .ok (.aload_n 0, 1) := by decide +kernel
theorem dL_law_522 : decode cL_law 522 = .ok (.iload_n 3, 1) := by decide +kernel
theorem dL_law_523 : decode cL_law 523 = .ok (.iconst 2, 1) := by decide +kernel
theorem dL_law_524 : decode cL_law 524 = .ok (.iadd, 1) := by decide +kernel
theorem dL_law_525 : decode cL_law 525 = .ok (.iaload, 1) := by decide +kernel
theorem dL_law_526 : decode cL_law 526 = .ok (.i2l, 1) := by decide +kernel
theorem dL_law_527 : decode cL_law 527 = .ok (.ldc2_w 57, 3) := by decide +kernel
theorem dL_law_530 : decode cL_law 530 = .ok (.land, 1) := by decide +kernel
theorem dL_law_531 : decode cL_law 531 = .ok (.lor, 1) := by decide +kernel
theorem dL_law_532 : decode cL_law 532 = .ok (.aload_n 0, 1) := by decide +kernel
theorem dL_law_533 : decode cL_law 533 = .ok (.iload_n 3, 1) := by decide +kernel
theorem dL_law_534 : decode cL_law 534 = .ok (.iconst 3, 1) := by decide +kernel
theorem dL_law_535 : decode cL_law 535 = .ok (.iadd, 1) := by decide +kernel
theorem dL_law_536 : decode cL_law 536 = .ok (.iaload, 1) := by decide +kernel
theorem dL_law_537 : decode cL_law 537 = .ok (.invokevirtual 63, 3) := by decide +kernel
theorem dL_law_540 : decode cL_law 540 = .ok (.if_icmp .eq 751, 3) := by decide +kernel
theorem dL_law_543 : decode cL_law 543 = .ok (.iconst 0, 1) := by decide +kernel
theorem dL_law_544 : decode cL_law 544 = .ok (.ireturn, 1) := by decide +kernel
theorem dL_law_545 : decode cL_law 545 = .ok (.aload_n 1, 1) := by decide +kernel
theorem dL_law_546 : decode cL_law 546 = .ok (.aload_n 0, 1) := by decide +kernel
theorem dL_law_547 : decode cL_law 547 = .ok (.iload_n 3, 1) := by decide +kernel
theorem dL_law_548 : decode cL_law 548 = .ok (.iconst 1, 1) := by decide +kernel
theorem dL_law_549 : decode cL_law 549 = .ok (.iadd, 1) := by decide +kernel
theorem dL_law_550 : decode cL_law 550 = .ok (.iaload, 1) := by decide +kernel
theorem dL_law_551 : decode cL_law 551 = .ok (.invokevirtual 64, 3) := by decide +kernel
theorem dL_law_554 : decode cL_law 554 = .ok (.aload_n 2, 1) := by decide +kernel
theorem dL_law_555 : decode cL_law 555 = .ok (.aload_n 0, 1) := by decide +kernel
theorem dL_law_556 : decode cL_law 556 = .ok (.iload_n 3, 1) := by decide +kernel
theorem dL_law_557 : decode cL_law 557 = .ok (.iconst 1, 1) := by decide +kernel
theorem dL_law_558 : decode cL_law 558 = .ok (.iadd, 1) := by decide +kernel
theorem dL_law_559 : decode cL_law 559 = .ok (.iaload, 1) := by decide +kernel
theorem dL_law_560 : decode cL_law 560 = .ok (.invokevirtual 67, 3) := by decide +kernel
theorem dL_law_563 : decode cL_law 563 = .ok (.if_icmp .eq 728, 3) := by decide +kernel
theorem dL_law_566 : decode cL_law 566 = .ok (.iconst 0, 1) := by decide +kernel
theorem dL_law_567 : decode cL_law 567 = .ok (.ireturn, 1) := by decide +kernel
theorem dL_law_568 : decode cL_law 568 = .ok (.aload_n 1, 1) := by decide +kernel
theorem dL_law_569 : decode cL_law 569 = .ok (.aload_n 0, 1) := by decide +kernel
theorem dL_law_570 : decode cL_law 570 = .ok (.iload_n 3, 1) := by decide +kernel
theorem dL_law_571 : decode cL_law 571 = .ok (.iconst 1, 1) := by decide +kernel
theorem dL_law_572 : decode cL_law 572 = .ok (.iadd, 1) := by decide +kernel
theorem dL_law_573 : decode cL_law 573 = .ok (.iaload, 1) := by decide +kernel
theorem dL_law_574 : decode cL_law 574 = .ok (.aload_n 0, 1) := by decide +kernel
theorem dL_law_575 : decode cL_law 575 = .ok (.iload_n 3, 1) := by decide +kernel
theorem dL_law_576 : decode cL_law 576 = .ok (.iconst 2, 1) := by decide +kernel
theorem dL_law_577 : decode cL_law 577 = .ok (.iadd, 1) := by decide +kernel
theorem dL_law_578 : decode cL_law 578 = .ok (.iaload, 1) := by decide +kernel
theorem dL_law_579 : decode cL_law 579 = .ok (.aload_n 0, 1) := by decide +kernel
theorem dL_law_580 : decode cL_law 580 = .ok (.iload_n 3, 1) := by decide +kernel
theorem dL_law_581 : decode cL_law 581 = .ok (.iconst 3, 1) := by decide +kernel
theorem dL_law_582 : decode cL_law 582 = .ok (.iadd, 1) := by decide +kernel
theorem dL_law_583 : decode cL_law 583 = .ok (.iaload, 1) := by decide +kernel
theorem dL_law_584 : decode cL_law 584 = .ok (.aload_n 0, 1) := by decide +kernel
theorem dL_law_585 : decode cL_law 585 = .ok (.iload_n 3, 1) := by decide +kernel
theorem dL_law_586 : decode cL_law 586 = .ok (.iconst 4, 1) := by decide +kernel
theorem dL_law_587 : decode cL_law 587 = .ok (.iadd, 1) := by decide +kernel
theorem dL_law_588 : decode cL_law 588 = .ok (.iaload, 1) := by decide +kernel
theorem dL_law_589 : decode cL_law 589 = .ok (.invokevirtual 68, 3) := by decide +kernel
theorem dL_law_592 : decode cL_law 592 = .ok (.aload_n 2, 1) := by decide +kernel
theorem dL_law_593 : decode cL_law 593 = .ok (.aload_n 0, 1) := by decide +kernel
theorem dL_law_594 : decode cL_law 594 = .ok (.iload_n 3, 1) := by decide +kernel
theorem dL_law_595 : decode cL_law 595 = .ok (.iconst 1, 1) := by decide +kernel
theorem dL_law_596 : decode cL_law 596 = .ok (.iadd, 1) := by decide +kernel
theorem dL_law_597 : decode cL_law 597 = .ok (.iaload, 1) := by decide +kernel
theorem dL_law_598 : decode cL_law 598 = .ok (.aload_n 0, 1) := by decide +kernel
theorem dL_law_599 : decode cL_law 599 = .ok (.iload_n 3, 1) := by decide +kernel
theorem dL_law_600 : decode cL_law 600 = .ok (.iconst 2, 1) := by decide +kernel
theorem dL_law_601 : decode cL_law 601 = .ok (.iadd, 1) := by decide +kernel
theorem dL_law_602 : decode cL_law 602 = .ok (.iaload, 1) := by decide +kernel
theorem dL_law_603 : decode cL_law 603 = .ok (.aload_n 0, 1) := by decide +kernel
theorem dL_law_604 : decode cL_law 604 = .ok (.iload_n 3, 1) := by decide +kernel
theorem dL_law_605 : decode cL_law 605 = .ok (.iconst 3, 1) := by decide +kernel
theorem dL_law_606 : decode cL_law 606 = .ok (.iadd, 1) := by decide +kernel
theorem dL_law_607 : decode cL_law 607 = .ok (.iaload, 1) := by decide +kernel
theorem dL_law_608 : decode cL_law 608 = .ok (.aload_n 0, 1) := by decide +kernel
theorem dL_law_609 : decode cL_law 609 = .ok (.iload_n 3, 1) := by decide +kernel
theorem dL_law_610 : decode cL_law 610 = .ok (.iconst 4, 1) := by decide +kernel
theorem dL_law_611 : decode cL_law 611 = .ok (.iadd, 1) := by decide +kernel
theorem dL_law_612 : decode cL_law 612 = .ok (.iaload, 1) := by decide +kernel
theorem dL_law_613 : decode cL_law 613 = .ok (.invokevirtual 72, 3) := by decide +kernel
theorem dL_law_616 : decode cL_law 616 = .ok (.if_icmp .eq 675, 3) := by decide +kernel
theorem dL_law_619 : decode cL_law 619 = .ok (.iconst 0, 1) := by decide +kernel
theorem dL_law_620 : decode cL_law 620 = .ok (.ireturn, 1) := by decide +kernel
theorem dL_law_621 : decode cL_law 621 = .ok (.aload_n 1, 1) := by decide +kernel
theorem dL_law_622 : decode cL_law 622 = .ok (.aload_n 0, 1) := by decide +kernel
theorem dL_law_623 : decode cL_law 623 = .ok (.iload_n 3, 1) := by decide +kernel
theorem dL_law_624 : decode cL_law 624 = .ok (.iconst 1, 1) := by decide +kernel
theorem dL_law_625 : decode cL_law 625 = .ok (.iadd, 1) := by decide +kernel
theorem dL_law_626 : decode cL_law 626 = .ok (.iaload, 1) := by decide +kernel
theorem dL_law_627 : decode cL_law 627 = .ok (.invokevirtual 73, 3) := by decide +kernel
theorem dL_law_630 : decode cL_law 630 = .ok (.aload_n 2, 1) := by decide +kernel
theorem dL_law_631 : decode cL_law 631 = .ok (.aload_n 0, 1) := by decide +kernel
theorem dL_law_632 : decode cL_law 632 = .ok (.iload_n 3, 1) := by decide +kernel
theorem dL_law_633 : decode cL_law 633 = .ok (.iconst 1, 1) := by decide +kernel
theorem dL_law_634 : decode cL_law 634 = .ok (.iadd, 1) := by decide +kernel
theorem dL_law_635 : decode cL_law 635 = .ok (.iaload, 1) := by decide +kernel
theorem dL_law_636 : decode cL_law 636 = .ok (.invokevirtual 76, 3) := by decide +kernel
theorem dL_law_639 : decode cL_law 639 = .ok (.if_icmp .eq 652, 3) := by decide +kernel
theorem dL_law_642 : decode cL_law 642 = .ok (.iconst 0, 1) := by decide +kernel
theorem dL_law_643 : decode cL_law 643 = .ok (.ireturn, 1) := by decide +kernel
theorem dL_law_644 : decode cL_law 644 = .ok (.aload_n 1, 1) := by decide +kernel
theorem dL_law_645 : decode cL_law 645 = .ok (.aload_n 0, 1) := by decide +kernel
theorem dL_law_646 : decode cL_law 646 = .ok (.iload_n 3, 1) := by decide +kernel
theorem dL_law_647 : decode cL_law 647 = .ok (.iconst 1, 1) := by decide +kernel
theorem dL_law_648 : decode cL_law 648 = .ok (.iadd, 1) := by decide +kernel
theorem dL_law_649 : decode cL_law 649 = .ok (.iaload, 1) := by decide +kernel
theorem dL_law_650 : decode cL_law 650 = .ok (.invokevirtual 77, 3) := by decide +kernel
theorem dL_law_653 : decode cL_law 653 = .ok (.aload_n 2, 1) := by decide +kernel
theorem dL_law_654 : decode cL_law 654 = .ok (.aload_n 0, 1) := by decide +kernel
theorem dL_law_655 : decode cL_law 655 = .ok (.iload_n 3, 1) := by decide +kernel
theorem dL_law_656 : decode cL_law 656 = .ok (.iconst 1, 1) := by decide +kernel
theorem dL_law_657 : decode cL_law 657 = .ok (.iadd, 1) := by decide +kernel
theorem dL_law_658 : decode cL_law 658 = .ok (.iaload, 1) := by decide +kernel
theorem dL_law_659 : decode cL_law 659 = .ok (.invokevirtual 80, 3) := by decide +kernel
theorem dL_law_662 : decode cL_law 662 = .ok (.if_icmp .eq 629, 3) := by decide +kernel
theorem dL_law_665 : decode cL_law 665 = .ok (.iconst 0, 1) := by decide +kernel
theorem dL_law_666 : decode cL_law 666 = .ok (.ireturn, 1) := by decide +kernel
theorem dL_law_667 : decode cL_law 667 = .ok (.aload_n 1, 1) := by decide +kernel
theorem dL_law_668 : decode cL_law 668 = .ok (.aload_n 0, 1) := by decide +kernel
theorem dL_law_669 : decode cL_law 669 = .ok (.iload_n 3, 1) := by decide +kernel
theorem dL_law_670 : decode cL_law 670 = .ok (.iconst 1, 1) := by decide +kernel
theorem dL_law_671 : decode cL_law 671 = .ok (.iadd, 1) := by decide +kernel
theorem dL_law_672 : decode cL_law 672 = .ok (.iaload, 1) := by decide +kernel
theorem dL_law_673 : decode cL_law 673 = .ok (.aload_n 0, 1) := by decide +kernel
theorem dL_law_674 : decode cL_law 674 = .ok (.iload_n 3, 1) := by decide +kernel
theorem dL_law_675 : decode cL_law 675 = .ok (.iconst 2, 1) := by decide +kernel
theorem dL_law_676 : decode cL_law 676 = .ok (.iadd, 1) := by decide +kernel
theorem dL_law_677 : decode cL_law 677 = .ok (.iaload, 1) := by decide +kernel
theorem dL_law_678 : decode cL_law 678 = .ok (.aload_n 0, 1) := by decide +kernel
theorem dL_law_679 : decode cL_law 679 = .ok (.iload_n 3, 1) := by decide +kernel
theorem dL_law_680 : decode cL_law 680 = .ok (.iconst 3, 1) := by decide +kernel
theorem dL_law_681 : decode cL_law 681 = .ok (.iadd, 1) := by decide +kernel
theorem dL_law_682 : decode cL_law 682 = .ok (.iaload, 1) := by decide +kernel
theorem dL_law_683 : decode cL_law 683 = .ok (.invokevirtual 81, 3) := by decide +kernel
theorem dL_law_686 : decode cL_law 686 = .ok (.aload_n 2, 1) := by decide +kernel
theorem dL_law_687 : decode cL_law 687 = .ok (.aload_n 0, 1) := by decide +kernel
theorem dL_law_688 : decode cL_law 688 = .ok (.iload_n 3, 1) := by decide +kernel
theorem dL_law_689 : decode cL_law 689 = .ok (.iconst 1, 1) := by decide +kernel
theorem dL_law_690 : decode cL_law 690 = .ok (.iadd, 1) := by decide +kernel
theorem dL_law_691 : decode cL_law 691 = .ok (.iaload, 1) := by decide +kernel
theorem dL_law_692 : decode cL_law 692 = .ok (.aload_n 0, 1) := by decide +kernel
theorem dL_law_693 : decode cL_law 693 = .ok (.iload_n 3, 1) := by decide +kernel
theorem dL_law_694 : decode cL_law 694 = .ok (.iconst 2, 1) := by decide +kernel
theorem dL_law_695 : decode cL_law 695 = .ok (.iadd, 1) := by decide +kernel
theorem dL_law_696 : decode cL_law 696 = .ok (.iaload, 1) := by decide +kernel
theorem dL_law_697 : decode cL_law 697 = .ok (.aload_n 0, 1) := by decide +kernel
theorem dL_law_698 : decode cL_law 698 = .ok (.iload_n 3, 1) := by decide +kernel
theorem dL_law_699 : decode cL_law 699 = .ok (.iconst 3, 1) := by decide +kernel
theorem dL_law_700 : decode cL_law 700 = .ok (.iadd, 1) := by decide +kernel
theorem dL_law_701 : decode cL_law 701 = .ok (.iaload, 1) := by decide +kernel
theorem dL_law_702 : decode cL_law 702 = .ok (.invokevirtual 84, 3) := by decide +kernel
theorem dL_law_705 : decode cL_law 705 = .ok (.if_icmp .eq 586, 3) := by decide +kernel
theorem dL_law_708 : decode cL_law 708 = .ok (.iconst 0, 1) := by decide +kernel
theorem dL_law_709 : decode cL_law 709 = .ok (.ireturn, 1) := by decide +kernel
theorem dL_law_710 : decode cL_law 710 = .ok (.aload_n 1, 1) := by decide +kernel
theorem dL_law_711 : decode cL_law 711 = .ok (.invokevirtual 85, 3) := by decide +kernel
theorem dL_law_714 : decode cL_law 714 = .ok (.aload_n 2, 1) := by decide +kernel
theorem dL_law_715 : decode cL_law 715 = .ok (.invokevirtual 88, 3) := by decide +kernel
theorem dL_law_718 : decode cL_law 718 = .ok (.if_icmp .eq 573, 3) := by decide +kernel
theorem dL_law_721 : decode cL_law 721 = .ok (.iconst 0, 1) := by decide +kernel
theorem dL_law_722 : decode cL_law 722 = .ok (.ireturn, 1) := by decide +kernel
theorem dL_law_723 : decode cL_law 723 = .ok (.aload_n 1, 1) := by decide +kernel
theorem dL_law_724 : decode cL_law 724 = .ok (.aload_n 0, 1) := by decide +kernel
theorem dL_law_725 : decode cL_law 725 = .ok (.iload_n 3, 1) := by decide +kernel
theorem dL_law_726 : decode cL_law 726 = .ok (.iconst 1, 1) := by decide +kernel
theorem dL_law_727 : decode cL_law 727 = .ok (.iadd, 1) := by decide +kernel
theorem dL_law_728 : decode cL_law 728 = .ok (.iaload, 1) := by decide +kernel
theorem dL_law_729 : decode cL_law 729 = .ok (.aload_n 0, 1) := by decide +kernel
theorem dL_law_730 : decode cL_law 730 = .ok (.iload_n 3, 1) := by decide +kernel
theorem dL_law_731 : decode cL_law 731 = .ok (.iconst 2, 1) := by decide +kernel
theorem dL_law_732 : decode cL_law 732 = .ok (.iadd, 1) := by decide +kernel
theorem dL_law_733 : decode cL_law 733 = .ok (.iaload, 1) := by decide +kernel
theorem dL_law_734 : decode cL_law 734 = .ok (.aload_n 0, 1) := by decide +kernel
theorem dL_law_735 : decode cL_law 735 = .ok (.iload_n 3, 1) := by decide +kernel
theorem dL_law_736 : decode cL_law 736 = .ok (.iconst 3, 1) := by decide +kernel
theorem dL_law_737 : decode cL_law 737 = .ok (.iadd, 1) := by decide +kernel
theorem dL_law_738 : decode cL_law 738 = .ok (.iaload, 1) := by decide +kernel
theorem dL_law_739 : decode cL_law 739 = .ok (.aload_n 0, 1) := by decide +kernel
theorem dL_law_740 : decode cL_law 740 = .ok (.iload_n 3, 1) := by decide +kernel
theorem dL_law_741 : decode cL_law 741 = .ok (.iconst 4, 1) := by decide +kernel
theorem dL_law_742 : decode cL_law 742 = .ok (.iadd, 1) := by decide +kernel
theorem dL_law_743 : decode cL_law 743 = .ok (.iaload, 1) := by decide +kernel
theorem dL_law_744 : decode cL_law 744 = .ok (.invokevirtual 89, 3) := by decide +kernel
theorem dL_law_747 : decode cL_law 747 = .ok (.aload_n 2, 1) := by decide +kernel
theorem dL_law_748 : decode cL_law 748 = .ok (.aload_n 0, 1) := by decide +kernel
theorem dL_law_749 : decode cL_law 749 = .ok (.iload_n 3, 1) := by decide +kernel
theorem dL_law_750 : decode cL_law 750 = .ok (.iconst 1, 1) := by decide +kernel
theorem dL_law_751 : decode cL_law 751 = .ok (.iadd, 1) := by decide +kernel
theorem dL_law_752 : decode cL_law 752 = .ok (.iaload, 1) := by decide +kernel
theorem dL_law_753 : decode cL_law 753 = .ok (.aload_n 0, 1) := by decide +kernel
theorem dL_law_754 : decode cL_law 754 = .ok (.iload_n 3, 1) := by decide +kernel
theorem dL_law_755 : decode cL_law 755 = .ok (.iconst 2, 1) := by decide +kernel
theorem dL_law_756 : decode cL_law 756 = .ok (.iadd, 1) := by decide +kernel
theorem dL_law_757 : decode cL_law 757 = .ok (.iaload, 1) := by decide +kernel
theorem dL_law_758 : decode cL_law 758 = .ok (.aload_n 0, 1) := by decide +kernel
theorem dL_law_759 : decode cL_law 759 = .ok (.iload_n 3, 1) := by decide +kernel
theorem dL_law_760 : decode cL_law 760 = .ok (.iconst 3, 1) := by decide +kernel
theorem dL_law_761 : decode cL_law 761 = .ok (.iadd, 1) := by decide +kernel
theorem dL_law_762 : decode cL_law 762 = .ok (.iaload, 1) := by decide +kernel
theorem dL_law_763 : decode cL_law 763 = .ok (.aload_n 0, 1) := by decide +kernel
theorem dL_law_764 : decode cL_law 764 = .ok (.iload_n 3, 1) := by decide +kernel
theorem dL_law_765 : decode cL_law 765 = .ok (.iconst 4, 1) := by decide +kernel
theorem dL_law_766 : decode cL_law 766 = .ok (.iadd, 1) := by decide +kernel
theorem dL_law_767 : decode cL_law 767 = .ok (.iaload, 1) := by decide +kernel
theorem dL_law_768 : decode cL_law 768 = .ok (.invokevirtual 93, 3) := by decide +kernel
theorem dL_law_771 : decode cL_law 771 = .ok (.lcmp, 1) := by decide +kernel
theorem dL_law_772 : decode cL_law 772 = .ok (.ifCond .eq 519, 3) := by decide +kernel
theorem dL_law_775 : decode cL_law 775 = .ok (.iconst 0, 1) := by decide +kernel
theorem dL_law_776 : decode cL_law 776 = .ok (.ireturn, 1) := by decide +kernel
theorem dL_law_777 : decode cL_law 777 = .ok (.aload_n 1, 1) := by decide +kernel
theorem dL_law_778 : decode cL_law 778 = .ok (.aload_n 0, 1) := by decide +kernel
theorem dL_law_779 : decode cL_law 779 = .ok (.iload_n 3, 1) := by decide +kernel
theorem dL_law_780 : decode cL_law 780 = .ok (.iconst 1, 1) := by decide +kernel
theorem dL_law_781 : decode cL_law 781 = .ok (.iadd, 1) := by decide +kernel
theorem dL_law_782 : decode cL_law 782 = .ok (.iaload, 1) := by decide +kernel
theorem dL_law_783 : decode cL_law 783 = .ok (.aload_n 0, 1) := by decide +kernel
theorem dL_law_784 : decode cL_law 784 = .ok (.iload_n 3, 1) := by decide +kernel
theorem dL_law_785 : decode cL_law 785 = .ok (.iconst 2, 1) := by decide +kernel
theorem dL_law_786 : decode cL_law 786 = .ok (.iadd, 1) := by decide +kernel
theorem dL_law_787 : decode cL_law 787 = .ok (.iaload, 1) := by decide +kernel
theorem dL_law_788 : decode cL_law 788 = .ok (.invokevirtual 94, 3) := by decide +kernel
theorem dL_law_791 : decode cL_law 791 = .ok (.aload_n 2, 1) := by decide +kernel
theorem dL_law_792 : decode cL_law 792 = .ok (.aload_n 0, 1) := by decide +kernel
theorem dL_law_793 : decode cL_law 793 = .ok (.iload_n 3, 1) := by decide +kernel
theorem dL_law_794 : decode cL_law 794 = .ok (.iconst 1, 1) := by decide +kernel
theorem dL_law_795 : decode cL_law 795 = .ok (.iadd, 1) := by decide +kernel
theorem dL_law_796 : decode cL_law 796 = .ok (.iaload, 1) := by decide +kernel
theorem dL_law_797 : decode cL_law 797 = .ok (.aload_n 0, 1) := by decide +kernel
theorem dL_law_798 : decode cL_law 798 = .ok (.iload_n 3, 1) := by decide +kernel
theorem dL_law_799 : decode cL_law 799 = .ok (.iconst 2, 1) := by decide +kernel
theorem dL_law_800 : decode cL_law 800 = .ok (.iadd, 1) := by decide +kernel
theorem dL_law_801 : decode cL_law 801 = .ok (.iaload, 1) := by decide +kernel
theorem dL_law_802 : decode cL_law 802 = .ok (.invokevirtual 97, 3) := by decide +kernel
theorem dL_law_805 : decode cL_law 805 = .ok (.if_icmp .eq 486, 3) := by decide +kernel
theorem dL_law_808 : decode cL_law 808 = .ok (.iconst 0, 1) := by decide +kernel
theorem dL_law_809 : decode cL_law 809 = .ok (.ireturn, 1) := by decide +kernel
theorem dL_law_810 : decode cL_law 810 = .ok (.aload_n 1, 1) := by decide +kernel
theorem dL_law_811 : decode cL_law 811 = .ok (.aload_n 0, 1) := by decide +kernel
theorem dL_law_812 : decode cL_law 812 = .ok (.iload_n 3, 1) := by decide +kernel
theorem dL_law_813 : decode cL_law 813 = .ok (.iconst 1, 1) := by decide +kernel
theorem dL_law_814 : decode cL_law 814 = .ok (.iadd, 1) := by decide +kernel
theorem dL_law_815 : decode cL_law 815 = .ok (.iaload, 1) := by decide +kernel
theorem dL_law_816 : decode cL_law 816 = .ok (.aload_n 0, 1) := by decide +kernel
theorem dL_law_817 : decode cL_law 817 = .ok (.iload_n 3, 1) := by decide +kernel
theorem dL_law_818 : decode cL_law 818 = .ok (.iconst 2, 1) := by decide +kernel
theorem dL_law_819 : decode cL_law 819 = .ok (.iadd, 1) := by decide +kernel
theorem dL_law_820 : decode cL_law 820 = .ok (.iaload, 1) := by decide +kernel
theorem dL_law_821 : decode cL_law 821 = .ok (.aload_n 0, 1) := by decide +kernel
theorem dL_law_822 : decode cL_law 822 = .ok (.iload_n 3, 1) := by decide +kernel
theorem dL_law_823 : decode cL_law 823 = .ok (.iconst 3, 1) := by decide +kernel
theorem dL_law_824 : decode cL_law 824 = .ok (.iadd, 1) := by decide +kernel
theorem dL_law_825 : decode cL_law 825 = .ok (.iaload, 1) := by decide +kernel
theorem dL_law_826 : decode cL_law 826 = .ok (.invokevirtual 98, 3) := by decide +kernel
theorem dL_law_829 : decode cL_law 829 = .ok (.aload_n 2, 1) := by decide +kernel
theorem dL_law_830 : decode cL_law 830 = .ok (.aload_n 0, 1) := by decide +kernel
theorem dL_law_831 : decode cL_law 831 = .ok (.iload_n 3, 1) := by decide +kernel
theorem dL_law_832 : decode cL_law 832 = .ok (.iconst 1, 1) := by decide +kernel
theorem dL_law_833 : decode cL_law 833 = .ok (.iadd, 1) := by decide +kernel
theorem dL_law_834 : decode cL_law 834 = .ok (.iaload, 1) := by decide +kernel
theorem dL_law_835 : decode cL_law 835 = .ok (.aload_n 0, 1) := by decide +kernel
theorem dL_law_836 : decode cL_law 836 = .ok (.iload_n 3, 1) := by decide +kernel
theorem dL_law_837 : decode cL_law 837 = .ok (.iconst 2, 1) := by decide +kernel
theorem dL_law_838 : decode cL_law 838 = .ok (.iadd, 1) := by decide +kernel
theorem dL_law_839 : decode cL_law 839 = .ok (.iaload, 1) := by decide +kernel
theorem dL_law_840 : decode cL_law 840 = .ok (.aload_n 0, 1) := by decide +kernel
theorem dL_law_841 : decode cL_law 841 = .ok (.iload_n 3, 1) := by decide +kernel
theorem dL_law_842 : decode cL_law 842 = .ok (.iconst 3, 1) := by decide +kernel
theorem dL_law_843 : decode cL_law 843 = .ok (.iadd, 1) := by decide +kernel
theorem dL_law_844 : decode cL_law 844 = .ok (.iaload, 1) := by decide +kernel
theorem dL_law_845 : decode cL_law 845 = .ok (.invokevirtual 101, 3) := by decide +kernel
theorem dL_law_848 : decode cL_law 848 = .ok (.if_icmp .eq 443, 3) := by decide +kernel
theorem dL_law_851 : decode cL_law 851 = .ok (.iconst 0, 1) := by decide +kernel
theorem dL_law_852 : decode cL_law 852 = .ok (.ireturn, 1) := by decide +kernel
theorem dL_law_853 : decode cL_law 853 = .ok (.aload_n 1, 1) := by decide +kernel
theorem dL_law_854 : decode cL_law 854 = .ok (.aload_n 0, 1) := by decide +kernel
theorem dL_law_855 : decode cL_law 855 = .ok (.iload_n 3, 1) := by decide +kernel
theorem dL_law_856 : decode cL_law 856 = .ok (.iconst 1, 1) := by decide +kernel
theorem dL_law_857 : decode cL_law 857 = .ok (.iadd, 1) := by decide +kernel
theorem dL_law_858 : decode cL_law 858 = .ok (.iaload, 1) := by decide +kernel
theorem dL_law_859 : decode cL_law 859 = .ok (.invokevirtual 102, 3) := by decide +kernel
theorem dL_law_862 : decode cL_law 862 = .ok (.aload_n 2, 1) := by decide +kernel
theorem dL_law_863 : decode cL_law 863 = .ok (.aload_n 0, 1) := by decide +kernel
theorem dL_law_864 : decode cL_law 864 = .ok (.iload_n 3, 1) := by decide +kernel
theorem dL_law_865 : decode cL_law 865 = .ok (.iconst 1, 1) := by decide +kernel
theorem dL_law_866 : decode cL_law 866 = .ok (.iadd, 1) := by decide +kernel
theorem dL_law_867 : decode cL_law 867 = .ok (.iaload, 1) := by decide +kernel
theorem dL_law_868 : decode cL_law 868 = .ok (.invokevirtual 105, 3) := by decide +kernel
theorem dL_law_871 : decode cL_law 871 = .ok (.if_icmp .eq 420, 3) := by decide +kernel
theorem dL_law_874 : decode cL_law 874 = .ok (.iconst 0, 1) := by decide +kernel
theorem dL_law_875 : decode cL_law 875 = .ok (.ireturn, 1) := by decide +kernel
theorem dL_law_876 : decode cL_law 876 = .ok (.aload_n 1, 1) := by decide +kernel
theorem dL_law_877 : decode cL_law 877 = .ok (.aload_n 0, 1) := by decide +kernel
theorem dL_law_878 : decode cL_law 878 = .ok (.iload_n 3, 1) := by decide +kernel
theorem dL_law_879 : decode cL_law 879 = .ok (.iconst 1, 1) := by decide +kernel
theorem dL_law_880 : decode cL_law 880 = .ok (.iadd, 1) := by decide +kernel
theorem dL_law_881 : decode cL_law 881 = .ok (.iaload, 1) := by decide +kernel
theorem dL_law_882 : decode cL_law 882 = .ok (.invokevirtual 106, 3) := by decide +kernel
theorem dL_law_885 : decode cL_law 885 = .ok (.aload_n 2, 1) := by decide +kernel
theorem dL_law_886 : decode cL_law 886 = .ok (.aload_n 0, 1) := by decide +kernel
theorem dL_law_887 : decode cL_law 887 = .ok (.iload_n 3, 1) := by decide +kernel
theorem dL_law_888 : decode cL_law 888 = .ok (.iconst 1, 1) := by decide +kernel
theorem dL_law_889 : decode cL_law 889 = .ok (.iadd, 1) := by decide +kernel
theorem dL_law_890 : decode cL_law 890 = .ok (.iaload, 1) := by decide +kernel
theorem dL_law_891 : decode cL_law 891 = .ok (.invokevirtual 109, 3) := by decide +kernel
theorem dL_law_894 : decode cL_law 894 = .ok (.if_icmp .eq 397, 3) := by decide +kernel
theorem dL_law_897 : decode cL_law 897 = .ok (.iconst 0, 1) := by decide +kernel
theorem dL_law_898 : decode cL_law 898 = .ok (.ireturn, 1) := by decide +kernel
theorem dL_law_899 : decode cL_law 899 = .ok (.aload_n 1, 1) := by decide +kernel
theorem dL_law_900 : decode cL_law 900 = .ok (.aload_n 0, 1) := by decide +kernel
theorem dL_law_901 : decode cL_law 901 = .ok (.iload_n 3, 1) := by decide +kernel
theorem dL_law_902 : decode cL_law 902 = .ok (.iconst 1, 1) := by decide +kernel
theorem dL_law_903 : decode cL_law 903 = .ok (.iadd, 1) := by decide +kernel
theorem dL_law_904 : decode cL_law 904 = .ok (.iaload, 1) := by decide +kernel
theorem dL_law_905 : decode cL_law 905 = .ok (.invokevirtual 110, 3) := by decide +kernel
theorem dL_law_908 : decode cL_law 908 = .ok (.aload_n 2, 1) := by decide +kernel
theorem dL_law_909 : decode cL_law 909 = .ok (.aload_n 0, 1) := by decide +kernel
theorem dL_law_910 : decode cL_law 910 = .ok (.iload_n 3, 1) := by decide +kernel
theorem dL_law_911 : decode cL_law 911 = .ok (.iconst 1, 1) := by decide +kernel
theorem dL_law_912 : decode cL_law 912 = .ok (.iadd, 1) := by decide +kernel
theorem dL_law_913 : decode cL_law 913 = .ok (.iaload, 1) := by decide +kernel
theorem dL_law_914 : decode cL_law 914 = .ok (.invokevirtual 113, 3) := by decide +kernel
theorem dL_law_917 : decode cL_law 917 = .ok (.if_icmp .eq 374, 3) := by decide +kernel
theorem dL_law_920 : decode cL_law 920 = .ok (.iconst 0, 1) := by decide +kernel
theorem dL_law_921 : decode cL_law 921 = .ok (.ireturn, 1) := by decide +kernel
theorem dL_law_922 : decode cL_law 922 = .ok (.aload_n 1, 1) := by decide +kernel
theorem dL_law_923 : decode cL_law 923 = .ok (.aload_n 0, 1) := by decide +kernel
theorem dL_law_924 : decode cL_law 924 = .ok (.iload_n 3, 1) := by decide +kernel
theorem dL_law_925 : decode cL_law 925 = .ok (.iconst 1, 1) := by decide +kernel
theorem dL_law_926 : decode cL_law 926 = .ok (.iadd, 1) := by decide +kernel
theorem dL_law_927 : decode cL_law 927 = .ok (.iaload, 1) := by decide +kernel
theorem dL_law_928 : decode cL_law 928 = .ok (.aload_n 0, 1) := by decide +kernel
theorem dL_law_929 : decode cL_law 929 = .ok (.iload_n 3, 1) := by decide +kernel
theorem dL_law_930 : decode cL_law 930 = .ok (.iconst 2, 1) := by decide +kernel
theorem dL_law_931 : decode cL_law 931 = .ok (.iadd, 1) := by decide +kernel
theorem dL_law_932 : decode cL_law 932 = .ok (.iaload, 1) := by decide +kernel
theorem dL_law_933 : decode cL_law 933 = .ok (.aload_n 0, 1) := by decide +kernel
theorem dL_law_934 : decode cL_law 934 = .ok (.iload_n 3, 1) := by decide +kernel
theorem dL_law_935 : decode cL_law 935 = .ok (.iconst 3, 1) := by decide +kernel
theorem dL_law_936 : decode cL_law 936 = .ok (.iadd, 1) := by decide +kernel
theorem dL_law_937 : decode cL_law 937 = .ok (.iaload, 1) := by decide +kernel
theorem dL_law_938 : decode cL_law 938 = .ok (.invokevirtual 114, 3) := by decide +kernel
theorem dL_law_941 : decode cL_law 941 = .ok (.aload_n 2, 1) := by decide +kernel
theorem dL_law_942 : decode cL_law 942 = .ok (.aload_n 0, 1) := by decide +kernel
theorem dL_law_943 : decode cL_law 943 = .ok (.iload_n 3, 1) := by decide +kernel
theorem dL_law_944 : decode cL_law 944 = .ok (.iconst 1, 1) := by decide +kernel
theorem dL_law_945 : decode cL_law 945 = .ok (.iadd, 1) := by decide +kernel
theorem dL_law_946 : decode cL_law 946 = .ok (.iaload, 1) := by decide +kernel
theorem dL_law_947 : decode cL_law 947 = .ok (.aload_n 0, 1) := by decide +kernel
theorem dL_law_948 : decode cL_law 948 = .ok (.iload_n 3, 1) := by decide +kernel
theorem dL_law_949 : decode cL_law 949 = .ok (.iconst 2, 1) := by decide +kernel
theorem dL_law_950 : decode cL_law 950 = .ok (.iadd, 1) := by decide +kernel
theorem dL_law_951 : decode cL_law 951 = .ok (.iaload, 1) := by decide +kernel
theorem dL_law_952 : decode cL_law 952 = .ok (.aload_n 0, 1) := by decide +kernel
theorem dL_law_953 : decode cL_law 953 = .ok (.iload_n 3, 1) := by decide +kernel
theorem dL_law_954 : decode cL_law 954 = .ok (.iconst 3, 1) := by decide +kernel
theorem dL_law_955 : decode cL_law 955 = .ok (.iadd, 1) := by decide +kernel
theorem dL_law_956 : decode cL_law 956 = .ok (.iaload, 1) := by decide +kernel
theorem dL_law_957 : decode cL_law 957 = .ok (.invokevirtual 117, 3) := by decide +kernel
theorem dL_law_960 : decode cL_law 960 = .ok (.if_icmp .eq 331, 3) := by decide +kernel
theorem dL_law_963 : decode cL_law 963 = .ok (.iconst 0, 1) := by decide +kernel
theorem dL_law_964 : decode cL_law 964 = .ok (.ireturn, 1) := by decide +kernel
theorem dL_law_965 : decode cL_law 965 = .ok (.aload_n 1, 1) := by decide +kernel
theorem dL_law_966 : decode cL_law 966 = .ok (.aload_n 0, 1) := by decide +kernel
theorem dL_law_967 : decode cL_law 967 = .ok (.iload_n 3, 1) := by decide +kernel
theorem dL_law_968 : decode cL_law 968 = .ok (.iconst 1, 1) := by decide +kernel
theorem dL_law_969 : decode cL_law 969 = .ok (.iadd, 1) := by decide +kernel
theorem dL_law_970 : decode cL_law 970 = .ok (.iaload, 1) := by decide +kernel
theorem dL_law_971 : decode cL_law 971 = .ok (.invokevirtual 118, 3) := by decide +kernel
theorem dL_law_974 : decode cL_law 974 = .ok (.aload_n 2, 1) := by decide +kernel
theorem dL_law_975 : decode cL_law 975 = .ok (.aload_n 0, 1) := by decide +kernel
theorem dL_law_976 : decode cL_law 976 = .ok (.iload_n 3, 1) := by decide +kernel
theorem dL_law_977 : decode cL_law 977 = .ok (.iconst 1, 1) := by decide +kernel
theorem dL_law_978 : decode cL_law 978 = .ok (.iadd, 1) := by decide +kernel
theorem dL_law_979 : decode cL_law 979 = .ok (.iaload, 1) := by decide +kernel
theorem dL_law_980 : decode cL_law 980 = .ok (.invokevirtual 121, 3) := by decide +kernel
theorem dL_law_983 : decode cL_law 983 = .ok (.if_icmp .eq 308, 3) := by decide +kernel
theorem dL_law_986 : decode cL_law 986 = .ok (.iconst 0, 1) := by decide +kernel
theorem dL_law_987 : decode cL_law 987 = .ok (.ireturn, 1) := by decide +kernel
theorem dL_law_988 : decode cL_law 988 = .ok (.aload_n 1, 1) := by decide +kernel
theorem dL_law_989 : decode cL_law 989 = .ok (.aload_n 0, 1) := by decide +kernel
theorem dL_law_990 : decode cL_law 990 = .ok (.iload_n 3, 1) := by decide +kernel
theorem dL_law_991 : decode cL_law 991 = .ok (.iconst 1, 1) := by decide +kernel
theorem dL_law_992 : decode cL_law 992 = .ok (.iadd, 1) := by decide +kernel
theorem dL_law_993 : decode cL_law 993 = .ok (.iaload, 1) := by decide +kernel
theorem dL_law_994 : decode cL_law 994 = .ok (.aload_n 0, 1) := by decide +kernel
theorem dL_law_995 : decode cL_law 995 = .ok (.iload_n 3, 1) := by decide +kernel
theorem dL_law_996 : decode cL_law 996 = .ok (.iconst 2, 1) := by decide +kernel
theorem dL_law_997 : decode cL_law 997 = .ok (.iadd, 1) := by decide +kernel
theorem dL_law_998 : decode cL_law 998 = .ok (.iaload, 1) := by decide +kernel
theorem dL_law_999 : decode cL_law 999 = .ok (.aload_n 0, 1) := by decide +kernel
theorem dL_law_1000 : decode cL_law 1000 = .ok (.iload_n 3, 1) := by decide +kernel
theorem dL_law_1001 : decode cL_law 1001 = .ok (.iconst 3, 1) := by decide +kernel
theorem dL_law_1002 : decode cL_law 1002 = .ok (.iadd, 1) := by decide +kernel
theorem dL_law_1003 : decode cL_law 1003 = .ok (.iaload, 1) := by decide +kernel
theorem dL_law_1004 : decode cL_law 1004 = .ok (.invokevirtual 122, 3) := by decide +kernel
theorem dL_law_1007 : decode cL_law 1007 = .ok (.aload_n 2, 1) := by decide +kernel
theorem dL_law_1008 : decode cL_law 1008 = .ok (.aload_n 0, 1) := by decide +kernel
theorem dL_law_1009 : decode cL_law 1009 = .ok (.iload_n 3, 1) := by decide +kernel
theorem dL_law_1010 : decode cL_law 1010 = .ok (.iconst 1, 1) := by decide +kernel
theorem dL_law_1011 : decode cL_law 1011 = .ok (.iadd, 1) := by decide +kernel
theorem dL_law_1012 : decode cL_law 1012 = .ok (.iaload, 1) := by decide +kernel
theorem dL_law_1013 : decode cL_law 1013 = .ok (.aload_n 0, 1) := by decide +kernel
theorem dL_law_1014 : decode cL_law 1014 = .ok (.iload_n 3, 1) := by decide +kernel
theorem dL_law_1015 : decode cL_law 1015 = .ok (.iconst 2, 1) := by decide +kernel
theorem dL_law_1016 : decode cL_law 1016 = .ok (.iadd, 1) := by decide +kernel
theorem dL_law_1017 : decode cL_law 1017 = .ok (.iaload, 1) := by decide +kernel
theorem dL_law_1018 : decode cL_law 1018 = .ok (.aload_n 0, 1) := by decide +kernel
theorem dL_law_1019 : decode cL_law 1019 = .ok (.iload_n 3, 1) := by decide +kernel
theorem dL_law_1020 : decode cL_law 1020 = .ok (.iconst 3, 1) := by decide +kernel
theorem dL_law_1021 : decode cL_law 1021 = .ok (.iadd, 1) := by decide +kernel
theorem dL_law_1022 : decode cL_law 1022 = .ok (.iaload, 1) := by decide +kernel
theorem dL_law_1023 : decode cL_law 1023 = .ok (.invokevirtual 125, 3) := by decide +kernel
theorem dL_law_1026 : decode cL_law 1026 = .ok (.if_icmp .eq 265, 3) := by decide +kernel
theorem dL_law_1029 : decode cL_law 1029 = .ok (.iconst 0, 1) := by decide +kernel
theorem dL_law_1030 : decode cL_law 1030 = .ok (.ireturn, 1) := by decide +kernel
theorem dL_law_1031 : decode cL_law 1031 = .ok (.aload_n 1, 1) := by decide +kernel
theorem dL_law_1032 : decode cL_law 1032 = .ok (.aload_n 0, 1) := by decide +kernel
theorem dL_law_1033 : decode cL_law 1033 = .ok (.iload_n 3, 1) := by decide +kernel
theorem dL_law_1034 : decode cL_law 1034 = .ok (.iconst 1, 1) := by decide +kernel
theorem dL_law_1035 : decode cL_law 1035 = .ok (.iadd, 1) := by decide +kernel
theorem dL_law_1036 : decode cL_law 1036 = .ok (.iaload, 1) := by decide +kernel
theorem dL_law_1037 : decode cL_law 1037 = .ok (.aload_n 0, 1) := by decide +kernel
theorem dL_law_1038 : decode cL_law 1038 = .ok (.iload_n 3, 1) := by decide +kernel
theorem dL_law_1039 : decode cL_law 1039 = .ok (.iconst 2, 1) := by decide +kernel
theorem dL_law_1040 : decode cL_law 1040 = .ok (.iadd, 1) := by decide +kernel
theorem dL_law_1041 : decode cL_law 1041 = .ok (.iaload, 1) := by decide +kernel
theorem dL_law_1042 : decode cL_law 1042 = .ok (.aload_n 0, 1) := by decide +kernel
theorem dL_law_1043 : decode cL_law 1043 = .ok (.iload_n 3, 1) := by decide +kernel
theorem dL_law_1044 : decode cL_law 1044 = .ok (.iconst 3, 1) := by decide +kernel
theorem dL_law_1045 : decode cL_law 1045 = .ok (.iadd, 1) := by decide +kernel
theorem dL_law_1046 : decode cL_law 1046 = .ok (.iaload, 1) := by decide +kernel
theorem dL_law_1047 : decode cL_law 1047 = .ok (.invokevirtual 126, 3) := by decide +kernel
theorem dL_law_1050 : decode cL_law 1050 = .ok (.aload_n 2, 1) := by decide +kernel
theorem dL_law_1051 : decode cL_law 1051 = .ok (.aload_n 0, 1) := by decide +kernel
theorem dL_law_1052 : decode cL_law 1052 = .ok (.iload_n 3, 1) := by decide +kernel
theorem dL_law_1053 : decode cL_law 1053 = .ok (.iconst 1, 1) := by decide +kernel
theorem dL_law_1054 : decode cL_law 1054 = .ok (.iadd, 1) := by decide +kernel
theorem dL_law_1055 : decode cL_law 1055 = .ok (.iaload, 1) := by decide +kernel
theorem dL_law_1056 : decode cL_law 1056 = .ok (.aload_n 0, 1) := by decide +kernel
theorem dL_law_1057 : decode cL_law 1057 = .ok (.iload_n 3, 1) := by decide +kernel
theorem dL_law_1058 : decode cL_law 1058 = .ok (.iconst 2, 1) := by decide +kernel
theorem dL_law_1059 : decode cL_law 1059 = .ok (.iadd, 1) := by decide +kernel
theorem dL_law_1060 : decode cL_law 1060 = .ok (.iaload, 1) := by decide +kernel
theorem dL_law_1061 : decode cL_law 1061 = .ok (.aload_n 0, 1) := by decide +kernel
theorem dL_law_1062 : decode cL_law 1062 = .ok (.iload_n 3, 1) := by decide +kernel
theorem dL_law_1063 : decode cL_law 1063 = .ok (.iconst 3, 1) := by decide +kernel
theorem dL_law_1064 : decode cL_law 1064 = .ok (.iadd, 1) := by decide +kernel
theorem dL_law_1065 : decode cL_law 1065 = .ok (.iaload, 1) := by decide +kernel
theorem dL_law_1066 : decode cL_law 1066 = .ok (.invokevirtual 129, 3) := by decide +kernel
theorem dL_law_1069 : decode cL_law 1069 = .ok (.if_icmp .eq 222, 3) := by decide +kernel
theorem dL_law_1072 : decode cL_law 1072 = .ok (.iconst 0, 1) := by decide +kernel
theorem dL_law_1073 : decode cL_law 1073 = .ok (.ireturn, 1) := by decide +kernel
theorem dL_law_1074 : decode cL_law 1074 = .ok (.aload_n 1, 1) := by decide +kernel
theorem dL_law_1075 : decode cL_law 1075 = .ok (.aload_n 0, 1) := by decide +kernel
theorem dL_law_1076 : decode cL_law 1076 = .ok (.iload_n 3, 1) := by decide +kernel
theorem dL_law_1077 : decode cL_law 1077 = .ok (.iconst 1, 1) := by decide +kernel
theorem dL_law_1078 : decode cL_law 1078 = .ok (.iadd, 1) := by decide +kernel
theorem dL_law_1079 : decode cL_law 1079 = .ok (.iaload, 1) := by decide +kernel
theorem dL_law_1080 : decode cL_law 1080 = .ok (.aload_n 0, 1) := by decide +kernel
theorem dL_law_1081 : decode cL_law 1081 = .ok (.iload_n 3, 1) := by decide +kernel
theorem dL_law_1082 : decode cL_law 1082 = .ok (.iconst 2, 1) := by decide +kernel
theorem dL_law_1083 : decode cL_law 1083 = .ok (.iadd, 1) := by decide +kernel
theorem dL_law_1084 : decode cL_law 1084 = .ok (.iaload, 1) := by decide +kernel
theorem dL_law_1085 : decode cL_law 1085 = .ok (.aload_n 0, 1) := by decide +kernel
theorem dL_law_1086 : decode cL_law 1086 = .ok (.iload_n 3, 1) := by decide +kernel
theorem dL_law_1087 : decode cL_law 1087 = .ok (.iconst 3, 1) := by decide +kernel
theorem dL_law_1088 : decode cL_law 1088 = .ok (.iadd, 1) := by decide +kernel
theorem dL_law_1089 : decode cL_law 1089 = .ok (.iaload, 1) := by decide +kernel
theorem dL_law_1090 : decode cL_law 1090 = .ok (.aload_n 0, 1) := by decide +kernel
theorem dL_law_1091 : decode cL_law 1091 = .ok (.iload_n 3, 1) := by decide +kernel
theorem dL_law_1092 : decode cL_law 1092 = .ok (.iconst 4, 1) := by decide +kernel
theorem dL_law_1093 : decode cL_law 1093 = .ok (.iadd, 1) := by decide +kernel
theorem dL_law_1094 : decode cL_law 1094 = .ok (.iaload, 1) := by decide +kernel
theorem dL_law_1095 : decode cL_law 1095 = .ok (.aload_n 0, 1) := by decide +kernel
theorem dL_law_1096 : decode cL_law 1096 = .ok (.iload_n 3, 1) := by decide +kernel
theorem dL_law_1097 : decode cL_law 1097 = .ok (.iconst 5, 1) := by decide +kernel
theorem dL_law_1098 : decode cL_law 1098 = .ok (.iadd, 1) := by decide +kernel
theorem dL_law_1099 : decode cL_law 1099 = .ok (.iaload, 1) := by decide +kernel
theorem dL_law_1100 : decode cL_law 1100 = .ok (.invokevirtual 130, 3) := by decide +kernel
theorem dL_law_1103 : decode cL_law 1103 = .ok (.aload_n 2, 1) := by decide +kernel
theorem dL_law_1104 : decode cL_law 1104 = .ok (.aload_n 0, 1) := by decide +kernel
theorem dL_law_1105 : decode cL_law 1105 = .ok (.iload_n 3, 1) := by decide +kernel
theorem dL_law_1106 : decode cL_law 1106 = .ok (.iconst 1, 1) := by decide +kernel
theorem dL_law_1107 : decode cL_law 1107 = .ok (.iadd, 1) := by decide +kernel
theorem dL_law_1108 : decode cL_law 1108 = .ok (.iaload, 1) := by decide +kernel
theorem dL_law_1109 : decode cL_law 1109 = .ok (.aload_n 0, 1) := by decide +kernel
theorem dL_law_1110 : decode cL_law 1110 = .ok (.iload_n 3, 1) := by decide +kernel
theorem dL_law_1111 : decode cL_law 1111 = .ok (.iconst 2, 1) := by decide +kernel
theorem dL_law_1112 : decode cL_law 1112 = .ok (.iadd, 1) := by decide +kernel
theorem dL_law_1113 : decode cL_law 1113 = .ok (.iaload, 1) := by decide +kernel
theorem dL_law_1114 : decode cL_law 1114 = .ok (.aload_n 0, 1) := by decide +kernel
theorem dL_law_1115 : decode cL_law 1115 = .ok (.iload_n 3, 1) := by decide +kernel
theorem dL_law_1116 : decode cL_law 1116 = .ok (.iconst 3, 1) := by decide +kernel
theorem dL_law_1117 : decode cL_law 1117 = .ok (.iadd, 1) := by decide +kernel
theorem dL_law_1118 : decode cL_law 1118 = .ok (.iaload, 1) := by decide +kernel
theorem dL_law_1119 : decode cL_law 1119 = .ok (.aload_n 0, 1) := by decide +kernel
theorem dL_law_1120 : decode cL_law 1120 = .ok (.iload_n 3, 1) := by decide +kernel
theorem dL_law_1121 : decode cL_law 1121 = .ok (.iconst 4, 1) := by decide +kernel
theorem dL_law_1122 : decode cL_law 1122 = .ok (.iadd, 1) := by decide +kernel
theorem dL_law_1123 : decode cL_law 1123 = .ok (.iaload, 1) := by decide +kernel
theorem dL_law_1124 : decode cL_law 1124 = .ok (.aload_n 0, 1) := by decide +kernel
theorem dL_law_1125 : decode cL_law 1125 = .ok (.iload_n 3, 1) := by decide +kernel
theorem dL_law_1126 : decode cL_law 1126 = .ok (.iconst 5, 1) := by decide +kernel
theorem dL_law_1127 : decode cL_law 1127 = .ok (.iadd, 1) := by decide +kernel
theorem dL_law_1128 : decode cL_law 1128 = .ok (.iaload, 1) := by decide +kernel
theorem dL_law_1129 : decode cL_law 1129 = .ok (.invokevirtual 134, 3) := by decide +kernel
theorem dL_law_1132 : decode cL_law 1132 = .ok (.if_icmp .eq 159, 3) := by decide +kernel
theorem dL_law_1135 : decode cL_law 1135 = .ok (.iconst 0, 1) := by decide +kernel
theorem dL_law_1136 : decode cL_law 1136 = .ok (.ireturn, 1) := by decide +kernel
theorem dL_law_1137 : decode cL_law 1137 = .ok (.aload_n 1, 1) := by decide +kernel
theorem dL_law_1138 : decode cL_law 1138 = .ok (.aload_n 0, 1) := by decide +kernel
theorem dL_law_1139 : decode cL_law 1139 = .ok (.iload_n 3, 1) := by decide +kernel
theorem dL_law_1140 : decode cL_law 1140 = .ok (.iconst 1, 1) := by decide +kernel
theorem dL_law_1141 : decode cL_law 1141 = .ok (.iadd, 1) := by decide +kernel
theorem dL_law_1142 : decode cL_law 1142 = .ok (.iaload, 1) := by decide +kernel
theorem dL_law_1143 : decode cL_law 1143 = .ok (.invokevirtual 135, 3) := by decide +kernel
theorem dL_law_1146 : decode cL_law 1146 = .ok (.aload_n 2, 1) := by decide +kernel
theorem dL_law_1147 : decode cL_law 1147 = .ok (.aload_n 0, 1) := by decide +kernel
theorem dL_law_1148 : decode cL_law 1148 = .ok (.iload_n 3, 1) := by decide +kernel
theorem dL_law_1149 : decode cL_law 1149 = .ok (.iconst 1, 1) := by decide +kernel
theorem dL_law_1150 : decode cL_law 1150 = .ok (.iadd, 1) := by decide +kernel
theorem dL_law_1151 : decode cL_law 1151 = .ok (.iaload, 1) := by decide +kernel
theorem dL_law_1152 : decode cL_law 1152 = .ok (.invokevirtual 138, 3) := by decide +kernel
theorem dL_law_1155 : decode cL_law 1155 = .ok (.if_icmp .eq 136, 3) := by decide +kernel
theorem dL_law_1158 : decode cL_law 1158 = .ok (.iconst 0, 1) := by decide +kernel
theorem dL_law_1159 : decode cL_law 1159 = .ok (.ireturn, 1) := by decide +kernel
theorem dL_law_1160 : decode cL_law 1160 = .ok (.aload_n 1, 1) := by decide +kernel
theorem dL_law_1161 : decode cL_law 1161 = .ok (.aload_n 0, 1) := by decide +kernel
theorem dL_law_1162 : decode cL_law 1162 = .ok (.iload_n 3, 1) := by decide +kernel
theorem dL_law_1163 : decode cL_law 1163 = .ok (.iconst 1, 1) := by decide +kernel
theorem dL_law_1164 : decode cL_law 1164 = .ok (.iadd, 1) := by decide +kernel
theorem dL_law_1165 : decode cL_law 1165 = .ok (.iaload, 1) := by decide +kernel
theorem dL_law_1166 : decode cL_law 1166 = .ok (.invokevirtual 139, 3) := by decide +kernel
theorem dL_law_1169 : decode cL_law 1169 = .ok (.aload_n 2, 1) := by decide +kernel
theorem dL_law_1170 : decode cL_law 1170 = .ok (.aload_n 0, 1) := by decide +kernel
theorem dL_law_1171 : decode cL_law 1171 = .ok (.iload_n 3, 1) := by decide +kernel
theorem dL_law_1172 : decode cL_law 1172 = .ok (.iconst 1, 1) := by decide +kernel
theorem dL_law_1173 : decode cL_law 1173 = .ok (.iadd, 1) := by decide +kernel
theorem dL_law_1174 : decode cL_law 1174 = .ok (.iaload, 1) := by decide +kernel
theorem dL_law_1175 : decode cL_law 1175 = .ok (.invokevirtual 142, 3) := by decide +kernel
theorem dL_law_1178 : decode cL_law 1178 = .ok (.if_icmp .eq 113, 3) := by decide +kernel
theorem dL_law_1181 : decode cL_law 1181 = .ok (.iconst 0, 1) := by decide +kernel
theorem dL_law_1182 : decode cL_law 1182 = .ok (.ireturn, 1) := by decide +kernel
theorem dL_law_1183 : decode cL_law 1183 = .ok (.aload_n 1, 1) := by decide +kernel
theorem dL_law_1184 : decode cL_law 1184 = .ok (.invokevirtual 143, 3) := by decide +kernel
theorem dL_law_1187 : decode cL_law 1187 = .ok (.aload_n 2, 1) := by decide +kernel
theorem dL_law_1188 : decode cL_law 1188 = .ok (.invokevirtual 146, 3) := by decide +kernel
theorem dL_law_1191 : decode cL_law 1191 = .ok (.if_icmp .eq 100, 3) := by decide +kernel
theorem dL_law_1194 : decode cL_law 1194 = .ok (.iconst 0, 1) := by decide +kernel
theorem dL_law_1195 : decode cL_law 1195 = .ok (.ireturn, 1) := by decide +kernel
theorem dL_law_1196 : decode cL_law 1196 = .ok (.aload_n 1, 1) := by decide +kernel
theorem dL_law_1197 : decode cL_law 1197 = .ok (.invokevirtual 147, 3) := by decide +kernel
theorem dL_law_1200 : decode cL_law 1200 = .ok (.aload_n 2, 1) := by decide +kernel
theorem dL_law_1201 : decode cL_law 1201 = .ok (.invokevirtual 150, 3) := by decide +kernel
theorem dL_law_1204 : decode cL_law 1204 = .ok (.if_icmp .eq 87, 3) := by decide +kernel
theorem dL_law_1207 : decode cL_law 1207 = .ok (.iconst 0, 1) := by decide +kernel
theorem dL_law_1208 : decode cL_law 1208 = .ok (.ireturn, 1) := by decide +kernel
theorem dL_law_1209 : decode cL_law 1209 = .ok (.aload_n 1, 1) := by decide +kernel
theorem dL_law_1210 : decode cL_law 1210 = .ok (.aload_n 0, 1) := by decide +kernel
theorem dL_law_1211 : decode cL_law 1211 = .ok (.iload_n 3, 1) := by decide +kernel
theorem dL_law_1212 : decode cL_law 1212 = .ok (.iconst 1, 1) := by decide +kernel
theorem dL_law_1213 : decode cL_law 1213 = .ok (.iadd, 1) := by decide +kernel
theorem dL_law_1214 : decode cL_law 1214 = .ok (.iaload, 1) := by decide +kernel
theorem dL_law_1215 : decode cL_law 1215 = .ok (.invokevirtual 151, 3) := by decide +kernel
theorem dL_law_1218 : decode cL_law 1218 = .ok (.aload_n 2, 1) := by decide +kernel
theorem dL_law_1219 : decode cL_law 1219 = .ok (.aload_n 0, 1) := by decide +kernel
theorem dL_law_1220 : decode cL_law 1220 = .ok (.iload_n 3, 1) := by decide +kernel
theorem dL_law_1221 : decode cL_law 1221 = .ok (.iconst 1, 1) := by decide +kernel
theorem dL_law_1222 : decode cL_law 1222 = .ok (.iadd, 1) := by decide +kernel
theorem dL_law_1223 : decode cL_law 1223 = .ok (.iaload, 1) := by decide +kernel
theorem dL_law_1224 : decode cL_law 1224 = .ok (.invokevirtual 154, 3) := by decide +kernel
theorem dL_law_1227 : decode cL_law 1227 = .ok (.if_icmp .eq 64, 3) := by decide +kernel
theorem dL_law_1230 : decode cL_law 1230 = .ok (.iconst 0, 1) := by decide +kernel
theorem dL_law_1231 : decode cL_law 1231 = .ok (.ireturn, 1) := by decide +kernel
theorem dL_law_1232 : decode cL_law 1232 = .ok (.aload_n 1, 1) := by decide +kernel
theorem dL_law_1233 : decode cL_law 1233 = .ok (.invokevirtual 155, 3) := by decide +kernel
theorem dL_law_1236 : decode cL_law 1236 = .ok (.aload_n 2, 1) := by decide +kernel
theorem dL_law_1237 : decode cL_law 1237 = .ok (.invokevirtual 158, 3) := by decide +kernel
theorem dL_law_1240 : decode cL_law 1240 = .ok (.if_icmp .eq 51, 3) := by decide +kernel
theorem dL_law_1243 : decode cL_law 1243 = .ok (.iconst 0, 1) := by decide +kernel
theorem dL_law_1244 : decode cL_law 1244 = .ok (.ireturn, 1) := by decide +kernel
theorem dL_law_1245 : decode cL_law 1245 = .ok (.aload_n 1, 1) := by decide +kernel
theorem dL_law_1246 : decode cL_law 1246 = .ok (.aload_n 0, 1) := by decide +kernel
theorem dL_law_1247 : decode cL_law 1247 = .ok (.iload_n 3, 1) := by decide +kernel
theorem dL_law_1248 : decode cL_law 1248 = .ok (.iconst 1, 1) := by decide +kernel
theorem dL_law_1249 : decode cL_law 1249 = .ok (.iadd, 1) := by decide +kernel
theorem dL_law_1250 : decode cL_law 1250 = .ok (.iaload, 1) := by decide +kernel
theorem dL_law_1251 : decode cL_law 1251 = .ok (.invokevirtual 159, 3) := by decide +kernel
theorem dL_law_1254 : decode cL_law 1254 = .ok (.aload_n 2, 1) := by decide +kernel
theorem dL_law_1255 : decode cL_law 1255 = .ok (.aload_n 0, 1) := by decide +kernel
theorem dL_law_1256 : decode cL_law 1256 = .ok (.iload_n 3, 1) := by decide +kernel
theorem dL_law_1257 : decode cL_law 1257 = .ok (.iconst 1, 1) := by decide +kernel
theorem dL_law_1258 : decode cL_law 1258 = .ok (.iadd, 1) := by decide +kernel
theorem dL_law_1259 : decode cL_law 1259 = .ok (.iaload, 1) := by decide +kernel
theorem dL_law_1260 : decode cL_law 1260 = .ok (.invokevirtual 162, 3) := by decide +kernel
theorem dL_law_1263 : decode cL_law 1263 = .ok (.if_icmp .eq 28, 3) := by decide +kernel
theorem dL_law_1266 : decode cL_law 1266 = .ok (.iconst 0, 1) := by decide +kernel
theorem dL_law_1267 : decode cL_law 1267 = .ok (.ireturn, 1) := by decide +kernel
theorem dL_law_1268 : decode cL_law 1268 = .ok (.aload_n 1, 1) := by decide +kernel
theorem dL_law_1269 : decode cL_law 1269 = .ok (.aload_n 0, 1) := by decide +kernel
theorem dL_law_1270 : decode cL_law 1270 = .ok (.iload_n 3, 1) := by decide +kernel
theorem dL_law_1271 : decode cL_law 1271 = .ok (.iconst 1, 1) := by decide +kernel
theorem dL_law_1272 : decode cL_law 1272 = .ok (.iadd, 1) := by decide +kernel
theorem dL_law_1273 : decode cL_law 1273 = .ok (.iaload, 1) := by decide +kernel
theorem dL_law_1274 : decode cL_law 1274 = .ok (.invokevirtual 163, 3) := by decide +kernel
theorem dL_law_1277 : decode cL_law 1277 = .ok (.aload_n 2, 1) := by decide +kernel
theorem dL_law_1278 : decode cL_law 1278 = .ok (.aload_n 0, 1) := by decide +kernel
theorem dL_law_1279 : decode cL_law 1279 = .ok (.iload_n 3, 1) := by decide +kernel
theorem dL_law_1280 : decode cL_law 1280 = .ok (.iconst 1, 1) := by decide +kernel
theorem dL_law_1281 : decode cL_law 1281 = .ok (.iadd, 1) := by decide +kernel
theorem dL_law_1282 : decode cL_law 1282 = .ok (.iaload, 1) := by decide +kernel
theorem dL_law_1283 : decode cL_law 1283 = .ok (.invokevirtual 166, 3) := by decide +kernel
theorem dL_law_1286 : decode cL_law 1286 = .ok (.if_icmp .eq 5, 3) := by decide +kernel
theorem dL_law_1289 : decode cL_law 1289 = .ok (.iconst 0, 1) := by decide +kernel
theorem dL_law_1290 : decode cL_law 1290 = .ok (.ireturn, 1) := by decide +kernel
theorem dL_law_1291 : decode cL_law 1291 = .ok (.iinc 3 6, 3) := by decide +kernel
theorem dL_law_1294 : decode cL_law 1294 = .ok (.goto (-1276), 3) := by decide +kernel
theorem dL_law_1297 : decode cL_law 1297 = .ok (.iconst 1, 1) := by decide +kernel
theorem dL_law_1298 : decode cL_law 1298 = .ok (.ireturn, 1) := by decide +kernel
end
section
/-! the tables' words that keep, and the nest words -/
def TT : List Cond := lw_tbl.filter goodWord
theorem TT_mem {w : Cond} (i : Nat) (h : lw_tbl[i]? = some w) (hg : goodWord w = true) : w ∈ TT := List.mem_filter.mpr ⟨List.mem_of_getElem? h, hg⟩
theorem TT_good : ∀ w ∈ TT, (w.onTables && w.keeps) = true ∨ ∃ ty, w = .arrayClass ty := fun _ h => good_of_word (List.mem_filter.mp h).2
theorem TT_hts {args : Array Value} {s : State} (h : ∀ w ∈ lw_tbl, w.before args s = true) : ∀ w ∈ TT, w.before args s = true := fun w hw => h w (List.mem_filter.mp hw).1
def NW : List (String × Nat × MethodName × String) := [
  ("TurnedBeam", 15, ⟨"TurnedBeam$Whole", "<init>", "()V"⟩, "TurnedBeam"),
  ("TurnedBeam$Whole", 9, ⟨"TurnedBeam$Hall", "<init>", "()V"⟩, "TurnedBeam"),
  ("TurnedBeam", 35, ⟨"TurnedBeam$Beam", "<init>", "()V"⟩, "TurnedBeam"),
  ("TurnedBeam", 42, ⟨"TurnedBeam$Hall", "<init>", "()V"⟩, "TurnedBeam"),
  ("TurnedBeam", 49, ⟨"TurnedBeam$Reader", "<init>", "()V"⟩, "TurnedBeam"),
  ("TurnedBeam", 56, ⟨"TurnedBeam$Voice", "<init>", "()V"⟩, "TurnedBeam"),
  ("TurnedBeam", 63, ⟨"TurnedBeam$Foresight", "<init>", "()V"⟩, "TurnedBeam"),
  ("TurnedBeam$Foresight", 9, ⟨"TurnedBeam$Hall", "<init>", "()V"⟩, "TurnedBeam"),
  ("TurnedBeam$Foresight", 18, ⟨"TurnedBeam$Beam", "<init>", "()V"⟩, "TurnedBeam"),
  ("TurnedBeam", 70, ⟨"TurnedBeam$Hands", "<init>", "()V"⟩, "TurnedBeam"),
  ("TurnedBeam$Hands", 9, ⟨"TurnedBeam$Hall", "<init>", "()V"⟩, "TurnedBeam"),
  ("TurnedBeam$Hands", 18, ⟨"TurnedBeam$Beam", "<init>", "()V"⟩, "TurnedBeam"),
  ("TurnedBeam", 77, ⟨"TurnedBeam$Doubt", "<init>", "()V"⟩, "TurnedBeam"),
  ("TurnedBeam$Doubt", 9, ⟨"TurnedBeam$Hall", "<init>", "()V"⟩, "TurnedBeam"),
  ("TurnedBeam$Doubt", 18, ⟨"TurnedBeam$Beam", "<init>", "()V"⟩, "TurnedBeam"),
  ("TurnedBeam", 82, ⟨"TurnedBeam$Sheet", "<init>", "()V"⟩, "TurnedBeam"),
  ("TurnedBeam$Hall", 36, ⟨"TurnedBeam", "within", "(III)Z"⟩, "TurnedBeam"),
  ("TurnedBeam$Whole", 69, ⟨"TurnedBeam", "quotient", "(II)I"⟩, "TurnedBeam"),
  ("TurnedBeam$Whole", 75, ⟨"TurnedBeam", "rest", "(II)I"⟩, "TurnedBeam"),
  ("TurnedBeam$Law", 31, ⟨"TurnedBeam", "held", "(III)I"⟩, "TurnedBeam"),
  ("TurnedBeam$Whole", 128, ⟨"TurnedBeam", "held", "(III)I"⟩, "TurnedBeam"),
  ("TurnedBeam$Reader", 41, ⟨"TurnedBeam", "held", "(III)I"⟩, "TurnedBeam"),
  ("TurnedBeam$Reader", 92, ⟨"TurnedBeam", "within", "(III)Z"⟩, "TurnedBeam"),
  ("TurnedBeam$Voice", 58, ⟨"TurnedBeam", "within", "(III)Z"⟩, "TurnedBeam"),
  ("TurnedBeam$Sheet", 26, ⟨"TurnedBeam", "within", "(III)Z"⟩, "TurnedBeam")]
def Nest (U : State) : Prop := ∀ q ∈ NW, va_Nw (.methodLinkNest q.1 q.2.1 q.2.2.1 q.2.2.2) U
theorem Nest.warm {s U : State} (hW : s.WarmedH U.vm) (h : Nest s) : Nest U := fun q hq => va_Nw.warmM hW (h q hq)
theorem Nest.same {u U : State} (e : u.vm = U.vm) (h : Nest u) : Nest U := fun q hq => va_Nw.same rfl e (h q hq)
/-! memory: the ints and the longs of all cells, by cell and place -/
abbrev Mem : Type := (Nat → Nat → Int32) × (Nat → Nat → Int64)
def gI (h : Mem) (a k : Nat) : Int32 := h.1 a k
def gL (h : Mem) (a k : Nat) : Int64 := h.2 a k
def sI (h : Mem) (a k : Nat) (v : Int32) : Mem := (fun b j => if b = a ∧ j = k then v else h.1 b j, h.2)
def sL (h : Mem) (a k : Nat) (v : Int64) : Mem := (h.1, fun b j => if b = a ∧ j = k then v else h.2 b j)
theorem gI_sI (h : Mem) (a k b j : Nat) (v : Int32) : gI (sI h a k v) b j = if b = a ∧ j = k then v else gI h b j := rfl
theorem gL_sI (h : Mem) (a k b j : Nat) (v : Int32) : gL (sI h a k v) b j = gL h b j := rfl
theorem gI_sL (h : Mem) (a k b j : Nat) (v : Int64) : gI (sL h a k v) b j = gI h b j := rfl
theorem gL_sL (h : Mem) (a k b j : Nat) (v : Int64) : gL (sL h a k v) b j = if b = a ∧ j = k then v else gL h b j := rfl
/-- n ints of the cell a from place i on come to the cell b, from place j on -/
def cpI (h : Mem) (a i b j n : Nat) : Mem := (fun c k => if c = b then va_cpy (fun x => h.1 a x) (fun x => h.1 b x) i j n k else h.1 c k, h.2)
theorem gI_cpI (h : Mem) (a i b j n c k : Nat) : gI (cpI h a i b j n) c k = if c = b ∧ j ≤ k ∧ k < j + n then gI h a (i + (k - j)) else gI h c k := by
  show (if c = b then va_cpy (fun x => h.1 a x) (fun x => h.1 b x) i j n k else h.1 c k) = _
  by_cases hc : c = b
  · subst hc
    by_cases hk : j ≤ k ∧ k < j + n
    · rw [if_pos rfl, if_pos ⟨rfl, hk⟩]; exact if_pos hk
    · rw [if_pos rfl, if_neg (fun z => hk z.2)]; exact if_neg hk
  · rw [if_neg hc, if_neg (fun z => hc z.1)]; rfl
theorem gL_cpI (h : Mem) (a i b j n c k : Nat) : gL (cpI h a i b j n) c k = gL h c k := rfl
/-! the combinators of the programs' meanings -/
abbrev iI (z : Int) : Int32 := Int32.ofInt z
abbrev iL (z : Int) : Int64 := Int64.ofInt z
section COMB
variable {ρ A A1 A2 A3 A4 A5 A6 A7 A8 : Type} {r : ρ} {P : Prop}
def nm (e : A) (K : A → Option ρ) : Option ρ := K e
def ald (h : Mem) (q n : Nat) (i : Int32) (K : Int32 → Option ρ) : Option ρ := if 0 ≤ i.toInt ∧ i.toInt < n then K (gI h q i.toNatClampNeg) else none
def aldL (h : Mem) (q n : Nat) (i : Int32) (K : Int64 → Option ρ) : Option ρ := if 0 ≤ i.toInt ∧ i.toInt < n then K (gL h q i.toNatClampNeg) else none
def ast (h : Mem) (q n : Nat) (i v : Int32) (K : Mem → Option ρ) : Option ρ := if 0 ≤ i.toInt ∧ i.toInt < n then K (sI h q i.toNatClampNeg v) else none
def astL (h : Mem) (q n : Nat) (i : Int32) (v : Int64) (K : Mem → Option ρ) : Option ρ := if 0 ≤ i.toInt ∧ i.toInt < n then K (sL h q i.toNatClampNeg v) else none
def tld (f : Nat → Int32) (n : Nat) (i : Int32) (K : Int32 → Option ρ) : Option ρ := if 0 ≤ i.toInt ∧ i.toInt < n then K (f i.toNatClampNeg) else none
def nz (y : Int32) (K : Option ρ) : Option ρ := if y = 0 then none else K
def rZ (v : Int32) (K : Option ρ) : Option ρ := if v = 0 ∨ v = 1 then K else none
def rng (i : Int32) (n : Nat) (K : Nat → Option ρ) : Option ρ := if 0 ≤ i.toInt ∧ i.toInt < n then K i.toNatClampNeg else none
def acp (h : Mem) (a an : Nat) (i : Int32) (b bn : Nat) (j n : Int32) (K : Mem → Option ρ) : Option ρ :=
  if 0 ≤ i.toInt ∧ 0 ≤ j.toInt ∧ 0 ≤ n.toInt ∧ i.toInt + n.toInt ≤ an ∧ j.toInt + n.toInt ≤ bn then K (cpI h a i.toNatClampNeg b j.toNatClampNeg n.toNatClampNeg) else none
def cal (x : Option A) (K : A → Option ρ) : Option ρ := x.bind K
def cal2 (x : Option (A × Mem)) (K : A → Mem → Option ρ) : Option ρ := x.bind fun q => K q.1 q.2
def join {β : Type} (k : β) (f : β → Option ρ) : Option ρ := f k
def lo1 (f : A1 → (A1 → Option ρ) → Option ρ) : Nat → A1 → Option ρ | 0, _ => none | n + 1, a => f a (lo1 f n)
def lo2 (f : A1 → A2 → (A1 → A2 → Option ρ) → Option ρ) : Nat → A1 → A2 → Option ρ | 0, _, _ => none | n + 1, a, b => f a b (lo2 f n)
def lo3 (f : A1 → A2 → A3 → (A1 → A2 → A3 → Option ρ) → Option ρ) : Nat → A1 → A2 → A3 → Option ρ | 0, _, _, _ => none | n + 1, a, b, c => f a b c (lo3 f n)
def lo4 (f : A1 → A2 → A3 → A4 → (A1 → A2 → A3 → A4 → Option ρ) → Option ρ) : Nat → A1 → A2 → A3 → A4 → Option ρ | 0, _, _, _, _ => none | n + 1, a, b, c, d => f a b c d (lo4 f n)
def lo5 (f : A1 → A2 → A3 → A4 → A5 → (A1 → A2 → A3 → A4 → A5 → Option ρ) → Option ρ) : Nat → A1 → A2 → A3 → A4 → A5 → Option ρ | 0, _, _, _, _, _ => none | n + 1, a, b, c, d, e => f a b c d e (lo5 f n)
theorem q_nm {e : A} {K : A → Option ρ} (h : nm e K = some r) : ∃ x, e = x ∧ K x = some r := ⟨e, rfl, h⟩
theorem q_cal {x : Option A} {K : A → Option ρ} (h : cal x K = some r) : ∃ v, x = some v ∧ K v = some r := by
  cases x with
  | none => cases h
  | some v => exact ⟨v, rfl, h⟩
theorem q_cal2 {x : Option (A × Mem)} {K : A → Mem → Option ρ} (h : cal2 x K = some r) : ∃ v h1, x = some (v, h1) ∧ K v h1 = some r := by
  cases x with
  | none => cases h
  | some v => exact ⟨v.1, v.2, rfl, h⟩
theorem q_ch {c : Prop} [Decidable c] {x : Option ρ} (h : (if c then x else none) = some r) : c ∧ x = some r := by
  by_cases hc : c
  · rw [if_pos hc] at h; exact ⟨hc, h⟩
  · rw [if_neg hc] at h; cases h
theorem q_nz {y : Int32} {K : Option ρ} (h : nz y K = some r) : ¬ y = 0 ∧ K = some r := by
  unfold nz at h
  by_cases hc : y = 0
  · rw [if_pos hc] at h; cases h
  · rw [if_neg hc] at h; exact ⟨hc, h⟩
theorem q_rZ {v : Int32} {K : Option ρ} (h : rZ v K = some r) : (v = 0 ∨ v = 1) ∧ K = some r := q_ch h
theorem q_rng {i : Int32} {n : Nat} {K : Nat → Option ρ} (h : rng i n K = some r) : ∃ j, j < n ∧ i.toInt = (j : Int) ∧ i.toNatClampNeg = j ∧ K j = some r := by
  obtain ⟨⟨h1, h2⟩, h3⟩ := q_ch h
  have e : i.toInt = (i.toNatClampNeg : Int) := by
    show i.toInt = ((i.toInt.toNat : Nat) : Int)
    omega
  exact ⟨i.toNatClampNeg, by omega, e, rfl, h3⟩
theorem q_t {c : Prop} [d : Decidable c] {x y : Option ρ} (hc : c) (h : (if c then x else y) = some r) : x = some r := by rw [if_pos hc] at h; exact h
theorem q_f {c : Prop} [d : Decidable c] {x y : Option ρ} (hc : ¬ c) (h : (if c then x else y) = some r) : y = some r := by rw [if_neg hc] at h; exact h
theorem q_join0 {P0 : Prop} {k : Option ρ} {f : Option ρ → Option ρ} (h : join k f = some r) (hk : k = some r → P0) (hf : ∀ K : Option ρ, (K = some r → P0) → f K = some r → P) : P := hf k hk h
theorem q_join1 {P0 : A1 → Prop} {k : A1 → Option ρ} {f : (A1 → Option ρ) → Option ρ} (h : join k f = some r) (hk : ∀ a, k a = some r → P0 a) (hf : ∀ K : A1 → Option ρ, (∀ a, K a = some r → P0 a) → f K = some r → P) : P := hf k hk h
theorem q_join2 {P0 : A1 → A2 → Prop} {k : A1 → A2 → Option ρ} {f : (A1 → A2 → Option ρ) → Option ρ} (h : join k f = some r) (hk : ∀ a b, k a b = some r → P0 a b) (hf : ∀ K : A1 → A2 → Option ρ, (∀ a b, K a b = some r → P0 a b) → f K = some r → P) : P := hf k hk h
theorem q_join3 {P0 : A1 → A2 → A3 → Prop} {k : A1 → A2 → A3 → Option ρ} {f : (A1 → A2 → A3 → Option ρ) → Option ρ} (h : join k f = some r) (hk : ∀ a b c, k a b c = some r → P0 a b c) (hf : ∀ K : A1 → A2 → A3 → Option ρ, (∀ a b c, K a b c = some r → P0 a b c) → f K = some r → P) : P := hf k hk h
theorem q_join4 {P0 : A1 → A2 → A3 → A4 → Prop} {k : A1 → A2 → A3 → A4 → Option ρ} {f : (A1 → A2 → A3 → A4 → Option ρ) → Option ρ} (h : join k f = some r) (hk : ∀ a b c d, k a b c d = some r → P0 a b c d) (hf : ∀ K : A1 → A2 → A3 → A4 → Option ρ, (∀ a b c d, K a b c d = some r → P0 a b c d) → f K = some r → P) : P := hf k hk h
theorem q_lo1 {P0 : A1 → Prop} {f : A1 → (A1 → Option ρ) → Option ρ} {n : Nat} {a0 : A1} (h : lo1 f n a0 = some r) (hs : ∀ K : A1 → Option ρ, (∀ a, K a = some r → P0 a) → ∀ a, f a K = some r → P0 a) : P0 a0 := by
  induction n generalizing a0 with
  | zero => cases h
  | succ n ih => exact hs (lo1 f n) (fun _ => ih) a0 h
theorem q_lo2 {P0 : A1 → A2 → Prop} {f : A1 → A2 → (A1 → A2 → Option ρ) → Option ρ} {n : Nat} {a0 : A1} {b0 : A2} (h : lo2 f n a0 b0 = some r) (hs : ∀ K : A1 → A2 → Option ρ, (∀ a b, K a b = some r → P0 a b) → ∀ a b, f a b K = some r → P0 a b) : P0 a0 b0 := by
  induction n generalizing a0 b0 with
  | zero => cases h
  | succ n ih => exact hs (lo2 f n) (fun _ _ => ih) a0 b0 h
theorem q_lo3 {P0 : A1 → A2 → A3 → Prop} {f : A1 → A2 → A3 → (A1 → A2 → A3 → Option ρ) → Option ρ} {n : Nat} {a0 : A1} {b0 : A2} {c0 : A3} (h : lo3 f n a0 b0 c0 = some r) (hs : ∀ K : A1 → A2 → A3 → Option ρ, (∀ a b c, K a b c = some r → P0 a b c) → ∀ a b c, f a b c K = some r → P0 a b c) : P0 a0 b0 c0 := by
  induction n generalizing a0 b0 c0 with
  | zero => cases h
  | succ n ih => exact hs (lo3 f n) (fun _ _ _ => ih) a0 b0 c0 h
theorem q_lo4 {P0 : A1 → A2 → A3 → A4 → Prop} {f : A1 → A2 → A3 → A4 → (A1 → A2 → A3 → A4 → Option ρ) → Option ρ} {n : Nat} {a0 : A1} {b0 : A2} {c0 : A3} {d0 : A4} (h : lo4 f n a0 b0 c0 d0 = some r) (hs : ∀ K : A1 → A2 → A3 → A4 → Option ρ, (∀ a b c d, K a b c d = some r → P0 a b c d) → ∀ a b c d, f a b c d K = some r → P0 a b c d) : P0 a0 b0 c0 d0 := by
  induction n generalizing a0 b0 c0 d0 with
  | zero => cases h
  | succ n ih => exact hs (lo4 f n) (fun _ _ _ _ => ih) a0 b0 c0 d0 h
theorem q_lo5 {P0 : A1 → A2 → A3 → A4 → A5 → Prop} {f : A1 → A2 → A3 → A4 → A5 → (A1 → A2 → A3 → A4 → A5 → Option ρ) → Option ρ} {n : Nat} {a0 : A1} {b0 : A2} {c0 : A3} {d0 : A4} {e0 : A5} (h : lo5 f n a0 b0 c0 d0 e0 = some r) (hs : ∀ K : A1 → A2 → A3 → A4 → A5 → Option ρ, (∀ a b c d e, K a b c d e = some r → P0 a b c d e) → ∀ a b c d e, f a b c d e K = some r → P0 a b c d e) : P0 a0 b0 c0 d0 e0 := by
  induction n generalizing a0 b0 c0 d0 e0 with
  | zero => cases h
  | succ n ih => exact hs (lo5 f n) (fun _ _ _ _ _ => ih) a0 b0 c0 d0 e0 h
end COMB
/-! the cells in their order: (0, n) ints, (1, n) longs, (2, n) references to Sheets, (3 + c, 0) an object of class c -/
def LAY : List (Nat × Nat) := [(13, 0), (0, 6), (12, 0), (6, 0), (0, 25), (0, 25), (0, 25), (8, 0), (0, 50), (0, 50), (8, 0), (0, 50), (0, 50), (0, 50), (0, 20), (12, 0), (6, 0), (0, 25), (0, 25), (0, 25), (8, 0), (0, 50), (0, 50), (8, 0), (0, 50), (0, 50), (0, 50), (0, 20), (2, 4), (3, 0), (6, 0), (0, 25), (0, 25), (0, 25), (9, 0), (0, 50), (0, 50), (11, 0), (0, 40), (5, 0), (6, 0), (0, 25), (0, 25), (0, 25), (3, 0), (0, 3), (0, 3), (1, 3), (0, 201), (1, 201), (7, 0), (6, 0), (0, 25), (0, 25), (0, 25), (3, 0), (4, 0), (6, 0), (0, 25), (0, 25), (0, 25), (3, 0), (0, 5), (0, 20), (10, 0), (0, 40), (10, 0), (0, 40), (10, 0), (0, 40), (10, 0), (0, 40), (14, 0), (0, 305), (0, 305), (0, 305), (0, 305), (0, 6), (0, 3), (0, 1220), (0, 201), (1, 201), (0, 5), (0, 4), (0, 4), (0, 160), (0, 40), (0, 20), (0, 40)]
theorem lay_len : LAY.length = 89 := by decide +kernel
theorem lay_all {x y : Nat × Nat} {d : Nat} (h : (List.range 89).all (fun q => !decide (LAY[q]? = some x) || decide (LAY[q + d]? = some y)) = true) : ∀ q, LAY[q]? = some x → LAY[q + d]? = some y := by
  intro q hq
  have hl : q < LAY.length := (List.getElem?_eq_some_iff.mp hq).1
  rw [lay_len] at hl
  have h1 := List.all_eq_true.mp h q (List.mem_range.mpr hl)
  rw [decide_eq_true hq] at h1
  simpa using h1
/-- the fields of a class: 0 an int, 1 a long, n + 2 a reference to the cell n behind the object's own -/
def FTab : Nat → List Nat := fun c => match c with
  | 0 => [0, 0, 0, 0, 0, 0, 0, 0]
  | 1 => [3, 7, 8, 0, 0, 1, 9, 0, 0, 0, 0]
  | 2 => [3, 7, 8, 9, 10, 11, 12, 0, 0, 0]
  | 3 => [0, 0, 3, 4, 5, 0, 1]
  | 4 => [3, 7, 0, 0, 0, 0, 0]
  | 5 => [0, 3, 0, 4]
  | 6 => [3, 0, 4, 0, 0, 0, 0]
  | 7 => [0, 0, 3]
  | 8 => [3, 0, 0, 0, 0]
  | 9 => [3, 7, 10, 13, 0, 14, 0, 0, 0, 0]
  | 10 => [3, 4, 17, 0, 30, 31, 32, 36, 39, 41, 52, 58]
  | 11 => [3, 4, 5, 6, 0, 0, 7, 0, 0, 0, 0, 0, 0, 0, 0, 0, 0, 0, 0, 0, 0, 0, 0, 0, 8, 9, 0, 0, 0, 10, 11, 0, 12, 0, 13, 14, 15, 16, 17, 18, 0, 0, 0, 0]
  | _ => []
def fv (ad : Nat → Nat) (h : Mem) (q k : Nat) : Nat → Value
  | 0 => .int (gI h q k)
  | 1 => .long (gL h q k)
  | n + 2 => .ref (ad (q + n))
def flds (ad : Nat → Nat) (h : Mem) (q : Nat) : Nat → List Nat → List Value
  | _, [] => []
  | k, c :: cs => fv ad h q k c :: flds ad h q (k + 1) cs
abbrev GG : Type := va_G × (ClassId × ClassId × ClassId) × (Nat → Nat) × (Nat × Nat × Nat)
def shc (ad : Nat → Nat) : Nat → Option Nat := fun j => some (ad (64 + 2 * j))
def en (G : GG) (h : Mem) (q : Nat) (s : Nat × Nat) : va_E := match s.1 with
  | 0 => .inl (G.2.1.1, (s.2, .inl (fun j => gI h q j)))
  | 1 => .inl (G.2.1.2.1, (s.2, .inr (.inl (fun j => gL h q j))))
  | 2 => .inl (G.2.1.2.2, (s.2, .inr (.inr (.inr (.inr (shc G.2.2.1))))))
  | c + 3 => .inr (c, flds G.2.2.1 h q 0 (FTab c))
def wsA (G : GG) (h : Mem) : Nat → List (Nat × Nat) → va_W
  | _, [] => []
  | q, s :: l => (G.2.2.1 q, en G h q s) :: wsA G h (q + 1) l
def wsOf (G : GG) (h : Mem) : va_W := wsA G h 0 LAY
theorem wsA_get (G : GG) (h : Mem) (l : List (Nat × Nat)) : ∀ (n k : Nat), (wsA G h n l)[k]? = (l[k]?).map (fun s => (G.2.2.1 (n + k), en G h (n + k) s)) := by
  induction l with
  | nil => intro n k; rfl
  | cons s l ih =>
    intro n k
    cases k with
    | zero => rfl
    | succ k =>
      show (wsA G h (n + 1) l)[k]? = (l[k]?).map _
      rw [ih (n + 1) k, show n + 1 + k = n + (k + 1) by omega]
theorem ws_get {G : GG} {h : Mem} {q : Nat} {s : Nat × Nat} (hq : LAY[q]? = some s) : (wsOf G h)[q]? = some (G.2.2.1 q, en G h q s) := by
  unfold wsOf
  rw [wsA_get, hq, Nat.zero_add]
  rfl
theorem ws_set {G : GG} {h h' : Mem} {q : Nat} {s : Nat × Nat} {e : va_E} (hq : LAY[q]? = some s) (he : e = en G h' q s) (ho : ∀ (j : Nat) (s' : Nat × Nat), j ≠ q → en G h j s' = en G h' j s') : (wsOf G h).set q (G.2.2.1 q, e) = wsOf G h' := by
  apply List.ext_getElem?
  intro j
  rw [List.getElem?_set]
  unfold wsOf
  by_cases hj : q = j
  · subst hj
    have hl : q < (wsA G h 0 LAY).length := (List.getElem?_eq_some_iff.mp (ws_get (G := G) (h := h) hq)).1
    rw [if_pos rfl, if_pos hl, wsA_get, hq, Nat.zero_add, he]
    rfl
  · rw [if_neg hj, wsA_get, wsA_get, Nat.zero_add]
    cases LAY[j]? with
    | none => rfl
    | some s' => exact congrArg (fun x => some (G.2.2.1 j, x)) (ho j s' (fun z => hj z.symm))
theorem flds_get {ad : Nat → Nat} {h : Mem} {q : Nat} : ∀ {l : List Nat} {n k c : Nat}, l[k]? = some c → (flds ad h q n l)[k]? = some (fv ad h q (n + k) c)
  | [], n, k, c, hk => by cases hk
  | x :: l, n, 0, c, hk => by cases hk; rfl
  | x :: l, n, k + 1, c, hk => by
    show (flds ad h q (n + 1) l)[k]? = _
    rw [flds_get (l := l) hk, show n + 1 + k = n + (k + 1) by omega]
theorem flds_other {ad : Nat → Nat} {h h' : Mem} {q : Nat} (h1 : ∀ k, gI h q k = gI h' q k) (h2 : ∀ k, gL h q k = gL h' q k) : ∀ (l : List Nat) (n : Nat), flds ad h q n l = flds ad h' q n l
  | [], n => rfl
  | c :: l, n => by
    show fv ad h q n c :: flds ad h q (n + 1) l = fv ad h' q n c :: flds ad h' q (n + 1) l
    rw [flds_other h1 h2 l (n + 1)]
    congr 1
    match c with
    | 0 => exact congrArg Value.int (h1 n)
    | 1 => exact congrArg Value.long (h2 n)
    | c + 2 => rfl
theorem en_other {G : GG} {h h' : Mem} {q : Nat} (h1 : ∀ k, gI h q k = gI h' q k) (h2 : ∀ k, gL h q k = gL h' q k) (s : Nat × Nat) : en G h q s = en G h' q s := by
  obtain ⟨t, n⟩ := s
  match t with
  | 0 => show Sum.inl _ = Sum.inl _; rw [show (fun j => gI h q j) = fun j => gI h' q j from funext h1]
  | 1 => show Sum.inl _ = Sum.inl _; rw [show (fun j => gL h q j) = fun j => gL h' q j from funext h2]
  | 2 => rfl
  | c + 3 => exact congrArg (fun l => Sum.inr (c, l)) (flds_other h1 h2 (FTab c) 0)
theorem flds_len {ad : Nat → Nat} {h : Mem} {q : Nat} : ∀ (l : List Nat) (n : Nat), (flds ad h q n l).length = l.length
  | [], _ => rfl
  | _ :: l, n => congrArg (· + 1) (flds_len l (n + 1))
theorem flds_setI {ad : Nat → Nat} {h : Mem} {q : Nat} {v : Int32} {l : List Nat} {k : Nat} (hk : l[k]? = some 0) : (flds ad h q 0 l).set k (.int v) = flds ad (sI h q k v) q 0 l := by
  apply List.ext_getElem?
  intro j
  rw [List.getElem?_set]
  have hkl := (List.getElem?_eq_some_iff.mp hk).1
  by_cases hj : k = j
  · subst hj
    rw [if_pos rfl, if_pos (by rw [flds_len]; exact hkl), flds_get hk, Nat.zero_add]
    show some (Value.int v) = some (Value.int (gI (sI h q k v) q k))
    rw [gI_sI, if_pos ⟨rfl, rfl⟩]
  · rw [if_neg hj]
    cases hl : l[j]? with
    | none =>
      have h1 : l.length ≤ j := List.getElem?_eq_none_iff.mp hl
      rw [List.getElem?_eq_none_iff.mpr (by rw [flds_len]; exact h1), List.getElem?_eq_none_iff.mpr (by rw [flds_len]; exact h1)]
    | some c =>
      rw [flds_get hl, flds_get hl, Nat.zero_add]
      match c with
      | 0 => show some (Value.int _) = some (Value.int _); rw [gI_sI, if_neg (fun z => hj z.2.symm)]
      | 1 => rfl
      | c + 2 => rfl
theorem flds_setL {ad : Nat → Nat} {h : Mem} {q : Nat} {v : Int64} {l : List Nat} {k : Nat} (hk : l[k]? = some 1) : (flds ad h q 0 l).set k (.long v) = flds ad (sL h q k v) q 0 l := by
  apply List.ext_getElem?
  intro j
  rw [List.getElem?_set]
  have hkl := (List.getElem?_eq_some_iff.mp hk).1
  by_cases hj : k = j
  · subst hj
    rw [if_pos rfl, if_pos (by rw [flds_len]; exact hkl), flds_get hk, Nat.zero_add]
    show some (Value.long v) = some (Value.long (gL (sL h q k v) q k))
    rw [gL_sL, if_pos ⟨rfl, rfl⟩]
  · rw [if_neg hj]
    cases hl : l[j]? with
    | none =>
      have h1 : l.length ≤ j := List.getElem?_eq_none_iff.mp hl
      rw [List.getElem?_eq_none_iff.mpr (by rw [flds_len]; exact h1), List.getElem?_eq_none_iff.mpr (by rw [flds_len]; exact h1)]
    | some c =>
      rw [flds_get hl, flds_get hl, Nat.zero_add]
      match c with
      | 0 => rfl
      | 1 => show some (Value.long _) = some (Value.long _); rw [gL_sL, if_neg (fun z => hj z.2.symm)]
      | c + 2 => rfl
theorem sI_oth {G : GG} {h : Mem} {q k : Nat} {v : Int32} (j : Nat) (s' : Nat × Nat) (hj : j ≠ q) : en G h j s' = en G (sI h q k v) j s' :=
  en_other (h := h) (h' := sI h q k v) (fun i => by rw [gI_sI, if_neg (fun z => hj z.1)]) (fun i => rfl) s'
theorem sL_oth {G : GG} {h : Mem} {q k : Nat} {v : Int64} (j : Nat) (s' : Nat × Nat) (hj : j ≠ q) : en G h j s' = en G (sL h q k v) j s' :=
  en_other (h := h) (h' := sL h q k v) (fun i => rfl) (fun i => by rw [gL_sL, if_neg (fun z => hj z.1)]) s'
theorem ws_setI {G : GG} {h : Mem} {q c z k : Nat} {v : Int32} (hq : LAY[q]? = some (c + 3, z)) (hk : (FTab c)[k]? = some 0) : (wsOf G h).set q (G.2.2.1 q, .inr (c, (flds G.2.2.1 h q 0 (FTab c)).set k (.int v))) = wsOf G (sI h q k v) :=
  ws_set hq (by rw [flds_setI hk]; rfl) sI_oth
theorem ws_setL {G : GG} {h : Mem} {q c z k : Nat} {v : Int64} (hq : LAY[q]? = some (c + 3, z)) (hk : (FTab c)[k]? = some 1) : (wsOf G h).set q (G.2.2.1 q, .inr (c, (flds G.2.2.1 h q 0 (FTab c)).set k (.long v))) = wsOf G (sL h q k v) :=
  ws_set hq (by rw [flds_setL hk]; rfl) sL_oth
theorem ws_astI {G : GG} {h : Mem} {q n i : Nat} {v : Int32} (hq : LAY[q]? = some (0, n)) : (wsOf G h).set q (G.2.2.1 q, .inl (G.2.1.1, (n, .inl (upd (fun j => gI h q j) i v)))) = wsOf G (sI h q i v) :=
  ws_set hq (by
    show Sum.inl _ = Sum.inl _
    rw [show (fun j => gI (sI h q i v) q j) = upd (fun j => gI h q j) i v from funext fun j => by
      rw [gI_sI]; unfold upd
      by_cases hj : j = i
      · rw [if_pos ⟨rfl, hj⟩, if_pos hj]
      · rw [if_neg (fun z => hj z.2), if_neg hj]]) sI_oth
theorem ws_astL {G : GG} {h : Mem} {q n i : Nat} {v : Int64} (hq : LAY[q]? = some (1, n)) : (wsOf G h).set q (G.2.2.1 q, .inl (G.2.1.2.1, (n, .inr (.inl (vp_updL (fun j => gL h q j) i v))))) = wsOf G (sL h q i v) :=
  ws_set hq (by
    show Sum.inl _ = Sum.inl _
    rw [show (fun j => gL (sL h q i v) q j) = vp_updL (fun j => gL h q j) i v from funext fun j => by
      rw [gL_sL]; unfold vp_updL
      by_cases hj : j = i
      · rw [if_pos ⟨rfl, hj⟩, if_pos hj]
      · rw [if_neg (fun z => hj z.2), if_neg hj]]) sL_oth
theorem ws_cpI {G : GG} {h : Mem} {a b n i j m : Nat} (hq : LAY[b]? = some (0, n)) : (wsOf G h).set b (G.2.2.1 b, .inl (G.2.1.1, (n, .inl (va_cpy (fun x => gI h a x) (fun x => gI h b x) i j m)))) = wsOf G (cpI h a i b j m) :=
  ws_set hq (by
    show Sum.inl _ = Sum.inl _
    rw [show (fun x => gI (cpI h a i b j m) b x) = va_cpy (fun x => gI h a x) (fun x => gI h b x) i j m from funext fun x => if_pos rfl]) (fun c s' hc => en_other (h := h) (h' := cpI h a i b j m) (fun k => by rw [gI_cpI, if_neg (fun z => hc z.1)]) (fun _ => rfl) s')
theorem inX0 : ∀ w ∈ u_ws RX0 TX0 8, w ∈ TT := by decide +kernel
theorem inX1 : ∀ w ∈ u_ws RX1 TX1 11, w ∈ TT := by decide +kernel
theorem inX2 : ∀ w ∈ u_ws RX2 TX2 10, w ∈ TT := by decide +kernel
theorem inX3 : ∀ w ∈ u_ws RX3 TX3 7, w ∈ TT := by decide +kernel
theorem inX4 : ∀ w ∈ u_ws RX4 TX4 7, w ∈ TT := by decide +kernel
theorem inX5 : ∀ w ∈ u_ws RX5 TX5 4, w ∈ TT := by decide +kernel
theorem inX6 : ∀ w ∈ u_ws RX6 TX6 7, w ∈ TT := by decide +kernel
theorem inX7 : ∀ w ∈ u_ws RX7 TX7 3, w ∈ TT := by decide +kernel
theorem inX8 : ∀ w ∈ u_ws RX8 TX8 5, w ∈ TT := by decide +kernel
theorem inX9 : ∀ w ∈ u_ws RX9 TX9 10, w ∈ TT := by decide +kernel
theorem inX10 : ∀ w ∈ u_ws RX10 TX10 12, w ∈ TT := by decide +kernel
theorem inX11 : ∀ w ∈ u_ws RX11 TX11 44, w ∈ TT := by decide +kernel
theorem wt_X9_hall : ∀ q, LAY[q]? = some (12, 0) → LAY[q + 1]? = some (6, 0) := lay_all (by decide +kernel)
theorem wt_X9_handLaw : ∀ q, LAY[q]? = some (12, 0) → LAY[q + 5]? = some (8, 0) := lay_all (by decide +kernel)
theorem wt_X9_betLaw : ∀ q, LAY[q]? = some (12, 0) → LAY[q + 8]? = some (8, 0) := lay_all (by decide +kernel)
theorem wt_X9_tape : ∀ q, LAY[q]? = some (12, 0) → LAY[q + 11]? = some (0, 50) := lay_all (by decide +kernel)
theorem wt_X9_waits : ∀ q, LAY[q]? = some (12, 0) → LAY[q + 12]? = some (0, 20) := lay_all (by decide +kernel)
theorem wt_X3_kinds : ∀ q, LAY[q]? = some (6, 0) → LAY[q + 1]? = some (0, 25) := lay_all (by decide +kernel)
theorem wt_X3_numbers : ∀ q, LAY[q]? = some (6, 0) → LAY[q + 2]? = some (0, 25) := lay_all (by decide +kernel)
theorem wt_X3_lit : ∀ q, LAY[q]? = some (6, 0) → LAY[q + 3]? = some (0, 25) := lay_all (by decide +kernel)
theorem wt_X5_code : ∀ q, LAY[q]? = some (8, 0) → LAY[q + 1]? = some (0, 50) := lay_all (by decide +kernel)
theorem wt_X5_stack : ∀ q, LAY[q]? = some (8, 0) → LAY[q + 2]? = some (0, 50) := lay_all (by decide +kernel)
theorem wt_X7_numbers : ∀ q, LAY[q]? = some (10, 0) → LAY[q + 1]? = some (0, 40) := lay_all (by decide +kernel)
/-! the world -/
def tabA : Nat → Int32 := fun j => ([-1, 0, 0, 0, 1, 1, 2] : List Int).map iI |>.getD j 0
def tabN : Nat → Int32 := fun j => ([114, 99, 109, 105, 111, 116] : List Int).map iI |>.getD j 0
def tabB : Nat → Int32 := fun j => ([10, 11, 12, 13, 0, 20, 0, 0, 30, 0, 0, 0, 0, 0, 40, 0, 0, 50, 0, 0, 0, 0, 0, 60, 0, 0, 70, 71] : List Int).map iI |>.getD j 0
def WA (G : GG) : Nat → Prop := fun q => ∃ k, k < 89 ∧ q = G.2.2.1 k
def KK (G : GG) (U : State) : Prop := va_K G.1 vwCl [(G.2.1.1, .int), (G.2.1.2.1, .long), (G.2.1.2.2, .object "TurnedBeam$Sheet")] U
def Stat (G : GG) (U : State) (H : Heap) : Prop :=
  (va_Z "TurnedBeam$Hall" "ABOVE" "[I" (.ref G.2.2.2.1) (WA G) U H ∧ va_T .int G.2.2.2.1 7 (fun j => .int (tabA j)) (WA G) U H) ∧
  (va_Z "TurnedBeam$Reader" "NAMES" "[C" (.ref G.2.2.2.2.1) (WA G) U H ∧ va_T .char G.2.2.2.2.1 6 (fun j => .int (tabN j)) (WA G) U H) ∧
  (va_Z "TurnedBeam$Voice" "BODIES" "[I" (.ref G.2.2.2.2.2) (WA G) U H ∧ va_T .int G.2.2.2.2.2 28 (fun j => .int (tabB j)) (WA G) U H)
theorem Stat.moved {G : GG} {u U : State} {H : Heap} (hvm : u.vm.Alike U.vm) (h : Stat G u H) : Stat G U H :=
  ⟨⟨h.1.1.moved hvm, h.1.2.moved hvm⟩, ⟨h.2.1.1.moved hvm, h.2.1.2.moved hvm⟩, ⟨h.2.2.1.moved hvm, h.2.2.2.moved hvm⟩⟩
theorem Stat.kept {G : GG} {U : State} {H H1 : Heap} (h : Stat G U H) (hq : ∀ a : Nat, a < H.size → ¬ WA G a → H1[a]? = H[a]?) : Stat G U H1 :=
  ⟨⟨h.1.1.kept hq, h.1.2.kept hq⟩, ⟨h.2.1.1.kept hq, h.2.1.2.kept hq⟩, ⟨h.2.2.1.kept hq, h.2.2.2.kept hq⟩⟩
/-- the heap H, as it stands in the midst of a method that began at s, holds the memory h -/
def IW (G : GG) (s : State) (h : Mem) (H : Heap) (locs : List Loc) : Prop := va_P G.1 vwCl (wsOf G h) H ∧ va_D (WA G) (wsOf G h) ∧ va_S (WA G) s.heap H locs
def Wd (G : GG) (h : Mem) (U : State) : Prop := va_P G.1 vwCl (wsOf G h) U.heap ∧ va_D (WA G) (wsOf G h) ∧ KK G U ∧ Stat G U U.heap ∧ Nest U
def rmd (d : Nat) : Room := { frames := d, cells := 0, slots := 0, locals := 64 * d }
def Qz (G : GG) (h' : Mem) (r : Option Value) : Array Value → State → Outcome → State → Prop := fun _ st o t => o = .returned r ∧ Wd G h' t ∧ va_F (WA G) st t
/-- THE CONTRACT of a method: with arguments av in a memory h it returns r, and leaves the memory h' -/
def Sat (l : Launch) (G : GG) (y : MethodName) (cc : ByteArray) (n : Nat) (ret : Option FieldType) (d : Nat) (av : List Value) (h : Mem) (r : Option Value) (h' : Mem) : Prop :=
  Met l y (.code y cc n ret :: TT) (rmd d) (va_Pc av (Wd G h)) (Qz G h' r) 0 0 (WA G)
section RETS
variable (p : Program) (l : Launch) (e : Env) (R : Room) (s : State) (m : MethodId) (args : Array Value) (below : List Frame) (meth : Method) (c : Code) (cc : ByteArray) (G : GG) (h' : Mem) (Q : State → Prop)
def RetI (v : Int32) : Prop := ∀ (pc : Nat) (ls : Array Slot) (H : Heap) (locs : List Loc), decode cc pc = .ok (.ireturn, 1) → IW G s h' H locs → W p l e R s m args below meth c H locs 0 0 Q (F0 m pc ls [.int v])
def RetZ (v : Int32) : Prop := (v = 0 ∨ v = 1) → RetI p l e R s m args below meth c cc G h' Q v
def RetL (v : Int64) : Prop := ∀ (pc : Nat) (ls : Array Slot) (H : Heap) (locs : List Loc), decode cc pc = .ok (.lreturn, 1) → IW G s h' H locs → W p l e R s m args below meth c H locs 0 0 Q (F0 m pc ls [.long v])
def RetV : Prop := ∀ (pc : Nat) (ls : Array Slot) (H : Heap) (locs : List Loc), decode cc pc = .ok (.return_, 1) → IW G s h' H locs → W p l e R s m args below meth c H locs 0 0 Q (F0 m pc ls [])
def RetA (v : Nat) : Prop := ∀ (pc : Nat) (ls : Array Slot) (H : Heap) (locs : List Loc), decode cc pc = .ok (.areturn, 1) → IW G s h' H locs → W p l e R s m args below meth c H locs 0 0 Q (F0 m pc ls [.ref v])
end RETS
/-- what a method's walk has at hand -/
def FX (G : GG) (own : String) (cc : ByteArray) (n d : Nat) (p : Program) (R : Room) (s : State) (m : MethodId) (args : Array Value) (c : Code) : Prop :=
  p.tables.exec = Jvm.exec ∧ c.code = cc ∧ c.maxLocals = n ∧ s.vm.findClass own = some m.cls ∧ (∀ w ∈ TT, w.before args s = true) ∧ KK G s ∧ Stat G s s.heap ∧ Nest s ∧ R = rmd d
theorem IW.Wd {G : GG} {s t : State} {h : Mem} {H : Heap} {locs : List Loc} (hw : IW G s h H locs) (hK : KK G s) (hSt : Stat G s s.heap) (hN : Nest s) (ht : t.heap = H) (hW : s.WarmedH t.vm) : Wd G h t :=
  ⟨by rw [ht]; exact hw.1, hw.2.1, va_K.moved hW.alike hK, (by rw [ht]; exact (hSt.kept hw.2.2.2.1).moved hW.alike), hN.warm hW⟩
section MK
variable {l : Launch} {G : GG} {y : MethodName} {cc : ByteArray} {n d : Nat} {av : List Value} {h h' : Mem}
theorem Sat.mk {ret : Option FieldType} {r : Option Value} (hy : plainName y.cls = true) (hn : (lg_sl av).length ≤ n)
    (body : ∀ p e s m args below meth c, FX G y.cls cc n d p (rmd d) s m args c → meth.sig.returnType = ret → meth.locks = false → IW G s h s.heap [] → ∀ ls : Array Slot, lv_has ls n (lv_args 0 av) →
      W p l e (rmd d) s m args below meth c s.heap [] 0 0 (MQ below (Qz G h' r) args s 0 0 (WA G)) (F0 m 0 ls [])) : Sat l G y cc n ret d av h r h' := by
  refine Met.ofW (cc := cc) (maxL := n) (ret := ret) hy rfl ?_
  intro p e s m args below meth c s₁ B hml hv
  obtain ⟨rfl, hP, hD, hK, hSt, hN⟩ := hv
  rw [lg_entry_eq]
  exact body p e s m _ below meth c ⟨B.exec, B.bytes, hml, findClass_of_methodNamed B.named, fun w hw => atoms_spec (ws := .code y cc n ret :: TT) B.pre w (List.mem_cons_of_mem _ hw), hK, hSt, hN, rfl⟩ B.returns B.notSynchronized ⟨hP, hD, va_S.rf⟩ _ (lv_entry av hn)
theorem Sat.mkI {v : Int32} (hy : plainName y.cls = true) (hn : (lg_sl av).length ≤ n)
    (body : ∀ p e R s m args below meth c Q, FX G y.cls cc n d p R s m args c → RetI p l e R s m args below meth c cc G h' Q v → IW G s h s.heap [] → ∀ ls : Array Slot, lv_has ls n (lv_args 0 av) → W p l e R s m args below meth c s.heap [] 0 0 Q (F0 m 0 ls [])) : Sat l G y cc n (some .int) d av h (some (.int v)) h' :=
  Sat.mk hy hn fun p e s m args below meth c F hr hlk hw ls hl => body p e _ s m args below meth c _ F (fun pc ls H locs hd hw => W.iret F.1 F.2.1 hr (fun t ht hW => ⟨rfl, hw.Wd F.2.2.2.2.2.1 F.2.2.2.2.2.2.1 F.2.2.2.2.2.2.2.1 ht hW, hw.2.2.F ht⟩) hw.2.2.2.2 hd) hw ls hl
theorem Sat.mkZ {v : Int32} (hy : plainName y.cls = true) (hn : (lg_sl av).length ≤ n)
    (body : ∀ p e R s m args below meth c Q, FX G y.cls cc n d p R s m args c → RetZ p l e R s m args below meth c cc G h' Q v → IW G s h s.heap [] → ∀ ls : Array Slot, lv_has ls n (lv_args 0 av) → W p l e R s m args below meth c s.heap [] 0 0 Q (F0 m 0 ls [])) : Sat l G y cc n (some .boolean) d av h (some (.int v)) h' :=
  Sat.mk hy hn fun p e s m args below meth c F hr hlk hw ls hl => body p e _ s m args below meth c _ F (fun hv pc ls H locs hd hw => W.zret F.1 F.2.1 hr (by rcases hv with rfl | rfl <;> rfl) (fun t ht hW => ⟨rfl, hw.Wd F.2.2.2.2.2.1 F.2.2.2.2.2.2.1 F.2.2.2.2.2.2.2.1 ht hW, hw.2.2.F ht⟩) hw.2.2.2.2 hd) hw ls hl
theorem Sat.mkL {v : Int64} (hy : plainName y.cls = true) (hn : (lg_sl av).length ≤ n)
    (body : ∀ p e R s m args below meth c Q, FX G y.cls cc n d p R s m args c → RetL p l e R s m args below meth c cc G h' Q v → IW G s h s.heap [] → ∀ ls : Array Slot, lv_has ls n (lv_args 0 av) → W p l e R s m args below meth c s.heap [] 0 0 Q (F0 m 0 ls [])) : Sat l G y cc n (some .long) d av h (some (.long v)) h' :=
  Sat.mk hy hn fun p e s m args below meth c F hr hlk hw ls hl => body p e _ s m args below meth c _ F (fun pc ls H locs hd hw => W.lret F.1 F.2.1 hr (fun t ht hW => ⟨rfl, hw.Wd F.2.2.2.2.2.1 F.2.2.2.2.2.2.1 F.2.2.2.2.2.2.2.1 ht hW, hw.2.2.F ht⟩) hw.2.2.2.2 hd) hw ls hl
theorem Sat.mkV (hy : plainName y.cls = true) (hn : (lg_sl av).length ≤ n)
    (body : ∀ p e R s m args below meth c Q, FX G y.cls cc n d p R s m args c → RetV p l e R s m args below meth c cc G h' Q → IW G s h s.heap [] → ∀ ls : Array Slot, lv_has ls n (lv_args 0 av) → W p l e R s m args below meth c s.heap [] 0 0 Q (F0 m 0 ls [])) : Sat l G y cc n none d av h none h' :=
  Sat.mk hy hn fun p e s m args below meth c F hr hlk hw ls hl => body p e _ s m args below meth c _ F (fun pc ls H locs hd hw => W.vret F.1 F.2.1 hr (fun t ht hW => ⟨rfl, hw.Wd F.2.2.2.2.2.1 F.2.2.2.2.2.2.1 F.2.2.2.2.2.2.2.1 ht hW, hw.2.2.F ht⟩) hw.2.2.2.2 hd) hw ls hl
theorem Sat.mkA {v : Nat} {C : String} (hy : plainName y.cls = true) (hn : (lg_sl av).length ≤ n)
    (body : ∀ p e R s m args below meth c Q, FX G y.cls cc n d p R s m args c → RetA p l e R s m args below meth c cc G h' Q v → IW G s h s.heap [] → ∀ ls : Array Slot, lv_has ls n (lv_args 0 av) → W p l e R s m args below meth c s.heap [] 0 0 Q (F0 m 0 ls [])) : Sat l G y cc n (some (.object C)) d av h (some (.ref v)) h' :=
  Sat.mk hy hn fun p e s m args below meth c F hr hlk hw ls hl => body p e _ s m args below meth c _ F (fun pc ls H locs hd hw => W.aret F.1 F.2.1 hr (Or.inl ⟨_, rfl⟩) (Or.inr ⟨_, rfl⟩) (fun t ht hW => ⟨rfl, hw.Wd F.2.2.2.2.2.1 F.2.2.2.2.2.2.1 F.2.2.2.2.2.2.2.1 ht hW, hw.2.2.F ht⟩) hw.2.2.2.2 hd) hw ls hl
end MK
section ENDS
variable {p : Program} {l : Launch} {e : Env} {R : Room} {s : State} {m : MethodId} {args : Array Value} {below : List Frame} {meth : Method} {c : Code} {cc : ByteArray} {G : GG} {h h' h1 : Mem} {Q : State → Prop} {pc : Nat} {ls : Array Slot} {H : Heap} {locs : List Loc}
theorem q_iretW {v x : Int32} (hret : RetI p l e R s m args below meth c cc G h' Q v) (hd : decode cc pc = .ok (.ireturn, 1)) (hw : IW G s h1 H locs) (hs : some (x, h1) = some (v, h')) : W p l e R s m args below meth c H locs 0 0 Q (F0 m pc ls [.int x]) := by
  cases hs; exact hret pc ls H locs hd hw
theorem q_iret {v x : Int32} (hret : RetI p l e R s m args below meth c cc G h Q v) (hd : decode cc pc = .ok (.ireturn, 1)) (hw : IW G s h H locs) (hs : some x = some v) : W p l e R s m args below meth c H locs 0 0 Q (F0 m pc ls [.int x]) := by
  cases hs; exact hret pc ls H locs hd hw
theorem q_zretW {v x : Int32} (hret : RetZ p l e R s m args below meth c cc G h' Q v) (hd : decode cc pc = .ok (.ireturn, 1)) (hw : IW G s h1 H locs) (hs : rZ x (some (x, h1)) = some (v, h')) : W p l e R s m args below meth c H locs 0 0 Q (F0 m pc ls [.int x]) := by
  obtain ⟨h1, hs⟩ := q_rZ hs
  cases hs; exact hret h1 pc ls H locs hd hw
theorem q_zret {v x : Int32} (hret : RetZ p l e R s m args below meth c cc G h Q v) (hd : decode cc pc = .ok (.ireturn, 1)) (hw : IW G s h H locs) (hs : rZ x (some x) = some v) : W p l e R s m args below meth c H locs 0 0 Q (F0 m pc ls [.int x]) := by
  obtain ⟨h1, hs⟩ := q_rZ hs
  cases hs; exact hret h1 pc ls H locs hd hw
theorem q_lretW {v x : Int64} (hret : RetL p l e R s m args below meth c cc G h' Q v) (hd : decode cc pc = .ok (.lreturn, 1)) (hw : IW G s h1 H locs) (hs : some (x, h1) = some (v, h')) : W p l e R s m args below meth c H locs 0 0 Q (F0 m pc ls [.long x]) := by
  cases hs; exact hret pc ls H locs hd hw
theorem q_lret {v x : Int64} (hret : RetL p l e R s m args below meth c cc G h Q v) (hd : decode cc pc = .ok (.lreturn, 1)) (hw : IW G s h H locs) (hs : some x = some v) : W p l e R s m args below meth c H locs 0 0 Q (F0 m pc ls [.long x]) := by
  cases hs; exact hret pc ls H locs hd hw
theorem q_vret (hret : RetV p l e R s m args below meth c cc G h' Q) (hd : decode cc pc = .ok (.return_, 1)) (hw : IW G s h1 H locs) (hs : some h1 = some h') : W p l e R s m args below meth c H locs 0 0 Q (F0 m pc ls []) := by
  cases hs; exact hret pc ls H locs hd hw
theorem q_aret {v x : Nat} (hret : RetA p l e R s m args below meth c cc G h Q (G.2.2.1 v)) (hd : decode cc pc = .ok (.areturn, 1)) (hw : IW G s h H locs) (hs : some x = some v) : W p l e R s m args below meth c H locs 0 0 Q (F0 m pc ls [.ref (G.2.2.1 x)]) := by
  cases hs; exact hret pc ls H locs hd hw
end ENDS
end
section
/-! what the tables say of a field, of a call: one word each -/
def FG (own : String) (index ci k code : Nat) : Prop := ∃ (C : String) (T : u_T) (N : Nat), vwCl[ci]? = some (C, T, N) ∧ (∀ w ∈ u_ws C T N, w ∈ TT) ∧ k < N ∧ (FTab ci)[k]? = some code ∧ Cond.fieldLink own index (T k).1 (T k).2.1 (T k).2.2.1 ∈ TT
def FP (own : String) (index ci k code : Nat) (ty : FieldType) : Prop := ∃ (C : String) (T : u_T) (N : Nat) (ty0 : Nat → FieldType), vwCl[ci]? = some (C, T, N) ∧ (∀ w ∈ u_ws C T N, w ∈ TT) ∧ (∀ k, k < N → parseFieldDescriptor (T k).2.2.1 = some (ty0 k)) ∧ (∀ a, a < N → ∀ b, b < N → a ≠ b → (T a).2.1 ≠ (T b).2.1) ∧ k < N ∧ (FTab ci)[k]? = some code ∧ Cond.fieldLink own index (T k).1 (T k).2.1 (T k).2.2.1 ∈ TT ∧ (T k).2.2.2 = false ∧ parseFieldDescriptor (T k).2.2.1 = some ty
def NoMH (y : MethodName) (na : Nat) : Prop := y.cls ≠ "java/lang/invoke/MethodHandle" ∧ y.cls ≠ "java/lang/invoke/VarHandle" ∧ (parseMethodDescriptor y.desc).map (fun d => d.parameters.length) = some na
def CV (own : String) (index : Nat) (y : MethodName) (cc : ByteArray) (n : Nat) (ret : Option FieldType) (na : Nat) : Prop :=
  Cond.methodLink own index y ∈ TT ∧ Cond.instanceMethod y ∈ TT ∧ Cond.selects y.cls y y ∈ TT ∧ Cond.initialized y.cls ∈ TT ∧ Cond.code y cc n ret ∈ TT ∧ NoMH y na
def CS (own : String) (index : Nat) (y : MethodName) (cc : ByteArray) (n : Nat) (ret : Option FieldType) (na : Nat) : Prop :=
  Cond.methodLink own index y ∈ TT ∧ Cond.static y ∈ TT ∧ Cond.initialized y.cls ∈ TT ∧ Cond.code y cc n ret ∈ TT ∧ NoMH y na
def CN (own : String) (index : Nat) (y : MethodName) (cc : ByteArray) (n : Nat) (ret : Option FieldType) (na : Nat) : Prop :=
  (∃ host, (own, index, y, host) ∈ NW) ∧ Cond.static y ∈ TT ∧ Cond.initialized y.cls ∈ TT ∧ Cond.code y cc n ret ∈ TT ∧ NoMH y na
theorem good_code {y : MethodName} {cc : ByteArray} {n : Nat} {ret : Option FieldType} (h : Cond.code y cc n ret ∈ TT) : GoodIn TT (.code y cc n ret :: TT) := by
  intro w hw
  rcases List.mem_cons.mp hw with rfl | hw
  · exact ⟨h, TT_good _ h⟩
  · exact ⟨hw, TT_good _ hw⟩
theorem in_of {i : Int32} {n : Nat} (h : 0 ≤ i.toInt ∧ i.toInt < n) : vp_in i n := vp_in_iff.mpr h
def mnI (x y : Int32) : Int32 := if y < x then y else x
def mxI (x y : Int32) : Int32 := if x < y then y else x
def ushI (x y : Int32) : Int32 := (x.toUInt32 >>> (y.toUInt32 &&& Int32.toUInt32 31)).toInt32
def ushL (x : Int64) (y : Int32) : Int64 := (x.toUInt64 >>> (y.toInt64.toUInt64 &&& Int64.toUInt64 63)).toInt64
section ROWS
variable {p : Program} {l : Launch} {e : Env} {R : Room} {s : State} {m : MethodId} {args : Array Value} {below : List Frame} {meth : Method} {c : Code} {H : Heap} {locs : List Loc} {cells slots : Nat} {Q : State → Prop}
variable {cc : ByteArray} {nL pc : Nat} {ls : Array Slot} {rest : List Value} {own : String} {G : GG} {h h' : Mem} {ρ : Type} {r : ρ} {q n index : Nat}
theorem q_topI {x y : Int32} (hxy : x = y) (k : W p l e R s m args below meth c H locs cells slots Q (F0 m pc ls (.int y :: rest))) : W p l e R s m args below meth c H locs cells slots Q (F0 m pc ls (.int x :: rest)) := by rw [hxy]; exact k
theorem q_topL {x y : Int64} (hxy : x = y) (k : W p l e R s m args below meth c H locs cells slots Q (F0 m pc ls (.long y :: rest))) : W p l e R s m args below meth c H locs cells slots Q (F0 m pc ls (.long x :: rest)) := by rw [hxy]; exact k
theorem q_getI {ci z k : Nat} (hx : p.tables.exec = Jvm.exec) (hb : c.code = cc) (hts : ∀ w ∈ TT, w.before args s = true) (hown : s.vm.findClass own = some m.cls) (hK : KK G s) (hw : IW G s h H locs) (hq : LAY[q]? = some (ci + 3, z)) (hF : FG own index ci k 0) (hd : decode cc pc = .ok (.getfield index, 3))
    (kk : W p l e R s m args below meth c H locs cells slots Q (F0 m (pc + 3) ls (.int (gI h q k) :: rest))) : W p l e R s m args below meth c H locs cells slots Q (F0 m pc ls (.ref (G.2.2.1 q) :: rest)) := by
  obtain ⟨C, T, N, h1, h2, h3, h4, h5⟩ := hF
  refine va_get (D := G.1) hx hb hts h2 hown hK hw.1 q (ws_get hq) h1 k h3 (hts _ h5) (fun _ h => h) (flds_get h4) hd ?_
  rw [Nat.zero_add]
  exact kk
theorem q_getL {ci z k : Nat} (hx : p.tables.exec = Jvm.exec) (hb : c.code = cc) (hts : ∀ w ∈ TT, w.before args s = true) (hown : s.vm.findClass own = some m.cls) (hK : KK G s) (hw : IW G s h H locs) (hq : LAY[q]? = some (ci + 3, z)) (hF : FG own index ci k 1) (hd : decode cc pc = .ok (.getfield index, 3))
    (kk : W p l e R s m args below meth c H locs cells slots Q (F0 m (pc + 3) ls (.long (gL h q k) :: rest))) : W p l e R s m args below meth c H locs cells slots Q (F0 m pc ls (.ref (G.2.2.1 q) :: rest)) := by
  obtain ⟨C, T, N, h1, h2, h3, h4, h5⟩ := hF
  refine va_get (D := G.1) hx hb hts h2 hown hK hw.1 q (ws_get hq) h1 k h3 (hts _ h5) (fun _ h => h) (flds_get h4) hd ?_
  rw [Nat.zero_add]
  exact kk
theorem q_getR {ci z k o : Nat} (hx : p.tables.exec = Jvm.exec) (hb : c.code = cc) (hts : ∀ w ∈ TT, w.before args s = true) (hown : s.vm.findClass own = some m.cls) (hK : KK G s) (hw : IW G s h H locs) (hq : LAY[q]? = some (ci + 3, z)) (hF : FG own index ci k (o + 2)) (hd : decode cc pc = .ok (.getfield index, 3))
    (kk : W p l e R s m args below meth c H locs cells slots Q (F0 m (pc + 3) ls (.ref (G.2.2.1 (q + o)) :: rest))) : W p l e R s m args below meth c H locs cells slots Q (F0 m pc ls (.ref (G.2.2.1 q) :: rest)) := by
  obtain ⟨C, T, N, h1, h2, h3, h4, h5⟩ := hF
  refine va_get (D := G.1) hx hb hts h2 hown hK hw.1 q (ws_get hq) h1 k h3 (hts _ h5) (fun _ h => h) (flds_get h4) hd ?_
  exact kk
theorem q_putI {ci z k : Nat} {v : Int32} {K : Mem → Option ρ} (hx : p.tables.exec = Jvm.exec) (hb : c.code = cc) (hts : ∀ w ∈ TT, w.before args s = true) (hown : s.vm.findClass own = some m.cls) (hK : KK G s) (hw : IW G s h H locs) (hq : LAY[q]? = some (ci + 3, z)) (hF : FP own index ci k 0 .int) (hd : decode cc pc = .ok (.putfield index, 3)) (hs : nm (sI h q k v) K = some r)
    (kk : ∀ (h1 : Mem) (H1 : Heap) (locs1 : List Loc), IW G s h1 H1 locs1 → K h1 = some r → W p l e R s m args below meth c H1 locs1 cells slots Q (F0 m (pc + 3) ls rest)) : W p l e R s m args below meth c H locs cells slots Q (F0 m pc ls (.int v :: .ref (G.2.2.1 q) :: rest)) := by
  obtain ⟨C, T, N, ty0, h1, h2, hty, hnm, h3, h4, h5, h6, h7⟩ := hF
  refine va_put (D := G.1) hx hb hts h2 ty0 hty hnm hown hK hw.1 hw.2.1 hw.2.2 q (ws_get hq) h1 k h3 (hts _ h5) (fun _ h => h) h6 h7 rfl rfl (by rw [flds_len]; exact (List.getElem?_eq_some_iff.mp h4).1) hd (fun H1 locs1 hP hD hS => ?_)
  rw [ws_setI hq h4] at hP hD
  exact kk _ H1 locs1 ⟨hP, hD, hS⟩ hs
theorem q_putZ {ci z k : Nat} {v : Int32} {K : Mem → Option ρ} (hx : p.tables.exec = Jvm.exec) (hb : c.code = cc) (hts : ∀ w ∈ TT, w.before args s = true) (hown : s.vm.findClass own = some m.cls) (hK : KK G s) (hw : IW G s h H locs) (hq : LAY[q]? = some (ci + 3, z)) (hF : FP own index ci k 0 .boolean) (hd : decode cc pc = .ok (.putfield index, 3)) (hs : rZ v (nm (sI h q k v) K) = some r)
    (kk : ∀ (h1 : Mem) (H1 : Heap) (locs1 : List Loc), IW G s h1 H1 locs1 → K h1 = some r → W p l e R s m args below meth c H1 locs1 cells slots Q (F0 m (pc + 3) ls rest)) : W p l e R s m args below meth c H locs cells slots Q (F0 m pc ls (.int v :: .ref (G.2.2.1 q) :: rest)) := by
  obtain ⟨C, T, N, ty0, h1, h2, hty, hnm, h3, h4, h5, h6, h7⟩ := hF
  obtain ⟨hv, hs⟩ := q_rZ hs
  refine va_put (D := G.1) hx hb hts h2 ty0 hty hnm hown hK hw.1 hw.2.1 hw.2.2 q (ws_get hq) h1 k h3 (hts _ h5) (fun _ h => h) h6 h7 (by rcases hv with rfl | rfl <;> rfl) (by rcases hv with rfl | rfl <;> rfl) (by rw [flds_len]; exact (List.getElem?_eq_some_iff.mp h4).1) hd (fun H1 locs1 hP hD hS => ?_)
  rw [ws_setI hq h4] at hP hD
  exact kk _ H1 locs1 ⟨hP, hD, hS⟩ hs
theorem q_putL {ci z k : Nat} {v : Int64} {K : Mem → Option ρ} (hx : p.tables.exec = Jvm.exec) (hb : c.code = cc) (hts : ∀ w ∈ TT, w.before args s = true) (hown : s.vm.findClass own = some m.cls) (hK : KK G s) (hw : IW G s h H locs) (hq : LAY[q]? = some (ci + 3, z)) (hF : FP own index ci k 1 .long) (hd : decode cc pc = .ok (.putfield index, 3)) (hs : nm (sL h q k v) K = some r)
    (kk : ∀ (h1 : Mem) (H1 : Heap) (locs1 : List Loc), IW G s h1 H1 locs1 → K h1 = some r → W p l e R s m args below meth c H1 locs1 cells slots Q (F0 m (pc + 3) ls rest)) : W p l e R s m args below meth c H locs cells slots Q (F0 m pc ls (.long v :: .ref (G.2.2.1 q) :: rest)) := by
  obtain ⟨C, T, N, ty0, h1, h2, hty, hnm, h3, h4, h5, h6, h7⟩ := hF
  refine va_put (D := G.1) hx hb hts h2 ty0 hty hnm hown hK hw.1 hw.2.1 hw.2.2 q (ws_get hq) h1 k h3 (hts _ h5) (fun _ h => h) h6 h7 rfl rfl (by rw [flds_len]; exact (List.getElem?_eq_some_iff.mp h4).1) hd (fun H1 locs1 hP hD hS => ?_)
  rw [ws_setL hq h4] at hP hD
  exact kk _ H1 locs1 ⟨hP, hD, hS⟩ hs
theorem q_ald {i : Int32} {K : Int32 → Option ρ} (hx : p.tables.exec = Jvm.exec) (hb : c.code = cc) (hK : KK G s) (hw : IW G s h H locs) (hq : LAY[q]? = some (0, n)) (hd : decode cc pc = .ok (.iaload, 1)) (hs : ald h q n i K = some r)
    (kk : ∀ v : Int32, K v = some r → W p l e R s m args below meth c H locs cells slots Q (F0 m (pc + 1) ls (.int v :: rest))) : W p l e R s m args below meth c H locs cells slots Q (F0 m pc ls (.int i :: .ref (G.2.2.1 q) :: rest)) := by
  obtain ⟨hi, hs⟩ := q_ch hs
  exact va_iald hx hb hK hw.1 q 0 (ws_get hq) rfl (in_of hi) hd (kk _ hs)
theorem q_aldL {i : Int32} {K : Int64 → Option ρ} (hx : p.tables.exec = Jvm.exec) (hb : c.code = cc) (hK : KK G s) (hw : IW G s h H locs) (hq : LAY[q]? = some (1, n)) (hd : decode cc pc = .ok (.laload, 1)) (hs : aldL h q n i K = some r)
    (kk : ∀ v : Int64, K v = some r → W p l e R s m args below meth c H locs cells slots Q (F0 m (pc + 1) ls (.long v :: rest))) : W p l e R s m args below meth c H locs cells slots Q (F0 m pc ls (.int i :: .ref (G.2.2.1 q) :: rest)) := by
  obtain ⟨hi, hs⟩ := q_ch hs
  exact va_lald hx hb hK hw.1 q 1 (ws_get hq) rfl (in_of hi) hd (kk _ hs)
theorem q_ast {i v : Int32} {K : Mem → Option ρ} (hx : p.tables.exec = Jvm.exec) (hb : c.code = cc) (hK : KK G s) (hw : IW G s h H locs) (hq : LAY[q]? = some (0, n)) (hd : decode cc pc = .ok (.iastore, 1)) (hs : ast h q n i v K = some r)
    (kk : ∀ (h1 : Mem) (H1 : Heap) (locs1 : List Loc), IW G s h1 H1 locs1 → K h1 = some r → W p l e R s m args below meth c H1 locs1 cells slots Q (F0 m (pc + 1) ls rest)) : W p l e R s m args below meth c H locs cells slots Q (F0 m pc ls (.int v :: .int i :: .ref (G.2.2.1 q) :: rest)) := by
  obtain ⟨hi, hs⟩ := q_ch hs
  refine va_iast hx hb hK hw.1 hw.2.1 hw.2.2 q 0 (ws_get hq) rfl (in_of hi) hd (fun H1 locs1 hP hD hS => ?_)
  rw [ws_astI hq] at hP hD
  exact kk _ H1 locs1 ⟨hP, hD, hS⟩ hs
theorem q_astL {i : Int32} {v : Int64} {K : Mem → Option ρ} (hx : p.tables.exec = Jvm.exec) (hb : c.code = cc) (hK : KK G s) (hw : IW G s h H locs) (hq : LAY[q]? = some (1, n)) (hd : decode cc pc = .ok (.lastore, 1)) (hs : astL h q n i v K = some r)
    (kk : ∀ (h1 : Mem) (H1 : Heap) (locs1 : List Loc), IW G s h1 H1 locs1 → K h1 = some r → W p l e R s m args below meth c H1 locs1 cells slots Q (F0 m (pc + 1) ls rest)) : W p l e R s m args below meth c H locs cells slots Q (F0 m pc ls (.long v :: .int i :: .ref (G.2.2.1 q) :: rest)) := by
  obtain ⟨hi, hs⟩ := q_ch hs
  refine va_last hx hb hK hw.1 hw.2.1 hw.2.2 q 1 (ws_get hq) rfl (in_of hi) hd (fun H1 locs1 hP hD hS => ?_)
  rw [ws_astL hq] at hP hD
  exact kk _ H1 locs1 ⟨hP, hD, hS⟩ hs
theorem q_aald {i : Int32} {K : Nat → Option ρ} (hx : p.tables.exec = Jvm.exec) (hb : c.code = cc) (hK : KK G s) (hw : IW G s h H locs) (hq : LAY[q]? = some (2, n)) (hd : decode cc pc = .ok (.aaload, 1)) (hs : rng i n K = some r)
    (kk : ∀ j : Nat, j < n → K j = some r → W p l e R s m args below meth c H locs cells slots Q (F0 m (pc + 1) ls (.ref (G.2.2.1 (64 + 2 * j)) :: rest))) : W p l e R s m args below meth c H locs cells slots Q (F0 m pc ls (.int i :: .ref (G.2.2.1 q) :: rest)) := by
  obtain ⟨hi, hs⟩ := q_ch hs
  have hlt : i.toNatClampNeg < n := by
    show i.toInt.toNat < n
    omega
  exact va_aldq hx hb hK hw.1 q 2 (ws_get hq) rfl (in_of hi) hd (kk _ hlt hs)
theorem q_alen (hx : p.tables.exec = Jvm.exec) (hb : c.code = cc) (hK : KK G s) (hw : IW G s h H locs) (hq : LAY[q]? = some (0, n)) (hd : decode cc pc = .ok (.arraylength, 1))
    (kk : W p l e R s m args below meth c H locs cells slots Q (F0 m (pc + 1) ls (.int (Int32.ofNat n) :: rest))) : W p l e R s m args below meth c H locs cells slots Q (F0 m pc ls (.ref (G.2.2.1 q) :: rest)) :=
  va_alen hx hb hK hw.1 q 0 (ws_get hq) rfl rfl hd kk
theorem q_alenA (hx : p.tables.exec = Jvm.exec) (hb : c.code = cc) (hK : KK G s) (hw : IW G s h H locs) (hq : LAY[q]? = some (2, n)) (hd : decode cc pc = .ok (.arraylength, 1))
    (kk : W p l e R s m args below meth c H locs cells slots Q (F0 m (pc + 1) ls (.int (Int32.ofNat n) :: rest))) : W p l e R s m args below meth c H locs cells slots Q (F0 m pc ls (.ref (G.2.2.1 q) :: rest)) :=
  va_alen hx hb hK hw.1 q 2 (ws_get hq) rfl rfl hd kk
/-! static tables -/
theorem q_gets {C d : String} {t : Nat} {nm' : String} (hx : p.tables.exec = Jvm.exec) (hb : c.code = cc) (hts : ∀ w ∈ TT, w.before args s = true) (hown : s.vm.findClass own = some m.cls) (hw : IW G s h H locs) (hZ : va_Z C nm' d (.ref t) (WA G) s s.heap) (hl : Cond.fieldLink own index C nm' d ∈ TT) (hd : decode cc pc = .ok (.getstatic index, 3))
    (kk : W p l e R s m args below meth c H locs cells slots Q (F0 m (pc + 3) ls (.ref t :: rest))) : W p l e R s m args below meth c H locs cells slots Q (F0 m pc ls rest) :=
  va_gets hx hb hZ hw.2.2 hown (hts _ hl) (fun _ h => h) hd kk
theorem q_tldI {i : Int32} {t N : Nat} {f : Nat → Int32} {K : Int32 → Option ρ} (hx : p.tables.exec = Jvm.exec) (hb : c.code = cc) (hw : IW G s h H locs) (hT : va_T .int t N (fun j => .int (f j)) (WA G) s s.heap) (hd : decode cc pc = .ok (.iaload, 1)) (hs : tld f N i K = some r)
    (kk : ∀ v : Int32, K v = some r → W p l e R s m args below meth c H locs cells slots Q (F0 m (pc + 1) ls (.int v :: rest))) : W p l e R s m args below meth c H locs cells slots Q (F0 m pc ls (.int i :: .ref t :: rest)) := by
  obtain ⟨hi, hs⟩ := q_ch hs
  exact va_ti hx hb hT hw.2.2 (in_of hi) rfl hd (kk _ hs)
theorem q_tldC {i : Int32} {t N : Nat} {f : Nat → Int32} {K : Int32 → Option ρ} (hx : p.tables.exec = Jvm.exec) (hb : c.code = cc) (hw : IW G s h H locs) (hT : va_T .char t N (fun j => .int (f j)) (WA G) s s.heap) (hd : decode cc pc = .ok (.caload, 1)) (hs : tld f N i K = some r)
    (kk : ∀ v : Int32, K v = some r → W p l e R s m args below meth c H locs cells slots Q (F0 m (pc + 1) ls (.int v :: rest))) : W p l e R s m args below meth c H locs cells slots Q (F0 m pc ls (.int i :: .ref t :: rest)) := by
  obtain ⟨hi, hs⟩ := q_ch hs
  exact va_tc hx hb hT hw.2.2 (in_of hi) rfl hd (kk _ hs)
theorem q_tlen {t N : Nat} {ty : FieldType} {f : Nat → Value} (hx : p.tables.exec = Jvm.exec) (hb : c.code = cc) (hw : IW G s h H locs) (hT : va_T ty t N f (WA G) s s.heap) (hd : decode cc pc = .ok (.arraylength, 1))
    (kk : W p l e R s m args below meth c H locs cells slots Q (F0 m (pc + 1) ls (.int (Int32.ofNat N) :: rest))) : W p l e R s m args below meth c H locs cells slots Q (F0 m pc ls (.ref t :: rest)) :=
  va_tlen hx hb hT hw.2.2 rfl hd kk
/-! the library's own -/
def MT (own : String) (index : Nat) (y : MethodName) (cc : ByteArray) : Prop := Cond.methodLink own index y ∈ TT ∧ Cond.static y ∈ TT ∧ Cond.initialized "java/lang/Math" ∈ TT ∧ Cond.code y cc 2 (some .int) ∈ TT
theorem q_min {x y : Int32} (hx : p.tables.exec = Jvm.exec) (hb : c.code = cc) (hml : c.maxLocals = nL) (hls : ls.size = nL) (hts : ∀ w ∈ TT, w.before args s = true) (hown : s.vm.findClass own = some m.cls) (hR : 1 ≤ R.frames ∧ (rest.map fun v => v.category).sum + 13 ≤ R.locals ∧ cells ≤ R.cells ∧ slots ≤ R.slots) (hM : MT own index Lib.Math.min.name Lib.Math.min.code) (hd : decode cc pc = .ok (.invokestatic index, 3))
    (kk : W p l e R s m args below meth c H locs cells slots Q (F0 m (pc + 3) ls (.int (mnI x y) :: rest))) : W p l e R s m args below meth c H locs cells slots Q (F0 m pc ls (.int y :: .int x :: rest)) :=
  va_mmin hx hb (hml.trans hls.symm) hown (hts _ hM.1) (hts _ hM.2.1) (hts _ hM.2.2.1) (hts _ hM.2.2.2) hR.1 hR.2.1 hR.2.2.1 hR.2.2.2 hd kk
theorem q_max {x y : Int32} (hx : p.tables.exec = Jvm.exec) (hb : c.code = cc) (hml : c.maxLocals = nL) (hls : ls.size = nL) (hts : ∀ w ∈ TT, w.before args s = true) (hown : s.vm.findClass own = some m.cls) (hR : 1 ≤ R.frames ∧ (rest.map fun v => v.category).sum + 13 ≤ R.locals ∧ cells ≤ R.cells ∧ slots ≤ R.slots) (hM : MT own index Lib.Math.max.name Lib.Math.max.code) (hd : decode cc pc = .ok (.invokestatic index, 3))
    (kk : W p l e R s m args below meth c H locs cells slots Q (F0 m (pc + 3) ls (.int (mxI x y) :: rest))) : W p l e R s m args below meth c H locs cells slots Q (F0 m pc ls (.int y :: .int x :: rest)) :=
  va_mmax hx hb (hml.trans hls.symm) hown (hts _ hM.1) (hts _ hM.2.1) (hts _ hM.2.2.1) (hts _ hM.2.2.2) hR.1 hR.2.1 hR.2.2.1 hR.2.2.2 hd kk
def AC (own : String) (index : Nat) : Prop := Cond.methodLink own index arraycopyName ∈ TT ∧ Cond.native arraycopyName ∈ TT ∧ Cond.static arraycopyName ∈ TT ∧ Cond.initialized "java/lang/System" ∈ TT
theorem q_acp {a b an bn : Nat} {i j k : Int32} {K : Mem → Option ρ} (hx : p.tables.exec = Jvm.exec) (hb : c.code = cc) (hml : c.maxLocals = nL) (hls : ls.size = nL) (hts : ∀ w ∈ TT, w.before args s = true) (hown : s.vm.findClass own = some m.cls) (hK : KK G s) (hw : IW G s h H locs) (ha : LAY[a]? = some (0, an)) (hbb : LAY[b]? = some (0, bn)) (hA : AC own index) (hR : 1 ≤ R.frames ∧ (rest.map fun v => v.category).sum + (nativeFrameWords "java/lang/System" "arraycopy" 5 + 11) ≤ R.locals) (hd : decode cc pc = .ok (.invokestatic index, 3)) (hs : acp h a an i b bn j k K = some r)
    (kk : ∀ (h1 : Mem) (H1 : Heap) (locs1 : List Loc), IW G s h1 H1 locs1 → K h1 = some r → W p l e R s m args below meth c H1 locs1 cells slots Q (F0 m (pc + 3) ls rest)) : W p l e R s m args below meth c H locs cells slots Q (F0 m pc ls (.int k :: .int j :: .ref (G.2.2.1 b) :: .int i :: .ref (G.2.2.1 a) :: rest)) := by
  obtain ⟨⟨h1, h2, h3, h4, h5⟩, hs⟩ := q_ch hs
  have nn : ∀ z : Int32, 0 ≤ z.toInt → ¬ z < 0 := fun z hz q => by
    have := Int32.lt_iff_toInt_lt.mp q
    simp at this
    omega
  have cl : ∀ z : Int32, z.toNatClampNeg = z.toInt.toNat := fun _ => rfl
  refine va_copyi hx hb (hml.trans hls.symm) hown (hts _ hA.1) (hts _ hA.2.1) (hts _ hA.2.2.1) (hts _ hA.2.2.2) hK hw.1 hw.2.1 hw.2.2 a b 0 0 (ws_get ha) (ws_get hbb) rfl rfl rfl (nn _ h1) (nn _ h2) (nn _ h3) (by simp only [cl]; omega) (by simp only [cl]; omega) (fun _ _ => rfl) hR.1 hR.2 hd (fun H1 locs1 hP hD hS => ?_)
  rw [ws_cpI hbb] at hP hD
  exact kk _ H1 locs1 ⟨hP, hD, hS⟩ hs
/-! calls -/
theorem q_run {st0 : List Value} {rr : Option Value} {a : Array Value} (hw : IW G s h H locs) (hr : va_Run p l e R s m args below meth c H locs cells slots 0 0 (F0 m pc ls st0) rest (Qz G h' rr a) (WA G))
    (kk : ∀ (H1 : Heap) (locs1 : List Loc), IW G s h' H1 locs1 → W p l e R s m args below meth c H1 locs1 cells slots Q (F0 m (pc + 3) ls (rr.toList ++ rest))) : W p l e R s m args below meth c H locs cells slots Q (F0 m pc ls st0) := by
  intro T hT X
  obtain ⟨v, st₀, t, T', L, h0, X', hL, e1, e2, ⟨hv, hWd, hF⟩, st⟩ := hr T hT X
  cases hv
  obtain ⟨hz, hk⟩ := hF
  rw [h0] at hz hk
  obtain ⟨t2, a1, b1⟩ := kk T'.heap (locs ++ L) ⟨by rw [e1]; exact hWd.1, hWd.2.1, Nat.le_trans hw.2.2.1 (by rw [e1]; exact hz), fun q h1 h2 => by rw [e1, hk q (Nat.lt_of_lt_of_le h1 hw.2.2.1) h2]; exact hw.2.2.2.1 q h1 h2, fun q hq => by
      rcases List.mem_append.mp hq with h | h
      · exact hw.2.2.2.2 q h
      · exact hL q h⟩ T' rfl X'
  exact ⟨t2, st t2 a1, b1⟩
theorem blind {av : List Value} : FrameBlind (va_Pc av (Wd G h)) := by
  intro a U g mk q
  obtain ⟨q0, qP, qD, qK, qS, qN⟩ := q
  exact ⟨q0, qP, qD, va_K.moved (u := U) (U := U.calling g mk a) (Vm.Alike.refl U.vm) qK, Stat.moved (u := U) (U := U.calling g mk a) (Vm.Alike.refl U.vm) qS, Nest.same (u := U) (U := U.calling g mk a) rfl qN⟩
theorem q_preV {ci z : Nat} {As : List Value} {CC : String} {T : u_T} {N : Nat} (hw : IW G s h H locs) (hK : KK G s) (hSt : Stat G s s.heap) (hN : Nest s) (hq : LAY[q]? = some (ci + 3, z)) (hc : vwCl[ci]? = some (CC, T, N)) : PreV s H CC (G.2.2.1 q) (va_Pc (.ref (G.2.2.1 q) :: As) (Wd G h)) As :=
  ⟨blind, va_recv hK hw.1 hc (ws_get hq), fun U hU hW => ⟨rfl, hw.Wd hK hSt hN hU hW⟩⟩
theorem q_preS {As : List Value} (hw : IW G s h H locs) (hK : KK G s) (hSt : Stat G s s.heap) (hN : Nest s) : PreS s H (va_Pc As (Wd G h)) As :=
  ⟨blind, fun U hU hW => ⟨rfl, hw.Wd hK hSt hN hU hW⟩⟩
variable {y : MethodName} {bytes : ByteArray} {maxL na d : Nat} {ret : Option FieldType} {As : List Value} {rr : Option Value}
theorem q_callV {ci z : Nat} {T : u_T} {N : Nat} (hx : p.tables.exec = Jvm.exec) (hb : c.code = cc) (hml : c.maxLocals = nL) (hls : ls.size = nL) (hts : ∀ w ∈ TT, w.before args s = true) (hown : s.vm.findClass own = some m.cls) (hK : KK G s) (hSt : Stat G s s.heap) (hN : Nest s) (hw : IW G s h H locs)
    (hM : Sat l G y bytes maxL ret d (.ref (G.2.2.1 q) :: As) h rr h') (hq : LAY[q]? = some (ci + 3, z)) (hc : vwCl[ci]? = some (y.cls, T, N)) (hC : CV own index y bytes maxL ret na) (hR : d + 1 ≤ R.frames ∧ 8 + (maxL + 11) + 64 * d ≤ R.locals ∧ cells ≤ R.cells ∧ slots ≤ R.slots) (hn : As.length = na) (hcat : (rest.map fun v => v.category).sum ≤ 8) {st0 : List Value} (hst : st0 = As.reverse ++ .ref (G.2.2.1 q) :: rest) (hd : decode cc pc = .ok (.invokevirtual index, 3))
    (kk : ∀ (H1 : Heap) (locs1 : List Loc), IW G s h' H1 locs1 → W p l e R s m args below meth c H1 locs1 cells slots Q (F0 m (pc + 3) ls (rr.toList ++ rest))) : W p l e R s m args below meth c H locs cells slots Q (F0 m pc ls st0) := by
  obtain ⟨c1, c2, c3, c4, c5, c6⟩ := hC
  refine q_run hw (va_runV (As := As) (rest := rest) ⟨hx, hb, hml, hown, hts⟩ hM (cwV na hts (fun w hw => ?_) rfl rfl rfl ⟨rfl, c6⟩ ⟨hR.1, hR.2.1⟩) (q_preV hw hK hSt hN hq hc) rfl hn hls hst (lv_room hcat) hd ⟨hR.2.2.1, hR.2.2.2⟩) kk
  unfold wsV at hw
  rcases List.mem_append.mp hw with hw | hw
  · simp only [List.mem_cons, List.not_mem_nil, or_false] at hw
    rcases hw with rfl | rfl | rfl | rfl
    · exact ⟨c1, TT_good _ c1⟩
    · exact ⟨c2, TT_good _ c2⟩
    · exact ⟨c3, TT_good _ c3⟩
    · exact ⟨c4, TT_good _ c4⟩
  · exact good_code c5 w hw
theorem q_callS (hx : p.tables.exec = Jvm.exec) (hb : c.code = cc) (hml : c.maxLocals = nL) (hls : ls.size = nL) (hts : ∀ w ∈ TT, w.before args s = true) (hown : s.vm.findClass own = some m.cls) (hK : KK G s) (hSt : Stat G s s.heap) (hN : Nest s) (hw : IW G s h H locs)
    (hM : Sat l G y bytes maxL ret d As h rr h') (hC : CS own index y bytes maxL ret na) (hR : d + 1 ≤ R.frames ∧ 8 + (maxL + 11) + 64 * d ≤ R.locals ∧ cells ≤ R.cells ∧ slots ≤ R.slots) (hn : As.length = na) (hcat : (rest.map fun v => v.category).sum ≤ 8) {st0 : List Value} (hst : st0 = As.reverse ++ rest) (hd : decode cc pc = .ok (.invokestatic index, 3))
    (kk : ∀ (H1 : Heap) (locs1 : List Loc), IW G s h' H1 locs1 → W p l e R s m args below meth c H1 locs1 cells slots Q (F0 m (pc + 3) ls (rr.toList ++ rest))) : W p l e R s m args below meth c H locs cells slots Q (F0 m pc ls st0) := by
  obtain ⟨c1, c2, c3, c4, c5⟩ := hC
  refine q_run hw (va_runS (As := As) (rest := rest) ⟨hx, hb, hml, hown, hts⟩ hM (va_cwS na hts (fun w hw => ?_) rfl rfl rfl c5 ⟨hR.1, hR.2.1⟩) (q_preS hw hK hSt hN) rfl hn hls hst (lv_room hcat) hd ⟨hR.2.2.1, hR.2.2.2⟩) kk
  unfold va_wsS at hw
  rcases List.mem_append.mp hw with hw | hw
  · simp only [List.mem_cons, List.not_mem_nil, or_false] at hw
    rcases hw with rfl | rfl | rfl
    · exact ⟨c1, TT_good _ c1⟩
    · exact ⟨c2, TT_good _ c2⟩
    · exact ⟨c3, TT_good _ c3⟩
  · exact good_code c4 w hw
theorem q_callN (hx : p.tables.exec = Jvm.exec) (hb : c.code = cc) (hml : c.maxLocals = nL) (hls : ls.size = nL) (hts : ∀ w ∈ TT, w.before args s = true) (hown : s.vm.findClass own = some m.cls) (hK : KK G s) (hSt : Stat G s s.heap) (hN : Nest s) (hw : IW G s h H locs)
    (hM : Sat l G y bytes maxL ret d As h rr h') (hC : CN own index y bytes maxL ret na) (hR : d + 1 ≤ R.frames ∧ 8 + (maxL + 11) + 64 * d ≤ R.locals ∧ cells ≤ R.cells ∧ slots ≤ R.slots) (hn : As.length = na) (hcat : (rest.map fun v => v.category).sum ≤ 8) {st0 : List Value} (hst : st0 = As.reverse ++ rest) (hd : decode cc pc = .ok (.invokestatic index, 3))
    (kk : ∀ (H1 : Heap) (locs1 : List Loc), IW G s h' H1 locs1 → W p l e R s m args below meth c H1 locs1 cells slots Q (F0 m (pc + 3) ls (rr.toList ++ rest))) : W p l e R s m args below meth c H locs cells slots Q (F0 m pc ls st0) := by
  obtain ⟨⟨host, c1⟩, c2, c3, c4, c5⟩ := hC
  exact q_run hw (va_runSN (As := As) (rest := rest) ⟨hx, hb, hml, hown, hts⟩ hM ⟨va_cnB na hts (good_code c4) rfl rfl rfl (hN _ c1) (hts _ c3) c5 ⟨hR.1, hR.2.1⟩, hts _ c2, trivial⟩ (q_preS hw hK hSt hN) rfl hn hls hst (lv_room hcat) hd ⟨hR.2.2.1, hR.2.2.2⟩) kk
/-! switches -/
theorem q_tout {dflt lo hi : Int} {offs : Array Int} {len : Nat} {x : Int32} {tgt : Nat} (hx : p.tables.exec = Jvm.exec) (hb : c.code = cc) (hdg : decode cc pc = .ok (.tableswitch dflt lo hi offs, len)) (h : x.toInt < lo ∨ hi < x.toInt) (ht : (pc : Int) + dflt = (tgt : Int))
    (k : W p l e R s m args below meth c H locs cells slots Q (F0 m tgt ls rest)) : W p l e R s m args below meth c H locs cells slots Q (F0 m pc ls (.int x :: rest)) := lv_tableOut hx hb hdg h ht k
end ROWS
theorem toInt_ne {x : Int32} {z : Int} (h : ¬ x = iI z) : ¬ x.toInt = z := fun q => h (by rw [← q]; exact (Int32.ofInt_toInt ..).symm)
end
