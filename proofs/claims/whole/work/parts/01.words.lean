-- ===== PART A: goes FIRST, ahead of the names: the tables' words, and 'selects' of the private methods out of them =====
/-- a private method of a class that the tables say can be made, by its rows of tables_1 -/
def lw_okq (q : MethodName × Nat) : Prop := (q.1.cls ≠ "java/lang/invoke/MethodHandle" ∧ q.1.cls ≠ "java/lang/invoke/VarHandle") ∧ Cond.instantiable q.1.cls q.2 ∈ tables_1 ∧ Cond.privateMethod q.1 ∈ tables_1 ∧ Cond.instanceMethod q.1 ∈ tables_1
theorem lw_p0 : lw_okq (⟨"NearNothing", "refusal", "(ZZZZ)I"⟩, 13) := ⟨⟨by decide +kernel, by decide +kernel⟩, List.mem_of_getElem? (i := 19) (by decide +kernel), List.mem_of_getElem? (i := 456) (by decide +kernel), List.mem_of_getElem? (i := 457) (by decide +kernel)⟩
theorem lw_p1 : lw_okq (⟨"NearNothing", "refuse", "(I)I"⟩, 13) := ⟨⟨by decide +kernel, by decide +kernel⟩, List.mem_of_getElem? (i := 19) (by decide +kernel), List.mem_of_getElem? (i := 460) (by decide +kernel), List.mem_of_getElem? (i := 461) (by decide +kernel)⟩
theorem lw_p2 : lw_okq (⟨"NearNothing$Grains", "giveOff", "(LNearNothing$Plant;)V"⟩, 7) := ⟨⟨by decide +kernel, by decide +kernel⟩, List.mem_of_getElem? (i := 118) (by decide +kernel), List.mem_of_getElem? (i := 522) (by decide +kernel), List.mem_of_getElem? (i := 523) (by decide +kernel)⟩
theorem lw_p3 : lw_okq (⟨"NearNothing$Grains", "leakIn", "(LNearNothing$Plant;)V"⟩, 7) := ⟨⟨by decide +kernel, by decide +kernel⟩, List.mem_of_getElem? (i := 118) (by decide +kernel), List.mem_of_getElem? (i := 531) (by decide +kernel), List.mem_of_getElem? (i := 532) (by decide +kernel)⟩
theorem lw_p4 : lw_okq (⟨"NearNothing$Grains", "flow", "(LNearNothing$Plant;III)V"⟩, 7) := ⟨⟨by decide +kernel, by decide +kernel⟩, List.mem_of_getElem? (i := 118) (by decide +kernel), List.mem_of_getElem? (i := 538) (by decide +kernel), List.mem_of_getElem? (i := 539) (by decide +kernel)⟩
theorem lw_p5 : lw_okq (⟨"NearNothing$Grains", "draw", "(LNearNothing$Plant;I)V"⟩, 7) := ⟨⟨by decide +kernel, by decide +kernel⟩, List.mem_of_getElem? (i := 118) (by decide +kernel), List.mem_of_getElem? (i := 550) (by decide +kernel), List.mem_of_getElem? (i := 551) (by decide +kernel)⟩
theorem lw_p6 : lw_okq (⟨"NearNothing$Grains", "held", "(I)I"⟩, 7) := ⟨⟨by decide +kernel, by decide +kernel⟩, List.mem_of_getElem? (i := 118) (by decide +kernel), List.mem_of_getElem? (i := 554) (by decide +kernel), List.mem_of_getElem? (i := 555) (by decide +kernel)⟩
theorem lw_p7 : lw_okq (⟨"NearNothing$Grains", "giveBack", "(LNearNothing$Plant;I)V"⟩, 7) := ⟨⟨by decide +kernel, by decide +kernel⟩, List.mem_of_getElem? (i := 118) (by decide +kernel), List.mem_of_getElem? (i := 558) (by decide +kernel), List.mem_of_getElem? (i := 559) (by decide +kernel)⟩
theorem lw_p8 : lw_okq (⟨"NearNothing$Reader", "go", "()V"⟩, 8) := ⟨⟨by decide +kernel, by decide +kernel⟩, List.mem_of_getElem? (i := 174) (by decide +kernel), List.mem_of_getElem? (i := 610) (by decide +kernel), List.mem_of_getElem? (i := 611) (by decide +kernel)⟩
theorem lw_p9 : lw_okq (⟨"NearNothing$Reader", "skip", "(I)Z"⟩, 8) := ⟨⟨by decide +kernel, by decide +kernel⟩, List.mem_of_getElem? (i := 174) (by decide +kernel), List.mem_of_getElem? (i := 614) (by decide +kernel), List.mem_of_getElem? (i := 615) (by decide +kernel)⟩
theorem lw_p10 : lw_okq (⟨"NearNothing$Reader", "digit", "()I"⟩, 8) := ⟨⟨by decide +kernel, by decide +kernel⟩, List.mem_of_getElem? (i := 174) (by decide +kernel), List.mem_of_getElem? (i := 618) (by decide +kernel), List.mem_of_getElem? (i := 619) (by decide +kernel)⟩
theorem lw_p11 : lw_okq (⟨"NearNothing$Reader", "test", "(I)Z"⟩, 8) := ⟨⟨by decide +kernel, by decide +kernel⟩, List.mem_of_getElem? (i := 174) (by decide +kernel), List.mem_of_getElem? (i := 622) (by decide +kernel), List.mem_of_getElem? (i := 623) (by decide +kernel)⟩
theorem lw_p12 : lw_okq (⟨"NearNothing$Reader", "term", "(I)Z"⟩, 8) := ⟨⟨by decide +kernel, by decide +kernel⟩, List.mem_of_getElem? (i := 174) (by decide +kernel), List.mem_of_getElem? (i := 626) (by decide +kernel), List.mem_of_getElem? (i := 627) (by decide +kernel)⟩
theorem lw_p13 : lw_okq (⟨"NearNothing$Reader", "part", "(I)Z"⟩, 8) := ⟨⟨by decide +kernel, by decide +kernel⟩, List.mem_of_getElem? (i := 174) (by decide +kernel), List.mem_of_getElem? (i := 630) (by decide +kernel), List.mem_of_getElem? (i := 631) (by decide +kernel)⟩
theorem lw_p14 : lw_okq (⟨"NearNothing$Reader", "comparison", "()Z"⟩, 8) := ⟨⟨by decide +kernel, by decide +kernel⟩, List.mem_of_getElem? (i := 174) (by decide +kernel), List.mem_of_getElem? (i := 634) (by decide +kernel), List.mem_of_getElem? (i := 635) (by decide +kernel)⟩
theorem lw_p15 : lw_okq (⟨"NearNothing$Reader", "among", "(IIIII)I"⟩, 8) := ⟨⟨by decide +kernel, by decide +kernel⟩, List.mem_of_getElem? (i := 174) (by decide +kernel), List.mem_of_getElem? (i := 638) (by decide +kernel), List.mem_of_getElem? (i := 639) (by decide +kernel)⟩
def lw_privs_1 : List (MethodName × Nat) := [(⟨"NearNothing", "refusal", "(ZZZZ)I"⟩, 13), (⟨"NearNothing", "refuse", "(I)I"⟩, 13), (⟨"NearNothing$Grains", "giveOff", "(LNearNothing$Plant;)V"⟩, 7), (⟨"NearNothing$Grains", "leakIn", "(LNearNothing$Plant;)V"⟩, 7), (⟨"NearNothing$Grains", "flow", "(LNearNothing$Plant;III)V"⟩, 7), (⟨"NearNothing$Grains", "draw", "(LNearNothing$Plant;I)V"⟩, 7), (⟨"NearNothing$Grains", "held", "(I)I"⟩, 7), (⟨"NearNothing$Grains", "giveBack", "(LNearNothing$Plant;I)V"⟩, 7), (⟨"NearNothing$Reader", "go", "()V"⟩, 8), (⟨"NearNothing$Reader", "skip", "(I)Z"⟩, 8), (⟨"NearNothing$Reader", "digit", "()I"⟩, 8), (⟨"NearNothing$Reader", "test", "(I)Z"⟩, 8), (⟨"NearNothing$Reader", "term", "(I)Z"⟩, 8), (⟨"NearNothing$Reader", "part", "(I)Z"⟩, 8), (⟨"NearNothing$Reader", "comparison", "()Z"⟩, 8), (⟨"NearNothing$Reader", "among", "(IIIII)I"⟩, 8)]
theorem lw_r1 : ∀ q ∈ lw_privs_1, lw_okq q := List.forall_mem_cons.mpr ⟨lw_p0, List.forall_mem_cons.mpr ⟨lw_p1, List.forall_mem_cons.mpr ⟨lw_p2, List.forall_mem_cons.mpr ⟨lw_p3, List.forall_mem_cons.mpr ⟨lw_p4, List.forall_mem_cons.mpr ⟨lw_p5, List.forall_mem_cons.mpr ⟨lw_p6, List.forall_mem_cons.mpr ⟨lw_p7, List.forall_mem_cons.mpr ⟨lw_p8, List.forall_mem_cons.mpr ⟨lw_p9, List.forall_mem_cons.mpr ⟨lw_p10, List.forall_mem_cons.mpr ⟨lw_p11, List.forall_mem_cons.mpr ⟨lw_p12, List.forall_mem_cons.mpr ⟨lw_p13, List.forall_mem_cons.mpr ⟨lw_p14, List.forall_mem_cons.mpr ⟨lw_p15, fun _ h => absurd h List.not_mem_nil⟩⟩⟩⟩⟩⟩⟩⟩⟩⟩⟩⟩⟩⟩⟩⟩
theorem lw_p16 : lw_okq (⟨"NearNothing$Reader", "number", "()I"⟩, 8) := ⟨⟨by decide +kernel, by decide +kernel⟩, List.mem_of_getElem? (i := 174) (by decide +kernel), List.mem_of_getElem? (i := 642) (by decide +kernel), List.mem_of_getElem? (i := 643) (by decide +kernel)⟩
theorem lw_p17 : lw_okq (⟨"NearNothing$Reader", "add", "(I)V"⟩, 8) := ⟨⟨by decide +kernel, by decide +kernel⟩, List.mem_of_getElem? (i := 174) (by decide +kernel), List.mem_of_getElem? (i := 646) (by decide +kernel), List.mem_of_getElem? (i := 647) (by decide +kernel)⟩
theorem lw_p18 : lw_okq (⟨"NearNothing$Rules", "holds", "(II)Z"⟩, 8) := ⟨⟨by decide +kernel, by decide +kernel⟩, List.mem_of_getElem? (i := 211) (by decide +kernel), List.mem_of_getElem? (i := 675) (by decide +kernel), List.mem_of_getElem? (i := 676) (by decide +kernel)⟩
theorem lw_p19 : lw_okq (⟨"NearNothing$Rules", "compares", "(II)Z"⟩, 8) := ⟨⟨by decide +kernel, by decide +kernel⟩, List.mem_of_getElem? (i := 211) (by decide +kernel), List.mem_of_getElem? (i := 680) (by decide +kernel), List.mem_of_getElem? (i := 681) (by decide +kernel)⟩
theorem lw_p20 : lw_okq (⟨"NearNothing$Acts", "dropFirst", "()V"⟩, 5) := ⟨⟨by decide +kernel, by decide +kernel⟩, List.mem_of_getElem? (i := 151) (by decide +kernel), List.mem_of_getElem? (i := 693) (by decide +kernel), List.mem_of_getElem? (i := 694) (by decide +kernel)⟩
theorem lw_p21 : lw_okq (⟨"NearNothing$Starts", "next", "(III)I"⟩, 2) := ⟨⟨by decide +kernel, by decide +kernel⟩, List.mem_of_getElem? (i := 246) (by decide +kernel), List.mem_of_getElem? (i := 737) (by decide +kernel), List.mem_of_getElem? (i := 738) (by decide +kernel)⟩
theorem lw_p22 : lw_okq (⟨"NearNothing$Rest", "findReached", "()V"⟩, 10) := ⟨⟨by decide +kernel, by decide +kernel⟩, List.mem_of_getElem? (i := 260) (by decide +kernel), List.mem_of_getElem? (i := 751) (by decide +kernel), List.mem_of_getElem? (i := 752) (by decide +kernel)⟩
theorem lw_p23 : lw_okq (⟨"NearNothing$Rest", "join", "(I)V"⟩, 10) := ⟨⟨by decide +kernel, by decide +kernel⟩, List.mem_of_getElem? (i := 260) (by decide +kernel), List.mem_of_getElem? (i := 755) (by decide +kernel), List.mem_of_getElem? (i := 756) (by decide +kernel)⟩
theorem lw_p24 : lw_okq (⟨"NearNothing$Rest", "findSpeeds", "(II)V"⟩, 10) := ⟨⟨by decide +kernel, by decide +kernel⟩, List.mem_of_getElem? (i := 260) (by decide +kernel), List.mem_of_getElem? (i := 759) (by decide +kernel), List.mem_of_getElem? (i := 760) (by decide +kernel)⟩
theorem lw_p25 : lw_okq (⟨"NearNothing$Rest", "isClosed", "(I)Z"⟩, 10) := ⟨⟨by decide +kernel, by decide +kernel⟩, List.mem_of_getElem? (i := 260) (by decide +kernel), List.mem_of_getElem? (i := 764) (by decide +kernel), List.mem_of_getElem? (i := 765) (by decide +kernel)⟩
theorem lw_p26 : lw_okq (⟨"NearNothing$Rest", "fill", "(I)V"⟩, 10) := ⟨⟨by decide +kernel, by decide +kernel⟩, List.mem_of_getElem? (i := 260) (by decide +kernel), List.mem_of_getElem? (i := 769) (by decide +kernel), List.mem_of_getElem? (i := 770) (by decide +kernel)⟩
theorem lw_p27 : lw_okq (⟨"NearNothing$Rest", "determinant", "(I)J"⟩, 10) := ⟨⟨by decide +kernel, by decide +kernel⟩, List.mem_of_getElem? (i := 260) (by decide +kernel), List.mem_of_getElem? (i := 776) (by decide +kernel), List.mem_of_getElem? (i := 777) (by decide +kernel)⟩
theorem lw_p28 : lw_okq (⟨"NearNothing$Drawing", "step", "()V"⟩, 5) := ⟨⟨by decide +kernel, by decide +kernel⟩, List.mem_of_getElem? (i := 299) (by decide +kernel), List.mem_of_getElem? (i := 804) (by decide +kernel), List.mem_of_getElem? (i := 805) (by decide +kernel)⟩
theorem lw_p29 : lw_okq (⟨"NearNothing$Drawing", "go", "(III)V"⟩, 5) := ⟨⟨by decide +kernel, by decide +kernel⟩, List.mem_of_getElem? (i := 299) (by decide +kernel), List.mem_of_getElem? (i := 808) (by decide +kernel), List.mem_of_getElem? (i := 809) (by decide +kernel)⟩
theorem lw_p30 : lw_okq (⟨"NearNothing$Gauges", "bound", "(III)V"⟩, 6) := ⟨⟨by decide +kernel, by decide +kernel⟩, List.mem_of_getElem? (i := 321) (by decide +kernel), List.mem_of_getElem? (i := 845) (by decide +kernel), List.mem_of_getElem? (i := 846) (by decide +kernel)⟩
theorem lw_p31 : lw_okq (⟨"NearNothing$Gauges", "narrow", "(III)V"⟩, 6) := ⟨⟨by decide +kernel, by decide +kernel⟩, List.mem_of_getElem? (i := 321) (by decide +kernel), List.mem_of_getElem? (i := 849) (by decide +kernel), List.mem_of_getElem? (i := 850) (by decide +kernel)⟩
def lw_privs_2 : List (MethodName × Nat) := [(⟨"NearNothing$Reader", "number", "()I"⟩, 8), (⟨"NearNothing$Reader", "add", "(I)V"⟩, 8), (⟨"NearNothing$Rules", "holds", "(II)Z"⟩, 8), (⟨"NearNothing$Rules", "compares", "(II)Z"⟩, 8), (⟨"NearNothing$Acts", "dropFirst", "()V"⟩, 5), (⟨"NearNothing$Starts", "next", "(III)I"⟩, 2), (⟨"NearNothing$Rest", "findReached", "()V"⟩, 10), (⟨"NearNothing$Rest", "join", "(I)V"⟩, 10), (⟨"NearNothing$Rest", "findSpeeds", "(II)V"⟩, 10), (⟨"NearNothing$Rest", "isClosed", "(I)Z"⟩, 10), (⟨"NearNothing$Rest", "fill", "(I)V"⟩, 10), (⟨"NearNothing$Rest", "determinant", "(I)J"⟩, 10), (⟨"NearNothing$Drawing", "step", "()V"⟩, 5), (⟨"NearNothing$Drawing", "go", "(III)V"⟩, 5), (⟨"NearNothing$Gauges", "bound", "(III)V"⟩, 6), (⟨"NearNothing$Gauges", "narrow", "(III)V"⟩, 6)]
theorem lw_r2 : ∀ q ∈ lw_privs_2, lw_okq q := List.forall_mem_cons.mpr ⟨lw_p16, List.forall_mem_cons.mpr ⟨lw_p17, List.forall_mem_cons.mpr ⟨lw_p18, List.forall_mem_cons.mpr ⟨lw_p19, List.forall_mem_cons.mpr ⟨lw_p20, List.forall_mem_cons.mpr ⟨lw_p21, List.forall_mem_cons.mpr ⟨lw_p22, List.forall_mem_cons.mpr ⟨lw_p23, List.forall_mem_cons.mpr ⟨lw_p24, List.forall_mem_cons.mpr ⟨lw_p25, List.forall_mem_cons.mpr ⟨lw_p26, List.forall_mem_cons.mpr ⟨lw_p27, List.forall_mem_cons.mpr ⟨lw_p28, List.forall_mem_cons.mpr ⟨lw_p29, List.forall_mem_cons.mpr ⟨lw_p30, List.forall_mem_cons.mpr ⟨lw_p31, fun _ h => absurd h List.not_mem_nil⟩⟩⟩⟩⟩⟩⟩⟩⟩⟩⟩⟩⟩⟩⟩⟩
theorem lw_p32 : lw_okq (⟨"NearNothing$Gauges", "note", "(III)V"⟩, 6) := ⟨⟨by decide +kernel, by decide +kernel⟩, List.mem_of_getElem? (i := 321) (by decide +kernel), List.mem_of_getElem? (i := 862) (by decide +kernel), List.mem_of_getElem? (i := 863) (by decide +kernel)⟩
theorem lw_p33 : lw_okq (⟨"NearNothing$Cold", "degreeUnder", "(II)I"⟩, 4) := ⟨⟨by decide +kernel, by decide +kernel⟩, List.mem_of_getElem? (i := 351) (by decide +kernel), List.mem_of_getElem? (i := 882) (by decide +kernel), List.mem_of_getElem? (i := 883) (by decide +kernel)⟩
theorem lw_p34 : lw_okq (⟨"NearNothing$Cold", "spare", "(III)I"⟩, 4) := ⟨⟨by decide +kernel, by decide +kernel⟩, List.mem_of_getElem? (i := 351) (by decide +kernel), List.mem_of_getElem? (i := 886) (by decide +kernel), List.mem_of_getElem? (i := 887) (by decide +kernel)⟩
theorem lw_p35 : lw_okq (⟨"NearNothing$Search", "countFitting", "()I"⟩, 9) := ⟨⟨by decide +kernel, by decide +kernel⟩, List.mem_of_getElem? (i := 371) (by decide +kernel), List.mem_of_getElem? (i := 933) (by decide +kernel), List.mem_of_getElem? (i := 934) (by decide +kernel)⟩
theorem lw_p36 : lw_okq (⟨"NearNothing$Search", "findShown", "()V"⟩, 9) := ⟨⟨by decide +kernel, by decide +kernel⟩, List.mem_of_getElem? (i := 371) (by decide +kernel), List.mem_of_getElem? (i := 937) (by decide +kernel), List.mem_of_getElem? (i := 938) (by decide +kernel)⟩
theorem lw_p37 : lw_okq (⟨"NearNothing$Search", "fits", "(I)Z"⟩, 9) := ⟨⟨by decide +kernel, by decide +kernel⟩, List.mem_of_getElem? (i := 371) (by decide +kernel), List.mem_of_getElem? (i := 942) (by decide +kernel), List.mem_of_getElem? (i := 943) (by decide +kernel)⟩
theorem lw_p38 : lw_okq (⟨"NearNothing$Search", "nextPlace", "(I)I"⟩, 9) := ⟨⟨by decide +kernel, by decide +kernel⟩, List.mem_of_getElem? (i := 371) (by decide +kernel), List.mem_of_getElem? (i := 946) (by decide +kernel), List.mem_of_getElem? (i := 947) (by decide +kernel)⟩
theorem lw_p39 : lw_okq (⟨"NearNothing$Rest", "leakyRooms", "()I"⟩, 10) := ⟨⟨by decide +kernel, by decide +kernel⟩, List.mem_of_getElem? (i := 260) (by decide +kernel), List.mem_of_getElem? (i := 977) (by decide +kernel), List.mem_of_getElem? (i := 978) (by decide +kernel)⟩
theorem lw_p40 : lw_okq (⟨"NearNothing$Rest", "priceOf", "(I)I"⟩, 10) := ⟨⟨by decide +kernel, by decide +kernel⟩, List.mem_of_getElem? (i := 260) (by decide +kernel), List.mem_of_getElem? (i := 981) (by decide +kernel), List.mem_of_getElem? (i := 982) (by decide +kernel)⟩
theorem lw_p41 : lw_okq (⟨"NearNothing$Rest", "serves", "(III)Z"⟩, 10) := ⟨⟨by decide +kernel, by decide +kernel⟩, List.mem_of_getElem? (i := 260) (by decide +kernel), List.mem_of_getElem? (i := 985) (by decide +kernel), List.mem_of_getElem? (i := 986) (by decide +kernel)⟩
theorem lw_p42 : lw_okq (⟨"NearNothingModel", "no", "(I)I"⟩, 81) := ⟨⟨by decide +kernel, by decide +kernel⟩, List.mem_of_getElem? (i := 993) (by decide +kernel), List.mem_of_getElem? (i := 1251) (by decide +kernel), List.mem_of_getElem? (i := 1252) (by decide +kernel)⟩
theorem lw_p43 : lw_okq (⟨"NearNothingModel", "forgets", "()V"⟩, 81) := ⟨⟨by decide +kernel, by decide +kernel⟩, List.mem_of_getElem? (i := 993) (by decide +kernel), List.mem_of_getElem? (i := 1259) (by decide +kernel), List.mem_of_getElem? (i := 1260) (by decide +kernel)⟩
theorem lw_p44 : lw_okq (⟨"NearNothingModel", "isRoom", "(I)Z"⟩, 81) := ⟨⟨by decide +kernel, by decide +kernel⟩, List.mem_of_getElem? (i := 993) (by decide +kernel), List.mem_of_getElem? (i := 1267) (by decide +kernel), List.mem_of_getElem? (i := 1268) (by decide +kernel)⟩
theorem lw_p45 : lw_okq (⟨"NearNothingModel", "passes", "()V"⟩, 81) := ⟨⟨by decide +kernel, by decide +kernel⟩, List.mem_of_getElem? (i := 993) (by decide +kernel), List.mem_of_getElem? (i := 1304) (by decide +kernel), List.mem_of_getElem? (i := 1305) (by decide +kernel)⟩
theorem lw_p46 : lw_okq (⟨"NearNothingModel", "flows", "()V"⟩, 81) := ⟨⟨by decide +kernel, by decide +kernel⟩, List.mem_of_getElem? (i := 993) (by decide +kernel), List.mem_of_getElem? (i := 1309) (by decide +kernel), List.mem_of_getElem? (i := 1310) (by decide +kernel)⟩
theorem lw_p47 : lw_okq (⟨"NearNothingModel", "share", "(II)I"⟩, 81) := ⟨⟨by decide +kernel, by decide +kernel⟩, List.mem_of_getElem? (i := 993) (by decide +kernel), List.mem_of_getElem? (i := 1313) (by decide +kernel), List.mem_of_getElem? (i := 1314) (by decide +kernel)⟩
def lw_privs_3 : List (MethodName × Nat) := [(⟨"NearNothing$Gauges", "note", "(III)V"⟩, 6), (⟨"NearNothing$Cold", "degreeUnder", "(II)I"⟩, 4), (⟨"NearNothing$Cold", "spare", "(III)I"⟩, 4), (⟨"NearNothing$Search", "countFitting", "()I"⟩, 9), (⟨"NearNothing$Search", "findShown", "()V"⟩, 9), (⟨"NearNothing$Search", "fits", "(I)Z"⟩, 9), (⟨"NearNothing$Search", "nextPlace", "(I)I"⟩, 9), (⟨"NearNothing$Rest", "leakyRooms", "()I"⟩, 10), (⟨"NearNothing$Rest", "priceOf", "(I)I"⟩, 10), (⟨"NearNothing$Rest", "serves", "(III)Z"⟩, 10), (⟨"NearNothingModel", "no", "(I)I"⟩, 81), (⟨"NearNothingModel", "forgets", "()V"⟩, 81), (⟨"NearNothingModel", "isRoom", "(I)Z"⟩, 81), (⟨"NearNothingModel", "passes", "()V"⟩, 81), (⟨"NearNothingModel", "flows", "()V"⟩, 81), (⟨"NearNothingModel", "share", "(II)I"⟩, 81)]
theorem lw_r3 : ∀ q ∈ lw_privs_3, lw_okq q := List.forall_mem_cons.mpr ⟨lw_p32, List.forall_mem_cons.mpr ⟨lw_p33, List.forall_mem_cons.mpr ⟨lw_p34, List.forall_mem_cons.mpr ⟨lw_p35, List.forall_mem_cons.mpr ⟨lw_p36, List.forall_mem_cons.mpr ⟨lw_p37, List.forall_mem_cons.mpr ⟨lw_p38, List.forall_mem_cons.mpr ⟨lw_p39, List.forall_mem_cons.mpr ⟨lw_p40, List.forall_mem_cons.mpr ⟨lw_p41, List.forall_mem_cons.mpr ⟨lw_p42, List.forall_mem_cons.mpr ⟨lw_p43, List.forall_mem_cons.mpr ⟨lw_p44, List.forall_mem_cons.mpr ⟨lw_p45, List.forall_mem_cons.mpr ⟨lw_p46, List.forall_mem_cons.mpr ⟨lw_p47, fun _ h => absurd h List.not_mem_nil⟩⟩⟩⟩⟩⟩⟩⟩⟩⟩⟩⟩⟩⟩⟩⟩
theorem lw_p48 : lw_okq (⟨"NearNothingModel", "moves", "(III)V"⟩, 81) := ⟨⟨by decide +kernel, by decide +kernel⟩, List.mem_of_getElem? (i := 993) (by decide +kernel), List.mem_of_getElem? (i := 1318) (by decide +kernel), List.mem_of_getElem? (i := 1319) (by decide +kernel)⟩
theorem lw_p49 : lw_okq (⟨"NearNothingModel", "sucks", "(I)V"⟩, 81) := ⟨⟨by decide +kernel, by decide +kernel⟩, List.mem_of_getElem? (i := 993) (by decide +kernel), List.mem_of_getElem? (i := 1322) (by decide +kernel), List.mem_of_getElem? (i := 1323) (by decide +kernel)⟩
theorem lw_p50 : lw_okq (⟨"NearNothingModel", "holds", "(I)I"⟩, 81) := ⟨⟨by decide +kernel, by decide +kernel⟩, List.mem_of_getElem? (i := 993) (by decide +kernel), List.mem_of_getElem? (i := 1326) (by decide +kernel), List.mem_of_getElem? (i := 1327) (by decide +kernel)⟩
theorem lw_p51 : lw_okq (⟨"NearNothingModel", "givesBack", "(I)V"⟩, 81) := ⟨⟨by decide +kernel, by decide +kernel⟩, List.mem_of_getElem? (i := 993) (by decide +kernel), List.mem_of_getElem? (i := 1330) (by decide +kernel), List.mem_of_getElem? (i := 1331) (by decide +kernel)⟩
theorem lw_p52 : lw_okq (⟨"NearNothingModel", "push", "(I)I"⟩, 81) := ⟨⟨by decide +kernel, by decide +kernel⟩, List.mem_of_getElem? (i := 993) (by decide +kernel), List.mem_of_getElem? (i := 1339) (by decide +kernel), List.mem_of_getElem? (i := 1340) (by decide +kernel)⟩
theorem lw_p53 : lw_okq (⟨"NearNothingModel", "isPump", "(I)Z"⟩, 81) := ⟨⟨by decide +kernel, by decide +kernel⟩, List.mem_of_getElem? (i := 993) (by decide +kernel), List.mem_of_getElem? (i := 1352) (by decide +kernel), List.mem_of_getElem? (i := 1353) (by decide +kernel)⟩
theorem lw_p54 : lw_okq (⟨"NearNothingModel", "copies", "(Z)V"⟩, 81) := ⟨⟨by decide +kernel, by decide +kernel⟩, List.mem_of_getElem? (i := 993) (by decide +kernel), List.mem_of_getElem? (i := 1366) (by decide +kernel), List.mem_of_getElem? (i := 1367) (by decide +kernel)⟩
theorem lw_p55 : lw_okq (⟨"NearNothingModel", "parses", "()Z"⟩, 81) := ⟨⟨by decide +kernel, by decide +kernel⟩, List.mem_of_getElem? (i := 993) (by decide +kernel), List.mem_of_getElem? (i := 1380) (by decide +kernel), List.mem_of_getElem? (i := 1381) (by decide +kernel)⟩
theorem lw_p56 : lw_okq (⟨"NearNothingModel", "sign", "()I"⟩, 81) := ⟨⟨by decide +kernel, by decide +kernel⟩, List.mem_of_getElem? (i := 993) (by decide +kernel), List.mem_of_getElem? (i := 1384) (by decide +kernel), List.mem_of_getElem? (i := 1385) (by decide +kernel)⟩
theorem lw_p57 : lw_okq (⟨"NearNothingModel", "digit", "()Z"⟩, 81) := ⟨⟨by decide +kernel, by decide +kernel⟩, List.mem_of_getElem? (i := 993) (by decide +kernel), List.mem_of_getElem? (i := 1388) (by decide +kernel), List.mem_of_getElem? (i := 1389) (by decide +kernel)⟩
theorem lw_p58 : lw_okq (⟨"NearNothingModel", "compares", "()Z"⟩, 81) := ⟨⟨by decide +kernel, by decide +kernel⟩, List.mem_of_getElem? (i := 993) (by decide +kernel), List.mem_of_getElem? (i := 1395) (by decide +kernel), List.mem_of_getElem? (i := 1396) (by decide +kernel)⟩
theorem lw_p59 : lw_okq (⟨"NearNothingModel", "closes", "()V"⟩, 81) := ⟨⟨by decide +kernel, by decide +kernel⟩, List.mem_of_getElem? (i := 993) (by decide +kernel), List.mem_of_getElem? (i := 1399) (by decide +kernel), List.mem_of_getElem? (i := 1400) (by decide +kernel)⟩
theorem lw_p60 : lw_okq (⟨"NearNothingModel", "isPipe", "(I)Z"⟩, 81) := ⟨⟨by decide +kernel, by decide +kernel⟩, List.mem_of_getElem? (i := 993) (by decide +kernel), List.mem_of_getElem? (i := 1411) (by decide +kernel), List.mem_of_getElem? (i := 1412) (by decide +kernel)⟩
theorem lw_p61 : lw_okq (⟨"NearNothingModel", "forbidden", "(IZ)I"⟩, 81) := ⟨⟨by decide +kernel, by decide +kernel⟩, List.mem_of_getElem? (i := 993) (by decide +kernel), List.mem_of_getElem? (i := 1415) (by decide +kernel), List.mem_of_getElem? (i := 1416) (by decide +kernel)⟩
theorem lw_p62 : lw_okq (⟨"NearNothingModel", "holdsRule", "(I)Z"⟩, 81) := ⟨⟨by decide +kernel, by decide +kernel⟩, List.mem_of_getElem? (i := 993) (by decide +kernel), List.mem_of_getElem? (i := 1419) (by decide +kernel), List.mem_of_getElem? (i := 1420) (by decide +kernel)⟩
theorem lw_p63 : lw_okq (⟨"NearNothingModel", "signOf", "(I)I"⟩, 81) := ⟨⟨by decide +kernel, by decide +kernel⟩, List.mem_of_getElem? (i := 993) (by decide +kernel), List.mem_of_getElem? (i := 1423) (by decide +kernel), List.mem_of_getElem? (i := 1424) (by decide +kernel)⟩
def lw_privs_4 : List (MethodName × Nat) := [(⟨"NearNothingModel", "moves", "(III)V"⟩, 81), (⟨"NearNothingModel", "sucks", "(I)V"⟩, 81), (⟨"NearNothingModel", "holds", "(I)I"⟩, 81), (⟨"NearNothingModel", "givesBack", "(I)V"⟩, 81), (⟨"NearNothingModel", "push", "(I)I"⟩, 81), (⟨"NearNothingModel", "isPump", "(I)Z"⟩, 81), (⟨"NearNothingModel", "copies", "(Z)V"⟩, 81), (⟨"NearNothingModel", "parses", "()Z"⟩, 81), (⟨"NearNothingModel", "sign", "()I"⟩, 81), (⟨"NearNothingModel", "digit", "()Z"⟩, 81), (⟨"NearNothingModel", "compares", "()Z"⟩, 81), (⟨"NearNothingModel", "closes", "()V"⟩, 81), (⟨"NearNothingModel", "isPipe", "(I)Z"⟩, 81), (⟨"NearNothingModel", "forbidden", "(IZ)I"⟩, 81), (⟨"NearNothingModel", "holdsRule", "(I)Z"⟩, 81), (⟨"NearNothingModel", "signOf", "(I)I"⟩, 81)]
theorem lw_r4 : ∀ q ∈ lw_privs_4, lw_okq q := List.forall_mem_cons.mpr ⟨lw_p48, List.forall_mem_cons.mpr ⟨lw_p49, List.forall_mem_cons.mpr ⟨lw_p50, List.forall_mem_cons.mpr ⟨lw_p51, List.forall_mem_cons.mpr ⟨lw_p52, List.forall_mem_cons.mpr ⟨lw_p53, List.forall_mem_cons.mpr ⟨lw_p54, List.forall_mem_cons.mpr ⟨lw_p55, List.forall_mem_cons.mpr ⟨lw_p56, List.forall_mem_cons.mpr ⟨lw_p57, List.forall_mem_cons.mpr ⟨lw_p58, List.forall_mem_cons.mpr ⟨lw_p59, List.forall_mem_cons.mpr ⟨lw_p60, List.forall_mem_cons.mpr ⟨lw_p61, List.forall_mem_cons.mpr ⟨lw_p62, List.forall_mem_cons.mpr ⟨lw_p63, fun _ h => absurd h List.not_mem_nil⟩⟩⟩⟩⟩⟩⟩⟩⟩⟩⟩⟩⟩⟩⟩⟩
theorem lw_p64 : lw_okq (⟨"NearNothingModel", "waitsFor", "(I)V"⟩, 81) := ⟨⟨by decide +kernel, by decide +kernel⟩, List.mem_of_getElem? (i := 993) (by decide +kernel), List.mem_of_getElem? (i := 1427) (by decide +kernel), List.mem_of_getElem? (i := 1428) (by decide +kernel)⟩
theorem lw_p65 : lw_okq (⟨"NearNothingModel", "compared", "(I)I"⟩, 81) := ⟨⟨by decide +kernel, by decide +kernel⟩, List.mem_of_getElem? (i := 993) (by decide +kernel), List.mem_of_getElem? (i := 1431) (by decide +kernel), List.mem_of_getElem? (i := 1432) (by decide +kernel)⟩
theorem lw_p66 : lw_okq (⟨"NearNothingModel", "fact", "(II)I"⟩, 81) := ⟨⟨by decide +kernel, by decide +kernel⟩, List.mem_of_getElem? (i := 993) (by decide +kernel), List.mem_of_getElem? (i := 1435) (by decide +kernel), List.mem_of_getElem? (i := 1436) (by decide +kernel)⟩
theorem lw_p67 : lw_okq (⟨"NearNothingModel", "works", "(I)V"⟩, 81) := ⟨⟨by decide +kernel, by decide +kernel⟩, List.mem_of_getElem? (i := 993) (by decide +kernel), List.mem_of_getElem? (i := 1439) (by decide +kernel), List.mem_of_getElem? (i := 1440) (by decide +kernel)⟩
theorem lw_p68 : lw_okq (⟨"NearNothingModel", "acts", "(III)I"⟩, 81) := ⟨⟨by decide +kernel, by decide +kernel⟩, List.mem_of_getElem? (i := 993) (by decide +kernel), List.mem_of_getElem? (i := 1447) (by decide +kernel), List.mem_of_getElem? (i := 1448) (by decide +kernel)⟩
theorem lw_p69 : lw_okq (⟨"NearNothingModel", "stateOf", "(II)I"⟩, 81) := ⟨⟨by decide +kernel, by decide +kernel⟩, List.mem_of_getElem? (i := 993) (by decide +kernel), List.mem_of_getElem? (i := 1451) (by decide +kernel), List.mem_of_getElem? (i := 1452) (by decide +kernel)⟩
theorem lw_p70 : lw_okq (⟨"NearNothingModel", "becomes", "(III)V"⟩, 81) := ⟨⟨by decide +kernel, by decide +kernel⟩, List.mem_of_getElem? (i := 993) (by decide +kernel), List.mem_of_getElem? (i := 1455) (by decide +kernel), List.mem_of_getElem? (i := 1456) (by decide +kernel)⟩
theorem lw_p71 : lw_okq (⟨"NearNothingModel", "findOrder", "(I)Z"⟩, 81) := ⟨⟨by decide +kernel, by decide +kernel⟩, List.mem_of_getElem? (i := 993) (by decide +kernel), List.mem_of_getElem? (i := 1482) (by decide +kernel), List.mem_of_getElem? (i := 1483) (by decide +kernel)⟩
theorem lw_p72 : lw_okq (⟨"NearNothingModel", "mayStart", "(I)Z"⟩, 81) := ⟨⟨by decide +kernel, by decide +kernel⟩, List.mem_of_getElem? (i := 993) (by decide +kernel), List.mem_of_getElem? (i := 1486) (by decide +kernel), List.mem_of_getElem? (i := 1487) (by decide +kernel)⟩
theorem lw_p73 : lw_okq (⟨"NearNothingModel", "solves", "(I)V"⟩, 81) := ⟨⟨by decide +kernel, by decide +kernel⟩, List.mem_of_getElem? (i := 993) (by decide +kernel), List.mem_of_getElem? (i := 1494) (by decide +kernel), List.mem_of_getElem? (i := 1495) (by decide +kernel)⟩
theorem lw_p74 : lw_okq (⟨"NearNothingModel", "findParts", "()V"⟩, 81) := ⟨⟨by decide +kernel, by decide +kernel⟩, List.mem_of_getElem? (i := 993) (by decide +kernel), List.mem_of_getElem? (i := 1498) (by decide +kernel), List.mem_of_getElem? (i := 1499) (by decide +kernel)⟩
theorem lw_p75 : lw_okq (⟨"NearNothingModel", "speedAt", "(II)I"⟩, 81) := ⟨⟨by decide +kernel, by decide +kernel⟩, List.mem_of_getElem? (i := 993) (by decide +kernel), List.mem_of_getElem? (i := 1502) (by decide +kernel), List.mem_of_getElem? (i := 1503) (by decide +kernel)⟩
theorem lw_p76 : lw_okq (⟨"NearNothingModel", "shortens", "(I)V"⟩, 81) := ⟨⟨by decide +kernel, by decide +kernel⟩, List.mem_of_getElem? (i := 993) (by decide +kernel), List.mem_of_getElem? (i := 1506) (by decide +kernel), List.mem_of_getElem? (i := 1507) (by decide +kernel)⟩
theorem lw_p77 : lw_okq (⟨"NearNothingModel", "readsBy", "(IJJJ)I"⟩, 81) := ⟨⟨by decide +kernel, by decide +kernel⟩, List.mem_of_getElem? (i := 993) (by decide +kernel), List.mem_of_getElem? (i := 1531) (by decide +kernel), List.mem_of_getElem? (i := 1532) (by decide +kernel)⟩
theorem lw_p78 : lw_okq (⟨"NearNothingModel", "hidden", "()I"⟩, 81) := ⟨⟨by decide +kernel, by decide +kernel⟩, List.mem_of_getElem? (i := 993) (by decide +kernel), List.mem_of_getElem? (i := 1547) (by decide +kernel), List.mem_of_getElem? (i := 1548) (by decide +kernel)⟩
theorem lw_p79 : lw_okq (⟨"NearNothingModel", "rests", "(I)I"⟩, 81) := ⟨⟨by decide +kernel, by decide +kernel⟩, List.mem_of_getElem? (i := 993) (by decide +kernel), List.mem_of_getElem? (i := 1560) (by decide +kernel), List.mem_of_getElem? (i := 1561) (by decide +kernel)⟩
def lw_privs_5 : List (MethodName × Nat) := [(⟨"NearNothingModel", "waitsFor", "(I)V"⟩, 81), (⟨"NearNothingModel", "compared", "(I)I"⟩, 81), (⟨"NearNothingModel", "fact", "(II)I"⟩, 81), (⟨"NearNothingModel", "works", "(I)V"⟩, 81), (⟨"NearNothingModel", "acts", "(III)I"⟩, 81), (⟨"NearNothingModel", "stateOf", "(II)I"⟩, 81), (⟨"NearNothingModel", "becomes", "(III)V"⟩, 81), (⟨"NearNothingModel", "findOrder", "(I)Z"⟩, 81), (⟨"NearNothingModel", "mayStart", "(I)Z"⟩, 81), (⟨"NearNothingModel", "solves", "(I)V"⟩, 81), (⟨"NearNothingModel", "findParts", "()V"⟩, 81), (⟨"NearNothingModel", "speedAt", "(II)I"⟩, 81), (⟨"NearNothingModel", "shortens", "(I)V"⟩, 81), (⟨"NearNothingModel", "readsBy", "(IJJJ)I"⟩, 81), (⟨"NearNothingModel", "hidden", "()I"⟩, 81), (⟨"NearNothingModel", "rests", "(I)I"⟩, 81)]
theorem lw_r5 : ∀ q ∈ lw_privs_5, lw_okq q := List.forall_mem_cons.mpr ⟨lw_p64, List.forall_mem_cons.mpr ⟨lw_p65, List.forall_mem_cons.mpr ⟨lw_p66, List.forall_mem_cons.mpr ⟨lw_p67, List.forall_mem_cons.mpr ⟨lw_p68, List.forall_mem_cons.mpr ⟨lw_p69, List.forall_mem_cons.mpr ⟨lw_p70, List.forall_mem_cons.mpr ⟨lw_p71, List.forall_mem_cons.mpr ⟨lw_p72, List.forall_mem_cons.mpr ⟨lw_p73, List.forall_mem_cons.mpr ⟨lw_p74, List.forall_mem_cons.mpr ⟨lw_p75, List.forall_mem_cons.mpr ⟨lw_p76, List.forall_mem_cons.mpr ⟨lw_p77, List.forall_mem_cons.mpr ⟨lw_p78, List.forall_mem_cons.mpr ⟨lw_p79, fun _ h => absurd h List.not_mem_nil⟩⟩⟩⟩⟩⟩⟩⟩⟩⟩⟩⟩⟩⟩⟩⟩
theorem lw_p80 : lw_okq (⟨"NearNothingModel", "left", "(III)I"⟩, 81) := ⟨⟨by decide +kernel, by decide +kernel⟩, List.mem_of_getElem? (i := 993) (by decide +kernel), List.mem_of_getElem? (i := 1564) (by decide +kernel), List.mem_of_getElem? (i := 1565) (by decide +kernel)⟩
theorem lw_p81 : lw_okq (⟨"NearNothingModel", "fits", "(I)Z"⟩, 81) := ⟨⟨by decide +kernel, by decide +kernel⟩, List.mem_of_getElem? (i := 993) (by decide +kernel), List.mem_of_getElem? (i := 1594) (by decide +kernel), List.mem_of_getElem? (i := 1595) (by decide +kernel)⟩
theorem lw_p82 : lw_okq (⟨"NearNothingModel", "holdsDown", "(II)Z"⟩, 81) := ⟨⟨by decide +kernel, by decide +kernel⟩, List.mem_of_getElem? (i := 993) (by decide +kernel), List.mem_of_getElem? (i := 1613) (by decide +kernel), List.mem_of_getElem? (i := 1614) (by decide +kernel)⟩
theorem lw_p83 : lw_okq (⟨"NearNothingModel", "isLeakedInto", "(I)Z"⟩, 81) := ⟨⟨by decide +kernel, by decide +kernel⟩, List.mem_of_getElem? (i := 993) (by decide +kernel), List.mem_of_getElem? (i := 1617) (by decide +kernel), List.mem_of_getElem? (i := 1618) (by decide +kernel)⟩
def lw_privs_6 : List (MethodName × Nat) := [(⟨"NearNothingModel", "left", "(III)I"⟩, 81), (⟨"NearNothingModel", "fits", "(I)Z"⟩, 81), (⟨"NearNothingModel", "holdsDown", "(II)Z"⟩, 81), (⟨"NearNothingModel", "isLeakedInto", "(I)Z"⟩, 81)]
theorem lw_r6 : ∀ q ∈ lw_privs_6, lw_okq q := List.forall_mem_cons.mpr ⟨lw_p80, List.forall_mem_cons.mpr ⟨lw_p81, List.forall_mem_cons.mpr ⟨lw_p82, List.forall_mem_cons.mpr ⟨lw_p83, fun _ h => absurd h List.not_mem_nil⟩⟩⟩⟩
def lw_privs : List (MethodName × Nat) := lw_privs_1 ++ (lw_privs_2 ++ (lw_privs_3 ++ (lw_privs_4 ++ (lw_privs_5 ++ (lw_privs_6)))))
def lw_tbl : List Cond := k2_sels lw_privs ++ tables_1
theorem lw_privs_ok : ∀ q ∈ lw_privs, lw_okq q := by
  show ∀ q ∈ lw_privs_1 ++ (lw_privs_2 ++ (lw_privs_3 ++ (lw_privs_4 ++ (lw_privs_5 ++ (lw_privs_6))))), lw_okq q
  exact List.forall_mem_append.mpr ⟨lw_r1, List.forall_mem_append.mpr ⟨lw_r2, List.forall_mem_append.mpr ⟨lw_r3, List.forall_mem_append.mpr ⟨lw_r4, List.forall_mem_append.mpr ⟨lw_r5, lw_r6⟩⟩⟩⟩⟩
-- names
def RX0 : String := "NearNothing$Acts"
def TX0 : u_T := fun k => match k with
  | 0 => ("NearNothing$Acts", "kind", "[I", true)
  | 1 => ("NearNothing$Acts", "number", "[I", true)
  | 2 => ("NearNothing$Acts", "onBefore", "[I", true)
  | 3 => ("NearNothing$Acts", "done", "I", false)
  | _ => ("NearNothing$Acts", "undone", "I", false)
def tyX0 : Nat → FieldType := fun k => match k with
  | 0 => .array .int
  | 1 => .array .int
  | 2 => .array .int
  | 3 => .int
  | _ => .int
abbrev wsX00 : List Cond := u_ws RX0 TX0 5
theorem nmX0 : ∀ a, a < 5 → ∀ b, b < 5 → a ≠ b → (TX0 a).2.1 ≠ (TX0 b).2.1 := by decide +kernel
theorem tyX0_ok : ∀ k, k < 5 → parseFieldDescriptor (TX0 k).2.2.1 = some (tyX0 k) := by decide +kernel
abbrev cX0_init : ByteArray := prog_2_method_1_code
def yX0_init : MethodName := ⟨RX0, "<init>", "()V"⟩
abbrev cX0_forget : ByteArray := prog_2_method_2_code
def yX0_forget : MethodName := ⟨RX0, "forget", "()V"⟩
abbrev cX0_perform : ByteArray := prog_2_method_3_code
def yX0_perform : MethodName := ⟨RX0, "perform", "(IILNearNothing$Plant;LNearNothing$Grains;)V"⟩
abbrev cX0_repeat : ByteArray := prog_2_method_4_code
def yX0_repeat : MethodName := ⟨RX0, "repeat", "(LNearNothing$Plant;LNearNothing$Grains;)Z"⟩
abbrev cX0_takeBack : ByteArray := prog_2_method_5_code
def yX0_takeBack : MethodName := ⟨RX0, "takeBack", "(LNearNothing$Plant;LNearNothing$Grains;)Z"⟩
abbrev cX0_dropFirst : ByteArray := prog_2_method_6_code
def yX0_dropFirst : MethodName := ⟨RX0, "dropFirst", "()V"⟩
def RX1 : String := "NearNothing$Cold"
def TX1 : u_T := fun k => match k with
  | 0 => ("NearNothing$Cold", "floor", "[I", true)
  | 1 => ("NearNothing$Cold", "power", "[I", true)
  | 2 => ("NearNothing$Cold", "wire", "[I", true)
  | _ => ("NearNothing$Cold", "heat", "[I", true)
def tyX1 : Nat → FieldType := fun k => match k with
  | 0 => .array .int
  | 1 => .array .int
  | 2 => .array .int
  | _ => .array .int
abbrev wsX10 : List Cond := u_ws RX1 TX1 4
theorem nmX1 : ∀ a, a < 4 → ∀ b, b < 4 → a ≠ b → (TX1 a).2.1 ≠ (TX1 b).2.1 := by decide +kernel
theorem tyX1_ok : ∀ k, k < 4 → parseFieldDescriptor (TX1 k).2.2.1 = some (tyX1 k) := by decide +kernel
abbrev cX1_init : ByteArray := prog_3_method_1_code
def yX1_init : MethodName := ⟨RX1, "<init>", "()V"⟩
abbrev cX1_tell : ByteArray := prog_3_method_2_code
def yX1_tell : MethodName := ⟨RX1, "tell", "(IIIII)V"⟩
abbrev cX1_degree : ByteArray := prog_3_method_3_code
def yX1_degree : MethodName := ⟨RX1, "degree", "(I)I"⟩
abbrev cX1_bearable : ByteArray := prog_3_method_4_code
def yX1_bearable : MethodName := ⟨RX1, "bearable", "(II)I"⟩
abbrev cX1_degreeUnder : ByteArray := prog_3_method_5_code
def yX1_degreeUnder : MethodName := ⟨RX1, "degreeUnder", "(II)I"⟩
abbrev cX1_spare : ByteArray := prog_3_method_6_code
def yX1_spare : MethodName := ⟨RX1, "spare", "(III)I"⟩
def RX2 : String := "NearNothing$Drawing"
def TX2 : u_T := fun k => match k with
  | 0 => ("NearNothing$Drawing", "walls", "[Z", true)
  | 1 => ("NearNothing$Drawing", "here", "[I", true)
  | 2 => ("NearNothing$Drawing", "then", "[I", true)
  | 3 => ("NearNothing$Drawing", "through", "I", false)
  | _ => ("NearNothing$Drawing", "back", "I", false)
def tyX2 : Nat → FieldType := fun k => match k with
  | 0 => .array .boolean
  | 1 => .array .int
  | 2 => .array .int
  | 3 => .int
  | _ => .int
abbrev wsX20 : List Cond := u_ws RX2 TX2 5
theorem nmX2 : ∀ a, a < 5 → ∀ b, b < 5 → a ≠ b → (TX2 a).2.1 ≠ (TX2 b).2.1 := by decide +kernel
theorem tyX2_ok : ∀ k, k < 5 → parseFieldDescriptor (TX2 k).2.2.1 = some (tyX2 k) := by decide +kernel
abbrev cX2_init : ByteArray := prog_4_method_1_code
def yX2_init : MethodName := ⟨RX2, "<init>", "()V"⟩
abbrev cX2_draw : ByteArray := prog_4_method_2_code
def yX2_draw : MethodName := ⟨RX2, "draw", "(IIZ)Z"⟩
abbrev cX2_ways : ByteArray := prog_4_method_3_code
def yX2_ways : MethodName := ⟨RX2, "ways", "(III)I"⟩
abbrev cX2_step : ByteArray := prog_4_method_4_code
def yX2_step : MethodName := ⟨RX2, "step", "()V"⟩
abbrev cX2_go : ByteArray := prog_4_method_5_code
def yX2_go : MethodName := ⟨RX2, "go", "(III)V"⟩
def RX3 : String := "NearNothing$Gauges"
def TX3 : u_T := fun k => match k with
  | 0 => ("NearNothing$Gauges", "sight", "[I", true)
  | 1 => ("NearNothing$Gauges", "asked", "[I", true)
  | 2 => ("NearNothing$Gauges", "least", "[I", true)
  | 3 => ("NearNothing$Gauges", "greatest", "[I", true)
  | 4 => ("NearNothing$Gauges", "low", "I", false)
  | _ => ("NearNothing$Gauges", "high", "I", false)
def tyX3 : Nat → FieldType := fun k => match k with
  | 0 => .array .int
  | 1 => .array .int
  | 2 => .array .int
  | 3 => .array .int
  | 4 => .int
  | _ => .int
abbrev wsX30 : List Cond := u_ws RX3 TX3 6
theorem nmX3 : ∀ a, a < 6 → ∀ b, b < 6 → a ≠ b → (TX3 a).2.1 ≠ (TX3 b).2.1 := by decide +kernel
theorem tyX3_ok : ∀ k, k < 6 → parseFieldDescriptor (TX3 k).2.2.1 = some (tyX3 k) := by decide +kernel
abbrev cX3_init : ByteArray := prog_5_method_1_code
def yX3_init : MethodName := ⟨RX3, "<init>", "()V"⟩
abbrev cX3_shown : ByteArray := prog_5_method_2_code
def yX3_shown : MethodName := ⟨RX3, "shown", "(ILNearNothing$Grains;I)I"⟩
abbrev cX3_hidden : ByteArray := prog_5_method_3_code
def yX3_hidden : MethodName := ⟨RX3, "hidden", "()I"⟩
abbrev cX3_possible : ByteArray := prog_5_method_4_code
def yX3_possible : MethodName := ⟨RX3, "possible", "(II)I"⟩
abbrev cX3_note : ByteArray := prog_5_method_5_code
def yX3_note : MethodName := ⟨RX3, "note", "(III)V"⟩
abbrev cX3_bound : ByteArray := prog_5_method_6_code
def yX3_bound : MethodName := ⟨RX3, "bound", "(III)V"⟩
abbrev cX3_narrow : ByteArray := prog_5_method_7_code
def yX3_narrow : MethodName := ⟨RX3, "narrow", "(III)V"⟩
def RX4 : String := "NearNothing$Grains"
def TX4 : u_T := fun k => match k with
  | 0 => ("NearNothing$Grains", "tick", "I", false)
  | 1 => ("NearNothing$Grains", "warmed", "I", false)
  | 2 => ("NearNothing$Grains", "inside", "[I", true)
  | 3 => ("NearNothing$Grains", "onWall", "[I", true)
  | 4 => ("NearNothing$Grains", "taken", "[I", true)
  | 5 => ("NearNothing$Grains", "told", "[I", true)
  | _ => ("NearNothing$Grains", "before", "[I", true)
def tyX4 : Nat → FieldType := fun k => match k with
  | 0 => .int
  | 1 => .int
  | 2 => .array .int
  | 3 => .array .int
  | 4 => .array .int
  | 5 => .array .int
  | _ => .array .int
abbrev wsX40 : List Cond := u_ws RX4 TX4 7
theorem nmX4 : ∀ a, a < 7 → ∀ b, b < 7 → a ≠ b → (TX4 a).2.1 ≠ (TX4 b).2.1 := by decide +kernel
theorem tyX4_ok : ∀ k, k < 7 → parseFieldDescriptor (TX4 k).2.2.1 = some (tyX4 k) := by decide +kernel
abbrev cX4_init : ByteArray := prog_6_method_1_code
def yX4_init : MethodName := ⟨RX4, "<init>", "()V"⟩
abbrev cX4_become : ByteArray := prog_6_method_2_code
def yX4_become : MethodName := ⟨RX4, "become", "(LNearNothing$Grains;)V"⟩
abbrev cX4_amount : ByteArray := prog_6_method_3_code
def yX4_amount : MethodName := ⟨RX4, "amount", "(IIZ)I"⟩
abbrev cX4_tell : ByteArray := prog_6_method_4_code
def yX4_tell : MethodName := ⟨RX4, "tell", "(IIIZ)V"⟩
abbrev cX4_push : ByteArray := prog_6_method_5_code
def yX4_push : MethodName := ⟨RX4, "push", "(LNearNothing$Plant;I)I"⟩
abbrev cX4_total : ByteArray := prog_6_method_6_code
def yX4_total : MethodName := ⟨RX4, "total", "(LNearNothing$Plant;II)I"⟩
abbrev cX4_pass : ByteArray := prog_6_method_7_code
def yX4_pass : MethodName := ⟨RX4, "pass", "(LNearNothing$Plant;)V"⟩
abbrev cX4_giveOff : ByteArray := prog_6_method_8_code
def yX4_giveOff : MethodName := ⟨RX4, "giveOff", "(LNearNothing$Plant;)V"⟩
abbrev cX4_leakIn : ByteArray := prog_6_method_9_code
def yX4_leakIn : MethodName := ⟨RX4, "leakIn", "(LNearNothing$Plant;)V"⟩
abbrev cX4_flow : ByteArray := prog_6_method_10_code
def yX4_flow : MethodName := ⟨RX4, "flow", "(LNearNothing$Plant;III)V"⟩
abbrev cX4_draw : ByteArray := prog_6_method_11_code
def yX4_draw : MethodName := ⟨RX4, "draw", "(LNearNothing$Plant;I)V"⟩
abbrev cX4_giveBack : ByteArray := prog_6_method_12_code
def yX4_giveBack : MethodName := ⟨RX4, "giveBack", "(LNearNothing$Plant;I)V"⟩
abbrev cX4_held : ByteArray := prog_6_method_13_code
def yX4_held : MethodName := ⟨RX4, "held", "(I)I"⟩
def RX5 : String := "NearNothing$Plant"
def TX5 : u_T := fun k => match k with
  | 0 => ("NearNothing$Plant", "rooms", "I", false)
  | 1 => ("NearNothing$Plant", "size", "[I", true)
  | 2 => ("NearNothing$Plant", "stuff", "[I", true)
  | 3 => ("NearNothing$Plant", "warmth", "[I", true)
  | 4 => ("NearNothing$Plant", "share", "[I", true)
  | 5 => ("NearNothing$Plant", "leaking", "[I", true)
  | 6 => ("NearNothing$Plant", "pipes", "I", false)
  | 7 => ("NearNothing$Plant", "first", "[I", true)
  | 8 => ("NearNothing$Plant", "second", "[I", true)
  | 9 => ("NearNothing$Plant", "width", "[I", true)
  | 10 => ("NearNothing$Plant", "open", "I", false)
  | 11 => ("NearNothing$Plant", "pumps", "I", false)
  | 12 => ("NearNothing$Plant", "site", "[I", true)
  | 13 => ("NearNothing$Plant", "speed", "[I", true)
  | 14 => ("NearNothing$Plant", "limit", "[I", true)
  | _ => ("NearNothing$Plant", "on", "I", false)
def tyX5 : Nat → FieldType := fun k => match k with
  | 0 => .int
  | 1 => .array .int
  | 2 => .array .int
  | 3 => .array .int
  | 4 => .array .int
  | 5 => .array .int
  | 6 => .int
  | 7 => .array .int
  | 8 => .array .int
  | 9 => .array .int
  | 10 => .int
  | 11 => .int
  | 12 => .array .int
  | 13 => .array .int
  | 14 => .array .int
  | _ => .int
abbrev wsX50 : List Cond := u_ws RX5 TX5 16
theorem nmX5 : ∀ a, a < 16 → ∀ b, b < 16 → a ≠ b → (TX5 a).2.1 ≠ (TX5 b).2.1 := by decide +kernel
theorem tyX5_ok : ∀ k, k < 16 → parseFieldDescriptor (TX5 k).2.2.1 = some (tyX5 k) := by decide +kernel
abbrev cX5_init : ByteArray := prog_7_method_1_code
def yX5_init : MethodName := ⟨RX5, "<init>", "()V"⟩
abbrev cX5_addRoom : ByteArray := prog_7_method_2_code
def yX5_addRoom : MethodName := ⟨RX5, "addRoom", "(II)I"⟩
abbrev cX5_addPipe : ByteArray := prog_7_method_3_code
def yX5_addPipe : MethodName := ⟨RX5, "addPipe", "(III)I"⟩
abbrev cX5_addPump : ByteArray := prog_7_method_4_code
def yX5_addPump : MethodName := ⟨RX5, "addPump", "(IIIII)I"⟩
abbrev cX5_divisor : ByteArray := prog_7_method_5_code
def yX5_divisor : MethodName := ⟨RX5, "divisor", "(I)J"⟩
abbrev cX5_givenShare : ByteArray := prog_7_method_6_code
def yX5_givenShare : MethodName := ⟨RX5, "givenShare", "(I)I"⟩
def RX6 : String := "NearNothing$Reader"
def TX6 : u_T := fun k => match k with
  | 0 => ("NearNothing$Reader", "text", "[I", true)
  | 1 => ("NearNothing$Reader", "length", "I", false)
  | 2 => ("NearNothing$Reader", "place", "I", false)
  | 3 => ("NearNothing$Reader", "sign", "I", false)
  | 4 => ("NearNothing$Reader", "forPump", "Z", false)
  | 5 => ("NearNothing$Reader", "target", "I", false)
  | 6 => ("NearNothing$Reader", "steps", "[I", true)
  | _ => ("NearNothing$Reader", "used", "I", false)
def tyX6 : Nat → FieldType := fun k => match k with
  | 0 => .array .int
  | 1 => .int
  | 2 => .int
  | 3 => .int
  | 4 => .boolean
  | 5 => .int
  | 6 => .array .int
  | _ => .int
abbrev wsX60 : List Cond := u_ws RX6 TX6 8
theorem nmX6 : ∀ a, a < 8 → ∀ b, b < 8 → a ≠ b → (TX6 a).2.1 ≠ (TX6 b).2.1 := by decide +kernel
theorem tyX6_ok : ∀ k, k < 8 → parseFieldDescriptor (TX6 k).2.2.1 = some (tyX6 k) := by decide +kernel
abbrev cX6_init : ByteArray := prog_8_method_1_code
def yX6_init : MethodName := ⟨RX6, "<init>", "()V"⟩
abbrev cX6_take : ByteArray := prog_8_method_2_code
def yX6_take : MethodName := ⟨RX6, "take", "(IJ)I"⟩
abbrev cX6_parses : ByteArray := prog_8_method_3_code
def yX6_parses : MethodName := ⟨RX6, "parses", "()Z"⟩
abbrev cX6_test : ByteArray := prog_8_method_4_code
def yX6_test : MethodName := ⟨RX6, "test", "(I)Z"⟩
abbrev cX6_term : ByteArray := prog_8_method_5_code
def yX6_term : MethodName := ⟨RX6, "term", "(I)Z"⟩
abbrev cX6_part : ByteArray := prog_8_method_6_code
def yX6_part : MethodName := ⟨RX6, "part", "(I)Z"⟩
abbrev cX6_comparison : ByteArray := prog_8_method_7_code
def yX6_comparison : MethodName := ⟨RX6, "comparison", "()Z"⟩
abbrev cX6_number : ByteArray := prog_8_method_8_code
def yX6_number : MethodName := ⟨RX6, "number", "()I"⟩
abbrev cX6_among : ByteArray := prog_8_method_9_code
def yX6_among : MethodName := ⟨RX6, "among", "(IIIII)I"⟩
abbrev cX6_digit : ByteArray := prog_8_method_10_code
def yX6_digit : MethodName := ⟨RX6, "digit", "()I"⟩
abbrev cX6_skip : ByteArray := prog_8_method_11_code
def yX6_skip : MethodName := ⟨RX6, "skip", "(I)Z"⟩
abbrev cX6_go : ByteArray := prog_8_method_12_code
def yX6_go : MethodName := ⟨RX6, "go", "()V"⟩
abbrev cX6_add : ByteArray := prog_8_method_13_code
def yX6_add : MethodName := ⟨RX6, "add", "(I)V"⟩
def RX7 : String := "NearNothing$Rest"
def TX7 : u_T := fun k => match k with
  | 0 => ("NearNothing$Rest", "plant", "LNearNothing$Plant;", true)
  | 1 => ("NearNothing$Rest", "speeds", "[I", true)
  | 2 => ("NearNothing$Rest", "reached", "[I", true)
  | 3 => ("NearNothing$Rest", "matrix", "[J", true)
  | 4 => ("NearNothing$Rest", "sides", "[J", true)
  | 5 => ("NearNothing$Rest", "minors", "[J", true)
  | 6 => ("NearNothing$Rest", "offers", "I", false)
  | 7 => ("NearNothing$Rest", "site", "[I", true)
  | 8 => ("NearNothing$Rest", "offeredSpeed", "[I", true)
  | _ => ("NearNothing$Rest", "price", "[I", true)
def tyX7 : Nat → FieldType := fun k => match k with
  | 0 => .object "NearNothing$Plant"
  | 1 => .array .int
  | 2 => .array .int
  | 3 => .array .long
  | 4 => .array .long
  | 5 => .array .long
  | 6 => .int
  | 7 => .array .int
  | 8 => .array .int
  | _ => .array .int
abbrev wsX70 : List Cond := u_ws RX7 TX7 10
theorem nmX7 : ∀ a, a < 10 → ∀ b, b < 10 → a ≠ b → (TX7 a).2.1 ≠ (TX7 b).2.1 := by decide +kernel
theorem tyX7_ok : ∀ k, k < 10 → parseFieldDescriptor (TX7 k).2.2.1 = some (tyX7 k) := by decide +kernel
abbrev cX7_init : ByteArray := prog_9_method_1_code
def yX7_init : MethodName := ⟨RX7, "<init>", "(LNearNothing$Plant;)V"⟩
abbrev cX7_addOffer : ByteArray := prog_9_method_2_code
def yX7_addOffer : MethodName := ⟨RX7, "addOffer", "(III)I"⟩
abbrev cX7_fraction : ByteArray := prog_9_method_3_code
def yX7_fraction : MethodName := ⟨RX7, "fraction", "(III)J"⟩
abbrev cX7_cheapest : ByteArray := prog_9_method_4_code
def yX7_cheapest : MethodName := ⟨RX7, "cheapest", "(II)I"⟩
abbrev cX7_priceOf : ByteArray := prog_9_method_5_code
def yX7_priceOf : MethodName := ⟨RX7, "priceOf", "(I)I"⟩
abbrev cX7_serves : ByteArray := prog_9_method_6_code
def yX7_serves : MethodName := ⟨RX7, "serves", "(III)Z"⟩
abbrev cX7_leakyRooms : ByteArray := prog_9_method_7_code
def yX7_leakyRooms : MethodName := ⟨RX7, "leakyRooms", "()I"⟩
abbrev cX7_findReached : ByteArray := prog_9_method_8_code
def yX7_findReached : MethodName := ⟨RX7, "findReached", "()V"⟩
abbrev cX7_join : ByteArray := prog_9_method_9_code
def yX7_join : MethodName := ⟨RX7, "join", "(I)V"⟩
abbrev cX7_findSpeeds : ByteArray := prog_9_method_10_code
def yX7_findSpeeds : MethodName := ⟨RX7, "findSpeeds", "(II)V"⟩
abbrev cX7_isClosed : ByteArray := prog_9_method_11_code
def yX7_isClosed : MethodName := ⟨RX7, "isClosed", "(I)Z"⟩
abbrev cX7_fill : ByteArray := prog_9_method_12_code
def yX7_fill : MethodName := ⟨RX7, "fill", "(I)V"⟩
abbrev cX7_determinant : ByteArray := prog_9_method_13_code
def yX7_determinant : MethodName := ⟨RX7, "determinant", "(I)J"⟩
abbrev cX7_common : ByteArray := prog_9_method_14_code
def yX7_common : MethodName := ⟨RX7, "common", "(JJ)J"⟩
def RX8 : String := "NearNothing$Rules"
def TX8 : u_T := fun k => match k with
  | 0 => ("NearNothing$Rules", "plant", "LNearNothing$Plant;", true)
  | 1 => ("NearNothing$Rules", "grains", "LNearNothing$Grains;", true)
  | 2 => ("NearNothing$Rules", "made", "I", false)
  | 3 => ("NearNothing$Rules", "standing", "I", false)
  | 4 => ("NearNothing$Rules", "forPumps", "I", false)
  | 5 => ("NearNothing$Rules", "target", "[I", true)
  | 6 => ("NearNothing$Rules", "used", "[I", true)
  | _ => ("NearNothing$Rules", "steps", "[[I", true)
def tyX8 : Nat → FieldType := fun k => match k with
  | 0 => .object "NearNothing$Plant"
  | 1 => .object "NearNothing$Grains"
  | 2 => .int
  | 3 => .int
  | 4 => .int
  | 5 => .array .int
  | 6 => .array .int
  | _ => .array (.array .int)
abbrev wsX80 : List Cond := u_ws RX8 TX8 8
theorem nmX8 : ∀ a, a < 8 → ∀ b, b < 8 → a ≠ b → (TX8 a).2.1 ≠ (TX8 b).2.1 := by decide +kernel
theorem tyX8_ok : ∀ k, k < 8 → parseFieldDescriptor (TX8 k).2.2.1 = some (tyX8 k) := by decide +kernel
abbrev cX8_init : ByteArray := prog_10_method_1_code
def yX8_init : MethodName := ⟨RX8, "<init>", "(LNearNothing$Plant;LNearNothing$Grains;)V"⟩
abbrev cX8_add : ByteArray := prog_10_method_2_code
def yX8_add : MethodName := ⟨RX8, "add", "(LNearNothing$Reader;)I"⟩
abbrev cX8_stands : ByteArray := prog_10_method_3_code
def yX8_stands : MethodName := ⟨RX8, "stands", "(I)Z"⟩
abbrev cX8_drop : ByteArray := prog_10_method_4_code
def yX8_drop : MethodName := ⟨RX8, "drop", "(I)V"⟩
abbrev cX8_forbidder : ByteArray := prog_10_method_5_code
def yX8_forbidder : MethodName := ⟨RX8, "forbidder", "(IZI)I"⟩
abbrev cX8_holds : ByteArray := prog_10_method_6_code
def yX8_holds : MethodName := ⟨RX8, "holds", "(II)Z"⟩
abbrev cX8_compares : ByteArray := prog_10_method_7_code
def yX8_compares : MethodName := ⟨RX8, "compares", "(II)Z"⟩
def RX9 : String := "NearNothing$Search"
def TX9 : u_T := fun k => match k with
  | 0 => ("NearNothing$Search", "delay", "[I", true)
  | 1 => ("NearNothing$Search", "sprays", "I", false)
  | 2 => ("NearNothing$Search", "sprayPlace", "[I", true)
  | 3 => ("NearNothing$Search", "sprayTick", "[I", true)
  | 4 => ("NearNothing$Search", "sights", "I", false)
  | 5 => ("NearNothing$Search", "sightTick", "[I", true)
  | 6 => ("NearNothing$Search", "sightSome", "[Z", true)
  | 7 => ("NearNothing$Search", "shown", "[I", true)
  | _ => ("NearNothing$Search", "having", "[I", true)
def tyX9 : Nat → FieldType := fun k => match k with
  | 0 => .array .int
  | 1 => .int
  | 2 => .array .int
  | 3 => .array .int
  | 4 => .int
  | 5 => .array .int
  | 6 => .array .boolean
  | 7 => .array .int
  | _ => .array .int
abbrev wsX90 : List Cond := u_ws RX9 TX9 9
theorem nmX9 : ∀ a, a < 9 → ∀ b, b < 9 → a ≠ b → (TX9 a).2.1 ≠ (TX9 b).2.1 := by decide +kernel
theorem tyX9_ok : ∀ k, k < 9 → parseFieldDescriptor (TX9 k).2.2.1 = some (tyX9 k) := by decide +kernel
abbrev cX9_init : ByteArray := prog_11_method_1_code
def yX9_init : MethodName := ⟨RX9, "<init>", "()V"⟩
abbrev cX9_addSpray : ByteArray := prog_11_method_2_code
def yX9_addSpray : MethodName := ⟨RX9, "addSpray", "(II)I"⟩
abbrev cX9_addSight : ByteArray := prog_11_method_3_code
def yX9_addSight : MethodName := ⟨RX9, "addSight", "(IZ)I"⟩
abbrev cX9_found : ByteArray := prog_11_method_4_code
def yX9_found : MethodName := ⟨RX9, "found", "(I)I"⟩
abbrev cX9_countFitting : ByteArray := prog_11_method_5_code
def yX9_countFitting : MethodName := ⟨RX9, "countFitting", "()I"⟩
abbrev cX9_findShown : ByteArray := prog_11_method_6_code
def yX9_findShown : MethodName := ⟨RX9, "findShown", "()V"⟩
abbrev cX9_fits : ByteArray := prog_11_method_7_code
def yX9_fits : MethodName := ⟨RX9, "fits", "(I)Z"⟩
abbrev cX9_nextPlace : ByteArray := prog_11_method_8_code
def yX9_nextPlace : MethodName := ⟨RX9, "nextPlace", "(I)I"⟩
def RX10 : String := "NearNothing$Starts"
def TX10 : u_T := fun k => match k with
  | 0 => ("NearNothing$Starts", "rules", "LNearNothing$Rules;", true)
  | _ => ("NearNothing$Starts", "ends", "[Z", true)
def tyX10 : Nat → FieldType := fun k => match k with
  | 0 => .object "NearNothing$Rules"
  | _ => .array .boolean
abbrev wsX100 : List Cond := u_ws RX10 TX10 2
theorem nmX10 : ∀ a, a < 2 → ∀ b, b < 2 → a ≠ b → (TX10 a).2.1 ≠ (TX10 b).2.1 := by decide +kernel
theorem tyX10_ok : ∀ k, k < 2 → parseFieldDescriptor (TX10 k).2.2.1 = some (tyX10 k) := by decide +kernel
abbrev cX10_init : ByteArray := prog_12_method_1_code
def yX10_init : MethodName := ⟨RX10, "<init>", "(LNearNothing$Rules;)V"⟩
abbrev cX10_nth : ByteArray := prog_12_method_2_code
def yX10_nth : MethodName := ⟨RX10, "nth", "(IIII)I"⟩
abbrev cX10_next : ByteArray := prog_12_method_3_code
def yX10_next : MethodName := ⟨RX10, "next", "(III)I"⟩
def RX11 : String := "NearNothing"
def TX11 : u_T := fun k => match k with
  | 0 => ("NearNothing", "plant", "LNearNothing$Plant;", true)
  | 1 => ("NearNothing", "grains", "LNearNothing$Grains;", true)
  | 2 => ("NearNothing", "ahead", "LNearNothing$Grains;", true)
  | 3 => ("NearNothing", "acts", "LNearNothing$Acts;", true)
  | 4 => ("NearNothing", "reader", "LNearNothing$Reader;", true)
  | 5 => ("NearNothing", "rules", "LNearNothing$Rules;", true)
  | 6 => ("NearNothing", "starts", "LNearNothing$Starts;", true)
  | 7 => ("NearNothing", "still", "LNearNothing$Rest;", true)
  | 8 => ("NearNothing", "drawing", "LNearNothing$Drawing;", true)
  | 9 => ("NearNothing", "gauges", "LNearNothing$Gauges;", true)
  | 10 => ("NearNothing", "cold", "LNearNothing$Cold;", true)
  | 11 => ("NearNothing", "search", "LNearNothing$Search;", true)
  | _ => ("NearNothing", "refusals", "[I", true)
def tyX11 : Nat → FieldType := fun k => match k with
  | 0 => .object "NearNothing$Plant"
  | 1 => .object "NearNothing$Grains"
  | 2 => .object "NearNothing$Grains"
  | 3 => .object "NearNothing$Acts"
  | 4 => .object "NearNothing$Reader"
  | 5 => .object "NearNothing$Rules"
  | 6 => .object "NearNothing$Starts"
  | 7 => .object "NearNothing$Rest"
  | 8 => .object "NearNothing$Drawing"
  | 9 => .object "NearNothing$Gauges"
  | 10 => .object "NearNothing$Cold"
  | 11 => .object "NearNothing$Search"
  | _ => .array .int
abbrev wsX110 : List Cond := u_ws RX11 TX11 13
theorem nmX11 : ∀ a, a < 13 → ∀ b, b < 13 → a ≠ b → (TX11 a).2.1 ≠ (TX11 b).2.1 := by decide +kernel
theorem tyX11_ok : ∀ k, k < 13 → parseFieldDescriptor (TX11 k).2.2.1 = some (tyX11 k) := by decide +kernel
abbrev cX11_init : ByteArray := prog_1_method_1_code
def yX11_init : MethodName := ⟨RX11, "<init>", "()V"⟩
abbrev cX11_room : ByteArray := prog_1_method_2_code
def yX11_room : MethodName := ⟨RX11, "room", "(II)I"⟩
abbrev cX11_warm : ByteArray := prog_1_method_3_code
def yX11_warm : MethodName := ⟨RX11, "warm", "(II)I"⟩
abbrev cX11_gas : ByteArray := prog_1_method_4_code
def yX11_gas : MethodName := ⟨RX11, "gas", "(IIIZ)I"⟩
abbrev cX11_gives : ByteArray := prog_1_method_5_code
def yX11_gives : MethodName := ⟨RX11, "gives", "(III)I"⟩
abbrev cX11_pipe : ByteArray := prog_1_method_6_code
def yX11_pipe : MethodName := ⟨RX11, "pipe", "(III)I"⟩
abbrev cX11_pump : ByteArray := prog_1_method_7_code
def yX11_pump : MethodName := ⟨RX11, "pump", "(IIIII)I"⟩
abbrev cX11_leak : ByteArray := prog_1_method_8_code
def yX11_leak : MethodName := ⟨RX11, "leak", "(III)I"⟩
abbrev cX11_ticks : ByteArray := prog_1_method_9_code
def yX11_ticks : MethodName := ⟨RX11, "ticks", "(I)I"⟩
abbrev cX11_in : ByteArray := prog_1_method_10_code
def yX11_in : MethodName := ⟨RX11, "in", "(III)I"⟩
abbrev cX11_pumpOf : ByteArray := prog_1_method_11_code
def yX11_pumpOf : MethodName := ⟨RX11, "pumpOf", "(II)I"⟩
abbrev cX11_all : ByteArray := prog_1_method_12_code
def yX11_all : MethodName := ⟨RX11, "all", "(II)I"⟩
abbrev cX11_when : ByteArray := prog_1_method_13_code
def yX11_when : MethodName := ⟨RX11, "when", "(III)I"⟩
abbrev cX11_feed : ByteArray := prog_1_method_14_code
def yX11_feed : MethodName := ⟨RX11, "feed", "(IJ)I"⟩
abbrev cX11_rule : ByteArray := prog_1_method_15_code
def yX11_rule : MethodName := ⟨RX11, "rule", "()I"⟩
abbrev cX11_unrule : ByteArray := prog_1_method_16_code
def yX11_unrule : MethodName := ⟨RX11, "unrule", "(I)I"⟩
abbrev cX11_forbids : ByteArray := prog_1_method_17_code
def yX11_forbids : MethodName := ⟨RX11, "forbids", "(IZ)I"⟩
abbrev cX11_valve : ByteArray := prog_1_method_18_code
def yX11_valve : MethodName := ⟨RX11, "valve", "(IZ)I"⟩
abbrev cX11_start : ByteArray := prog_1_method_19_code
def yX11_start : MethodName := ⟨RX11, "start", "(IZ)I"⟩
abbrev cX11_warmUp : ByteArray := prog_1_method_20_code
def yX11_warmUp : MethodName := ⟨RX11, "warmUp", "(I)I"⟩
abbrev cX11_undo : ByteArray := prog_1_method_21_code
def yX11_undo : MethodName := ⟨RX11, "undo", "()I"⟩
abbrev cX11_redo : ByteArray := prog_1_method_22_code
def yX11_redo : MethodName := ⟨RX11, "redo", "()I"⟩
abbrev cX11_order : ByteArray := prog_1_method_23_code
def yX11_order : MethodName := ⟨RX11, "order", "(II)I"⟩
abbrev cX11_rest : ByteArray := prog_1_method_24_code
def yX11_rest : MethodName := ⟨RX11, "rest", "(III)J"⟩
abbrev cX11_square : ByteArray := prog_1_method_25_code
def yX11_square : MethodName := ⟨RX11, "square", "(IIZ)I"⟩
abbrev cX11_walks : ByteArray := prog_1_method_26_code
def yX11_walks : MethodName := ⟨RX11, "walks", "(III)I"⟩
abbrev cX11_sees : ByteArray := prog_1_method_27_code
def yX11_sees : MethodName := ⟨RX11, "sees", "(III)I"⟩
abbrev cX11_reads : ByteArray := prog_1_method_28_code
def yX11_reads : MethodName := ⟨RX11, "reads", "(II)I"⟩
abbrev cX11_reading : ByteArray := prog_1_method_29_code
def yX11_reading : MethodName := ⟨RX11, "reading", "(II)I"⟩
abbrev cX11_trueGas : ByteArray := prog_1_method_30_code
def yX11_trueGas : MethodName := ⟨RX11, "trueGas", "(II)I"⟩
abbrev cX11_stage : ByteArray := prog_1_method_31_code
def yX11_stage : MethodName := ⟨RX11, "stage", "(IIIII)I"⟩
abbrev cX11_restCold : ByteArray := prog_1_method_32_code
def yX11_restCold : MethodName := ⟨RX11, "restCold", "(I)I"⟩
abbrev cX11_load : ByteArray := prog_1_method_33_code
def yX11_load : MethodName := ⟨RX11, "load", "(II)I"⟩
abbrev cX11_late : ByteArray := prog_1_method_34_code
def yX11_late : MethodName := ⟨RX11, "late", "(II)I"⟩
abbrev cX11_spray : ByteArray := prog_1_method_35_code
def yX11_spray : MethodName := ⟨RX11, "spray", "(II)I"⟩
abbrev cX11_seen : ByteArray := prog_1_method_36_code
def yX11_seen : MethodName := ⟨RX11, "seen", "(IZ)I"⟩
abbrev cX11_anew : ByteArray := prog_1_method_37_code
def yX11_anew : MethodName := ⟨RX11, "anew", "()I"⟩
abbrev cX11_hunt : ByteArray := prog_1_method_38_code
def yX11_hunt : MethodName := ⟨RX11, "hunt", "(I)I"⟩
abbrev cX11_odds : ByteArray := prog_1_method_39_code
def yX11_odds : MethodName := ⟨RX11, "odds", "(IIIII)J"⟩
abbrev cX11_offer : ByteArray := prog_1_method_40_code
def yX11_offer : MethodName := ⟨RX11, "offer", "(III)I"⟩
abbrev cX11_plan : ByteArray := prog_1_method_41_code
def yX11_plan : MethodName := ⟨RX11, "plan", "(II)I"⟩
abbrev cX11_count : ByteArray := prog_1_method_42_code
def yX11_count : MethodName := ⟨RX11, "count", "(I)I"⟩
abbrev cX11_refusal : ByteArray := prog_1_method_43_code
def yX11_refusal : MethodName := ⟨RX11, "refusal", "(ZZZZ)I"⟩
abbrev cX11_refuse : ByteArray := prog_1_method_44_code
def yX11_refuse : MethodName := ⟨RX11, "refuse", "(I)I"⟩
abbrev cX11_within : ByteArray := prog_1_method_45_code
def yX11_within : MethodName := ⟨RX11, "within", "(II)Z"⟩
abbrev cX11_passing : ByteArray := prog_1_method_46_code
def yX11_passing : MethodName := ⟨RX11, "passing", "(IIII)J"⟩
abbrev cX11_choices : ByteArray := prog_1_method_47_code
def yX11_choices : MethodName := ⟨RX11, "choices", "(II)J"⟩
def RX12 : String := "NearNothingModel"
def TX12 : u_T := fun k => match k with
  | 0 => ("NearNothingModel", "refused", "[I", true)
  | 1 => ("NearNothingModel", "size", "[I", true)
  | 2 => ("NearNothingModel", "stuff", "[I", true)
  | 3 => ("NearNothingModel", "warmth", "[I", true)
  | 4 => ("NearNothingModel", "gives", "[I", true)
  | 5 => ("NearNothingModel", "pipeA", "[I", true)
  | 6 => ("NearNothingModel", "pipeB", "[I", true)
  | 7 => ("NearNothingModel", "width", "[I", true)
  | 8 => ("NearNothingModel", "pumpRoom", "[I", true)
  | 9 => ("NearNothingModel", "speed", "[I", true)
  | 10 => ("NearNothingModel", "limit", "[I", true)
  | 11 => ("NearNothingModel", "leak", "[I", true)
  | 12 => ("NearNothingModel", "grains", "[I", true)
  | 13 => ("NearNothingModel", "wall", "[I", true)
  | 14 => ("NearNothingModel", "taken", "[I", true)
  | 15 => ("NearNothingModel", "in", "[I", true)
  | 16 => ("NearNothingModel", "out", "[I", true)
  | 17 => ("NearNothingModel", "isOpen", "[Z", true)
  | 18 => ("NearNothingModel", "isOn", "[Z", true)
  | 19 => ("NearNothingModel", "isWarmed", "[Z", true)
  | 20 => ("NearNothingModel", "rooms", "I", false)
  | 21 => ("NearNothingModel", "pipes", "I", false)
  | 22 => ("NearNothingModel", "pumps", "I", false)
  | 23 => ("NearNothingModel", "tick", "I", false)
  | 24 => ("NearNothingModel", "forth", "[I", true)
  | 25 => ("NearNothingModel", "back", "[I", true)
  | 26 => ("NearNothingModel", "keptGrains", "[I", true)
  | 27 => ("NearNothingModel", "keptWall", "[I", true)
  | 28 => ("NearNothingModel", "keptTaken", "[I", true)
  | 29 => ("NearNothingModel", "keptIn", "[I", true)
  | 30 => ("NearNothingModel", "keptOut", "[I", true)
  | 31 => ("NearNothingModel", "keptWarmed", "[Z", true)
  | 32 => ("NearNothingModel", "tape", "[I", true)
  | 33 => ("NearNothingModel", "text", "[I", true)
  | 34 => ("NearNothingModel", "textSize", "[I", true)
  | 35 => ("NearNothingModel", "stack", "[I", true)
  | 36 => ("NearNothingModel", "isGone", "[Z", true)
  | 37 => ("NearNothingModel", "taped", "I", false)
  | 38 => ("NearNothingModel", "rules", "I", false)
  | 39 => ("NearNothingModel", "place", "I", false)
  | 40 => ("NearNothingModel", "top", "I", false)
  | 41 => ("NearNothingModel", "waits", "[I", true)
  | 42 => ("NearNothingModel", "values", "[I", true)
  | 43 => ("NearNothingModel", "read", "I", false)
  | 44 => ("NearNothingModel", "waiting", "I", false)
  | 45 => ("NearNothingModel", "valued", "I", false)
  | 46 => ("NearNothingModel", "actKind", "[I", true)
  | 47 => ("NearNothingModel", "actOf", "[I", true)
  | 48 => ("NearNothingModel", "actWas", "[I", true)
  | 49 => ("NearNothingModel", "actIs", "[I", true)
  | 50 => ("NearNothingModel", "acts", "I", false)
  | 51 => ("NearNothingModel", "undone", "I", false)
  | 52 => ("NearNothingModel", "goes", "[I", true)
  | 53 => ("NearNothingModel", "bestGoes", "[I", true)
  | 54 => ("NearNothingModel", "row", "[J", true)
  | 55 => ("NearNothingModel", "part", "[I", true)
  | 56 => ("NearNothingModel", "extra", "[I", true)
  | 57 => ("NearNothingModel", "isClosed", "[Z", true)
  | 58 => ("NearNothingModel", "isWall", "[Z", true)
  | 59 => ("NearNothingModel", "here", "[I", true)
  | 60 => ("NearNothingModel", "then", "[I", true)
  | 61 => ("NearNothingModel", "eastOf", "[I", true)
  | 62 => ("NearNothingModel", "northOf", "[I", true)
  | 63 => ("NearNothingModel", "sees", "[I", true)
  | 64 => ("NearNothingModel", "asked", "[I", true)
  | 65 => ("NearNothingModel", "floor", "[I", true)
  | 66 => ("NearNothingModel", "power", "[I", true)
  | 67 => ("NearNothingModel", "wire", "[I", true)
  | 68 => ("NearNothingModel", "heat", "[I", true)
  | 69 => ("NearNothingModel", "late", "[I", true)
  | 70 => ("NearNothingModel", "sprayOf", "[I", true)
  | 71 => ("NearNothingModel", "sprayAt", "[I", true)
  | 72 => ("NearNothingModel", "seenAt", "[I", true)
  | 73 => ("NearNothingModel", "have", "[I", true)
  | 74 => ("NearNothingModel", "isSeen", "[Z", true)
  | 75 => ("NearNothingModel", "sprays", "I", false)
  | 76 => ("NearNothingModel", "seens", "I", false)
  | 77 => ("NearNothingModel", "offerRoom", "[I", true)
  | 78 => ("NearNothingModel", "offerSpeed", "[I", true)
  | 79 => ("NearNothingModel", "offerPrice", "[I", true)
  | _ => ("NearNothingModel", "offers", "I", false)
def tyX12 : Nat → FieldType := fun k => match k with
  | 0 => .array .int
  | 1 => .array .int
  | 2 => .array .int
  | 3 => .array .int
  | 4 => .array .int
  | 5 => .array .int
  | 6 => .array .int
  | 7 => .array .int
  | 8 => .array .int
  | 9 => .array .int
  | 10 => .array .int
  | 11 => .array .int
  | 12 => .array .int
  | 13 => .array .int
  | 14 => .array .int
  | 15 => .array .int
  | 16 => .array .int
  | 17 => .array .boolean
  | 18 => .array .boolean
  | 19 => .array .boolean
  | 20 => .int
  | 21 => .int
  | 22 => .int
  | 23 => .int
  | 24 => .array .int
  | 25 => .array .int
  | 26 => .array .int
  | 27 => .array .int
  | 28 => .array .int
  | 29 => .array .int
  | 30 => .array .int
  | 31 => .array .boolean
  | 32 => .array .int
  | 33 => .array .int
  | 34 => .array .int
  | 35 => .array .int
  | 36 => .array .boolean
  | 37 => .int
  | 38 => .int
  | 39 => .int
  | 40 => .int
  | 41 => .array .int
  | 42 => .array .int
  | 43 => .int
  | 44 => .int
  | 45 => .int
  | 46 => .array .int
  | 47 => .array .int
  | 48 => .array .int
  | 49 => .array .int
  | 50 => .int
  | 51 => .int
  | 52 => .array .int
  | 53 => .array .int
  | 54 => .array .long
  | 55 => .array .int
  | 56 => .array .int
  | 57 => .array .boolean
  | 58 => .array .boolean
  | 59 => .array .int
  | 60 => .array .int
  | 61 => .array .int
  | 62 => .array .int
  | 63 => .array .int
  | 64 => .array .int
  | 65 => .array .int
  | 66 => .array .int
  | 67 => .array .int
  | 68 => .array .int
  | 69 => .array .int
  | 70 => .array .int
  | 71 => .array .int
  | 72 => .array .int
  | 73 => .array .int
  | 74 => .array .boolean
  | 75 => .int
  | 76 => .int
  | 77 => .array .int
  | 78 => .array .int
  | 79 => .array .int
  | _ => .int
abbrev wsX120 : List Cond := u_ws RX12 TX12 81
theorem nmX12 : ∀ a, a < 81 → ∀ b, b < 81 → a ≠ b → (TX12 a).2.1 ≠ (TX12 b).2.1 := by decide +kernel
theorem tyX12_ok : ∀ k, k < 81 → parseFieldDescriptor (TX12 k).2.2.1 = some (tyX12 k) := by decide +kernel
abbrev cX12_init : ByteArray := prog_14_method_1_code
def yX12_init : MethodName := ⟨RX12, "<init>", "()V"⟩
abbrev cX12_no : ByteArray := prog_14_method_2_code
def yX12_no : MethodName := ⟨RX12, "no", "(I)I"⟩
abbrev cX12_isIn : ByteArray := prog_14_method_3_code
def yX12_isIn : MethodName := ⟨RX12, "isIn", "(JJJ)Z"⟩
abbrev cX12_out : ByteArray := prog_14_method_4_code
def yX12_out : MethodName := ⟨RX12, "out", "(JJJ)I"⟩
abbrev cX12_least : ByteArray := prog_14_method_5_code
def yX12_least : MethodName := ⟨RX12, "least", "(J)I"⟩
abbrev cX12_isRoom : ByteArray := prog_14_method_6_code
def yX12_isRoom : MethodName := ⟨RX12, "isRoom", "(I)Z"⟩
abbrev cX12_isGas : ByteArray := prog_14_method_7_code
def yX12_isGas : MethodName := ⟨RX12, "isGas", "(I)Z"⟩
abbrev cX12_isPipe : ByteArray := prog_14_method_8_code
def yX12_isPipe : MethodName := ⟨RX12, "isPipe", "(I)Z"⟩
abbrev cX12_isPump : ByteArray := prog_14_method_9_code
def yX12_isPump : MethodName := ⟨RX12, "isPump", "(I)Z"⟩
abbrev cX12_room : ByteArray := prog_14_method_10_code
def yX12_room : MethodName := ⟨RX12, "room", "(II)I"⟩
abbrev cX12_warm : ByteArray := prog_14_method_11_code
def yX12_warm : MethodName := ⟨RX12, "warm", "(II)I"⟩
abbrev cX12_gas : ByteArray := prog_14_method_12_code
def yX12_gas : MethodName := ⟨RX12, "gas", "(IIIZ)I"⟩
abbrev cX12_gives : ByteArray := prog_14_method_13_code
def yX12_gives : MethodName := ⟨RX12, "gives", "(III)I"⟩
abbrev cX12_pipe : ByteArray := prog_14_method_14_code
def yX12_pipe : MethodName := ⟨RX12, "pipe", "(III)I"⟩
abbrev cX12_pump : ByteArray := prog_14_method_15_code
def yX12_pump : MethodName := ⟨RX12, "pump", "(IIIII)I"⟩
abbrev cX12_leak : ByteArray := prog_14_method_16_code
def yX12_leak : MethodName := ⟨RX12, "leak", "(III)I"⟩
abbrev cX12_share : ByteArray := prog_14_method_17_code
def yX12_share : MethodName := ⟨RX12, "share", "(II)I"⟩
abbrev cX12_flows : ByteArray := prog_14_method_18_code
def yX12_flows : MethodName := ⟨RX12, "flows", "()V"⟩
abbrev cX12_moves : ByteArray := prog_14_method_19_code
def yX12_moves : MethodName := ⟨RX12, "moves", "(III)V"⟩
abbrev cX12_holds : ByteArray := prog_14_method_20_code
def yX12_holds : MethodName := ⟨RX12, "holds", "(I)I"⟩
abbrev cX12_sucks : ByteArray := prog_14_method_21_code
def yX12_sucks : MethodName := ⟨RX12, "sucks", "(I)V"⟩
abbrev cX12_givesBack : ByteArray := prog_14_method_22_code
def yX12_givesBack : MethodName := ⟨RX12, "givesBack", "(I)V"⟩
abbrev cX12_passes : ByteArray := prog_14_method_23_code
def yX12_passes : MethodName := ⟨RX12, "passes", "()V"⟩
abbrev cX12_ticks : ByteArray := prog_14_method_24_code
def yX12_ticks : MethodName := ⟨RX12, "ticks", "(I)I"⟩
abbrev cX12_push : ByteArray := prog_14_method_25_code
def yX12_push : MethodName := ⟨RX12, "push", "(I)I"⟩
abbrev cX12_in : ByteArray := prog_14_method_26_code
def yX12_in : MethodName := ⟨RX12, "in", "(III)I"⟩
abbrev cX12_pumpOf : ByteArray := prog_14_method_27_code
def yX12_pumpOf : MethodName := ⟨RX12, "pumpOf", "(II)I"⟩
abbrev cX12_all : ByteArray := prog_14_method_28_code
def yX12_all : MethodName := ⟨RX12, "all", "(II)I"⟩
abbrev cX12_copies : ByteArray := prog_14_method_29_code
def yX12_copies : MethodName := ⟨RX12, "copies", "(Z)V"⟩
abbrev cX12_when : ByteArray := prog_14_method_30_code
def yX12_when : MethodName := ⟨RX12, "when", "(III)I"⟩
abbrev cX12_feed : ByteArray := prog_14_method_31_code
def yX12_feed : MethodName := ⟨RX12, "feed", "(IJ)I"⟩
abbrev cX12_sign : ByteArray := prog_14_method_32_code
def yX12_sign : MethodName := ⟨RX12, "sign", "()I"⟩
abbrev cX12_isDigit : ByteArray := prog_14_method_33_code
def yX12_isDigit : MethodName := ⟨RX12, "isDigit", "(I)Z"⟩
abbrev cX12_digit : ByteArray := prog_14_method_34_code
def yX12_digit : MethodName := ⟨RX12, "digit", "()Z"⟩
abbrev cX12_compares : ByteArray := prog_14_method_35_code
def yX12_compares : MethodName := ⟨RX12, "compares", "()Z"⟩
abbrev cX12_closes : ByteArray := prog_14_method_36_code
def yX12_closes : MethodName := ⟨RX12, "closes", "()V"⟩
abbrev cX12_parses : ByteArray := prog_14_method_37_code
def yX12_parses : MethodName := ⟨RX12, "parses", "()Z"⟩
abbrev cX12_rule : ByteArray := prog_14_method_38_code
def yX12_rule : MethodName := ⟨RX12, "rule", "()I"⟩
abbrev cX12_unrule : ByteArray := prog_14_method_39_code
def yX12_unrule : MethodName := ⟨RX12, "unrule", "(I)I"⟩
abbrev cX12_fact : ByteArray := prog_14_method_40_code
def yX12_fact : MethodName := ⟨RX12, "fact", "(II)I"⟩
abbrev cX12_signOf : ByteArray := prog_14_method_41_code
def yX12_signOf : MethodName := ⟨RX12, "signOf", "(I)I"⟩
abbrev cX12_compared : ByteArray := prog_14_method_42_code
def yX12_compared : MethodName := ⟨RX12, "compared", "(I)I"⟩
abbrev cX12_works : ByteArray := prog_14_method_43_code
def yX12_works : MethodName := ⟨RX12, "works", "(I)V"⟩
abbrev cX12_waitsFor : ByteArray := prog_14_method_44_code
def yX12_waitsFor : MethodName := ⟨RX12, "waitsFor", "(I)V"⟩
abbrev cX12_holdsRule : ByteArray := prog_14_method_45_code
def yX12_holdsRule : MethodName := ⟨RX12, "holdsRule", "(I)Z"⟩
abbrev cX12_forbidden : ByteArray := prog_14_method_46_code
def yX12_forbidden : MethodName := ⟨RX12, "forbidden", "(IZ)I"⟩
abbrev cX12_forbids : ByteArray := prog_14_method_47_code
def yX12_forbids : MethodName := ⟨RX12, "forbids", "(IZ)I"⟩
abbrev cX12_forgets : ByteArray := prog_14_method_48_code
def yX12_forgets : MethodName := ⟨RX12, "forgets", "()V"⟩
abbrev cX12_stateOf : ByteArray := prog_14_method_49_code
def yX12_stateOf : MethodName := ⟨RX12, "stateOf", "(II)I"⟩
abbrev cX12_becomes : ByteArray := prog_14_method_50_code
def yX12_becomes : MethodName := ⟨RX12, "becomes", "(III)V"⟩
abbrev cX12_acts : ByteArray := prog_14_method_51_code
def yX12_acts : MethodName := ⟨RX12, "acts", "(III)I"⟩
abbrev cX12_valve : ByteArray := prog_14_method_52_code
def yX12_valve : MethodName := ⟨RX12, "valve", "(IZ)I"⟩
abbrev cX12_start : ByteArray := prog_14_method_53_code
def yX12_start : MethodName := ⟨RX12, "start", "(IZ)I"⟩
abbrev cX12_warmUp : ByteArray := prog_14_method_54_code
def yX12_warmUp : MethodName := ⟨RX12, "warmUp", "(I)I"⟩
abbrev cX12_undo : ByteArray := prog_14_method_55_code
def yX12_undo : MethodName := ⟨RX12, "undo", "()I"⟩
abbrev cX12_redo : ByteArray := prog_14_method_56_code
def yX12_redo : MethodName := ⟨RX12, "redo", "()I"⟩
abbrev cX12_bits : ByteArray := prog_14_method_57_code
def yX12_bits : MethodName := ⟨RX12, "bits", "(I)I"⟩
abbrev cX12_mayStart : ByteArray := prog_14_method_58_code
def yX12_mayStart : MethodName := ⟨RX12, "mayStart", "(I)Z"⟩
abbrev cX12_findOrder : ByteArray := prog_14_method_59_code
def yX12_findOrder : MethodName := ⟨RX12, "findOrder", "(I)Z"⟩
abbrev cX12_order : ByteArray := prog_14_method_60_code
def yX12_order : MethodName := ⟨RX12, "order", "(II)I"⟩
abbrev cX12_findParts : ByteArray := prog_14_method_61_code
def yX12_findParts : MethodName := ⟨RX12, "findParts", "()V"⟩
abbrev cX12_speedAt : ByteArray := prog_14_method_62_code
def yX12_speedAt : MethodName := ⟨RX12, "speedAt", "(II)I"⟩
abbrev cX12_divisor : ByteArray := prog_14_method_63_code
def yX12_divisor : MethodName := ⟨RX12, "divisor", "(JJ)J"⟩
abbrev cX12_shortens : ByteArray := prog_14_method_64_code
def yX12_shortens : MethodName := ⟨RX12, "shortens", "(I)V"⟩
abbrev cX12_solves : ByteArray := prog_14_method_65_code
def yX12_solves : MethodName := ⟨RX12, "solves", "(I)V"⟩
abbrev cX12_rest : ByteArray := prog_14_method_66_code
def yX12_rest : MethodName := ⟨RX12, "rest", "(III)J"⟩
abbrev cX12_square : ByteArray := prog_14_method_67_code
def yX12_square : MethodName := ⟨RX12, "square", "(IIZ)I"⟩
abbrev cX12_walks : ByteArray := prog_14_method_68_code
def yX12_walks : MethodName := ⟨RX12, "walks", "(III)I"⟩
abbrev cX12_sees : ByteArray := prog_14_method_69_code
def yX12_sees : MethodName := ⟨RX12, "sees", "(III)I"⟩
abbrev cX12_readsBy : ByteArray := prog_14_method_70_code
def yX12_readsBy : MethodName := ⟨RX12, "readsBy", "(IJJJ)I"⟩
abbrev cX12_reads : ByteArray := prog_14_method_71_code
def yX12_reads : MethodName := ⟨RX12, "reads", "(II)I"⟩
abbrev cX12_reading : ByteArray := prog_14_method_72_code
def yX12_reading : MethodName := ⟨RX12, "reading", "(II)I"⟩
abbrev cX12_trueGas : ByteArray := prog_14_method_73_code
def yX12_trueGas : MethodName := ⟨RX12, "trueGas", "(II)I"⟩
abbrev cX12_hidden : ByteArray := prog_14_method_74_code
def yX12_hidden : MethodName := ⟨RX12, "hidden", "()I"⟩
abbrev cX12_stage : ByteArray := prog_14_method_75_code
def yX12_stage : MethodName := ⟨RX12, "stage", "(IIIII)I"⟩
abbrev cX12_left : ByteArray := prog_14_method_76_code
def yX12_left : MethodName := ⟨RX12, "left", "(III)I"⟩
abbrev cX12_rests : ByteArray := prog_14_method_77_code
def yX12_rests : MethodName := ⟨RX12, "rests", "(I)I"⟩
abbrev cX12_restCold : ByteArray := prog_14_method_78_code
def yX12_restCold : MethodName := ⟨RX12, "restCold", "(I)I"⟩
abbrev cX12_load : ByteArray := prog_14_method_79_code
def yX12_load : MethodName := ⟨RX12, "load", "(II)I"⟩
abbrev cX12_late : ByteArray := prog_14_method_80_code
def yX12_late : MethodName := ⟨RX12, "late", "(II)I"⟩
abbrev cX12_spray : ByteArray := prog_14_method_81_code
def yX12_spray : MethodName := ⟨RX12, "spray", "(II)I"⟩
abbrev cX12_seen : ByteArray := prog_14_method_82_code
def yX12_seen : MethodName := ⟨RX12, "seen", "(IZ)I"⟩
abbrev cX12_anew : ByteArray := prog_14_method_83_code
def yX12_anew : MethodName := ⟨RX12, "anew", "()I"⟩
abbrev cX12_fits : ByteArray := prog_14_method_84_code
def yX12_fits : MethodName := ⟨RX12, "fits", "(I)Z"⟩
abbrev cX12_hunt : ByteArray := prog_14_method_85_code
def yX12_hunt : MethodName := ⟨RX12, "hunt", "(I)I"⟩
abbrev cX12_ways : ByteArray := prog_14_method_86_code
def yX12_ways : MethodName := ⟨RX12, "ways", "(II)J"⟩
abbrev cX12_odds : ByteArray := prog_14_method_87_code
def yX12_odds : MethodName := ⟨RX12, "odds", "(IIIII)J"⟩
abbrev cX12_offer : ByteArray := prog_14_method_88_code
def yX12_offer : MethodName := ⟨RX12, "offer", "(III)I"⟩
abbrev cX12_isLeakedInto : ByteArray := prog_14_method_89_code
def yX12_isLeakedInto : MethodName := ⟨RX12, "isLeakedInto", "(I)Z"⟩
abbrev cX12_holdsDown : ByteArray := prog_14_method_90_code
def yX12_holdsDown : MethodName := ⟨RX12, "holdsDown", "(II)Z"⟩
abbrev cX12_plan : ByteArray := prog_14_method_91_code
def yX12_plan : MethodName := ⟨RX12, "plan", "(II)I"⟩
abbrev cX12_count : ByteArray := prog_14_method_92_code
def yX12_count : MethodName := ⟨RX12, "count", "(I)I"⟩
