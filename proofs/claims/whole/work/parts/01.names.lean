-- ===== PART A: goes FIRST, ahead of the names: the tables' words, and 'selects' of the private methods out of them =====
/-- a private method of a class that the tables say can be made, by its rows of tables_1 -/
def lw_okq (q : MethodName × Nat) : Prop := (q.1.cls ≠ "java/lang/invoke/MethodHandle" ∧ q.1.cls ≠ "java/lang/invoke/VarHandle") ∧ Cond.instantiable q.1.cls q.2 ∈ tables_1 ∧ Cond.privateMethod q.1 ∈ tables_1 ∧ Cond.instanceMethod q.1 ∈ tables_1
theorem lw_p0 : lw_okq (⟨"HeardPlaces$Grid", "mark", "(II)V"⟩, 2) := ⟨⟨by decide +kernel, by decide +kernel⟩, List.mem_of_getElem? (i := 142) (by decide +kernel), List.mem_of_getElem? (i := 150) (by decide +kernel), List.mem_of_getElem? (i := 151) (by decide +kernel)⟩
theorem lw_p1 : lw_okq (⟨"HeardPlaces", "wallsChanged", "()V"⟩, 16) := ⟨⟨by decide +kernel, by decide +kernel⟩, List.mem_of_getElem? (i := 20) (by decide +kernel), List.mem_of_getElem? (i := 460) (by decide +kernel), List.mem_of_getElem? (i := 461) (by decide +kernel)⟩
theorem lw_p2 : lw_okq (⟨"HeardPlaces", "changed", "()V"⟩, 16) := ⟨⟨by decide +kernel, by decide +kernel⟩, List.mem_of_getElem? (i := 20) (by decide +kernel), List.mem_of_getElem? (i := 468) (by decide +kernel), List.mem_of_getElem? (i := 469) (by decide +kernel)⟩
theorem lw_p3 : lw_okq (⟨"HeardPlaces", "refusalOfRow", "(II)I"⟩, 16) := ⟨⟨by decide +kernel, by decide +kernel⟩, List.mem_of_getElem? (i := 20) (by decide +kernel), List.mem_of_getElem? (i := 509) (by decide +kernel), List.mem_of_getElem? (i := 510) (by decide +kernel)⟩
theorem lw_p4 : lw_okq (⟨"HeardPlaces", "faulty", "(I)I"⟩, 16) := ⟨⟨by decide +kernel, by decide +kernel⟩, List.mem_of_getElem? (i := 20) (by decide +kernel), List.mem_of_getElem? (i := 517) (by decide +kernel), List.mem_of_getElem? (i := 518) (by decide +kernel)⟩
theorem lw_p5 : lw_okq (⟨"HeardPlaces", "planned", "(LHeardPlaces$Sheet;I)J"⟩, 16) := ⟨⟨by decide +kernel, by decide +kernel⟩, List.mem_of_getElem? (i := 20) (by decide +kernel), List.mem_of_getElem? (i := 525) (by decide +kernel), List.mem_of_getElem? (i := 526) (by decide +kernel)⟩
theorem lw_p6 : lw_okq (⟨"HeardPlaces", "narrowed", "()LHeardPlaces$Narrowing;"⟩, 16) := ⟨⟨by decide +kernel, by decide +kernel⟩, List.mem_of_getElem? (i := 20) (by decide +kernel), List.mem_of_getElem? (i := 597) (by decide +kernel), List.mem_of_getElem? (i := 598) (by decide +kernel)⟩
theorem lw_p7 : lw_okq (⟨"HeardPlaces", "makeReady", "()V"⟩, 16) := ⟨⟨by decide +kernel, by decide +kernel⟩, List.mem_of_getElem? (i := 20) (by decide +kernel), List.mem_of_getElem? (i := 601) (by decide +kernel), List.mem_of_getElem? (i := 602) (by decide +kernel)⟩
theorem lw_p8 : lw_okq (⟨"HeardPlaces$Keepers", "atHops", "(III)J"⟩, 4) := ⟨⟨by decide +kernel, by decide +kernel⟩, List.mem_of_getElem? (i := 168) (by decide +kernel), List.mem_of_getElem? (i := 610) (by decide +kernel), List.mem_of_getElem? (i := 611) (by decide +kernel)⟩
theorem lw_p9 : lw_okq (⟨"HeardPlaces$Narrowing", "settle", "([JJZ)Z"⟩, 11) := ⟨⟨by decide +kernel, by decide +kernel⟩, List.mem_of_getElem? (i := 188) (by decide +kernel), List.mem_of_getElem? (i := 627) (by decide +kernel), List.mem_of_getElem? (i := 628) (by decide +kernel)⟩
theorem lw_p10 : lw_okq (⟨"HeardPlaces$Narrowing", "narrowBy", "(LHeardPlaces$Measure;[J)I"⟩, 11) := ⟨⟨by decide +kernel, by decide +kernel⟩, List.mem_of_getElem? (i := 188) (by decide +kernel), List.mem_of_getElem? (i := 633) (by decide +kernel), List.mem_of_getElem? (i := 634) (by decide +kernel)⟩
theorem lw_p11 : lw_okq (⟨"HeardPlaces$Narrowing", "supported", "(LHeardPlaces$Measure;ZJJ)J"⟩, 11) := ⟨⟨by decide +kernel, by decide +kernel⟩, List.mem_of_getElem? (i := 188) (by decide +kernel), List.mem_of_getElem? (i := 637) (by decide +kernel), List.mem_of_getElem? (i := 638) (by decide +kernel)⟩
theorem lw_p12 : lw_okq (⟨"HeardPlaces", "measuresFrom", "(LHeardPlaces$Sheet;II)I"⟩, 16) := ⟨⟨by decide +kernel, by decide +kernel⟩, List.mem_of_getElem? (i := 20) (by decide +kernel), List.mem_of_getElem? (i := 735) (by decide +kernel), List.mem_of_getElem? (i := 736) (by decide +kernel)⟩
theorem lw_p13 : lw_okq (⟨"HeardPlaces", "isSpent", "(I)Z"⟩, 16) := ⟨⟨by decide +kernel, by decide +kernel⟩, List.mem_of_getElem? (i := 20) (by decide +kernel), List.mem_of_getElem? (i := 808) (by decide +kernel), List.mem_of_getElem? (i := 809) (by decide +kernel)⟩
theorem lw_p14 : lw_okq (⟨"HeardPlaces$Placings", "prepare", "()V"⟩, 19) := ⟨⟨by decide +kernel, by decide +kernel⟩, List.mem_of_getElem? (i := 231) (by decide +kernel), List.mem_of_getElem? (i := 824) (by decide +kernel), List.mem_of_getElem? (i := 825) (by decide +kernel)⟩
theorem lw_p15 : lw_okq (⟨"HeardPlaces$Placings", "cellsOfStrangers", "()J"⟩, 19) := ⟨⟨by decide +kernel, by decide +kernel⟩, List.mem_of_getElem? (i := 231) (by decide +kernel), List.mem_of_getElem? (i := 828) (by decide +kernel), List.mem_of_getElem? (i := 829) (by decide +kernel)⟩
def lw_privs_1 : List (MethodName × Nat) := [(⟨"HeardPlaces$Grid", "mark", "(II)V"⟩, 2), (⟨"HeardPlaces", "wallsChanged", "()V"⟩, 16), (⟨"HeardPlaces", "changed", "()V"⟩, 16), (⟨"HeardPlaces", "refusalOfRow", "(II)I"⟩, 16), (⟨"HeardPlaces", "faulty", "(I)I"⟩, 16), (⟨"HeardPlaces", "planned", "(LHeardPlaces$Sheet;I)J"⟩, 16), (⟨"HeardPlaces", "narrowed", "()LHeardPlaces$Narrowing;"⟩, 16), (⟨"HeardPlaces", "makeReady", "()V"⟩, 16), (⟨"HeardPlaces$Keepers", "atHops", "(III)J"⟩, 4), (⟨"HeardPlaces$Narrowing", "settle", "([JJZ)Z"⟩, 11), (⟨"HeardPlaces$Narrowing", "narrowBy", "(LHeardPlaces$Measure;[J)I"⟩, 11), (⟨"HeardPlaces$Narrowing", "supported", "(LHeardPlaces$Measure;ZJJ)J"⟩, 11), (⟨"HeardPlaces", "measuresFrom", "(LHeardPlaces$Sheet;II)I"⟩, 16), (⟨"HeardPlaces", "isSpent", "(I)Z"⟩, 16), (⟨"HeardPlaces$Placings", "prepare", "()V"⟩, 19), (⟨"HeardPlaces$Placings", "cellsOfStrangers", "()J"⟩, 19)]
theorem lw_r1 : ∀ q ∈ lw_privs_1, lw_okq q := List.forall_mem_cons.mpr ⟨lw_p0, List.forall_mem_cons.mpr ⟨lw_p1, List.forall_mem_cons.mpr ⟨lw_p2, List.forall_mem_cons.mpr ⟨lw_p3, List.forall_mem_cons.mpr ⟨lw_p4, List.forall_mem_cons.mpr ⟨lw_p5, List.forall_mem_cons.mpr ⟨lw_p6, List.forall_mem_cons.mpr ⟨lw_p7, List.forall_mem_cons.mpr ⟨lw_p8, List.forall_mem_cons.mpr ⟨lw_p9, List.forall_mem_cons.mpr ⟨lw_p10, List.forall_mem_cons.mpr ⟨lw_p11, List.forall_mem_cons.mpr ⟨lw_p12, List.forall_mem_cons.mpr ⟨lw_p13, List.forall_mem_cons.mpr ⟨lw_p14, List.forall_mem_cons.mpr ⟨lw_p15, fun _ h => absurd h List.not_mem_nil⟩⟩⟩⟩⟩⟩⟩⟩⟩⟩⟩⟩⟩⟩⟩⟩
theorem lw_p16 : lw_okq (⟨"HeardPlaces$Placings", "openPair", "(II)V"⟩, 19) := ⟨⟨by decide +kernel, by decide +kernel⟩, List.mem_of_getElem? (i := 231) (by decide +kernel), List.mem_of_getElem? (i := 835) (by decide +kernel), List.mem_of_getElem? (i := 836) (by decide +kernel)⟩
theorem lw_p17 : lw_okq (⟨"HeardPlaces$Placings", "restrict", "(LHeardPlaces$Measure;)V"⟩, 19) := ⟨⟨by decide +kernel, by decide +kernel⟩, List.mem_of_getElem? (i := 231) (by decide +kernel), List.mem_of_getElem? (i := 840) (by decide +kernel), List.mem_of_getElem? (i := 841) (by decide +kernel)⟩
theorem lw_p18 : lw_okq (⟨"HeardPlaces$Placings", "place", "(I)V"⟩, 19) := ⟨⟨by decide +kernel, by decide +kernel⟩, List.mem_of_getElem? (i := 231) (by decide +kernel), List.mem_of_getElem? (i := 856) (by decide +kernel), List.mem_of_getElem? (i := 857) (by decide +kernel)⟩
theorem lw_p19 : lw_okq (⟨"HeardPlaces$Placings", "record", "()V"⟩, 19) := ⟨⟨by decide +kernel, by decide +kernel⟩, List.mem_of_getElem? (i := 231) (by decide +kernel), List.mem_of_getElem? (i := 861) (by decide +kernel), List.mem_of_getElem? (i := 862) (by decide +kernel)⟩
theorem lw_p20 : lw_okq (⟨"HeardPlaces$Placings", "count", "()V"⟩, 19) := ⟨⟨by decide +kernel, by decide +kernel⟩, List.mem_of_getElem? (i := 231) (by decide +kernel), List.mem_of_getElem? (i := 886) (by decide +kernel), List.mem_of_getElem? (i := 887) (by decide +kernel)⟩
theorem lw_p21 : lw_okq (⟨"HeardPlaces$Placings", "compare", "()V"⟩, 19) := ⟨⟨by decide +kernel, by decide +kernel⟩, List.mem_of_getElem? (i := 231) (by decide +kernel), List.mem_of_getElem? (i := 933) (by decide +kernel), List.mem_of_getElem? (i := 934) (by decide +kernel)⟩
theorem lw_p22 : lw_okq (⟨"HeardPlaces$Placings", "mostAtOneDistance", "(II)I"⟩, 19) := ⟨⟨by decide +kernel, by decide +kernel⟩, List.mem_of_getElem? (i := 231) (by decide +kernel), List.mem_of_getElem? (i := 938) (by decide +kernel), List.mem_of_getElem? (i := 939) (by decide +kernel)⟩
theorem lw_p23 : lw_okq (⟨"HeardPlaces", "refusalOfFlips", "(I)I"⟩, 16) := ⟨⟨by decide +kernel, by decide +kernel⟩, List.mem_of_getElem? (i := 20) (by decide +kernel), List.mem_of_getElem? (i := 975) (by decide +kernel), List.mem_of_getElem? (i := 976) (by decide +kernel)⟩
theorem lw_p24 : lw_okq (⟨"HeardPlaces$Flips", "seekAbout", "(III)V"⟩, 10) := ⟨⟨by decide +kernel, by decide +kernel⟩, List.mem_of_getElem? (i := 304) (by decide +kernel), List.mem_of_getElem? (i := 991) (by decide +kernel), List.mem_of_getElem? (i := 992) (by decide +kernel)⟩
theorem lw_p25 : lw_okq (⟨"HeardPlaces$Flips", "leaves", "(III)Z"⟩, 10) := ⟨⟨by decide +kernel, by decide +kernel⟩, List.mem_of_getElem? (i := 304) (by decide +kernel), List.mem_of_getElem? (i := 1001) (by decide +kernel), List.mem_of_getElem? (i := 1002) (by decide +kernel)⟩
theorem lw_p26 : lw_okq (⟨"HeardPlaces$Flips", "turnedCell", "(III)I"⟩, 10) := ⟨⟨by decide +kernel, by decide +kernel⟩, List.mem_of_getElem? (i := 304) (by decide +kernel), List.mem_of_getElem? (i := 1005) (by decide +kernel), List.mem_of_getElem? (i := 1006) (by decide +kernel)⟩
theorem lw_p27 : lw_okq (⟨"HeardPlaces$Flips", "canTurn", "(III)Z"⟩, 10) := ⟨⟨by decide +kernel, by decide +kernel⟩, List.mem_of_getElem? (i := 304) (by decide +kernel), List.mem_of_getElem? (i := 1018) (by decide +kernel), List.mem_of_getElem? (i := 1019) (by decide +kernel)⟩
theorem lw_p28 : lw_okq (⟨"HeardPlaces$Flips", "isAlone", "(I)Z"⟩, 10) := ⟨⟨by decide +kernel, by decide +kernel⟩, List.mem_of_getElem? (i := 304) (by decide +kernel), List.mem_of_getElem? (i := 1023) (by decide +kernel), List.mem_of_getElem? (i := 1024) (by decide +kernel)⟩
theorem lw_p29 : lw_okq (⟨"HeardPlaces$Flips", "isKeeping", "(I)Z"⟩, 10) := ⟨⟨by decide +kernel, by decide +kernel⟩, List.mem_of_getElem? (i := 304) (by decide +kernel), List.mem_of_getElem? (i := 1028) (by decide +kernel), List.mem_of_getElem? (i := 1029) (by decide +kernel)⟩
theorem lw_p30 : lw_okq (⟨"HeardPlaces$Flips", "cellAfter", "(II)I"⟩, 10) := ⟨⟨by decide +kernel, by decide +kernel⟩, List.mem_of_getElem? (i := 304) (by decide +kernel), List.mem_of_getElem? (i := 1032) (by decide +kernel), List.mem_of_getElem? (i := 1033) (by decide +kernel)⟩
theorem lw_p31 : lw_okq (⟨"HeardPlaces$Flips", "comeTo", "(IIII)V"⟩, 10) := ⟨⟨by decide +kernel, by decide +kernel⟩, List.mem_of_getElem? (i := 304) (by decide +kernel), List.mem_of_getElem? (i := 1037) (by decide +kernel), List.mem_of_getElem? (i := 1038) (by decide +kernel)⟩
def lw_privs_2 : List (MethodName × Nat) := [(⟨"HeardPlaces$Placings", "openPair", "(II)V"⟩, 19), (⟨"HeardPlaces$Placings", "restrict", "(LHeardPlaces$Measure;)V"⟩, 19), (⟨"HeardPlaces$Placings", "place", "(I)V"⟩, 19), (⟨"HeardPlaces$Placings", "record", "()V"⟩, 19), (⟨"HeardPlaces$Placings", "count", "()V"⟩, 19), (⟨"HeardPlaces$Placings", "compare", "()V"⟩, 19), (⟨"HeardPlaces$Placings", "mostAtOneDistance", "(II)I"⟩, 19), (⟨"HeardPlaces", "refusalOfFlips", "(I)I"⟩, 16), (⟨"HeardPlaces$Flips", "seekAbout", "(III)V"⟩, 10), (⟨"HeardPlaces$Flips", "leaves", "(III)Z"⟩, 10), (⟨"HeardPlaces$Flips", "turnedCell", "(III)I"⟩, 10), (⟨"HeardPlaces$Flips", "canTurn", "(III)Z"⟩, 10), (⟨"HeardPlaces$Flips", "isAlone", "(I)Z"⟩, 10), (⟨"HeardPlaces$Flips", "isKeeping", "(I)Z"⟩, 10), (⟨"HeardPlaces$Flips", "cellAfter", "(II)I"⟩, 10), (⟨"HeardPlaces$Flips", "comeTo", "(IIII)V"⟩, 10)]
theorem lw_r2 : ∀ q ∈ lw_privs_2, lw_okq q := List.forall_mem_cons.mpr ⟨lw_p16, List.forall_mem_cons.mpr ⟨lw_p17, List.forall_mem_cons.mpr ⟨lw_p18, List.forall_mem_cons.mpr ⟨lw_p19, List.forall_mem_cons.mpr ⟨lw_p20, List.forall_mem_cons.mpr ⟨lw_p21, List.forall_mem_cons.mpr ⟨lw_p22, List.forall_mem_cons.mpr ⟨lw_p23, List.forall_mem_cons.mpr ⟨lw_p24, List.forall_mem_cons.mpr ⟨lw_p25, List.forall_mem_cons.mpr ⟨lw_p26, List.forall_mem_cons.mpr ⟨lw_p27, List.forall_mem_cons.mpr ⟨lw_p28, List.forall_mem_cons.mpr ⟨lw_p29, List.forall_mem_cons.mpr ⟨lw_p30, List.forall_mem_cons.mpr ⟨lw_p31, fun _ h => absurd h List.not_mem_nil⟩⟩⟩⟩⟩⟩⟩⟩⟩⟩⟩⟩⟩⟩⟩⟩
theorem lw_p32 : lw_okq (⟨"HeardPlaces", "refusalOfFlip", "(II)I"⟩, 16) := ⟨⟨by decide +kernel, by decide +kernel⟩, List.mem_of_getElem? (i := 20) (by decide +kernel), List.mem_of_getElem? (i := 1045) (by decide +kernel), List.mem_of_getElem? (i := 1046) (by decide +kernel)⟩
theorem lw_p33 : lw_okq (⟨"HeardPlaces$Ways", "countFrom", "(II)V"⟩, 5) := ⟨⟨by decide +kernel, by decide +kernel⟩, List.mem_of_getElem? (i := 346) (by decide +kernel), List.mem_of_getElem? (i := 1089) (by decide +kernel), List.mem_of_getElem? (i := 1090) (by decide +kernel)⟩
theorem lw_p34 : lw_okq (⟨"HeardPlaces$Ways", "cellsAt", "(II)J"⟩, 5) := ⟨⟨by decide +kernel, by decide +kernel⟩, List.mem_of_getElem? (i := 346) (by decide +kernel), List.mem_of_getElem? (i := 1093) (by decide +kernel), List.mem_of_getElem? (i := 1094) (by decide +kernel)⟩
theorem lw_p35 : lw_okq (⟨"HeardPlaces$Ways", "next", "(III)J"⟩, 5) := ⟨⟨by decide +kernel, by decide +kernel⟩, List.mem_of_getElem? (i := 346) (by decide +kernel), List.mem_of_getElem? (i := 1099) (by decide +kernel), List.mem_of_getElem? (i := 1100) (by decide +kernel)⟩
theorem lw_p36 : lw_okq (⟨"HeardPlaces$Ways", "sum", "(IJ)J"⟩, 5) := ⟨⟨by decide +kernel, by decide +kernel⟩, List.mem_of_getElem? (i := 346) (by decide +kernel), List.mem_of_getElem? (i := 1103) (by decide +kernel), List.mem_of_getElem? (i := 1104) (by decide +kernel)⟩
theorem lw_p37 : lw_okq (⟨"HeardPlaces$Ways", "chosen", "(IJJ)I"⟩, 5) := ⟨⟨by decide +kernel, by decide +kernel⟩, List.mem_of_getElem? (i := 346) (by decide +kernel), List.mem_of_getElem? (i := 1115) (by decide +kernel), List.mem_of_getElem? (i := 1116) (by decide +kernel)⟩
theorem lw_p38 : lw_okq (⟨"HeardPlaces$Narrowing", "findSets", "(IJ)V"⟩, 11) := ⟨⟨by decide +kernel, by decide +kernel⟩, List.mem_of_getElem? (i := 188) (by decide +kernel), List.mem_of_getElem? (i := 1138) (by decide +kernel), List.mem_of_getElem? (i := 1139) (by decide +kernel)⟩
theorem lw_p39 : lw_okq (⟨"HeardPlaces$Narrowing", "suspects", "()I"⟩, 11) := ⟨⟨by decide +kernel, by decide +kernel⟩, List.mem_of_getElem? (i := 188) (by decide +kernel), List.mem_of_getElem? (i := 1142) (by decide +kernel), List.mem_of_getElem? (i := 1143) (by decide +kernel)⟩
theorem lw_p40 : lw_okq (⟨"HeardPlaces", "isHoldEmpty", "(I)Z"⟩, 16) := ⟨⟨by decide +kernel, by decide +kernel⟩, List.mem_of_getElem? (i := 20) (by decide +kernel), List.mem_of_getElem? (i := 1171) (by decide +kernel), List.mem_of_getElem? (i := 1172) (by decide +kernel)⟩
theorem lw_p41 : lw_okq (⟨"HeardPlaces", "refusalOfBodies", "(II)I"⟩, 16) := ⟨⟨by decide +kernel, by decide +kernel⟩, List.mem_of_getElem? (i := 20) (by decide +kernel), List.mem_of_getElem? (i := 1187) (by decide +kernel), List.mem_of_getElem? (i := 1188) (by decide +kernel)⟩
theorem lw_p42 : lw_okq (⟨"HeardPlaces$Bodies", "beaconTells", "(LHeardPlaces$Thing;)I"⟩, 1) := ⟨⟨by decide +kernel, by decide +kernel⟩, List.mem_of_getElem? (i := 369) (by decide +kernel), List.mem_of_getElem? (i := 1195) (by decide +kernel), List.mem_of_getElem? (i := 1196) (by decide +kernel)⟩
theorem lw_p43 : lw_okq (⟨"HeardPlaces$Bodies", "leave", "(I)V"⟩, 1) := ⟨⟨by decide +kernel, by decide +kernel⟩, List.mem_of_getElem? (i := 369) (by decide +kernel), List.mem_of_getElem? (i := 1199) (by decide +kernel), List.mem_of_getElem? (i := 1200) (by decide +kernel)⟩
theorem lw_p44 : lw_okq (⟨"HeardPlaces$Bodies", "anchorTells", "(LHeardPlaces$Thing;)I"⟩, 1) := ⟨⟨by decide +kernel, by decide +kernel⟩, List.mem_of_getElem? (i := 369) (by decide +kernel), List.mem_of_getElem? (i := 1203) (by decide +kernel), List.mem_of_getElem? (i := 1204) (by decide +kernel)⟩
theorem lw_p45 : lw_okq (⟨"HeardPlaces$Bodies", "thingTells", "(LHeardPlaces$Thing;)I"⟩, 1) := ⟨⟨by decide +kernel, by decide +kernel⟩, List.mem_of_getElem? (i := 369) (by decide +kernel), List.mem_of_getElem? (i := 1207) (by decide +kernel), List.mem_of_getElem? (i := 1208) (by decide +kernel)⟩
theorem lw_p46 : lw_okq (⟨"HeardPlaces$Bodies", "farTells", "(LHeardPlaces$Measure;)I"⟩, 1) := ⟨⟨by decide +kernel, by decide +kernel⟩, List.mem_of_getElem? (i := 369) (by decide +kernel), List.mem_of_getElem? (i := 1215) (by decide +kernel), List.mem_of_getElem? (i := 1216) (by decide +kernel)⟩
theorem lw_p47 : lw_okq (⟨"HeardPlaces$Bodies", "measureTells", "(LHeardPlaces$Measure;)I"⟩, 1) := ⟨⟨by decide +kernel, by decide +kernel⟩, List.mem_of_getElem? (i := 369) (by decide +kernel), List.mem_of_getElem? (i := 1219) (by decide +kernel), List.mem_of_getElem? (i := 1220) (by decide +kernel)⟩
def lw_privs_3 : List (MethodName × Nat) := [(⟨"HeardPlaces", "refusalOfFlip", "(II)I"⟩, 16), (⟨"HeardPlaces$Ways", "countFrom", "(II)V"⟩, 5), (⟨"HeardPlaces$Ways", "cellsAt", "(II)J"⟩, 5), (⟨"HeardPlaces$Ways", "next", "(III)J"⟩, 5), (⟨"HeardPlaces$Ways", "sum", "(IJ)J"⟩, 5), (⟨"HeardPlaces$Ways", "chosen", "(IJJ)I"⟩, 5), (⟨"HeardPlaces$Narrowing", "findSets", "(IJ)V"⟩, 11), (⟨"HeardPlaces$Narrowing", "suspects", "()I"⟩, 11), (⟨"HeardPlaces", "isHoldEmpty", "(I)Z"⟩, 16), (⟨"HeardPlaces", "refusalOfBodies", "(II)I"⟩, 16), (⟨"HeardPlaces$Bodies", "beaconTells", "(LHeardPlaces$Thing;)I"⟩, 1), (⟨"HeardPlaces$Bodies", "leave", "(I)V"⟩, 1), (⟨"HeardPlaces$Bodies", "anchorTells", "(LHeardPlaces$Thing;)I"⟩, 1), (⟨"HeardPlaces$Bodies", "thingTells", "(LHeardPlaces$Thing;)I"⟩, 1), (⟨"HeardPlaces$Bodies", "farTells", "(LHeardPlaces$Measure;)I"⟩, 1), (⟨"HeardPlaces$Bodies", "measureTells", "(LHeardPlaces$Measure;)I"⟩, 1)]
theorem lw_r3 : ∀ q ∈ lw_privs_3, lw_okq q := List.forall_mem_cons.mpr ⟨lw_p32, List.forall_mem_cons.mpr ⟨lw_p33, List.forall_mem_cons.mpr ⟨lw_p34, List.forall_mem_cons.mpr ⟨lw_p35, List.forall_mem_cons.mpr ⟨lw_p36, List.forall_mem_cons.mpr ⟨lw_p37, List.forall_mem_cons.mpr ⟨lw_p38, List.forall_mem_cons.mpr ⟨lw_p39, List.forall_mem_cons.mpr ⟨lw_p40, List.forall_mem_cons.mpr ⟨lw_p41, List.forall_mem_cons.mpr ⟨lw_p42, List.forall_mem_cons.mpr ⟨lw_p43, List.forall_mem_cons.mpr ⟨lw_p44, List.forall_mem_cons.mpr ⟨lw_p45, List.forall_mem_cons.mpr ⟨lw_p46, List.forall_mem_cons.mpr ⟨lw_p47, fun _ h => absurd h List.not_mem_nil⟩⟩⟩⟩⟩⟩⟩⟩⟩⟩⟩⟩⟩⟩⟩⟩
theorem lw_p48 : lw_okq (⟨"HeardPlaces$Bodies", "hearsTells", "(LHeardPlaces$Measure;)I"⟩, 1) := ⟨⟨by decide +kernel, by decide +kernel⟩, List.mem_of_getElem? (i := 369) (by decide +kernel), List.mem_of_getElem? (i := 1223) (by decide +kernel), List.mem_of_getElem? (i := 1224) (by decide +kernel)⟩
theorem lw_p49 : lw_okq (⟨"HeardPlaces$Bodies", "deafTells", "(LHeardPlaces$Measure;)I"⟩, 1) := ⟨⟨by decide +kernel, by decide +kernel⟩, List.mem_of_getElem? (i := 369) (by decide +kernel), List.mem_of_getElem? (i := 1227) (by decide +kernel), List.mem_of_getElem? (i := 1228) (by decide +kernel)⟩
theorem lw_p50 : lw_okq (⟨"HeardPlaces$Bodies", "stepsTells", "(LHeardPlaces$Measure;)I"⟩, 1) := ⟨⟨by decide +kernel, by decide +kernel⟩, List.mem_of_getElem? (i := 369) (by decide +kernel), List.mem_of_getElem? (i := 1231) (by decide +kernel), List.mem_of_getElem? (i := 1232) (by decide +kernel)⟩
theorem lw_p51 : lw_okq (⟨"HeardPlaces$Bodies", "beaconGreets", "(LHeardPlaces$Thing;)I"⟩, 1) := ⟨⟨by decide +kernel, by decide +kernel⟩, List.mem_of_getElem? (i := 369) (by decide +kernel), List.mem_of_getElem? (i := 1243) (by decide +kernel), List.mem_of_getElem? (i := 1244) (by decide +kernel)⟩
theorem lw_p52 : lw_okq (⟨"HeardPlaces$Bodies", "thingGreets", "(LHeardPlaces$Thing;)I"⟩, 1) := ⟨⟨by decide +kernel, by decide +kernel⟩, List.mem_of_getElem? (i := 369) (by decide +kernel), List.mem_of_getElem? (i := 1247) (by decide +kernel), List.mem_of_getElem? (i := 1248) (by decide +kernel)⟩
theorem lw_p53 : lw_okq (⟨"HeardPlaces$Bodies", "hearsWeighs", "()I"⟩, 1) := ⟨⟨by decide +kernel, by decide +kernel⟩, List.mem_of_getElem? (i := 369) (by decide +kernel), List.mem_of_getElem? (i := 1255) (by decide +kernel), List.mem_of_getElem? (i := 1256) (by decide +kernel)⟩
theorem lw_p54 : lw_okq (⟨"HeardPlaces$Bodies", "stepsWeighs", "(LHeardPlaces$Measure;)I"⟩, 1) := ⟨⟨by decide +kernel, by decide +kernel⟩, List.mem_of_getElem? (i := 369) (by decide +kernel), List.mem_of_getElem? (i := 1259) (by decide +kernel), List.mem_of_getElem? (i := 1260) (by decide +kernel)⟩
theorem lw_p55 : lw_okq (⟨"HeardPlaces$Bodies", "measureWeighs", "(LHeardPlaces$Measure;)I"⟩, 1) := ⟨⟨by decide +kernel, by decide +kernel⟩, List.mem_of_getElem? (i := 369) (by decide +kernel), List.mem_of_getElem? (i := 1263) (by decide +kernel), List.mem_of_getElem? (i := 1264) (by decide +kernel)⟩
theorem lw_p56 : lw_okq (⟨"HeardPlaces", "holdsInUse", "()I"⟩, 16) := ⟨⟨by decide +kernel, by decide +kernel⟩, List.mem_of_getElem? (i := 20) (by decide +kernel), List.mem_of_getElem? (i := 1326) (by decide +kernel), List.mem_of_getElem? (i := 1327) (by decide +kernel)⟩
theorem lw_p57 : lw_okq (⟨"HeardPlacesModel", "otherField", "()V"⟩, 83) := ⟨⟨by decide +kernel, by decide +kernel⟩, List.mem_of_getElem? (i := 1330) (by decide +kernel), List.mem_of_getElem? (i := 1594) (by decide +kernel), List.mem_of_getElem? (i := 1595) (by decide +kernel)⟩
theorem lw_p58 : lw_okq (⟨"HeardPlacesModel", "other", "()V"⟩, 83) := ⟨⟨by decide +kernel, by decide +kernel⟩, List.mem_of_getElem? (i := 1330) (by decide +kernel), List.mem_of_getElem? (i := 1598) (by decide +kernel), List.mem_of_getElem? (i := 1599) (by decide +kernel)⟩
theorem lw_p59 : lw_okq (⟨"HeardPlacesModel", "isCell", "(I)Z"⟩, 83) := ⟨⟨by decide +kernel, by decide +kernel⟩, List.mem_of_getElem? (i := 1330) (by decide +kernel), List.mem_of_getElem? (i := 1606) (by decide +kernel), List.mem_of_getElem? (i := 1607) (by decide +kernel)⟩
theorem lw_p60 : lw_okq (⟨"HeardPlacesModel", "isAnchorAt", "(I)Z"⟩, 83) := ⟨⟨by decide +kernel, by decide +kernel⟩, List.mem_of_getElem? (i := 1330) (by decide +kernel), List.mem_of_getElem? (i := 1611) (by decide +kernel), List.mem_of_getElem? (i := 1612) (by decide +kernel)⟩
theorem lw_p61 : lw_okq (⟨"HeardPlacesModel", "refused", "(I)I"⟩, 83) := ⟨⟨by decide +kernel, by decide +kernel⟩, List.mem_of_getElem? (i := 1330) (by decide +kernel), List.mem_of_getElem? (i := 1623) (by decide +kernel), List.mem_of_getElem? (i := 1624) (by decide +kernel)⟩
theorem lw_p62 : lw_okq (⟨"HeardPlacesModel", "failed", "(I)I"⟩, 83) := ⟨⟨by decide +kernel, by decide +kernel⟩, List.mem_of_getElem? (i := 1330) (by decide +kernel), List.mem_of_getElem? (i := 1627) (by decide +kernel), List.mem_of_getElem? (i := 1628) (by decide +kernel)⟩
theorem lw_p63 : lw_okq (⟨"HeardPlacesModel", "freeCells", "()I"⟩, 83) := ⟨⟨by decide +kernel, by decide +kernel⟩, List.mem_of_getElem? (i := 1330) (by decide +kernel), List.mem_of_getElem? (i := 1634) (by decide +kernel), List.mem_of_getElem? (i := 1635) (by decide +kernel)⟩
def lw_privs_4 : List (MethodName × Nat) := [(⟨"HeardPlaces$Bodies", "hearsTells", "(LHeardPlaces$Measure;)I"⟩, 1), (⟨"HeardPlaces$Bodies", "deafTells", "(LHeardPlaces$Measure;)I"⟩, 1), (⟨"HeardPlaces$Bodies", "stepsTells", "(LHeardPlaces$Measure;)I"⟩, 1), (⟨"HeardPlaces$Bodies", "beaconGreets", "(LHeardPlaces$Thing;)I"⟩, 1), (⟨"HeardPlaces$Bodies", "thingGreets", "(LHeardPlaces$Thing;)I"⟩, 1), (⟨"HeardPlaces$Bodies", "hearsWeighs", "()I"⟩, 1), (⟨"HeardPlaces$Bodies", "stepsWeighs", "(LHeardPlaces$Measure;)I"⟩, 1), (⟨"HeardPlaces$Bodies", "measureWeighs", "(LHeardPlaces$Measure;)I"⟩, 1), (⟨"HeardPlaces", "holdsInUse", "()I"⟩, 16), (⟨"HeardPlacesModel", "otherField", "()V"⟩, 83), (⟨"HeardPlacesModel", "other", "()V"⟩, 83), (⟨"HeardPlacesModel", "isCell", "(I)Z"⟩, 83), (⟨"HeardPlacesModel", "isAnchorAt", "(I)Z"⟩, 83), (⟨"HeardPlacesModel", "refused", "(I)I"⟩, 83), (⟨"HeardPlacesModel", "failed", "(I)I"⟩, 83), (⟨"HeardPlacesModel", "freeCells", "()I"⟩, 83)]
theorem lw_r4 : ∀ q ∈ lw_privs_4, lw_okq q := List.forall_mem_cons.mpr ⟨lw_p48, List.forall_mem_cons.mpr ⟨lw_p49, List.forall_mem_cons.mpr ⟨lw_p50, List.forall_mem_cons.mpr ⟨lw_p51, List.forall_mem_cons.mpr ⟨lw_p52, List.forall_mem_cons.mpr ⟨lw_p53, List.forall_mem_cons.mpr ⟨lw_p54, List.forall_mem_cons.mpr ⟨lw_p55, List.forall_mem_cons.mpr ⟨lw_p56, List.forall_mem_cons.mpr ⟨lw_p57, List.forall_mem_cons.mpr ⟨lw_p58, List.forall_mem_cons.mpr ⟨lw_p59, List.forall_mem_cons.mpr ⟨lw_p60, List.forall_mem_cons.mpr ⟨lw_p61, List.forall_mem_cons.mpr ⟨lw_p62, List.forall_mem_cons.mpr ⟨lw_p63, fun _ h => absurd h List.not_mem_nil⟩⟩⟩⟩⟩⟩⟩⟩⟩⟩⟩⟩⟩⟩⟩⟩
theorem lw_p64 : lw_okq (⟨"HeardPlacesModel", "isFree", "(I)Z"⟩, 83) := ⟨⟨by decide +kernel, by decide +kernel⟩, List.mem_of_getElem? (i := 1330) (by decide +kernel), List.mem_of_getElem? (i := 1638) (by decide +kernel), List.mem_of_getElem? (i := 1639) (by decide +kernel)⟩
theorem lw_p65 : lw_okq (⟨"HeardPlacesModel", "addThing", "(IIII)I"⟩, 83) := ⟨⟨by decide +kernel, by decide +kernel⟩, List.mem_of_getElem? (i := 1330) (by decide +kernel), List.mem_of_getElem? (i := 1647) (by decide +kernel), List.mem_of_getElem? (i := 1648) (by decide +kernel)⟩
theorem lw_p66 : lw_okq (⟨"HeardPlacesModel", "noThing", "(I)Z"⟩, 83) := ⟨⟨by decide +kernel, by decide +kernel⟩, List.mem_of_getElem? (i := 1330) (by decide +kernel), List.mem_of_getElem? (i := 1655) (by decide +kernel), List.mem_of_getElem? (i := 1656) (by decide +kernel)⟩
theorem lw_p67 : lw_okq (⟨"HeardPlacesModel", "toldOf", "(I)J"⟩, 83) := ⟨⟨by decide +kernel, by decide +kernel⟩, List.mem_of_getElem? (i := 1330) (by decide +kernel), List.mem_of_getElem? (i := 1660) (by decide +kernel), List.mem_of_getElem? (i := 1661) (by decide +kernel)⟩
theorem lw_p68 : lw_okq (⟨"HeardPlacesModel", "findNarrowed", "()V"⟩, 83) := ⟨⟨by decide +kernel, by decide +kernel⟩, List.mem_of_getElem? (i := 1330) (by decide +kernel), List.mem_of_getElem? (i := 1671) (by decide +kernel), List.mem_of_getElem? (i := 1672) (by decide +kernel)⟩
theorem lw_p69 : lw_okq (⟨"HeardPlacesModel", "useAll", "()V"⟩, 83) := ⟨⟨by decide +kernel, by decide +kernel⟩, List.mem_of_getElem? (i := 1330) (by decide +kernel), List.mem_of_getElem? (i := 1675) (by decide +kernel), List.mem_of_getElem? (i := 1676) (by decide +kernel)⟩
theorem lw_p70 : lw_okq (⟨"HeardPlacesModel", "narrow", "()Z"⟩, 83) := ⟨⟨by decide +kernel, by decide +kernel⟩, List.mem_of_getElem? (i := 1330) (by decide +kernel), List.mem_of_getElem? (i := 1679) (by decide +kernel), List.mem_of_getElem? (i := 1680) (by decide +kernel)⟩
theorem lw_p71 : lw_okq (⟨"HeardPlacesModel", "layAll", "()V"⟩, 83) := ⟨⟨by decide +kernel, by decide +kernel⟩, List.mem_of_getElem? (i := 1330) (by decide +kernel), List.mem_of_getElem? (i := 1683) (by decide +kernel), List.mem_of_getElem? (i := 1684) (by decide +kernel)⟩
theorem lw_p72 : lw_okq (⟨"HeardPlacesModel", "layMeasure", "(I)V"⟩, 83) := ⟨⟨by decide +kernel, by decide +kernel⟩, List.mem_of_getElem? (i := 1330) (by decide +kernel), List.mem_of_getElem? (i := 1687) (by decide +kernel), List.mem_of_getElem? (i := 1688) (by decide +kernel)⟩
theorem lw_p73 : lw_okq (⟨"HeardPlacesModel", "hopFrom", "(II)V"⟩, 83) := ⟨⟨by decide +kernel, by decide +kernel⟩, List.mem_of_getElem? (i := 1330) (by decide +kernel), List.mem_of_getElem? (i := 1691) (by decide +kernel), List.mem_of_getElem? (i := 1692) (by decide +kernel)⟩
theorem lw_p74 : lw_okq (⟨"HeardPlacesModel", "isKept", "(III)Z"⟩, 83) := ⟨⟨by decide +kernel, by decide +kernel⟩, List.mem_of_getElem? (i := 1330) (by decide +kernel), List.mem_of_getElem? (i := 1698) (by decide +kernel), List.mem_of_getElem? (i := 1699) (by decide +kernel)⟩
theorem lw_p75 : lw_okq (⟨"HeardPlacesModel", "narrowOne", "(I)Z"⟩, 83) := ⟨⟨by decide +kernel, by decide +kernel⟩, List.mem_of_getElem? (i := 1330) (by decide +kernel), List.mem_of_getElem? (i := 1708) (by decide +kernel), List.mem_of_getElem? (i := 1709) (by decide +kernel)⟩
theorem lw_p76 : lw_okq (⟨"HeardPlacesModel", "onOf", "(I)I"⟩, 83) := ⟨⟨by decide +kernel, by decide +kernel⟩, List.mem_of_getElem? (i := 1330) (by decide +kernel), List.mem_of_getElem? (i := 1721) (by decide +kernel), List.mem_of_getElem? (i := 1722) (by decide +kernel)⟩
theorem lw_p77 : lw_okq (⟨"HeardPlacesModel", "addMeasure", "(IIIII)I"⟩, 83) := ⟨⟨by decide +kernel, by decide +kernel⟩, List.mem_of_getElem? (i := 1330) (by decide +kernel), List.mem_of_getElem? (i := 1746) (by decide +kernel), List.mem_of_getElem? (i := 1747) (by decide +kernel)⟩
theorem lw_p78 : lw_okq (⟨"HeardPlacesModel", "noMeasure", "(I)Z"⟩, 83) := ⟨⟨by decide +kernel, by decide +kernel⟩, List.mem_of_getElem? (i := 1330) (by decide +kernel), List.mem_of_getElem? (i := 1760) (by decide +kernel), List.mem_of_getElem? (i := 1761) (by decide +kernel)⟩
theorem lw_p79 : lw_okq (⟨"HeardPlacesModel", "judge", "()V"⟩, 83) := ⟨⟨by decide +kernel, by decide +kernel⟩, List.mem_of_getElem? (i := 1330) (by decide +kernel), List.mem_of_getElem? (i := 1772) (by decide +kernel), List.mem_of_getElem? (i := 1773) (by decide +kernel)⟩
def lw_privs_5 : List (MethodName × Nat) := [(⟨"HeardPlacesModel", "isFree", "(I)Z"⟩, 83), (⟨"HeardPlacesModel", "addThing", "(IIII)I"⟩, 83), (⟨"HeardPlacesModel", "noThing", "(I)Z"⟩, 83), (⟨"HeardPlacesModel", "toldOf", "(I)J"⟩, 83), (⟨"HeardPlacesModel", "findNarrowed", "()V"⟩, 83), (⟨"HeardPlacesModel", "useAll", "()V"⟩, 83), (⟨"HeardPlacesModel", "narrow", "()Z"⟩, 83), (⟨"HeardPlacesModel", "layAll", "()V"⟩, 83), (⟨"HeardPlacesModel", "layMeasure", "(I)V"⟩, 83), (⟨"HeardPlacesModel", "hopFrom", "(II)V"⟩, 83), (⟨"HeardPlacesModel", "isKept", "(III)Z"⟩, 83), (⟨"HeardPlacesModel", "narrowOne", "(I)Z"⟩, 83), (⟨"HeardPlacesModel", "onOf", "(I)I"⟩, 83), (⟨"HeardPlacesModel", "addMeasure", "(IIIII)I"⟩, 83), (⟨"HeardPlacesModel", "noMeasure", "(I)Z"⟩, 83), (⟨"HeardPlacesModel", "judge", "()V"⟩, 83)]
theorem lw_r5 : ∀ q ∈ lw_privs_5, lw_okq q := List.forall_mem_cons.mpr ⟨lw_p64, List.forall_mem_cons.mpr ⟨lw_p65, List.forall_mem_cons.mpr ⟨lw_p66, List.forall_mem_cons.mpr ⟨lw_p67, List.forall_mem_cons.mpr ⟨lw_p68, List.forall_mem_cons.mpr ⟨lw_p69, List.forall_mem_cons.mpr ⟨lw_p70, List.forall_mem_cons.mpr ⟨lw_p71, List.forall_mem_cons.mpr ⟨lw_p72, List.forall_mem_cons.mpr ⟨lw_p73, List.forall_mem_cons.mpr ⟨lw_p74, List.forall_mem_cons.mpr ⟨lw_p75, List.forall_mem_cons.mpr ⟨lw_p76, List.forall_mem_cons.mpr ⟨lw_p77, List.forall_mem_cons.mpr ⟨lw_p78, List.forall_mem_cons.mpr ⟨lw_p79, fun _ h => absurd h List.not_mem_nil⟩⟩⟩⟩⟩⟩⟩⟩⟩⟩⟩⟩⟩⟩⟩⟩
theorem lw_p80 : lw_okq (⟨"HeardPlacesModel", "groupOf", "(I)I"⟩, 83) := ⟨⟨by decide +kernel, by decide +kernel⟩, List.mem_of_getElem? (i := 1330) (by decide +kernel), List.mem_of_getElem? (i := 1784) (by decide +kernel), List.mem_of_getElem? (i := 1785) (by decide +kernel)⟩
theorem lw_p81 : lw_okq (⟨"HeardPlacesModel", "searchFor", "(II)Z"⟩, 83) := ⟨⟨by decide +kernel, by decide +kernel⟩, List.mem_of_getElem? (i := 1330) (by decide +kernel), List.mem_of_getElem? (i := 1796) (by decide +kernel), List.mem_of_getElem? (i := 1797) (by decide +kernel)⟩
theorem lw_p82 : lw_okq (⟨"HeardPlacesModel", "search", "(I)Z"⟩, 83) := ⟨⟨by decide +kernel, by decide +kernel⟩, List.mem_of_getElem? (i := 1330) (by decide +kernel), List.mem_of_getElem? (i := 1800) (by decide +kernel), List.mem_of_getElem? (i := 1801) (by decide +kernel)⟩
theorem lw_p83 : lw_okq (⟨"HeardPlacesModel", "layPairs", "()V"⟩, 83) := ⟨⟨by decide +kernel, by decide +kernel⟩, List.mem_of_getElem? (i := 1330) (by decide +kernel), List.mem_of_getElem? (i := 1804) (by decide +kernel), List.mem_of_getElem? (i := 1805) (by decide +kernel)⟩
theorem lw_p84 : lw_okq (⟨"HeardPlacesModel", "stays", "(I)Z"⟩, 83) := ⟨⟨by decide +kernel, by decide +kernel⟩, List.mem_of_getElem? (i := 1330) (by decide +kernel), List.mem_of_getElem? (i := 1810) (by decide +kernel), List.mem_of_getElem? (i := 1811) (by decide +kernel)⟩
theorem lw_p85 : lw_okq (⟨"HeardPlacesModel", "isOtherAnchorAt", "(I)Z"⟩, 83) := ⟨⟨by decide +kernel, by decide +kernel⟩, List.mem_of_getElem? (i := 1330) (by decide +kernel), List.mem_of_getElem? (i := 1814) (by decide +kernel), List.mem_of_getElem? (i := 1815) (by decide +kernel)⟩
theorem lw_p86 : lw_okq (⟨"HeardPlacesModel", "tally", "()V"⟩, 83) := ⟨⟨by decide +kernel, by decide +kernel⟩, List.mem_of_getElem? (i := 1330) (by decide +kernel), List.mem_of_getElem? (i := 1818) (by decide +kernel), List.mem_of_getElem? (i := 1819) (by decide +kernel)⟩
theorem lw_p87 : lw_okq (⟨"HeardPlacesModel", "placeOf", "(I)I"⟩, 83) := ⟨⟨by decide +kernel, by decide +kernel⟩, List.mem_of_getElem? (i := 1330) (by decide +kernel), List.mem_of_getElem? (i := 1830) (by decide +kernel), List.mem_of_getElem? (i := 1831) (by decide +kernel)⟩
theorem lw_p88 : lw_okq (⟨"HeardPlacesModel", "cellsHad", "(I)I"⟩, 83) := ⟨⟨by decide +kernel, by decide +kernel⟩, List.mem_of_getElem? (i := 1330) (by decide +kernel), List.mem_of_getElem? (i := 1842) (by decide +kernel), List.mem_of_getElem? (i := 1843) (by decide +kernel)⟩
theorem lw_p89 : lw_okq (⟨"HeardPlacesModel", "hasLesserThere", "(I)Z"⟩, 83) := ⟨⟨by decide +kernel, by decide +kernel⟩, List.mem_of_getElem? (i := 1330) (by decide +kernel), List.mem_of_getElem? (i := 1873) (by decide +kernel), List.mem_of_getElem? (i := 1874) (by decide +kernel)⟩
theorem lw_p90 : lw_okq (⟨"HeardPlacesModel", "isPlaced", "(I)Z"⟩, 83) := ⟨⟨by decide +kernel, by decide +kernel⟩, List.mem_of_getElem? (i := 1330) (by decide +kernel), List.mem_of_getElem? (i := 1881) (by decide +kernel), List.mem_of_getElem? (i := 1882) (by decide +kernel)⟩
theorem lw_p91 : lw_okq (⟨"HeardPlacesModel", "goThroughFlips", "(II)V"⟩, 83) := ⟨⟨by decide +kernel, by decide +kernel⟩, List.mem_of_getElem? (i := 1330) (by decide +kernel), List.mem_of_getElem? (i := 1885) (by decide +kernel), List.mem_of_getElem? (i := 1886) (by decide +kernel)⟩
theorem lw_p92 : lw_okq (⟨"HeardPlacesModel", "mayBeJoint", "(I)Z"⟩, 83) := ⟨⟨by decide +kernel, by decide +kernel⟩, List.mem_of_getElem? (i := 1330) (by decide +kernel), List.mem_of_getElem? (i := 1889) (by decide +kernel), List.mem_of_getElem? (i := 1890) (by decide +kernel)⟩
theorem lw_p93 : lw_okq (⟨"HeardPlacesModel", "tryJoints", "()V"⟩, 83) := ⟨⟨by decide +kernel, by decide +kernel⟩, List.mem_of_getElem? (i := 1330) (by decide +kernel), List.mem_of_getElem? (i := 1893) (by decide +kernel), List.mem_of_getElem? (i := 1894) (by decide +kernel)⟩
theorem lw_p94 : lw_okq (⟨"HeardPlacesModel", "partOf", "(I)I"⟩, 83) := ⟨⟨by decide +kernel, by decide +kernel⟩, List.mem_of_getElem? (i := 1330) (by decide +kernel), List.mem_of_getElem? (i := 1897) (by decide +kernel), List.mem_of_getElem? (i := 1898) (by decide +kernel)⟩
theorem lw_p95 : lw_okq (⟨"HeardPlacesModel", "isHinged", "()Z"⟩, 83) := ⟨⟨by decide +kernel, by decide +kernel⟩, List.mem_of_getElem? (i := 1330) (by decide +kernel), List.mem_of_getElem? (i := 1901) (by decide +kernel), List.mem_of_getElem? (i := 1902) (by decide +kernel)⟩
def lw_privs_6 : List (MethodName × Nat) := [(⟨"HeardPlacesModel", "groupOf", "(I)I"⟩, 83), (⟨"HeardPlacesModel", "searchFor", "(II)Z"⟩, 83), (⟨"HeardPlacesModel", "search", "(I)Z"⟩, 83), (⟨"HeardPlacesModel", "layPairs", "()V"⟩, 83), (⟨"HeardPlacesModel", "stays", "(I)Z"⟩, 83), (⟨"HeardPlacesModel", "isOtherAnchorAt", "(I)Z"⟩, 83), (⟨"HeardPlacesModel", "tally", "()V"⟩, 83), (⟨"HeardPlacesModel", "placeOf", "(I)I"⟩, 83), (⟨"HeardPlacesModel", "cellsHad", "(I)I"⟩, 83), (⟨"HeardPlacesModel", "hasLesserThere", "(I)Z"⟩, 83), (⟨"HeardPlacesModel", "isPlaced", "(I)Z"⟩, 83), (⟨"HeardPlacesModel", "goThroughFlips", "(II)V"⟩, 83), (⟨"HeardPlacesModel", "mayBeJoint", "(I)Z"⟩, 83), (⟨"HeardPlacesModel", "tryJoints", "()V"⟩, 83), (⟨"HeardPlacesModel", "partOf", "(I)I"⟩, 83), (⟨"HeardPlacesModel", "isHinged", "()Z"⟩, 83)]
theorem lw_r6 : ∀ q ∈ lw_privs_6, lw_okq q := List.forall_mem_cons.mpr ⟨lw_p80, List.forall_mem_cons.mpr ⟨lw_p81, List.forall_mem_cons.mpr ⟨lw_p82, List.forall_mem_cons.mpr ⟨lw_p83, List.forall_mem_cons.mpr ⟨lw_p84, List.forall_mem_cons.mpr ⟨lw_p85, List.forall_mem_cons.mpr ⟨lw_p86, List.forall_mem_cons.mpr ⟨lw_p87, List.forall_mem_cons.mpr ⟨lw_p88, List.forall_mem_cons.mpr ⟨lw_p89, List.forall_mem_cons.mpr ⟨lw_p90, List.forall_mem_cons.mpr ⟨lw_p91, List.forall_mem_cons.mpr ⟨lw_p92, List.forall_mem_cons.mpr ⟨lw_p93, List.forall_mem_cons.mpr ⟨lw_p94, List.forall_mem_cons.mpr ⟨lw_p95, fun _ h => absurd h List.not_mem_nil⟩⟩⟩⟩⟩⟩⟩⟩⟩⟩⟩⟩⟩⟩⟩⟩
theorem lw_p96 : lw_okq (⟨"HeardPlacesModel", "isJoint", "(I)Z"⟩, 83) := ⟨⟨by decide +kernel, by decide +kernel⟩, List.mem_of_getElem? (i := 1330) (by decide +kernel), List.mem_of_getElem? (i := 1905) (by decide +kernel), List.mem_of_getElem? (i := 1906) (by decide +kernel)⟩
theorem lw_p97 : lw_okq (⟨"HeardPlacesModel", "movesBy", "()I"⟩, 83) := ⟨⟨by decide +kernel, by decide +kernel⟩, List.mem_of_getElem? (i := 1330) (by decide +kernel), List.mem_of_getElem? (i := 1909) (by decide +kernel), List.mem_of_getElem? (i := 1910) (by decide +kernel)⟩
theorem lw_p98 : lw_okq (⟨"HeardPlacesModel", "turnedCell", "(I)I"⟩, 83) := ⟨⟨by decide +kernel, by decide +kernel⟩, List.mem_of_getElem? (i := 1330) (by decide +kernel), List.mem_of_getElem? (i := 1913) (by decide +kernel), List.mem_of_getElem? (i := 1914) (by decide +kernel)⟩
theorem lw_p99 : lw_okq (⟨"HeardPlacesModel", "cellThen", "(I)I"⟩, 83) := ⟨⟨by decide +kernel, by decide +kernel⟩, List.mem_of_getElem? (i := 1330) (by decide +kernel), List.mem_of_getElem? (i := 1917) (by decide +kernel), List.mem_of_getElem? (i := 1918) (by decide +kernel)⟩
theorem lw_p100 : lw_okq (⟨"HeardPlacesModel", "keepFlip", "(I)V"⟩, 83) := ⟨⟨by decide +kernel, by decide +kernel⟩, List.mem_of_getElem? (i := 1330) (by decide +kernel), List.mem_of_getElem? (i := 1921) (by decide +kernel), List.mem_of_getElem? (i := 1922) (by decide +kernel)⟩
theorem lw_p101 : lw_okq (⟨"HeardPlacesModel", "seek", "(II)I"⟩, 83) := ⟨⟨by decide +kernel, by decide +kernel⟩, List.mem_of_getElem? (i := 1330) (by decide +kernel), List.mem_of_getElem? (i := 1929) (by decide +kernel), List.mem_of_getElem? (i := 1930) (by decide +kernel)⟩
theorem lw_p102 : lw_okq (⟨"HeardPlacesModel", "noTick", "(II)Z"⟩, 83) := ⟨⟨by decide +kernel, by decide +kernel⟩, List.mem_of_getElem? (i := 1330) (by decide +kernel), List.mem_of_getElem? (i := 1945) (by decide +kernel), List.mem_of_getElem? (i := 1946) (by decide +kernel)⟩
theorem lw_p103 : lw_okq (⟨"HeardPlacesModel", "waysOf", "(I)J"⟩, 83) := ⟨⟨by decide +kernel, by decide +kernel⟩, List.mem_of_getElem? (i := 1330) (by decide +kernel), List.mem_of_getElem? (i := 1953) (by decide +kernel), List.mem_of_getElem? (i := 1954) (by decide +kernel)⟩
theorem lw_p104 : lw_okq (⟨"HeardPlacesModel", "layWays", "(I)V"⟩, 83) := ⟨⟨by decide +kernel, by decide +kernel⟩, List.mem_of_getElem? (i := 1330) (by decide +kernel), List.mem_of_getElem? (i := 1957) (by decide +kernel), List.mem_of_getElem? (i := 1958) (by decide +kernel)⟩
theorem lw_p105 : lw_okq (⟨"HeardPlacesModel", "seekLiars", "()V"⟩, 83) := ⟨⟨by decide +kernel, by decide +kernel⟩, List.mem_of_getElem? (i := 1330) (by decide +kernel), List.mem_of_getElem? (i := 1977) (by decide +kernel), List.mem_of_getElem? (i := 1978) (by decide +kernel)⟩
theorem lw_p106 : lw_okq (⟨"HeardPlacesModel", "isQuietWithout", "(II)Z"⟩, 83) := ⟨⟨by decide +kernel, by decide +kernel⟩, List.mem_of_getElem? (i := 1330) (by decide +kernel), List.mem_of_getElem? (i := 1981) (by decide +kernel), List.mem_of_getElem? (i := 1982) (by decide +kernel)⟩
theorem lw_p107 : lw_okq (⟨"HeardPlacesModel", "countSet", "(II)V"⟩, 83) := ⟨⟨by decide +kernel, by decide +kernel⟩, List.mem_of_getElem? (i := 1330) (by decide +kernel), List.mem_of_getElem? (i := 1985) (by decide +kernel), List.mem_of_getElem? (i := 1986) (by decide +kernel)⟩
theorem lw_p108 : lw_okq (⟨"HeardPlacesModel", "mayLie", "(I)Z"⟩, 83) := ⟨⟨by decide +kernel, by decide +kernel⟩, List.mem_of_getElem? (i := 1330) (by decide +kernel), List.mem_of_getElem? (i := 1989) (by decide +kernel), List.mem_of_getElem? (i := 1990) (by decide +kernel)⟩
theorem lw_p109 : lw_okq (⟨"HeardPlacesModel", "isTaken", "(II)Z"⟩, 83) := ⟨⟨by decide +kernel, by decide +kernel⟩, List.mem_of_getElem? (i := 1330) (by decide +kernel), List.mem_of_getElem? (i := 2023) (by decide +kernel), List.mem_of_getElem? (i := 2024) (by decide +kernel)⟩
theorem lw_p110 : lw_okq (⟨"HeardPlacesModel", "faultOf", "(II)I"⟩, 83) := ⟨⟨by decide +kernel, by decide +kernel⟩, List.mem_of_getElem? (i := 1330) (by decide +kernel), List.mem_of_getElem? (i := 2031) (by decide +kernel), List.mem_of_getElem? (i := 2032) (by decide +kernel)⟩
theorem lw_p111 : lw_okq (⟨"HeardPlacesModel", "tellThing", "(I)I"⟩, 83) := ⟨⟨by decide +kernel, by decide +kernel⟩, List.mem_of_getElem? (i := 1330) (by decide +kernel), List.mem_of_getElem? (i := 2035) (by decide +kernel), List.mem_of_getElem? (i := 2036) (by decide +kernel)⟩
def lw_privs_7 : List (MethodName × Nat) := [(⟨"HeardPlacesModel", "isJoint", "(I)Z"⟩, 83), (⟨"HeardPlacesModel", "movesBy", "()I"⟩, 83), (⟨"HeardPlacesModel", "turnedCell", "(I)I"⟩, 83), (⟨"HeardPlacesModel", "cellThen", "(I)I"⟩, 83), (⟨"HeardPlacesModel", "keepFlip", "(I)V"⟩, 83), (⟨"HeardPlacesModel", "seek", "(II)I"⟩, 83), (⟨"HeardPlacesModel", "noTick", "(II)Z"⟩, 83), (⟨"HeardPlacesModel", "waysOf", "(I)J"⟩, 83), (⟨"HeardPlacesModel", "layWays", "(I)V"⟩, 83), (⟨"HeardPlacesModel", "seekLiars", "()V"⟩, 83), (⟨"HeardPlacesModel", "isQuietWithout", "(II)Z"⟩, 83), (⟨"HeardPlacesModel", "countSet", "(II)V"⟩, 83), (⟨"HeardPlacesModel", "mayLie", "(I)Z"⟩, 83), (⟨"HeardPlacesModel", "isTaken", "(II)Z"⟩, 83), (⟨"HeardPlacesModel", "faultOf", "(II)I"⟩, 83), (⟨"HeardPlacesModel", "tellThing", "(I)I"⟩, 83)]
theorem lw_r7 : ∀ q ∈ lw_privs_7, lw_okq q := List.forall_mem_cons.mpr ⟨lw_p96, List.forall_mem_cons.mpr ⟨lw_p97, List.forall_mem_cons.mpr ⟨lw_p98, List.forall_mem_cons.mpr ⟨lw_p99, List.forall_mem_cons.mpr ⟨lw_p100, List.forall_mem_cons.mpr ⟨lw_p101, List.forall_mem_cons.mpr ⟨lw_p102, List.forall_mem_cons.mpr ⟨lw_p103, List.forall_mem_cons.mpr ⟨lw_p104, List.forall_mem_cons.mpr ⟨lw_p105, List.forall_mem_cons.mpr ⟨lw_p106, List.forall_mem_cons.mpr ⟨lw_p107, List.forall_mem_cons.mpr ⟨lw_p108, List.forall_mem_cons.mpr ⟨lw_p109, List.forall_mem_cons.mpr ⟨lw_p110, List.forall_mem_cons.mpr ⟨lw_p111, fun _ h => absurd h List.not_mem_nil⟩⟩⟩⟩⟩⟩⟩⟩⟩⟩⟩⟩⟩⟩⟩⟩
theorem lw_p112 : lw_okq (⟨"HeardPlacesModel", "traced", "(I)V"⟩, 83) := ⟨⟨by decide +kernel, by decide +kernel⟩, List.mem_of_getElem? (i := 1330) (by decide +kernel), List.mem_of_getElem? (i := 2039) (by decide +kernel), List.mem_of_getElem? (i := 2040) (by decide +kernel)⟩
theorem lw_p113 : lw_okq (⟨"HeardPlacesModel", "tellMeasure", "(I)I"⟩, 83) := ⟨⟨by decide +kernel, by decide +kernel⟩, List.mem_of_getElem? (i := 1330) (by decide +kernel), List.mem_of_getElem? (i := 2043) (by decide +kernel), List.mem_of_getElem? (i := 2044) (by decide +kernel)⟩
theorem lw_p114 : lw_okq (⟨"HeardPlacesModel", "greetThing", "(I)I"⟩, 83) := ⟨⟨by decide +kernel, by decide +kernel⟩, List.mem_of_getElem? (i := 1330) (by decide +kernel), List.mem_of_getElem? (i := 2051) (by decide +kernel), List.mem_of_getElem? (i := 2052) (by decide +kernel)⟩
theorem lw_p115 : lw_okq (⟨"HeardPlacesModel", "weighMeasure", "(I)I"⟩, 83) := ⟨⟨by decide +kernel, by decide +kernel⟩, List.mem_of_getElem? (i := 1330) (by decide +kernel), List.mem_of_getElem? (i := 2055) (by decide +kernel), List.mem_of_getElem? (i := 2056) (by decide +kernel)⟩
theorem lw_p116 : lw_okq (⟨"HeardPlacesModel", "noCell", "(II)I"⟩, 83) := ⟨⟨by decide +kernel, by decide +kernel⟩, List.mem_of_getElem? (i := 1330) (by decide +kernel), List.mem_of_getElem? (i := 2071) (by decide +kernel), List.mem_of_getElem? (i := 2072) (by decide +kernel)⟩
theorem lw_p117 : lw_okq (⟨"HeardPlacesModel", "failedLong", "(I)J"⟩, 83) := ⟨⟨by decide +kernel, by decide +kernel⟩, List.mem_of_getElem? (i := 1330) (by decide +kernel), List.mem_of_getElem? (i := 2079) (by decide +kernel), List.mem_of_getElem? (i := 2080) (by decide +kernel)⟩
theorem lw_p118 : lw_okq (⟨"HeardPlacesModel", "counted", "(I)I"⟩, 83) := ⟨⟨by decide +kernel, by decide +kernel⟩, List.mem_of_getElem? (i := 1330) (by decide +kernel), List.mem_of_getElem? (i := 2099) (by decide +kernel), List.mem_of_getElem? (i := 2100) (by decide +kernel)⟩
def lw_privs_8 : List (MethodName × Nat) := [(⟨"HeardPlacesModel", "traced", "(I)V"⟩, 83), (⟨"HeardPlacesModel", "tellMeasure", "(I)I"⟩, 83), (⟨"HeardPlacesModel", "greetThing", "(I)I"⟩, 83), (⟨"HeardPlacesModel", "weighMeasure", "(I)I"⟩, 83), (⟨"HeardPlacesModel", "noCell", "(II)I"⟩, 83), (⟨"HeardPlacesModel", "failedLong", "(I)J"⟩, 83), (⟨"HeardPlacesModel", "counted", "(I)I"⟩, 83)]
theorem lw_r8 : ∀ q ∈ lw_privs_8, lw_okq q := List.forall_mem_cons.mpr ⟨lw_p112, List.forall_mem_cons.mpr ⟨lw_p113, List.forall_mem_cons.mpr ⟨lw_p114, List.forall_mem_cons.mpr ⟨lw_p115, List.forall_mem_cons.mpr ⟨lw_p116, List.forall_mem_cons.mpr ⟨lw_p117, List.forall_mem_cons.mpr ⟨lw_p118, fun _ h => absurd h List.not_mem_nil⟩⟩⟩⟩⟩⟩⟩
def lw_privs : List (MethodName × Nat) := lw_privs_1 ++ (lw_privs_2 ++ (lw_privs_3 ++ (lw_privs_4 ++ (lw_privs_5 ++ (lw_privs_6 ++ (lw_privs_7 ++ (lw_privs_8)))))))
def lw_tbl : List Cond := k2_sels lw_privs ++ tables_1
theorem lw_privs_ok : ∀ q ∈ lw_privs, lw_okq q := by
  show ∀ q ∈ lw_privs_1 ++ (lw_privs_2 ++ (lw_privs_3 ++ (lw_privs_4 ++ (lw_privs_5 ++ (lw_privs_6 ++ (lw_privs_7 ++ (lw_privs_8))))))), lw_okq q
  exact List.forall_mem_append.mpr ⟨lw_r1, List.forall_mem_append.mpr ⟨lw_r2, List.forall_mem_append.mpr ⟨lw_r3, List.forall_mem_append.mpr ⟨lw_r4, List.forall_mem_append.mpr ⟨lw_r5, List.forall_mem_append.mpr ⟨lw_r6, List.forall_mem_append.mpr ⟨lw_r7, lw_r8⟩⟩⟩⟩⟩⟩⟩
-- ===== end of PART A; then your names; then what follows =====
def RX0 : String := "HeardPlaces$Bodies"
def TX0 : u_T := fun k => match k with
  | _ => ("HeardPlaces$Bodies", "trace", "I", false)
def tyX0 : Nat → FieldType := fun k => match k with
  | _ => .int
abbrev wsX00 : List Cond := u_ws RX0 TX0 1
theorem nmX0 : ∀ a, a < 1 → ∀ b, b < 1 → a ≠ b → (TX0 a).2.1 ≠ (TX0 b).2.1 := by decide +kernel
theorem tyX0_ok : ∀ k, k < 1 → parseFieldDescriptor (TX0 k).2.2.1 = some (tyX0 k) := by decide +kernel
abbrev cX0_init : ByteArray := prog_2_method_1_code
def yX0_init : MethodName := ⟨RX0, "<init>", "()V"⟩
abbrev cX0_tellingOf : ByteArray := prog_2_method_2_code
def yX0_tellingOf : MethodName := ⟨RX0, "tellingOf", "(LHeardPlaces$Thing;)I"⟩
abbrev cX0_tellingOf_ : ByteArray := prog_2_method_3_code
def yX0_tellingOf_ : MethodName := ⟨RX0, "tellingOf", "(LHeardPlaces$Measure;)I"⟩
abbrev cX0_greetingOf : ByteArray := prog_2_method_4_code
def yX0_greetingOf : MethodName := ⟨RX0, "greetingOf", "(LHeardPlaces$Thing;)I"⟩
abbrev cX0_weightOf : ByteArray := prog_2_method_5_code
def yX0_weightOf : MethodName := ⟨RX0, "weightOf", "(LHeardPlaces$Measure;)I"⟩
abbrev cX0_leave : ByteArray := prog_2_method_6_code
def yX0_leave : MethodName := ⟨RX0, "leave", "(I)V"⟩
abbrev cX0_thingTells : ByteArray := prog_2_method_7_code
def yX0_thingTells : MethodName := ⟨RX0, "thingTells", "(LHeardPlaces$Thing;)I"⟩
abbrev cX0_anchorTells : ByteArray := prog_2_method_8_code
def yX0_anchorTells : MethodName := ⟨RX0, "anchorTells", "(LHeardPlaces$Thing;)I"⟩
abbrev cX0_beaconTells : ByteArray := prog_2_method_9_code
def yX0_beaconTells : MethodName := ⟨RX0, "beaconTells", "(LHeardPlaces$Thing;)I"⟩
abbrev cX0_measureTells : ByteArray := prog_2_method_10_code
def yX0_measureTells : MethodName := ⟨RX0, "measureTells", "(LHeardPlaces$Measure;)I"⟩
abbrev cX0_farTells : ByteArray := prog_2_method_11_code
def yX0_farTells : MethodName := ⟨RX0, "farTells", "(LHeardPlaces$Measure;)I"⟩
abbrev cX0_hearsTells : ByteArray := prog_2_method_12_code
def yX0_hearsTells : MethodName := ⟨RX0, "hearsTells", "(LHeardPlaces$Measure;)I"⟩
abbrev cX0_deafTells : ByteArray := prog_2_method_13_code
def yX0_deafTells : MethodName := ⟨RX0, "deafTells", "(LHeardPlaces$Measure;)I"⟩
abbrev cX0_stepsTells : ByteArray := prog_2_method_14_code
def yX0_stepsTells : MethodName := ⟨RX0, "stepsTells", "(LHeardPlaces$Measure;)I"⟩
abbrev cX0_thingGreets : ByteArray := prog_2_method_15_code
def yX0_thingGreets : MethodName := ⟨RX0, "thingGreets", "(LHeardPlaces$Thing;)I"⟩
abbrev cX0_beaconGreets : ByteArray := prog_2_method_16_code
def yX0_beaconGreets : MethodName := ⟨RX0, "beaconGreets", "(LHeardPlaces$Thing;)I"⟩
abbrev cX0_measureWeighs : ByteArray := prog_2_method_17_code
def yX0_measureWeighs : MethodName := ⟨RX0, "measureWeighs", "(LHeardPlaces$Measure;)I"⟩
abbrev cX0_hearsWeighs : ByteArray := prog_2_method_18_code
def yX0_hearsWeighs : MethodName := ⟨RX0, "hearsWeighs", "()I"⟩
abbrev cX0_stepsWeighs : ByteArray := prog_2_method_19_code
def yX0_stepsWeighs : MethodName := ⟨RX0, "stepsWeighs", "(LHeardPlaces$Measure;)I"⟩
def RX1 : String := "HeardPlaces$Desk"
def TX1 : u_T := fun k => match k with
  | 0 => ("HeardPlaces$Desk", "width", "I", false)
  | 1 => ("HeardPlaces$Desk", "height", "I", false)
  | 2 => ("HeardPlaces$Desk", "free", "J", false)
  | 3 => ("HeardPlaces$Desk", "thingCount", "I", false)
  | 4 => ("HeardPlaces$Desk", "things", "[LHeardPlaces$Thing;", true)
  | 5 => ("HeardPlaces$Desk", "boxes", "[J", true)
  | 6 => ("HeardPlaces$Desk", "mapCells", "[I", true)
  | 7 => ("HeardPlaces$Desk", "trusted", "I", false)
  | 8 => ("HeardPlaces$Desk", "measureCount", "I", false)
  | 9 => ("HeardPlaces$Desk", "measures", "[LHeardPlaces$Measure;", true)
  | 10 => ("HeardPlaces$Desk", "on", "J", false)
  | 11 => ("HeardPlaces$Desk", "moverCount", "I", false)
  | 12 => ("HeardPlaces$Desk", "moverFirst", "[I", true)
  | 13 => ("HeardPlaces$Desk", "moverTicks", "[I", true)
  | 14 => ("HeardPlaces$Desk", "moverReach", "[I", true)
  | 15 => ("HeardPlaces$Desk", "alone", "Z", false)
  | _ => ("HeardPlaces$Desk", "links", "[I", true)
def tyX1 : Nat → FieldType := fun k => match k with
  | 0 => .int
  | 1 => .int
  | 2 => .long
  | 3 => .int
  | 4 => .array (.object "HeardPlaces$Thing")
  | 5 => .array .long
  | 6 => .array .int
  | 7 => .int
  | 8 => .int
  | 9 => .array (.object "HeardPlaces$Measure")
  | 10 => .long
  | 11 => .int
  | 12 => .array .int
  | 13 => .array .int
  | 14 => .array .int
  | 15 => .boolean
  | _ => .array .int
abbrev wsX10 : List Cond := u_ws RX1 TX1 17
theorem nmX1 : ∀ a, a < 17 → ∀ b, b < 17 → a ≠ b → (TX1 a).2.1 ≠ (TX1 b).2.1 := by decide +kernel
theorem tyX1_ok : ∀ k, k < 17 → parseFieldDescriptor (TX1 k).2.2.1 = some (tyX1 k) := by decide +kernel
abbrev cX1_init : ByteArray := prog_3_method_1_code
def yX1_init : MethodName := ⟨RX1, "<init>", "()V"⟩
abbrev cX1_clear : ByteArray := prog_3_method_2_code
def yX1_clear : MethodName := ⟨RX1, "clear", "(II)V"⟩
abbrev cX1_becomeLike : ByteArray := prog_3_method_3_code
def yX1_becomeLike : MethodName := ⟨RX1, "becomeLike", "(LHeardPlaces$Desk;)V"⟩
abbrev cX1_isCell : ByteArray := prog_3_method_4_code
def yX1_isCell : MethodName := ⟨RX1, "isCell", "(I)Z"⟩
abbrev cX1_isThing : ByteArray := prog_3_method_5_code
def yX1_isThing : MethodName := ⟨RX1, "isThing", "(I)Z"⟩
abbrev cX1_isMeasure : ByteArray := prog_3_method_6_code
def yX1_isMeasure : MethodName := ⟨RX1, "isMeasure", "(I)Z"⟩
abbrev cX1_isMover : ByteArray := prog_3_method_7_code
def yX1_isMover : MethodName := ⟨RX1, "isMover", "(I)Z"⟩
abbrev cX1_isTick : ByteArray := prog_3_method_8_code
def yX1_isTick : MethodName := ⟨RX1, "isTick", "(II)Z"⟩
abbrev cX1_addThing : ByteArray := prog_3_method_9_code
def yX1_addThing : MethodName := ⟨RX1, "addThing", "(IIII)I"⟩
abbrev cX1_addMeasure : ByteArray := prog_3_method_10_code
def yX1_addMeasure : MethodName := ⟨RX1, "addMeasure", "(IIIII)I"⟩
abbrev cX1_addMover : ByteArray := prog_3_method_11_code
def yX1_addMover : MethodName := ⟨RX1, "addMover", "(II)I"⟩
abbrev cX1_toldCells : ByteArray := prog_3_method_12_code
def yX1_toldCells : MethodName := ⟨RX1, "toldCells", "(I)J"⟩
abbrev cX1_measuresOf : ByteArray := prog_3_method_13_code
def yX1_measuresOf : MethodName := ⟨RX1, "measuresOf", "(I)J"⟩
abbrev cX1_anchors : ByteArray := prog_3_method_14_code
def yX1_anchors : MethodName := ⟨RX1, "anchors", "()I"⟩
abbrev cX1_anchorCells : ByteArray := prog_3_method_15_code
def yX1_anchorCells : MethodName := ⟨RX1, "anchorCells", "()J"⟩
abbrev cX1_thingsOnMap : ByteArray := prog_3_method_16_code
def yX1_thingsOnMap : MethodName := ⟨RX1, "thingsOnMap", "()I"⟩
abbrev cX1_groupOf : ByteArray := prog_3_method_17_code
def yX1_groupOf : MethodName := ⟨RX1, "groupOf", "(I)I"⟩
abbrev cX1_link : ByteArray := prog_3_method_18_code
def yX1_link : MethodName := ⟨RX1, "link", "()V"⟩
abbrev cX1_spread : ByteArray := prog_3_method_19_code
def yX1_spread : MethodName := ⟨RX1, "spread", "(II)I"⟩
abbrev cX1_around : ByteArray := prog_3_method_20_code
def yX1_around : MethodName := ⟨RX1, "around", "(I)I"⟩
abbrev cX1_firstUntold : ByteArray := prog_3_method_21_code
def yX1_firstUntold : MethodName := ⟨RX1, "firstUntold", "()I"⟩
abbrev cX1_firstCrowded : ByteArray := prog_3_method_22_code
def yX1_firstCrowded : MethodName := ⟨RX1, "firstCrowded", "()I"⟩
def RX2 : String := "HeardPlaces$Flips"
def TX2 : u_T := fun k => match k with
  | 0 => ("HeardPlaces$Flips", "desk", "LHeardPlaces$Desk;", true)
  | 1 => ("HeardPlaces$Flips", "keepers", "LHeardPlaces$Keepers;", true)
  | 2 => ("HeardPlaces$Flips", "turned", "[I", true)
  | 3 => ("HeardPlaces$Flips", "wanted", "I", false)
  | 4 => ("HeardPlaces$Flips", "reached", "Z", false)
  | 5 => ("HeardPlaces$Flips", "found", "I", false)
  | 6 => ("HeardPlaces$Flips", "first", "I", false)
  | 7 => ("HeardPlaces$Flips", "second", "I", false)
  | 8 => ("HeardPlaces$Flips", "turning", "I", false)
  | _ => ("HeardPlaces$Flips", "part", "I", false)
def tyX2 : Nat → FieldType := fun k => match k with
  | 0 => .object "HeardPlaces$Desk"
  | 1 => .object "HeardPlaces$Keepers"
  | 2 => .array .int
  | 3 => .int
  | 4 => .boolean
  | 5 => .int
  | 6 => .int
  | 7 => .int
  | 8 => .int
  | _ => .int
abbrev wsX20 : List Cond := u_ws RX2 TX2 10
theorem nmX2 : ∀ a, a < 10 → ∀ b, b < 10 → a ≠ b → (TX2 a).2.1 ≠ (TX2 b).2.1 := by decide +kernel
theorem tyX2_ok : ∀ k, k < 10 → parseFieldDescriptor (TX2 k).2.2.1 = some (tyX2 k) := by decide +kernel
abbrev cX2_init : ByteArray := prog_4_method_1_code
def yX2_init : MethodName := ⟨RX2, "<init>", "(LHeardPlaces$Desk;LHeardPlaces$Keepers;)V"⟩
abbrev cX2_seek : ByteArray := prog_4_method_2_code
def yX2_seek : MethodName := ⟨RX2, "seek", "(II)Z"⟩
abbrev cX2_settleOnMap : ByteArray := prog_4_method_3_code
def yX2_settleOnMap : MethodName := ⟨RX2, "settleOnMap", "()I"⟩
abbrev cX2_seekAbout : ByteArray := prog_4_method_4_code
def yX2_seekAbout : MethodName := ⟨RX2, "seekAbout", "(III)V"⟩
abbrev cX2_comeTo : ByteArray := prog_4_method_5_code
def yX2_comeTo : MethodName := ⟨RX2, "comeTo", "(IIII)V"⟩
abbrev cX2_leaves : ByteArray := prog_4_method_6_code
def yX2_leaves : MethodName := ⟨RX2, "leaves", "(III)Z"⟩
abbrev cX2_canTurn : ByteArray := prog_4_method_7_code
def yX2_canTurn : MethodName := ⟨RX2, "canTurn", "(III)Z"⟩
abbrev cX2_turnedCell : ByteArray := prog_4_method_8_code
def yX2_turnedCell : MethodName := ⟨RX2, "turnedCell", "(III)I"⟩
abbrev cX2_isAlone : ByteArray := prog_4_method_9_code
def yX2_isAlone : MethodName := ⟨RX2, "isAlone", "(I)Z"⟩
abbrev cX2_isKeeping : ByteArray := prog_4_method_10_code
def yX2_isKeeping : MethodName := ⟨RX2, "isKeeping", "(I)Z"⟩
abbrev cX2_cellAfter : ByteArray := prog_4_method_11_code
def yX2_cellAfter : MethodName := ⟨RX2, "cellAfter", "(II)I"⟩
def RX3 : String := "HeardPlaces$Grid"
def TX3 : u_T := fun k => match k with
  | 0 => ("HeardPlaces$Grid", "near", "[[J", true)
  | _ => ("HeardPlaces$Grid", "beside", "[[J", true)
def tyX3 : Nat → FieldType := fun k => match k with
  | 0 => .array (.array .long)
  | _ => .array (.array .long)
abbrev wsX30 : List Cond := u_ws RX3 TX3 2
theorem nmX3 : ∀ a, a < 2 → ∀ b, b < 2 → a ≠ b → (TX3 a).2.1 ≠ (TX3 b).2.1 := by decide +kernel
theorem tyX3_ok : ∀ k, k < 2 → parseFieldDescriptor (TX3 k).2.2.1 = some (tyX3 k) := by decide +kernel
abbrev cX3_init : ByteArray := prog_5_method_1_code
def yX3_init : MethodName := ⟨RX3, "<init>", "()V"⟩
abbrev cX3_mark : ByteArray := prog_5_method_2_code
def yX3_mark : MethodName := ⟨RX3, "mark", "(II)V"⟩
abbrev cX3_around : ByteArray := prog_5_method_3_code
def yX3_around : MethodName := ⟨RX3, "around", "(JI)J"⟩
def RX4 : String := "HeardPlaces$Keepers"
def TX4 : u_T := fun k => match k with
  | 0 => ("HeardPlaces$Keepers", "desk", "LHeardPlaces$Desk;", true)
  | 1 => ("HeardPlaces$Keepers", "grid", "LHeardPlaces$Grid;", true)
  | 2 => ("HeardPlaces$Keepers", "steps", "[[J", true)
  | _ => ("HeardPlaces$Keepers", "stepsFound", "J", false)
def tyX4 : Nat → FieldType := fun k => match k with
  | 0 => .object "HeardPlaces$Desk"
  | 1 => .object "HeardPlaces$Grid"
  | 2 => .array (.array .long)
  | _ => .long
abbrev wsX40 : List Cond := u_ws RX4 TX4 4
theorem nmX4 : ∀ a, a < 4 → ∀ b, b < 4 → a ≠ b → (TX4 a).2.1 ≠ (TX4 b).2.1 := by decide +kernel
theorem tyX4_ok : ∀ k, k < 4 → parseFieldDescriptor (TX4 k).2.2.1 = some (tyX4 k) := by decide +kernel
abbrev cX4_init : ByteArray := prog_6_method_1_code
def yX4_init : MethodName := ⟨RX4, "<init>", "(LHeardPlaces$Desk;LHeardPlaces$Grid;)V"⟩
abbrev cX4_forget : ByteArray := prog_6_method_2_code
def yX4_forget : MethodName := ⟨RX4, "forget", "()V"⟩
abbrev cX4_findSteps : ByteArray := prog_6_method_3_code
def yX4_findSteps : MethodName := ⟨RX4, "findSteps", "()V"⟩
abbrev cX4_keeping : ByteArray := prog_6_method_4_code
def yX4_keeping : MethodName := ⟨RX4, "keeping", "(LHeardPlaces$Measure;ZI)J"⟩
abbrev cX4_isKept : ByteArray := prog_6_method_5_code
def yX4_isKept : MethodName := ⟨RX4, "isKept", "(LHeardPlaces$Measure;II)Z"⟩
abbrev cX4_firstBroken : ByteArray := prog_6_method_6_code
def yX4_firstBroken : MethodName := ⟨RX4, "firstBroken", "()I"⟩
abbrev cX4_hopsBetween : ByteArray := prog_6_method_7_code
def yX4_hopsBetween : MethodName := ⟨RX4, "hopsBetween", "(III)I"⟩
abbrev cX4_atHops : ByteArray := prog_6_method_8_code
def yX4_atHops : MethodName := ⟨RX4, "atHops", "(III)J"⟩
def RX5 : String := "HeardPlaces$Measure"
def TX5 : u_T := fun k => match k with
  | 0 => ("HeardPlaces$Measure", "number", "I", true)
  | 1 => ("HeardPlaces$Measure", "kind", "I", true)
  | 2 => ("HeardPlaces$Measure", "a", "I", true)
  | 3 => ("HeardPlaces$Measure", "b", "I", true)
  | 4 => ("HeardPlaces$Measure", "p", "I", true)
  | _ => ("HeardPlaces$Measure", "q", "I", true)
def tyX5 : Nat → FieldType := fun k => match k with
  | 0 => .int
  | 1 => .int
  | 2 => .int
  | 3 => .int
  | 4 => .int
  | _ => .int
abbrev wsX50 : List Cond := u_ws RX5 TX5 6
theorem nmX5 : ∀ a, a < 6 → ∀ b, b < 6 → a ≠ b → (TX5 a).2.1 ≠ (TX5 b).2.1 := by decide +kernel
theorem tyX5_ok : ∀ k, k < 6 → parseFieldDescriptor (TX5 k).2.2.1 = some (tyX5 k) := by decide +kernel
abbrev cX5_init : ByteArray := prog_7_method_1_code
def yX5_init : MethodName := ⟨RX5, "<init>", "(IIIIII)V"⟩
abbrev cX5_isTakenAs : ByteArray := prog_7_method_2_code
def yX5_isTakenAs : MethodName := ⟨RX5, "isTakenAs", "(I)Z"⟩
def RX6 : String := "HeardPlaces$Narrowing"
def TX6 : u_T := fun k => match k with
  | 0 => ("HeardPlaces$Narrowing", "desk", "LHeardPlaces$Desk;", true)
  | 1 => ("HeardPlaces$Narrowing", "keepers", "LHeardPlaces$Keepers;", true)
  | 2 => ("HeardPlaces$Narrowing", "narrowed", "[J", true)
  | 3 => ("HeardPlaces$Narrowing", "tried", "[J", true)
  | 4 => ("HeardPlaces$Narrowing", "quarrelThere", "Z", false)
  | 5 => ("HeardPlaces$Narrowing", "leastFound", "Z", false)
  | 6 => ("HeardPlaces$Narrowing", "least", "J", false)
  | 7 => ("HeardPlaces$Narrowing", "liarsFound", "Z", false)
  | 8 => ("HeardPlaces$Narrowing", "fewest", "I", false)
  | 9 => ("HeardPlaces$Narrowing", "liarSets", "I", false)
  | _ => ("HeardPlaces$Narrowing", "setsWith", "[I", true)
def tyX6 : Nat → FieldType := fun k => match k with
  | 0 => .object "HeardPlaces$Desk"
  | 1 => .object "HeardPlaces$Keepers"
  | 2 => .array .long
  | 3 => .array .long
  | 4 => .boolean
  | 5 => .boolean
  | 6 => .long
  | 7 => .boolean
  | 8 => .int
  | 9 => .int
  | _ => .array .int
abbrev wsX60 : List Cond := u_ws RX6 TX6 11
theorem nmX6 : ∀ a, a < 11 → ∀ b, b < 11 → a ≠ b → (TX6 a).2.1 ≠ (TX6 b).2.1 := by decide +kernel
theorem tyX6_ok : ∀ k, k < 11 → parseFieldDescriptor (TX6 k).2.2.1 = some (tyX6 k) := by decide +kernel
abbrev cX6_init : ByteArray := prog_8_method_1_code
def yX6_init : MethodName := ⟨RX6, "<init>", "(LHeardPlaces$Desk;LHeardPlaces$Keepers;)V"⟩
abbrev cX6_forget : ByteArray := prog_8_method_2_code
def yX6_forget : MethodName := ⟨RX6, "forget", "()V"⟩
abbrev cX6_forgetLiars : ByteArray := prog_8_method_3_code
def yX6_forgetLiars : MethodName := ⟨RX6, "forgetLiars", "()V"⟩
abbrev cX6_findCells : ByteArray := prog_8_method_4_code
def yX6_findCells : MethodName := ⟨RX6, "findCells", "()V"⟩
abbrev cX6_cellsOf : ByteArray := prog_8_method_5_code
def yX6_cellsOf : MethodName := ⟨RX6, "cellsOf", "(I)J"⟩
abbrev cX6_thingsOnOneCell : ByteArray := prog_8_method_6_code
def yX6_thingsOnOneCell : MethodName := ⟨RX6, "thingsOnOneCell", "()I"⟩
abbrev cX6_sumOfCells : ByteArray := prog_8_method_7_code
def yX6_sumOfCells : MethodName := ⟨RX6, "sumOfCells", "()I"⟩
abbrev cX6_isQuarrel : ByteArray := prog_8_method_8_code
def yX6_isQuarrel : MethodName := ⟨RX6, "isQuarrel", "()Z"⟩
abbrev cX6_leastQuarrel : ByteArray := prog_8_method_9_code
def yX6_leastQuarrel : MethodName := ⟨RX6, "leastQuarrel", "()J"⟩
abbrev cX6_findLiars : ByteArray := prog_8_method_10_code
def yX6_findLiars : MethodName := ⟨RX6, "findLiars", "()V"⟩
abbrev cX6_findSets : ByteArray := prog_8_method_11_code
def yX6_findSets : MethodName := ⟨RX6, "findSets", "(IJ)V"⟩
abbrev cX6_suspects : ByteArray := prog_8_method_12_code
def yX6_suspects : MethodName := ⟨RX6, "suspects", "()I"⟩
abbrev cX6_settle : ByteArray := prog_8_method_13_code
def yX6_settle : MethodName := ⟨RX6, "settle", "([JJZ)Z"⟩
abbrev cX6_narrowBy : ByteArray := prog_8_method_14_code
def yX6_narrowBy : MethodName := ⟨RX6, "narrowBy", "(LHeardPlaces$Measure;[J)I"⟩
abbrev cX6_supported : ByteArray := prog_8_method_15_code
def yX6_supported : MethodName := ⟨RX6, "supported", "(LHeardPlaces$Measure;ZJJ)J"⟩
def RX7 : String := "HeardPlaces$Placings"
def TX7 : u_T := fun k => match k with
  | 0 => ("HeardPlaces$Placings", "desk", "LHeardPlaces$Desk;", true)
  | 1 => ("HeardPlaces$Placings", "keepers", "LHeardPlaces$Keepers;", true)
  | 2 => ("HeardPlaces$Placings", "narrowing", "LHeardPlaces$Narrowing;", true)
  | 3 => ("HeardPlaces$Placings", "group", "I", false)
  | 4 => ("HeardPlaces$Placings", "size", "I", false)
  | 5 => ("HeardPlaces$Placings", "members", "[I", true)
  | 6 => ("HeardPlaces$Placings", "spent", "Z", false)
  | 7 => ("HeardPlaces$Placings", "trials", "I", false)
  | 8 => ("HeardPlaces$Placings", "found", "I", false)
  | 9 => ("HeardPlaces$Placings", "rows", "[J", true)
  | 10 => ("HeardPlaces$Placings", "sets", "[J", true)
  | 11 => ("HeardPlaces$Placings", "fitting", "[[J", true)
  | 12 => ("HeardPlaces$Placings", "shut", "J", false)
  | 13 => ("HeardPlaces$Placings", "at", "[I", true)
  | 14 => ("HeardPlaces$Placings", "counted", "Z", false)
  | 15 => ("HeardPlaces$Placings", "counts", "[[I", true)
  | 16 => ("HeardPlaces$Placings", "compared", "Z", false)
  | 17 => ("HeardPlaces$Placings", "best", "[I", true)
  | _ => ("HeardPlaces$Placings", "byDistance", "[I", true)
def tyX7 : Nat → FieldType := fun k => match k with
  | 0 => .object "HeardPlaces$Desk"
  | 1 => .object "HeardPlaces$Keepers"
  | 2 => .object "HeardPlaces$Narrowing"
  | 3 => .int
  | 4 => .int
  | 5 => .array .int
  | 6 => .boolean
  | 7 => .int
  | 8 => .int
  | 9 => .array .long
  | 10 => .array .long
  | 11 => .array (.array .long)
  | 12 => .long
  | 13 => .array .int
  | 14 => .boolean
  | 15 => .array (.array .int)
  | 16 => .boolean
  | 17 => .array .int
  | _ => .array .int
abbrev wsX70 : List Cond := u_ws RX7 TX7 19
theorem nmX7 : ∀ a, a < 19 → ∀ b, b < 19 → a ≠ b → (TX7 a).2.1 ≠ (TX7 b).2.1 := by decide +kernel
theorem tyX7_ok : ∀ k, k < 19 → parseFieldDescriptor (TX7 k).2.2.1 = some (tyX7 k) := by decide +kernel
abbrev cX7_init : ByteArray := prog_9_method_1_code
def yX7_init : MethodName := ⟨RX7, "<init>", "(LHeardPlaces$Desk;LHeardPlaces$Keepers;LHeardPlaces$Narrowing;)V"⟩
abbrev cX7_forget : ByteArray := prog_9_method_2_code
def yX7_forget : MethodName := ⟨RX7, "forget", "()V"⟩
abbrev cX7_look : ByteArray := prog_9_method_3_code
def yX7_look : MethodName := ⟨RX7, "look", "(I)V"⟩
abbrev cX7_placeOf : ByteArray := prog_9_method_4_code
def yX7_placeOf : MethodName := ⟨RX7, "placeOf", "(I)I"⟩
abbrev cX7_cellIn : ByteArray := prog_9_method_5_code
def yX7_cellIn : MethodName := ⟨RX7, "cellIn", "(II)I"⟩
abbrev cX7_isPossible : ByteArray := prog_9_method_6_code
def yX7_isPossible : MethodName := ⟨RX7, "isPossible", "(II)Z"⟩
abbrev cX7_sureCell : ByteArray := prog_9_method_7_code
def yX7_sureCell : MethodName := ⟨RX7, "sureCell", "(I)I"⟩
abbrev cX7_possible : ByteArray := prog_9_method_8_code
def yX7_possible : MethodName := ⟨RX7, "possible", "(I)I"⟩
abbrev cX7_worst : ByteArray := prog_9_method_9_code
def yX7_worst : MethodName := ⟨RX7, "worst", "(I)I"⟩
abbrev cX7_bestAsked : ByteArray := prog_9_method_10_code
def yX7_bestAsked : MethodName := ⟨RX7, "bestAsked", "()I"⟩
abbrev cX7_bestBetween : ByteArray := prog_9_method_11_code
def yX7_bestBetween : MethodName := ⟨RX7, "bestBetween", "(I)I"⟩
abbrev cX7_goTogether : ByteArray := prog_9_method_12_code
def yX7_goTogether : MethodName := ⟨RX7, "goTogether", "(IIII)Z"⟩
abbrev cX7_prepare : ByteArray := prog_9_method_13_code
def yX7_prepare : MethodName := ⟨RX7, "prepare", "()V"⟩
abbrev cX7_cellsOfStrangers : ByteArray := prog_9_method_14_code
def yX7_cellsOfStrangers : MethodName := ⟨RX7, "cellsOfStrangers", "()J"⟩
abbrev cX7_openPair : ByteArray := prog_9_method_15_code
def yX7_openPair : MethodName := ⟨RX7, "openPair", "(II)V"⟩
abbrev cX7_restrict : ByteArray := prog_9_method_16_code
def yX7_restrict : MethodName := ⟨RX7, "restrict", "(LHeardPlaces$Measure;)V"⟩
abbrev cX7_place : ByteArray := prog_9_method_17_code
def yX7_place : MethodName := ⟨RX7, "place", "(I)V"⟩
abbrev cX7_record : ByteArray := prog_9_method_18_code
def yX7_record : MethodName := ⟨RX7, "record", "()V"⟩
abbrev cX7_count : ByteArray := prog_9_method_19_code
def yX7_count : MethodName := ⟨RX7, "count", "()V"⟩
abbrev cX7_compare : ByteArray := prog_9_method_20_code
def yX7_compare : MethodName := ⟨RX7, "compare", "()V"⟩
abbrev cX7_mostAtOneDistance : ByteArray := prog_9_method_21_code
def yX7_mostAtOneDistance : MethodName := ⟨RX7, "mostAtOneDistance", "(II)I"⟩
def RX8 : String := "HeardPlaces$Sheet"
def TX8 : u_T := fun k => match k with
  | 0 => ("HeardPlaces$Sheet", "lane", "I", false)
  | 1 => ("HeardPlaces$Sheet", "length", "I", false)
  | _ => ("HeardPlaces$Sheet", "row", "[J", true)
def tyX8 : Nat → FieldType := fun k => match k with
  | 0 => .int
  | 1 => .int
  | _ => .array .long
abbrev wsX80 : List Cond := u_ws RX8 TX8 3
theorem nmX8 : ∀ a, a < 3 → ∀ b, b < 3 → a ≠ b → (TX8 a).2.1 ≠ (TX8 b).2.1 := by decide +kernel
theorem tyX8_ok : ∀ k, k < 3 → parseFieldDescriptor (TX8 k).2.2.1 = some (tyX8 k) := by decide +kernel
abbrev cX8_init : ByteArray := prog_10_method_1_code
def yX8_init : MethodName := ⟨RX8, "<init>", "()V"⟩
abbrev cX8_isEmpty : ByteArray := prog_10_method_2_code
def yX8_isEmpty : MethodName := ⟨RX8, "isEmpty", "()Z"⟩
abbrev cX8_begin : ByteArray := prog_10_method_3_code
def yX8_begin : MethodName := ⟨RX8, "begin", "(II)V"⟩
abbrev cX8_end : ByteArray := prog_10_method_4_code
def yX8_end : MethodName := ⟨RX8, "end", "()V"⟩
abbrev cX8_reaches : ByteArray := prog_10_method_5_code
def yX8_reaches : MethodName := ⟨RX8, "reaches", "(II)Z"⟩
abbrev cX8_write : ByteArray := prog_10_method_6_code
def yX8_write : MethodName := ⟨RX8, "write", "(IJ)V"⟩
def RX9 : String := "HeardPlaces$Thing"
def TX9 : u_T := fun k => match k with
  | 0 => ("HeardPlaces$Thing", "number", "I", true)
  | 1 => ("HeardPlaces$Thing", "kind", "I", true)
  | 2 => ("HeardPlaces$Thing", "cell", "I", true)
  | 3 => ("HeardPlaces$Thing", "mover", "I", true)
  | _ => ("HeardPlaces$Thing", "tick", "I", true)
def tyX9 : Nat → FieldType := fun k => match k with
  | 0 => .int
  | 1 => .int
  | 2 => .int
  | 3 => .int
  | _ => .int
abbrev wsX90 : List Cond := u_ws RX9 TX9 5
theorem nmX9 : ∀ a, a < 5 → ∀ b, b < 5 → a ≠ b → (TX9 a).2.1 ≠ (TX9 b).2.1 := by decide +kernel
theorem tyX9_ok : ∀ k, k < 5 → parseFieldDescriptor (TX9 k).2.2.1 = some (tyX9 k) := by decide +kernel
abbrev cX9_init : ByteArray := prog_11_method_1_code
def yX9_init : MethodName := ⟨RX9, "<init>", "(IIIII)V"⟩
abbrev cX9_isAnchor : ByteArray := prog_11_method_2_code
def yX9_isAnchor : MethodName := ⟨RX9, "isAnchor", "()Z"⟩
def RX10 : String := "HeardPlaces$Ways"
def TX10 : u_T := fun k => match k with
  | 0 => ("HeardPlaces$Ways", "desk", "LHeardPlaces$Desk;", true)
  | 1 => ("HeardPlaces$Ways", "grid", "LHeardPlaces$Grid;", true)
  | 2 => ("HeardPlaces$Ways", "narrowing", "LHeardPlaces$Narrowing;", true)
  | 3 => ("HeardPlaces$Ways", "onward", "[[J", true)
  | _ => ("HeardPlaces$Ways", "counted", "I", false)
def tyX10 : Nat → FieldType := fun k => match k with
  | 0 => .object "HeardPlaces$Desk"
  | 1 => .object "HeardPlaces$Grid"
  | 2 => .object "HeardPlaces$Narrowing"
  | 3 => .array (.array .long)
  | _ => .int
abbrev wsX100 : List Cond := u_ws RX10 TX10 5
theorem nmX10 : ∀ a, a < 5 → ∀ b, b < 5 → a ≠ b → (TX10 a).2.1 ≠ (TX10 b).2.1 := by decide +kernel
theorem tyX10_ok : ∀ k, k < 5 → parseFieldDescriptor (TX10 k).2.2.1 = some (tyX10 k) := by decide +kernel
abbrev cX10_init : ByteArray := prog_12_method_1_code
def yX10_init : MethodName := ⟨RX10, "<init>", "(LHeardPlaces$Desk;LHeardPlaces$Grid;LHeardPlaces$Narrowing;)V"⟩
abbrev cX10_forget : ByteArray := prog_12_method_2_code
def yX10_forget : MethodName := ⟨RX10, "forget", "()V"⟩
abbrev cX10_count : ByteArray := prog_12_method_3_code
def yX10_count : MethodName := ⟨RX10, "count", "(I)J"⟩
abbrev cX10_cellAt : ByteArray := prog_12_method_4_code
def yX10_cellAt : MethodName := ⟨RX10, "cellAt", "(IJI)I"⟩
abbrev cX10_countFrom : ByteArray := prog_12_method_5_code
def yX10_countFrom : MethodName := ⟨RX10, "countFrom", "(II)V"⟩
abbrev cX10_chosen : ByteArray := prog_12_method_6_code
def yX10_chosen : MethodName := ⟨RX10, "chosen", "(IJJ)I"⟩
abbrev cX10_cellsAt : ByteArray := prog_12_method_7_code
def yX10_cellsAt : MethodName := ⟨RX10, "cellsAt", "(II)J"⟩
abbrev cX10_next : ByteArray := prog_12_method_8_code
def yX10_next : MethodName := ⟨RX10, "next", "(III)J"⟩
abbrev cX10_sum : ByteArray := prog_12_method_9_code
def yX10_sum : MethodName := ⟨RX10, "sum", "(IJ)J"⟩
def RX11 : String := "HeardPlaces"
def TX11 : u_T := fun k => match k with
  | 0 => ("HeardPlaces", "desk", "LHeardPlaces$Desk;", true)
  | 1 => ("HeardPlaces", "grid", "LHeardPlaces$Grid;", true)
  | 2 => ("HeardPlaces", "keepers", "LHeardPlaces$Keepers;", true)
  | 3 => ("HeardPlaces", "narrowing", "LHeardPlaces$Narrowing;", true)
  | 4 => ("HeardPlaces", "groups", "LHeardPlaces$Placings;", true)
  | 5 => ("HeardPlaces", "turns", "LHeardPlaces$Flips;", true)
  | 6 => ("HeardPlaces", "rows", "LHeardPlaces$Ways;", true)
  | 7 => ("HeardPlaces", "bodies", "LHeardPlaces$Bodies;", true)
  | 8 => ("HeardPlaces", "images", "[LHeardPlaces$Desk;", true)
  | 9 => ("HeardPlaces", "imageKept", "[Z", true)
  | 10 => ("HeardPlaces", "heldThings", "[LHeardPlaces$Thing;", true)
  | 11 => ("HeardPlaces", "heldMeasures", "[LHeardPlaces$Measure;", true)
  | 12 => ("HeardPlaces", "sheets", "[LHeardPlaces$Sheet;", true)
  | 13 => ("HeardPlaces", "ready", "Z", false)
  | 14 => ("HeardPlaces", "latestTrials", "I", false)
  | _ => ("HeardPlaces", "latestFault", "I", false)
def tyX11 : Nat → FieldType := fun k => match k with
  | 0 => .object "HeardPlaces$Desk"
  | 1 => .object "HeardPlaces$Grid"
  | 2 => .object "HeardPlaces$Keepers"
  | 3 => .object "HeardPlaces$Narrowing"
  | 4 => .object "HeardPlaces$Placings"
  | 5 => .object "HeardPlaces$Flips"
  | 6 => .object "HeardPlaces$Ways"
  | 7 => .object "HeardPlaces$Bodies"
  | 8 => .array (.object "HeardPlaces$Desk")
  | 9 => .array .boolean
  | 10 => .array (.object "HeardPlaces$Thing")
  | 11 => .array (.object "HeardPlaces$Measure")
  | 12 => .array (.object "HeardPlaces$Sheet")
  | 13 => .boolean
  | 14 => .int
  | _ => .int
abbrev wsX110 : List Cond := u_ws RX11 TX11 16
theorem nmX11 : ∀ a, a < 16 → ∀ b, b < 16 → a ≠ b → (TX11 a).2.1 ≠ (TX11 b).2.1 := by decide +kernel
theorem tyX11_ok : ∀ k, k < 16 → parseFieldDescriptor (TX11 k).2.2.1 = some (tyX11 k) := by decide +kernel
abbrev cX11_init : ByteArray := prog_1_method_1_code
def yX11_init : MethodName := ⟨RX11, "<init>", "()V"⟩
abbrev cX11_field : ByteArray := prog_1_method_2_code
def yX11_field : MethodName := ⟨RX11, "field", "(II)I"⟩
abbrev cX11_wall : ByteArray := prog_1_method_3_code
def yX11_wall : MethodName := ⟨RX11, "wall", "(IZ)I"⟩
abbrev cX11_plan : ByteArray := prog_1_method_4_code
def yX11_plan : MethodName := ⟨RX11, "plan", "(III)I"⟩
abbrev cX11_thing : ByteArray := prog_1_method_5_code
def yX11_thing : MethodName := ⟨RX11, "thing", "(II)I"⟩
abbrev cX11_box : ByteArray := prog_1_method_6_code
def yX11_box : MethodName := ⟨RX11, "box", "(IIIII)I"⟩
abbrev cX11_about : ByteArray := prog_1_method_7_code
def yX11_about : MethodName := ⟨RX11, "about", "(II)I"⟩
abbrev cX11_can : ByteArray := prog_1_method_8_code
def yX11_can : MethodName := ⟨RX11, "can", "(III)I"⟩
abbrev cX11_cells : ByteArray := prog_1_method_9_code
def yX11_cells : MethodName := ⟨RX11, "cells", "(I)J"⟩
abbrev cX11_hops : ByteArray := prog_1_method_10_code
def yX11_hops : MethodName := ⟨RX11, "hops", "(III)I"⟩
abbrev cX11_measure : ByteArray := prog_1_method_11_code
def yX11_measure : MethodName := ⟨RX11, "measure", "(IIIII)I"⟩
abbrev cX11_measures : ByteArray := prog_1_method_12_code
def yX11_measures : MethodName := ⟨RX11, "measures", "(IIII)I"⟩
abbrev cX11_turn : ByteArray := prog_1_method_13_code
def yX11_turn : MethodName := ⟨RX11, "turn", "(IZ)I"⟩
abbrev cX11_told : ByteArray := prog_1_method_14_code
def yX11_told : MethodName := ⟨RX11, "told", "(II)I"⟩
abbrev cX11_keeps : ByteArray := prog_1_method_15_code
def yX11_keeps : MethodName := ⟨RX11, "keeps", "(III)I"⟩
abbrev cX11_quarrel : ByteArray := prog_1_method_16_code
def yX11_quarrel : MethodName := ⟨RX11, "quarrel", "()I"⟩
abbrev cX11_group : ByteArray := prog_1_method_17_code
def yX11_group : MethodName := ⟨RX11, "group", "(I)I"⟩
abbrev cX11_alone : ByteArray := prog_1_method_18_code
def yX11_alone : MethodName := ⟨RX11, "alone", "(Z)I"⟩
abbrev cX11_placings : ByteArray := prog_1_method_19_code
def yX11_placings : MethodName := ⟨RX11, "placings", "(I)I"⟩
abbrev cX11_trials : ByteArray := prog_1_method_20_code
def yX11_trials : MethodName := ⟨RX11, "trials", "()I"⟩
abbrev cX11_nth : ByteArray := prog_1_method_21_code
def yX11_nth : MethodName := ⟨RX11, "nth", "(II)I"⟩
abbrev cX11_sure : ByteArray := prog_1_method_22_code
def yX11_sure : MethodName := ⟨RX11, "sure", "(I)I"⟩
abbrev cX11_could : ByteArray := prog_1_method_23_code
def yX11_could : MethodName := ⟨RX11, "could", "(I)I"⟩
abbrev cX11_together : ByteArray := prog_1_method_24_code
def yX11_together : MethodName := ⟨RX11, "together", "(IIII)I"⟩
abbrev cX11_ask : ByteArray := prog_1_method_25_code
def yX11_ask : MethodName := ⟨RX11, "ask", "(II)I"⟩
abbrev cX11_between : ByteArray := prog_1_method_26_code
def yX11_between : MethodName := ⟨RX11, "between", "(II)I"⟩
abbrev cX11_put : ByteArray := prog_1_method_27_code
def yX11_put : MethodName := ⟨RX11, "put", "(II)I"⟩
abbrev cX11_take : ByteArray := prog_1_method_28_code
def yX11_take : MethodName := ⟨RX11, "take", "(II)I"⟩
abbrev cX11_check : ByteArray := prog_1_method_29_code
def yX11_check : MethodName := ⟨RX11, "check", "()I"⟩
abbrev cX11_flips : ByteArray := prog_1_method_30_code
def yX11_flips : MethodName := ⟨RX11, "flips", "(I)I"⟩
abbrev cX11_flip : ByteArray := prog_1_method_31_code
def yX11_flip : MethodName := ⟨RX11, "flip", "(III)I"⟩
abbrev cX11_flipped : ByteArray := prog_1_method_32_code
def yX11_flipped : MethodName := ⟨RX11, "flipped", "(II)I"⟩
abbrev cX11_mover : ByteArray := prog_1_method_33_code
def yX11_mover : MethodName := ⟨RX11, "mover", "(II)I"⟩
abbrev cX11_tick : ByteArray := prog_1_method_34_code
def yX11_tick : MethodName := ⟨RX11, "tick", "(II)I"⟩
abbrev cX11_ways : ByteArray := prog_1_method_35_code
def yX11_ways : MethodName := ⟨RX11, "ways", "(I)J"⟩
abbrev cX11_way : ByteArray := prog_1_method_36_code
def yX11_way : MethodName := ⟨RX11, "way", "(IJI)I"⟩
abbrev cX11_trust : ByteArray := prog_1_method_37_code
def yX11_trust : MethodName := ⟨RX11, "trust", "(IZ)I"⟩
abbrev cX11_liars : ByteArray := prog_1_method_38_code
def yX11_liars : MethodName := ⟨RX11, "liars", "(I)I"⟩
abbrev cX11_lies : ByteArray := prog_1_method_39_code
def yX11_lies : MethodName := ⟨RX11, "lies", "(I)I"⟩
abbrev cX11_keep : ByteArray := prog_1_method_40_code
def yX11_keep : MethodName := ⟨RX11, "keep", "(I)I"⟩
abbrev cX11_back : ByteArray := prog_1_method_41_code
def yX11_back : MethodName := ⟨RX11, "back", "(I)I"⟩
abbrev cX11_hold : ByteArray := prog_1_method_42_code
def yX11_hold : MethodName := ⟨RX11, "hold", "(III)I"⟩
abbrev cX11_loose : ByteArray := prog_1_method_43_code
def yX11_loose : MethodName := ⟨RX11, "loose", "(I)I"⟩
abbrev cX11_as : ByteArray := prog_1_method_44_code
def yX11_as : MethodName := ⟨RX11, "as", "(II)I"⟩
abbrev cX11_tell : ByteArray := prog_1_method_45_code
def yX11_tell : MethodName := ⟨RX11, "tell", "(II)I"⟩
abbrev cX11_greet : ByteArray := prog_1_method_46_code
def yX11_greet : MethodName := ⟨RX11, "greet", "(II)I"⟩
abbrev cX11_sheet : ByteArray := prog_1_method_47_code
def yX11_sheet : MethodName := ⟨RX11, "sheet", "(III)I"⟩
abbrev cX11_lose : ByteArray := prog_1_method_48_code
def yX11_lose : MethodName := ⟨RX11, "lose", "(I)I"⟩
abbrev cX11_lay : ByteArray := prog_1_method_49_code
def yX11_lay : MethodName := ⟨RX11, "lay", "(IIJ)I"⟩
abbrev cX11_cell : ByteArray := prog_1_method_50_code
def yX11_cell : MethodName := ⟨RX11, "cell", "(III)J"⟩
abbrev cX11_copy : ByteArray := prog_1_method_51_code
def yX11_copy : MethodName := ⟨RX11, "copy", "(IIIII)I"⟩
abbrev cX11_trace : ByteArray := prog_1_method_52_code
def yX11_trace : MethodName := ⟨RX11, "trace", "()I"⟩
abbrev cX11_fault : ByteArray := prog_1_method_53_code
def yX11_fault : MethodName := ⟨RX11, "fault", "()I"⟩
abbrev cX11_many : ByteArray := prog_1_method_54_code
def yX11_many : MethodName := ⟨RX11, "many", "(I)I"⟩
abbrev cX11_changed : ByteArray := prog_1_method_55_code
def yX11_changed : MethodName := ⟨RX11, "changed", "()V"⟩
abbrev cX11_wallsChanged : ByteArray := prog_1_method_56_code
def yX11_wallsChanged : MethodName := ⟨RX11, "wallsChanged", "()V"⟩
abbrev cX11_makeReady : ByteArray := prog_1_method_57_code
def yX11_makeReady : MethodName := ⟨RX11, "makeReady", "()V"⟩
abbrev cX11_narrowed : ByteArray := prog_1_method_58_code
def yX11_narrowed : MethodName := ⟨RX11, "narrowed", "()LHeardPlaces$Narrowing;"⟩
abbrev cX11_isSpent : ByteArray := prog_1_method_59_code
def yX11_isSpent : MethodName := ⟨RX11, "isSpent", "(I)Z"⟩
abbrev cX11_faulty : ByteArray := prog_1_method_60_code
def yX11_faulty : MethodName := ⟨RX11, "faulty", "(I)I"⟩
abbrev cX11_refusalOfRow : ByteArray := prog_1_method_61_code
def yX11_refusalOfRow : MethodName := ⟨RX11, "refusalOfRow", "(II)I"⟩
abbrev cX11_planned : ByteArray := prog_1_method_62_code
def yX11_planned : MethodName := ⟨RX11, "planned", "(LHeardPlaces$Sheet;I)J"⟩
abbrev cX11_measuresFrom : ByteArray := prog_1_method_63_code
def yX11_measuresFrom : MethodName := ⟨RX11, "measuresFrom", "(LHeardPlaces$Sheet;II)I"⟩
abbrev cX11_refusalOfFlips : ByteArray := prog_1_method_64_code
def yX11_refusalOfFlips : MethodName := ⟨RX11, "refusalOfFlips", "(I)I"⟩
abbrev cX11_refusalOfFlip : ByteArray := prog_1_method_65_code
def yX11_refusalOfFlip : MethodName := ⟨RX11, "refusalOfFlip", "(II)I"⟩
abbrev cX11_refusalOfBodies : ByteArray := prog_1_method_66_code
def yX11_refusalOfBodies : MethodName := ⟨RX11, "refusalOfBodies", "(II)I"⟩
abbrev cX11_isHoldEmpty : ByteArray := prog_1_method_67_code
def yX11_isHoldEmpty : MethodName := ⟨RX11, "isHoldEmpty", "(I)Z"⟩
abbrev cX11_holdsInUse : ByteArray := prog_1_method_68_code
def yX11_holdsInUse : MethodName := ⟨RX11, "holdsInUse", "()I"⟩
abbrev cX11_within : ByteArray := prog_1_method_69_code
def yX11_within : MethodName := ⟨RX11, "within", "(III)Z"⟩
abbrev cX11_isSpan : ByteArray := prog_1_method_70_code
def yX11_isSpan : MethodName := ⟨RX11, "isSpan", "(II)Z"⟩
abbrev cX11_isTold : ByteArray := prog_1_method_71_code
def yX11_isTold : MethodName := ⟨RX11, "isTold", "(III)Z"⟩
abbrev cX11_boxed : ByteArray := prog_1_method_72_code
def yX11_boxed : MethodName := ⟨RX11, "boxed", "(IIII)J"⟩
abbrev cX11_bit : ByteArray := prog_1_method_73_code
def yX11_bit : MethodName := ⟨RX11, "bit", "(I)J"⟩
abbrev cX11_has : ByteArray := prog_1_method_74_code
def yX11_has : MethodName := ⟨RX11, "has", "(JI)Z"⟩
abbrev cX11_lowest : ByteArray := prog_1_method_75_code
def yX11_lowest : MethodName := ⟨RX11, "lowest", "(J)I"⟩
abbrev cX11_distance : ByteArray := prog_1_method_76_code
def yX11_distance : MethodName := ⟨RX11, "distance", "(II)I"⟩
def RX12 : String := "HeardPlacesModel"
def TX12 : u_T := fun k => match k with
  | 0 => ("HeardPlacesModel", "fault", "I", false)
  | 1 => ("HeardPlacesModel", "wide", "I", false)
  | 2 => ("HeardPlacesModel", "high", "I", false)
  | 3 => ("HeardPlacesModel", "isWall", "[Z", true)
  | 4 => ("HeardPlacesModel", "things", "I", false)
  | 5 => ("HeardPlacesModel", "kind", "[I", true)
  | 6 => ("HeardPlacesModel", "at", "[I", true)
  | 7 => ("HeardPlacesModel", "boxes", "[I", true)
  | 8 => ("HeardPlacesModel", "isTrusted", "[Z", true)
  | 9 => ("HeardPlacesModel", "moverOf", "[I", true)
  | 10 => ("HeardPlacesModel", "tickOf", "[I", true)
  | 11 => ("HeardPlacesModel", "map", "[I", true)
  | 12 => ("HeardPlacesModel", "measures", "I", false)
  | 13 => ("HeardPlacesModel", "kindOf", "[I", true)
  | 14 => ("HeardPlacesModel", "one", "[I", true)
  | 15 => ("HeardPlacesModel", "two", "[I", true)
  | 16 => ("HeardPlacesModel", "pOf", "[I", true)
  | 17 => ("HeardPlacesModel", "qOf", "[I", true)
  | 18 => ("HeardPlacesModel", "isOn", "[Z", true)
  | 19 => ("HeardPlacesModel", "movers", "I", false)
  | 20 => ("HeardPlacesModel", "firstOfMover", "[I", true)
  | 21 => ("HeardPlacesModel", "ticks", "[I", true)
  | 22 => ("HeardPlacesModel", "reach", "[I", true)
  | 23 => ("HeardPlacesModel", "isAlone", "Z", false)
  | 24 => ("HeardPlacesModel", "isLaid", "[Z", true)
  | 25 => ("HeardPlacesModel", "isNarrowed", "Z", false)
  | 26 => ("HeardPlacesModel", "isJudged", "Z", false)
  | 27 => ("HeardPlacesModel", "isSought", "Z", false)
  | 28 => ("HeardPlacesModel", "hopOf", "[I", true)
  | 29 => ("HeardPlacesModel", "row", "[I", true)
  | 30 => ("HeardPlacesModel", "forth", "[J", true)
  | 31 => ("HeardPlacesModel", "back", "[J", true)
  | 32 => ("HeardPlacesModel", "isUsed", "[Z", true)
  | 33 => ("HeardPlacesModel", "left", "[J", true)
  | 34 => ("HeardPlacesModel", "cellsOf", "[J", true)
  | 35 => ("HeardPlacesModel", "quarrelMany", "I", false)
  | 36 => ("HeardPlacesModel", "isInQuarrel", "[Z", true)
  | 37 => ("HeardPlacesModel", "grouped", "I", false)
  | 38 => ("HeardPlacesModel", "member", "[I", true)
  | 39 => ("HeardPlacesModel", "stands", "[I", true)
  | 40 => ("HeardPlacesModel", "together", "[J", true)
  | 41 => ("HeardPlacesModel", "tried", "I", false)
  | 42 => ("HeardPlacesModel", "lastTrials", "I", false)
  | 43 => ("HeardPlacesModel", "found", "I", false)
  | 44 => ("HeardPlacesModel", "onCell", "[I", true)
  | 45 => ("HeardPlacesModel", "atFar", "[I", true)
  | 46 => ("HeardPlacesModel", "wanted", "I", false)
  | 47 => ("HeardPlacesModel", "wantedCells", "[I", true)
  | 48 => ("HeardPlacesModel", "pairA", "I", false)
  | 49 => ("HeardPlacesModel", "pairB", "I", false)
  | 50 => ("HeardPlacesModel", "pairCell", "I", false)
  | 51 => ("HeardPlacesModel", "pairOther", "I", false)
  | 52 => ("HeardPlacesModel", "isPair", "Z", false)
  | 53 => ("HeardPlacesModel", "group", "I", false)
  | 54 => ("HeardPlacesModel", "jointA", "I", false)
  | 55 => ("HeardPlacesModel", "jointB", "I", false)
  | 56 => ("HeardPlacesModel", "part", "I", false)
  | 57 => ("HeardPlacesModel", "turning", "I", false)
  | 58 => ("HeardPlacesModel", "flipMany", "I", false)
  | 59 => ("HeardPlacesModel", "flipWanted", "I", false)
  | 60 => ("HeardPlacesModel", "wantedA", "I", false)
  | 61 => ("HeardPlacesModel", "wantedB", "I", false)
  | 62 => ("HeardPlacesModel", "wantedPart", "I", false)
  | 63 => ("HeardPlacesModel", "wantedTurning", "I", false)
  | 64 => ("HeardPlacesModel", "wantedMoves", "I", false)
  | 65 => ("HeardPlacesModel", "turned", "[I", true)
  | 66 => ("HeardPlacesModel", "wantedTurned", "[I", true)
  | 67 => ("HeardPlacesModel", "goesOn", "[J", true)
  | 68 => ("HeardPlacesModel", "liarMany", "I", false)
  | 69 => ("HeardPlacesModel", "liarSets", "I", false)
  | 70 => ("HeardPlacesModel", "inSets", "[I", true)
  | 71 => ("HeardPlacesModel", "isKept", "[Z", true)
  | 72 => ("HeardPlacesModel", "image", "[I", true)
  | 73 => ("HeardPlacesModel", "heldWhat", "[I", true)
  | 74 => ("HeardPlacesModel", "heldNumber", "[I", true)
  | 75 => ("HeardPlacesModel", "heldKind", "[I", true)
  | 76 => ("HeardPlacesModel", "heldSum", "[I", true)
  | 77 => ("HeardPlacesModel", "heldMore", "[I", true)
  | 78 => ("HeardPlacesModel", "trace", "I", false)
  | 79 => ("HeardPlacesModel", "sheetSize", "[I", true)
  | 80 => ("HeardPlacesModel", "sheetLane", "[I", true)
  | 81 => ("HeardPlacesModel", "sheet", "[J", true)
  | _ => ("HeardPlacesModel", "hands", "[J", true)
def tyX12 : Nat → FieldType := fun k => match k with
  | 0 => .int
  | 1 => .int
  | 2 => .int
  | 3 => .array .boolean
  | 4 => .int
  | 5 => .array .int
  | 6 => .array .int
  | 7 => .array .int
  | 8 => .array .boolean
  | 9 => .array .int
  | 10 => .array .int
  | 11 => .array .int
  | 12 => .int
  | 13 => .array .int
  | 14 => .array .int
  | 15 => .array .int
  | 16 => .array .int
  | 17 => .array .int
  | 18 => .array .boolean
  | 19 => .int
  | 20 => .array .int
  | 21 => .array .int
  | 22 => .array .int
  | 23 => .boolean
  | 24 => .array .boolean
  | 25 => .boolean
  | 26 => .boolean
  | 27 => .boolean
  | 28 => .array .int
  | 29 => .array .int
  | 30 => .array .long
  | 31 => .array .long
  | 32 => .array .boolean
  | 33 => .array .long
  | 34 => .array .long
  | 35 => .int
  | 36 => .array .boolean
  | 37 => .int
  | 38 => .array .int
  | 39 => .array .int
  | 40 => .array .long
  | 41 => .int
  | 42 => .int
  | 43 => .int
  | 44 => .array .int
  | 45 => .array .int
  | 46 => .int
  | 47 => .array .int
  | 48 => .int
  | 49 => .int
  | 50 => .int
  | 51 => .int
  | 52 => .boolean
  | 53 => .int
  | 54 => .int
  | 55 => .int
  | 56 => .int
  | 57 => .int
  | 58 => .int
  | 59 => .int
  | 60 => .int
  | 61 => .int
  | 62 => .int
  | 63 => .int
  | 64 => .int
  | 65 => .array .int
  | 66 => .array .int
  | 67 => .array .long
  | 68 => .int
  | 69 => .int
  | 70 => .array .int
  | 71 => .array .boolean
  | 72 => .array .int
  | 73 => .array .int
  | 74 => .array .int
  | 75 => .array .int
  | 76 => .array .int
  | 77 => .array .int
  | 78 => .int
  | 79 => .array .int
  | 80 => .array .int
  | 81 => .array .long
  | _ => .array .long
abbrev wsX120 : List Cond := u_ws RX12 TX12 83
theorem nmX12 : ∀ a, a < 83 → ∀ b, b < 83 → a ≠ b → (TX12 a).2.1 ≠ (TX12 b).2.1 := by decide +kernel
theorem tyX12_ok : ∀ k, k < 83 → parseFieldDescriptor (TX12 k).2.2.1 = some (tyX12 k) := by decide +kernel
abbrev cX12_init : ByteArray := prog_14_method_1_code
def yX12_init : MethodName := ⟨RX12, "<init>", "()V"⟩
abbrev cX12_in : ByteArray := prog_14_method_2_code
def yX12_in : MethodName := ⟨RX12, "in", "(JJJ)Z"⟩
abbrev cX12_lost : ByteArray := prog_14_method_3_code
def yX12_lost : MethodName := ⟨RX12, "lost", "()J"⟩
abbrev cX12_sizeOf : ByteArray := prog_14_method_4_code
def yX12_sizeOf : MethodName := ⟨RX12, "sizeOf", "(I)I"⟩
abbrev cX12_greater : ByteArray := prog_14_method_5_code
def yX12_greater : MethodName := ⟨RX12, "greater", "(II)I"⟩
abbrev cX12_hasBit : ByteArray := prog_14_method_6_code
def yX12_hasBit : MethodName := ⟨RX12, "hasBit", "(JI)Z"⟩
abbrev cX12_count : ByteArray := prog_14_method_7_code
def yX12_count : MethodName := ⟨RX12, "count", "(J)I"⟩
abbrev cX12_firstOf : ByteArray := prog_14_method_8_code
def yX12_firstOf : MethodName := ⟨RX12, "firstOf", "(J)I"⟩
abbrev cX12_refused : ByteArray := prog_14_method_9_code
def yX12_refused : MethodName := ⟨RX12, "refused", "(I)I"⟩
abbrev cX12_failed : ByteArray := prog_14_method_10_code
def yX12_failed : MethodName := ⟨RX12, "failed", "(I)I"⟩
abbrev cX12_failedLong : ByteArray := prog_14_method_11_code
def yX12_failedLong : MethodName := ⟨RX12, "failedLong", "(I)J"⟩
abbrev cX12_isCell : ByteArray := prog_14_method_12_code
def yX12_isCell : MethodName := ⟨RX12, "isCell", "(I)Z"⟩
abbrev cX12_isFree : ByteArray := prog_14_method_13_code
def yX12_isFree : MethodName := ⟨RX12, "isFree", "(I)Z"⟩
abbrev cX12_noThing : ByteArray := prog_14_method_14_code
def yX12_noThing : MethodName := ⟨RX12, "noThing", "(I)Z"⟩
abbrev cX12_noMeasure : ByteArray := prog_14_method_15_code
def yX12_noMeasure : MethodName := ⟨RX12, "noMeasure", "(I)Z"⟩
abbrev cX12_other : ByteArray := prog_14_method_16_code
def yX12_other : MethodName := ⟨RX12, "other", "()V"⟩
abbrev cX12_otherField : ByteArray := prog_14_method_17_code
def yX12_otherField : MethodName := ⟨RX12, "otherField", "()V"⟩
abbrev cX12_field : ByteArray := prog_14_method_18_code
def yX12_field : MethodName := ⟨RX12, "field", "(II)I"⟩
abbrev cX12_isAnchorAt : ByteArray := prog_14_method_19_code
def yX12_isAnchorAt : MethodName := ⟨RX12, "isAnchorAt", "(I)Z"⟩
abbrev cX12_wall : ByteArray := prog_14_method_20_code
def yX12_wall : MethodName := ⟨RX12, "wall", "(IZ)I"⟩
abbrev cX12_freeCells : ByteArray := prog_14_method_21_code
def yX12_freeCells : MethodName := ⟨RX12, "freeCells", "()I"⟩
abbrev cX12_plan : ByteArray := prog_14_method_22_code
def yX12_plan : MethodName := ⟨RX12, "plan", "(III)I"⟩
abbrev cX12_addThing : ByteArray := prog_14_method_23_code
def yX12_addThing : MethodName := ⟨RX12, "addThing", "(IIII)I"⟩
abbrev cX12_thing : ByteArray := prog_14_method_24_code
def yX12_thing : MethodName := ⟨RX12, "thing", "(II)I"⟩
abbrev cX12_toldOf : ByteArray := prog_14_method_25_code
def yX12_toldOf : MethodName := ⟨RX12, "toldOf", "(I)J"⟩
abbrev cX12_box : ByteArray := prog_14_method_26_code
def yX12_box : MethodName := ⟨RX12, "box", "(IIIII)I"⟩
abbrev cX12_onOf : ByteArray := prog_14_method_27_code
def yX12_onOf : MethodName := ⟨RX12, "onOf", "(I)I"⟩
abbrev cX12_about : ByteArray := prog_14_method_28_code
def yX12_about : MethodName := ⟨RX12, "about", "(II)I"⟩
abbrev cX12_can : ByteArray := prog_14_method_29_code
def yX12_can : MethodName := ⟨RX12, "can", "(III)I"⟩
abbrev cX12_cells : ByteArray := prog_14_method_30_code
def yX12_cells : MethodName := ⟨RX12, "cells", "(I)J"⟩
abbrev cX12_distance : ByteArray := prog_14_method_31_code
def yX12_distance : MethodName := ⟨RX12, "distance", "(II)I"⟩
abbrev cX12_hopFrom : ByteArray := prog_14_method_32_code
def yX12_hopFrom : MethodName := ⟨RX12, "hopFrom", "(II)V"⟩
abbrev cX12_hops : ByteArray := prog_14_method_33_code
def yX12_hops : MethodName := ⟨RX12, "hops", "(III)I"⟩
abbrev cX12_isOnSide : ByteArray := prog_14_method_34_code
def yX12_isOnSide : MethodName := ⟨RX12, "isOnSide", "(III)Z"⟩
abbrev cX12_isKept : ByteArray := prog_14_method_35_code
def yX12_isKept : MethodName := ⟨RX12, "isKept", "(III)Z"⟩
abbrev cX12_layMeasure : ByteArray := prog_14_method_36_code
def yX12_layMeasure : MethodName := ⟨RX12, "layMeasure", "(I)V"⟩
abbrev cX12_layAll : ByteArray := prog_14_method_37_code
def yX12_layAll : MethodName := ⟨RX12, "layAll", "()V"⟩
abbrev cX12_isMeasure : ByteArray := prog_14_method_38_code
def yX12_isMeasure : MethodName := ⟨RX12, "isMeasure", "(III)Z"⟩
abbrev cX12_addMeasure : ByteArray := prog_14_method_39_code
def yX12_addMeasure : MethodName := ⟨RX12, "addMeasure", "(IIIII)I"⟩
abbrev cX12_measure : ByteArray := prog_14_method_40_code
def yX12_measure : MethodName := ⟨RX12, "measure", "(IIIII)I"⟩
abbrev cX12_measures : ByteArray := prog_14_method_41_code
def yX12_measures : MethodName := ⟨RX12, "measures", "(IIII)I"⟩
abbrev cX12_turn : ByteArray := prog_14_method_42_code
def yX12_turn : MethodName := ⟨RX12, "turn", "(IZ)I"⟩
abbrev cX12_keeps : ByteArray := prog_14_method_43_code
def yX12_keeps : MethodName := ⟨RX12, "keeps", "(III)I"⟩
abbrev cX12_differs : ByteArray := prog_14_method_44_code
def yX12_differs : MethodName := ⟨RX12, "differs", "(JJ)Z"⟩
abbrev cX12_narrowOne : ByteArray := prog_14_method_45_code
def yX12_narrowOne : MethodName := ⟨RX12, "narrowOne", "(I)Z"⟩
abbrev cX12_narrow : ByteArray := prog_14_method_46_code
def yX12_narrow : MethodName := ⟨RX12, "narrow", "()Z"⟩
abbrev cX12_useAll : ByteArray := prog_14_method_47_code
def yX12_useAll : MethodName := ⟨RX12, "useAll", "()V"⟩
abbrev cX12_findNarrowed : ByteArray := prog_14_method_48_code
def yX12_findNarrowed : MethodName := ⟨RX12, "findNarrowed", "()V"⟩
abbrev cX12_judge : ByteArray := prog_14_method_49_code
def yX12_judge : MethodName := ⟨RX12, "judge", "()V"⟩
abbrev cX12_quarrel : ByteArray := prog_14_method_50_code
def yX12_quarrel : MethodName := ⟨RX12, "quarrel", "()I"⟩
abbrev cX12_told : ByteArray := prog_14_method_51_code
def yX12_told : MethodName := ⟨RX12, "told", "(II)I"⟩
abbrev cX12_groupOf : ByteArray := prog_14_method_52_code
def yX12_groupOf : MethodName := ⟨RX12, "groupOf", "(I)I"⟩
abbrev cX12_group : ByteArray := prog_14_method_53_code
def yX12_group : MethodName := ⟨RX12, "group", "(I)I"⟩
abbrev cX12_alone : ByteArray := prog_14_method_54_code
def yX12_alone : MethodName := ⟨RX12, "alone", "(Z)I"⟩
abbrev cX12_layPairs : ByteArray := prog_14_method_55_code
def yX12_layPairs : MethodName := ⟨RX12, "layPairs", "()V"⟩
abbrev cX12_isOtherAnchorAt : ByteArray := prog_14_method_56_code
def yX12_isOtherAnchorAt : MethodName := ⟨RX12, "isOtherAnchorAt", "(I)Z"⟩
abbrev cX12_stays : ByteArray := prog_14_method_57_code
def yX12_stays : MethodName := ⟨RX12, "stays", "(I)Z"⟩
abbrev cX12_tally : ByteArray := prog_14_method_58_code
def yX12_tally : MethodName := ⟨RX12, "tally", "()V"⟩
abbrev cX12_search : ByteArray := prog_14_method_59_code
def yX12_search : MethodName := ⟨RX12, "search", "(I)Z"⟩
abbrev cX12_searchFor : ByteArray := prog_14_method_60_code
def yX12_searchFor : MethodName := ⟨RX12, "searchFor", "(II)Z"⟩
abbrev cX12_placeOf : ByteArray := prog_14_method_61_code
def yX12_placeOf : MethodName := ⟨RX12, "placeOf", "(I)I"⟩
abbrev cX12_placings : ByteArray := prog_14_method_62_code
def yX12_placings : MethodName := ⟨RX12, "placings", "(I)I"⟩
abbrev cX12_trials : ByteArray := prog_14_method_63_code
def yX12_trials : MethodName := ⟨RX12, "trials", "()I"⟩
abbrev cX12_nth : ByteArray := prog_14_method_64_code
def yX12_nth : MethodName := ⟨RX12, "nth", "(II)I"⟩
abbrev cX12_sure : ByteArray := prog_14_method_65_code
def yX12_sure : MethodName := ⟨RX12, "sure", "(I)I"⟩
abbrev cX12_cellsHad : ByteArray := prog_14_method_66_code
def yX12_cellsHad : MethodName := ⟨RX12, "cellsHad", "(I)I"⟩
abbrev cX12_could : ByteArray := prog_14_method_67_code
def yX12_could : MethodName := ⟨RX12, "could", "(I)I"⟩
abbrev cX12_together : ByteArray := prog_14_method_68_code
def yX12_together : MethodName := ⟨RX12, "together", "(IIII)I"⟩
abbrev cX12_ask : ByteArray := prog_14_method_69_code
def yX12_ask : MethodName := ⟨RX12, "ask", "(II)I"⟩
abbrev cX12_between : ByteArray := prog_14_method_70_code
def yX12_between : MethodName := ⟨RX12, "between", "(II)I"⟩
abbrev cX12_put : ByteArray := prog_14_method_71_code
def yX12_put : MethodName := ⟨RX12, "put", "(II)I"⟩
abbrev cX12_take : ByteArray := prog_14_method_72_code
def yX12_take : MethodName := ⟨RX12, "take", "(II)I"⟩
abbrev cX12_hasLesserThere : ByteArray := prog_14_method_73_code
def yX12_hasLesserThere : MethodName := ⟨RX12, "hasLesserThere", "(I)Z"⟩
abbrev cX12_check : ByteArray := prog_14_method_74_code
def yX12_check : MethodName := ⟨RX12, "check", "()I"⟩
abbrev cX12_isJoint : ByteArray := prog_14_method_75_code
def yX12_isJoint : MethodName := ⟨RX12, "isJoint", "(I)Z"⟩
abbrev cX12_partOf : ByteArray := prog_14_method_76_code
def yX12_partOf : MethodName := ⟨RX12, "partOf", "(I)I"⟩
abbrev cX12_isHinged : ByteArray := prog_14_method_77_code
def yX12_isHinged : MethodName := ⟨RX12, "isHinged", "()Z"⟩
abbrev cX12_turnedCell : ByteArray := prog_14_method_78_code
def yX12_turnedCell : MethodName := ⟨RX12, "turnedCell", "(I)I"⟩
abbrev cX12_cellThen : ByteArray := prog_14_method_79_code
def yX12_cellThen : MethodName := ⟨RX12, "cellThen", "(I)I"⟩
abbrev cX12_movesBy : ByteArray := prog_14_method_80_code
def yX12_movesBy : MethodName := ⟨RX12, "movesBy", "()I"⟩
abbrev cX12_tryJoints : ByteArray := prog_14_method_81_code
def yX12_tryJoints : MethodName := ⟨RX12, "tryJoints", "()V"⟩
abbrev cX12_keepFlip : ByteArray := prog_14_method_82_code
def yX12_keepFlip : MethodName := ⟨RX12, "keepFlip", "(I)V"⟩
abbrev cX12_mayBeJoint : ByteArray := prog_14_method_83_code
def yX12_mayBeJoint : MethodName := ⟨RX12, "mayBeJoint", "(I)Z"⟩
abbrev cX12_goThroughFlips : ByteArray := prog_14_method_84_code
def yX12_goThroughFlips : MethodName := ⟨RX12, "goThroughFlips", "(II)V"⟩
abbrev cX12_isPlaced : ByteArray := prog_14_method_85_code
def yX12_isPlaced : MethodName := ⟨RX12, "isPlaced", "(I)Z"⟩
abbrev cX12_flips : ByteArray := prog_14_method_86_code
def yX12_flips : MethodName := ⟨RX12, "flips", "(I)I"⟩
abbrev cX12_seek : ByteArray := prog_14_method_87_code
def yX12_seek : MethodName := ⟨RX12, "seek", "(II)I"⟩
abbrev cX12_flip : ByteArray := prog_14_method_88_code
def yX12_flip : MethodName := ⟨RX12, "flip", "(III)I"⟩
abbrev cX12_flipped : ByteArray := prog_14_method_89_code
def yX12_flipped : MethodName := ⟨RX12, "flipped", "(II)I"⟩
abbrev cX12_mover : ByteArray := prog_14_method_90_code
def yX12_mover : MethodName := ⟨RX12, "mover", "(II)I"⟩
abbrev cX12_noTick : ByteArray := prog_14_method_91_code
def yX12_noTick : MethodName := ⟨RX12, "noTick", "(II)Z"⟩
abbrev cX12_tick : ByteArray := prog_14_method_92_code
def yX12_tick : MethodName := ⟨RX12, "tick", "(II)I"⟩
abbrev cX12_layWays : ByteArray := prog_14_method_93_code
def yX12_layWays : MethodName := ⟨RX12, "layWays", "(I)V"⟩
abbrev cX12_waysOf : ByteArray := prog_14_method_94_code
def yX12_waysOf : MethodName := ⟨RX12, "waysOf", "(I)J"⟩
abbrev cX12_ways : ByteArray := prog_14_method_95_code
def yX12_ways : MethodName := ⟨RX12, "ways", "(I)J"⟩
abbrev cX12_way : ByteArray := prog_14_method_96_code
def yX12_way : MethodName := ⟨RX12, "way", "(IJI)I"⟩
abbrev cX12_trust : ByteArray := prog_14_method_97_code
def yX12_trust : MethodName := ⟨RX12, "trust", "(IZ)I"⟩
abbrev cX12_mayLie : ByteArray := prog_14_method_98_code
def yX12_mayLie : MethodName := ⟨RX12, "mayLie", "(I)Z"⟩
abbrev cX12_isQuietWithout : ByteArray := prog_14_method_99_code
def yX12_isQuietWithout : MethodName := ⟨RX12, "isQuietWithout", "(II)Z"⟩
abbrev cX12_countSet : ByteArray := prog_14_method_100_code
def yX12_countSet : MethodName := ⟨RX12, "countSet", "(II)V"⟩
abbrev cX12_seekLiars : ByteArray := prog_14_method_101_code
def yX12_seekLiars : MethodName := ⟨RX12, "seekLiars", "()V"⟩
abbrev cX12_liars : ByteArray := prog_14_method_102_code
def yX12_liars : MethodName := ⟨RX12, "liars", "(I)I"⟩
abbrev cX12_lies : ByteArray := prog_14_method_103_code
def yX12_lies : MethodName := ⟨RX12, "lies", "(I)I"⟩
abbrev cX12_asNumber : ByteArray := prog_14_method_104_code
def yX12_asNumber : MethodName := ⟨RX12, "asNumber", "(Z)I"⟩
abbrev cX12_keep : ByteArray := prog_14_method_105_code
def yX12_keep : MethodName := ⟨RX12, "keep", "(I)I"⟩
abbrev cX12_back : ByteArray := prog_14_method_106_code
def yX12_back : MethodName := ⟨RX12, "back", "(I)I"⟩
abbrev cX12_noHold : ByteArray := prog_14_method_107_code
def yX12_noHold : MethodName := ⟨RX12, "noHold", "(I)Z"⟩
abbrev cX12_hold : ByteArray := prog_14_method_108_code
def yX12_hold : MethodName := ⟨RX12, "hold", "(III)I"⟩
abbrev cX12_loose : ByteArray := prog_14_method_109_code
def yX12_loose : MethodName := ⟨RX12, "loose", "(I)I"⟩
abbrev cX12_isTaken : ByteArray := prog_14_method_110_code
def yX12_isTaken : MethodName := ⟨RX12, "isTaken", "(II)Z"⟩
abbrev cX12_as : ByteArray := prog_14_method_111_code
def yX12_as : MethodName := ⟨RX12, "as", "(II)I"⟩
abbrev cX12_traced : ByteArray := prog_14_method_112_code
def yX12_traced : MethodName := ⟨RX12, "traced", "(I)V"⟩
abbrev cX12_tellThing : ByteArray := prog_14_method_113_code
def yX12_tellThing : MethodName := ⟨RX12, "tellThing", "(I)I"⟩
abbrev cX12_tellMeasure : ByteArray := prog_14_method_114_code
def yX12_tellMeasure : MethodName := ⟨RX12, "tellMeasure", "(I)I"⟩
abbrev cX12_faultOf : ByteArray := prog_14_method_115_code
def yX12_faultOf : MethodName := ⟨RX12, "faultOf", "(II)I"⟩
abbrev cX12_tell : ByteArray := prog_14_method_116_code
def yX12_tell : MethodName := ⟨RX12, "tell", "(II)I"⟩
abbrev cX12_greetThing : ByteArray := prog_14_method_117_code
def yX12_greetThing : MethodName := ⟨RX12, "greetThing", "(I)I"⟩
abbrev cX12_weighMeasure : ByteArray := prog_14_method_118_code
def yX12_weighMeasure : MethodName := ⟨RX12, "weighMeasure", "(I)I"⟩
abbrev cX12_greet : ByteArray := prog_14_method_119_code
def yX12_greet : MethodName := ⟨RX12, "greet", "(II)I"⟩
abbrev cX12_noSheet : ByteArray := prog_14_method_120_code
def yX12_noSheet : MethodName := ⟨RX12, "noSheet", "(I)Z"⟩
abbrev cX12_sheet : ByteArray := prog_14_method_121_code
def yX12_sheet : MethodName := ⟨RX12, "sheet", "(III)I"⟩
abbrev cX12_lose : ByteArray := prog_14_method_122_code
def yX12_lose : MethodName := ⟨RX12, "lose", "(I)I"⟩
abbrev cX12_noCell : ByteArray := prog_14_method_123_code
def yX12_noCell : MethodName := ⟨RX12, "noCell", "(II)I"⟩
abbrev cX12_lay : ByteArray := prog_14_method_124_code
def yX12_lay : MethodName := ⟨RX12, "lay", "(IIJ)I"⟩
abbrev cX12_cell : ByteArray := prog_14_method_125_code
def yX12_cell : MethodName := ⟨RX12, "cell", "(III)J"⟩
abbrev cX12_isBeyond : ByteArray := prog_14_method_126_code
def yX12_isBeyond : MethodName := ⟨RX12, "isBeyond", "(IJI)Z"⟩
abbrev cX12_copy : ByteArray := prog_14_method_127_code
def yX12_copy : MethodName := ⟨RX12, "copy", "(IIIII)I"⟩
abbrev cX12_trace : ByteArray := prog_14_method_128_code
def yX12_trace : MethodName := ⟨RX12, "trace", "()I"⟩
abbrev cX12_fault : ByteArray := prog_14_method_129_code
def yX12_fault : MethodName := ⟨RX12, "fault", "()I"⟩
abbrev cX12_counted : ByteArray := prog_14_method_130_code
def yX12_counted : MethodName := ⟨RX12, "counted", "(I)I"⟩
abbrev cX12_many : ByteArray := prog_14_method_131_code
def yX12_many : MethodName := ⟨RX12, "many", "(I)I"⟩
def RJ6 : String := "java/lang/Integer"
def TJ6 : u_T := fun k => match k with
  | _ => ("", "", "", false)
def tyJ6 : Nat → FieldType := fun k => match k with
  | _ => .int
abbrev wsJ60 : List Cond := u_ws RJ6 TJ6 0
theorem nmJ6 : ∀ a, a < 0 → ∀ b, b < 0 → a ≠ b → (TJ6 a).2.1 ≠ (TJ6 b).2.1 := by decide +kernel
theorem tyJ6_ok : ∀ k, k < 0 → parseFieldDescriptor (TJ6 k).2.2.1 = some (tyJ6 k) := by decide +kernel
abbrev cJ6_bitCount_0f7a4 : ByteArray := prog_15_method_49_code
def yJ6_bitCount_0f7a4 : MethodName := ⟨RJ6, "bitCount", "(I)I"⟩
def RJ13 : String := "java/lang/Long"
def TJ13 : u_T := fun k => match k with
  | _ => ("", "", "", false)
def tyJ13 : Nat → FieldType := fun k => match k with
  | _ => .int
abbrev wsJ130 : List Cond := u_ws RJ13 TJ13 0
theorem nmJ13 : ∀ a, a < 0 → ∀ b, b < 0 → a ≠ b → (TJ13 a).2.1 ≠ (TJ13 b).2.1 := by decide +kernel
theorem tyJ13_ok : ∀ k, k < 0 → parseFieldDescriptor (TJ13 k).2.2.1 = some (tyJ13 k) := by decide +kernel
abbrev cJ13_bitCount_95d88 : ByteArray := prog_16_method_50_code
def yJ13_bitCount_95d88 : MethodName := ⟨RJ13, "bitCount", "(J)I"⟩
def RJ9 : String := "java/lang/Math"
def TJ9 : u_T := fun k => match k with
  | _ => ("", "", "", false)
def tyJ9 : Nat → FieldType := fun k => match k with
  | _ => .int
abbrev wsJ90 : List Cond := u_ws RJ9 TJ9 0
theorem nmJ9 : ∀ a, a < 0 → ∀ b, b < 0 → a ≠ b → (TJ9 a).2.1 ≠ (TJ9 b).2.1 := by decide +kernel
theorem tyJ9_ok : ∀ k, k < 0 → parseFieldDescriptor (TJ9 k).2.2.1 = some (tyJ9 k) := by decide +kernel
abbrev cJ9_abs_0f7a4 : ByteArray := prog_17_method_59_code
def yJ9_abs_0f7a4 : MethodName := ⟨RJ9, "abs", "(I)I"⟩
abbrev cJ9_max_7cf53 : ByteArray := prog_17_method_65_code
def yJ9_max_7cf53 : MethodName := ⟨RJ9, "max", "(II)I"⟩
abbrev cJ9_min_7cf53 : ByteArray := prog_17_method_69_code
def yJ9_min_7cf53 : MethodName := ⟨RJ9, "min", "(II)I"⟩
def RJ10 : String := "java/lang/System"
def TJ10 : u_T := fun k => match k with
  | _ => ("", "", "", false)
def tyJ10 : Nat → FieldType := fun k => match k with
  | _ => .int
abbrev wsJ100 : List Cond := u_ws RJ10 TJ10 0
theorem nmJ10 : ∀ a, a < 0 → ∀ b, b < 0 → a ≠ b → (TJ10 a).2.1 ≠ (TJ10 b).2.1 := by decide +kernel
theorem tyJ10_ok : ∀ k, k < 0 → parseFieldDescriptor (TJ10 k).2.2.1 = some (tyJ10 k) := by decide +kernel
def RJ7 : String := "java/util/Arrays"
def TJ7 : u_T := fun k => match k with
  | _ => ("", "", "", false)
def tyJ7 : Nat → FieldType := fun k => match k with
  | _ => .int
abbrev wsJ70 : List Cond := u_ws RJ7 TJ7 0
theorem nmJ7 : ∀ a, a < 0 → ∀ b, b < 0 → a ≠ b → (TJ7 a).2.1 ≠ (TJ7 b).2.1 := by decide +kernel
theorem tyJ7_ok : ∀ k, k < 0 → parseFieldDescriptor (TJ7 k).2.2.1 = some (tyJ7 k) := by decide +kernel
abbrev cJ7_fill_d0a16 : ByteArray := prog_19_method_101_code
def yJ7_fill_d0a16 : MethodName := ⟨RJ7, "fill", "([JJ)V"⟩
abbrev cJ7_fill_53178 : ByteArray := prog_19_method_103_code
def yJ7_fill_53178 : MethodName := ⟨RJ7, "fill", "([II)V"⟩
def RL : String := "HeardPlacesLaw"
abbrev vwCl : List vw_C := [(RX0, TX0, 1), (RX1, TX1, 17), (RX2, TX2, 10), (RX3, TX3, 2), (RX4, TX4, 4), (RX5, TX5, 6), (RX6, TX6, 11), (RX7, TX7, 19), (RX8, TX8, 3), (RX9, TX9, 5), (RX10, TX10, 5), (RX11, TX11, 16), (RX12, TX12, 83)]

-- the words that can be carried into a call
def zT : List Cond := lw_tbl.filter goodWord
theorem zT_in {w : Cond} (h : w ∈ lw_tbl) (hg : goodWord w = true) : w ∈ zT := List.mem_filter.mpr ⟨h, hg⟩
theorem zT_lw {w : Cond} (h : w ∈ zT) : w ∈ lw_tbl := (List.mem_filter.mp h).1
theorem zT_good : GoodIn zT zT := fun w h => ⟨h, good_of_word (List.mem_filter.mp h).2⟩
theorem inX0 : ∀ w ∈ wsX00, w ∈ zT := by
  have h : wsX00.all (fun w => decide (w ∈ lw_tbl) && goodWord w) = true := by decide +kernel
  intro w hw
  have h1 := List.all_eq_true.mp h w hw
  simp only [Bool.and_eq_true, decide_eq_true_eq] at h1
  exact zT_in h1.1 h1.2
theorem inX1 : ∀ w ∈ wsX10, w ∈ zT := by
  have h : wsX10.all (fun w => decide (w ∈ lw_tbl) && goodWord w) = true := by decide +kernel
  intro w hw
  have h1 := List.all_eq_true.mp h w hw
  simp only [Bool.and_eq_true, decide_eq_true_eq] at h1
  exact zT_in h1.1 h1.2
theorem inX2 : ∀ w ∈ wsX20, w ∈ zT := by
  have h : wsX20.all (fun w => decide (w ∈ lw_tbl) && goodWord w) = true := by decide +kernel
  intro w hw
  have h1 := List.all_eq_true.mp h w hw
  simp only [Bool.and_eq_true, decide_eq_true_eq] at h1
  exact zT_in h1.1 h1.2
theorem inX3 : ∀ w ∈ wsX30, w ∈ zT := by
  have h : wsX30.all (fun w => decide (w ∈ lw_tbl) && goodWord w) = true := by decide +kernel
  intro w hw
  have h1 := List.all_eq_true.mp h w hw
  simp only [Bool.and_eq_true, decide_eq_true_eq] at h1
  exact zT_in h1.1 h1.2
theorem inX4 : ∀ w ∈ wsX40, w ∈ zT := by
  have h : wsX40.all (fun w => decide (w ∈ lw_tbl) && goodWord w) = true := by decide +kernel
  intro w hw
  have h1 := List.all_eq_true.mp h w hw
  simp only [Bool.and_eq_true, decide_eq_true_eq] at h1
  exact zT_in h1.1 h1.2
theorem inX5 : ∀ w ∈ wsX50, w ∈ zT := by
  have h : wsX50.all (fun w => decide (w ∈ lw_tbl) && goodWord w) = true := by decide +kernel
  intro w hw
  have h1 := List.all_eq_true.mp h w hw
  simp only [Bool.and_eq_true, decide_eq_true_eq] at h1
  exact zT_in h1.1 h1.2
theorem inX6 : ∀ w ∈ wsX60, w ∈ zT := by
  have h : wsX60.all (fun w => decide (w ∈ lw_tbl) && goodWord w) = true := by decide +kernel
  intro w hw
  have h1 := List.all_eq_true.mp h w hw
  simp only [Bool.and_eq_true, decide_eq_true_eq] at h1
  exact zT_in h1.1 h1.2
theorem inX7 : ∀ w ∈ wsX70, w ∈ zT := by
  have h : wsX70.all (fun w => decide (w ∈ lw_tbl) && goodWord w) = true := by decide +kernel
  intro w hw
  have h1 := List.all_eq_true.mp h w hw
  simp only [Bool.and_eq_true, decide_eq_true_eq] at h1
  exact zT_in h1.1 h1.2
theorem inX8 : ∀ w ∈ wsX80, w ∈ zT := by
  have h : wsX80.all (fun w => decide (w ∈ lw_tbl) && goodWord w) = true := by decide +kernel
  intro w hw
  have h1 := List.all_eq_true.mp h w hw
  simp only [Bool.and_eq_true, decide_eq_true_eq] at h1
  exact zT_in h1.1 h1.2
theorem inX9 : ∀ w ∈ wsX90, w ∈ zT := by
  have h : wsX90.all (fun w => decide (w ∈ lw_tbl) && goodWord w) = true := by decide +kernel
  intro w hw
  have h1 := List.all_eq_true.mp h w hw
  simp only [Bool.and_eq_true, decide_eq_true_eq] at h1
  exact zT_in h1.1 h1.2
theorem inX10 : ∀ w ∈ wsX100, w ∈ zT := by
  have h : wsX100.all (fun w => decide (w ∈ lw_tbl) && goodWord w) = true := by decide +kernel
  intro w hw
  have h1 := List.all_eq_true.mp h w hw
  simp only [Bool.and_eq_true, decide_eq_true_eq] at h1
  exact zT_in h1.1 h1.2
theorem inX11 : ∀ w ∈ wsX110, w ∈ zT := by
  have h : wsX110.all (fun w => decide (w ∈ lw_tbl) && goodWord w) = true := by decide +kernel
  intro w hw
  have h1 := List.all_eq_true.mp h w hw
  simp only [Bool.and_eq_true, decide_eq_true_eq] at h1
  exact zT_in h1.1 h1.2
theorem inX12 : ∀ w ∈ wsX120, w ∈ zT := by
  have h : wsX120.all (fun w => decide (w ∈ lw_tbl) && goodWord w) = true := by decide +kernel
  intro w hw
  have h1 := List.all_eq_true.mp h w hw
  simp only [Bool.and_eq_true, decide_eq_true_eq] at h1
  exact zT_in h1.1 h1.2
