section
-- ===== PART A: goes FIRST, ahead of the names: the tables' words, and 'selects' of the private methods out of them =====
/-- a private method of a class that the tables say can be made, by its rows of tables_1 -/
def lw_okq (q : MethodName × Nat) : Prop := (q.1.cls ≠ "java/lang/invoke/MethodHandle" ∧ q.1.cls ≠ "java/lang/invoke/VarHandle") ∧ Cond.instantiable q.1.cls q.2 ∈ tables_1 ∧ Cond.privateMethod q.1 ∈ tables_1 ∧ Cond.instanceMethod q.1 ∈ tables_1
theorem lw_p0 : lw_okq (⟨"ChanceHall$Classes", "isLowestOfClosed", "(I)Z"⟩, 1) := ⟨⟨by decide +kernel, by decide +kernel⟩, List.mem_of_getElem? (i := 110) (by decide +kernel), List.mem_of_getElem? (i := 225) (by decide +kernel), List.mem_of_getElem? (i := 226) (by decide +kernel)⟩
theorem lw_p1 : lw_okq (⟨"ChanceHall$Classes", "setOneStepOn", "(I)I"⟩, 1) := ⟨⟨by decide +kernel, by decide +kernel⟩, List.mem_of_getElem? (i := 110) (by decide +kernel), List.mem_of_getElem? (i := 233) (by decide +kernel), List.mem_of_getElem? (i := 234) (by decide +kernel)⟩
theorem lw_p2 : lw_okq (⟨"ChanceHall$Trees", "listOthers", "(I)V"⟩, 4) := ⟨⟨by decide +kernel, by decide +kernel⟩, List.mem_of_getElem? (i := 120) (by decide +kernel), List.mem_of_getElem? (i := 265) (by decide +kernel), List.mem_of_getElem? (i := 266) (by decide +kernel)⟩
theorem lw_p3 : lw_okq (⟨"ChanceHall$Trees", "minorOf", "(II)J"⟩, 4) := ⟨⟨by decide +kernel, by decide +kernel⟩, List.mem_of_getElem? (i := 120) (by decide +kernel), List.mem_of_getElem? (i := 269) (by decide +kernel), List.mem_of_getElem? (i := 270) (by decide +kernel)⟩
theorem lw_p4 : lw_okq (⟨"ChanceHall$Trees", "entry", "(II)J"⟩, 4) := ⟨⟨by decide +kernel, by decide +kernel⟩, List.mem_of_getElem? (i := 120) (by decide +kernel), List.mem_of_getElem? (i := 279) (by decide +kernel), List.mem_of_getElem? (i := 280) (by decide +kernel)⟩
theorem lw_p5 : lw_okq (⟨"ChanceHall$Lumps", "leadAlike", "(II)Z"⟩, 2) := ⟨⟨by decide +kernel, by decide +kernel⟩, List.mem_of_getElem? (i := 172) (by decide +kernel), List.mem_of_getElem? (i := 291) (by decide +kernel), List.mem_of_getElem? (i := 292) (by decide +kernel)⟩
theorem lw_p6 : lw_okq (⟨"ChanceHall$Lumps", "weightTo", "(II)I"⟩, 2) := ⟨⟨by decide +kernel, by decide +kernel⟩, List.mem_of_getElem? (i := 172) (by decide +kernel), List.mem_of_getElem? (i := 295) (by decide +kernel), List.mem_of_getElem? (i := 296) (by decide +kernel)⟩
theorem lw_p7 : lw_okq (⟨"java/lang/Throwable", "fillInStackTrace", "(I)Ljava/lang/Throwable;"⟩, 6) := ⟨⟨by decide +kernel, by decide +kernel⟩, List.mem_of_getElem? (i := 348) (by decide +kernel), List.mem_of_getElem? (i := 346) (by decide +kernel), List.mem_of_getElem? (i := 347) (by decide +kernel)⟩
theorem lw_p8 : lw_okq (⟨"ChanceHall", "needState", "(I)V"⟩, 8) := ⟨⟨by decide +kernel, by decide +kernel⟩, List.mem_of_getElem? (i := 22) (by decide +kernel), List.mem_of_getElem? (i := 396) (by decide +kernel), List.mem_of_getElem? (i := 397) (by decide +kernel)⟩
theorem lw_p9 : lw_okq (⟨"ChanceHall", "needSlot", "(I)V"⟩, 8) := ⟨⟨by decide +kernel, by decide +kernel⟩, List.mem_of_getElem? (i := 22) (by decide +kernel), List.mem_of_getElem? (i := 416) (by decide +kernel), List.mem_of_getElem? (i := 417) (by decide +kernel)⟩
theorem lw_p10 : lw_okq (⟨"ChanceHall$Laws", "goOneStep", "(I[J[J)V"⟩, 3) := ⟨⟨by decide +kernel, by decide +kernel⟩, List.mem_of_getElem? (i := 74) (by decide +kernel), List.mem_of_getElem? (i := 496) (by decide +kernel), List.mem_of_getElem? (i := 497) (by decide +kernel)⟩
theorem lw_p11 : lw_okq (⟨"ChanceHall$Crowds", "apartFrom", "(III)J"⟩, 3) := ⟨⟨by decide +kernel, by decide +kernel⟩, List.mem_of_getElem? (i := 93) (by decide +kernel), List.mem_of_getElem? (i := 551) (by decide +kernel), List.mem_of_getElem? (i := 552) (by decide +kernel)⟩
theorem lw_p12 : lw_okq (⟨"ChanceHall$Crowds", "moveCrowds", "(IJ[J)V"⟩, 3) := ⟨⟨by decide +kernel, by decide +kernel⟩, List.mem_of_getElem? (i := 93) (by decide +kernel), List.mem_of_getElem? (i := 569) (by decide +kernel), List.mem_of_getElem? (i := 570) (by decide +kernel)⟩
theorem lw_p13 : lw_okq (⟨"ChanceHall$Crowds", "setBehind", "(II)I"⟩, 3) := ⟨⟨by decide +kernel, by decide +kernel⟩, List.mem_of_getElem? (i := 93) (by decide +kernel), List.mem_of_getElem? (i := 573) (by decide +kernel), List.mem_of_getElem? (i := 574) (by decide +kernel)⟩
theorem lw_p14 : lw_okq (⟨"ChanceHall$Laws", "hitsIn", "(III)J"⟩, 3) := ⟨⟨by decide +kernel, by decide +kernel⟩, List.mem_of_getElem? (i := 74) (by decide +kernel), List.mem_of_getElem? (i := 588) (by decide +kernel), List.mem_of_getElem? (i := 589) (by decide +kernel)⟩
theorem lw_p15 : lw_okq (⟨"ChanceHall$Draws", "slotOf", "(I)I"⟩, 3) := ⟨⟨by decide +kernel, by decide +kernel⟩, List.mem_of_getElem? (i := 139) (by decide +kernel), List.mem_of_getElem? (i := 683) (by decide +kernel), List.mem_of_getElem? (i := 684) (by decide +kernel)⟩
def lw_privs_1 : List (MethodName × Nat) := [(⟨"ChanceHall$Classes", "isLowestOfClosed", "(I)Z"⟩, 1), (⟨"ChanceHall$Classes", "setOneStepOn", "(I)I"⟩, 1), (⟨"ChanceHall$Trees", "listOthers", "(I)V"⟩, 4), (⟨"ChanceHall$Trees", "minorOf", "(II)J"⟩, 4), (⟨"ChanceHall$Trees", "entry", "(II)J"⟩, 4), (⟨"ChanceHall$Lumps", "leadAlike", "(II)Z"⟩, 2), (⟨"ChanceHall$Lumps", "weightTo", "(II)I"⟩, 2), (⟨"java/lang/Throwable", "fillInStackTrace", "(I)Ljava/lang/Throwable;"⟩, 6), (⟨"ChanceHall", "needState", "(I)V"⟩, 8), (⟨"ChanceHall", "needSlot", "(I)V"⟩, 8), (⟨"ChanceHall$Laws", "goOneStep", "(I[J[J)V"⟩, 3), (⟨"ChanceHall$Crowds", "apartFrom", "(III)J"⟩, 3), (⟨"ChanceHall$Crowds", "moveCrowds", "(IJ[J)V"⟩, 3), (⟨"ChanceHall$Crowds", "setBehind", "(II)I"⟩, 3), (⟨"ChanceHall$Laws", "hitsIn", "(III)J"⟩, 3), (⟨"ChanceHall$Draws", "slotOf", "(I)I"⟩, 3)]
theorem lw_r1 : ∀ q ∈ lw_privs_1, lw_okq q := List.forall_mem_cons.mpr ⟨lw_p0, List.forall_mem_cons.mpr ⟨lw_p1, List.forall_mem_cons.mpr ⟨lw_p2, List.forall_mem_cons.mpr ⟨lw_p3, List.forall_mem_cons.mpr ⟨lw_p4, List.forall_mem_cons.mpr ⟨lw_p5, List.forall_mem_cons.mpr ⟨lw_p6, List.forall_mem_cons.mpr ⟨lw_p7, List.forall_mem_cons.mpr ⟨lw_p8, List.forall_mem_cons.mpr ⟨lw_p9, List.forall_mem_cons.mpr ⟨lw_p10, List.forall_mem_cons.mpr ⟨lw_p11, List.forall_mem_cons.mpr ⟨lw_p12, List.forall_mem_cons.mpr ⟨lw_p13, List.forall_mem_cons.mpr ⟨lw_p14, List.forall_mem_cons.mpr ⟨lw_p15, fun _ h => absurd h List.not_mem_nil⟩⟩⟩⟩⟩⟩⟩⟩⟩⟩⟩⟩⟩⟩⟩⟩
theorem lw_p16 : lw_okq (⟨"ChanceHall$Draws", "isTogether", "()Z"⟩, 3) := ⟨⟨by decide +kernel, by decide +kernel⟩, List.mem_of_getElem? (i := 139) (by decide +kernel), List.mem_of_getElem? (i := 698) (by decide +kernel), List.mem_of_getElem? (i := 699) (by decide +kernel)⟩
theorem lw_p17 : lw_okq (⟨"ChanceHall$Draws", "putAhead", "(I)V"⟩, 3) := ⟨⟨by decide +kernel, by decide +kernel⟩, List.mem_of_getElem? (i := 139) (by decide +kernel), List.mem_of_getElem? (i := 702) (by decide +kernel), List.mem_of_getElem? (i := 703) (by decide +kernel)⟩
theorem lw_p18 : lw_okq (⟨"ChanceHall$Games", "countBests", "(I)V"⟩, 3) := ⟨⟨by decide +kernel, by decide +kernel⟩, List.mem_of_getElem? (i := 155) (by decide +kernel), List.mem_of_getElem? (i := 727) (by decide +kernel), List.mem_of_getElem? (i := 728) (by decide +kernel)⟩
theorem lw_p19 : lw_okq (⟨"ChanceHall$Games", "byStopping", "(II)J"⟩, 3) := ⟨⟨by decide +kernel, by decide +kernel⟩, List.mem_of_getElem? (i := 155) (by decide +kernel), List.mem_of_getElem? (i := 731) (by decide +kernel), List.mem_of_getElem? (i := 732) (by decide +kernel)⟩
theorem lw_p20 : lw_okq (⟨"ChanceHall$Games", "byGoingOn", "(II)J"⟩, 3) := ⟨⟨by decide +kernel, by decide +kernel⟩, List.mem_of_getElem? (i := 155) (by decide +kernel), List.mem_of_getElem? (i := 736) (by decide +kernel), List.mem_of_getElem? (i := 737) (by decide +kernel)⟩
theorem lw_p21 : lw_okq (⟨"ChanceHallModel", "can", "(I)Z"⟩, 13) := ⟨⟨by decide +kernel, by decide +kernel⟩, List.mem_of_getElem? (i := 753) (by decide +kernel), List.mem_of_getElem? (i := 810) (by decide +kernel), List.mem_of_getElem? (i := 811) (by decide +kernel)⟩
theorem lw_p22 : lw_okq (⟨"ChanceHallModel", "isState", "(I)Z"⟩, 13) := ⟨⟨by decide +kernel, by decide +kernel⟩, List.mem_of_getElem? (i := 753) (by decide +kernel), List.mem_of_getElem? (i := 818) (by decide +kernel), List.mem_of_getElem? (i := 819) (by decide +kernel)⟩
theorem lw_p23 : lw_okq (⟨"ChanceHallModel", "isSlot", "(I)Z"⟩, 13) := ⟨⟨by decide +kernel, by decide +kernel⟩, List.mem_of_getElem? (i := 753) (by decide +kernel), List.mem_of_getElem? (i := 822) (by decide +kernel), List.mem_of_getElem? (i := 823) (by decide +kernel)⟩
theorem lw_p24 : lw_okq (⟨"ChanceHallModel", "goes", "(II)I"⟩, 13) := ⟨⟨by decide +kernel, by decide +kernel⟩, List.mem_of_getElem? (i := 753) (by decide +kernel), List.mem_of_getElem? (i := 826) (by decide +kernel), List.mem_of_getElem? (i := 827) (by decide +kernel)⟩
theorem lw_p25 : lw_okq (⟨"ChanceHallModel", "weigh", "(II)I"⟩, 13) := ⟨⟨by decide +kernel, by decide +kernel⟩, List.mem_of_getElem? (i := 753) (by decide +kernel), List.mem_of_getElem? (i := 848) (by decide +kernel), List.mem_of_getElem? (i := 849) (by decide +kernel)⟩
theorem lw_p26 : lw_okq (⟨"ChanceHallModel", "power", "(I)J"⟩, 13) := ⟨⟨by decide +kernel, by decide +kernel⟩, List.mem_of_getElem? (i := 753) (by decide +kernel), List.mem_of_getElem? (i := 859) (by decide +kernel), List.mem_of_getElem? (i := 860) (by decide +kernel)⟩
theorem lw_p27 : lw_okq (⟨"ChanceHallModel", "lawFault", "(IIII)I"⟩, 13) := ⟨⟨by decide +kernel, by decide +kernel⟩, List.mem_of_getElem? (i := 753) (by decide +kernel), List.mem_of_getElem? (i := 867) (by decide +kernel), List.mem_of_getElem? (i := 868) (by decide +kernel)⟩
theorem lw_p28 : lw_okq (⟨"ChanceHallModel", "lawOf", "(III)J"⟩, 13) := ⟨⟨by decide +kernel, by decide +kernel⟩, List.mem_of_getElem? (i := 753) (by decide +kernel), List.mem_of_getElem? (i := 871) (by decide +kernel), List.mem_of_getElem? (i := 872) (by decide +kernel)⟩
theorem lw_p29 : lw_okq (⟨"ChanceHallModel", "spreads", "(II)V"⟩, 13) := ⟨⟨by decide +kernel, by decide +kernel⟩, List.mem_of_getElem? (i := 753) (by decide +kernel), List.mem_of_getElem? (i := 875) (by decide +kernel), List.mem_of_getElem? (i := 876) (by decide +kernel)⟩
theorem lw_p30 : lw_okq (⟨"ChanceHallModel", "begins", "(I)V"⟩, 13) := ⟨⟨by decide +kernel, by decide +kernel⟩, List.mem_of_getElem? (i := 753) (by decide +kernel), List.mem_of_getElem? (i := 879) (by decide +kernel), List.mem_of_getElem? (i := 880) (by decide +kernel)⟩
theorem lw_p31 : lw_okq (⟨"ChanceHallModel", "keeps", "()V"⟩, 13) := ⟨⟨by decide +kernel, by decide +kernel⟩, List.mem_of_getElem? (i := 753) (by decide +kernel), List.mem_of_getElem? (i := 883) (by decide +kernel), List.mem_of_getElem? (i := 884) (by decide +kernel)⟩
def lw_privs_2 : List (MethodName × Nat) := [(⟨"ChanceHall$Draws", "isTogether", "()Z"⟩, 3), (⟨"ChanceHall$Draws", "putAhead", "(I)V"⟩, 3), (⟨"ChanceHall$Games", "countBests", "(I)V"⟩, 3), (⟨"ChanceHall$Games", "byStopping", "(II)J"⟩, 3), (⟨"ChanceHall$Games", "byGoingOn", "(II)J"⟩, 3), (⟨"ChanceHallModel", "can", "(I)Z"⟩, 13), (⟨"ChanceHallModel", "isState", "(I)Z"⟩, 13), (⟨"ChanceHallModel", "isSlot", "(I)Z"⟩, 13), (⟨"ChanceHallModel", "goes", "(II)I"⟩, 13), (⟨"ChanceHallModel", "weigh", "(II)I"⟩, 13), (⟨"ChanceHallModel", "power", "(I)J"⟩, 13), (⟨"ChanceHallModel", "lawFault", "(IIII)I"⟩, 13), (⟨"ChanceHallModel", "lawOf", "(III)J"⟩, 13), (⟨"ChanceHallModel", "spreads", "(II)V"⟩, 13), (⟨"ChanceHallModel", "begins", "(I)V"⟩, 13), (⟨"ChanceHallModel", "keeps", "()V"⟩, 13)]
theorem lw_r2 : ∀ q ∈ lw_privs_2, lw_okq q := List.forall_mem_cons.mpr ⟨lw_p16, List.forall_mem_cons.mpr ⟨lw_p17, List.forall_mem_cons.mpr ⟨lw_p18, List.forall_mem_cons.mpr ⟨lw_p19, List.forall_mem_cons.mpr ⟨lw_p20, List.forall_mem_cons.mpr ⟨lw_p21, List.forall_mem_cons.mpr ⟨lw_p22, List.forall_mem_cons.mpr ⟨lw_p23, List.forall_mem_cons.mpr ⟨lw_p24, List.forall_mem_cons.mpr ⟨lw_p25, List.forall_mem_cons.mpr ⟨lw_p26, List.forall_mem_cons.mpr ⟨lw_p27, List.forall_mem_cons.mpr ⟨lw_p28, List.forall_mem_cons.mpr ⟨lw_p29, List.forall_mem_cons.mpr ⟨lw_p30, List.forall_mem_cons.mpr ⟨lw_p31, fun _ h => absurd h List.not_mem_nil⟩⟩⟩⟩⟩⟩⟩⟩⟩⟩⟩⟩⟩⟩⟩⟩
theorem lw_p32 : lw_okq (⟨"ChanceHallModel", "distanceOf", "(III)J"⟩, 13) := ⟨⟨by decide +kernel, by decide +kernel⟩, List.mem_of_getElem? (i := 753) (by decide +kernel), List.mem_of_getElem? (i := 895) (by decide +kernel), List.mem_of_getElem? (i := 896) (by decide +kernel)⟩
theorem lw_p33 : lw_okq (⟨"ChanceHallModel", "isMixed", "(II)Z"⟩, 13) := ⟨⟨by decide +kernel, by decide +kernel⟩, List.mem_of_getElem? (i := 753) (by decide +kernel), List.mem_of_getElem? (i := 903) (by decide +kernel), List.mem_of_getElem? (i := 904) (by decide +kernel)⟩
theorem lw_p34 : lw_okq (⟨"ChanceHallModel", "apartBy", "(III)J"⟩, 13) := ⟨⟨by decide +kernel, by decide +kernel⟩, List.mem_of_getElem? (i := 753) (by decide +kernel), List.mem_of_getElem? (i := 912) (by decide +kernel), List.mem_of_getElem? (i := 913) (by decide +kernel)⟩
theorem lw_p35 : lw_okq (⟨"ChanceHallModel", "togetherBy", "(II)J"⟩, 13) := ⟨⟨by decide +kernel, by decide +kernel⟩, List.mem_of_getElem? (i := 753) (by decide +kernel), List.mem_of_getElem? (i := 920) (by decide +kernel), List.mem_of_getElem? (i := 921) (by decide +kernel)⟩
theorem lw_p36 : lw_okq (⟨"ChanceHallModel", "image", "(II)I"⟩, 13) := ⟨⟨by decide +kernel, by decide +kernel⟩, List.mem_of_getElem? (i := 753) (by decide +kernel), List.mem_of_getElem? (i := 924) (by decide +kernel), List.mem_of_getElem? (i := 925) (by decide +kernel)⟩
theorem lw_p37 : lw_okq (⟨"ChanceHallModel", "hitsBy", "(III)J"⟩, 13) := ⟨⟨by decide +kernel, by decide +kernel⟩, List.mem_of_getElem? (i := 753) (by decide +kernel), List.mem_of_getElem? (i := 932) (by decide +kernel), List.mem_of_getElem? (i := 933) (by decide +kernel)⟩
theorem lw_p38 : lw_okq (⟨"ChanceHallModel", "reached", "(I)I"⟩, 13) := ⟨⟨by decide +kernel, by decide +kernel⟩, List.mem_of_getElem? (i := 753) (by decide +kernel), List.mem_of_getElem? (i := 940) (by decide +kernel), List.mem_of_getElem? (i := 941) (by decide +kernel)⟩
theorem lw_p39 : lw_okq (⟨"ChanceHallModel", "ahead", "(I)I"⟩, 13) := ⟨⟨by decide +kernel, by decide +kernel⟩, List.mem_of_getElem? (i := 753) (by decide +kernel), List.mem_of_getElem? (i := 944) (by decide +kernel), List.mem_of_getElem? (i := 945) (by decide +kernel)⟩
theorem lw_p40 : lw_okq (⟨"ChanceHallModel", "isClosed", "(I)Z"⟩, 13) := ⟨⟨by decide +kernel, by decide +kernel⟩, List.mem_of_getElem? (i := 753) (by decide +kernel), List.mem_of_getElem? (i := 952) (by decide +kernel), List.mem_of_getElem? (i := 953) (by decide +kernel)⟩
theorem lw_p41 : lw_okq (⟨"ChanceHallModel", "wholeRest", "()J"⟩, 13) := ⟨⟨by decide +kernel, by decide +kernel⟩, List.mem_of_getElem? (i := 753) (by decide +kernel), List.mem_of_getElem? (i := 967) (by decide +kernel), List.mem_of_getElem? (i := 968) (by decide +kernel)⟩
theorem lw_p42 : lw_okq (⟨"ChanceHallModel", "restOf", "(I)J"⟩, 13) := ⟨⟨by decide +kernel, by decide +kernel⟩, List.mem_of_getElem? (i := 753) (by decide +kernel), List.mem_of_getElem? (i := 971) (by decide +kernel), List.mem_of_getElem? (i := 972) (by decide +kernel)⟩
theorem lw_p43 : lw_okq (⟨"ChanceHallModel", "laysWeights", "(I)V"⟩, 13) := ⟨⟨by decide +kernel, by decide +kernel⟩, List.mem_of_getElem? (i := 753) (by decide +kernel), List.mem_of_getElem? (i := 975) (by decide +kernel), List.mem_of_getElem? (i := 976) (by decide +kernel)⟩
theorem lw_p44 : lw_okq (⟨"ChanceHallModel", "placeOf", "(I)I"⟩, 13) := ⟨⟨by decide +kernel, by decide +kernel⟩, List.mem_of_getElem? (i := 753) (by decide +kernel), List.mem_of_getElem? (i := 990) (by decide +kernel), List.mem_of_getElem? (i := 991) (by decide +kernel)⟩
theorem lw_p45 : lw_okq (⟨"ChanceHallModel", "isOne", "()Z"⟩, 13) := ⟨⟨by decide +kernel, by decide +kernel⟩, List.mem_of_getElem? (i := 753) (by decide +kernel), List.mem_of_getElem? (i := 1010) (by decide +kernel), List.mem_of_getElem? (i := 1011) (by decide +kernel)⟩
theorem lw_p46 : lw_okq (⟨"ChanceHallModel", "driftOf", "(I)J"⟩, 13) := ⟨⟨by decide +kernel, by decide +kernel⟩, List.mem_of_getElem? (i := 753) (by decide +kernel), List.mem_of_getElem? (i := 1018) (by decide +kernel), List.mem_of_getElem? (i := 1019) (by decide +kernel)⟩
theorem lw_p47 : lw_okq (⟨"ChanceHallModel", "plays", "(I)V"⟩, 13) := ⟨⟨by decide +kernel, by decide +kernel⟩, List.mem_of_getElem? (i := 753) (by decide +kernel), List.mem_of_getElem? (i := 1030) (by decide +kernel), List.mem_of_getElem? (i := 1031) (by decide +kernel)⟩
def lw_privs_3 : List (MethodName × Nat) := [(⟨"ChanceHallModel", "distanceOf", "(III)J"⟩, 13), (⟨"ChanceHallModel", "isMixed", "(II)Z"⟩, 13), (⟨"ChanceHallModel", "apartBy", "(III)J"⟩, 13), (⟨"ChanceHallModel", "togetherBy", "(II)J"⟩, 13), (⟨"ChanceHallModel", "image", "(II)I"⟩, 13), (⟨"ChanceHallModel", "hitsBy", "(III)J"⟩, 13), (⟨"ChanceHallModel", "reached", "(I)I"⟩, 13), (⟨"ChanceHallModel", "ahead", "(I)I"⟩, 13), (⟨"ChanceHallModel", "isClosed", "(I)Z"⟩, 13), (⟨"ChanceHallModel", "wholeRest", "()J"⟩, 13), (⟨"ChanceHallModel", "restOf", "(I)J"⟩, 13), (⟨"ChanceHallModel", "laysWeights", "(I)V"⟩, 13), (⟨"ChanceHallModel", "placeOf", "(I)I"⟩, 13), (⟨"ChanceHallModel", "isOne", "()Z"⟩, 13), (⟨"ChanceHallModel", "driftOf", "(I)J"⟩, 13), (⟨"ChanceHallModel", "plays", "(I)V"⟩, 13)]
theorem lw_r3 : ∀ q ∈ lw_privs_3, lw_okq q := List.forall_mem_cons.mpr ⟨lw_p32, List.forall_mem_cons.mpr ⟨lw_p33, List.forall_mem_cons.mpr ⟨lw_p34, List.forall_mem_cons.mpr ⟨lw_p35, List.forall_mem_cons.mpr ⟨lw_p36, List.forall_mem_cons.mpr ⟨lw_p37, List.forall_mem_cons.mpr ⟨lw_p38, List.forall_mem_cons.mpr ⟨lw_p39, List.forall_mem_cons.mpr ⟨lw_p40, List.forall_mem_cons.mpr ⟨lw_p41, List.forall_mem_cons.mpr ⟨lw_p42, List.forall_mem_cons.mpr ⟨lw_p43, List.forall_mem_cons.mpr ⟨lw_p44, List.forall_mem_cons.mpr ⟨lw_p45, List.forall_mem_cons.mpr ⟨lw_p46, List.forall_mem_cons.mpr ⟨lw_p47, fun _ h => absurd h List.not_mem_nil⟩⟩⟩⟩⟩⟩⟩⟩⟩⟩⟩⟩⟩⟩⟩⟩
theorem lw_p48 : lw_okq (⟨"ChanceHallModel", "weighColour", "(II)I"⟩, 13) := ⟨⟨by decide +kernel, by decide +kernel⟩, List.mem_of_getElem? (i := 753) (by decide +kernel), List.mem_of_getElem? (i := 1046) (by decide +kernel), List.mem_of_getElem? (i := 1047) (by decide +kernel)⟩
def lw_privs_4 : List (MethodName × Nat) := [(⟨"ChanceHallModel", "weighColour", "(II)I"⟩, 13)]
theorem lw_r4 : ∀ q ∈ lw_privs_4, lw_okq q := List.forall_mem_cons.mpr ⟨lw_p48, fun _ h => absurd h List.not_mem_nil⟩
def lw_privs : List (MethodName × Nat) := lw_privs_1 ++ (lw_privs_2 ++ (lw_privs_3 ++ (lw_privs_4)))
def lw_tbl : List Cond := k2_sels lw_privs ++ tables_1
theorem lw_privs_ok : ∀ q ∈ lw_privs, lw_okq q := by
  show ∀ q ∈ lw_privs_1 ++ (lw_privs_2 ++ (lw_privs_3 ++ (lw_privs_4))), lw_okq q
  exact List.forall_mem_append.mpr ⟨lw_r1, List.forall_mem_append.mpr ⟨lw_r2, List.forall_mem_append.mpr ⟨lw_r3, lw_r4⟩⟩⟩
/-- the streams that the claim lets the run draw from -/
abbrev lw_cs : List Choice := [Jvm.Choice.named "NaN.bits"]
theorem lw_bits : nanBits ∈ lw_cs := by first | decide | exact List.mem_cons_self | simp [lw_cs, nanBits]
/-! ===== BEGIN words of one list among another's, by their places ===== -/
theorem goodIn_r {big : List Cond} (ws : List Cond) (ps : List Nat) (hp : ws = ps.filterMap (fun i => big[i]?)) (h : ws.all goodWord = true) : GoodIn big ws := by
  intro w hw
  have h1 := List.all_eq_true.mp h w hw
  rw [hp] at hw
  obtain ⟨i, -, hi⟩ := List.mem_filterMap.mp hw
  have hm : w ∈ big := by first | exact List.mem_of_getElem? hi | exact List.getElem?_mem hi
  exact ⟨hm, good_of_word h1⟩
theorem goodIn_app {big a b : List Cond} (ha : GoodIn big a) (hb : GoodIn big b) : GoodIn big (a ++ b) := fun w h => (List.mem_append.mp h).elim (ha w) (hb w)
theorem goodIn_ca {big a b : List Cond} {c : Cond} (ha : GoodIn big (c :: a)) (hb : GoodIn big b) : GoodIn big (c :: (a ++ b)) := fun w h => (List.mem_cons.mp h).elim (fun e => ha w (List.mem_cons.mpr (Or.inl e))) (fun h => (List.mem_append.mp h).elim (fun h => ha w (List.mem_cons.mpr (Or.inr h))) (hb w))
theorem goodIn_sub {big ws : List Cond} (hm : ∀ w ∈ ws, w ∈ big) (h : ws.all goodWord = true) : GoodIn big ws := fun w hw => ⟨hm w hw, good_of_word (List.all_eq_true.mp h w hw)⟩
/-! ===== END ===== -/

/-! ===== BEGIN new T[n][m]: the outer array a place, the inner ones among the pooled ===== -/
/-- (own rows: the printed text names va_AOA, which no printed text defines) an array of arrays of t can be made -/
def va_AOA (t : FieldType) (U : State) : Prop := (Cond.arrayOver (.array t)).before #[] U = true
theorem va_AOA.of {t : FieldType} {A : Array Value} {U : State} (h : (Cond.arrayOver (.array t)).before A U = true) : va_AOA t U := h
theorem va_AOA.use {t : FieldType} {A : Array Value} {U : State} (h : va_AOA t U) : (Cond.arrayOver (.array t)).before A U = true := h
/-- f, but v at every address of l -/
def vr_up {α : Type} (f : Nat → α) (l : List Nat) (v : α) : Nat → α := fun a => if a ∈ l then v else f a
theorem vr_up_in {α : Type} {f : Nat → α} {l : List Nat} {v : α} {a : Nat} (h : a ∈ l) : vr_up f l v a = v := if_pos h
theorem vr_up_ne {α : Type} {f : Nat → α} {l : List Nat} {v : α} {a : Nat} (h : a ∉ l) : vr_up f l v a = f a := if_neg h
theorem vr_rows {L l : List Nat} {f : Nat → va_E} {e : va_E} (h : ∀ a, a ∈ l → a ∉ L) : va_pl L f ++ l.map (fun a => (a, e)) = va_pl (L ++ l) (vr_up f l e) := by
  unfold va_pl
  rw [List.map_append]
  congr 1
  · apply List.map_congr_left
    intro a ha
    rw [vr_up_ne (fun q => h a q ha)]
  · apply List.map_congr_left
    intro a ha
    rw [vr_up_in ha]
theorem vr_lay {X rows : va_W} {x : Nat × va_E} {pl : va_W} {D : va_G} {cl : List vw_C} {H : Heap} (hP : va_P D cl (((X ++ pl) ++ [x]) ++ rows) H) : va_P D cl ((X ++ [x]) ++ (pl ++ rows)) H := by
  rw [List.append_assoc (X ++ pl)] at hP
  have h := va_P.swap hP
  rw [← List.append_assoc X] at h
  have h2 := va_P.swap h
  rw [List.append_assoc (X ++ [x])] at h2
  exact h2
theorem vr_layD {X rows : va_W} {x : Nat × va_E} {pl : va_W} {A : Nat → Prop} (hD : va_D A (((X ++ pl) ++ [x]) ++ rows)) : va_D A ((X ++ [x]) ++ (pl ++ rows)) := by
  rw [List.append_assoc (X ++ pl)] at hD
  have h := va_D.swap hD
  rw [← List.append_assoc X] at h
  have h2 := va_D.swap h
  rw [List.append_assoc (X ++ [x])] at h2
  exact h2
theorem vr_outer (c : ClassId) (N h0 : Nat) : ∀ i : Nat, Jvm.Free.Multi.outerC c N h0 i = arrV c N (fun j => va_rf (if j < i then some (h0 + 1 + j) else none))
  | 0 => by
    show ({ cls := c, slots := Array.replicate N .null, vm := .none } : Cell) = _
    rw [arrV_new]
    refine congrArg (arrV c N) (funext fun j => ?_)
    simp [va_rf]
  | i + 1 => by
    show (Jvm.Free.Multi.outerC c N h0 i).setSlot i (.ref (h0 + 1 + i)) = _
    rw [vr_outer c N h0 i, arrV_store]
    refine congrArg (arrV c N) (funext fun j => ?_)
    by_cases e : j = i
    · subst e
      simp [updV, va_rf]
    · by_cases h : j < i
      · simp [updV, e, h, Nat.lt_succ_of_lt h]
      · simp [updV, e, h, show ¬ j < i + 1 by omega]
section VGM
variable {p : Program} {l : Launch} {e : Env} {R : Room} {s : State} {m : MethodId} {args : Array Value} {below : List Frame} {meth : Method} {c : Code} {H : Heap} {locs : List Loc} {cells slots : Nat} {Q : State → Prop}
variable {cc : ByteArray} {pc : Nat} {ls : Array Slot} {rest : List Value} {D : va_G} {cl : List vw_C} {A : Nat → Prop} {a : Nat} {tys : List (ClassId × FieldType)} {ws : va_W} {H0 : Heap}
theorem va_mna {X : va_W} {L : List Nat} {f : Nat → va_E} {cc : ByteArray} (hexec : p.tables.exec = Jvm.exec) (hb : c.code = cc) {own : String} {index : Nat} {ty : FieldType} {cy : ClassId} (hown : s.vm.findClass own = some m.cls) (hclink : (Cond.classLink own index ("[" ++ (FieldType.array ty).toString)).before args s = true) (hover : va_AOA ty s) (harr : (Cond.arrayClass ty).before args s = true) (hcy : s.vm.findClass (FieldType.array ty).toString = some cy)
    (hK : va_K D cl tys s) (hP : va_P D cl (X ++ va_pl L f) H) (hD : va_D A (X ++ va_pl L f)) (hS : va_S A H0 H locs) (hA : ∀ q, H0.size ≤ q → A q) {n k : Int32} {N' K' : Nat} {z : vp_A} (hn : ¬ n < 0) (hk : ¬ k < 0) (hN : n.toNatClampNeg = N') (hM : k.toNatClampNeg = K')
    (hb1 : N' * 4 ≤ 536870912) (hb2 : K' * componentBytes ty ≤ 536870912) (hb3 : K' ≤ 536870912) (hdf : fits ty (defaultValue ty) = true) (hdd : (defaultValue ty).isDefault = true) (hcells : cells + (1 + N') ≤ R.cells) (hslots : slots + (N' + N' * K') ≤ R.slots) (hz : ∀ c : ClassId, Jvm.Free.Multi.innerC c K' (defaultValue ty) = vp_cell c z) (hdg : decode cc pc = .ok (.multianewarray index 2, 4))
    (kk : ∀ (q : Nat) (r : Nat → Nat) (cA : ClassId) (H1 : Heap), (∀ i j : Nat, i < N' → j < N' → r i = r j → i = j) → (∀ i : Nat, i < N' → r i ∉ L) → va_K D cl (tys ++ [(cA, .array ty)]) s →
      va_P D cl ((X ++ [(q, .inl (cA, N', .inr (.inr (.inr (.inr (fun i => if i < N' then some (r i) else none))))))]) ++ va_pl (L ++ (List.range N').map r) (vr_up f ((List.range N').map r) (.inl (cy, z)))) H1 → va_D A ((X ++ [(q, .inl (cA, N', .inr (.inr (.inr (.inr (fun i => if i < N' then some (r i) else none))))))]) ++ va_pl (L ++ (List.range N').map r) (vr_up f ((List.range N').map r) (.inl (cy, z)))) → va_S A H0 H1 locs →
      W p l e R s m args below meth c H1 locs (cells + 1 + N') (slots + N' + N' * K') Q (F0 m (pc + 4) ls (.ref q :: rest))) : W p l e R s m args below meth c H locs cells slots Q (F0 m pc ls (.int k :: .int n :: rest)) := by
  subst hN
  subst hM
  intro T hT Xs
  obtain ⟨vm₁, cA, comp, -, fA, fC, hO, -, X', step⟩ := Xs.multianewarray2F hexec hown hclink (va_AOA.use hover) harr (g := F0 m pc ls (.int k :: .int n :: rest)) rfl (by rw [hb]; exact hdg) rfl hn hk hb1 hb2 hb3 hdf hdd hcells hslots
  have ec : some cy = some comp := hcy.symm.trans fC
  cases ec
  generalize hF : Jvm.Free.Multi.fill (T.setVm vm₁) cA cy n.toNatClampNeg k.toNatClampNeg (defaultValue ty) n.toNatClampNeg = F at X' step
  have hTh : (T.setVm vm₁).heap = H := hT
  obtain ⟨f1, f2, -, -⟩ := Jvm.Free.Multi.fill_facts (T.setVm vm₁) cA cy n.toNatClampNeg k.toNatClampNeg (defaultValue ty) n.toNatClampNeg
  rw [hF, hTh] at f1 f2
  have hold : ∀ x : Nat, x < H.size → F.heap[x]? = H[x]? := fun x hx => by
    have := Jvm.Free.Multi.fill_old (T.setVm vm₁) cA cy n.toNatClampNeg k.toNatClampNeg (defaultValue ty) (a := x) (by rw [hTh]; exact hx) n.toNatClampNeg
    rw [hF, hTh] at this
    exact this
  have hrow : ∀ j : Nat, j < n.toNatClampNeg → F.heap[H.size + 1 + j]? = some (vp_cell cy z) := fun j hj => by
    have := Jvm.Free.Multi.fill_inner (T.setVm vm₁) cA cy n.toNatClampNeg k.toNatClampNeg (defaultValue ty) n.toNatClampNeg j hj
    rw [hF, hTh, hz] at this
    exact this
  have hout : Jvm.Free.Multi.outerC cA n.toNatClampNeg H.size n.toNatClampNeg = vp_cell cA (n.toNatClampNeg, .inr (.inr (.inr (.inr (fun i => if i < n.toNatClampNeg then some (H.size + 1 + i) else none))))) := by
    rw [vp_cell_q]
    exact vr_outer cA n.toNatClampNeg H.size n.toNatClampNeg
  rw [hout] at f2
  have hlt : ∀ a, a ∈ L → a < H.size := fun a ha => by
    obtain ⟨k9, hk9⟩ := va_pl_get (X := X) (f := f) ha
    exact (hP k9 _ hk9).lt
  have hnl : ∀ i : Nat, i < n.toNatClampNeg → H.size + 1 + i ∉ L := fun i _ h => by
    have := hlt _ h
    omega
  have hnm : ∀ a, a ∈ (List.range n.toNatClampNeg).map (fun i => H.size + 1 + i) → a ∉ L := fun a ha h => by
    obtain ⟨i, -, rfl⟩ := List.mem_map.mp ha
    have := hlt _ h
    omega
  have hP0 : va_P D cl (X ++ va_pl L f) F.heap := hP.kept (fun k9 x hx => hold x.1 ((hP k9 x hx).lt))
  have hP1 : va_P D cl ((X ++ va_pl L f) ++ [(H.size, .inl (cA, n.toNatClampNeg, .inr (.inr (.inr (.inr (fun i => if i < n.toNatClampNeg then some (H.size + 1 + i) else none))))))]) F.heap := hP0.app (fun k9 x hx => by
    have h0 : k9 < 1 := (List.getElem?_eq_some_iff.mp hx).1
    rw [show k9 = 0 by omega] at hx
    cases hx
    exact f2)
  have hP2 : va_P D cl (((X ++ va_pl L f) ++ [(H.size, .inl (cA, n.toNatClampNeg, .inr (.inr (.inr (.inr (fun i => if i < n.toNatClampNeg then some (H.size + 1 + i) else none))))))]) ++ ((List.range n.toNatClampNeg).map (fun i => H.size + 1 + i)).map (fun a => (a, .inl (cy, z)))) F.heap := hP1.app (fun k9 x hx => by
    obtain ⟨a, ha, rfl⟩ := List.mem_map.mp (List.mem_of_getElem? hx)
    obtain ⟨i, hi, rfl⟩ := List.mem_map.mp ha
    exact hrow i (List.mem_range.mp hi))
  have hD2 : va_D A (((X ++ va_pl L f) ++ [(H.size, .inl (cA, n.toNatClampNeg, .inr (.inr (.inr (.inr (fun i => if i < n.toNatClampNeg then some (H.size + 1 + i) else none))))))]) ++ ((List.range n.toNatClampNeg).map (fun i => H.size + 1 + i)).map (fun a => (a, .inl (cy, z)))) := by
    have hD1 := hD.push (e := .inl (cA, n.toNatClampNeg, .inr (.inr (.inr (.inr (fun i => if i < n.toNatClampNeg then some (H.size + 1 + i) else none)))))) hP rfl (hA _ hS.1)
    generalize hW1 : (X ++ va_pl L f) ++ [(H.size, .inl (cA, n.toNatClampNeg, .inr (.inr (.inr (.inr (fun i => if i < n.toNatClampNeg then some (H.size + 1 + i) else none))))))] = W1 at hD1 hP1 ⊢
    have hle : ∀ (k9 : Nat) (x : Nat × va_E), W1[k9]? = some x → x.1 ≤ H.size := fun k9 x hx => by
      rw [← hW1] at hx
      by_cases hl : k9 < (X ++ va_pl L f).length
      · rw [List.getElem?_append_left hl] at hx
        exact Nat.le_of_lt ((hP k9 x hx).lt)
      · rw [List.getElem?_append_right (by omega)] at hx
        have h0 : k9 - (X ++ va_pl L f).length < 1 := (List.getElem?_eq_some_iff.mp hx).1
        rw [show k9 - (X ++ va_pl L f).length = 0 by omega] at hx
        cases hx
        exact Nat.le_refl _
    have hr : ∀ (k9 : Nat) (x : Nat × va_E), (((List.range n.toNatClampNeg).map (fun i => H.size + 1 + i)).map (fun a => ((a, .inl (cy, z)) : Nat × va_E)))[k9]? = some x → x.1 = H.size + 1 + k9 := fun k9 x hx => by
      rw [List.getElem?_map, List.getElem?_map] at hx
      by_cases h9 : k9 < n.toNatClampNeg
      · rw [List.getElem?_range h9] at hx
        cases hx
        rfl
      · have hn0 : (List.range n.toNatClampNeg)[k9]? = none := List.getElem?_eq_none (by rw [List.length_range]; omega)
        rw [hn0] at hx
        cases hx
    refine ⟨fun i j x y hi hj hxy => ?_, fun k9 x hx => ?_⟩
    · by_cases h1 : i < W1.length <;> by_cases h2 : j < W1.length
      · rw [List.getElem?_append_left h1] at hi
        rw [List.getElem?_append_left h2] at hj
        exact hD1.1 i j x y hi hj hxy
      · rw [List.getElem?_append_left h1] at hi
        rw [List.getElem?_append_right (by omega)] at hj
        have := hle _ _ hi
        have := hr _ _ hj
        omega
      · rw [List.getElem?_append_right (by omega)] at hi
        rw [List.getElem?_append_left h2] at hj
        have := hle _ _ hj
        have := hr _ _ hi
        omega
      · rw [List.getElem?_append_right (by omega)] at hi hj
        have := hr _ _ hi
        have := hr _ _ hj
        omega
    · by_cases h1 : k9 < W1.length
      · rw [List.getElem?_append_left h1] at hx
        exact hD1.2 k9 x hx
      · rw [List.getElem?_append_right (by omega)] at hx
        have := hr _ _ hx
        exact hA _ (by have := hS.1; omega)
  have hAr : ArrOfT s cA (.array ty) := fun N9 z9 => by
    obtain ⟨-, k9, hk9, cm9, hkk9⟩ := (hO 0 0 0).1
    exact ⟨(fun q hq => by cases hq), k9, hk9, cm9, hkk9⟩
  have hK2 : va_K D cl (tys ++ [(cA, .array ty)]) s := ⟨hK.1, fun k9 x hx => by
    by_cases hl : k9 < tys.length
    · rw [List.getElem?_append_left hl] at hx
      exact hK.2 k9 x hx
    · rw [List.getElem?_append_right (by omega)] at hx
      have h0 : k9 - tys.length < 1 := (List.getElem?_eq_some_iff.mp hx).1
      rw [show k9 - tys.length = 0 by omega] at hx
      cases hx
      exact ⟨hAr, fA⟩⟩
  obtain ⟨t, a1, b1⟩ := kk H.size (fun i => H.size + 1 + i) cA F.heap (fun i j _ _ h => by have h9 : H.size + 1 + i = H.size + 1 + j := h; omega) hnl hK2 (by rw [← vr_rows hnm]; exact vr_lay hP2) (by rw [← vr_rows hnm]; exact vr_layD hD2) ⟨by rw [f1]; have := hS.1; omega, fun x h1 h2 => (hold x (Nat.lt_of_lt_of_le h1 hS.1)).trans (hS.2.1 x h1 h2), hS.2.2⟩ F rfl X'
  refine ⟨t, step t ?_, b1⟩
  have e : T.heap.size = H.size := by rw [hT]
  rw [e]
  exact a1
end VGM
/-! ===== END ===== -/

/-! ===== BEGIN exceptions that leave a method, and their catching by the caller (launches without stack traces) ===== -/
section VXA
/-! The laws vx_back, vx_callV, vx_callS, vx_callSW, vx_throw0, vx_throwS follow proofs of the library, with one case more: JvmDerived/Free/Laws.lean (Back.of_free), Shelf42/LK1.lean (callV, callS), Shelf/KitTraced.lean (throwNew0V, throwNewS). -/
/-- where a method has thrown q: the class by its name, the cell, what was written, the world -/
def vx_T (XC : String → State → State → Prop) (st : State) (q : Addr) (t : State) (mc ms : Nat) (free : Addr → Prop) : Prop :=
  ∃ (E : String) (ce : Cell) (L : List Loc), XC E st t ∧ t.heap[q]? = some ce ∧ ce.vm = .none ∧ st.vm.findClass E = some ce.cls ∧ st.WarmedH t.vm ∧ st.sameButNew ({ t with vm := st.vm } : State) L mc ms ∧ ∀ z ∈ L, free z.base
def vx_Q (Qc : Array Value → State → Outcome → State → Prop) (XC : String → State → State → Prop) (mc ms : Nat) (free : Addr → Prop) : Array Value → State → Outcome → State → Prop := fun a st o t =>
  (Qc a st o t ∧ ∃ L, FrameEnd st o t L mc ms ∧ ∀ q ∈ L, free q.base) ∨ ∃ q, o = .threw q ∧ vx_T XC st q t mc ms free
/-- a callee that returns or throws -/
def vx_Met (l : Launch) (y : MethodName) (ws : List Cond) (rm : Room) (Pc : Array Value → State → Prop) (Qc : Array Value → State → Outcome → State → Prop) (XC : String → State → State → Prop) (mc ms : Nat) (free : Addr → Prop) : Prop :=
  MetFree l y (headSpec ws rm) Pc (fun _ _ _ _ _ => True) (vx_Q Qc XC mc ms free)
def vx_Post (XC : String → State → State → Prop) (mc ms : Nat) (free : Addr → Prop) : Pt → Array Value → Addr → Pt → Prop := fun A a q B =>
  ∃ (g : JFrame) (mk : MethodId) (t : State) (L : List Loc) (E : String) (ce : Cell), B.U.heap = t.heap ∧ B.U.vm = t.vm ∧ XC E (A.U.calling g mk a) t ∧ t.heap[q]? = some ce ∧ ce.vm = .none ∧ A.U.vm.findClass E = some ce.cls ∧ B.locs = A.locs ++ L ∧ (∀ z ∈ L, free z.base) ∧ B.cells = A.cells + mc ∧ B.slots = A.slots + ms
def vx_Back (l : Launch) (R : Room) (p : Program) (e : Env) (below : List Frame) (s : State) (sargs : Array Value) (y : MethodName) (len W9 : Nat)
    (Pre : Pt → Array Value → Prop) (Post : Pt → Array Value → Option Value → Pt → Prop) (PostX : Pt → Array Value → Addr → Pt → Prop) : Prop :=
  ∀ (m : MethodId) (meth : Method) (c : Code) (A : Pt) (g : JFrame) (ig : Instr) (mk : MethodId) (a : Array Value),
    Stand p l e R s m sargs below meth c A.U A.locs A.cells A.slots → g.method = m → g.locals.size = c.maxLocals → decode c.code g.pc = .ok (ig, len) →
    2 * g.monitorRoom + (g.stack.map fun v => v.category).sum ≤ W9 → A.U.methodNamed? y = some mk → Pre A a →
    (∃ (v : Option Value) (B : Pt), Stand p l e R s m sargs below meth c B.U B.locs B.cells B.slots ∧ Post A a v B ∧
      Steps p.tables e below (doInvoke e (A.U.setTop g) [] mk a).1 (B.U.setTop { g with pc := g.pc + len, stack := v.toList ++ g.stack })) ∨
    (∃ (q : Addr) (B : Pt), Stand p l e R s m sargs below meth c B.U B.locs B.cells B.slots ∧ PostX A a q B ∧
      Steps p.tables e below (doInvoke e (A.U.setTop g) [] mk a).1 ((B.U.setTop g).pushFrame (.throwing q)))
section Payer
variable {l : Launch} {R : Room} {p : Program} {e : Env} {below : List Frame} {s : State} {sargs : Array Value} {y : MethodName} {len W9 : Nat}
theorem vx_back {ws : List Cond} {rm : Room} {Pc : Array Value → State → Prop} {Qc : Array Value → State → Outcome → State → Prop} {XC : String → State → State → Prop} {mc ms : Nat} {free : Addr → Prop} {bytes : ByteArray} {maxL : Nat} {ret : Option FieldType}
    (hM : vx_Met l y ws rm Pc Qc XC mc ms free) (hblind : FrameBlind Pc) (hrc : rm.cells = mc) (hrs : rm.slots = ms)
    (hframes : rm.frames + 1 ≤ R.frames) (hlocals : W9 + (maxL + 11) + rm.locals ≤ R.locals)
    (hws : ∀ w ∈ ws, ∀ a' U, s.WarmedH U.vm → w.before a' U = true) (hcode : Cond.code y bytes maxL ret ∈ ws) (hinit : ∀ a' U, s.WarmedH U.vm → (Cond.initialized y.cls).before a' U = true) :
    vx_Back l R p e below s sargs y len W9 (PreOf R mc ms Pc) (PostOf Qc mc ms free) (vx_Post XC mc ms free) := by
  intro m meth c A g ig mk a X hg hsize hdg hW hn hp
  have h1 : (headSpec ws rm).pre.before a A.U = true := atoms_intro fun w hw => hws w hw _ _ X.warmed
  have h2 : (Cond.code y bytes maxL ret).before a A.U = true := hws _ hcode _ _ X.warmed
  have h3 : (Cond.initialized y.cls).before a A.U = true := hinit _ _ X.warmed
  have h4 : A.cells + (headSpec ws rm).room.cells ≤ R.cells := by rw [show (headSpec ws rm).room.cells = mc from hrc]; exact hp.1
  have h5 : A.slots + (headSpec ws rm).room.slots ≤ R.slots := by rw [show (headSpec ws rm).room.slots = ms from hrs]; exact hp.2.1
  have hPc : Pc a (A.U.calling g mk a) := hblind _ _ _ _ hp.2.2
  obtain ⟨U, Ls, c0, s0⟩ := A
  dsimp only [Pt.U, Pt.locs, Pt.cells, Pt.slots] at h1 h2 h3 h4 h5 X hn hPc ⊢
  obtain ⟨methY, cY, hmY, hcY, -, hlY, -, -, -, -⟩ := Cond.code_spec hn h2
  obtain ⟨kY, hkY, -⟩ := className_of_methodNamed hn
  have hinitY : kY.init = .initialized := Cond.initialized_spec (findClass_of_methodNamed hn) hkY h3
  have h : At U g.method c below := by rw [hg]; exact X.here
  have hlocals9 : W9 + (maxL + 11) + (headSpec ws rm).room.locals ≤ R.locals := hlocals
  have happ : (headSpec ws rm).appliesLoose y e.platform (U.calling g mk a) = true :=
    Spec.appliesLoose_calling (g := g) h hdg hn hkY hinitY
      (X.room_calling (g := g) (R' := (headSpec ws rm).room) hsize hmY hcY hframes (by rw [hlY]; omega) h4 h5) h1
  obtain ⟨mid, hmid⟩ := h.above
  have hfr : (U.setTop g).frames = (.java g :: mid) ++ below := by rw [State.frames_setTop' g h.top, hmid]; rfl
  obtain ⟨o, s₂, hsteps, -, hend, hq⟩ := Steps.callFree hM p X.admits X.cas X.clock (acts := []) hfr happ hPc trivial
  have hq' : vx_Q Qc XC mc ms free a (U.calling g mk a) o s₂ := hq
  rw [State.frames_setTop' g h.top] at hend
  obtain ⟨g₀, hg0⟩ := Option.isSome_iff_exists.mp h.top
  obtain ⟨r, hr⟩ := State.topJava?_eq_some.mp hg0
  have hr' : (({ U with heap := s₂.heap, slotsUsed := s₂.slotsUsed } : State).setVm s₂.vm).frames = .java g₀ :: r := hr
  rcases hq' with ⟨hqc, L, hfe, hL⟩ | ⟨q, rfl, E, ce, L, hx, hce, hcv, hcl, hW₂, hsm, hL⟩
  · obtain ⟨⟨v, rfl⟩, hW₂, e2, q2, q3, q4, q5, q6⟩ := id hfe
    have e3 : s₂ = ({ (U.calling g mk a).setFrames s₂.frames with heap := s₂.heap, slotsUsed := s₂.slotsUsed } : State).setVm s₂.vm := by
      have : s₂ = ({ s₂ with vm := (U.calling g mk a).vm } : State).setVm s₂.vm := rfl
      rw [e2] at this
      exact this
    obtain ⟨c₂, i₂, len₂, hc₂, hd₂, hf₂⟩ := hend
    have hW' : U.WarmedH s₂.vm := hW₂
    have hcc : c₂ = c := by
      have h1 : s₂.code? g.method = U.code? g.method := by
        rw [State.code?_eq, State.code?_eq, hW'.alike.method?]
      exact Option.some.inj (hc₂.symm.trans (h1.trans h.code))
    subst hcc
    have hlen : len₂ = len := by rw [hdg] at hd₂; cases hd₂; rfl
    subst hlen
    have hs₂ : s₂ = (({ U with heap := s₂.heap, slotsUsed := s₂.slotsUsed } : State).setVm s₂.vm).setTop { g with pc := g.pc + len₂, stack := v.toList ++ g.stack } := by
      refine e3.trans ?_
      rw [hf₂, State.calling_eq h.top, State.setFrames_setFrames, State.setTop_of_frames _ hr', hr]
      rfl
    have hsame : U.sameButNew ({ U with heap := s₂.heap, slotsUsed := s₂.slotsUsed } : State) L mc ms := by
      refine ⟨?_, q2, q3, q4, q5, q6⟩
      obtain ⟨t, ht, -⟩ := State.frames_cons hr
      show ({ U with heap := s₂.heap, slotsUsed := s₂.slotsUsed } : State) = { U.setFrames U.frames with heap := s₂.heap, slotsUsed := s₂.slotsUsed }
      rw [State.setFrames_self ht]
    subst hg
    refine Or.inl ⟨v, ⟨(({ U with heap := s₂.heap, slotsUsed := s₂.slotsUsed } : State).setVm s₂.vm), Ls ++ L, c0 + mc, s0 + ms⟩,
      ⟨X.admits, X.cas, X.clock, X.frames, X.room, X.hears, X.method, X.code, (X.here.setHeapUsed s₂.heap s₂.slotsUsed).setVm hW'.alike, X.tail, State.WarmedH.trans X.warmed hW', X.limits, X.bytes, X.same.trans (hsame.setVm s.vm)⟩,
      ⟨g, mk, s₂, L, rfl, rfl, hqc, rfl, hL, rfl, rfl⟩, ?_⟩
    show Steps p.tables e below _ ((({ U with heap := s₂.heap, slotsUsed := s₂.slotsUsed } : State).setVm s₂.vm).setTop { g with pc := g.pc + len₂, stack := v.toList ++ g.stack })
    rw [← hs₂]
    exact hsteps
  · obtain ⟨e2, q2, q3, q4, q5, q6⟩ := id hsm
    have e3 : s₂ = ({ (U.calling g mk a).setFrames s₂.frames with heap := s₂.heap, slotsUsed := s₂.slotsUsed } : State).setVm s₂.vm := by
      have : s₂ = ({ s₂ with vm := (U.calling g mk a).vm } : State).setVm s₂.vm := rfl
      rw [e2] at this
      exact this
    have hf₂ : s₂.frames = .throwing q :: .java g :: U.frames.tail := hend
    have hW' : U.WarmedH s₂.vm := hW₂
    have hs₂ : s₂ = ((({ U with heap := s₂.heap, slotsUsed := s₂.slotsUsed } : State).setVm s₂.vm).setTop g).pushFrame (.throwing q) := by
      refine e3.trans ?_
      rw [hf₂, State.calling_eq h.top, State.setFrames_setFrames, State.pushFrame, State.frames_setTop _ hr', State.setTop_of_frames _ hr', State.setFrames_setFrames, hr]
      rfl
    have hsame : U.sameButNew ({ U with heap := s₂.heap, slotsUsed := s₂.slotsUsed } : State) L mc ms := by
      refine ⟨?_, q2, q3, q4, q5, q6⟩
      obtain ⟨t, ht, -⟩ := State.frames_cons hr
      show ({ U with heap := s₂.heap, slotsUsed := s₂.slotsUsed } : State) = { U.setFrames U.frames with heap := s₂.heap, slotsUsed := s₂.slotsUsed }
      rw [State.setFrames_self ht]
    subst hg
    refine Or.inr ⟨q, ⟨(({ U with heap := s₂.heap, slotsUsed := s₂.slotsUsed } : State).setVm s₂.vm), Ls ++ L, c0 + mc, s0 + ms⟩,
      ⟨X.admits, X.cas, X.clock, X.frames, X.room, X.hears, X.method, X.code, (X.here.setHeapUsed s₂.heap s₂.slotsUsed).setVm hW'.alike, X.tail, State.WarmedH.trans X.warmed hW', X.limits, X.bytes, X.same.trans (hsame.setVm s.vm)⟩,
      ⟨g, mk, s₂, L, E, ce, rfl, rfl, hx, hce, hcv, hcl, rfl, hL, rfl, rfl⟩, ?_⟩
    show Steps p.tables e below _ (((({ U with heap := s₂.heap, slotsUsed := s₂.slotsUsed } : State).setVm s₂.vm).setTop g).pushFrame (.throwing q))
    rw [← hs₂]
    exact hsteps
end Payer
section Calls
variable {p : Program} {l : Launch} {e : Env} {R : Room} {s : State} {m : MethodId} {args : Array Value} {below : List Frame} {meth : Method} {c : Code} {T : State} {locs : List Loc} {cells slots : Nat}
theorem vx_callV (X : Stand p l e R s m args below meth c T locs cells slots) (hexec : p.tables.exec = Jvm.exec) {own C : String} {index : Nat} {y : MethodName} {bytes : ByteArray} {maxL : Nat} {ret : Option FieldType}
    (hown : s.vm.findClass own = some m.cls) (hlink : (Cond.methodLink own index y).before args s = true) (hinst : (Cond.instanceMethod y).before args s = true) (hsel : (Cond.selects C y y).before args s = true)
    (hcode : (Cond.code y bytes maxL ret).before args s = true) (hy : y.cls ≠ "java/lang/invoke/MethodHandle" ∧ y.cls ≠ "java/lang/invoke/VarHandle")
    {W9 : Nat} {Pre : Pt → Array Value → Prop} {Post : Pt → Array Value → Option Value → Pt → Prop} {PostX : Pt → Array Value → Addr → Pt → Prop} (hK : vx_Back l R p e below s args y 3 W9 Pre Post PostX)
    {b : Addr} {cellB : Cell} (hcell : T.heap[b]? = some cellB) (hobj : cellB.vm.isStatics = false) (hcls : s.vm.findClass C = some cellB.cls)
    {g : JFrame} (hg : g.method = m) (hsize : g.locals.size = c.maxLocals) {argsL rest : List Value} (hlen : ∀ sig, parseMethodDescriptor y.desc = some sig → argsL.length = sig.parameters.length)
    (hstack : g.stack = argsL.reverse ++ .ref b :: rest) (hW : 2 * g.monitorRoom + (rest.map fun v => v.category).sum ≤ W9) (hdg : decode c.code g.pc = .ok (.invokevirtual index, 3))
    (hpre : ∀ vm₁, s.WarmedH vm₁ → Pre ⟨T.setVm vm₁, locs, cells, slots⟩ (Value.ref b :: argsL).toArray) :
    (∃ (v : Option Value) (vm₁ : Vm) (B : Pt), s.WarmedH vm₁ ∧ Stand p l e R s m args below meth c B.U B.locs B.cells B.slots ∧ Post ⟨T.setVm vm₁, locs, cells, slots⟩ (Value.ref b :: argsL).toArray v B ∧
      ∀ target, Steps p.tables e below (B.U.setTop { g with pc := g.pc + 3, stack := v.toList ++ rest }) target → Steps p.tables e below (T.setTop g) target) ∨
    (∃ (q : Addr) (vm₁ : Vm) (B : Pt), s.WarmedH vm₁ ∧ Stand p l e R s m args below meth c B.U B.locs B.cells B.slots ∧ PostX ⟨T.setVm vm₁, locs, cells, slots⟩ (Value.ref b :: argsL).toArray q B ∧
      Steps p.tables e below (T.setTop g) ((B.U.setTop { g with stack := rest }).pushFrame (.throwing q))) := by
  obtain ⟨mk, methM, hnamed, hmethM, hstM, habM⟩ := Cond.instanceMethod_spec hinst
  obtain ⟨methM', cM, hmethM', -, -, -, -, -, -, hsigM⟩ := Cond.code_spec hnamed hcode
  cases hmethM.symm.trans hmethM'
  obtain ⟨c2, r2, m2, q1, q2, q3, q4, kP, hkP, hkPi⟩ := Cond.selects_spec hsel
  cases hcls.symm.trans q1
  cases (State.methodFound?_of_named hnamed hy).symm.trans q2
  cases hnamed.symm.trans q3
  have hselP : selectMethod e.platform s.vm cellB.cls mk = .method mk := by rw [Launch.admits_selectMethod X.admits]; exact q4
  obtain ⟨vm₁, X₁, hstep₁⟩ := X.invokevirtual hexec hown hlink hnamed hmethM hstM hkP hkPi hy (a := b) (cell := cellB) hcell
    (fun z h => by rw [h] at hobj; cases hobj) hselP hmethM habM hkP hkPi (g := g) hg (argsL := argsL) (rest := rest) (hlen _ hsigM) hstack hdg
  rcases hK m meth c ⟨T.setVm vm₁, locs, cells, slots⟩ { g with stack := rest } (.invokevirtual index) mk (Value.ref b :: argsL).toArray X₁ hg hsize hdg hW (X₁.named hnamed) (hpre vm₁ X₁.warmed) with ⟨v, B, X', hpost, hsteps⟩ | ⟨q, B, X', hpost, hsteps⟩
  · exact Or.inl ⟨v, vm₁, B, X₁.warmed, X', hpost, fun target h => hstep₁ _ fun acts => by rw [doInvoke_state]; exact hsteps.trans h⟩
  · exact Or.inr ⟨q, vm₁, B, X₁.warmed, X', hpost, hstep₁ _ fun acts => by rw [doInvoke_state]; exact hsteps⟩
theorem vx_callS (X : Stand p l e R s m args below meth c T locs cells slots) (hexec : p.tables.exec = Jvm.exec) {own : String} {index : Nat} {y : MethodName} {bytes : ByteArray} {maxL : Nat} {ret : Option FieldType}
    (hown : s.vm.findClass own = some m.cls) (hlink : (Cond.methodLink own index y).before args s = true) (hstat : (Cond.static y).before args s = true) (hinit : (Cond.initialized y.cls).before args s = true)
    (hcode : (Cond.code y bytes maxL ret).before args s = true) (hy : y.cls ≠ "java/lang/invoke/MethodHandle" ∧ y.cls ≠ "java/lang/invoke/VarHandle")
    {W9 : Nat} {Pre : Pt → Array Value → Prop} {Post : Pt → Array Value → Option Value → Pt → Prop} {PostX : Pt → Array Value → Addr → Pt → Prop} (hK : vx_Back l R p e below s args y 3 W9 Pre Post PostX)
    {g : JFrame} (hg : g.method = m) (hsize : g.locals.size = c.maxLocals) {argsL rest : List Value} (hlen : ∀ sig, parseMethodDescriptor y.desc = some sig → argsL.length = sig.parameters.length)
    (hstack : g.stack = argsL.reverse ++ rest) (hW : 2 * g.monitorRoom + (rest.map fun v => v.category).sum ≤ W9) (hdg : decode c.code g.pc = .ok (.invokestatic index, 3))
    (hpre : ∀ vm₁, s.WarmedH vm₁ → Pre ⟨T.setVm vm₁, locs, cells, slots⟩ argsL.toArray) :
    (∃ (v : Option Value) (vm₁ : Vm) (B : Pt), s.WarmedH vm₁ ∧ Stand p l e R s m args below meth c B.U B.locs B.cells B.slots ∧ Post ⟨T.setVm vm₁, locs, cells, slots⟩ argsL.toArray v B ∧
      ∀ target, Steps p.tables e below (B.U.setTop { g with pc := g.pc + 3, stack := v.toList ++ rest }) target → Steps p.tables e below (T.setTop g) target) ∨
    (∃ (q : Addr) (vm₁ : Vm) (B : Pt), s.WarmedH vm₁ ∧ Stand p l e R s m args below meth c B.U B.locs B.cells B.slots ∧ PostX ⟨T.setVm vm₁, locs, cells, slots⟩ argsL.toArray q B ∧
      Steps p.tables e below (T.setTop g) ((B.U.setTop { g with stack := rest }).pushFrame (.throwing q))) := by
  obtain ⟨mk, hnamed⟩ := Cond.code_named hcode
  obtain ⟨methM, cM, hmethM, -, -, -, -, -, -, hsigM⟩ := Cond.code_spec hnamed hcode
  have hstatic : methM.isStatic = true := Cond.static_spec hnamed hmethM hstat
  obtain ⟨kP, hkP, -⟩ := className_of_methodNamed hnamed
  have hinitP : kP.init = .initialized := Cond.initialized_spec (findClass_of_methodNamed hnamed) hkP hinit
  obtain ⟨vm₁, X₁, hstep₁⟩ := X.invokestatic hexec hown hlink hnamed hmethM hstatic hkP hinitP hy (g := g) hg (argsL := argsL) (rest := rest) (hlen _ hsigM) hstack hdg
  rcases hK m meth c ⟨T.setVm vm₁, locs, cells, slots⟩ { g with stack := rest } (.invokestatic index) mk argsL.toArray X₁ hg hsize hdg hW (X₁.named hnamed) (hpre vm₁ X₁.warmed) with ⟨v, B, X', hpost, hsteps⟩ | ⟨q, B, X', hpost, hsteps⟩
  · exact Or.inl ⟨v, vm₁, B, X₁.warmed, X', hpost, fun target h => hstep₁ _ fun acts => by rw [doInvoke_state]; exact hsteps.trans h⟩
  · exact Or.inr ⟨q, vm₁, B, X₁.warmed, X', hpost, hstep₁ _ fun acts => by rw [doInvoke_state]; exact hsteps⟩
end Calls
theorem vx_cls {s : State} {T : State} {vm₁ : Vm} {E : String} {k : ClassId} (hW : s.WarmedH vm₁) (h : (T.setVm vm₁).vm.findClass E = some k) : s.vm.findClass E = some k := by
  have h1 : vm₁.findClass E = some k := h
  rw [hW.alike.findClass] at h1
  exact h1
/-- the method's frame g, with q thrown over it -/
def vx_W (p : Program) (l : Launch) (e : Env) (R : Room) (s : State) (m : MethodId) (args : Array Value) (below : List Frame) (meth : Method) (c : Code) (H : Heap) (locs : List Loc) (cells slots : Nat) (Q : State → Prop) (g : JFrame) (q : Addr) : Prop :=
  ∀ T : State, T.heap = H → Stand p l e R s m args below meth c T locs cells slots → ∃ t, Steps p.tables e below ((T.setTop g).pushFrame (.throwing q)) t ∧ Q t
def vx_Run (p : Program) (l : Launch) (e : Env) (R : Room) (s : State) (m : MethodId) (args : Array Value) (below : List Frame) (meth : Method) (c : Code) (H : Heap) (locs : List Loc) (cells slots mc ms : Nat) (g : JFrame) (rest : List Value) (Qa : State → Outcome → State → Prop) (XC : String → State → State → Prop) (free : Addr → Prop) : Prop :=
  ∀ T : State, T.heap = H → Stand p l e R s m args below meth c T locs cells slots →
    (∃ (v : Option Value) (st₀ t T' : State) (L : List Loc), st₀.heap = H ∧ Stand p l e R s m args below meth c T' (locs ++ L) (cells + mc) (slots + ms) ∧ (∀ q ∈ L, free q.base) ∧ T'.heap = t.heap ∧ T'.vm = t.vm ∧ Qa st₀ (.returned v) t ∧
      Goes p e below T g T' { g with pc := g.pc + 3, stack := v.toList ++ rest }) ∨
    (∃ (q : Addr) (st₀ t T' : State) (L : List Loc) (E : String) (ce : Cell), st₀.heap = H ∧ Stand p l e R s m args below meth c T' (locs ++ L) (cells + mc) (slots + ms) ∧ (∀ z ∈ L, free z.base) ∧ T'.heap = t.heap ∧ T'.vm = t.vm ∧ XC E st₀ t ∧ t.heap[q]? = some ce ∧ ce.vm = .none ∧ s.vm.findClass E = some ce.cls ∧
      Steps p.tables e below (T.setTop g) ((T'.setTop { g with stack := rest }).pushFrame (.throwing q)))
def vx_X {S : Type} (px : S → Prop) (B : String → S → State → Prop) (A : Nat → Prop) : String → State → State → Prop := fun E st t => ∃ u : S, px u ∧ B E u t ∧ va_F A st t
section Runs
variable {p : Program} {l : Launch} {e : Env} {R : Room} {s : State} {m : MethodId} {args : Array Value} {below : List Frame} {meth : Method} {c : Code} {H : Heap} {locs : List Loc} {cells slots : Nat}
variable {y : MethodName} {bytes cc : ByteArray} {maxL nL mc ms n index : Nat} {ret : Option FieldType} {ws : List Cond} {rm : Room} {Pc : Array Value → State → Prop} {Qc : Array Value → State → Outcome → State → Prop} {XC : String → State → State → Prop} {free : Addr → Prop} {Ts : List Cond} {own C : String} {b : Addr} {As rest : List Value} {g : JFrame}
theorem vx_callBack (cb : CallB R s args own index y bytes maxL ret ws rm mc ms n) (hM : vx_Met l y ws rm Pc Qc XC mc ms free) (hbl : FrameBlind Pc) : vx_Back l R p e below s args y 3 8 (PreOf R mc ms Pc) (PostOf Qc mc ms free) (vx_Post XC mc ms free) := by
  obtain ⟨hrc, hrs, hfr, hlo, hws, hcw, -, hini, -⟩ := cb
  exact vx_back (bytes := bytes) (maxL := maxL) (ret := ret) hM hbl hrc hrs hfr hlo hws hcw (fun a' U hW => word_at hW (Or.inl (by first | rfl | simp [Cond.onTables, Cond.keeps, Cond.steady])) hini)
theorem vx_runV (S : CallFix p m c cc nL s args Ts own) (hM : vx_Met l y ws rm Pc Qc XC mc ms free) (cw : CallW R s args own C index y bytes maxL ret ws rm mc ms n) (hp : PreV s H C b Pc As)
    (hg : g.method = m) (hn : As.length = n) (hsize : g.locals.size = nL) (hstack : g.stack = As.reverse ++ .ref b :: rest) (hW : 2 * g.monitorRoom + (rest.map fun v => v.category).sum ≤ 8) (hdg : decode cc g.pc = .ok (.invokevirtual index, 3)) (hf : cells + mc ≤ R.cells ∧ slots + ms ≤ R.slots) :
    vx_Run p l e R s m args below meth c H locs cells slots mc ms g rest (Qc (Value.ref b :: As).toArray) XC free := by
  have hK : vx_Back l R p e below s args y 3 8 (PreOf R mc ms Pc) (PostOf Qc mc ms free) (vx_Post XC mc ms free) := vx_callBack cw.1 hM hp.1
  obtain ⟨⟨-, -, -, -, -, -, hcode, -, hy, hlen, hl⟩, hin, hse⟩ := cw
  obtain ⟨hx, hb, hml, ho, -⟩ := S
  obtain ⟨-, ⟨cellB, hcB, hoB, hclB⟩, hPc⟩ := hp
  intro T hT X
  rcases vx_callV X hx (C := C) (bytes := bytes) (maxL := maxL) (ret := ret) ho hl hin hse hcode hy hK (by rw [hT]; exact hcB) hoB hclB hg (hsize.trans hml.symm) (argsL := As) (rest := rest) (fun sig h => hn.trans (hlen sig h)) hstack hW (by rw [hb]; exact hdg)
    (fun vm₁ hW₁ => ⟨hf.1, hf.2, hPc (T.setVm vm₁) hT hW₁⟩) with ⟨v, vm₁, ⟨U', l2, c2, s2⟩, hW₁, X', ⟨g', mk, t, L, e1, e2, hq, h1, hL, h2, h3⟩, st⟩ | ⟨q, vm₁, ⟨U', l2, c2, s2⟩, hW₁, X', ⟨g', mk, t, L, E, ce, e1, e2, hq, hce, hcv, hcl, h1, hL, h2, h3⟩, st⟩
  · dsimp only [Pt.U, Pt.locs, Pt.cells, Pt.slots] at X' e1 e2 h1 h2 h3 st
    subst h1; subst h2; subst h3
    exact Or.inl ⟨v, (T.setVm vm₁).calling g' mk (Value.ref b :: As).toArray, t, U', L, hT, X', hL, e1, e2, hq, st⟩
  · dsimp only [Pt.U, Pt.locs, Pt.cells, Pt.slots] at X' e1 e2 h1 h2 h3 st hcl
    subst h1; subst h2; subst h3
    exact Or.inr ⟨q, (T.setVm vm₁).calling g' mk (Value.ref b :: As).toArray, t, U', L, E, ce, hT, X', hL, e1, e2, hq, hce, hcv, vx_cls hW₁ hcl, st⟩
theorem vx_runS (S : CallFix p m c cc nL s args Ts own) (hM : vx_Met l y ws rm Pc Qc XC mc ms free) (cw : CallB R s args own index y bytes maxL ret ws rm mc ms n ∧ (Cond.static y).before args s = true) (hp : PreS s H Pc As)
    (hg : g.method = m) (hn : As.length = n) (hsize : g.locals.size = nL) (hstack : g.stack = As.reverse ++ rest) (hW : 2 * g.monitorRoom + (rest.map fun v => v.category).sum ≤ 8) (hdg : decode cc g.pc = .ok (.invokestatic index, 3)) (hf : cells + mc ≤ R.cells ∧ slots + ms ≤ R.slots) :
    vx_Run p l e R s m args below meth c H locs cells slots mc ms g rest (Qc As.toArray) XC free := by
  have hK : vx_Back l R p e below s args y 3 8 (PreOf R mc ms Pc) (PostOf Qc mc ms free) (vx_Post XC mc ms free) := vx_callBack cw.1 hM hp.1
  obtain ⟨⟨-, -, -, -, -, -, hcode, hini, hy, hlen, hl⟩, hstt⟩ := cw
  obtain ⟨hx, hb, hml, ho, -⟩ := S
  intro T hT X
  rcases vx_callS X hx (bytes := bytes) (maxL := maxL) (ret := ret) ho hl hstt hini hcode hy hK hg (hsize.trans hml.symm) (argsL := As) (rest := rest) (fun sig h => hn.trans (hlen sig h)) hstack hW (by rw [hb]; exact hdg)
    (fun vm₁ hW₁ => ⟨hf.1, hf.2, hp.2 (T.setVm vm₁) hT hW₁⟩) with ⟨v, vm₁, ⟨U', l2, c2, s2⟩, hW₁, X', ⟨g', mk, t, L, e1, e2, hq, h1, hL, h2, h3⟩, st⟩ | ⟨q, vm₁, ⟨U', l2, c2, s2⟩, hW₁, X', ⟨g', mk, t, L, E, ce, e1, e2, hq, hce, hcv, hcl, h1, hL, h2, h3⟩, st⟩
  · dsimp only [Pt.U, Pt.locs, Pt.cells, Pt.slots] at X' e1 e2 h1 h2 h3 st
    subst h1; subst h2; subst h3
    exact Or.inl ⟨v, (T.setVm vm₁).calling g' mk As.toArray, t, U', L, hT, X', hL, e1, e2, hq, st⟩
  · dsimp only [Pt.U, Pt.locs, Pt.cells, Pt.slots] at X' e1 e2 h1 h2 h3 st hcl
    subst h1; subst h2; subst h3
    exact Or.inr ⟨q, (T.setVm vm₁).calling g' mk As.toArray, t, U', L, E, ce, hT, X', hL, e1, e2, hq, hce, hcv, vx_cls hW₁ hcl, st⟩
end Runs
section Rows
variable {p : Program} {l : Launch} {e : Env} {R : Room} {s : State} {m : MethodId} {args : Array Value} {below : List Frame} {meth : Method} {c : Code} {H : Heap} {locs : List Loc} {cells slots : Nat} {Q : State → Prop}
variable {mc ms : Nat} {free : Addr → Prop} {A0 A1 : Nat → Prop} {H0 : Heap} {a : Array Value} {pc : Nat} {ls : Array Slot} {st0 rest : List Value}
theorem vx_keep {st₀ t T' : State} {L : List Loc} (h0 : st₀.heap = H) (e1 : T'.heap = t.heap) (hS : va_S A0 H0 H locs) (hA : ∀ q, q < H.size → A1 q → A0 q) (hf : ∀ q, free q → A0 q) (hL : ∀ q ∈ L, free q.base) (hF : va_F A1 st₀ t) :
    H.size ≤ T'.heap.size ∧ (∀ q : Nat, q < H.size → ¬ A1 q → T'.heap[q]? = H[q]?) ∧ va_S A0 H0 T'.heap (locs ++ L) := by
  obtain ⟨hz, hk⟩ := hF
  rw [h0] at hz hk
  exact ⟨by rw [e1]; exact hz, fun q h1 h2 => by rw [e1]; exact hk q h1 h2,
    ⟨Nat.le_trans hS.1 (by rw [e1]; exact hz), fun q h1 h2 => by rw [e1, hk q (Nat.lt_of_lt_of_le h1 hS.1) (fun z => h2 (hA q (Nat.lt_of_lt_of_le h1 hS.1) z))]; exact hS.2.1 q h1 h2, fun q hq => by
      rcases List.mem_append.mp hq with h | h
      · exact hS.2.2 q h
      · exact hf _ (hL q h)⟩⟩
theorem vx_calli {S SX : Type} {post : Int32 → S → Prop} {px : SX → Prop} {B : S → State → Prop} {BX : String → SX → State → Prop} {AX : Nat → Prop} (hr : vx_Run p l e R s m args below meth c H locs cells slots mc ms (F0 m pc ls st0) rest (va_Qi post B A1 a) (vx_X px BX AX) free) (hS : va_S A0 H0 H locs) (hA : ∀ q, q < H.size → A1 q → A0 q) (hf : ∀ q, free q → A0 q) (hAX : ∀ q, q < H.size → AX q → A0 q)
    (kx : ∀ (E : String) (ce : Cell) (q9 : Addr) (u : SX) (t : State) (H1 : Heap) (locs1 : List Loc), t.heap = H1 → s.vm.Alike t.vm → px u → BX E u t → H.size ≤ H1.size → (∀ q : Nat, q < H.size → ¬ AX q → H1[q]? = H[q]?) → va_S A0 H0 H1 locs1 → H1[q9]? = some ce → ce.vm = .none → s.vm.findClass E = some ce.cls → vx_W p l e R s m args below meth c H1 locs1 (cells + mc) (slots + ms) Q (F0 m pc ls rest) q9)
    (kk : ∀ (r : Int32) (u : S) (t : State) (H1 : Heap) (locs1 : List Loc), t.heap = H1 → s.vm.Alike t.vm → post r u → B u t → H.size ≤ H1.size → (∀ q : Nat, q < H.size → ¬ A1 q → H1[q]? = H[q]?) → va_S A0 H0 H1 locs1 → W p l e R s m args below meth c H1 locs1 (cells + mc) (slots + ms) Q (F0 m (pc + 3) ls (.int r :: rest))) : W p l e R s m args below meth c H locs cells slots Q (F0 m pc ls st0) := by
  intro T hT X
  rcases hr T hT X with ⟨v, st₀, t, T', L, h0, X', hL, e1, e2, ⟨⟨r, u, hv, hp, hb⟩, hF⟩, st⟩ | ⟨q, st₀, t, T', L, E, ce, h0, X', hL, e1, e2, ⟨u, hp, hb, hF⟩, hce, hcv, hcl, st⟩
  · cases hv
    obtain ⟨k1, k2, k3⟩ := vx_keep h0 e1 hS hA hf hL hF
    obtain ⟨t2, a1, b1⟩ := kk r u t T'.heap (locs ++ L) e1.symm (by rw [← e2]; exact X'.warmed.alike) hp hb k1 k2 k3 T' rfl X'
    exact ⟨t2, st t2 a1, b1⟩
  · obtain ⟨k1, k2, k3⟩ := vx_keep h0 e1 hS hAX hf hL hF
    obtain ⟨t2, a1, b1⟩ := kx E ce q u t T'.heap (locs ++ L) e1.symm (by rw [← e2]; exact X'.warmed.alike) hp hb k1 k2 k3 (by rw [e1]; exact hce) hcv hcl T' rfl X'
    exact ⟨t2, st.trans a1, b1⟩
theorem vx_calll {S SX : Type} {post : Int64 → S → Prop} {px : SX → Prop} {B : S → State → Prop} {BX : String → SX → State → Prop} {AX : Nat → Prop} (hr : vx_Run p l e R s m args below meth c H locs cells slots mc ms (F0 m pc ls st0) rest (va_Ql post B A1 a) (vx_X px BX AX) free) (hS : va_S A0 H0 H locs) (hA : ∀ q, q < H.size → A1 q → A0 q) (hf : ∀ q, free q → A0 q) (hAX : ∀ q, q < H.size → AX q → A0 q)
    (kx : ∀ (E : String) (ce : Cell) (q9 : Addr) (u : SX) (t : State) (H1 : Heap) (locs1 : List Loc), t.heap = H1 → s.vm.Alike t.vm → px u → BX E u t → H.size ≤ H1.size → (∀ q : Nat, q < H.size → ¬ AX q → H1[q]? = H[q]?) → va_S A0 H0 H1 locs1 → H1[q9]? = some ce → ce.vm = .none → s.vm.findClass E = some ce.cls → vx_W p l e R s m args below meth c H1 locs1 (cells + mc) (slots + ms) Q (F0 m pc ls rest) q9)
    (kk : ∀ (r : Int64) (u : S) (t : State) (H1 : Heap) (locs1 : List Loc), t.heap = H1 → s.vm.Alike t.vm → post r u → B u t → H.size ≤ H1.size → (∀ q : Nat, q < H.size → ¬ A1 q → H1[q]? = H[q]?) → va_S A0 H0 H1 locs1 → W p l e R s m args below meth c H1 locs1 (cells + mc) (slots + ms) Q (F0 m (pc + 3) ls (.long r :: rest))) : W p l e R s m args below meth c H locs cells slots Q (F0 m pc ls st0) := by
  intro T hT X
  rcases hr T hT X with ⟨v, st₀, t, T', L, h0, X', hL, e1, e2, ⟨⟨r, u, hv, hp, hb⟩, hF⟩, st⟩ | ⟨q, st₀, t, T', L, E, ce, h0, X', hL, e1, e2, ⟨u, hp, hb, hF⟩, hce, hcv, hcl, st⟩
  · cases hv
    obtain ⟨k1, k2, k3⟩ := vx_keep h0 e1 hS hA hf hL hF
    obtain ⟨t2, a1, b1⟩ := kk r u t T'.heap (locs ++ L) e1.symm (by rw [← e2]; exact X'.warmed.alike) hp hb k1 k2 k3 T' rfl X'
    exact ⟨t2, st t2 a1, b1⟩
  · obtain ⟨k1, k2, k3⟩ := vx_keep h0 e1 hS hAX hf hL hF
    obtain ⟨t2, a1, b1⟩ := kx E ce q u t T'.heap (locs ++ L) e1.symm (by rw [← e2]; exact X'.warmed.alike) hp hb k1 k2 k3 (by rw [e1]; exact hce) hcv hcl T' rfl X'
    exact ⟨t2, st.trans a1, b1⟩
theorem vx_callf {S SX : Type} {post : UInt32 → S → Prop} {px : SX → Prop} {B : S → State → Prop} {BX : String → SX → State → Prop} {AX : Nat → Prop} (hr : vx_Run p l e R s m args below meth c H locs cells slots mc ms (F0 m pc ls st0) rest (va_Qf post B A1 a) (vx_X px BX AX) free) (hS : va_S A0 H0 H locs) (hA : ∀ q, q < H.size → A1 q → A0 q) (hf : ∀ q, free q → A0 q) (hAX : ∀ q, q < H.size → AX q → A0 q)
    (kx : ∀ (E : String) (ce : Cell) (q9 : Addr) (u : SX) (t : State) (H1 : Heap) (locs1 : List Loc), t.heap = H1 → s.vm.Alike t.vm → px u → BX E u t → H.size ≤ H1.size → (∀ q : Nat, q < H.size → ¬ AX q → H1[q]? = H[q]?) → va_S A0 H0 H1 locs1 → H1[q9]? = some ce → ce.vm = .none → s.vm.findClass E = some ce.cls → vx_W p l e R s m args below meth c H1 locs1 (cells + mc) (slots + ms) Q (F0 m pc ls rest) q9)
    (kk : ∀ (r : UInt32) (u : S) (t : State) (H1 : Heap) (locs1 : List Loc), t.heap = H1 → s.vm.Alike t.vm → post r u → B u t → H.size ≤ H1.size → (∀ q : Nat, q < H.size → ¬ A1 q → H1[q]? = H[q]?) → va_S A0 H0 H1 locs1 → W p l e R s m args below meth c H1 locs1 (cells + mc) (slots + ms) Q (F0 m (pc + 3) ls (.float r :: rest))) : W p l e R s m args below meth c H locs cells slots Q (F0 m pc ls st0) := by
  intro T hT X
  rcases hr T hT X with ⟨v, st₀, t, T', L, h0, X', hL, e1, e2, ⟨⟨r, u, hv, hp, hb⟩, hF⟩, st⟩ | ⟨q, st₀, t, T', L, E, ce, h0, X', hL, e1, e2, ⟨u, hp, hb, hF⟩, hce, hcv, hcl, st⟩
  · cases hv
    obtain ⟨k1, k2, k3⟩ := vx_keep h0 e1 hS hA hf hL hF
    obtain ⟨t2, a1, b1⟩ := kk r u t T'.heap (locs ++ L) e1.symm (by rw [← e2]; exact X'.warmed.alike) hp hb k1 k2 k3 T' rfl X'
    exact ⟨t2, st t2 a1, b1⟩
  · obtain ⟨k1, k2, k3⟩ := vx_keep h0 e1 hS hAX hf hL hF
    obtain ⟨t2, a1, b1⟩ := kx E ce q u t T'.heap (locs ++ L) e1.symm (by rw [← e2]; exact X'.warmed.alike) hp hb k1 k2 k3 (by rw [e1]; exact hce) hcv hcl T' rfl X'
    exact ⟨t2, st.trans a1, b1⟩
theorem vx_calld {S SX : Type} {post : UInt64 → S → Prop} {px : SX → Prop} {B : S → State → Prop} {BX : String → SX → State → Prop} {AX : Nat → Prop} (hr : vx_Run p l e R s m args below meth c H locs cells slots mc ms (F0 m pc ls st0) rest (va_Qd post B A1 a) (vx_X px BX AX) free) (hS : va_S A0 H0 H locs) (hA : ∀ q, q < H.size → A1 q → A0 q) (hf : ∀ q, free q → A0 q) (hAX : ∀ q, q < H.size → AX q → A0 q)
    (kx : ∀ (E : String) (ce : Cell) (q9 : Addr) (u : SX) (t : State) (H1 : Heap) (locs1 : List Loc), t.heap = H1 → s.vm.Alike t.vm → px u → BX E u t → H.size ≤ H1.size → (∀ q : Nat, q < H.size → ¬ AX q → H1[q]? = H[q]?) → va_S A0 H0 H1 locs1 → H1[q9]? = some ce → ce.vm = .none → s.vm.findClass E = some ce.cls → vx_W p l e R s m args below meth c H1 locs1 (cells + mc) (slots + ms) Q (F0 m pc ls rest) q9)
    (kk : ∀ (r : UInt64) (u : S) (t : State) (H1 : Heap) (locs1 : List Loc), t.heap = H1 → s.vm.Alike t.vm → post r u → B u t → H.size ≤ H1.size → (∀ q : Nat, q < H.size → ¬ A1 q → H1[q]? = H[q]?) → va_S A0 H0 H1 locs1 → W p l e R s m args below meth c H1 locs1 (cells + mc) (slots + ms) Q (F0 m (pc + 3) ls (.double r :: rest))) : W p l e R s m args below meth c H locs cells slots Q (F0 m pc ls st0) := by
  intro T hT X
  rcases hr T hT X with ⟨v, st₀, t, T', L, h0, X', hL, e1, e2, ⟨⟨r, u, hv, hp, hb⟩, hF⟩, st⟩ | ⟨q, st₀, t, T', L, E, ce, h0, X', hL, e1, e2, ⟨u, hp, hb, hF⟩, hce, hcv, hcl, st⟩
  · cases hv
    obtain ⟨k1, k2, k3⟩ := vx_keep h0 e1 hS hA hf hL hF
    obtain ⟨t2, a1, b1⟩ := kk r u t T'.heap (locs ++ L) e1.symm (by rw [← e2]; exact X'.warmed.alike) hp hb k1 k2 k3 T' rfl X'
    exact ⟨t2, st t2 a1, b1⟩
  · obtain ⟨k1, k2, k3⟩ := vx_keep h0 e1 hS hAX hf hL hF
    obtain ⟨t2, a1, b1⟩ := kx E ce q u t T'.heap (locs ++ L) e1.symm (by rw [← e2]; exact X'.warmed.alike) hp hb k1 k2 k3 (by rw [e1]; exact hce) hcv hcl T' rfl X'
    exact ⟨t2, st.trans a1, b1⟩
theorem vx_callv {S SX : Type} {post : S → Prop} {px : SX → Prop} {B : S → State → Prop} {BX : String → SX → State → Prop} {AX : Nat → Prop} (hr : vx_Run p l e R s m args below meth c H locs cells slots mc ms (F0 m pc ls st0) rest (va_Qv post B A1 a) (vx_X px BX AX) free) (hS : va_S A0 H0 H locs) (hA : ∀ q, q < H.size → A1 q → A0 q) (hf : ∀ q, free q → A0 q) (hAX : ∀ q, q < H.size → AX q → A0 q)
    (kx : ∀ (E : String) (ce : Cell) (q9 : Addr) (u : SX) (t : State) (H1 : Heap) (locs1 : List Loc), t.heap = H1 → s.vm.Alike t.vm → px u → BX E u t → H.size ≤ H1.size → (∀ q : Nat, q < H.size → ¬ AX q → H1[q]? = H[q]?) → va_S A0 H0 H1 locs1 → H1[q9]? = some ce → ce.vm = .none → s.vm.findClass E = some ce.cls → vx_W p l e R s m args below meth c H1 locs1 (cells + mc) (slots + ms) Q (F0 m pc ls rest) q9)
    (kk : ∀ (u : S) (t : State) (H1 : Heap) (locs1 : List Loc), t.heap = H1 → s.vm.Alike t.vm → post u → B u t → H.size ≤ H1.size → (∀ q : Nat, q < H.size → ¬ A1 q → H1[q]? = H[q]?) → va_S A0 H0 H1 locs1 → W p l e R s m args below meth c H1 locs1 (cells + mc) (slots + ms) Q (F0 m (pc + 3) ls (rest))) : W p l e R s m args below meth c H locs cells slots Q (F0 m pc ls st0) := by
  intro T hT X
  rcases hr T hT X with ⟨v, st₀, t, T', L, h0, X', hL, e1, e2, ⟨⟨u, hv, hp, hb⟩, hF⟩, st⟩ | ⟨q, st₀, t, T', L, E, ce, h0, X', hL, e1, e2, ⟨u, hp, hb, hF⟩, hce, hcv, hcl, st⟩
  · cases hv
    obtain ⟨k1, k2, k3⟩ := vx_keep h0 e1 hS hA hf hL hF
    obtain ⟨t2, a1, b1⟩ := kk u t T'.heap (locs ++ L) e1.symm (by rw [← e2]; exact X'.warmed.alike) hp hb k1 k2 k3 T' rfl X'
    exact ⟨t2, st t2 a1, b1⟩
  · obtain ⟨k1, k2, k3⟩ := vx_keep h0 e1 hS hAX hf hL hF
    obtain ⟨t2, a1, b1⟩ := kx E ce q u t T'.heap (locs ++ L) e1.symm (by rw [← e2]; exact X'.warmed.alike) hp hb k1 k2 k3 (by rw [e1]; exact hce) hcv hcl T' rfl X'
    exact ⟨t2, st.trans a1, b1⟩
/-- caught by the row x of this method's table; the rows ahead don't take it -/
theorem vx_catch {own name : String} {E : String} {ce : Cell} {q : Addr} (hown : s.vm.findClass own = some m.cls) (pre : List ExceptionTableEntry) (x : ExceptionTableEntry) (suf : List ExceptionTableEntry) (hsplit : c.exceptionTable.toList = pre ++ x :: suf)
    (hpass : ∀ z ∈ pre, covers z pc = false ∨ (z.catchType ≠ 0 ∧ ∃ nm : String, (Cond.classLink own z.catchType nm).before args s = true ∧ va_Nc E nm s)) (hx : covers x pc = true) (h0 : x.catchType ≠ 0)
    (hlink : (Cond.classLink own x.catchType name).before args s = true) (hcast : (Cond.castable E name).before args s = true) (hcell : H[q]? = some ce) (hv : ce.vm = .none) (hcl : s.vm.findClass E = some ce.cls)
    (kk : W p l e R s m args below meth c H locs cells slots Q (F0 m x.handlerPc ls [.ref q])) : vx_W p l e R s m args below meth c H locs cells slots Q (F0 m pc ls rest) q := by
  intro T hT X
  have hpl : e.platform.magicAccessors = ({} : Platform).magicAccessors := by rw [X.admits.platform]
  obtain ⟨c3, c4, hc3, hc4, hasg⟩ := Cond.castable_spec hcast
  cases Option.some.inj (hc3.symm.trans hcl)
  obtain ⟨c5, hc5, hcl5⟩ := Cond.classLink_spec hown hlink e.platform hpl
  cases Option.some.inj (hc4.symm.trans hc5)
  obtain ⟨vm', X', st⟩ := X.thenCaughtThrough q (g := F0 m pc ls rest) rfl (Steps.refl _) (by rw [hT]; exact hcell) (by rw [hv]; rfl) (by obtain ⟨k9, h9, -⟩ := Vm.findClass_spec hcl; exact ⟨k9, h9⟩) pre x suf hsplit
    (fun z hz => by
      rcases hpass z hz with h | ⟨hz0, nm, hl1, hn1⟩
      · exact Or.inl h
      · obtain ⟨c6, hc6, hcl6⟩ := Cond.classLink_spec hown hl1 e.platform hpl
        obtain ⟨a8, b8, h1, h2, h3⟩ := hn1
        cases Option.some.inj (h1.symm.trans hcl)
        cases Option.some.inj (h2.symm.trans hc6)
        exact Or.inr ⟨hz0, _, hcl6, h3⟩) hx (Or.inr ⟨h0, c4, hcl5, hasg⟩)
  obtain ⟨t, a1, b1⟩ := kk (T.setVm vm') hT X'
  exact ⟨t, st.trans a1, b1⟩
end Rows
section Ends
variable {p : Program} {l : Launch} {e : Env} {R : Room} {s : State} {m : MethodId} {args : Array Value} {below : List Frame} {meth : Method} {c : Code} {H : Heap} {locs : List Loc} {cells slots : Nat} {Q : State → Prop}
variable {mc ms : Nat} {free : Addr → Prop} {A0 A1 : Nat → Prop} {H0 : Heap} {a : Array Value} {ls : Array Slot} {st0 rest : List Value}
variable {Qc : Array Value → State → Outcome → State → Prop} {XC : String → State → State → Prop}
/-- what a body that may throw owes at its end -/
def vx_MQ (below : List Frame) (Qc : Array Value → State → Outcome → State → Prop) (XC : String → State → State → Prop) (a : Array Value) (s : State) (mc ms : Nat) (free : Addr → Prop) : State → Prop := fun t =>
  ∃ o, t.status = .running ∧ Ended t below o ∧ vx_Q Qc XC mc ms free a s o t
theorem vx_ret {g : JFrame} {mc ms : Nat} (k : W p l e R s m args below meth c H locs cells slots (MQ below Qc args s mc ms free) g) : W p l e R s m args below meth c H locs cells slots (vx_MQ below Qc XC args s mc ms free) g := by
  intro T hT X
  obtain ⟨t, a1, o, b1, b2, b3, b4⟩ := k T hT X
  exact ⟨t, a1, o, b1, b2, Or.inl ⟨b3, b4⟩⟩
/-- not caught here: it goes on to the caller -/
theorem vx_widen {g : JFrame} {q : Addr} {k n : Nat} (h1 : cells ≤ k) (h2 : slots ≤ n) (kk : vx_W p l e R s m args below meth c H locs k n Q g q) : vx_W p l e R s m args below meth c H locs cells slots Q g q := fun T hT X => kk T hT (stand_widen X h1 h2)
theorem vx_out {pc : Nat} {E : String} {ce : Cell} {q : Addr} {mc ms : Nat} (hout : ∀ x ∈ c.exceptionTable.toList, covers x pc = false) (hlocks : meth.locks = false) (hcell : H[q]? = some ce) (hv : ce.vm = .none) (hcl : s.vm.findClass E = some ce.cls)
    (hx : ∀ t : State, t.heap = H → s.vm.Alike t.vm → XC E s t) (hf : ∀ z ∈ locs, free z.base) (hc : cells ≤ mc) (hs : slots ≤ ms) :
    vx_W p l e R s m args below meth c H locs cells slots (vx_MQ below Qc XC args s mc ms free) (F0 m pc ls rest) q := by
  intro T hT X
  obtain ⟨st1, hrun, hend, hW, hsm⟩ := X.leaveThrown q (g := F0 m pc ls rest) rfl rfl rfl hout hlocks
  have hcell9 : (T.setFrames (.throwing q :: below)).heap[q]? = some ce := by
    show T.heap[q]? = some ce
    rw [hT]; exact hcell
  exact ⟨_, st1, .threw q, hrun, hend, Or.inr ⟨q, rfl, E, ce, locs, hx _ hT hW.alike, hcell9, hv, hcl, hW, hsm.mono hc hs, hf⟩⟩
theorem vx_frame {U : State} {k n : Nat} (h : s.sameButNew ({ U with vm := s.vm } : State) locs k n) : s.heap.size ≤ U.heap.size ∧ ∀ q : Nat, q < s.heap.size → (∀ z ∈ locs, z.base ≠ q) → U.heap[q]? = s.heap[q]? := by
  obtain ⟨-, h2, -, -, -, h6⟩ := h
  refine ⟨h2, fun q hq hz => ?_⟩
  obtain ⟨c9, e1, e2, e3, e4⟩ := h6 q _ (Array.getElem?_eq_getElem hq)
  have hs : c9.slots = (s.heap[q]).slots := Array.ext_getElem? fun i => e4 i fun hm => hz _ hm rfl
  have h9 : c9 = s.heap[q] := by
    rw [hs] at e2
    exact e2
  have e5 : U.heap[q]? = some c9 := e1
  rw [e5, h9, Array.getElem?_eq_getElem hq]
/-- the words of a throw but the four that speak of the heap -/
def vx_no (w : Cond) : Bool := decide (w ≠ .isRef (.static Bundle.tN "UNASSIGNED_STACK" Bundle.steD)) && decide (w ≠ .isRef (.static Bundle.tN "SUPPRESSED_SENTINEL" Bundle.listD)) && decide (w ≠ .laysStatic Bundle.tN "UNASSIGNED_STACK" Bundle.steD) && decide (w ≠ .laysStatic Bundle.tN "SUPPRESSED_SENTINEL" Bundle.listD)
def vx_at0 (own : String) (ic : Nat) (X : String) (names : List String) : List Cond := (Bundle.ownAtoms0 own ic X names).filter vx_no
def vx_atS (own : String) (ic : Nat) (X : String) (names : List String) : List Cond := (Bundle.ownAtoms own ic X names).filter vx_no
/-- a word that the tables alone decide, or a good one -/
def vx_ot (w : Cond) : Bool := w.onTables || goodWord w
theorem vx_ot_at {args a' : Array Value} {s U : State} {w : Cond} (hW : s.WarmedH U.vm) (hvm : s.vm = U.vm) (hg : vx_ot w = true) (h : w.before args s = true) : w.before a' U = true := by
  simp only [vx_ot, Bool.or_eq_true] at hg
  rcases hg with hg | hg
  · exact va_tabs hg hvm h
  · exact word_at hW (good_of_word hg) h
/-- a list's words: the good ones out of the method's own list, the others by premises of their own -/
theorem vx_hat {args : Array Value} {s : State} {L B : List Cond} (h1 : ∀ w ∈ L.filter goodWord, w.before args s = true) (h2 : ∀ w ∈ L.filter (fun w => !goodWord w), w ∈ B) (h3 : ∀ w ∈ B, w.before args s = true) : ∀ w ∈ L, w.before args s = true := by
  intro w hw
  by_cases g : goodWord w = true
  · exact h1 w (List.mem_filter.mpr ⟨hw, g⟩)
  · refine h3 w (h2 w (List.mem_filter.mpr ⟨hw, ?_⟩))
    show (!goodWord w) = true
    cases hgw : goodWord w
    · rfl
    · exact absurd hgw g
theorem vx_c {args : Array Value} {s : State} {w : Cond} {B : List Cond} (h : w.before args s = true) (t : ∀ w ∈ B, w.before args s = true) : ∀ w' ∈ w :: B, w'.before args s = true := fun w' h' => (List.mem_cons.mp h').elim (fun e => by rw [e]; exact h) (t w')
theorem vx_n {args : Array Value} {s : State} : ∀ w ∈ ([] : List Cond), w.before args s = true := fun _ h => nomatch h
theorem vx_own {args : Array Value} {s : State} {L : List Cond} (h1 : ∀ w ∈ L.filter vx_no, w.before args s = true)
    (hU : (Cond.isRef (.static Bundle.tN "UNASSIGNED_STACK" Bundle.steD)).before args s = true) (hN : (Cond.isRef (.static Bundle.tN "SUPPRESSED_SENTINEL" Bundle.listD)).before args s = true)
    (lU : (Cond.laysStatic Bundle.tN "UNASSIGNED_STACK" Bundle.steD).before args s = true) (lN : (Cond.laysStatic Bundle.tN "SUPPRESSED_SENTINEL" Bundle.listD).before args s = true) : ∀ w ∈ L, w.before args s = true := by
  intro w hw
  by_cases e1 : w = .isRef (.static Bundle.tN "UNASSIGNED_STACK" Bundle.steD)
  · rw [e1]; exact hU
  · by_cases e2 : w = .isRef (.static Bundle.tN "SUPPRESSED_SENTINEL" Bundle.listD)
    · rw [e2]; exact hN
    · by_cases e3 : w = .laysStatic Bundle.tN "UNASSIGNED_STACK" Bundle.steD
      · rw [e3]; exact lU
      · by_cases e4 : w = .laysStatic Bundle.tN "SUPPRESSED_SENTINEL" Bundle.listD
        · rw [e4]; exact lN
        · exact h1 w (List.mem_filter.mpr ⟨hw, by unfold vx_no; rw [decide_eq_true e1, decide_eq_true e2, decide_eq_true e3, decide_eq_true e4]; rfl⟩)
/-- where a static field lies, its class's statics cell in H -/
def vx_L (C n d : String) (A : Nat → Prop) (U : State) (H : Heap) : Prop := ∃ (c : ClassId) (k : Class) (i : Nat) (f : Field) (a : Nat) (cell : Cell), U.vm.findClass C = some c ∧ U.fieldFound? C n d = some (c, k, i, f) ∧ f.isStatic = true ∧ k.statics = some a ∧ H[a]? = some cell ∧ cell.vm.isStatics = true ∧ cell.cls = c ∧ f.slot < cell.slots.size ∧ k.staticTypes[f.slot]? = some f.type ∧ ¬ A a
theorem vx_L.moved {C n d : String} {A : Nat → Prop} {u U : State} {H : Heap} (hvm : u.vm.Alike U.vm) (h : vx_L C n d A u H) : vx_L C n d A U H := by
  obtain ⟨c, k, i, f, a, cell, h1, h2, h3, h4, h5, h6, h7, h8, h9, h10⟩ := h
  obtain ⟨k', hi', he⟩ := State.fieldFound?_setVm hvm h2
  exact ⟨c, k', i, f, a, cell, by rw [hvm.findClass]; exact h1, hi', h3, by rw [he]; exact h4, h5, h6, h7, h8, by rw [he]; exact h9, h10⟩
theorem vx_L.kept {C n d : String} {A : Nat → Prop} {U : State} {H H1 : Heap} (h : vx_L C n d A U H) (hq : ∀ a : Nat, a < H.size → ¬ A a → H1[a]? = H[a]?) : vx_L C n d A U H1 := by
  obtain ⟨c, k, i, f, a, cell, h1, h2, h3, h4, h5, h6, h7, h8, h9, h10⟩ := h
  exact ⟨c, k, i, f, a, cell, h1, h2, h3, h4, by rw [hq a (Array.getElem?_eq_some_iff.mp h5).1 h10]; exact h5, h6, h7, h8, h9, h10⟩
theorem vx_L.narrow {C n d : String} {A B : Nat → Prop} {U : State} {H : Heap} (h : vx_L C n d A U H) (hAB : ∀ q, B q → A q) : vx_L C n d B U H := by
  obtain ⟨c, k, i, f, a, cell, h1, h2, h3, h4, h5, h6, h7, h8, h9, h10⟩ := h
  exact ⟨c, k, i, f, a, cell, h1, h2, h3, h4, h5, h6, h7, h8, h9, fun z => h10 (hAB _ z)⟩
theorem vx_L.word {C n d : String} {A : Nat → Prop} {s : State} {args : Array Value} (h : vx_L C n d A s s.heap) : (Cond.laysStatic C n d).before args s = true := by
  obtain ⟨c, k, i, f, a, cell, h1, h2, h3, h4, h5, h6, h7, h8, h9, -⟩ := h
  show (Cond.laysStatic C n d).holds args s none s [] = true
  exact Cond.laysStatic_of h1 h2 h3 h4 h5 h6 h7 h8 h9
/-- .. and what it holds: null or some reference -/
def vx_Zq (C n d : String) (A : Nat → Prop) (U : State) (H : Heap) : Prop := va_Zq C n d A U H ∧ vx_L C n d A U H
theorem vx_Zq.moved {C n d : String} {A : Nat → Prop} {u U : State} {H : Heap} (hvm : u.vm.Alike U.vm) (h : vx_Zq C n d A u H) : vx_Zq C n d A U H := ⟨va_Zq.moved hvm h.1, vx_L.moved hvm h.2⟩
theorem vx_Zq.kept {C n d : String} {A : Nat → Prop} {U : State} {H H1 : Heap} (h : vx_Zq C n d A U H) (hq : ∀ a : Nat, a < H.size → ¬ A a → H1[a]? = H[a]?) : vx_Zq C n d A U H1 := ⟨va_Zq.kept h.1 hq, vx_L.kept h.2 hq⟩
theorem vx_Zq.narrow {C n d : String} {A B : Nat → Prop} {U : State} {H : Heap} (h : vx_Zq C n d A U H) (hAB : ∀ q, B q → A q) : vx_Zq C n d B U H := ⟨va_Zq.narrow h.1 hAB, vx_L.narrow h.2 hAB⟩
theorem vx_Zqof {args : Array Value} {s : State} {C n d : String} {A : Nat → Prop} (hl : (Cond.laysStatic C n d).before args s = true) (hini : (Cond.initialized C).before args s = true) (h : (Cond.isRef (.static C n d)).before args s = true) (hA : ∀ a : Nat, a < s.heap.size → ¬ A a) : vx_Zq C n d A s s.heap := by
  refine ⟨va_Zqof hl hini h hA, ?_⟩
  obtain ⟨c, k, i, f, a, cell, h1, h2, h3, h4, h5, h6, h7, h8, h9⟩ := Cond.laysStatic_spec hl
  exact ⟨c, k, i, f, a, cell, h1, h2, h3, h4, h5, h6, h7, h8, h9, hA a (Array.getElem?_eq_some_iff.mp h5).1⟩
theorem vx_isRef {C n d : String} {v : Value} {A : Nat → Prop} {s : State} {args : Array Value} (h : va_Z C n d v A s s.heap) (hv : v.isRef = true) : (Cond.isRef (.static C n d)).before args s = true := by
  obtain ⟨cf, kf, fi, f, a, cell, h1, h2, h3, h4, h5, h6, h7, -⟩ := h
  have he : (Term.static C n d).eval args s none [] s = some v := by
    simp [Term.eval, State.fieldNamed?, h1, h2, h4, h5, h6, h7]
  simp only [Cond.before, Cond.holds, Cond.value, he]
  cases v <;> simp_all [Value.isRef]
theorem vx_isRefq {C n d : String} {A : Nat → Prop} {s : State} {args : Array Value} (h : va_Zq C n d A s s.heap) : (Cond.isRef (.static C n d)).before args s = true := by
  rcases h with h | ⟨t, h⟩
  · exact vx_isRef h rfl
  · exact vx_isRef h rfl
/-- the same frame, seen from here: as if the method were called anew in this heap -/
theorem vx_rebase {T : State} (X : Stand p l e R s m args below meth c T locs cells slots) {R' : Room} (hf : R'.frames ≤ R.frames) (hl : R'.locals ≤ R.locals) (hc : cells + R'.cells ≤ R.cells) (hs : slots + R'.slots ≤ R.slots) :
    Stand p l e R' ((T.setVm s.vm).setFrames (.invoking m args :: below)) m args below meth c T [] 0 0 := by
  have htop : (T.setVm s.vm).topJava?.isSome := X.here.top
  have hF : ((T.setVm s.vm).setFrames (.invoking m args :: below)).frames = .invoking m args :: below := State.frames_setFrames _ (State.cur_lt_of_top htop)
  obtain ⟨g₀, hg0⟩ := Option.isSome_iff_exists.mp htop
  obtain ⟨r, hr⟩ := State.topJava?_eq_some.mp hg0
  have hl9 : e.platform.stackLimits (T.setVm s.vm).me = e.platform.stackLimits s.me := X.limits
  have hb9 : (T.setVm s.vm).me.stackBytes = s.me.stackBytes := X.bytes
  refine ⟨X.admits, X.cas, X.clock, hF, ?_, X.hears, X.method, X.code, X.here, X.tail, X.warmed, ?_, ?_, ?_⟩
  · have h := X.room
    have hU : ((T.setVm s.vm).setFrames (.invoking m args :: below)).localsInUse = s.localsInUse := by
      rw [State.localsInUse_invoking hF (meth := meth) (c := c) X.method X.code, State.localsInUse_invoking X.frames X.method X.code]
    simp only [State.hasRoom, Bool.and_eq_true, decide_eq_true_eq] at h ⊢
    obtain ⟨⟨⟨⟨h1, h2, h3, h4, h5, h6⟩, h7⟩, h8⟩, h9⟩ := h
    rw [X.frames, List.length_cons] at h2 h3
    have q1 := X.heapSize
    have q2 := X.used
    simp only [hF, hU, List.length_cons, State.stackLimits_setFrames, State.stackBytes_setFrames, hl9, hb9]
    refine ⟨⟨⟨⟨by omega, by omega, by omega, by omega, by omega, h6⟩, ?_⟩, ?_⟩, X.book⟩
    · show T.heap.size + R'.cells ≤ e.platform.maxCells
      omega
    · show T.slotsUsed + R'.slots ≤ e.platform.maxSlots
      omega
  · rw [State.stackLimits_setFrames]; rfl
  · rw [State.stackBytes_setFrames]; rfl
  · refine ⟨?_, Nat.le_refl _, Nat.le_refl _, ?_, ?_, fun a c9 h9 => ⟨c9, h9, rfl, rfl, fun _ _ => rfl⟩⟩
    · obtain ⟨t, ht, -⟩ := State.frames_cons hr
      show T.setVm s.vm = { ((T.setVm s.vm).setFrames (.invoking m args :: below)).setFrames (T.setVm s.vm).frames with heap := T.heap, slotsUsed := T.slotsUsed }
      rw [State.setFrames_setFrames, State.setFrames_self ht]
      rfl
    · show T.slotsUsed = T.slotsUsed + ((T.heap.toList.drop T.heap.size).map (·.slots.size)).sum
      rw [List.drop_eq_nil_of_le (Nat.le_of_eq Array.length_toList)]
      rfl
    · show ((T.heap.toList.drop T.heap.size).map (·.slots.size)).sum ≤ 0
      rw [List.drop_eq_nil_of_le (Nat.le_of_eq Array.length_toList)]
      exact Nat.le_refl _
/-- 'throw new E()': new; dup; invokespecial; athrow -/
theorem vx_throw0 {cc : ByteArray} {pc : Nat} (hexec : p.tables.exec = Jvm.exec) (hb : c.code = cc) (hl : l.stackTraces = false) {own cls : String} {names : List String} {ik ic mc ms : Nat} {A : Nat → Prop}
    (hown : s.vm.findClass own = some m.cls) (hcls : Bundle.fit cls = true) (hnames : ∀ n ∈ names, Bundle.fit n = true)
    (hk : (Cond.classLink own ik cls).before args s = true) (hini : (Cond.initialized cls).before args s = true) (hat : ∀ w ∈ vx_at0 own ic cls names, w.before args s = true)
    (hgood : ∀ w ∈ Cond.classLink own ik cls :: Cond.initialized cls :: vx_at0 own ic cls names, vx_ot w = true)
    (hU : vx_Zq Bundle.tN "UNASSIGNED_STACK" Bundle.steD A s s.heap) (hN : vx_Zq Bundle.tN "SUPPRESSED_SENTINEL" Bundle.listD A s s.heap) (hS : va_S A s.heap H locs) (hsize : ls.size = c.maxLocals)
    (d0 : decode cc pc = .ok (.new ik, 3)) (d3 : decode cc (pc + 3) = .ok (.dup, 1)) (d4 : decode cc (pc + 4) = .ok (.invokespecial ic, 3)) (d7 : decode cc (pc + 7) = .ok (.athrow, 1))
    (hout : ∀ x ∈ c.exceptionTable.toList, covers x (pc + 7) = false)
    (hRframes : names.length + 3 < R.frames) (hRlocals : (rest.map fun v => v.category).sum + (13 * (names.length + 1) + 42) ≤ R.locals) (hRcells : cells + 1 ≤ R.cells) (hRslots : slots + 6 ≤ R.slots) (hlocks : meth.locks = false)
    (hx : ∀ t : State, s.vm.Alike t.vm → H.size ≤ t.heap.size → (∀ q : Nat, q < H.size → t.heap[q]? = H[q]?) → XC cls s t)
    (hf : ∀ z ∈ locs, free z.base) (hc : cells + 1 ≤ mc) (hs : slots + 6 ≤ ms) :
    W p l e R s m args below meth c H locs cells slots (vx_MQ below Qc XC args s mc ms free) (F0 m pc ls rest) := by
  intro T hT X
  have htr : e.platform.stackTraces = false := (show e.platform.stackTraces = l.stackTraces by rw [X.admits.platform]).trans hl
  have Y := vx_rebase X (R' := { frames := R.frames, locals := R.locals, cells := 1, slots := 6 }) (Nat.le_refl _) (Nat.le_refl _) hRcells hRslots
  obtain ⟨s', hA⟩ : ∃ z, z = (T.setVm s.vm).setFrames (.invoking m args :: below) := ⟨_, rfl⟩
  rw [← hA] at Y
  have hvm : s'.vm = s.vm := by rw [hA]; rfl
  have hhp : s'.heap = H := by rw [hA]; exact hT
  have hW0 : s.WarmedH s'.vm := by rw [hvm]; exact State.WarmedH.refl s
  have hat' : ∀ w ∈ vx_at0 own ic cls names, w.before args s' = true := fun w hw => vx_ot_at hW0 hvm.symm (hgood w (List.mem_cons_of_mem _ (List.mem_cons_of_mem _ hw))) (hat w hw)
  have hk' : (Cond.classLink own ik cls).before args s' = true := vx_ot_at hW0 hvm.symm (hgood _ List.mem_cons_self) hk
  have hini' : (Cond.initialized cls).before args s' = true := vx_ot_at hW0 hvm.symm (hgood _ (List.mem_cons_of_mem _ List.mem_cons_self)) hini
  have hU' : vx_Zq Bundle.tN "UNASSIGNED_STACK" Bundle.steD A s' s'.heap := by rw [hhp]; exact vx_Zq.moved hW0.alike (hU.kept hS.2.1)
  have hN' : vx_Zq Bundle.tN "SUPPRESSED_SENTINEL" Bundle.listD A s' s'.heap := by rw [hhp]; exact vx_Zq.moved hW0.alike (hN.kept hS.2.1)
  have h : ∀ w ∈ Bundle.ownAtoms0 own ic cls names, w.before args s' = true := vx_own hat' (vx_isRefq hU'.1) (vx_isRefq hN'.1) hU'.2.word hN'.2.word
  have hown' : s'.vm.findClass own = some m.cls := by rw [hvm]; exact hown
  have hins : (Cond.instantiable cls 6).before args s' = true := h _ (by simp [Bundle.ownAtoms0])
  obtain ⟨vm₁, cX, kX, hfX, hkX, -, -, X₁, st1⟩ := Y.newCold hexec (own := own) (C := cls) (index := ik) (n := 6) hown' hk' hins hini'
    (g := F0 m pc ls rest) rfl (by rw [hb]; exact d0) (Nat.le_refl _) (Nat.le_refl _)
  generalize hT1 : (T.setVm vm₁).pushCell { cls := cX, slots := kX.instanceTypes.map defaultValue, vm := .none } = T1 at X₁ st1
  have hcat : (Value.ref T.heap.size).category = 1 := rfl
  have hcellA : T1.heap[T.heap.size]? = some (freshCell cX kX) := by rw [← hT1]; exact State.heap_pushCell_size _ _
  have d3' : decode c.code (pc + 3) = .ok (.dup, 1) := by rw [hb]; exact d3
  obtain ⟨U, hsteps, hrun, hend, hW, hsame, ce, hce, hO⟩ := X₁.ctorThrow0 hexec htr (own := own) (cls := cls) (names := names) (ic := ic) hown' hcls hnames h (fun x hx => nomatch hx) hfX hkX hcellA (by rw [hhp, hT]; exact Nat.le_refl _)
    (g := { method := m, pc := pc + 4, locals := ls, stack := .ref T.heap.size :: .ref T.heap.size :: rest, locked := none }) rfl hsize rfl rfl (rest := rest) rfl
    (by rw [hb]; exact d4) (by rw [hb]; exact d7) hout hRframes (by simp only [List.map_cons, List.sum_cons, hcat]; omega) hlocks
  obtain ⟨f1, f2⟩ := vx_frame hsame
  rw [hhp] at f1 f2
  have hWs : s.WarmedH U.vm := State.WarmedH.trans hW0 hW
  have hcl : s.vm.findClass cls = some ce.cls := by
    have h9 := hO.cls
    rw [hvm] at h9
    exact h9
  have hall : s.sameButNew ({ U with vm := s.vm } : State) locs mc ms := by
    subst hA
    obtain ⟨e1, e2⟩ := hsame
    rw [State.setFrames_setFrames] at e1
    have h2 : (T.setVm s.vm).sameButNew ({ U with vm := s.vm } : State) [] (0 + 1) (0 + 6) := ⟨e1, e2⟩
    have h3 := X.same.trans h2
    rw [List.append_nil] at h3
    exact h3.mono hc hs
  refine ⟨U, ?_, .threw T.heap.size, hrun, hend, Or.inr ⟨T.heap.size, rfl, cls, ce, locs, hx U hWs.alike f1 (fun q hq => f2 q hq (fun z hz => nomatch hz)), hce, hO.vm, hcl, hWs, hall, hf⟩⟩
  refine st1 _ ?_
  show Steps p.tables e below (T1.setTop { method := m, pc := pc + 3, locals := ls, stack := .ref T.heap.size :: rest, locked := none }) _
  jvm_step X₁.here [X₁.here.top, hexec, d3', Value.category]
  exact hsteps
/-- 'throw new E("text")': new; dup; ldc; invokespecial; athrow -/
theorem vx_throwS {cc : ByteArray} {pc : Nat} (hexec : p.tables.exec = Jvm.exec) (hb : c.code = cc) (hl : l.stackTraces = false) {own cls text : String} {names : List String} {ik is ic mc ms sa : Nat} {A : Nat → Prop}
    (hown : s.vm.findClass own = some m.cls) (hcls : Bundle.fit cls = true) (hnames : ∀ n ∈ names, Bundle.fit n = true)
    (hk : (Cond.classLink own ik cls).before args s = true) (hini : (Cond.initialized cls).before args s = true) (hstr : vk_R own is text sa s) (hat : ∀ w ∈ vx_atS own ic cls names, w.before args s = true)
    (hgood : ∀ w ∈ Cond.classLink own ik cls :: Cond.initialized cls :: vx_atS own ic cls names, vx_ot w = true)
    (hU : vx_Zq Bundle.tN "UNASSIGNED_STACK" Bundle.steD A s s.heap) (hN : vx_Zq Bundle.tN "SUPPRESSED_SENTINEL" Bundle.listD A s s.heap) (hS : va_S A s.heap H locs) (hsize : ls.size = c.maxLocals)
    (d0 : decode cc pc = .ok (.new ik, 3)) (d3 : decode cc (pc + 3) = .ok (.dup, 1)) (d4 : decode cc (pc + 4) = .ok (.ldc is, 2)) (d6 : decode cc (pc + 6) = .ok (.invokespecial ic, 3)) (d9 : decode cc (pc + 9) = .ok (.athrow, 1))
    (hout : ∀ x ∈ c.exceptionTable.toList, covers x (pc + 9) = false)
    (hRframes : names.length + 3 < R.frames) (hRlocals : (rest.map fun v => v.category).sum + (13 * (names.length + 1) + 43) ≤ R.locals) (hRcells : cells + 1 ≤ R.cells) (hRslots : slots + 6 ≤ R.slots) (hlocks : meth.locks = false)
    (hx : ∀ t : State, s.vm.Alike t.vm → H.size ≤ t.heap.size → (∀ q : Nat, q < H.size → t.heap[q]? = H[q]?) → XC cls s t)
    (hf : ∀ z ∈ locs, free z.base) (hc : cells + 1 ≤ mc) (hs : slots + 6 ≤ ms) :
    W p l e R s m args below meth c H locs cells slots (vx_MQ below Qc XC args s mc ms free) (F0 m pc ls rest) := by
  intro T hT X
  have htr : e.platform.stackTraces = false := (show e.platform.stackTraces = l.stackTraces by rw [X.admits.platform]).trans hl
  have Y := vx_rebase X (R' := { frames := R.frames, locals := R.locals, cells := 1, slots := 6 }) (Nat.le_refl _) (Nat.le_refl _) hRcells hRslots
  obtain ⟨s', hA⟩ : ∃ z, z = (T.setVm s.vm).setFrames (.invoking m args :: below) := ⟨_, rfl⟩
  rw [← hA] at Y
  have hvm : s'.vm = s.vm := by rw [hA]; rfl
  have hhp : s'.heap = H := by rw [hA]; exact hT
  have hW0 : s.WarmedH s'.vm := by rw [hvm]; exact State.WarmedH.refl s
  have hat' : ∀ w ∈ vx_atS own ic cls names, w.before args s' = true := fun w hw => vx_ot_at hW0 hvm.symm (hgood w (List.mem_cons_of_mem _ (List.mem_cons_of_mem _ hw))) (hat w hw)
  have hk' : (Cond.classLink own ik cls).before args s' = true := vx_ot_at hW0 hvm.symm (hgood _ List.mem_cons_self) hk
  have hini' : (Cond.initialized cls).before args s' = true := vx_ot_at hW0 hvm.symm (hgood _ (List.mem_cons_of_mem _ List.mem_cons_self)) hini
  have hU' : vx_Zq Bundle.tN "UNASSIGNED_STACK" Bundle.steD A s' s'.heap := by rw [hhp]; exact vx_Zq.moved hW0.alike (hU.kept hS.2.1)
  have hN' : vx_Zq Bundle.tN "SUPPRESSED_SENTINEL" Bundle.listD A s' s'.heap := by rw [hhp]; exact vx_Zq.moved hW0.alike (hN.kept hS.2.1)
  have h : ∀ w ∈ Bundle.ownAtoms own ic cls names, w.before args s' = true := vx_own hat' (vx_isRefq hU'.1) (vx_isRefq hN'.1) hU'.2.word hN'.2.word
  have hown' : s'.vm.findClass own = some m.cls := by rw [hvm]; exact hown
  have hins : (Cond.instantiable cls 6).before args s' = true := h _ (by simp [Bundle.ownAtoms])
  obtain ⟨vm₁, cX, kX, hfX, hkX, -, -, X₁, st1⟩ := Y.newCold hexec (own := own) (C := cls) (index := ik) (n := 6) hown' hk' hins hini'
    (g := F0 m pc ls rest) rfl (by rw [hb]; exact d0) (Nat.le_refl _) (Nat.le_refl _)
  generalize hT1 : (T.setVm vm₁).pushCell { cls := cX, slots := kX.instanceTypes.map defaultValue, vm := .none } = T1 at X₁ st1
  have hcat : (Value.ref T.heap.size).category = 1 := rfl
  have hcellA : T1.heap[T.heap.size]? = some (freshCell cX kX) := by rw [← hT1]; exact State.heap_pushCell_size _ _
  have d3' : decode c.code (pc + 3) = .ok (.dup, 1) := by rw [hb]; exact d3
  have d4' : decode c.code (pc + 4) = .ok (.ldc is, 2) := by rw [hb]; exact d4
  have hstr' : vk_R own is text sa s' := vk_R.warm hW0 hstr
  obtain ⟨U, hsteps, hrun, hend, hW, hsame, ce, hce, hO⟩ := X₁.ctorThrowS hexec htr (own := own) (cls := cls) (names := names) (ic := ic) hown' hcls hnames h (fun x hx => nomatch hx) hfX hkX hcellA (by rw [hhp, hT]; exact Nat.le_refl _) (msg := .ref sa) rfl
    (g := { method := m, pc := pc + 6, locals := ls, stack := .ref sa :: .ref T.heap.size :: .ref T.heap.size :: rest, locked := none }) rfl hsize rfl rfl (rest := rest) rfl
    (by rw [hb]; exact d6) (by rw [hb]; exact d9) hout hRframes (by simp only [List.map_cons, List.sum_cons, hcat]; omega) hlocks
  obtain ⟨f1, f2⟩ := vx_frame hsame
  rw [hhp] at f1 f2
  have hWs : s.WarmedH U.vm := State.WarmedH.trans hW0 hW
  have hcl : s.vm.findClass cls = some ce.cls := by
    have h9 := hO.cls
    rw [hvm] at h9
    exact h9
  have hall : s.sameButNew ({ U with vm := s.vm } : State) locs mc ms := by
    subst hA
    obtain ⟨e1, e2⟩ := hsame
    rw [State.setFrames_setFrames] at e1
    have h2 : (T.setVm s.vm).sameButNew ({ U with vm := s.vm } : State) [] (0 + 1) (0 + 6) := ⟨e1, e2⟩
    have h3 := X.same.trans h2
    rw [List.append_nil] at h3
    exact h3.mono hc hs
  refine ⟨U, ?_, .threw T.heap.size, hrun, hend, Or.inr ⟨T.heap.size, rfl, cls, ce, locs, hx U hWs.alike f1 (fun q hq => f2 q hq (fun z hz => nomatch hz)), hce, hO.vm, hcl, hWs, hall, hf⟩⟩
  refine st1 _ ?_
  show Steps p.tables e below (T1.setTop { method := m, pc := pc + 3, locals := ls, stack := .ref T.heap.size :: rest, locked := none }) _
  jvm_step X₁.here [X₁.here.top, hexec, d3', Value.category]
  exact X₁.ldcString hexec (own := own) (text := text) (index := is) (a := sa) hown' hstr'.1 hstr'.2
    (g := { method := m, pc := pc + 4, locals := ls, stack := .ref T.heap.size :: .ref T.heap.size :: rest, locked := none }) rfl d4' _ hsteps
/-- 'throw new E("text")', the text by a wide index -/
theorem vx_throwSW {cc : ByteArray} {pc : Nat} (hexec : p.tables.exec = Jvm.exec) (hb : c.code = cc) (hl : l.stackTraces = false) {own cls text : String} {names : List String} {ik is ic mc ms sa : Nat} {A : Nat → Prop}
    (hown : s.vm.findClass own = some m.cls) (hcls : Bundle.fit cls = true) (hnames : ∀ n ∈ names, Bundle.fit n = true)
    (hk : (Cond.classLink own ik cls).before args s = true) (hini : (Cond.initialized cls).before args s = true) (hstr : vk_R own is text sa s) (hat : ∀ w ∈ vx_atS own ic cls names, w.before args s = true)
    (hgood : ∀ w ∈ Cond.classLink own ik cls :: Cond.initialized cls :: vx_atS own ic cls names, vx_ot w = true)
    (hU : vx_Zq Bundle.tN "UNASSIGNED_STACK" Bundle.steD A s s.heap) (hN : vx_Zq Bundle.tN "SUPPRESSED_SENTINEL" Bundle.listD A s s.heap) (hS : va_S A s.heap H locs) (hsize : ls.size = c.maxLocals)
    (d0 : decode cc pc = .ok (.new ik, 3)) (d3 : decode cc (pc + 3) = .ok (.dup, 1)) (d4 : decode cc (pc + 4) = .ok (.ldc_w is, 3)) (d7 : decode cc (pc + 7) = .ok (.invokespecial ic, 3)) (d10 : decode cc (pc + 10) = .ok (.athrow, 1))
    (hout : ∀ x ∈ c.exceptionTable.toList, covers x (pc + 10) = false)
    (hRframes : names.length + 3 < R.frames) (hRlocals : (rest.map fun v => v.category).sum + (13 * (names.length + 1) + 43) ≤ R.locals) (hRcells : cells + 1 ≤ R.cells) (hRslots : slots + 6 ≤ R.slots) (hlocks : meth.locks = false)
    (hx : ∀ t : State, s.vm.Alike t.vm → H.size ≤ t.heap.size → (∀ q : Nat, q < H.size → t.heap[q]? = H[q]?) → XC cls s t)
    (hf : ∀ z ∈ locs, free z.base) (hc : cells + 1 ≤ mc) (hs : slots + 6 ≤ ms) :
    W p l e R s m args below meth c H locs cells slots (vx_MQ below Qc XC args s mc ms free) (F0 m pc ls rest) := by
  intro T hT X
  have htr : e.platform.stackTraces = false := (show e.platform.stackTraces = l.stackTraces by rw [X.admits.platform]).trans hl
  have Y := vx_rebase X (R' := { frames := R.frames, locals := R.locals, cells := 1, slots := 6 }) (Nat.le_refl _) (Nat.le_refl _) hRcells hRslots
  obtain ⟨s', hA⟩ : ∃ z, z = (T.setVm s.vm).setFrames (.invoking m args :: below) := ⟨_, rfl⟩
  rw [← hA] at Y
  have hvm : s'.vm = s.vm := by rw [hA]; rfl
  have hhp : s'.heap = H := by rw [hA]; exact hT
  have hW0 : s.WarmedH s'.vm := by rw [hvm]; exact State.WarmedH.refl s
  have hat' : ∀ w ∈ vx_atS own ic cls names, w.before args s' = true := fun w hw => vx_ot_at hW0 hvm.symm (hgood w (List.mem_cons_of_mem _ (List.mem_cons_of_mem _ hw))) (hat w hw)
  have hk' : (Cond.classLink own ik cls).before args s' = true := vx_ot_at hW0 hvm.symm (hgood _ List.mem_cons_self) hk
  have hini' : (Cond.initialized cls).before args s' = true := vx_ot_at hW0 hvm.symm (hgood _ (List.mem_cons_of_mem _ List.mem_cons_self)) hini
  have hU' : vx_Zq Bundle.tN "UNASSIGNED_STACK" Bundle.steD A s' s'.heap := by rw [hhp]; exact vx_Zq.moved hW0.alike (hU.kept hS.2.1)
  have hN' : vx_Zq Bundle.tN "SUPPRESSED_SENTINEL" Bundle.listD A s' s'.heap := by rw [hhp]; exact vx_Zq.moved hW0.alike (hN.kept hS.2.1)
  have h : ∀ w ∈ Bundle.ownAtoms own ic cls names, w.before args s' = true := vx_own hat' (vx_isRefq hU'.1) (vx_isRefq hN'.1) hU'.2.word hN'.2.word
  have hown' : s'.vm.findClass own = some m.cls := by rw [hvm]; exact hown
  have hins : (Cond.instantiable cls 6).before args s' = true := h _ (by simp [Bundle.ownAtoms])
  obtain ⟨vm₁, cX, kX, hfX, hkX, -, -, X₁, st1⟩ := Y.newCold hexec (own := own) (C := cls) (index := ik) (n := 6) hown' hk' hins hini'
    (g := F0 m pc ls rest) rfl (by rw [hb]; exact d0) (Nat.le_refl _) (Nat.le_refl _)
  generalize hT1 : (T.setVm vm₁).pushCell { cls := cX, slots := kX.instanceTypes.map defaultValue, vm := .none } = T1 at X₁ st1
  have hcat : (Value.ref T.heap.size).category = 1 := rfl
  have hcellA : T1.heap[T.heap.size]? = some (freshCell cX kX) := by rw [← hT1]; exact State.heap_pushCell_size _ _
  have d3' : decode c.code (pc + 3) = .ok (.dup, 1) := by rw [hb]; exact d3
  have d4' : decode c.code (pc + 4) = .ok (.ldc_w is, 3) := by rw [hb]; exact d4
  have hstr' : vk_R own is text sa s' := vk_R.warm hW0 hstr
  obtain ⟨U, hsteps, hrun, hend, hW, hsame, ce, hce, hO⟩ := X₁.ctorThrowS hexec htr (own := own) (cls := cls) (names := names) (ic := ic) hown' hcls hnames h (fun x hx => nomatch hx) hfX hkX hcellA (by rw [hhp, hT]; exact Nat.le_refl _) (msg := .ref sa) rfl
    (g := { method := m, pc := pc + 7, locals := ls, stack := .ref sa :: .ref T.heap.size :: .ref T.heap.size :: rest, locked := none }) rfl hsize rfl rfl (rest := rest) rfl
    (by rw [hb]; exact d7) (by rw [hb]; exact d10) hout hRframes (by simp only [List.map_cons, List.sum_cons, hcat]; omega) hlocks
  obtain ⟨f1, f2⟩ := vx_frame hsame
  rw [hhp] at f1 f2
  have hWs : s.WarmedH U.vm := State.WarmedH.trans hW0 hW
  have hcl : s.vm.findClass cls = some ce.cls := by
    have h9 := hO.cls
    rw [hvm] at h9
    exact h9
  have hall : s.sameButNew ({ U with vm := s.vm } : State) locs mc ms := by
    subst hA
    obtain ⟨e1, e2⟩ := hsame
    rw [State.setFrames_setFrames] at e1
    have h2 : (T.setVm s.vm).sameButNew ({ U with vm := s.vm } : State) [] (0 + 1) (0 + 6) := ⟨e1, e2⟩
    have h3 := X.same.trans h2
    rw [List.append_nil] at h3
    exact h3.mono hc hs
  refine ⟨U, ?_, .threw T.heap.size, hrun, hend, Or.inr ⟨T.heap.size, rfl, cls, ce, locs, hx U hWs.alike f1 (fun q hq => f2 q hq (fun z hz => nomatch hz)), hce, hO.vm, hcl, hWs, hall, hf⟩⟩
  refine st1 _ ?_
  show Steps p.tables e below (T1.setTop { method := m, pc := pc + 3, locals := ls, stack := .ref T.heap.size :: rest, locked := none }) _
  jvm_step X₁.here [X₁.here.top, hexec, d3', Value.category]
  exact X₁.ldcStringW hexec (own := own) (text := text) (index := is) (a := sa) hown' hstr'.1 hstr'.2
    (g := { method := m, pc := pc + 4, locals := ls, stack := .ref T.heap.size :: .ref T.heap.size :: rest, locked := none }) rfl d4' _ hsteps
end Ends
section Bodies
variable {l : Launch}
theorem vx_ofW {y : MethodName} {ws ws' : List Cond} {rm : Room} {Pc : Array Value → State → Prop} {Qc : Array Value → State → Outcome → State → Prop} {XC : String → State → State → Prop} {mc ms : Nat} {free : Addr → Prop} {cc : ByteArray} {maxL : Nat} {ret : Option FieldType}
    (hy : plainName y.cls = true) (hw : ws = Cond.code y cc maxL ret :: ws')
    (body : ∀ p e s m args below meth c s₁, BodyLoose p l y (headSpec ws rm) cc maxL ret e s m args below meth c s₁ → c.maxLocals = maxL → (∀ x ∈ c.exceptionTable.toList, False) → Pc args s →
      W p l e (headSpec ws rm).room s m args below meth c s.heap [] 0 0 (vx_MQ below Qc XC args s mc ms free) (entryFrame m args maxL)) : vx_Met l y ws rm Pc Qc XC mc ms free := by
  refine MetFree.of_bodyS (code := cc) (maxLocals := maxL) (ret := ret) hy ?_ ?_
  · intro args s m h hn
    obtain ⟨meth, c, h1, h2, h3, h4, h5, h6, -, -⟩ := Cond.code_spec hn (atoms_spec (ws := ws) h _ (by rw [hw]; exact List.mem_cons_self))
    exact ⟨meth, c, h1, h2, h3, h4, h5, h6⟩
  · intro p e s m args below meth c s₁ B hml hP _
    have hh0 : s₁.heap = s.heap := by rw [B.state]; rfl
    have ht : ∀ x ∈ c.exceptionTable.toList, False := by
      obtain ⟨meth9, c9, h1, h2, -, -, -, -, h7, -⟩ := Cond.code_spec B.named (atoms_spec (ws := ws) B.pre _ (by rw [hw]; exact List.mem_cons_self))
      cases Option.some.inj (h1.symm.trans B.method)
      cases Option.some.inj (h2.symm.trans (Stand.of_body B).code)
      intro x hx
      rw [Array.isEmpty_iff.mp h7] at hx
      cases hx
    obtain ⟨t, a1, o, b1, b2, b3⟩ := body p e s m args below meth c s₁ B hml ht hP s₁ hh0 (Stand.of_body B)
    exact ⟨t, o, a1, b1, b2, b3⟩
/-- the table of a body with handlers -/
theorem vx_table {p : Program} {x y : MethodName} {S : Spec} {cc bytes : ByteArray} {maxL maxL' : Nat} {ret ret' : Option FieldType} {e : Env} {s s₁ : State} {m : MethodId} {args : Array Value} {below : List Frame} {meth : Method} {c : Code} {hh : List (Nat × Nat × Nat × Nat)}
    (B : BodyLoose p l y S cc maxL ret e s m args below meth c s₁) (h : (Cond.codeWith y bytes maxL' ret' hh).before args s = true) : c.exceptionTable.toList = tableOf hh := by
  obtain ⟨m9, meth9, c9, hn9, h1, h2, -, -, h6, -⟩ := Cond.codeWith_spec h
  cases Option.some.inj (hn9.symm.trans B.named)
  cases Option.some.inj (h1.symm.trans B.method)
  cases Option.some.inj (h2.symm.trans (Stand.of_body B).code)
  rw [← h6, table_eq]
end Bodies
end VXA
/-! ===== END ===== -/
/-! ===== BEGIN a static call of a method with an exception table ===== -/
section VXS
variable {p : Program} {l : Launch} {e : Env} {R : Room} {s : State} {m : MethodId} {args : Array Value} {below : List Frame} {meth : Method} {c : Code} {T : State} {H : Heap} {locs : List Loc} {cells slots : Nat}
abbrev vx_CSW (R : Room) (s : State) (args : Array Value) (own : String) (index : Nat) (y : MethodName) (bytes : ByteArray) (maxL : Nat) (ret : Option FieldType) (hh : List (Nat × Nat × Nat × Nat)) (ws : List Cond) (rm : Room) (mc ms n : Nat) : Prop :=
  (rm.cells = mc ∧ rm.slots = ms ∧ rm.frames + 1 ≤ R.frames ∧ 8 + (maxL + 11) + rm.locals ≤ R.locals ∧ (∀ w ∈ ws, ∀ (a' : Array Value) (U : State), s.WarmedH U.vm → w.before a' U = true) ∧ Cond.codeWith y bytes maxL ret hh ∈ ws) ∧
  (Cond.codeWith y bytes maxL ret hh).before args s = true ∧ (Cond.initialized y.cls).before args s = true ∧ (y.cls ≠ "java/lang/invoke/MethodHandle" ∧ y.cls ≠ "java/lang/invoke/VarHandle") ∧
  (∀ sig, parseMethodDescriptor y.desc = some sig → n = sig.parameters.length) ∧ (Cond.methodLink own index y).before args s = true ∧ (Cond.static y).before args s = true
theorem vx_cwSW {own : String} {index maxL mc ms : Nat} {y : MethodName} {bytes : ByteArray} {ret : Option FieldType} {hh : List (Nat × Nat × Nat × Nat)} {Ts ws ws' : List Cond} {rm : Room} (n : Nat) (ht : ∀ w ∈ Ts, w.before args s = true) (hT : GoodIn Ts (va_wsS own index y ws)) (hw : ws = Cond.codeWith y bytes maxL ret hh :: ws') (hrc : rm.cells = mc) (hrs : rm.slots = ms)
    (hd : y.cls ≠ "java/lang/invoke/MethodHandle" ∧ y.cls ≠ "java/lang/invoke/VarHandle" ∧ (parseMethodDescriptor y.desc).map (fun d => d.parameters.length) = some n) (hR : rm.frames + 1 ≤ R.frames ∧ 8 + (maxL + 11) + rm.locals ≤ R.locals) :
    vx_CSW R s args own index y bytes maxL ret hh ws rm mc ms n := by
  have ok : ∀ w ∈ va_wsS own index y ws, w.before args s = true := fun w h => ht w (hT w h).1
  have hG : GoodIn Ts ws := fun w h => hT w (by unfold va_wsS; exact List.mem_append_right _ h)
  have hc : Cond.codeWith y bytes maxL ret hh ∈ ws := by rw [hw]; exact List.mem_cons_self
  refine ⟨⟨hrc, hrs, hR.1, hR.2, pay_in ht hG, hc⟩, ht _ (hG _ hc).1, ok _ (by simp [va_wsS]), ⟨hd.1, hd.2.1⟩, fun sig h => ?_, ok _ (by simp [va_wsS]), ok _ (by simp [va_wsS])⟩
  have h2 := hd.2.2
  rw [h] at h2
  exact (Option.some.inj h2).symm
theorem vx_callSW (X : Stand p l e R s m args below meth c T locs cells slots) (hexec : p.tables.exec = Jvm.exec) {own : String} {index : Nat} {y : MethodName} {bytes : ByteArray} {maxL : Nat} {ret : Option FieldType} {hh : List (Nat × Nat × Nat × Nat)}
    (hown : s.vm.findClass own = some m.cls) (hlink : (Cond.methodLink own index y).before args s = true) (hstat : (Cond.static y).before args s = true) (hinit : (Cond.initialized y.cls).before args s = true)
    (hcode : (Cond.codeWith y bytes maxL ret hh).before args s = true) (hy : y.cls ≠ "java/lang/invoke/MethodHandle" ∧ y.cls ≠ "java/lang/invoke/VarHandle")
    {W9 : Nat} {Pre : Pt → Array Value → Prop} {Post : Pt → Array Value → Option Value → Pt → Prop} (hK : Back l R p e below s args y 3 W9 Pre Post)
    {g : JFrame} (hg : g.method = m) (hsize : g.locals.size = c.maxLocals) {argsL rest : List Value} (hlen : ∀ sig, parseMethodDescriptor y.desc = some sig → argsL.length = sig.parameters.length)
    (hstack : g.stack = argsL.reverse ++ rest) (hW : 2 * g.monitorRoom + (rest.map fun v => v.category).sum ≤ W9) (hdg : decode c.code g.pc = .ok (.invokestatic index, 3))
    (hpre : ∀ vm₁, s.WarmedH vm₁ → Pre ⟨T.setVm vm₁, locs, cells, slots⟩ argsL.toArray) :
    ∃ (v : Option Value) (vm₁ : Vm) (B : Pt), s.WarmedH vm₁ ∧ Stand p l e R s m args below meth c B.U B.locs B.cells B.slots ∧ Post ⟨T.setVm vm₁, locs, cells, slots⟩ argsL.toArray v B ∧
      ∀ target, Steps p.tables e below (B.U.setTop { g with pc := g.pc + 3, stack := v.toList ++ rest }) target → Steps p.tables e below (T.setTop g) target := by
  obtain ⟨mk, methM, cM, hnamed, hmethM, -, -, -, -, -, -, hsigM⟩ := Cond.codeWith_spec hcode
  have hstatic : methM.isStatic = true := Cond.static_spec hnamed hmethM hstat
  obtain ⟨kP, hkP, -⟩ := className_of_methodNamed hnamed
  have hinitP : kP.init = .initialized := Cond.initialized_spec (findClass_of_methodNamed hnamed) hkP hinit
  obtain ⟨vm₁, X₁, hstep₁⟩ := X.invokestatic hexec hown hlink hnamed hmethM hstatic hkP hinitP hy (g := g) hg (argsL := argsL) (rest := rest) (hlen _ hsigM) hstack hdg
  obtain ⟨v, B, X', hpost, hsteps⟩ := hK m meth c ⟨T.setVm vm₁, locs, cells, slots⟩ { g with stack := rest } (.invokestatic index) mk argsL.toArray X₁ hg hsize hdg hW (X₁.named hnamed) (hpre vm₁ X₁.warmed)
  exact ⟨v, vm₁, B, X₁.warmed, X', hpost, fun target h => hstep₁ _ fun acts => by rw [doInvoke_state]; exact hsteps.trans h⟩
theorem vx_runSW {y : MethodName} {bytes cc : ByteArray} {maxL nL mc ms n index : Nat} {ret : Option FieldType} {hh : List (Nat × Nat × Nat × Nat)} {ws : List Cond} {rm : Room} {Pc : Array Value → State → Prop} {Qc : Array Value → State → Outcome → State → Prop} {free : Addr → Prop} {Ts : List Cond} {own : String} {As rest : List Value} {g : JFrame}
    (S : CallFix p m c cc nL s args Ts own) (hM : Met l y ws rm Pc Qc mc ms free) (cw : vx_CSW R s args own index y bytes maxL ret hh ws rm mc ms n) (hp : PreS s H Pc As)
    (hg : g.method = m) (hn : As.length = n) (hsize : g.locals.size = nL) (hstack : g.stack = As.reverse ++ rest) (hW : 2 * g.monitorRoom + (rest.map fun v => v.category).sum ≤ 8) (hdg : decode cc g.pc = .ok (.invokestatic index, 3)) (hf : cells + mc ≤ R.cells ∧ slots + ms ≤ R.slots) :
    va_Run p l e R s m args below meth c H locs cells slots mc ms g rest (Qc As.toArray) (free) := by
  obtain ⟨⟨hrc, hrs, hfr, hlo, hws, hcw⟩, hcode, hini, hy, hlen, hl, hstt⟩ := cw
  have hK : Back l R p e below s args y 3 8 (PreOf R mc ms Pc) (PostOf Qc mc ms free) := va_backW (hh := hh) (bytes := bytes) (maxL := maxL) (ret := ret) hM hp.1 hrc hrs hfr hlo hws hcw (fun a' U hW => word_at hW (Or.inl (by first | rfl | simp [Cond.onTables, Cond.keeps, Cond.steady])) hini)
  obtain ⟨hx, hb, hml, ho, -⟩ := S
  intro T hT X
  obtain ⟨v, vm₁, ⟨U', l2, c2, s2⟩, hW₁, X', ⟨g', mk, t, L, e1, e2, hq, h1, hL, h2, h3⟩, st⟩ := vx_callSW X hx (hh := hh) (bytes := bytes) (maxL := maxL) (ret := ret) ho hl hstt hini hcode hy hK hg (hsize.trans hml.symm) (argsL := As) (rest := rest) (fun sig h => hn.trans (hlen sig h)) hstack hW (by rw [hb]; exact hdg)
    (fun vm₁ hW₁ => ⟨hf.1, hf.2, hp.2 (T.setVm vm₁) hT hW₁⟩)
  dsimp only [Pt.U, Pt.locs, Pt.cells, Pt.slots] at X' e1 e2 h1 h2 h3 st
  subst h1; subst h2; subst h3
  exact ⟨v, (T.setVm vm₁).calling g' mk As.toArray, t, U', L, hT, X', hL, e1, e2, hq, st⟩
/-- not caught here, past rows that name other classes: it goes on to the caller -/
theorem vx_outP {p : Program} {l : Launch} {e : Env} {R : Room} {s : State} {m : MethodId} {args : Array Value} {below : List Frame} {meth : Method} {c : Code} {H : Heap} {locs : List Loc} {cells slots : Nat} {free : Addr → Prop} {ls : Array Slot} {rest : List Value} {Qc : Array Value → State → Outcome → State → Prop} {XC : String → State → State → Prop}
    {pc : Nat} {own E : String} {ce : Cell} {q : Addr} {mc ms : Nat} (hown : s.vm.findClass own = some m.cls) (hlocks : meth.locks = false)
    (hpass : ∀ z ∈ c.exceptionTable.toList, covers z pc = false ∨ (z.catchType ≠ 0 ∧ ∃ nm : String, (Cond.classLink own z.catchType nm).before args s = true ∧ va_Nc E nm s)) (hcell : H[q]? = some ce) (hv : ce.vm = .none) (hcl : s.vm.findClass E = some ce.cls)
    (hx : ∀ t : State, t.heap = H → s.vm.Alike t.vm → XC E s t) (hf : ∀ z ∈ locs, free z.base) (hc : cells ≤ mc) (hs : slots ≤ ms) :
    vx_W p l e R s m args below meth c H locs cells slots (vx_MQ below Qc XC args s mc ms free) (F0 m pc ls rest) q := by
  intro T hT X
  have hpl : e.platform.magicAccessors = ({} : Platform).magicAccessors := by rw [X.admits.platform]
  obtain ⟨vm', hW', X', st⟩ := X.outThrough hlocks q (g := F0 m pc ls rest) rfl rfl rfl (cell := ce) (by rw [hT]; exact hcell) (by rw [hv]; rfl)
    (by obtain ⟨k9, h9, -⟩ := Vm.findClass_spec hcl; exact ⟨k9, h9⟩) (fun z hz => by
      rcases hpass z hz with h | ⟨hz0, nm, hl1, hn1⟩
      · exact Or.inl h
      · obtain ⟨c6, hc6, hcl6⟩ := Cond.classLink_spec hown hl1 e.platform hpl
        obtain ⟨a8, b8, h1, h2, h3⟩ := hn1
        cases Option.some.inj (h1.symm.trans hcl)
        cases Option.some.inj (h2.symm.trans hc6)
        exact Or.inr ⟨hz0, _, hcl6, h3⟩)
  obtain ⟨g₀, hfr⟩ := X'.frames_eq
  have hcell9 : ((T.setVm vm').setFrames (.throwing q :: below)).heap[q]? = some ce := by
    show T.heap[q]? = some ce
    rw [hT]; exact hcell
  have hend : Ended ((T.setVm vm').setFrames (.throwing q :: below)) below (.threw q) := State.frames_setFrames _ (State.cur_lt_of_frames hfr)
  refine ⟨(T.setVm vm').setFrames (.throwing q :: below), ?_, .threw q, X'.here.running, hend, Or.inr ⟨q, rfl, E, ce, locs, hx _ hT (X'.ends _).1.alike, hcell9, hv, hcl, (X'.ends _).1, (X'.ends _).2.mono hc hs, hf⟩⟩
  rw [X.pushThrowing_eq]
  exact st
/-- a thing of a world lies in the heap -/
theorem vx_lt {D : va_G} {cl : List vw_C} {ws : va_W} {H1 : Heap} (h : va_P D cl ws H1) {k : Nat} {q : Nat × va_E} (hk : ws[k]? = some q) : q.1 < H1.size := (h k q hk).lt
end VXS
/-! ===== END ===== -/
/-! ===== BEGIN methods with a table of their own: called by a name, returning or throwing ===== -/
section VXH
/-! vx_backW, vx_callVX, vx_callSX, vx_callVW, vx_runVW, vx_runVX, vx_runSX, vx_ofWH follow the same proofs as their sisters above (Free/Laws.lean, Shelf42/LK1.lean); vx_outP calls Shelf42/NT130.lean (outThrough). -/
section
variable {l : Launch} {R : Room} {p : Program} {e : Env} {below : List Frame} {s : State} {sargs : Array Value} {y : MethodName} {len W9 : Nat}
theorem vx_backW {ws : List Cond} {rm : Room} {Pc : Array Value → State → Prop} {Qc : Array Value → State → Outcome → State → Prop} {XC : String → State → State → Prop} {mc ms : Nat} {free : Addr → Prop} {bytes : ByteArray} {maxL : Nat} {ret : Option FieldType} {hh : List (Nat × Nat × Nat × Nat)}
    (hM : vx_Met l y ws rm Pc Qc XC mc ms free) (hblind : FrameBlind Pc) (hrc : rm.cells = mc) (hrs : rm.slots = ms)
    (hframes : rm.frames + 1 ≤ R.frames) (hlocals : W9 + (maxL + 11) + rm.locals ≤ R.locals)
    (hws : ∀ w ∈ ws, ∀ a' U, s.WarmedH U.vm → w.before a' U = true) (hcode : Cond.codeWith y bytes maxL ret hh ∈ ws) (hinit : ∀ a' U, s.WarmedH U.vm → (Cond.initialized y.cls).before a' U = true) :
    vx_Back l R p e below s sargs y len W9 (PreOf R mc ms Pc) (PostOf Qc mc ms free) (vx_Post XC mc ms free) := by
  intro m meth c A g ig mk a X hg hsize hdg hW hn hp
  have h1 : (headSpec ws rm).pre.before a A.U = true := atoms_intro fun w hw => hws w hw _ _ X.warmed
  have h2 : (Cond.codeWith y bytes maxL ret hh).before a A.U = true := hws _ hcode _ _ X.warmed
  have h3 : (Cond.initialized y.cls).before a A.U = true := hinit _ _ X.warmed
  have h4 : A.cells + (headSpec ws rm).room.cells ≤ R.cells := by rw [show (headSpec ws rm).room.cells = mc from hrc]; exact hp.1
  have h5 : A.slots + (headSpec ws rm).room.slots ≤ R.slots := by rw [show (headSpec ws rm).room.slots = ms from hrs]; exact hp.2.1
  have hPc : Pc a (A.U.calling g mk a) := hblind _ _ _ _ hp.2.2
  obtain ⟨U, Ls, c0, s0⟩ := A
  dsimp only [Pt.U, Pt.locs, Pt.cells, Pt.slots] at h1 h2 h3 h4 h5 X hn hPc ⊢
  obtain ⟨m9, methY, cY, hn9, hmY, hcY, -, hlY, -⟩ := Cond.codeWith_spec h2
  cases Option.some.inj (hn9.symm.trans hn)
  obtain ⟨kY, hkY, -⟩ := className_of_methodNamed hn
  have hinitY : kY.init = .initialized := Cond.initialized_spec (findClass_of_methodNamed hn) hkY h3
  have h : At U g.method c below := by rw [hg]; exact X.here
  have hlocals9 : W9 + (maxL + 11) + (headSpec ws rm).room.locals ≤ R.locals := hlocals
  have happ : (headSpec ws rm).appliesLoose y e.platform (U.calling g mk a) = true :=
    Spec.appliesLoose_calling (g := g) h hdg hn hkY hinitY
      (X.room_calling (g := g) (R' := (headSpec ws rm).room) hsize hmY hcY hframes (by rw [hlY]; omega) h4 h5) h1
  obtain ⟨mid, hmid⟩ := h.above
  have hfr : (U.setTop g).frames = (.java g :: mid) ++ below := by rw [State.frames_setTop' g h.top, hmid]; rfl
  obtain ⟨o, s₂, hsteps, -, hend, hq⟩ := Steps.callFree hM p X.admits X.cas X.clock (acts := []) hfr happ hPc trivial
  have hq' : vx_Q Qc XC mc ms free a (U.calling g mk a) o s₂ := hq
  rw [State.frames_setTop' g h.top] at hend
  obtain ⟨g₀, hg0⟩ := Option.isSome_iff_exists.mp h.top
  obtain ⟨r, hr⟩ := State.topJava?_eq_some.mp hg0
  have hr' : (({ U with heap := s₂.heap, slotsUsed := s₂.slotsUsed } : State).setVm s₂.vm).frames = .java g₀ :: r := hr
  rcases hq' with ⟨hqc, L, hfe, hL⟩ | ⟨q, rfl, E, ce, L, hx, hce, hcv, hcl, hW₂, hsm, hL⟩
  · obtain ⟨⟨v, rfl⟩, hW₂, e2, q2, q3, q4, q5, q6⟩ := id hfe
    have e3 : s₂ = ({ (U.calling g mk a).setFrames s₂.frames with heap := s₂.heap, slotsUsed := s₂.slotsUsed } : State).setVm s₂.vm := by
      have : s₂ = ({ s₂ with vm := (U.calling g mk a).vm } : State).setVm s₂.vm := rfl
      rw [e2] at this
      exact this
    obtain ⟨c₂, i₂, len₂, hc₂, hd₂, hf₂⟩ := hend
    have hW' : U.WarmedH s₂.vm := hW₂
    have hcc : c₂ = c := by
      have h1 : s₂.code? g.method = U.code? g.method := by
        rw [State.code?_eq, State.code?_eq, hW'.alike.method?]
      exact Option.some.inj (hc₂.symm.trans (h1.trans h.code))
    subst hcc
    have hlen : len₂ = len := by rw [hdg] at hd₂; cases hd₂; rfl
    subst hlen
    have hs₂ : s₂ = (({ U with heap := s₂.heap, slotsUsed := s₂.slotsUsed } : State).setVm s₂.vm).setTop { g with pc := g.pc + len₂, stack := v.toList ++ g.stack } := by
      refine e3.trans ?_
      rw [hf₂, State.calling_eq h.top, State.setFrames_setFrames, State.setTop_of_frames _ hr', hr]
      rfl
    have hsame : U.sameButNew ({ U with heap := s₂.heap, slotsUsed := s₂.slotsUsed } : State) L mc ms := by
      refine ⟨?_, q2, q3, q4, q5, q6⟩
      obtain ⟨t, ht, -⟩ := State.frames_cons hr
      show ({ U with heap := s₂.heap, slotsUsed := s₂.slotsUsed } : State) = { U.setFrames U.frames with heap := s₂.heap, slotsUsed := s₂.slotsUsed }
      rw [State.setFrames_self ht]
    subst hg
    refine Or.inl ⟨v, ⟨(({ U with heap := s₂.heap, slotsUsed := s₂.slotsUsed } : State).setVm s₂.vm), Ls ++ L, c0 + mc, s0 + ms⟩,
      ⟨X.admits, X.cas, X.clock, X.frames, X.room, X.hears, X.method, X.code, (X.here.setHeapUsed s₂.heap s₂.slotsUsed).setVm hW'.alike, X.tail, State.WarmedH.trans X.warmed hW', X.limits, X.bytes, X.same.trans (hsame.setVm s.vm)⟩,
      ⟨g, mk, s₂, L, rfl, rfl, hqc, rfl, hL, rfl, rfl⟩, ?_⟩
    show Steps p.tables e below _ ((({ U with heap := s₂.heap, slotsUsed := s₂.slotsUsed } : State).setVm s₂.vm).setTop { g with pc := g.pc + len₂, stack := v.toList ++ g.stack })
    rw [← hs₂]
    exact hsteps
  · obtain ⟨e2, q2, q3, q4, q5, q6⟩ := id hsm
    have e3 : s₂ = ({ (U.calling g mk a).setFrames s₂.frames with heap := s₂.heap, slotsUsed := s₂.slotsUsed } : State).setVm s₂.vm := by
      have : s₂ = ({ s₂ with vm := (U.calling g mk a).vm } : State).setVm s₂.vm := rfl
      rw [e2] at this
      exact this
    have hf₂ : s₂.frames = .throwing q :: .java g :: U.frames.tail := hend
    have hW' : U.WarmedH s₂.vm := hW₂
    have hs₂ : s₂ = ((({ U with heap := s₂.heap, slotsUsed := s₂.slotsUsed } : State).setVm s₂.vm).setTop g).pushFrame (.throwing q) := by
      refine e3.trans ?_
      rw [hf₂, State.calling_eq h.top, State.setFrames_setFrames, State.pushFrame, State.frames_setTop _ hr', State.setTop_of_frames _ hr', State.setFrames_setFrames, hr]
      rfl
    have hsame : U.sameButNew ({ U with heap := s₂.heap, slotsUsed := s₂.slotsUsed } : State) L mc ms := by
      refine ⟨?_, q2, q3, q4, q5, q6⟩
      obtain ⟨t, ht, -⟩ := State.frames_cons hr
      show ({ U with heap := s₂.heap, slotsUsed := s₂.slotsUsed } : State) = { U.setFrames U.frames with heap := s₂.heap, slotsUsed := s₂.slotsUsed }
      rw [State.setFrames_self ht]
    subst hg
    refine Or.inr ⟨q, ⟨(({ U with heap := s₂.heap, slotsUsed := s₂.slotsUsed } : State).setVm s₂.vm), Ls ++ L, c0 + mc, s0 + ms⟩,
      ⟨X.admits, X.cas, X.clock, X.frames, X.room, X.hears, X.method, X.code, (X.here.setHeapUsed s₂.heap s₂.slotsUsed).setVm hW'.alike, X.tail, State.WarmedH.trans X.warmed hW', X.limits, X.bytes, X.same.trans (hsame.setVm s.vm)⟩,
      ⟨g, mk, s₂, L, E, ce, rfl, rfl, hx, hce, hcv, hcl, rfl, hL, rfl, rfl⟩, ?_⟩
    show Steps p.tables e below _ (((({ U with heap := s₂.heap, slotsUsed := s₂.slotsUsed } : State).setVm s₂.vm).setTop g).pushFrame (.throwing q))
    rw [← hs₂]
    exact hsteps
end
variable {p : Program} {l : Launch} {e : Env} {R : Room} {s : State} {m : MethodId} {args : Array Value} {below : List Frame} {meth : Method} {c : Code} {T : State} {H : Heap} {locs : List Loc} {cells slots : Nat}
theorem vx_callVX (X : Stand p l e R s m args below meth c T locs cells slots) (hexec : p.tables.exec = Jvm.exec) {own C : String} {index : Nat} {y : MethodName} {bytes : ByteArray} {maxL : Nat} {ret : Option FieldType} {hh : List (Nat × Nat × Nat × Nat)}
    (hown : s.vm.findClass own = some m.cls) (hlink : (Cond.methodLink own index y).before args s = true) (hinst : (Cond.instanceMethod y).before args s = true) (hsel : (Cond.selects C y y).before args s = true)
    (hcode : (Cond.codeWith y bytes maxL ret hh).before args s = true) (hy : y.cls ≠ "java/lang/invoke/MethodHandle" ∧ y.cls ≠ "java/lang/invoke/VarHandle")
    {W9 : Nat} {Pre : Pt → Array Value → Prop} {Post : Pt → Array Value → Option Value → Pt → Prop} {PostX : Pt → Array Value → Addr → Pt → Prop} (hK : vx_Back l R p e below s args y 3 W9 Pre Post PostX)
    {b : Addr} {cellB : Cell} (hcell : T.heap[b]? = some cellB) (hobj : cellB.vm.isStatics = false) (hcls : s.vm.findClass C = some cellB.cls)
    {g : JFrame} (hg : g.method = m) (hsize : g.locals.size = c.maxLocals) {argsL rest : List Value} (hlen : ∀ sig, parseMethodDescriptor y.desc = some sig → argsL.length = sig.parameters.length)
    (hstack : g.stack = argsL.reverse ++ .ref b :: rest) (hW : 2 * g.monitorRoom + (rest.map fun v => v.category).sum ≤ W9) (hdg : decode c.code g.pc = .ok (.invokevirtual index, 3))
    (hpre : ∀ vm₁, s.WarmedH vm₁ → Pre ⟨T.setVm vm₁, locs, cells, slots⟩ (Value.ref b :: argsL).toArray) :
    (∃ (v : Option Value) (vm₁ : Vm) (B : Pt), s.WarmedH vm₁ ∧ Stand p l e R s m args below meth c B.U B.locs B.cells B.slots ∧ Post ⟨T.setVm vm₁, locs, cells, slots⟩ (Value.ref b :: argsL).toArray v B ∧
      ∀ target, Steps p.tables e below (B.U.setTop { g with pc := g.pc + 3, stack := v.toList ++ rest }) target → Steps p.tables e below (T.setTop g) target) ∨
    (∃ (q : Addr) (vm₁ : Vm) (B : Pt), s.WarmedH vm₁ ∧ Stand p l e R s m args below meth c B.U B.locs B.cells B.slots ∧ PostX ⟨T.setVm vm₁, locs, cells, slots⟩ (Value.ref b :: argsL).toArray q B ∧
      Steps p.tables e below (T.setTop g) ((B.U.setTop { g with stack := rest }).pushFrame (.throwing q))) := by
  obtain ⟨mk, methM, hnamed, hmethM, hstM, habM⟩ := Cond.instanceMethod_spec hinst
  obtain ⟨m8, methM', cM, hn8, hmethM', -, -, -, -, -, -, hsigM⟩ := Cond.codeWith_spec hcode
  cases Option.some.inj (hn8.symm.trans hnamed)
  cases hmethM.symm.trans hmethM'
  obtain ⟨c2, r2, m2, q1, q2, q3, q4, kP, hkP, hkPi⟩ := Cond.selects_spec hsel
  cases hcls.symm.trans q1
  cases (State.methodFound?_of_named hnamed hy).symm.trans q2
  cases hnamed.symm.trans q3
  have hselP : selectMethod e.platform s.vm cellB.cls mk = .method mk := by rw [Launch.admits_selectMethod X.admits]; exact q4
  obtain ⟨vm₁, X₁, hstep₁⟩ := X.invokevirtual hexec hown hlink hnamed hmethM hstM hkP hkPi hy (a := b) (cell := cellB) hcell
    (fun z h => by rw [h] at hobj; cases hobj) hselP hmethM habM hkP hkPi (g := g) hg (argsL := argsL) (rest := rest) (hlen _ hsigM) hstack hdg
  rcases hK m meth c ⟨T.setVm vm₁, locs, cells, slots⟩ { g with stack := rest } (.invokevirtual index) mk (Value.ref b :: argsL).toArray X₁ hg hsize hdg hW (X₁.named hnamed) (hpre vm₁ X₁.warmed) with ⟨v, B, X', hpost, hsteps⟩ | ⟨q, B, X', hpost, hsteps⟩
  · exact Or.inl ⟨v, vm₁, B, X₁.warmed, X', hpost, fun target h => hstep₁ _ fun acts => by rw [doInvoke_state]; exact hsteps.trans h⟩
  · exact Or.inr ⟨q, vm₁, B, X₁.warmed, X', hpost, hstep₁ _ fun acts => by rw [doInvoke_state]; exact hsteps⟩
theorem vx_callSX (X : Stand p l e R s m args below meth c T locs cells slots) (hexec : p.tables.exec = Jvm.exec) {own : String} {index : Nat} {y : MethodName} {bytes : ByteArray} {maxL : Nat} {ret : Option FieldType} {hh : List (Nat × Nat × Nat × Nat)}
    (hown : s.vm.findClass own = some m.cls) (hlink : (Cond.methodLink own index y).before args s = true) (hstat : (Cond.static y).before args s = true) (hinit : (Cond.initialized y.cls).before args s = true)
    (hcode : (Cond.codeWith y bytes maxL ret hh).before args s = true) (hy : y.cls ≠ "java/lang/invoke/MethodHandle" ∧ y.cls ≠ "java/lang/invoke/VarHandle")
    {W9 : Nat} {Pre : Pt → Array Value → Prop} {Post : Pt → Array Value → Option Value → Pt → Prop} {PostX : Pt → Array Value → Addr → Pt → Prop} (hK : vx_Back l R p e below s args y 3 W9 Pre Post PostX)
    {g : JFrame} (hg : g.method = m) (hsize : g.locals.size = c.maxLocals) {argsL rest : List Value} (hlen : ∀ sig, parseMethodDescriptor y.desc = some sig → argsL.length = sig.parameters.length)
    (hstack : g.stack = argsL.reverse ++ rest) (hW : 2 * g.monitorRoom + (rest.map fun v => v.category).sum ≤ W9) (hdg : decode c.code g.pc = .ok (.invokestatic index, 3))
    (hpre : ∀ vm₁, s.WarmedH vm₁ → Pre ⟨T.setVm vm₁, locs, cells, slots⟩ argsL.toArray) :
    (∃ (v : Option Value) (vm₁ : Vm) (B : Pt), s.WarmedH vm₁ ∧ Stand p l e R s m args below meth c B.U B.locs B.cells B.slots ∧ Post ⟨T.setVm vm₁, locs, cells, slots⟩ argsL.toArray v B ∧
      ∀ target, Steps p.tables e below (B.U.setTop { g with pc := g.pc + 3, stack := v.toList ++ rest }) target → Steps p.tables e below (T.setTop g) target) ∨
    (∃ (q : Addr) (vm₁ : Vm) (B : Pt), s.WarmedH vm₁ ∧ Stand p l e R s m args below meth c B.U B.locs B.cells B.slots ∧ PostX ⟨T.setVm vm₁, locs, cells, slots⟩ argsL.toArray q B ∧
      Steps p.tables e below (T.setTop g) ((B.U.setTop { g with stack := rest }).pushFrame (.throwing q))) := by
  obtain ⟨mk, methM, cM, hnamed, hmethM, -, -, -, -, -, -, hsigM⟩ := Cond.codeWith_spec hcode
  have hstatic : methM.isStatic = true := Cond.static_spec hnamed hmethM hstat
  obtain ⟨kP, hkP, -⟩ := className_of_methodNamed hnamed
  have hinitP : kP.init = .initialized := Cond.initialized_spec (findClass_of_methodNamed hnamed) hkP hinit
  obtain ⟨vm₁, X₁, hstep₁⟩ := X.invokestatic hexec hown hlink hnamed hmethM hstatic hkP hinitP hy (g := g) hg (argsL := argsL) (rest := rest) (hlen _ hsigM) hstack hdg
  rcases hK m meth c ⟨T.setVm vm₁, locs, cells, slots⟩ { g with stack := rest } (.invokestatic index) mk argsL.toArray X₁ hg hsize hdg hW (X₁.named hnamed) (hpre vm₁ X₁.warmed) with ⟨v, B, X', hpost, hsteps⟩ | ⟨q, B, X', hpost, hsteps⟩
  · exact Or.inl ⟨v, vm₁, B, X₁.warmed, X', hpost, fun target h => hstep₁ _ fun acts => by rw [doInvoke_state]; exact hsteps.trans h⟩
  · exact Or.inr ⟨q, vm₁, B, X₁.warmed, X', hpost, hstep₁ _ fun acts => by rw [doInvoke_state]; exact hsteps⟩
theorem vx_callVW (X : Stand p l e R s m args below meth c T locs cells slots) (hexec : p.tables.exec = Jvm.exec) {own C : String} {index : Nat} {y : MethodName} {bytes : ByteArray} {maxL : Nat} {ret : Option FieldType} {hh : List (Nat × Nat × Nat × Nat)}
    (hown : s.vm.findClass own = some m.cls) (hlink : (Cond.methodLink own index y).before args s = true) (hinst : (Cond.instanceMethod y).before args s = true) (hsel : (Cond.selects C y y).before args s = true)
    (hcode : (Cond.codeWith y bytes maxL ret hh).before args s = true) (hy : y.cls ≠ "java/lang/invoke/MethodHandle" ∧ y.cls ≠ "java/lang/invoke/VarHandle")
    {W9 : Nat} {Pre : Pt → Array Value → Prop} {Post : Pt → Array Value → Option Value → Pt → Prop} (hK : Back l R p e below s args y 3 W9 Pre Post)
    {b : Addr} {cellB : Cell} (hcell : T.heap[b]? = some cellB) (hobj : cellB.vm.isStatics = false) (hcls : s.vm.findClass C = some cellB.cls)
    {g : JFrame} (hg : g.method = m) (hsize : g.locals.size = c.maxLocals) {argsL rest : List Value} (hlen : ∀ sig, parseMethodDescriptor y.desc = some sig → argsL.length = sig.parameters.length)
    (hstack : g.stack = argsL.reverse ++ .ref b :: rest) (hW : 2 * g.monitorRoom + (rest.map fun v => v.category).sum ≤ W9) (hdg : decode c.code g.pc = .ok (.invokevirtual index, 3))
    (hpre : ∀ vm₁, s.WarmedH vm₁ → Pre ⟨T.setVm vm₁, locs, cells, slots⟩ (Value.ref b :: argsL).toArray) :
    ∃ (v : Option Value) (vm₁ : Vm) (B : Pt), s.WarmedH vm₁ ∧ Stand p l e R s m args below meth c B.U B.locs B.cells B.slots ∧ Post ⟨T.setVm vm₁, locs, cells, slots⟩ (Value.ref b :: argsL).toArray v B ∧
      ∀ target, Steps p.tables e below (B.U.setTop { g with pc := g.pc + 3, stack := v.toList ++ rest }) target → Steps p.tables e below (T.setTop g) target := by
  obtain ⟨mk, methM, hnamed, hmethM, hstM, habM⟩ := Cond.instanceMethod_spec hinst
  obtain ⟨m8, methM', cM, hn8, hmethM', -, -, -, -, -, -, hsigM⟩ := Cond.codeWith_spec hcode
  cases Option.some.inj (hn8.symm.trans hnamed)
  cases hmethM.symm.trans hmethM'
  obtain ⟨c2, r2, m2, q1, q2, q3, q4, kP, hkP, hkPi⟩ := Cond.selects_spec hsel
  cases hcls.symm.trans q1
  cases (State.methodFound?_of_named hnamed hy).symm.trans q2
  cases hnamed.symm.trans q3
  have hselP : selectMethod e.platform s.vm cellB.cls mk = .method mk := by rw [Launch.admits_selectMethod X.admits]; exact q4
  obtain ⟨vm₁, X₁, hstep₁⟩ := X.invokevirtual hexec hown hlink hnamed hmethM hstM hkP hkPi hy (a := b) (cell := cellB) hcell
    (fun z h => by rw [h] at hobj; cases hobj) hselP hmethM habM hkP hkPi (g := g) hg (argsL := argsL) (rest := rest) (hlen _ hsigM) hstack hdg
  obtain ⟨v, B, X', hpost, hsteps⟩ := hK m meth c ⟨T.setVm vm₁, locs, cells, slots⟩ { g with stack := rest } (.invokevirtual index) mk (Value.ref b :: argsL).toArray X₁ hg hsize hdg hW (X₁.named hnamed) (hpre vm₁ X₁.warmed)
  exact ⟨v, vm₁, B, X₁.warmed, X', hpost, fun target h => hstep₁ _ fun acts => by rw [doInvoke_state]; exact hsteps.trans h⟩
abbrev vx_CVW (R : Room) (s : State) (args : Array Value) (own C : String) (index : Nat) (y : MethodName) (bytes : ByteArray) (maxL : Nat) (ret : Option FieldType) (hh : List (Nat × Nat × Nat × Nat)) (ws : List Cond) (rm : Room) (mc ms n : Nat) : Prop :=
  (rm.cells = mc ∧ rm.slots = ms ∧ rm.frames + 1 ≤ R.frames ∧ 8 + (maxL + 11) + rm.locals ≤ R.locals ∧ (∀ w ∈ ws, ∀ (a' : Array Value) (U : State), s.WarmedH U.vm → w.before a' U = true) ∧ Cond.codeWith y bytes maxL ret hh ∈ ws) ∧
  (Cond.codeWith y bytes maxL ret hh).before args s = true ∧ (Cond.initialized y.cls).before args s = true ∧ (y.cls ≠ "java/lang/invoke/MethodHandle" ∧ y.cls ≠ "java/lang/invoke/VarHandle") ∧
  (∀ sig, parseMethodDescriptor y.desc = some sig → n = sig.parameters.length) ∧ (Cond.methodLink own index y).before args s = true ∧ (Cond.instanceMethod y).before args s = true ∧ (Cond.selects C y y).before args s = true
theorem vx_cwVW {own C : String} {index maxL mc ms : Nat} {y : MethodName} {bytes : ByteArray} {ret : Option FieldType} {hh : List (Nat × Nat × Nat × Nat)} {Ts ws ws' : List Cond} {rm : Room} (n : Nat) (ht : ∀ w ∈ Ts, w.before args s = true) (hT : GoodIn Ts (wsV own index C y ws)) (hw : ws = Cond.codeWith y bytes maxL ret hh :: ws') (hrc : rm.cells = mc) (hrs : rm.slots = ms)
    (hd : y.cls = C ∧ y.cls ≠ "java/lang/invoke/MethodHandle" ∧ y.cls ≠ "java/lang/invoke/VarHandle" ∧ (parseMethodDescriptor y.desc).map (fun d => d.parameters.length) = some n) (hR : rm.frames + 1 ≤ R.frames ∧ 8 + (maxL + 11) + rm.locals ≤ R.locals) :
    vx_CVW R s args own C index y bytes maxL ret hh ws rm mc ms n := by
  obtain ⟨hC, hd⟩ := hd
  subst hC
  have ok : ∀ w ∈ wsV own index y.cls y ws, w.before args s = true := fun w h => ht w (hT w h).1
  have hG : GoodIn Ts ws := fun w h => hT w (by unfold wsV; exact List.mem_append_right _ h)
  have hc : Cond.codeWith y bytes maxL ret hh ∈ ws := by rw [hw]; exact List.mem_cons_self
  refine ⟨⟨hrc, hrs, hR.1, hR.2, pay_in ht hG, hc⟩, ht _ (hG _ hc).1, ok _ (by simp [wsV]), ⟨hd.1, hd.2.1⟩, fun sig h => ?_, ok _ (by simp [wsV]), ok _ (by simp [wsV]), ok _ (by simp [wsV])⟩
  have h2 := hd.2.2
  rw [h] at h2
  exact (Option.some.inj h2).symm
theorem vx_runVW {y : MethodName} {bytes cc : ByteArray} {maxL nL mc ms n index : Nat} {ret : Option FieldType} {hh : List (Nat × Nat × Nat × Nat)} {ws : List Cond} {rm : Room} {Pc : Array Value → State → Prop} {Qc : Array Value → State → Outcome → State → Prop} {free : Addr → Prop} {Ts : List Cond} {own C : String} {b : Addr} {As rest : List Value} {g : JFrame}
    (S : CallFix p m c cc nL s args Ts own) (hM : Met l y ws rm Pc Qc mc ms free) (cw : vx_CVW R s args own C index y bytes maxL ret hh ws rm mc ms n) (hp : PreV s H C b Pc As)
    (hg : g.method = m) (hn : As.length = n) (hsize : g.locals.size = nL) (hstack : g.stack = As.reverse ++ .ref b :: rest) (hW : 2 * g.monitorRoom + (rest.map fun v => v.category).sum ≤ 8) (hdg : decode cc g.pc = .ok (.invokevirtual index, 3)) (hf : cells + mc ≤ R.cells ∧ slots + ms ≤ R.slots) :
    va_Run p l e R s m args below meth c H locs cells slots mc ms g rest (Qc (Value.ref b :: As).toArray) free := by
  obtain ⟨⟨hrc, hrs, hfr, hlo, hws, hcw⟩, hcode, hini, hy, hlen, hl, hin, hse⟩ := cw
  have hK : Back l R p e below s args y 3 8 (PreOf R mc ms Pc) (PostOf Qc mc ms free) := va_backW (hh := hh) (bytes := bytes) (maxL := maxL) (ret := ret) hM hp.1 hrc hrs hfr hlo hws hcw (fun a' U hW => word_at hW (Or.inl (by first | rfl | simp [Cond.onTables, Cond.keeps, Cond.steady])) hini)
  obtain ⟨hx, hb, hml, ho, -⟩ := S
  obtain ⟨-, ⟨cellB, hcB, hoB, hclB⟩, hPc⟩ := hp
  intro T hT X
  obtain ⟨v, vm₁, ⟨U', l2, c2, s2⟩, hW₁, X', ⟨g', mk, t, L, e1, e2, hq, h1, hL, h2, h3⟩, st⟩ := vx_callVW X hx (C := C) (hh := hh) (bytes := bytes) (maxL := maxL) (ret := ret) ho hl hin hse hcode hy hK (by rw [hT]; exact hcB) hoB hclB hg (hsize.trans hml.symm) (argsL := As) (rest := rest) (fun sig h => hn.trans (hlen sig h)) hstack hW (by rw [hb]; exact hdg)
    (fun vm₁ hW₁ => ⟨hf.1, hf.2, hPc (T.setVm vm₁) hT hW₁⟩)
  dsimp only [Pt.U, Pt.locs, Pt.cells, Pt.slots] at X' e1 e2 h1 h2 h3 st
  subst h1; subst h2; subst h3
  exact ⟨v, (T.setVm vm₁).calling g' mk (Value.ref b :: As).toArray, t, U', L, hT, X', hL, e1, e2, hq, st⟩
section
variable {y : MethodName} {bytes cc : ByteArray} {maxL nL mc ms n index : Nat} {ret : Option FieldType} {ws : List Cond} {rm : Room} {Pc : Array Value → State → Prop} {Qc : Array Value → State → Outcome → State → Prop} {XC : String → State → State → Prop} {free : Addr → Prop} {Ts : List Cond} {own C : String} {b : Addr} {As rest : List Value} {g : JFrame}
theorem vx_runVX {hh : List (Nat × Nat × Nat × Nat)} (S : CallFix p m c cc nL s args Ts own) (hM : vx_Met l y ws rm Pc Qc XC mc ms free) (cw : vx_CVW R s args own C index y bytes maxL ret hh ws rm mc ms n) (hp : PreV s H C b Pc As)
    (hg : g.method = m) (hn : As.length = n) (hsize : g.locals.size = nL) (hstack : g.stack = As.reverse ++ .ref b :: rest) (hW : 2 * g.monitorRoom + (rest.map fun v => v.category).sum ≤ 8) (hdg : decode cc g.pc = .ok (.invokevirtual index, 3)) (hf : cells + mc ≤ R.cells ∧ slots + ms ≤ R.slots) :
    vx_Run p l e R s m args below meth c H locs cells slots mc ms g rest (Qc (Value.ref b :: As).toArray) XC free := by
  obtain ⟨⟨hrc, hrs, hfr, hlo, hws, hcw⟩, hcode, hini, hy, hlen, hl, hin, hse⟩ := cw
  have hK : vx_Back l R p e below s args y 3 8 (PreOf R mc ms Pc) (PostOf Qc mc ms free) (vx_Post XC mc ms free) := vx_backW (hh := hh) (bytes := bytes) (maxL := maxL) (ret := ret) hM hp.1 hrc hrs hfr hlo hws hcw (fun a' U hW => word_at hW (Or.inl (by first | rfl | simp [Cond.onTables, Cond.keeps, Cond.steady])) hini)
  obtain ⟨hx, hb, hml, ho, -⟩ := S
  obtain ⟨-, ⟨cellB, hcB, hoB, hclB⟩, hPc⟩ := hp
  intro T hT X
  rcases vx_callVX X hx (C := C) (hh := hh) (bytes := bytes) (maxL := maxL) (ret := ret) ho hl hin hse hcode hy hK (by rw [hT]; exact hcB) hoB hclB hg (hsize.trans hml.symm) (argsL := As) (rest := rest) (fun sig h => hn.trans (hlen sig h)) hstack hW (by rw [hb]; exact hdg)
    (fun vm₁ hW₁ => ⟨hf.1, hf.2, hPc (T.setVm vm₁) hT hW₁⟩) with ⟨v, vm₁, ⟨U', l2, c2, s2⟩, hW₁, X', ⟨g', mk, t, L, e1, e2, hq, h1, hL, h2, h3⟩, st⟩ | ⟨q, vm₁, ⟨U', l2, c2, s2⟩, hW₁, X', ⟨g', mk, t, L, E, ce, e1, e2, hq, hce, hcv, hcl, h1, hL, h2, h3⟩, st⟩
  · dsimp only [Pt.U, Pt.locs, Pt.cells, Pt.slots] at X' e1 e2 h1 h2 h3 st
    subst h1; subst h2; subst h3
    exact Or.inl ⟨v, (T.setVm vm₁).calling g' mk (Value.ref b :: As).toArray, t, U', L, hT, X', hL, e1, e2, hq, st⟩
  · dsimp only [Pt.U, Pt.locs, Pt.cells, Pt.slots] at X' e1 e2 h1 h2 h3 st hcl
    subst h1; subst h2; subst h3
    exact Or.inr ⟨q, (T.setVm vm₁).calling g' mk (Value.ref b :: As).toArray, t, U', L, E, ce, hT, X', hL, e1, e2, hq, hce, hcv, vx_cls hW₁ hcl, st⟩
theorem vx_runSX {hh : List (Nat × Nat × Nat × Nat)} (S : CallFix p m c cc nL s args Ts own) (hM : vx_Met l y ws rm Pc Qc XC mc ms free) (cw : vx_CSW R s args own index y bytes maxL ret hh ws rm mc ms n) (hp : PreS s H Pc As)
    (hg : g.method = m) (hn : As.length = n) (hsize : g.locals.size = nL) (hstack : g.stack = As.reverse ++ rest) (hW : 2 * g.monitorRoom + (rest.map fun v => v.category).sum ≤ 8) (hdg : decode cc g.pc = .ok (.invokestatic index, 3)) (hf : cells + mc ≤ R.cells ∧ slots + ms ≤ R.slots) :
    vx_Run p l e R s m args below meth c H locs cells slots mc ms g rest (Qc As.toArray) XC free := by
  obtain ⟨⟨hrc, hrs, hfr, hlo, hws, hcw⟩, hcode, hini, hy, hlen, hl, hstt⟩ := cw
  have hK : vx_Back l R p e below s args y 3 8 (PreOf R mc ms Pc) (PostOf Qc mc ms free) (vx_Post XC mc ms free) := vx_backW (hh := hh) (bytes := bytes) (maxL := maxL) (ret := ret) hM hp.1 hrc hrs hfr hlo hws hcw (fun a' U hW => word_at hW (Or.inl (by first | rfl | simp [Cond.onTables, Cond.keeps, Cond.steady])) hini)
  obtain ⟨hx, hb, hml, ho, -⟩ := S
  intro T hT X
  rcases vx_callSX X hx (hh := hh) (bytes := bytes) (maxL := maxL) (ret := ret) ho hl hstt hini hcode hy hK hg (hsize.trans hml.symm) (argsL := As) (rest := rest) (fun sig h => hn.trans (hlen sig h)) hstack hW (by rw [hb]; exact hdg)
    (fun vm₁ hW₁ => ⟨hf.1, hf.2, hp.2 (T.setVm vm₁) hT hW₁⟩) with ⟨v, vm₁, ⟨U', l2, c2, s2⟩, hW₁, X', ⟨g', mk, t, L, e1, e2, hq, h1, hL, h2, h3⟩, st⟩ | ⟨q, vm₁, ⟨U', l2, c2, s2⟩, hW₁, X', ⟨g', mk, t, L, E, ce, e1, e2, hq, hce, hcv, hcl, h1, hL, h2, h3⟩, st⟩
  · dsimp only [Pt.U, Pt.locs, Pt.cells, Pt.slots] at X' e1 e2 h1 h2 h3 st
    subst h1; subst h2; subst h3
    exact Or.inl ⟨v, (T.setVm vm₁).calling g' mk As.toArray, t, U', L, hT, X', hL, e1, e2, hq, st⟩
  · dsimp only [Pt.U, Pt.locs, Pt.cells, Pt.slots] at X' e1 e2 h1 h2 h3 st hcl
    subst h1; subst h2; subst h3
    exact Or.inr ⟨q, (T.setVm vm₁).calling g' mk As.toArray, t, U', L, E, ce, hT, X', hL, e1, e2, hq, hce, hcv, vx_cls hW₁ hcl, st⟩
end
end VXH
theorem vx_ofWH {l : Launch} {y : MethodName} {ws ws' : List Cond} {rm : Room} {Pc : Array Value → State → Prop} {Qc : Array Value → State → Outcome → State → Prop} {XC : String → State → State → Prop} {mc ms : Nat} {free : Addr → Prop} {cc : ByteArray} {maxL : Nat} {ret : Option FieldType} {hh : List (Nat × Nat × Nat × Nat)}
    (hy : plainName y.cls = true) (hw : ws = Cond.codeWith y cc maxL ret hh :: ws')
    (body : ∀ p e s m args below meth c s₁, BodyLoose p l y (headSpec ws rm) cc maxL ret e s m args below meth c s₁ → c.maxLocals = maxL → Pc args s →
      W p l e (headSpec ws rm).room s m args below meth c s.heap [] 0 0 (vx_MQ below Qc XC args s mc ms free) (entryFrame m args maxL)) : vx_Met l y ws rm Pc Qc XC mc ms free := by
  refine MetFree.of_bodyS (code := cc) (maxLocals := maxL) (ret := ret) hy ?_ ?_
  · intro args s m h hn
    obtain ⟨m9, meth, c, hn9, h1, h2, h3, h4, -, h5, h6, -⟩ := Cond.codeWith_spec (atoms_spec (ws := ws) h _ (by rw [hw]; exact List.mem_cons_self))
    cases hn.symm.trans hn9
    exact ⟨meth, c, h1, h2, h3, h4, h5, h6⟩
  · intro p e s m args below meth c s₁ B hml hP _
    have hh0 : s₁.heap = s.heap := by rw [B.state]; rfl
    obtain ⟨t, a1, o, b1, b2, b3⟩ := body p e s m args below meth c s₁ B hml hP s₁ hh0 (Stand.of_body B)
    exact ⟨t, o, a1, b1, b2, b3⟩
/-! ===== END ===== -/
end
section
def RX0 : String := "ChanceHall$Chain"
def TX0 : u_T := fun k => match k with
  | 0 => ("ChanceHall$Chain", "states", "I", false)
  | 1 => ("ChanceHall$Chain", "slots", "I", false)
  | 2 => ("ChanceHall$Chain", "goesTo", "[[I", true)
  | _ => ("ChanceHall$Chain", "weights", "[[I", true)
def tyX0 : Nat → FieldType := fun k => match k with
  | 0 => .int
  | 1 => .int
  | 2 => .array (.array .int)
  | _ => .array (.array .int)
abbrev wsX00 : List Cond := u_ws RX0 TX0 4
theorem nmX0 : ∀ a, a < 4 → ∀ b, b < 4 → a ≠ b → (TX0 a).2.1 ≠ (TX0 b).2.1 := by decide +kernel
theorem tyX0_ok : ∀ k, k < 4 → parseFieldDescriptor (TX0 k).2.2.1 = some (tyX0 k) := by decide +kernel
abbrev cX0_init : ByteArray := prog_2_method_1_code
def yX0_init : MethodName := ⟨RX0, "<init>", "()V"⟩
abbrev cX0_setOut : ByteArray := prog_2_method_2_code
def yX0_setOut : MethodName := ⟨RX0, "setOut", "(II)V"⟩
abbrev cX0_turn : ByteArray := prog_2_method_3_code
def yX0_turn : MethodName := ⟨RX0, "turn", "(III)I"⟩
abbrev cX0_exchange : ByteArray := prog_2_method_4_code
def yX0_exchange : MethodName := ⟨RX0, "exchange", "(III)V"⟩
abbrev cX0_countWords : ByteArray := prog_2_method_5_code
def yX0_countWords : MethodName := ⟨RX0, "countWords", "(I)J"⟩
abbrev cX0_sumOverSlots : ByteArray := prog_2_method_6_code
def yX0_sumOverSlots : MethodName := ⟨RX0, "sumOverSlots", "(I[J)J"⟩
def RX1 : String := "ChanceHall$Classes"
def TX1 : u_T := fun k => match k with
  | _ => ("ChanceHall$Classes", "chain", "LChanceHall$Chain;", true)
def tyX1 : Nat → FieldType := fun k => match k with
  | _ => .object "ChanceHall$Chain"
abbrev wsX10 : List Cond := u_ws RX1 TX1 1
theorem nmX1 : ∀ a, a < 1 → ∀ b, b < 1 → a ≠ b → (TX1 a).2.1 ≠ (TX1 b).2.1 := by decide +kernel
theorem tyX1_ok : ∀ k, k < 1 → parseFieldDescriptor (TX1 k).2.2.1 = some (tyX1 k) := by decide +kernel
abbrev cX1_init : ByteArray := prog_3_method_1_code
def yX1_init : MethodName := ⟨RX1, "<init>", "(LChanceHall$Chain;)V"⟩
abbrev cX1_reachedFrom : ByteArray := prog_3_method_2_code
def yX1_reachedFrom : MethodName := ⟨RX1, "reachedFrom", "(I)I"⟩
abbrev cX1_setOneStepOn : ByteArray := prog_3_method_3_code
def yX1_setOneStepOn : MethodName := ⟨RX1, "setOneStepOn", "(I)I"⟩
abbrev cX1_countClosed : ByteArray := prog_3_method_4_code
def yX1_countClosed : MethodName := ⟨RX1, "countClosed", "()I"⟩
abbrev cX1_isLowestOfClosed : ByteArray := prog_3_method_5_code
def yX1_isLowestOfClosed : MethodName := ⟨RX1, "isLowestOfClosed", "(I)Z"⟩
abbrev cX1_periodOf : ByteArray := prog_3_method_6_code
def yX1_periodOf : MethodName := ⟨RX1, "periodOf", "(I)I"⟩
abbrev cX1_greatestDivisor : ByteArray := prog_3_method_7_code
def yX1_greatestDivisor : MethodName := ⟨RX1, "greatestDivisor", "(I)I"⟩
abbrev cX1_dividesAll : ByteArray := prog_3_method_8_code
def yX1_dividesAll : MethodName := ⟨RX1, "dividesAll", "(II)Z"⟩
def RX2 : String := "ChanceHall$Crowds"
def TX2 : u_T := fun k => match k with
  | 0 => ("ChanceHall$Crowds", "chain", "LChanceHall$Chain;", true)
  | 1 => ("ChanceHall$Crowds", "apartRows", "[[J", true)
  | _ => ("ChanceHall$Crowds", "setRows", "[[J", true)
def tyX2 : Nat → FieldType := fun k => match k with
  | 0 => .object "ChanceHall$Chain"
  | 1 => .array (.array .long)
  | _ => .array (.array .long)
abbrev wsX20 : List Cond := u_ws RX2 TX2 3
theorem nmX2 : ∀ a, a < 3 → ∀ b, b < 3 → a ≠ b → (TX2 a).2.1 ≠ (TX2 b).2.1 := by decide +kernel
theorem tyX2_ok : ∀ k, k < 3 → parseFieldDescriptor (TX2 k).2.2.1 = some (tyX2 k) := by decide +kernel
abbrev cX2_init : ByteArray := prog_4_method_1_code
def yX2_init : MethodName := ⟨RX2, "<init>", "(LChanceHall$Chain;)V"⟩
abbrev cX2_countApart : ByteArray := prog_4_method_2_code
def yX2_countApart : MethodName := ⟨RX2, "countApart", "(III)J"⟩
abbrev cX2_apartFrom : ByteArray := prog_4_method_3_code
def yX2_apartFrom : MethodName := ⟨RX2, "apartFrom", "(III)J"⟩
abbrev cX2_countTogether : ByteArray := prog_4_method_4_code
def yX2_countTogether : MethodName := ⟨RX2, "countTogether", "(II)J"⟩
abbrev cX2_moveCrowds : ByteArray := prog_4_method_5_code
def yX2_moveCrowds : MethodName := ⟨RX2, "moveCrowds", "(IJ[J)V"⟩
abbrev cX2_setBehind : ByteArray := prog_4_method_6_code
def yX2_setBehind : MethodName := ⟨RX2, "setBehind", "(II)I"⟩
def RX3 : String := "ChanceHall$Draws"
def TX3 : u_T := fun k => match k with
  | 0 => ("ChanceHall$Draws", "chain", "LChanceHall$Chain;", true)
  | 1 => ("ChanceHall$Draws", "ends", "[I", true)
  | _ => ("ChanceHall$Draws", "endsBefore", "[I", true)
def tyX3 : Nat → FieldType := fun k => match k with
  | 0 => .object "ChanceHall$Chain"
  | 1 => .array .int
  | _ => .array .int
abbrev wsX30 : List Cond := u_ws RX3 TX3 3
theorem nmX3 : ∀ a, a < 3 → ∀ b, b < 3 → a ≠ b → (TX3 a).2.1 ≠ (TX3 b).2.1 := by decide +kernel
theorem tyX3_ok : ∀ k, k < 3 → parseFieldDescriptor (TX3 k).2.2.1 = some (tyX3 k) := by decide +kernel
abbrev cX3_init : ByteArray := prog_5_method_1_code
def yX3_init : MethodName := ⟨RX3, "<init>", "(LChanceHall$Chain;)V"⟩
abbrev cX3_walkOn : ByteArray := prog_5_method_2_code
def yX3_walkOn : MethodName := ⟨RX3, "walkOn", "(III)I"⟩
abbrev cX3_drawFromPast : ByteArray := prog_5_method_3_code
def yX3_drawFromPast : MethodName := ⟨RX3, "drawFromPast", "(I)I"⟩
abbrev cX3_isTogether : ByteArray := prog_5_method_4_code
def yX3_isTogether : MethodName := ⟨RX3, "isTogether", "()Z"⟩
abbrev cX3_putAhead : ByteArray := prog_5_method_5_code
def yX3_putAhead : MethodName := ⟨RX3, "putAhead", "(I)V"⟩
abbrev cX3_slotOf : ByteArray := prog_5_method_6_code
def yX3_slotOf : MethodName := ⟨RX3, "slotOf", "(I)I"⟩
abbrev cX3_seedBehind : ByteArray := prog_5_method_7_code
def yX3_seedBehind : MethodName := ⟨RX3, "seedBehind", "(I)I"⟩
def RX4 : String := "ChanceHall$Games"
def TX4 : u_T := fun k => match k with
  | 0 => ("ChanceHall$Games", "chain", "LChanceHall$Chain;", true)
  | 1 => ("ChanceHall$Games", "pays", "[I", true)
  | _ => ("ChanceHall$Games", "bests", "[[J", true)
def tyX4 : Nat → FieldType := fun k => match k with
  | 0 => .object "ChanceHall$Chain"
  | 1 => .array .int
  | _ => .array (.array .long)
abbrev wsX40 : List Cond := u_ws RX4 TX4 3
theorem nmX4 : ∀ a, a < 3 → ∀ b, b < 3 → a ≠ b → (TX4 a).2.1 ≠ (TX4 b).2.1 := by decide +kernel
theorem tyX4_ok : ∀ k, k < 3 → parseFieldDescriptor (TX4 k).2.2.1 = some (tyX4 k) := by decide +kernel
abbrev cX4_init : ByteArray := prog_6_method_1_code
def yX4_init : MethodName := ⟨RX4, "<init>", "(LChanceHall$Chain;)V"⟩
abbrev cX4_forget : ByteArray := prog_6_method_2_code
def yX4_forget : MethodName := ⟨RX4, "forget", "()V"⟩
abbrev cX4_setPay : ByteArray := prog_6_method_3_code
def yX4_setPay : MethodName := ⟨RX4, "setPay", "(II)I"⟩
abbrev cX4_driftOf : ByteArray := prog_6_method_4_code
def yX4_driftOf : MethodName := ⟨RX4, "driftOf", "(I)J"⟩
abbrev cX4_bestOf : ByteArray := prog_6_method_5_code
def yX4_bestOf : MethodName := ⟨RX4, "bestOf", "(II)J"⟩
abbrev cX4_isBestToStop : ByteArray := prog_6_method_6_code
def yX4_isBestToStop : MethodName := ⟨RX4, "isBestToStop", "(II)Z"⟩
abbrev cX4_countBests : ByteArray := prog_6_method_7_code
def yX4_countBests : MethodName := ⟨RX4, "countBests", "(I)V"⟩
abbrev cX4_byStopping : ByteArray := prog_6_method_8_code
def yX4_byStopping : MethodName := ⟨RX4, "byStopping", "(II)J"⟩
abbrev cX4_byGoingOn : ByteArray := prog_6_method_9_code
def yX4_byGoingOn : MethodName := ⟨RX4, "byGoingOn", "(II)J"⟩
def RX5 : String := "ChanceHall$Laws"
def TX5 : u_T := fun k => match k with
  | 0 => ("ChanceHall$Laws", "chain", "LChanceHall$Chain;", true)
  | 1 => ("ChanceHall$Laws", "rows", "[[J", true)
  | _ => ("ChanceHall$Laws", "hitRows", "[[J", true)
def tyX5 : Nat → FieldType := fun k => match k with
  | 0 => .object "ChanceHall$Chain"
  | 1 => .array (.array .long)
  | _ => .array (.array .long)
abbrev wsX50 : List Cond := u_ws RX5 TX5 3
theorem nmX5 : ∀ a, a < 3 → ∀ b, b < 3 → a ≠ b → (TX5 a).2.1 ≠ (TX5 b).2.1 := by decide +kernel
theorem tyX5_ok : ∀ k, k < 3 → parseFieldDescriptor (TX5 k).2.2.1 = some (tyX5 k) := by decide +kernel
abbrev cX5_init : ByteArray := prog_7_method_1_code
def yX5_init : MethodName := ⟨RX5, "<init>", "(LChanceHall$Chain;)V"⟩
abbrev cX5_countLaws : ByteArray := prog_7_method_2_code
def yX5_countLaws : MethodName := ⟨RX5, "countLaws", "(I)V"⟩
abbrev cX5_goOneStep : ByteArray := prog_7_method_3_code
def yX5_goOneStep : MethodName := ⟨RX5, "goOneStep", "(I[J[J)V"⟩
abbrev cX5_countLaw : ByteArray := prog_7_method_4_code
def yX5_countLaw : MethodName := ⟨RX5, "countLaw", "(III)J"⟩
abbrev cX5_distanceBehind : ByteArray := prog_7_method_5_code
def yX5_distanceBehind : MethodName := ⟨RX5, "distanceBehind", "(III)J"⟩
abbrev cX5_isMixed : ByteArray := prog_7_method_6_code
def yX5_isMixed : MethodName := ⟨RX5, "isMixed", "(II)Z"⟩
abbrev cX5_countHits : ByteArray := prog_7_method_7_code
def yX5_countHits : MethodName := ⟨RX5, "countHits", "(III)J"⟩
abbrev cX5_hitsIn : ByteArray := prog_7_method_8_code
def yX5_hitsIn : MethodName := ⟨RX5, "hitsIn", "(III)J"⟩
def RX6 : String := "ChanceHall$Lumps"
def TX6 : u_T := fun k => match k with
  | 0 => ("ChanceHall$Lumps", "chain", "LChanceHall$Chain;", true)
  | _ => ("ChanceHall$Lumps", "colours", "[I", true)
def tyX6 : Nat → FieldType := fun k => match k with
  | 0 => .object "ChanceHall$Chain"
  | _ => .array .int
abbrev wsX60 : List Cond := u_ws RX6 TX6 2
theorem nmX6 : ∀ a, a < 2 → ∀ b, b < 2 → a ≠ b → (TX6 a).2.1 ≠ (TX6 b).2.1 := by decide +kernel
theorem tyX6_ok : ∀ k, k < 2 → parseFieldDescriptor (TX6 k).2.2.1 = some (tyX6 k) := by decide +kernel
abbrev cX6_init : ByteArray := prog_8_method_1_code
def yX6_init : MethodName := ⟨RX6, "<init>", "(LChanceHall$Chain;)V"⟩
abbrev cX6_forget : ByteArray := prog_8_method_2_code
def yX6_forget : MethodName := ⟨RX6, "forget", "()V"⟩
abbrev cX6_setColour : ByteArray := prog_8_method_3_code
def yX6_setColour : MethodName := ⟨RX6, "setColour", "(II)I"⟩
abbrev cX6_isChainLumped : ByteArray := prog_8_method_4_code
def yX6_isChainLumped : MethodName := ⟨RX6, "isChainLumped", "()Z"⟩
abbrev cX6_leadAlike : ByteArray := prog_8_method_5_code
def yX6_leadAlike : MethodName := ⟨RX6, "leadAlike", "(II)Z"⟩
abbrev cX6_weightTo : ByteArray := prog_8_method_6_code
def yX6_weightTo : MethodName := ⟨RX6, "weightTo", "(II)I"⟩
def RX7 : String := "ChanceHall$Trees"
def TX7 : u_T := fun k => match k with
  | 0 => ("ChanceHall$Trees", "chain", "LChanceHall$Chain;", true)
  | 1 => ("ChanceHall$Trees", "rests", "[J", true)
  | 2 => ("ChanceHall$Trees", "others", "[I", true)
  | _ => ("ChanceHall$Trees", "minors", "[J", true)
def tyX7 : Nat → FieldType := fun k => match k with
  | 0 => .object "ChanceHall$Chain"
  | 1 => .array .long
  | 2 => .array .int
  | _ => .array .long
abbrev wsX70 : List Cond := u_ws RX7 TX7 4
theorem nmX7 : ∀ a, a < 4 → ∀ b, b < 4 → a ≠ b → (TX7 a).2.1 ≠ (TX7 b).2.1 := by decide +kernel
theorem tyX7_ok : ∀ k, k < 4 → parseFieldDescriptor (TX7 k).2.2.1 = some (tyX7 k) := by decide +kernel
abbrev cX7_init : ByteArray := prog_9_method_1_code
def yX7_init : MethodName := ⟨RX7, "<init>", "(LChanceHall$Chain;)V"⟩
abbrev cX7_countRests : ByteArray := prog_9_method_2_code
def yX7_countRests : MethodName := ⟨RX7, "countRests", "()V"⟩
abbrev cX7_wholeRest : ByteArray := prog_9_method_3_code
def yX7_wholeRest : MethodName := ⟨RX7, "wholeRest", "()J"⟩
abbrev cX7_restOf : ByteArray := prog_9_method_4_code
def yX7_restOf : MethodName := ⟨RX7, "restOf", "(I)J"⟩
abbrev cX7_listOthers : ByteArray := prog_9_method_5_code
def yX7_listOthers : MethodName := ⟨RX7, "listOthers", "(I)V"⟩
abbrev cX7_minorOf : ByteArray := prog_9_method_6_code
def yX7_minorOf : MethodName := ⟨RX7, "minorOf", "(II)J"⟩
abbrev cX7_entry : ByteArray := prog_9_method_7_code
def yX7_entry : MethodName := ⟨RX7, "entry", "(II)J"⟩
abbrev cX7_countAhead : ByteArray := prog_9_method_8_code
def yX7_countAhead : MethodName := ⟨RX7, "countAhead", "(I)I"⟩
abbrev cX7_isTheSameBackwards : ByteArray := prog_9_method_9_code
def yX7_isTheSameBackwards : MethodName := ⟨RX7, "isTheSameBackwards", "()Z"⟩
def RX8 : String := "ChanceHall"
def TX8 : u_T := fun k => match k with
  | 0 => ("ChanceHall", "chain", "LChanceHall$Chain;", true)
  | 1 => ("ChanceHall", "laws", "LChanceHall$Laws;", true)
  | 2 => ("ChanceHall", "crowds", "LChanceHall$Crowds;", true)
  | 3 => ("ChanceHall", "classes", "LChanceHall$Classes;", true)
  | 4 => ("ChanceHall", "trees", "LChanceHall$Trees;", true)
  | 5 => ("ChanceHall", "draws", "LChanceHall$Draws;", true)
  | 6 => ("ChanceHall", "games", "LChanceHall$Games;", true)
  | _ => ("ChanceHall", "lumps", "LChanceHall$Lumps;", true)
def tyX8 : Nat → FieldType := fun k => match k with
  | 0 => .object "ChanceHall$Chain"
  | 1 => .object "ChanceHall$Laws"
  | 2 => .object "ChanceHall$Crowds"
  | 3 => .object "ChanceHall$Classes"
  | 4 => .object "ChanceHall$Trees"
  | 5 => .object "ChanceHall$Draws"
  | 6 => .object "ChanceHall$Games"
  | _ => .object "ChanceHall$Lumps"
abbrev wsX80 : List Cond := u_ws RX8 TX8 8
theorem nmX8 : ∀ a, a < 8 → ∀ b, b < 8 → a ≠ b → (TX8 a).2.1 ≠ (TX8 b).2.1 := by decide +kernel
theorem tyX8_ok : ∀ k, k < 8 → parseFieldDescriptor (TX8 k).2.2.1 = some (tyX8 k) := by decide +kernel
abbrev cX8_init : ByteArray := prog_1_method_1_code
def yX8_init : MethodName := ⟨RX8, "<init>", "()V"⟩
abbrev cX8_begin : ByteArray := prog_1_method_2_code
def yX8_begin : MethodName := ⟨RX8, "begin", "(II)V"⟩
abbrev cX8_lead : ByteArray := prog_1_method_3_code
def yX8_lead : MethodName := ⟨RX8, "lead", "(III)I"⟩
abbrev cX8_swap : ByteArray := prog_1_method_4_code
def yX8_swap : MethodName := ⟨RX8, "swap", "(III)V"⟩
abbrev cX8_pay : ByteArray := prog_1_method_5_code
def yX8_pay : MethodName := ⟨RX8, "pay", "(II)I"⟩
abbrev cX8_colour : ByteArray := prog_1_method_6_code
def yX8_colour : MethodName := ⟨RX8, "colour", "(II)I"⟩
abbrev cX8_weight : ByteArray := prog_1_method_7_code
def yX8_weight : MethodName := ⟨RX8, "weight", "(II)I"⟩
abbrev cX8_words : ByteArray := prog_1_method_8_code
def yX8_words : MethodName := ⟨RX8, "words", "(I)J"⟩
abbrev cX8_law : ByteArray := prog_1_method_9_code
def yX8_law : MethodName := ⟨RX8, "law", "(III)J"⟩
abbrev cX8_lawAnew : ByteArray := prog_1_method_10_code
def yX8_lawAnew : MethodName := ⟨RX8, "lawAnew", "(III)J"⟩
abbrev cX8_distance : ByteArray := prog_1_method_11_code
def yX8_distance : MethodName := ⟨RX8, "distance", "(III)J"⟩
abbrev cX8_mixing : ByteArray := prog_1_method_12_code
def yX8_mixing : MethodName := ⟨RX8, "mixing", "(I)I"⟩
abbrev cX8_apart : ByteArray := prog_1_method_13_code
def yX8_apart : MethodName := ⟨RX8, "apart", "(III)J"⟩
abbrev cX8_together : ByteArray := prog_1_method_14_code
def yX8_together : MethodName := ⟨RX8, "together", "(II)J"⟩
abbrev cX8_hits : ByteArray := prog_1_method_15_code
def yX8_hits : MethodName := ⟨RX8, "hits", "(III)J"⟩
abbrev cX8_reach : ByteArray := prog_1_method_16_code
def yX8_reach : MethodName := ⟨RX8, "reach", "(I)I"⟩
abbrev cX8_closed : ByteArray := prog_1_method_17_code
def yX8_closed : MethodName := ⟨RX8, "closed", "()I"⟩
abbrev cX8_period : ByteArray := prog_1_method_18_code
def yX8_period : MethodName := ⟨RX8, "period", "(I)I"⟩
abbrev cX8_rest : ByteArray := prog_1_method_19_code
def yX8_rest : MethodName := ⟨RX8, "rest", "(I)J"⟩
abbrev cX8_share : ByteArray := prog_1_method_20_code
def yX8_share : MethodName := ⟨RX8, "share", "(I)F"⟩
abbrev cX8_ranked : ByteArray := prog_1_method_21_code
def yX8_ranked : MethodName := ⟨RX8, "ranked", "(I)I"⟩
abbrev cX8_walk : ByteArray := prog_1_method_22_code
def yX8_walk : MethodName := ⟨RX8, "walk", "(III)I"⟩
abbrev cX8_draw : ByteArray := prog_1_method_23_code
def yX8_draw : MethodName := ⟨RX8, "draw", "(I)I"⟩
abbrev cX8_drift : ByteArray := prog_1_method_24_code
def yX8_drift : MethodName := ⟨RX8, "drift", "(I)J"⟩
abbrev cX8_isFair : ByteArray := prog_1_method_25_code
def yX8_isFair : MethodName := ⟨RX8, "isFair", "()Z"⟩
abbrev cX8_best : ByteArray := prog_1_method_26_code
def yX8_best : MethodName := ⟨RX8, "best", "(II)J"⟩
abbrev cX8_stops : ByteArray := prog_1_method_27_code
def yX8_stops : MethodName := ⟨RX8, "stops", "(II)Z"⟩
abbrev cX8_reverses : ByteArray := prog_1_method_28_code
def yX8_reverses : MethodName := ⟨RX8, "reverses", "()Z"⟩
abbrev cX8_isLumped : ByteArray := prog_1_method_29_code
def yX8_isLumped : MethodName := ⟨RX8, "isLumped", "()Z"⟩
abbrev cX8_needState : ByteArray := prog_1_method_30_code
def yX8_needState : MethodName := ⟨RX8, "needState", "(I)V"⟩
abbrev cX8_needSlot : ByteArray := prog_1_method_31_code
def yX8_needSlot : MethodName := ⟨RX8, "needSlot", "(I)V"⟩
abbrev cX8_needRange : ByteArray := prog_1_method_32_code
def yX8_needRange : MethodName := ⟨RX8, "needRange", "(III)V"⟩
abbrev cX8_pairOf : ByteArray := prog_1_method_33_code
def yX8_pairOf : MethodName := ⟨RX8, "pairOf", "(II)I"⟩
abbrev cX8_goThroughWords : ByteArray := prog_1_method_34_code
def yX8_goThroughWords : MethodName := ⟨RX8, "goThroughWords", "(LChanceHall$Chain;III)J"⟩
def RX9 : String := "ChanceHallModel"
def TX9 : u_T := fun k => match k with
  | 0 => ("ChanceHallModel", "states", "I", false)
  | 1 => ("ChanceHallModel", "slots", "I", false)
  | 2 => ("ChanceHallModel", "to", "[I", true)
  | 3 => ("ChanceHallModel", "pay", "[I", true)
  | 4 => ("ChanceHallModel", "colour", "[I", true)
  | 5 => ("ChanceHallModel", "now", "[J", true)
  | 6 => ("ChanceHallModel", "then", "[J", true)
  | 7 => ("ChanceHallModel", "others", "[J", true)
  | 8 => ("ChanceHallModel", "minor", "[J", true)
  | 9 => ("ChanceHallModel", "weights", "[J", true)
  | 10 => ("ChanceHallModel", "map", "[I", true)
  | 11 => ("ChanceHallModel", "next", "[I", true)
  | _ => ("ChanceHallModel", "thrown", "I", false)
def tyX9 : Nat → FieldType := fun k => match k with
  | 0 => .int
  | 1 => .int
  | 2 => .array .int
  | 3 => .array .int
  | 4 => .array .int
  | 5 => .array .long
  | 6 => .array .long
  | 7 => .array .long
  | 8 => .array .long
  | 9 => .array .long
  | 10 => .array .int
  | 11 => .array .int
  | _ => .int
abbrev wsX90 : List Cond := u_ws RX9 TX9 13
theorem nmX9 : ∀ a, a < 13 → ∀ b, b < 13 → a ≠ b → (TX9 a).2.1 ≠ (TX9 b).2.1 := by decide +kernel
theorem tyX9_ok : ∀ k, k < 13 → parseFieldDescriptor (TX9 k).2.2.1 = some (tyX9 k) := by decide +kernel
abbrev cX9_init : ByteArray := prog_11_method_1_code
def yX9_init : MethodName := ⟨RX9, "<init>", "()V"⟩
abbrev cX9_thrown : ByteArray := prog_11_method_2_code
def yX9_thrown : MethodName := ⟨RX9, "thrown", "()I"⟩
abbrev cX9_can : ByteArray := prog_11_method_3_code
def yX9_can : MethodName := ⟨RX9, "can", "(I)Z"⟩
abbrev cX9_isIn : ByteArray := prog_11_method_4_code
def yX9_isIn : MethodName := ⟨RX9, "isIn", "(III)Z"⟩
abbrev cX9_isState : ByteArray := prog_11_method_5_code
def yX9_isState : MethodName := ⟨RX9, "isState", "(I)Z"⟩
abbrev cX9_isSlot : ByteArray := prog_11_method_6_code
def yX9_isSlot : MethodName := ⟨RX9, "isSlot", "(I)Z"⟩
abbrev cX9_areSteps : ByteArray := prog_11_method_7_code
def yX9_areSteps : MethodName := ⟨RX9, "areSteps", "(I)Z"⟩
abbrev cX9_goes : ByteArray := prog_11_method_8_code
def yX9_goes : MethodName := ⟨RX9, "goes", "(II)I"⟩
abbrev cX9_begin : ByteArray := prog_11_method_9_code
def yX9_begin : MethodName := ⟨RX9, "begin", "(II)V"⟩
abbrev cX9_lead : ByteArray := prog_11_method_10_code
def yX9_lead : MethodName := ⟨RX9, "lead", "(III)I"⟩
abbrev cX9_swap : ByteArray := prog_11_method_11_code
def yX9_swap : MethodName := ⟨RX9, "swap", "(III)V"⟩
abbrev cX9_pay : ByteArray := prog_11_method_12_code
def yX9_pay : MethodName := ⟨RX9, "pay", "(II)I"⟩
abbrev cX9_colour : ByteArray := prog_11_method_13_code
def yX9_colour : MethodName := ⟨RX9, "colour", "(II)I"⟩
abbrev cX9_weigh : ByteArray := prog_11_method_14_code
def yX9_weigh : MethodName := ⟨RX9, "weigh", "(II)I"⟩
abbrev cX9_weight : ByteArray := prog_11_method_15_code
def yX9_weight : MethodName := ⟨RX9, "weight", "(II)I"⟩
abbrev cX9_power : ByteArray := prog_11_method_16_code
def yX9_power : MethodName := ⟨RX9, "power", "(I)J"⟩
abbrev cX9_words : ByteArray := prog_11_method_17_code
def yX9_words : MethodName := ⟨RX9, "words", "(I)J"⟩
abbrev cX9_keeps : ByteArray := prog_11_method_18_code
def yX9_keeps : MethodName := ⟨RX9, "keeps", "()V"⟩
abbrev cX9_begins : ByteArray := prog_11_method_19_code
def yX9_begins : MethodName := ⟨RX9, "begins", "(I)V"⟩
abbrev cX9_spreads : ByteArray := prog_11_method_20_code
def yX9_spreads : MethodName := ⟨RX9, "spreads", "(II)V"⟩
abbrev cX9_lawFault : ByteArray := prog_11_method_21_code
def yX9_lawFault : MethodName := ⟨RX9, "lawFault", "(IIII)I"⟩
abbrev cX9_lawOf : ByteArray := prog_11_method_22_code
def yX9_lawOf : MethodName := ⟨RX9, "lawOf", "(III)J"⟩
abbrev cX9_law : ByteArray := prog_11_method_23_code
def yX9_law : MethodName := ⟨RX9, "law", "(III)J"⟩
abbrev cX9_lawAnew : ByteArray := prog_11_method_24_code
def yX9_lawAnew : MethodName := ⟨RX9, "lawAnew", "(III)J"⟩
abbrev cX9_distanceOf : ByteArray := prog_11_method_25_code
def yX9_distanceOf : MethodName := ⟨RX9, "distanceOf", "(III)J"⟩
abbrev cX9_distance : ByteArray := prog_11_method_26_code
def yX9_distance : MethodName := ⟨RX9, "distance", "(III)J"⟩
abbrev cX9_isMixed : ByteArray := prog_11_method_27_code
def yX9_isMixed : MethodName := ⟨RX9, "isMixed", "(II)Z"⟩
abbrev cX9_mixing : ByteArray := prog_11_method_28_code
def yX9_mixing : MethodName := ⟨RX9, "mixing", "(I)I"⟩
abbrev cX9_apartBy : ByteArray := prog_11_method_29_code
def yX9_apartBy : MethodName := ⟨RX9, "apartBy", "(III)J"⟩
abbrev cX9_apart : ByteArray := prog_11_method_30_code
def yX9_apart : MethodName := ⟨RX9, "apart", "(III)J"⟩
abbrev cX9_image : ByteArray := prog_11_method_31_code
def yX9_image : MethodName := ⟨RX9, "image", "(II)I"⟩
abbrev cX9_togetherBy : ByteArray := prog_11_method_32_code
def yX9_togetherBy : MethodName := ⟨RX9, "togetherBy", "(II)J"⟩
abbrev cX9_together : ByteArray := prog_11_method_33_code
def yX9_together : MethodName := ⟨RX9, "together", "(II)J"⟩
abbrev cX9_hitsBy : ByteArray := prog_11_method_34_code
def yX9_hitsBy : MethodName := ⟨RX9, "hitsBy", "(III)J"⟩
abbrev cX9_hits : ByteArray := prog_11_method_35_code
def yX9_hits : MethodName := ⟨RX9, "hits", "(III)J"⟩
abbrev cX9_ahead : ByteArray := prog_11_method_36_code
def yX9_ahead : MethodName := ⟨RX9, "ahead", "(I)I"⟩
abbrev cX9_reached : ByteArray := prog_11_method_37_code
def yX9_reached : MethodName := ⟨RX9, "reached", "(I)I"⟩
abbrev cX9_reach : ByteArray := prog_11_method_38_code
def yX9_reach : MethodName := ⟨RX9, "reach", "(I)I"⟩
abbrev cX9_isClosed : ByteArray := prog_11_method_39_code
def yX9_isClosed : MethodName := ⟨RX9, "isClosed", "(I)Z"⟩
abbrev cX9_closed : ByteArray := prog_11_method_40_code
def yX9_closed : MethodName := ⟨RX9, "closed", "()I"⟩
abbrev cX9_common : ByteArray := prog_11_method_41_code
def yX9_common : MethodName := ⟨RX9, "common", "(II)I"⟩
abbrev cX9_period : ByteArray := prog_11_method_42_code
def yX9_period : MethodName := ⟨RX9, "period", "(I)I"⟩
abbrev cX9_laysWeights : ByteArray := prog_11_method_43_code
def yX9_laysWeights : MethodName := ⟨RX9, "laysWeights", "(I)V"⟩
abbrev cX9_bits : ByteArray := prog_11_method_44_code
def yX9_bits : MethodName := ⟨RX9, "bits", "(I)I"⟩
abbrev cX9_restOf : ByteArray := prog_11_method_45_code
def yX9_restOf : MethodName := ⟨RX9, "restOf", "(I)J"⟩
abbrev cX9_wholeRest : ByteArray := prog_11_method_46_code
def yX9_wholeRest : MethodName := ⟨RX9, "wholeRest", "()J"⟩
abbrev cX9_rest : ByteArray := prog_11_method_47_code
def yX9_rest : MethodName := ⟨RX9, "rest", "(I)J"⟩
abbrev cX9_share : ByteArray := prog_11_method_48_code
def yX9_share : MethodName := ⟨RX9, "share", "(I)F"⟩
abbrev cX9_placeOf : ByteArray := prog_11_method_49_code
def yX9_placeOf : MethodName := ⟨RX9, "placeOf", "(I)I"⟩
abbrev cX9_ranked : ByteArray := prog_11_method_50_code
def yX9_ranked : MethodName := ⟨RX9, "ranked", "(I)I"⟩
abbrev cX9_drawn : ByteArray := prog_11_method_51_code
def yX9_drawn : MethodName := ⟨RX9, "drawn", "(I)I"⟩
abbrev cX9_isSeed : ByteArray := prog_11_method_52_code
def yX9_isSeed : MethodName := ⟨RX9, "isSeed", "(I)Z"⟩
abbrev cX9_walk : ByteArray := prog_11_method_53_code
def yX9_walk : MethodName := ⟨RX9, "walk", "(III)I"⟩
abbrev cX9_isOne : ByteArray := prog_11_method_54_code
def yX9_isOne : MethodName := ⟨RX9, "isOne", "()Z"⟩
abbrev cX9_draw : ByteArray := prog_11_method_55_code
def yX9_draw : MethodName := ⟨RX9, "draw", "(I)I"⟩
abbrev cX9_driftOf : ByteArray := prog_11_method_56_code
def yX9_driftOf : MethodName := ⟨RX9, "driftOf", "(I)J"⟩
abbrev cX9_drift : ByteArray := prog_11_method_57_code
def yX9_drift : MethodName := ⟨RX9, "drift", "(I)J"⟩
abbrev cX9_isFair : ByteArray := prog_11_method_58_code
def yX9_isFair : MethodName := ⟨RX9, "isFair", "()Z"⟩
abbrev cX9_plays : ByteArray := prog_11_method_59_code
def yX9_plays : MethodName := ⟨RX9, "plays", "(I)V"⟩
abbrev cX9_best : ByteArray := prog_11_method_60_code
def yX9_best : MethodName := ⟨RX9, "best", "(II)J"⟩
abbrev cX9_stops : ByteArray := prog_11_method_61_code
def yX9_stops : MethodName := ⟨RX9, "stops", "(II)Z"⟩
abbrev cX9_reverses : ByteArray := prog_11_method_62_code
def yX9_reverses : MethodName := ⟨RX9, "reverses", "()Z"⟩
abbrev cX9_weighColour : ByteArray := prog_11_method_63_code
def yX9_weighColour : MethodName := ⟨RX9, "weighColour", "(II)I"⟩
abbrev cX9_isLumped : ByteArray := prog_11_method_64_code
def yX9_isLumped : MethodName := ⟨RX9, "isLumped", "()Z"⟩
def RJx145de : String := "java/io/Serializable"
def TJx145de : u_T := fun k => match k with
  | _ => ("", "", "", false)
def tyJx145de : Nat → FieldType := fun k => match k with
  | _ => .int
abbrev wsJx145de0 : List Cond := u_ws RJx145de TJx145de 0
theorem nmJx145de : ∀ a, a < 0 → ∀ b, b < 0 → a ≠ b → (TJx145de a).2.1 ≠ (TJx145de b).2.1 := by decide +kernel
theorem tyJx145de_ok : ∀ k, k < 0 → parseFieldDescriptor (TJx145de k).2.2.1 = some (tyJx145de k) := by decide +kernel
def RJ6 : String := "java/lang/Integer"
def TJ6 : u_T := fun k => match k with
  | _ => ("", "", "", false)
def tyJ6 : Nat → FieldType := fun k => match k with
  | _ => .int
abbrev wsJ60 : List Cond := u_ws RJ6 TJ6 0
theorem nmJ6 : ∀ a, a < 0 → ∀ b, b < 0 → a ≠ b → (TJ6 a).2.1 ≠ (TJ6 b).2.1 := by decide +kernel
theorem tyJ6_ok : ∀ k, k < 0 → parseFieldDescriptor (TJ6 k).2.2.1 = some (tyJ6 k) := by decide +kernel
abbrev cJ6_bitCount_0f7a4 : ByteArray := prog_16_method_49_code
def yJ6_bitCount_0f7a4 : MethodName := ⟨RJ6, "bitCount", "(I)I"⟩
def RJ9 : String := "java/lang/Math"
def TJ9 : u_T := fun k => match k with
  | _ => ("", "", "", false)
def tyJ9 : Nat → FieldType := fun k => match k with
  | _ => .int
abbrev wsJ90 : List Cond := u_ws RJ9 TJ9 0
theorem nmJ9 : ∀ a, a < 0 → ∀ b, b < 0 → a ≠ b → (TJ9 a).2.1 ≠ (TJ9 b).2.1 := by decide +kernel
theorem tyJ9_ok : ∀ k, k < 0 → parseFieldDescriptor (TJ9 k).2.2.1 = some (tyJ9 k) := by decide +kernel
abbrev cJ9_max_f86c9 : ByteArray := prog_17_method_66_code
def yJ9_max_f86c9 : MethodName := ⟨RJ9, "max", "(JJ)J"⟩
def RJ0 : String := "java/lang/String"
def TJ0 : u_T := fun k => match k with
  | _ => ("", "", "", false)
def tyJ0 : Nat → FieldType := fun k => match k with
  | _ => .int
abbrev wsJ00 : List Cond := u_ws RJ0 TJ0 0
theorem nmJ0 : ∀ a, a < 0 → ∀ b, b < 0 → a ≠ b → (TJ0 a).2.1 ≠ (TJ0 b).2.1 := by decide +kernel
theorem tyJ0_ok : ∀ k, k < 0 → parseFieldDescriptor (TJ0 k).2.2.1 = some (tyJ0 k) := by decide +kernel
def RJ10 : String := "java/lang/System"
def TJ10 : u_T := fun k => match k with
  | _ => ("", "", "", false)
def tyJ10 : Nat → FieldType := fun k => match k with
  | _ => .int
abbrev wsJ100 : List Cond := u_ws RJ10 TJ10 0
theorem nmJ10 : ∀ a, a < 0 → ∀ b, b < 0 → a ≠ b → (TJ10 a).2.1 ≠ (TJ10 b).2.1 := by decide +kernel
theorem tyJ10_ok : ∀ k, k < 0 → parseFieldDescriptor (TJ10 k).2.2.1 = some (tyJ10 k) := by decide +kernel
def RJ7 : String := "java/util/Arrays"
def TJ7 : u_T := fun k => match k with
  | _ => ("", "", "", false)
def tyJ7 : Nat → FieldType := fun k => match k with
  | _ => .int
abbrev wsJ70 : List Cond := u_ws RJ7 TJ7 0
theorem nmJ7 : ∀ a, a < 0 → ∀ b, b < 0 → a ≠ b → (TJ7 a).2.1 ≠ (TJ7 b).2.1 := by decide +kernel
theorem tyJ7_ok : ∀ k, k < 0 → parseFieldDescriptor (TJ7 k).2.2.1 = some (tyJ7 k) := by decide +kernel
abbrev cJ7_fill_d0a16 : ByteArray := prog_22_method_101_code
def yJ7_fill_d0a16 : MethodName := ⟨RJ7, "fill", "([JJ)V"⟩
abbrev cJ7_fill_53178 : ByteArray := prog_22_method_103_code
def yJ7_fill_53178 : MethodName := ⟨RJ7, "fill", "([II)V"⟩
def RL : String := "ChanceHallLaw"
abbrev cL_begin : ByteArray := method_3_code
def yL_begin : MethodName := ⟨RL, "begin", "(LChanceHall;II)I"⟩
abbrev cL_lead : ByteArray := method_4_code
def yL_lead : MethodName := ⟨RL, "lead", "(LChanceHall;III[J)I"⟩
abbrev cL_swap : ByteArray := method_5_code
def yL_swap : MethodName := ⟨RL, "swap", "(LChanceHall;III)I"⟩
abbrev cL_pay : ByteArray := method_6_code
def yL_pay : MethodName := ⟨RL, "pay", "(LChanceHall;II[J)I"⟩
abbrev cL_colour : ByteArray := method_7_code
def yL_colour : MethodName := ⟨RL, "colour", "(LChanceHall;II[J)I"⟩
abbrev cL_weight : ByteArray := method_8_code
def yL_weight : MethodName := ⟨RL, "weight", "(LChanceHall;II[J)I"⟩
abbrev cL_words : ByteArray := method_9_code
def yL_words : MethodName := ⟨RL, "words", "(LChanceHall;I[J)I"⟩
abbrev cL_law : ByteArray := method_10_code
def yL_law : MethodName := ⟨RL, "law", "(LChanceHall;III[J)I"⟩
abbrev cL_lawAnew : ByteArray := method_11_code
def yL_lawAnew : MethodName := ⟨RL, "lawAnew", "(LChanceHall;III[J)I"⟩
abbrev cL_distance : ByteArray := method_12_code
def yL_distance : MethodName := ⟨RL, "distance", "(LChanceHall;III[J)I"⟩
abbrev cL_mixing : ByteArray := method_13_code
def yL_mixing : MethodName := ⟨RL, "mixing", "(LChanceHall;I[J)I"⟩
abbrev cL_apart : ByteArray := method_14_code
def yL_apart : MethodName := ⟨RL, "apart", "(LChanceHall;III[J)I"⟩
abbrev cL_together : ByteArray := method_15_code
def yL_together : MethodName := ⟨RL, "together", "(LChanceHall;II[J)I"⟩
abbrev cL_hits : ByteArray := method_16_code
def yL_hits : MethodName := ⟨RL, "hits", "(LChanceHall;III[J)I"⟩
abbrev cL_reach : ByteArray := method_17_code
def yL_reach : MethodName := ⟨RL, "reach", "(LChanceHall;I[J)I"⟩
abbrev cL_period : ByteArray := method_18_code
def yL_period : MethodName := ⟨RL, "period", "(LChanceHall;I[J)I"⟩
abbrev cL_rest : ByteArray := method_19_code
def yL_rest : MethodName := ⟨RL, "rest", "(LChanceHall;I[J)I"⟩
abbrev cL_share : ByteArray := method_20_code
def yL_share : MethodName := ⟨RL, "share", "(LChanceHall;I[D)I"⟩
abbrev cL_ranked : ByteArray := method_21_code
def yL_ranked : MethodName := ⟨RL, "ranked", "(LChanceHall;I[J)I"⟩
abbrev cL_walk : ByteArray := method_22_code
def yL_walk : MethodName := ⟨RL, "walk", "(LChanceHall;III[J)I"⟩
abbrev cL_draw : ByteArray := method_23_code
def yL_draw : MethodName := ⟨RL, "draw", "(LChanceHall;I[J)I"⟩
abbrev cL_drift : ByteArray := method_24_code
def yL_drift : MethodName := ⟨RL, "drift", "(LChanceHall;I[J)I"⟩
abbrev cL_best : ByteArray := method_25_code
def yL_best : MethodName := ⟨RL, "best", "(LChanceHall;II[J)I"⟩
abbrev cL_stops : ByteArray := method_26_code
def yL_stops : MethodName := ⟨RL, "stops", "(LChanceHall;II[J)I"⟩
abbrev cL_law_ : ByteArray := code
def yL_law_ : MethodName := ⟨RL, "law", "([I)Z"⟩
def wsX0_init : List Cond := .code yX0_init cX0_init 1 none :: ([.methodLink RX0 3 objectInit, .instanceMethod objectInit, .code objectInit ⟨#[0xb1]⟩ 1 none, .classLink RX0 9 "[[I", .arrayClass .int, .fieldLink RX0 11 "ChanceHall$Chain" "goesTo" "[[I", .fieldLink RX0 16 "ChanceHall$Chain" "weights" "[[I"] ++ wsX00)
def wsJ7_fill_53178 : List Cond := .code yJ7_fill_53178 cJ7_fill_53178 4 none :: ([])
def wsX0_setOut : List Cond := .code yX0_setOut cX0_setOut 4 none :: ([.fieldLink RX0 19 "ChanceHall$Chain" "states" "I", .fieldLink RX0 23 "ChanceHall$Chain" "slots" "I", .fieldLink RX0 11 "ChanceHall$Chain" "goesTo" "[[I", .fieldLink RX0 16 "ChanceHall$Chain" "weights" "[[I", .methodLink RX0 26 yJ7_fill_53178, .static yJ7_fill_53178, .initialized RJ7, .code yJ7_fill_53178 cJ7_fill_53178 4 none] ++ wsX00)
def wsX0_turn : List Cond := .code yX0_turn cX0_turn 5 (some .int) :: ([.fieldLink RX0 11 "ChanceHall$Chain" "goesTo" "[[I", .fieldLink RX0 16 "ChanceHall$Chain" "weights" "[[I"] ++ wsX00)
def wsX0_exchange : List Cond := .code yX0_exchange cX0_exchange 5 none :: ([.fieldLink RX0 11 "ChanceHall$Chain" "goesTo" "[[I"] ++ wsX00)
def wsX0_countWords : List Cond := .code yX0_countWords cX0_countWords 5 (some .long) :: ([.fieldLink RX0 23 "ChanceHall$Chain" "slots" "I"] ++ wsX00)
def wsX0_sumOverSlots : List Cond := .code yX0_sumOverSlots cX0_sumOverSlots 6 (some .long) :: ([.fieldLink RX0 19 "ChanceHall$Chain" "states" "I", .fieldLink RX0 16 "ChanceHall$Chain" "weights" "[[I"] ++ wsX00)
def wsX1_init : List Cond := .code yX1_init cX1_init 2 none :: ([.methodLink RX1 3 objectInit, .instanceMethod objectInit, .code objectInit ⟨#[0xb1]⟩ 1 none, .fieldLink RX1 9 "ChanceHall$Classes" "chain" "LChanceHall$Chain;"] ++ wsX10)
def wsX1_setOneStepOn : List Cond := .code yX1_setOneStepOn cX1_setOneStepOn 5 (some .int) :: ([.fieldLink RX1 9 "ChanceHall$Classes" "chain" "LChanceHall$Chain;", .fieldLink RX1 15 "ChanceHall$Chain" "states" "I", .fieldLink RX1 25 "ChanceHall$Chain" "weights" "[[I"] ++ wsX10 ++ wsX00)
def wsX1_reachedFrom : List Cond := .code yX1_reachedFrom cX1_reachedFrom 4 (some .int) :: ([.fieldLink RX1 9 "ChanceHall$Classes" "chain" "LChanceHall$Chain;", .fieldLink RX1 15 "ChanceHall$Chain" "states" "I", .methodLink RX1 21 yX1_setOneStepOn, .instanceMethod yX1_setOneStepOn, .selects RX1 yX1_setOneStepOn yX1_setOneStepOn, .initialized RX1, .code yX1_setOneStepOn cX1_setOneStepOn 5 (some .int), .fieldLink RX1 25 "ChanceHall$Chain" "weights" "[[I"] ++ wsX10 ++ wsX00)
def wsX1_isLowestOfClosed : List Cond := .code yX1_isLowestOfClosed cX1_isLowestOfClosed 4 (some .boolean) :: ([.fieldLink RX1 9 "ChanceHall$Classes" "chain" "LChanceHall$Chain;", .fieldLink RX1 15 "ChanceHall$Chain" "states" "I", .methodLink RX1 33 yX1_reachedFrom, .instanceMethod yX1_reachedFrom, .selects RX1 yX1_reachedFrom yX1_reachedFrom, .initialized RX1, .code yX1_reachedFrom cX1_reachedFrom 4 (some .int), .methodLink RX1 21 yX1_setOneStepOn, .instanceMethod yX1_setOneStepOn, .selects RX1 yX1_setOneStepOn yX1_setOneStepOn, .code yX1_setOneStepOn cX1_setOneStepOn 5 (some .int), .fieldLink RX1 25 "ChanceHall$Chain" "weights" "[[I"] ++ wsX10 ++ wsX00)
def wsX1_countClosed : List Cond := .code yX1_countClosed cX1_countClosed 3 (some .int) :: ([.fieldLink RX1 9 "ChanceHall$Classes" "chain" "LChanceHall$Chain;", .fieldLink RX1 15 "ChanceHall$Chain" "states" "I", .methodLink RX1 29 yX1_isLowestOfClosed, .instanceMethod yX1_isLowestOfClosed, .selects RX1 yX1_isLowestOfClosed yX1_isLowestOfClosed, .initialized RX1, .code yX1_isLowestOfClosed cX1_isLowestOfClosed 4 (some .boolean), .methodLink RX1 33 yX1_reachedFrom, .instanceMethod yX1_reachedFrom, .selects RX1 yX1_reachedFrom yX1_reachedFrom, .code yX1_reachedFrom cX1_reachedFrom 4 (some .int), .methodLink RX1 21 yX1_setOneStepOn, .instanceMethod yX1_setOneStepOn, .selects RX1 yX1_setOneStepOn yX1_setOneStepOn, .code yX1_setOneStepOn cX1_setOneStepOn 5 (some .int), .fieldLink RX1 25 "ChanceHall$Chain" "weights" "[[I"] ++ wsX10 ++ wsX00)
def wsX1_dividesAll : List Cond := .code yX1_dividesAll cX1_dividesAll 3 (some .boolean) :: ([])
def wsX1_greatestDivisor : List Cond := .code yX1_greatestDivisor cX1_greatestDivisor 2 (some .int) :: ([.methodLink RX1 39 yX1_dividesAll, .static yX1_dividesAll, .initialized RX1, .code yX1_dividesAll cX1_dividesAll 3 (some .boolean)])
def wsX1_periodOf : List Cond := .code yX1_periodOf cX1_periodOf 5 (some .int) :: ([.methodLink RX1 21 yX1_setOneStepOn, .instanceMethod yX1_setOneStepOn, .selects RX1 yX1_setOneStepOn yX1_setOneStepOn, .initialized RX1, .code yX1_setOneStepOn cX1_setOneStepOn 5 (some .int), .fieldLink RX1 9 "ChanceHall$Classes" "chain" "LChanceHall$Chain;", .fieldLink RX1 15 "ChanceHall$Chain" "states" "I", .fieldLink RX1 25 "ChanceHall$Chain" "weights" "[[I", .methodLink RX1 36 yX1_greatestDivisor, .static yX1_greatestDivisor, .code yX1_greatestDivisor cX1_greatestDivisor 2 (some .int), .methodLink RX1 39 yX1_dividesAll, .static yX1_dividesAll, .code yX1_dividesAll cX1_dividesAll 3 (some .boolean)] ++ wsX10 ++ wsX00)
def wsX2_init : List Cond := .code yX2_init cX2_init 2 none :: ([.methodLink RX2 3 objectInit, .instanceMethod objectInit, .code objectInit ⟨#[0xb1]⟩ 1 none, .fieldLink RX2 9 "ChanceHall$Crowds" "chain" "LChanceHall$Chain;", .classLink RX2 15 "[[J", .arrayClass .long, .fieldLink RX2 17 "ChanceHall$Crowds" "apartRows" "[[J", .fieldLink RX2 20 "ChanceHall$Crowds" "setRows" "[[J"] ++ wsX20)
def wsX8_pairOf : List Cond := .code yX8_pairOf cX8_pairOf 2 (some .int) :: ([])
def wsX2_apartFrom : List Cond := .code yX2_apartFrom cX2_apartFrom 7 (some .long) :: ([.fieldLink RX2 9 "ChanceHall$Crowds" "chain" "LChanceHall$Chain;", .fieldLink RX2 37 "ChanceHall$Chain" "slots" "I", .fieldLink RX2 17 "ChanceHall$Crowds" "apartRows" "[[J", .fieldLink RX2 40 "ChanceHall$Chain" "goesTo" "[[I", .static yX8_pairOf, .initialized RX8, .code yX8_pairOf cX8_pairOf 2 (some .int)] ++ wsX20 ++ wsX00)
def wsX2_countApart : List Cond := .code yX2_countApart cX2_countApart 7 (some .long) :: ([.fieldLink RX2 9 "ChanceHall$Crowds" "chain" "LChanceHall$Chain;", .fieldLink RX2 23 "ChanceHall$Chain" "states" "I", .fieldLink RX2 17 "ChanceHall$Crowds" "apartRows" "[[J", .static yX8_pairOf, .initialized RX8, .code yX8_pairOf cX8_pairOf 2 (some .int), .methodLink RX2 33 yX2_apartFrom, .instanceMethod yX2_apartFrom, .selects RX2 yX2_apartFrom yX2_apartFrom, .initialized RX2, .code yX2_apartFrom cX2_apartFrom 7 (some .long), .fieldLink RX2 37 "ChanceHall$Chain" "slots" "I", .fieldLink RX2 40 "ChanceHall$Chain" "goesTo" "[[I"] ++ wsX20 ++ wsX00)
def wsJ7_fill_d0a16 : List Cond := .code yJ7_fill_d0a16 cJ7_fill_d0a16 5 none :: ([])
def wsX2_setBehind : List Cond := .code yX2_setBehind cX2_setBehind 5 (some .int) :: ([.fieldLink RX2 9 "ChanceHall$Crowds" "chain" "LChanceHall$Chain;", .fieldLink RX2 23 "ChanceHall$Chain" "states" "I", .fieldLink RX2 40 "ChanceHall$Chain" "goesTo" "[[I"] ++ wsX20 ++ wsX00)
def wsX2_moveCrowds : List Cond := .code yX2_moveCrowds cX2_moveCrowds 6 none :: ([.fieldLink RX2 9 "ChanceHall$Crowds" "chain" "LChanceHall$Chain;", .fieldLink RX2 37 "ChanceHall$Chain" "slots" "I", .methodLink RX2 54 yX2_setBehind, .instanceMethod yX2_setBehind, .selects RX2 yX2_setBehind yX2_setBehind, .initialized RX2, .code yX2_setBehind cX2_setBehind 5 (some .int), .fieldLink RX2 23 "ChanceHall$Chain" "states" "I", .fieldLink RX2 40 "ChanceHall$Chain" "goesTo" "[[I"] ++ wsX20 ++ wsX00)
def wsX2_countTogether : List Cond := .code yX2_countTogether cX2_countTogether 6 (some .long) :: ([.fieldLink RX2 9 "ChanceHall$Crowds" "chain" "LChanceHall$Chain;", .fieldLink RX2 23 "ChanceHall$Chain" "states" "I", .fieldLink RX2 20 "ChanceHall$Crowds" "setRows" "[[J", .methodLink RX2 44 yJ7_fill_d0a16, .static yJ7_fill_d0a16, .initialized RJ7, .code yJ7_fill_d0a16 cJ7_fill_d0a16 5 none, .methodLink RX2 50 yX2_moveCrowds, .instanceMethod yX2_moveCrowds, .selects RX2 yX2_moveCrowds yX2_moveCrowds, .initialized RX2, .code yX2_moveCrowds cX2_moveCrowds 6 none, .fieldLink RX2 37 "ChanceHall$Chain" "slots" "I", .methodLink RX2 54 yX2_setBehind, .instanceMethod yX2_setBehind, .selects RX2 yX2_setBehind yX2_setBehind, .code yX2_setBehind cX2_setBehind 5 (some .int), .fieldLink RX2 40 "ChanceHall$Chain" "goesTo" "[[I"] ++ wsX20 ++ wsX00)
def wsX3_init : List Cond := .code yX3_init cX3_init 2 none :: ([.methodLink RX3 3 objectInit, .instanceMethod objectInit, .code objectInit ⟨#[0xb1]⟩ 1 none, .fieldLink RX3 9 "ChanceHall$Draws" "chain" "LChanceHall$Chain;", .arrayClass .int, .fieldLink RX3 15 "ChanceHall$Draws" "ends" "[I", .fieldLink RX3 19 "ChanceHall$Draws" "endsBefore" "[I"] ++ wsX30)
def wsX3_seedBehind : List Cond := .code yX3_seedBehind cX3_seedBehind 1 (some .int) :: ([.constant RX3 56 (65521)])
def wsX3_slotOf : List Cond := .code yX3_slotOf cX3_slotOf 2 (some .int) :: ([.fieldLink RX3 9 "ChanceHall$Draws" "chain" "LChanceHall$Chain;", .fieldLink RX3 53 "ChanceHall$Chain" "slots" "I"] ++ wsX30 ++ wsX00)
def wsX3_walkOn : List Cond := .code yX3_walkOn cX3_walkOn 7 (some .int) :: ([.fieldLink RX3 9 "ChanceHall$Draws" "chain" "LChanceHall$Chain;", .fieldLink RX3 26 "ChanceHall$Chain" "goesTo" "[[I", .methodLink RX3 22 yX3_seedBehind, .static yX3_seedBehind, .initialized RX3, .code yX3_seedBehind cX3_seedBehind 1 (some .int), .constant RX3 56 (65521), .methodLink RX3 32 yX3_slotOf, .instanceMethod yX3_slotOf, .selects RX3 yX3_slotOf yX3_slotOf, .code yX3_slotOf cX3_slotOf 2 (some .int), .fieldLink RX3 53 "ChanceHall$Chain" "slots" "I"] ++ wsX30 ++ wsX00)
def wsX3_isTogether : List Cond := .code yX3_isTogether cX3_isTogether 2 (some .boolean) :: ([.fieldLink RX3 9 "ChanceHall$Draws" "chain" "LChanceHall$Chain;", .fieldLink RX3 35 "ChanceHall$Chain" "states" "I", .fieldLink RX3 15 "ChanceHall$Draws" "ends" "[I"] ++ wsX30 ++ wsX00)
def wsX3_putAhead : List Cond := .code yX3_putAhead cX3_putAhead 3 none :: ([.fieldLink RX3 15 "ChanceHall$Draws" "ends" "[I", .fieldLink RX3 19 "ChanceHall$Draws" "endsBefore" "[I", .methodLink RX3 47 arraycopyName, .native arraycopyName, .static arraycopyName, .initialized "java/lang/System", .fieldLink RX3 9 "ChanceHall$Draws" "chain" "LChanceHall$Chain;", .fieldLink RX3 35 "ChanceHall$Chain" "states" "I", .fieldLink RX3 26 "ChanceHall$Chain" "goesTo" "[[I"] ++ wsX30 ++ wsX00)
def wsX3_drawFromPast_r1 : List Cond := [Cond.fieldLink RX3 9 "ChanceHall$Draws" "chain" "LChanceHall$Chain;", Cond.fieldLink RX3 35 "ChanceHall$Chain" "states" "I", Cond.fieldLink RX3 15 "ChanceHall$Draws" "ends" "[I", Cond.methodLink RX3 39 yX3_isTogether, Cond.instanceMethod yX3_isTogether, Cond.selects RX3 yX3_isTogether yX3_isTogether, Cond.initialized RX3, Cond.code yX3_isTogether cX3_isTogether 2 (some .boolean), Cond.methodLink RX3 22 yX3_seedBehind, Cond.static yX3_seedBehind, Cond.code yX3_seedBehind cX3_seedBehind 1 (some .int), Cond.constant RX3 56 (65521), Cond.methodLink RX3 32 yX3_slotOf, Cond.instanceMethod yX3_slotOf, Cond.selects RX3 yX3_slotOf yX3_slotOf, Cond.code yX3_slotOf cX3_slotOf 2 (some .int), Cond.fieldLink RX3 53 "ChanceHall$Chain" "slots" "I", Cond.methodLink RX3 43 yX3_putAhead, Cond.instanceMethod yX3_putAhead, Cond.selects RX3 yX3_putAhead yX3_putAhead, Cond.code yX3_putAhead cX3_putAhead 3 none, Cond.fieldLink RX3 19 "ChanceHall$Draws" "endsBefore" "[I", Cond.methodLink RX3 47 arraycopyName, Cond.native arraycopyName]
def wsX3_drawFromPast_r2 : List Cond := [Cond.static arraycopyName, Cond.initialized "java/lang/System", Cond.fieldLink RX3 26 "ChanceHall$Chain" "goesTo" "[[I"]
def wsX3_drawFromPast : List Cond := .code yX3_drawFromPast cX3_drawFromPast 4 (some .int) :: ((wsX3_drawFromPast_r1 ++ wsX3_drawFromPast_r2) ++ wsX30 ++ wsX00)
def wsX4_init : List Cond := .code yX4_init cX4_init 2 none :: ([.methodLink RX4 3 objectInit, .instanceMethod objectInit, .code objectInit ⟨#[0xb1]⟩ 1 none, .fieldLink RX4 9 "ChanceHall$Games" "chain" "LChanceHall$Chain;", .arrayClass .int, .fieldLink RX4 15 "ChanceHall$Games" "pays" "[I", .classLink RX4 19 "[[J", .arrayClass .long, .fieldLink RX4 21 "ChanceHall$Games" "bests" "[[J"] ++ wsX40)
def wsX4_forget : List Cond := .code yX4_forget cX4_forget 1 none :: ([.fieldLink RX4 15 "ChanceHall$Games" "pays" "[I", .methodLink RX4 24 yJ7_fill_53178, .static yJ7_fill_53178, .initialized RJ7, .code yJ7_fill_53178 cJ7_fill_53178 4 none] ++ wsX40)
def wsX4_setPay : List Cond := .code yX4_setPay cX4_setPay 4 (some .int) :: ([.fieldLink RX4 15 "ChanceHall$Games" "pays" "[I"] ++ wsX40)
def wsX4_driftOf : List Cond := .code yX4_driftOf cX4_driftOf 5 (some .long) :: ([.fieldLink RX4 9 "ChanceHall$Games" "chain" "LChanceHall$Chain;", .fieldLink RX4 30 "ChanceHall$Chain" "states" "I", .fieldLink RX4 36 "ChanceHall$Chain" "weights" "[[I", .fieldLink RX4 15 "ChanceHall$Games" "pays" "[I", .fieldLink RX4 40 "ChanceHall$Chain" "slots" "I"] ++ wsX40 ++ wsX00)
def wsX4_byStopping : List Cond := .code yX4_byStopping cX4_byStopping 3 (some .long) :: ([.fieldLink RX4 15 "ChanceHall$Games" "pays" "[I", .fieldLink RX4 9 "ChanceHall$Games" "chain" "LChanceHall$Chain;", .methodLink RX4 60 yX0_countWords, .instanceMethod yX0_countWords, .selects RX0 yX0_countWords yX0_countWords, .initialized RX0, .code yX0_countWords cX0_countWords 5 (some .long), .fieldLink RX0 23 "ChanceHall$Chain" "slots" "I"] ++ wsX40 ++ wsX00)
def wsX4_byGoingOn : List Cond := .code yX4_byGoingOn cX4_byGoingOn 3 (some .long) :: ([.fieldLink RX4 9 "ChanceHall$Games" "chain" "LChanceHall$Chain;", .fieldLink RX4 21 "ChanceHall$Games" "bests" "[[J", .methodLink RX4 47 yX4_byStopping, .instanceMethod yX4_byStopping, .selects RX4 yX4_byStopping yX4_byStopping, .initialized RX4, .code yX4_byStopping cX4_byStopping 3 (some .long), .fieldLink RX4 15 "ChanceHall$Games" "pays" "[I", .methodLink RX4 60 yX0_countWords, .instanceMethod yX0_countWords, .selects RX0 yX0_countWords yX0_countWords, .initialized RX0, .code yX0_countWords cX0_countWords 5 (some .long), .fieldLink RX0 23 "ChanceHall$Chain" "slots" "I", .methodLink RX4 64 yX0_sumOverSlots, .instanceMethod yX0_sumOverSlots, .selects RX0 yX0_sumOverSlots yX0_sumOverSlots, .code yX0_sumOverSlots cX0_sumOverSlots 6 (some .long), .fieldLink RX0 19 "ChanceHall$Chain" "states" "I", .fieldLink RX0 16 "ChanceHall$Chain" "weights" "[[I"] ++ wsX40 ++ wsX00)
def wsX4_countBests_r1 : List Cond := [Cond.fieldLink RX4 9 "ChanceHall$Games" "chain" "LChanceHall$Chain;", Cond.fieldLink RX4 30 "ChanceHall$Chain" "states" "I", Cond.fieldLink RX4 21 "ChanceHall$Games" "bests" "[[J", Cond.methodLink RX4 54 Lib.MathLoose.max_long.x, Cond.static Lib.MathLoose.max_long.x, Cond.initialized "java/lang/Math", Cond.code Lib.MathLoose.max_long.x Lib.MathLoose.max_long.code 4 (some .long), Cond.methodLink RX4 47 yX4_byStopping, Cond.instanceMethod yX4_byStopping, Cond.selects RX4 yX4_byStopping yX4_byStopping, Cond.initialized RX4, Cond.code yX4_byStopping cX4_byStopping 3 (some .long), Cond.fieldLink RX4 15 "ChanceHall$Games" "pays" "[I", Cond.methodLink RX4 60 yX0_countWords, Cond.instanceMethod yX0_countWords, Cond.selects RX0 yX0_countWords yX0_countWords, Cond.initialized RX0, Cond.code yX0_countWords cX0_countWords 5 (some .long), Cond.fieldLink RX0 23 "ChanceHall$Chain" "slots" "I", Cond.methodLink RX4 51 yX4_byGoingOn, Cond.instanceMethod yX4_byGoingOn, Cond.selects RX4 yX4_byGoingOn yX4_byGoingOn, Cond.code yX4_byGoingOn cX4_byGoingOn 3 (some .long), Cond.methodLink RX4 64 yX0_sumOverSlots]
def wsX4_countBests_r2 : List Cond := [Cond.instanceMethod yX0_sumOverSlots, Cond.selects RX0 yX0_sumOverSlots yX0_sumOverSlots, Cond.code yX0_sumOverSlots cX0_sumOverSlots 6 (some .long), Cond.fieldLink RX0 19 "ChanceHall$Chain" "states" "I", Cond.fieldLink RX0 16 "ChanceHall$Chain" "weights" "[[I"]
def wsX4_countBests : List Cond := .code yX4_countBests cX4_countBests 4 none :: ((wsX4_countBests_r1 ++ wsX4_countBests_r2) ++ wsX40 ++ wsX00)
def wsX4_bestOf_r1 : List Cond := [Cond.fieldLink RX4 21 "ChanceHall$Games" "bests" "[[J", Cond.methodLink RX4 43 yX4_countBests, Cond.instanceMethod yX4_countBests, Cond.selects RX4 yX4_countBests yX4_countBests, Cond.initialized RX4, Cond.code yX4_countBests cX4_countBests 4 none, Cond.fieldLink RX4 9 "ChanceHall$Games" "chain" "LChanceHall$Chain;", Cond.fieldLink RX4 30 "ChanceHall$Chain" "states" "I", Cond.methodLink RX4 54 Lib.MathLoose.max_long.x, Cond.static Lib.MathLoose.max_long.x, Cond.initialized "java/lang/Math", Cond.code Lib.MathLoose.max_long.x Lib.MathLoose.max_long.code 4 (some .long), Cond.methodLink RX4 47 yX4_byStopping, Cond.instanceMethod yX4_byStopping, Cond.selects RX4 yX4_byStopping yX4_byStopping, Cond.code yX4_byStopping cX4_byStopping 3 (some .long), Cond.fieldLink RX4 15 "ChanceHall$Games" "pays" "[I", Cond.methodLink RX4 60 yX0_countWords, Cond.instanceMethod yX0_countWords, Cond.selects RX0 yX0_countWords yX0_countWords, Cond.initialized RX0, Cond.code yX0_countWords cX0_countWords 5 (some .long), Cond.fieldLink RX0 23 "ChanceHall$Chain" "slots" "I", Cond.methodLink RX4 51 yX4_byGoingOn]
def wsX4_bestOf_r2 : List Cond := [Cond.instanceMethod yX4_byGoingOn, Cond.selects RX4 yX4_byGoingOn yX4_byGoingOn, Cond.code yX4_byGoingOn cX4_byGoingOn 3 (some .long), Cond.methodLink RX4 64 yX0_sumOverSlots, Cond.instanceMethod yX0_sumOverSlots, Cond.selects RX0 yX0_sumOverSlots yX0_sumOverSlots, Cond.code yX0_sumOverSlots cX0_sumOverSlots 6 (some .long), Cond.fieldLink RX0 19 "ChanceHall$Chain" "states" "I", Cond.fieldLink RX0 16 "ChanceHall$Chain" "weights" "[[I"]
def wsX4_bestOf : List Cond := .code yX4_bestOf cX4_bestOf 3 (some .long) :: ((wsX4_bestOf_r1 ++ wsX4_bestOf_r2) ++ wsX40 ++ wsX00)
def wsX4_isBestToStop_r1 : List Cond := [Cond.methodLink RX4 43 yX4_countBests, Cond.instanceMethod yX4_countBests, Cond.selects RX4 yX4_countBests yX4_countBests, Cond.initialized RX4, Cond.code yX4_countBests cX4_countBests 4 none, Cond.fieldLink RX4 9 "ChanceHall$Games" "chain" "LChanceHall$Chain;", Cond.fieldLink RX4 30 "ChanceHall$Chain" "states" "I", Cond.fieldLink RX4 21 "ChanceHall$Games" "bests" "[[J", Cond.methodLink RX4 54 Lib.MathLoose.max_long.x, Cond.static Lib.MathLoose.max_long.x, Cond.initialized "java/lang/Math", Cond.code Lib.MathLoose.max_long.x Lib.MathLoose.max_long.code 4 (some .long), Cond.methodLink RX4 47 yX4_byStopping, Cond.instanceMethod yX4_byStopping, Cond.selects RX4 yX4_byStopping yX4_byStopping, Cond.code yX4_byStopping cX4_byStopping 3 (some .long), Cond.fieldLink RX4 15 "ChanceHall$Games" "pays" "[I", Cond.methodLink RX4 60 yX0_countWords, Cond.instanceMethod yX0_countWords, Cond.selects RX0 yX0_countWords yX0_countWords, Cond.initialized RX0, Cond.code yX0_countWords cX0_countWords 5 (some .long), Cond.fieldLink RX0 23 "ChanceHall$Chain" "slots" "I", Cond.methodLink RX4 51 yX4_byGoingOn]
def wsX4_isBestToStop_r2 : List Cond := [Cond.instanceMethod yX4_byGoingOn, Cond.selects RX4 yX4_byGoingOn yX4_byGoingOn, Cond.code yX4_byGoingOn cX4_byGoingOn 3 (some .long), Cond.methodLink RX4 64 yX0_sumOverSlots, Cond.instanceMethod yX0_sumOverSlots, Cond.selects RX0 yX0_sumOverSlots yX0_sumOverSlots, Cond.code yX0_sumOverSlots cX0_sumOverSlots 6 (some .long), Cond.fieldLink RX0 19 "ChanceHall$Chain" "states" "I", Cond.fieldLink RX0 16 "ChanceHall$Chain" "weights" "[[I"]
def wsX4_isBestToStop : List Cond := .code yX4_isBestToStop cX4_isBestToStop 3 (some .boolean) :: ((wsX4_isBestToStop_r1 ++ wsX4_isBestToStop_r2) ++ wsX40 ++ wsX00)
def wsX5_init : List Cond := .code yX5_init cX5_init 2 none :: ([.methodLink RX5 3 objectInit, .instanceMethod objectInit, .code objectInit ⟨#[0xb1]⟩ 1 none, .fieldLink RX5 9 "ChanceHall$Laws" "chain" "LChanceHall$Chain;", .classLink RX5 15 "[[J", .arrayClass .long, .fieldLink RX5 17 "ChanceHall$Laws" "rows" "[[J", .fieldLink RX5 20 "ChanceHall$Laws" "hitRows" "[[J"] ++ wsX50)
def wsX5_goOneStep : List Cond := .code yX5_goOneStep cX5_goOneStep 8 none :: ([.fieldLink RX5 9 "ChanceHall$Laws" "chain" "LChanceHall$Chain;", .fieldLink RX5 23 "ChanceHall$Chain" "states" "I", .fieldLink RX5 37 "ChanceHall$Chain" "weights" "[[I", .static yX8_pairOf, .initialized RX8, .code yX8_pairOf cX8_pairOf 2 (some .int)] ++ wsX50 ++ wsX00)
def wsX5_countLaws : List Cond := .code yX5_countLaws cX5_countLaws 4 none :: ([.fieldLink RX5 9 "ChanceHall$Laws" "chain" "LChanceHall$Chain;", .fieldLink RX5 23 "ChanceHall$Chain" "states" "I", .fieldLink RX5 17 "ChanceHall$Laws" "rows" "[[J", .static yX8_pairOf, .initialized RX8, .code yX8_pairOf cX8_pairOf 2 (some .int), .methodLink RX5 33 yX5_goOneStep, .instanceMethod yX5_goOneStep, .selects RX5 yX5_goOneStep yX5_goOneStep, .initialized RX5, .code yX5_goOneStep cX5_goOneStep 8 none, .fieldLink RX5 37 "ChanceHall$Chain" "weights" "[[I"] ++ wsX50 ++ wsX00)
def wsX5_countLaw : List Cond := .code yX5_countLaw cX5_countLaw 4 (some .long) :: ([.fieldLink RX5 17 "ChanceHall$Laws" "rows" "[[J", .methodLink RX5 41 yX5_countLaws, .instanceMethod yX5_countLaws, .selects RX5 yX5_countLaws yX5_countLaws, .initialized RX5, .code yX5_countLaws cX5_countLaws 4 none, .fieldLink RX5 9 "ChanceHall$Laws" "chain" "LChanceHall$Chain;", .fieldLink RX5 23 "ChanceHall$Chain" "states" "I", .static yX8_pairOf, .initialized RX8, .code yX8_pairOf cX8_pairOf 2 (some .int), .methodLink RX5 33 yX5_goOneStep, .instanceMethod yX5_goOneStep, .selects RX5 yX5_goOneStep yX5_goOneStep, .code yX5_goOneStep cX5_goOneStep 8 none, .fieldLink RX5 37 "ChanceHall$Chain" "weights" "[[I"] ++ wsX50 ++ wsX00)
def wsX5_distanceBehind : List Cond := .code yX5_distanceBehind cX5_distanceBehind 9 (some .long) :: ([.fieldLink RX5 9 "ChanceHall$Laws" "chain" "LChanceHall$Chain;", .fieldLink RX5 23 "ChanceHall$Chain" "states" "I", .fieldLink RX5 17 "ChanceHall$Laws" "rows" "[[J", .methodLink RX5 45 Lib.MathLoose.max_long.x, .static Lib.MathLoose.max_long.x, .initialized "java/lang/Math", .code Lib.MathLoose.max_long.x Lib.MathLoose.max_long.code 4 (some .long), .static yX8_pairOf, .initialized RX8, .code yX8_pairOf cX8_pairOf 2 (some .int)] ++ wsX50 ++ wsX00)
def wsX5_isMixed : List Cond := .code yX5_isMixed cX5_isMixed 7 (some .boolean) :: ([.fieldLink RX5 9 "ChanceHall$Laws" "chain" "LChanceHall$Chain;", .fieldLink RX5 23 "ChanceHall$Chain" "states" "I", .constantLong RX5 55 (1000), .methodLink RX5 51 yX0_countWords, .instanceMethod yX0_countWords, .selects RX0 yX0_countWords yX0_countWords, .initialized RX0, .code yX0_countWords cX0_countWords 5 (some .long), .fieldLink RX0 23 "ChanceHall$Chain" "slots" "I", .methodLink RX5 57 yX5_distanceBehind, .instanceMethod yX5_distanceBehind, .selects RX5 yX5_distanceBehind yX5_distanceBehind, .initialized RX5, .code yX5_distanceBehind cX5_distanceBehind 9 (some .long), .fieldLink RX5 17 "ChanceHall$Laws" "rows" "[[J", .methodLink RX5 45 Lib.MathLoose.max_long.x, .static Lib.MathLoose.max_long.x, .initialized "java/lang/Math", .code Lib.MathLoose.max_long.x Lib.MathLoose.max_long.code 4 (some .long), .static yX8_pairOf, .initialized RX8, .code yX8_pairOf cX8_pairOf 2 (some .int)] ++ wsX50 ++ wsX00)
def wsX5_hitsIn : List Cond := .code yX5_hitsIn cX5_hitsIn 4 (some .long) :: ([.fieldLink RX5 9 "ChanceHall$Laws" "chain" "LChanceHall$Chain;", .fieldLink RX5 20 "ChanceHall$Laws" "hitRows" "[[J", .methodLink RX5 51 yX0_countWords, .instanceMethod yX0_countWords, .selects RX0 yX0_countWords yX0_countWords, .initialized RX0, .code yX0_countWords cX0_countWords 5 (some .long), .fieldLink RX0 23 "ChanceHall$Chain" "slots" "I", .methodLink RX5 64 yX0_sumOverSlots, .instanceMethod yX0_sumOverSlots, .selects RX0 yX0_sumOverSlots yX0_sumOverSlots, .code yX0_sumOverSlots cX0_sumOverSlots 6 (some .long), .fieldLink RX0 19 "ChanceHall$Chain" "states" "I", .fieldLink RX0 16 "ChanceHall$Chain" "weights" "[[I"] ++ wsX50 ++ wsX00)
def wsX5_countHits : List Cond := .code yX5_countHits cX5_countHits 6 (some .long) :: ([.fieldLink RX5 9 "ChanceHall$Laws" "chain" "LChanceHall$Chain;", .fieldLink RX5 23 "ChanceHall$Chain" "states" "I", .fieldLink RX5 20 "ChanceHall$Laws" "hitRows" "[[J", .methodLink RX5 61 yX5_hitsIn, .instanceMethod yX5_hitsIn, .selects RX5 yX5_hitsIn yX5_hitsIn, .initialized RX5, .code yX5_hitsIn cX5_hitsIn 4 (some .long), .methodLink RX5 51 yX0_countWords, .instanceMethod yX0_countWords, .selects RX0 yX0_countWords yX0_countWords, .initialized RX0, .code yX0_countWords cX0_countWords 5 (some .long), .fieldLink RX0 23 "ChanceHall$Chain" "slots" "I", .methodLink RX5 64 yX0_sumOverSlots, .instanceMethod yX0_sumOverSlots, .selects RX0 yX0_sumOverSlots yX0_sumOverSlots, .code yX0_sumOverSlots cX0_sumOverSlots 6 (some .long), .fieldLink RX0 19 "ChanceHall$Chain" "states" "I", .fieldLink RX0 16 "ChanceHall$Chain" "weights" "[[I"] ++ wsX50 ++ wsX00)
def wsX6_init : List Cond := .code yX6_init cX6_init 2 none :: ([.methodLink RX6 3 objectInit, .instanceMethod objectInit, .code objectInit ⟨#[0xb1]⟩ 1 none, .fieldLink RX6 9 "ChanceHall$Lumps" "chain" "LChanceHall$Chain;", .arrayClass .int, .fieldLink RX6 15 "ChanceHall$Lumps" "colours" "[I"] ++ wsX60)
def wsX6_forget : List Cond := .code yX6_forget cX6_forget 1 none :: ([.fieldLink RX6 15 "ChanceHall$Lumps" "colours" "[I", .methodLink RX6 19 yJ7_fill_53178, .static yJ7_fill_53178, .initialized RJ7, .code yJ7_fill_53178 cJ7_fill_53178 4 none] ++ wsX60)
def wsX6_setColour : List Cond := .code yX6_setColour cX6_setColour 4 (some .int) :: ([.fieldLink RX6 15 "ChanceHall$Lumps" "colours" "[I"] ++ wsX60)
def wsX6_weightTo : List Cond := .code yX6_weightTo cX6_weightTo 5 (some .int) :: ([.fieldLink RX6 9 "ChanceHall$Lumps" "chain" "LChanceHall$Chain;", .fieldLink RX6 25 "ChanceHall$Chain" "states" "I", .fieldLink RX6 15 "ChanceHall$Lumps" "colours" "[I", .fieldLink RX6 39 "ChanceHall$Chain" "weights" "[[I"] ++ wsX60 ++ wsX00)
def wsX6_leadAlike : List Cond := .code yX6_leadAlike cX6_leadAlike 4 (some .boolean) :: ([.methodLink RX6 35 yX6_weightTo, .instanceMethod yX6_weightTo, .selects RX6 yX6_weightTo yX6_weightTo, .initialized RX6, .code yX6_weightTo cX6_weightTo 5 (some .int), .fieldLink RX6 9 "ChanceHall$Lumps" "chain" "LChanceHall$Chain;", .fieldLink RX6 25 "ChanceHall$Chain" "states" "I", .fieldLink RX6 15 "ChanceHall$Lumps" "colours" "[I", .fieldLink RX6 39 "ChanceHall$Chain" "weights" "[[I"] ++ wsX60 ++ wsX00)
def wsX6_isChainLumped : List Cond := .code yX6_isChainLumped cX6_isChainLumped 3 (some .boolean) :: ([.fieldLink RX6 9 "ChanceHall$Lumps" "chain" "LChanceHall$Chain;", .fieldLink RX6 25 "ChanceHall$Chain" "states" "I", .fieldLink RX6 15 "ChanceHall$Lumps" "colours" "[I", .methodLink RX6 31 yX6_leadAlike, .instanceMethod yX6_leadAlike, .selects RX6 yX6_leadAlike yX6_leadAlike, .initialized RX6, .code yX6_leadAlike cX6_leadAlike 4 (some .boolean), .methodLink RX6 35 yX6_weightTo, .instanceMethod yX6_weightTo, .selects RX6 yX6_weightTo yX6_weightTo, .code yX6_weightTo cX6_weightTo 5 (some .int), .fieldLink RX6 39 "ChanceHall$Chain" "weights" "[[I"] ++ wsX60 ++ wsX00)
def wsX7_init : List Cond := .code yX7_init cX7_init 2 none :: ([.methodLink RX7 3 objectInit, .instanceMethod objectInit, .code objectInit ⟨#[0xb1]⟩ 1 none, .fieldLink RX7 9 "ChanceHall$Trees" "chain" "LChanceHall$Chain;", .arrayClass .long, .fieldLink RX7 15 "ChanceHall$Trees" "rests" "[J", .arrayClass .int, .fieldLink RX7 19 "ChanceHall$Trees" "others" "[I", .fieldLink RX7 23 "ChanceHall$Trees" "minors" "[J"] ++ wsX70)
def wsX7_listOthers : List Cond := .code yX7_listOthers cX7_listOthers 3 none :: ([.fieldLink RX7 9 "ChanceHall$Trees" "chain" "LChanceHall$Chain;", .fieldLink RX7 26 "ChanceHall$Chain" "states" "I", .fieldLink RX7 19 "ChanceHall$Trees" "others" "[I"] ++ wsX70 ++ wsX00)
def wsJ6_bitCount_0f7a4 : List Cond := .code yJ6_bitCount_0f7a4 cJ6_bitCount_0f7a4 1 (some .int) :: ([.constant RJ6 265 (1431655765), .constant RJ6 266 (858993459), .constant RJ6 267 (252645135)])
def wsX7_entry : List Cond := .code yX7_entry cX7_entry 3 (some .long) :: ([.fieldLink RX7 9 "ChanceHall$Trees" "chain" "LChanceHall$Chain;", .fieldLink RX7 56 "ChanceHall$Chain" "slots" "I", .fieldLink RX7 59 "ChanceHall$Chain" "weights" "[[I"] ++ wsX70 ++ wsX00)
def wsX7_minorOf : List Cond := .code yX7_minorOf cX7_minorOf 8 (some .long) :: ([.fieldLink RX7 19 "ChanceHall$Trees" "others" "[I", .fieldLink RX7 23 "ChanceHall$Trees" "minors" "[J", .methodLink RX7 47 yJ6_bitCount_0f7a4, .static yJ6_bitCount_0f7a4, .initialized RJ6, .code yJ6_bitCount_0f7a4 cJ6_bitCount_0f7a4 1 (some .int), .constant RJ6 265 (1431655765), .constant RJ6 266 (858993459), .constant RJ6 267 (252645135), .methodLink RX7 53 yX7_entry, .instanceMethod yX7_entry, .selects RX7 yX7_entry yX7_entry, .initialized RX7, .code yX7_entry cX7_entry 3 (some .long), .fieldLink RX7 9 "ChanceHall$Trees" "chain" "LChanceHall$Chain;", .fieldLink RX7 56 "ChanceHall$Chain" "slots" "I", .fieldLink RX7 59 "ChanceHall$Chain" "weights" "[[I"] ++ wsX70 ++ wsX00)
def wsX7_restOf_r1 : List Cond := [Cond.fieldLink RX7 9 "ChanceHall$Trees" "chain" "LChanceHall$Chain;", Cond.fieldLink RX7 26 "ChanceHall$Chain" "states" "I", Cond.fieldLink RX7 23 "ChanceHall$Trees" "minors" "[J", Cond.methodLink RX7 39 yX7_listOthers, Cond.instanceMethod yX7_listOthers, Cond.selects RX7 yX7_listOthers yX7_listOthers, Cond.initialized RX7, Cond.code yX7_listOthers cX7_listOthers 3 none, Cond.fieldLink RX7 19 "ChanceHall$Trees" "others" "[I", Cond.methodLink RX7 43 yX7_minorOf, Cond.instanceMethod yX7_minorOf, Cond.selects RX7 yX7_minorOf yX7_minorOf, Cond.code yX7_minorOf cX7_minorOf 8 (some .long), Cond.methodLink RX7 47 yJ6_bitCount_0f7a4, Cond.static yJ6_bitCount_0f7a4, Cond.initialized RJ6, Cond.code yJ6_bitCount_0f7a4 cJ6_bitCount_0f7a4 1 (some .int), Cond.constant RJ6 265 (1431655765), Cond.constant RJ6 266 (858993459), Cond.constant RJ6 267 (252645135), Cond.methodLink RX7 53 yX7_entry, Cond.instanceMethod yX7_entry, Cond.selects RX7 yX7_entry yX7_entry, Cond.code yX7_entry cX7_entry 3 (some .long)]
def wsX7_restOf_r2 : List Cond := [Cond.fieldLink RX7 56 "ChanceHall$Chain" "slots" "I", Cond.fieldLink RX7 59 "ChanceHall$Chain" "weights" "[[I"]
def wsX7_restOf : List Cond := .code yX7_restOf cX7_restOf 4 (some .long) :: ((wsX7_restOf_r1 ++ wsX7_restOf_r2) ++ wsX70 ++ wsX00)
def wsX7_countRests_r1 : List Cond := [Cond.fieldLink RX7 9 "ChanceHall$Trees" "chain" "LChanceHall$Chain;", Cond.fieldLink RX7 26 "ChanceHall$Chain" "states" "I", Cond.fieldLink RX7 15 "ChanceHall$Trees" "rests" "[J", Cond.methodLink RX7 32 yX7_restOf, Cond.instanceMethod yX7_restOf, Cond.selects RX7 yX7_restOf yX7_restOf, Cond.initialized RX7, Cond.code yX7_restOf cX7_restOf 4 (some .long), Cond.fieldLink RX7 23 "ChanceHall$Trees" "minors" "[J", Cond.methodLink RX7 39 yX7_listOthers, Cond.instanceMethod yX7_listOthers, Cond.selects RX7 yX7_listOthers yX7_listOthers, Cond.code yX7_listOthers cX7_listOthers 3 none, Cond.fieldLink RX7 19 "ChanceHall$Trees" "others" "[I", Cond.methodLink RX7 43 yX7_minorOf, Cond.instanceMethod yX7_minorOf, Cond.selects RX7 yX7_minorOf yX7_minorOf, Cond.code yX7_minorOf cX7_minorOf 8 (some .long), Cond.methodLink RX7 47 yJ6_bitCount_0f7a4, Cond.static yJ6_bitCount_0f7a4, Cond.initialized RJ6, Cond.code yJ6_bitCount_0f7a4 cJ6_bitCount_0f7a4 1 (some .int), Cond.constant RJ6 265 (1431655765), Cond.constant RJ6 266 (858993459)]
def wsX7_countRests_r2 : List Cond := [Cond.constant RJ6 267 (252645135), Cond.methodLink RX7 53 yX7_entry, Cond.instanceMethod yX7_entry, Cond.selects RX7 yX7_entry yX7_entry, Cond.code yX7_entry cX7_entry 3 (some .long), Cond.fieldLink RX7 56 "ChanceHall$Chain" "slots" "I", Cond.fieldLink RX7 59 "ChanceHall$Chain" "weights" "[[I"]
def wsX7_countRests : List Cond := .code yX7_countRests cX7_countRests 2 none :: ((wsX7_countRests_r1 ++ wsX7_countRests_r2) ++ wsX70 ++ wsX00)
def wsX7_wholeRest_r1 : List Cond := [Cond.fieldLink RX7 9 "ChanceHall$Trees" "chain" "LChanceHall$Chain;", Cond.fieldLink RX7 26 "ChanceHall$Chain" "states" "I", Cond.fieldLink RX7 15 "ChanceHall$Trees" "rests" "[J", Cond.methodLink RX7 36 yX7_countRests, Cond.instanceMethod yX7_countRests, Cond.selects RX7 yX7_countRests yX7_countRests, Cond.initialized RX7, Cond.code yX7_countRests cX7_countRests 2 none, Cond.methodLink RX7 32 yX7_restOf, Cond.instanceMethod yX7_restOf, Cond.selects RX7 yX7_restOf yX7_restOf, Cond.code yX7_restOf cX7_restOf 4 (some .long), Cond.fieldLink RX7 23 "ChanceHall$Trees" "minors" "[J", Cond.methodLink RX7 39 yX7_listOthers, Cond.instanceMethod yX7_listOthers, Cond.selects RX7 yX7_listOthers yX7_listOthers, Cond.code yX7_listOthers cX7_listOthers 3 none, Cond.fieldLink RX7 19 "ChanceHall$Trees" "others" "[I", Cond.methodLink RX7 43 yX7_minorOf, Cond.instanceMethod yX7_minorOf, Cond.selects RX7 yX7_minorOf yX7_minorOf, Cond.code yX7_minorOf cX7_minorOf 8 (some .long), Cond.methodLink RX7 47 yJ6_bitCount_0f7a4, Cond.static yJ6_bitCount_0f7a4]
def wsX7_wholeRest_r2 : List Cond := [Cond.initialized RJ6, Cond.code yJ6_bitCount_0f7a4 cJ6_bitCount_0f7a4 1 (some .int), Cond.constant RJ6 265 (1431655765), Cond.constant RJ6 266 (858993459), Cond.constant RJ6 267 (252645135), Cond.methodLink RX7 53 yX7_entry, Cond.instanceMethod yX7_entry, Cond.selects RX7 yX7_entry yX7_entry, Cond.code yX7_entry cX7_entry 3 (some .long), Cond.fieldLink RX7 56 "ChanceHall$Chain" "slots" "I", Cond.fieldLink RX7 59 "ChanceHall$Chain" "weights" "[[I"]
def wsX7_wholeRest : List Cond := .code yX7_wholeRest cX7_wholeRest 4 (some .long) :: ((wsX7_wholeRest_r1 ++ wsX7_wholeRest_r2) ++ wsX70 ++ wsX00)
def wsX7_countAhead : List Cond := .code yX7_countAhead cX7_countAhead 4 (some .int) :: ([.fieldLink RX7 9 "ChanceHall$Trees" "chain" "LChanceHall$Chain;", .fieldLink RX7 26 "ChanceHall$Chain" "states" "I", .fieldLink RX7 15 "ChanceHall$Trees" "rests" "[J"] ++ wsX70 ++ wsX00)
def wsX7_isTheSameBackwards_r1 : List Cond := [Cond.fieldLink RX7 9 "ChanceHall$Trees" "chain" "LChanceHall$Chain;", Cond.fieldLink RX7 26 "ChanceHall$Chain" "states" "I", Cond.fieldLink RX7 15 "ChanceHall$Trees" "rests" "[J", Cond.fieldLink RX7 59 "ChanceHall$Chain" "weights" "[[I", Cond.methodLink RX7 63 yX7_wholeRest, Cond.instanceMethod yX7_wholeRest, Cond.selects RX7 yX7_wholeRest yX7_wholeRest, Cond.initialized RX7, Cond.code yX7_wholeRest cX7_wholeRest 4 (some .long), Cond.methodLink RX7 36 yX7_countRests, Cond.instanceMethod yX7_countRests, Cond.selects RX7 yX7_countRests yX7_countRests, Cond.code yX7_countRests cX7_countRests 2 none, Cond.methodLink RX7 32 yX7_restOf, Cond.instanceMethod yX7_restOf, Cond.selects RX7 yX7_restOf yX7_restOf, Cond.code yX7_restOf cX7_restOf 4 (some .long), Cond.fieldLink RX7 23 "ChanceHall$Trees" "minors" "[J", Cond.methodLink RX7 39 yX7_listOthers, Cond.instanceMethod yX7_listOthers, Cond.selects RX7 yX7_listOthers yX7_listOthers, Cond.code yX7_listOthers cX7_listOthers 3 none, Cond.fieldLink RX7 19 "ChanceHall$Trees" "others" "[I", Cond.methodLink RX7 43 yX7_minorOf]
def wsX7_isTheSameBackwards_r2 : List Cond := [Cond.instanceMethod yX7_minorOf, Cond.selects RX7 yX7_minorOf yX7_minorOf, Cond.code yX7_minorOf cX7_minorOf 8 (some .long), Cond.methodLink RX7 47 yJ6_bitCount_0f7a4, Cond.static yJ6_bitCount_0f7a4, Cond.initialized RJ6, Cond.code yJ6_bitCount_0f7a4 cJ6_bitCount_0f7a4 1 (some .int), Cond.constant RJ6 265 (1431655765), Cond.constant RJ6 266 (858993459), Cond.constant RJ6 267 (252645135), Cond.methodLink RX7 53 yX7_entry, Cond.instanceMethod yX7_entry, Cond.selects RX7 yX7_entry yX7_entry, Cond.code yX7_entry cX7_entry 3 (some .long), Cond.fieldLink RX7 56 "ChanceHall$Chain" "slots" "I"]
def wsX7_isTheSameBackwards : List Cond := .code yX7_isTheSameBackwards cX7_isTheSameBackwards 3 (some .boolean) :: ((wsX7_isTheSameBackwards_r1 ++ wsX7_isTheSameBackwards_r2) ++ wsX70 ++ wsX00)
def wsX8_init_r1 : List Cond := [Cond.methodLink RX8 1 objectInit, Cond.instanceMethod objectInit, Cond.code objectInit ⟨#[0xb1]⟩ 1 none, Cond.classLink RX8 7 RX0, Cond.instantiable RX0 4, Cond.initialized RX0, Cond.fieldLink RX8 10 "ChanceHall" "chain" "LChanceHall$Chain;", Cond.classLink RX8 16 RX5, Cond.instantiable RX5 3, Cond.initialized RX5, Cond.fieldLink RX8 21 "ChanceHall" "laws" "LChanceHall$Laws;", Cond.classLink RX8 25 RX2, Cond.instantiable RX2 3, Cond.initialized RX2, Cond.fieldLink RX8 28 "ChanceHall" "crowds" "LChanceHall$Crowds;", Cond.classLink RX8 32 RX1, Cond.instantiable RX1 1, Cond.initialized RX1, Cond.fieldLink RX8 35 "ChanceHall" "classes" "LChanceHall$Classes;", Cond.classLink RX8 39 RX7, Cond.instantiable RX7 4, Cond.initialized RX7, Cond.fieldLink RX8 42 "ChanceHall" "trees" "LChanceHall$Trees;", Cond.classLink RX8 46 RX3]
def wsX8_init_r2 : List Cond := [Cond.instantiable RX3 3, Cond.initialized RX3, Cond.fieldLink RX8 49 "ChanceHall" "draws" "LChanceHall$Draws;", Cond.classLink RX8 53 RX4, Cond.instantiable RX4 3, Cond.initialized RX4, Cond.fieldLink RX8 56 "ChanceHall" "games" "LChanceHall$Games;", Cond.classLink RX8 60 RX6, Cond.instantiable RX6 2, Cond.initialized RX6, Cond.fieldLink RX8 63 "ChanceHall" "lumps" "LChanceHall$Lumps;", Cond.methodLink RX8 9 yX0_init, Cond.instanceMethod yX0_init, Cond.code yX0_init cX0_init 1 none, Cond.methodLink RX0 3 objectInit, Cond.classLink RX0 9 "[[I", Cond.arrayClass .int, Cond.fieldLink RX0 11 "ChanceHall$Chain" "goesTo" "[[I", Cond.fieldLink RX0 16 "ChanceHall$Chain" "weights" "[[I", Cond.methodLink RX8 18 yX5_init, Cond.instanceMethod yX5_init, Cond.code yX5_init cX5_init 2 none, Cond.methodLink RX5 3 objectInit, Cond.fieldLink RX5 9 "ChanceHall$Laws" "chain" "LChanceHall$Chain;"]
def wsX8_init_r3 : List Cond := [Cond.classLink RX5 15 "[[J", Cond.arrayClass .long, Cond.fieldLink RX5 17 "ChanceHall$Laws" "rows" "[[J", Cond.fieldLink RX5 20 "ChanceHall$Laws" "hitRows" "[[J", Cond.methodLink RX8 27 yX2_init, Cond.instanceMethod yX2_init, Cond.code yX2_init cX2_init 2 none, Cond.methodLink RX2 3 objectInit, Cond.fieldLink RX2 9 "ChanceHall$Crowds" "chain" "LChanceHall$Chain;", Cond.classLink RX2 15 "[[J", Cond.fieldLink RX2 17 "ChanceHall$Crowds" "apartRows" "[[J", Cond.fieldLink RX2 20 "ChanceHall$Crowds" "setRows" "[[J", Cond.methodLink RX8 34 yX1_init, Cond.instanceMethod yX1_init, Cond.code yX1_init cX1_init 2 none, Cond.methodLink RX1 3 objectInit, Cond.fieldLink RX1 9 "ChanceHall$Classes" "chain" "LChanceHall$Chain;", Cond.methodLink RX8 41 yX7_init, Cond.instanceMethod yX7_init, Cond.code yX7_init cX7_init 2 none, Cond.methodLink RX7 3 objectInit, Cond.fieldLink RX7 9 "ChanceHall$Trees" "chain" "LChanceHall$Chain;", Cond.fieldLink RX7 15 "ChanceHall$Trees" "rests" "[J", Cond.fieldLink RX7 19 "ChanceHall$Trees" "others" "[I"]
def wsX8_init_r4 : List Cond := [Cond.fieldLink RX7 23 "ChanceHall$Trees" "minors" "[J", Cond.methodLink RX8 48 yX3_init, Cond.instanceMethod yX3_init, Cond.code yX3_init cX3_init 2 none, Cond.methodLink RX3 3 objectInit, Cond.fieldLink RX3 9 "ChanceHall$Draws" "chain" "LChanceHall$Chain;", Cond.fieldLink RX3 15 "ChanceHall$Draws" "ends" "[I", Cond.fieldLink RX3 19 "ChanceHall$Draws" "endsBefore" "[I", Cond.methodLink RX8 55 yX4_init, Cond.instanceMethod yX4_init, Cond.code yX4_init cX4_init 2 none, Cond.methodLink RX4 3 objectInit, Cond.fieldLink RX4 9 "ChanceHall$Games" "chain" "LChanceHall$Chain;", Cond.fieldLink RX4 15 "ChanceHall$Games" "pays" "[I", Cond.classLink RX4 19 "[[J", Cond.fieldLink RX4 21 "ChanceHall$Games" "bests" "[[J", Cond.methodLink RX8 62 yX6_init, Cond.instanceMethod yX6_init, Cond.code yX6_init cX6_init 2 none, Cond.methodLink RX6 3 objectInit, Cond.fieldLink RX6 9 "ChanceHall$Lumps" "chain" "LChanceHall$Chain;", Cond.fieldLink RX6 15 "ChanceHall$Lumps" "colours" "[I", Cond.methodLink RX8 67 yX0_setOut, Cond.instanceMethod yX0_setOut]
def wsX8_init_r5 : List Cond := [Cond.selects RX0 yX0_setOut yX0_setOut, Cond.code yX0_setOut cX0_setOut 4 none, Cond.fieldLink RX0 19 "ChanceHall$Chain" "states" "I", Cond.fieldLink RX0 23 "ChanceHall$Chain" "slots" "I", Cond.methodLink RX0 26 yJ7_fill_53178, Cond.static yJ7_fill_53178, Cond.initialized RJ7, Cond.code yJ7_fill_53178 cJ7_fill_53178 4 none]
def wsX8_init : List Cond := .code yX8_init cX8_init 1 none :: ((wsX8_init_r1 ++ (wsX8_init_r2 ++ (wsX8_init_r3 ++ (wsX8_init_r4 ++ wsX8_init_r5)))) ++ wsX00 ++ wsX80 ++ wsX50 ++ wsX20 ++ wsX10 ++ wsX70 ++ wsX30 ++ wsX40 ++ wsX60)
def wsX8_needRange : List Cond := .code yX8_needRange cX8_needRange 3 none :: ([.classLink RX8 208 "java/lang/IllegalArgumentException", .initialized "java/lang/IllegalArgumentException"] ++ (vx_atS RX8 212 "java/lang/IllegalArgumentException" ["java/lang/RuntimeException", "java/lang/Exception"]).filter goodWord)
def wsX8_begin_r1 : List Cond := [Cond.fieldLink RX8 10 "ChanceHall" "chain" "LChanceHall$Chain;", Cond.fieldLink RX8 56 "ChanceHall" "games" "LChanceHall$Games;", Cond.fieldLink RX8 63 "ChanceHall" "lumps" "LChanceHall$Lumps;", Cond.methodLink RX8 71 yX8_needRange, Cond.static yX8_needRange, Cond.initialized RX8, Cond.code yX8_needRange cX8_needRange 3 none, Cond.classLink RX8 208 "java/lang/IllegalArgumentException", Cond.initialized "java/lang/IllegalArgumentException", Cond.methodLink RX8 67 yX0_setOut, Cond.instanceMethod yX0_setOut, Cond.selects RX0 yX0_setOut yX0_setOut, Cond.initialized RX0, Cond.code yX0_setOut cX0_setOut 4 none, Cond.fieldLink RX0 19 "ChanceHall$Chain" "states" "I", Cond.fieldLink RX0 23 "ChanceHall$Chain" "slots" "I", Cond.fieldLink RX0 11 "ChanceHall$Chain" "goesTo" "[[I", Cond.fieldLink RX0 16 "ChanceHall$Chain" "weights" "[[I", Cond.methodLink RX0 26 yJ7_fill_53178, Cond.static yJ7_fill_53178, Cond.initialized RJ7, Cond.code yJ7_fill_53178 cJ7_fill_53178 4 none, Cond.methodLink RX8 75 yX4_forget, Cond.instanceMethod yX4_forget]
def wsX8_begin_r2 : List Cond := [Cond.selects RX4 yX4_forget yX4_forget, Cond.initialized RX4, Cond.code yX4_forget cX4_forget 1 none, Cond.fieldLink RX4 15 "ChanceHall$Games" "pays" "[I", Cond.methodLink RX4 24 yJ7_fill_53178, Cond.methodLink RX8 78 yX6_forget, Cond.instanceMethod yX6_forget, Cond.selects RX6 yX6_forget yX6_forget, Cond.initialized RX6, Cond.code yX6_forget cX6_forget 1 none, Cond.fieldLink RX6 15 "ChanceHall$Lumps" "colours" "[I", Cond.methodLink RX6 19 yJ7_fill_53178]
def wsX8_begin : List Cond := .code yX8_begin cX8_begin 3 none :: ((wsX8_begin_r1 ++ wsX8_begin_r2) ++ wsX80 ++ wsX00 ++ wsX40 ++ wsX60 ++ (vx_atS RX8 212 "java/lang/IllegalArgumentException" ["java/lang/RuntimeException", "java/lang/Exception"]).filter goodWord)
def wsX8_needState : List Cond := .code yX8_needState cX8_needState 2 none :: ([.classLink RX8 163 "java/lang/IndexOutOfBoundsException", .initialized "java/lang/IndexOutOfBoundsException", .fieldLink RX8 10 "ChanceHall" "chain" "LChanceHall$Chain;", .fieldLink RX8 171 "ChanceHall$Chain" "states" "I"] ++ wsX80 ++ wsX00 ++ (vx_atS RX8 167 "java/lang/IndexOutOfBoundsException" ["java/lang/RuntimeException", "java/lang/Exception"]).filter goodWord)
def wsX8_needSlot : List Cond := .code yX8_needSlot cX8_needSlot 2 none :: ([.classLink RX8 163 "java/lang/IndexOutOfBoundsException", .initialized "java/lang/IndexOutOfBoundsException", .fieldLink RX8 10 "ChanceHall" "chain" "LChanceHall$Chain;", .fieldLink RX8 203 "ChanceHall$Chain" "slots" "I"] ++ wsX80 ++ wsX00 ++ (vx_atS RX8 167 "java/lang/IndexOutOfBoundsException" ["java/lang/RuntimeException", "java/lang/Exception"]).filter goodWord)
def wsX8_lead : List Cond := .code yX8_lead cX8_lead 4 (some .int) :: ([.fieldLink RX8 10 "ChanceHall" "chain" "LChanceHall$Chain;", .methodLink RX8 79 yX8_needState, .instanceMethod yX8_needState, .selects RX8 yX8_needState yX8_needState, .initialized RX8, .code yX8_needState cX8_needState 2 none, .classLink RX8 163 "java/lang/IndexOutOfBoundsException", .initialized "java/lang/IndexOutOfBoundsException", .fieldLink RX8 171 "ChanceHall$Chain" "states" "I", .methodLink RX8 83 yX8_needSlot, .instanceMethod yX8_needSlot, .selects RX8 yX8_needSlot yX8_needSlot, .code yX8_needSlot cX8_needSlot 2 none, .fieldLink RX8 203 "ChanceHall$Chain" "slots" "I", .methodLink RX8 86 yX0_turn, .instanceMethod yX0_turn, .selects RX0 yX0_turn yX0_turn, .initialized RX0, .code yX0_turn cX0_turn 5 (some .int), .fieldLink RX0 11 "ChanceHall$Chain" "goesTo" "[[I", .fieldLink RX0 16 "ChanceHall$Chain" "weights" "[[I"] ++ wsX80 ++ wsX00 ++ (vx_atS RX8 167 "java/lang/IndexOutOfBoundsException" ["java/lang/RuntimeException", "java/lang/Exception"]).filter goodWord)
def wsX8_swap : List Cond := .code yX8_swap cX8_swap 4 none :: ([.fieldLink RX8 10 "ChanceHall" "chain" "LChanceHall$Chain;", .methodLink RX8 79 yX8_needState, .instanceMethod yX8_needState, .selects RX8 yX8_needState yX8_needState, .initialized RX8, .code yX8_needState cX8_needState 2 none, .classLink RX8 163 "java/lang/IndexOutOfBoundsException", .initialized "java/lang/IndexOutOfBoundsException", .fieldLink RX8 171 "ChanceHall$Chain" "states" "I", .methodLink RX8 83 yX8_needSlot, .instanceMethod yX8_needSlot, .selects RX8 yX8_needSlot yX8_needSlot, .code yX8_needSlot cX8_needSlot 2 none, .fieldLink RX8 203 "ChanceHall$Chain" "slots" "I", .methodLink RX8 90 yX0_exchange, .instanceMethod yX0_exchange, .selects RX0 yX0_exchange yX0_exchange, .initialized RX0, .code yX0_exchange cX0_exchange 5 none, .fieldLink RX0 11 "ChanceHall$Chain" "goesTo" "[[I"] ++ wsX80 ++ wsX00 ++ (vx_atS RX8 167 "java/lang/IndexOutOfBoundsException" ["java/lang/RuntimeException", "java/lang/Exception"]).filter goodWord)
def wsX8_pay : List Cond := .code yX8_pay cX8_pay 3 (some .int) :: ([.constant RX8 93 (-100000), .constant RX8 94 (100000), .fieldLink RX8 56 "ChanceHall" "games" "LChanceHall$Games;", .methodLink RX8 79 yX8_needState, .instanceMethod yX8_needState, .selects RX8 yX8_needState yX8_needState, .initialized RX8, .code yX8_needState cX8_needState 2 none, .classLink RX8 163 "java/lang/IndexOutOfBoundsException", .initialized "java/lang/IndexOutOfBoundsException", .fieldLink RX8 10 "ChanceHall" "chain" "LChanceHall$Chain;", .fieldLink RX8 171 "ChanceHall$Chain" "states" "I", .methodLink RX8 71 yX8_needRange, .static yX8_needRange, .code yX8_needRange cX8_needRange 3 none, .classLink RX8 208 "java/lang/IllegalArgumentException", .initialized "java/lang/IllegalArgumentException", .methodLink RX8 95 yX4_setPay, .instanceMethod yX4_setPay, .selects RX4 yX4_setPay yX4_setPay, .initialized RX4, .code yX4_setPay cX4_setPay 4 (some .int), .fieldLink RX4 15 "ChanceHall$Games" "pays" "[I"] ++ wsX80 ++ wsX00 ++ wsX40 ++ (vx_atS RX8 167 "java/lang/IndexOutOfBoundsException" ["java/lang/RuntimeException", "java/lang/Exception"]).filter goodWord ++ (vx_atS RX8 212 "java/lang/IllegalArgumentException" ["java/lang/RuntimeException", "java/lang/Exception"]).filter goodWord)
def wsX8_colour : List Cond := .code yX8_colour cX8_colour 3 (some .int) :: ([.fieldLink RX8 63 "ChanceHall" "lumps" "LChanceHall$Lumps;", .methodLink RX8 79 yX8_needState, .instanceMethod yX8_needState, .selects RX8 yX8_needState yX8_needState, .initialized RX8, .code yX8_needState cX8_needState 2 none, .classLink RX8 163 "java/lang/IndexOutOfBoundsException", .initialized "java/lang/IndexOutOfBoundsException", .fieldLink RX8 10 "ChanceHall" "chain" "LChanceHall$Chain;", .fieldLink RX8 171 "ChanceHall$Chain" "states" "I", .methodLink RX8 71 yX8_needRange, .static yX8_needRange, .code yX8_needRange cX8_needRange 3 none, .classLink RX8 208 "java/lang/IllegalArgumentException", .initialized "java/lang/IllegalArgumentException", .methodLink RX8 99 yX6_setColour, .instanceMethod yX6_setColour, .selects RX6 yX6_setColour yX6_setColour, .initialized RX6, .code yX6_setColour cX6_setColour 4 (some .int), .fieldLink RX6 15 "ChanceHall$Lumps" "colours" "[I"] ++ wsX80 ++ wsX00 ++ wsX60 ++ (vx_atS RX8 167 "java/lang/IndexOutOfBoundsException" ["java/lang/RuntimeException", "java/lang/Exception"]).filter goodWord ++ (vx_atS RX8 212 "java/lang/IllegalArgumentException" ["java/lang/RuntimeException", "java/lang/Exception"]).filter goodWord)
def wsX8_weight : List Cond := .code yX8_weight cX8_weight 3 (some .int) :: ([.fieldLink RX8 10 "ChanceHall" "chain" "LChanceHall$Chain;", .fieldLink RX8 102 "ChanceHall$Chain" "weights" "[[I", .methodLink RX8 79 yX8_needState, .instanceMethod yX8_needState, .selects RX8 yX8_needState yX8_needState, .initialized RX8, .code yX8_needState cX8_needState 2 none, .classLink RX8 163 "java/lang/IndexOutOfBoundsException", .initialized "java/lang/IndexOutOfBoundsException", .fieldLink RX8 171 "ChanceHall$Chain" "states" "I"] ++ wsX80 ++ wsX00 ++ (vx_atS RX8 167 "java/lang/IndexOutOfBoundsException" ["java/lang/RuntimeException", "java/lang/Exception"]).filter goodWord)
def wsX8_words : List Cond := .code yX8_words cX8_words 2 (some .long) :: ([.fieldLink RX8 10 "ChanceHall" "chain" "LChanceHall$Chain;", .methodLink RX8 71 yX8_needRange, .static yX8_needRange, .initialized RX8, .code yX8_needRange cX8_needRange 3 none, .classLink RX8 208 "java/lang/IllegalArgumentException", .initialized "java/lang/IllegalArgumentException", .methodLink RX8 106 yX0_countWords, .instanceMethod yX0_countWords, .selects RX0 yX0_countWords yX0_countWords, .initialized RX0, .code yX0_countWords cX0_countWords 5 (some .long), .fieldLink RX0 23 "ChanceHall$Chain" "slots" "I"] ++ wsX80 ++ wsX00 ++ (vx_atS RX8 212 "java/lang/IllegalArgumentException" ["java/lang/RuntimeException", "java/lang/Exception"]).filter goodWord)
def wsX8_law_r1 : List Cond := [Cond.fieldLink RX8 21 "ChanceHall" "laws" "LChanceHall$Laws;", Cond.methodLink RX8 79 yX8_needState, Cond.instanceMethod yX8_needState, Cond.selects RX8 yX8_needState yX8_needState, Cond.initialized RX8, Cond.code yX8_needState cX8_needState 2 none, Cond.classLink RX8 163 "java/lang/IndexOutOfBoundsException", Cond.initialized "java/lang/IndexOutOfBoundsException", Cond.fieldLink RX8 10 "ChanceHall" "chain" "LChanceHall$Chain;", Cond.fieldLink RX8 171 "ChanceHall$Chain" "states" "I", Cond.methodLink RX8 71 yX8_needRange, Cond.static yX8_needRange, Cond.code yX8_needRange cX8_needRange 3 none, Cond.classLink RX8 208 "java/lang/IllegalArgumentException", Cond.initialized "java/lang/IllegalArgumentException", Cond.methodLink RX8 110 yX5_countLaw, Cond.instanceMethod yX5_countLaw, Cond.selects RX5 yX5_countLaw yX5_countLaw, Cond.initialized RX5, Cond.code yX5_countLaw cX5_countLaw 4 (some .long), Cond.fieldLink RX5 17 "ChanceHall$Laws" "rows" "[[J", Cond.methodLink RX5 41 yX5_countLaws, Cond.instanceMethod yX5_countLaws, Cond.selects RX5 yX5_countLaws yX5_countLaws]
def wsX8_law_r2 : List Cond := [Cond.code yX5_countLaws cX5_countLaws 4 none, Cond.fieldLink RX5 9 "ChanceHall$Laws" "chain" "LChanceHall$Chain;", Cond.fieldLink RX5 23 "ChanceHall$Chain" "states" "I", Cond.static yX8_pairOf, Cond.code yX8_pairOf cX8_pairOf 2 (some .int), Cond.methodLink RX5 33 yX5_goOneStep, Cond.instanceMethod yX5_goOneStep, Cond.selects RX5 yX5_goOneStep yX5_goOneStep, Cond.code yX5_goOneStep cX5_goOneStep 8 none, Cond.fieldLink RX5 37 "ChanceHall$Chain" "weights" "[[I"]
def wsX8_law : List Cond := .code yX8_law cX8_law 4 (some .long) :: ((wsX8_law_r1 ++ wsX8_law_r2) ++ wsX80 ++ wsX00 ++ wsX50 ++ (vx_atS RX8 167 "java/lang/IndexOutOfBoundsException" ["java/lang/RuntimeException", "java/lang/Exception"]).filter goodWord ++ (vx_atS RX8 212 "java/lang/IllegalArgumentException" ["java/lang/RuntimeException", "java/lang/Exception"]).filter goodWord)
def wsX8_goThroughWords : List Cond := .code yX8_goThroughWords cX8_goThroughWords 7 (some .long) :: ([.fieldLink RX8 203 "ChanceHall$Chain" "slots" "I", .fieldLink RX8 213 "ChanceHall$Chain" "goesTo" "[[I", .methodLink RX8 114 yX8_goThroughWords, .static yX8_goThroughWords, .initialized RX8] ++ wsX00)
def wsX8_lawAnew : List Cond := .code yX8_lawAnew cX8_lawAnew 4 (some .long) :: ([.fieldLink RX8 10 "ChanceHall" "chain" "LChanceHall$Chain;", .methodLink RX8 79 yX8_needState, .instanceMethod yX8_needState, .selects RX8 yX8_needState yX8_needState, .initialized RX8, .code yX8_needState cX8_needState 2 none, .classLink RX8 163 "java/lang/IndexOutOfBoundsException", .initialized "java/lang/IndexOutOfBoundsException", .fieldLink RX8 171 "ChanceHall$Chain" "states" "I", .methodLink RX8 71 yX8_needRange, .static yX8_needRange, .code yX8_needRange cX8_needRange 3 none, .classLink RX8 208 "java/lang/IllegalArgumentException", .initialized "java/lang/IllegalArgumentException", .methodLink RX8 114 yX8_goThroughWords, .static yX8_goThroughWords, .code yX8_goThroughWords cX8_goThroughWords 7 (some .long), .fieldLink RX8 203 "ChanceHall$Chain" "slots" "I", .fieldLink RX8 213 "ChanceHall$Chain" "goesTo" "[[I"] ++ wsX80 ++ wsX00 ++ (vx_atS RX8 167 "java/lang/IndexOutOfBoundsException" ["java/lang/RuntimeException", "java/lang/Exception"]).filter goodWord ++ (vx_atS RX8 212 "java/lang/IllegalArgumentException" ["java/lang/RuntimeException", "java/lang/Exception"]).filter goodWord)
def wsX8_distance_r1 : List Cond := [Cond.fieldLink RX8 21 "ChanceHall" "laws" "LChanceHall$Laws;", Cond.methodLink RX8 79 yX8_needState, Cond.instanceMethod yX8_needState, Cond.selects RX8 yX8_needState yX8_needState, Cond.initialized RX8, Cond.code yX8_needState cX8_needState 2 none, Cond.classLink RX8 163 "java/lang/IndexOutOfBoundsException", Cond.initialized "java/lang/IndexOutOfBoundsException", Cond.fieldLink RX8 10 "ChanceHall" "chain" "LChanceHall$Chain;", Cond.fieldLink RX8 171 "ChanceHall$Chain" "states" "I", Cond.methodLink RX8 71 yX8_needRange, Cond.static yX8_needRange, Cond.code yX8_needRange cX8_needRange 3 none, Cond.classLink RX8 208 "java/lang/IllegalArgumentException", Cond.initialized "java/lang/IllegalArgumentException", Cond.methodLink RX8 118 yX5_countLaws, Cond.instanceMethod yX5_countLaws, Cond.selects RX5 yX5_countLaws yX5_countLaws, Cond.initialized RX5, Cond.code yX5_countLaws cX5_countLaws 4 none, Cond.fieldLink RX5 9 "ChanceHall$Laws" "chain" "LChanceHall$Chain;", Cond.fieldLink RX5 23 "ChanceHall$Chain" "states" "I", Cond.fieldLink RX5 17 "ChanceHall$Laws" "rows" "[[J", Cond.static yX8_pairOf]
def wsX8_distance_r2 : List Cond := [Cond.code yX8_pairOf cX8_pairOf 2 (some .int), Cond.methodLink RX5 33 yX5_goOneStep, Cond.instanceMethod yX5_goOneStep, Cond.selects RX5 yX5_goOneStep yX5_goOneStep, Cond.code yX5_goOneStep cX5_goOneStep 8 none, Cond.fieldLink RX5 37 "ChanceHall$Chain" "weights" "[[I", Cond.methodLink RX8 121 yX5_distanceBehind, Cond.instanceMethod yX5_distanceBehind, Cond.selects RX5 yX5_distanceBehind yX5_distanceBehind, Cond.code yX5_distanceBehind cX5_distanceBehind 9 (some .long), Cond.methodLink RX5 45 Lib.MathLoose.max_long.x, Cond.static Lib.MathLoose.max_long.x, Cond.initialized "java/lang/Math", Cond.code Lib.MathLoose.max_long.x Lib.MathLoose.max_long.code 4 (some .long)]
def wsX8_distance : List Cond := .code yX8_distance cX8_distance 4 (some .long) :: ((wsX8_distance_r1 ++ wsX8_distance_r2) ++ wsX80 ++ wsX00 ++ wsX50 ++ (vx_atS RX8 167 "java/lang/IndexOutOfBoundsException" ["java/lang/RuntimeException", "java/lang/Exception"]).filter goodWord ++ (vx_atS RX8 212 "java/lang/IllegalArgumentException" ["java/lang/RuntimeException", "java/lang/Exception"]).filter goodWord)
def wsX8_mixing_r1 : List Cond := [Cond.fieldLink RX8 21 "ChanceHall" "laws" "LChanceHall$Laws;", Cond.methodLink RX8 71 yX8_needRange, Cond.static yX8_needRange, Cond.initialized RX8, Cond.code yX8_needRange cX8_needRange 3 none, Cond.classLink RX8 208 "java/lang/IllegalArgumentException", Cond.initialized "java/lang/IllegalArgumentException", Cond.methodLink RX8 118 yX5_countLaws, Cond.instanceMethod yX5_countLaws, Cond.selects RX5 yX5_countLaws yX5_countLaws, Cond.initialized RX5, Cond.code yX5_countLaws cX5_countLaws 4 none, Cond.fieldLink RX5 9 "ChanceHall$Laws" "chain" "LChanceHall$Chain;", Cond.fieldLink RX5 23 "ChanceHall$Chain" "states" "I", Cond.fieldLink RX5 17 "ChanceHall$Laws" "rows" "[[J", Cond.static yX8_pairOf, Cond.code yX8_pairOf cX8_pairOf 2 (some .int), Cond.methodLink RX5 33 yX5_goOneStep, Cond.instanceMethod yX5_goOneStep, Cond.selects RX5 yX5_goOneStep yX5_goOneStep, Cond.code yX5_goOneStep cX5_goOneStep 8 none, Cond.fieldLink RX5 37 "ChanceHall$Chain" "weights" "[[I", Cond.methodLink RX8 124 yX5_isMixed, Cond.instanceMethod yX5_isMixed]
def wsX8_mixing_r2 : List Cond := [Cond.selects RX5 yX5_isMixed yX5_isMixed, Cond.code yX5_isMixed cX5_isMixed 7 (some .boolean), Cond.constantLong RX5 55 (1000), Cond.methodLink RX5 51 yX0_countWords, Cond.instanceMethod yX0_countWords, Cond.selects RX0 yX0_countWords yX0_countWords, Cond.initialized RX0, Cond.code yX0_countWords cX0_countWords 5 (some .long), Cond.fieldLink RX0 23 "ChanceHall$Chain" "slots" "I", Cond.methodLink RX5 57 yX5_distanceBehind, Cond.instanceMethod yX5_distanceBehind, Cond.selects RX5 yX5_distanceBehind yX5_distanceBehind, Cond.code yX5_distanceBehind cX5_distanceBehind 9 (some .long), Cond.methodLink RX5 45 Lib.MathLoose.max_long.x, Cond.static Lib.MathLoose.max_long.x, Cond.initialized "java/lang/Math", Cond.code Lib.MathLoose.max_long.x Lib.MathLoose.max_long.code 4 (some .long)]
def wsX8_mixing : List Cond := .code yX8_mixing cX8_mixing 3 (some .int) :: ((wsX8_mixing_r1 ++ wsX8_mixing_r2) ++ wsX80 ++ wsX50 ++ wsX00 ++ (vx_atS RX8 212 "java/lang/IllegalArgumentException" ["java/lang/RuntimeException", "java/lang/Exception"]).filter goodWord)
def wsX8_apart_r1 : List Cond := [Cond.fieldLink RX8 28 "ChanceHall" "crowds" "LChanceHall$Crowds;", Cond.methodLink RX8 79 yX8_needState, Cond.instanceMethod yX8_needState, Cond.selects RX8 yX8_needState yX8_needState, Cond.initialized RX8, Cond.code yX8_needState cX8_needState 2 none, Cond.classLink RX8 163 "java/lang/IndexOutOfBoundsException", Cond.initialized "java/lang/IndexOutOfBoundsException", Cond.fieldLink RX8 10 "ChanceHall" "chain" "LChanceHall$Chain;", Cond.fieldLink RX8 171 "ChanceHall$Chain" "states" "I", Cond.methodLink RX8 71 yX8_needRange, Cond.static yX8_needRange, Cond.code yX8_needRange cX8_needRange 3 none, Cond.classLink RX8 208 "java/lang/IllegalArgumentException", Cond.initialized "java/lang/IllegalArgumentException", Cond.methodLink RX8 128 yX2_countApart, Cond.instanceMethod yX2_countApart, Cond.selects RX2 yX2_countApart yX2_countApart, Cond.initialized RX2, Cond.code yX2_countApart cX2_countApart 7 (some .long), Cond.fieldLink RX2 9 "ChanceHall$Crowds" "chain" "LChanceHall$Chain;", Cond.fieldLink RX2 23 "ChanceHall$Chain" "states" "I", Cond.fieldLink RX2 17 "ChanceHall$Crowds" "apartRows" "[[J", Cond.static yX8_pairOf]
def wsX8_apart_r2 : List Cond := [Cond.code yX8_pairOf cX8_pairOf 2 (some .int), Cond.methodLink RX2 33 yX2_apartFrom, Cond.instanceMethod yX2_apartFrom, Cond.selects RX2 yX2_apartFrom yX2_apartFrom, Cond.code yX2_apartFrom cX2_apartFrom 7 (some .long), Cond.fieldLink RX2 37 "ChanceHall$Chain" "slots" "I", Cond.fieldLink RX2 40 "ChanceHall$Chain" "goesTo" "[[I"]
def wsX8_apart : List Cond := .code yX8_apart cX8_apart 4 (some .long) :: ((wsX8_apart_r1 ++ wsX8_apart_r2) ++ wsX80 ++ wsX00 ++ wsX20 ++ (vx_atS RX8 167 "java/lang/IndexOutOfBoundsException" ["java/lang/RuntimeException", "java/lang/Exception"]).filter goodWord ++ (vx_atS RX8 212 "java/lang/IllegalArgumentException" ["java/lang/RuntimeException", "java/lang/Exception"]).filter goodWord)
def wsX8_together_r1 : List Cond := [Cond.fieldLink RX8 28 "ChanceHall" "crowds" "LChanceHall$Crowds;", Cond.methodLink RX8 79 yX8_needState, Cond.instanceMethod yX8_needState, Cond.selects RX8 yX8_needState yX8_needState, Cond.initialized RX8, Cond.code yX8_needState cX8_needState 2 none, Cond.classLink RX8 163 "java/lang/IndexOutOfBoundsException", Cond.initialized "java/lang/IndexOutOfBoundsException", Cond.fieldLink RX8 10 "ChanceHall" "chain" "LChanceHall$Chain;", Cond.fieldLink RX8 171 "ChanceHall$Chain" "states" "I", Cond.methodLink RX8 71 yX8_needRange, Cond.static yX8_needRange, Cond.code yX8_needRange cX8_needRange 3 none, Cond.classLink RX8 208 "java/lang/IllegalArgumentException", Cond.initialized "java/lang/IllegalArgumentException", Cond.methodLink RX8 131 yX2_countTogether, Cond.instanceMethod yX2_countTogether, Cond.selects RX2 yX2_countTogether yX2_countTogether, Cond.initialized RX2, Cond.code yX2_countTogether cX2_countTogether 6 (some .long), Cond.fieldLink RX2 9 "ChanceHall$Crowds" "chain" "LChanceHall$Chain;", Cond.fieldLink RX2 23 "ChanceHall$Chain" "states" "I", Cond.fieldLink RX2 20 "ChanceHall$Crowds" "setRows" "[[J", Cond.methodLink RX2 44 yJ7_fill_d0a16]
def wsX8_together_r2 : List Cond := [Cond.static yJ7_fill_d0a16, Cond.initialized RJ7, Cond.code yJ7_fill_d0a16 cJ7_fill_d0a16 5 none, Cond.methodLink RX2 50 yX2_moveCrowds, Cond.instanceMethod yX2_moveCrowds, Cond.selects RX2 yX2_moveCrowds yX2_moveCrowds, Cond.code yX2_moveCrowds cX2_moveCrowds 6 none, Cond.fieldLink RX2 37 "ChanceHall$Chain" "slots" "I", Cond.methodLink RX2 54 yX2_setBehind, Cond.instanceMethod yX2_setBehind, Cond.selects RX2 yX2_setBehind yX2_setBehind, Cond.code yX2_setBehind cX2_setBehind 5 (some .int), Cond.fieldLink RX2 40 "ChanceHall$Chain" "goesTo" "[[I"]
def wsX8_together : List Cond := .code yX8_together cX8_together 3 (some .long) :: ((wsX8_together_r1 ++ wsX8_together_r2) ++ wsX80 ++ wsX00 ++ wsX20 ++ (vx_atS RX8 167 "java/lang/IndexOutOfBoundsException" ["java/lang/RuntimeException", "java/lang/Exception"]).filter goodWord ++ (vx_atS RX8 212 "java/lang/IllegalArgumentException" ["java/lang/RuntimeException", "java/lang/Exception"]).filter goodWord)
def wsX8_hits_r1 : List Cond := [Cond.fieldLink RX8 21 "ChanceHall" "laws" "LChanceHall$Laws;", Cond.methodLink RX8 79 yX8_needState, Cond.instanceMethod yX8_needState, Cond.selects RX8 yX8_needState yX8_needState, Cond.initialized RX8, Cond.code yX8_needState cX8_needState 2 none, Cond.classLink RX8 163 "java/lang/IndexOutOfBoundsException", Cond.initialized "java/lang/IndexOutOfBoundsException", Cond.fieldLink RX8 10 "ChanceHall" "chain" "LChanceHall$Chain;", Cond.fieldLink RX8 171 "ChanceHall$Chain" "states" "I", Cond.methodLink RX8 71 yX8_needRange, Cond.static yX8_needRange, Cond.code yX8_needRange cX8_needRange 3 none, Cond.classLink RX8 208 "java/lang/IllegalArgumentException", Cond.initialized "java/lang/IllegalArgumentException", Cond.methodLink RX8 135 yX5_countHits, Cond.instanceMethod yX5_countHits, Cond.selects RX5 yX5_countHits yX5_countHits, Cond.initialized RX5, Cond.code yX5_countHits cX5_countHits 6 (some .long), Cond.fieldLink RX5 9 "ChanceHall$Laws" "chain" "LChanceHall$Chain;", Cond.fieldLink RX5 23 "ChanceHall$Chain" "states" "I", Cond.fieldLink RX5 20 "ChanceHall$Laws" "hitRows" "[[J", Cond.methodLink RX5 61 yX5_hitsIn]
def wsX8_hits_r2 : List Cond := [Cond.instanceMethod yX5_hitsIn, Cond.selects RX5 yX5_hitsIn yX5_hitsIn, Cond.code yX5_hitsIn cX5_hitsIn 4 (some .long), Cond.methodLink RX5 51 yX0_countWords, Cond.instanceMethod yX0_countWords, Cond.selects RX0 yX0_countWords yX0_countWords, Cond.initialized RX0, Cond.code yX0_countWords cX0_countWords 5 (some .long), Cond.fieldLink RX0 23 "ChanceHall$Chain" "slots" "I", Cond.methodLink RX5 64 yX0_sumOverSlots, Cond.instanceMethod yX0_sumOverSlots, Cond.selects RX0 yX0_sumOverSlots yX0_sumOverSlots, Cond.code yX0_sumOverSlots cX0_sumOverSlots 6 (some .long), Cond.fieldLink RX0 19 "ChanceHall$Chain" "states" "I", Cond.fieldLink RX0 16 "ChanceHall$Chain" "weights" "[[I"]
def wsX8_hits : List Cond := .code yX8_hits cX8_hits 4 (some .long) :: ((wsX8_hits_r1 ++ wsX8_hits_r2) ++ wsX80 ++ wsX00 ++ wsX50 ++ (vx_atS RX8 167 "java/lang/IndexOutOfBoundsException" ["java/lang/RuntimeException", "java/lang/Exception"]).filter goodWord ++ (vx_atS RX8 212 "java/lang/IllegalArgumentException" ["java/lang/RuntimeException", "java/lang/Exception"]).filter goodWord)
def wsX8_reach : List Cond := .code yX8_reach cX8_reach 2 (some .int) :: ([.fieldLink RX8 35 "ChanceHall" "classes" "LChanceHall$Classes;", .methodLink RX8 79 yX8_needState, .instanceMethod yX8_needState, .selects RX8 yX8_needState yX8_needState, .initialized RX8, .code yX8_needState cX8_needState 2 none, .classLink RX8 163 "java/lang/IndexOutOfBoundsException", .initialized "java/lang/IndexOutOfBoundsException", .fieldLink RX8 10 "ChanceHall" "chain" "LChanceHall$Chain;", .fieldLink RX8 171 "ChanceHall$Chain" "states" "I", .methodLink RX8 138 yX1_reachedFrom, .instanceMethod yX1_reachedFrom, .selects RX1 yX1_reachedFrom yX1_reachedFrom, .initialized RX1, .code yX1_reachedFrom cX1_reachedFrom 4 (some .int), .fieldLink RX1 9 "ChanceHall$Classes" "chain" "LChanceHall$Chain;", .fieldLink RX1 15 "ChanceHall$Chain" "states" "I", .methodLink RX1 21 yX1_setOneStepOn, .instanceMethod yX1_setOneStepOn, .selects RX1 yX1_setOneStepOn yX1_setOneStepOn, .code yX1_setOneStepOn cX1_setOneStepOn 5 (some .int), .fieldLink RX1 25 "ChanceHall$Chain" "weights" "[[I"] ++ wsX80 ++ wsX00 ++ wsX10 ++ (vx_atS RX8 167 "java/lang/IndexOutOfBoundsException" ["java/lang/RuntimeException", "java/lang/Exception"]).filter goodWord)
def wsX8_closed : List Cond := .code yX8_closed cX8_closed 1 (some .int) :: ([.fieldLink RX8 35 "ChanceHall" "classes" "LChanceHall$Classes;", .methodLink RX8 142 yX1_countClosed, .instanceMethod yX1_countClosed, .selects RX1 yX1_countClosed yX1_countClosed, .initialized RX1, .code yX1_countClosed cX1_countClosed 3 (some .int), .fieldLink RX1 9 "ChanceHall$Classes" "chain" "LChanceHall$Chain;", .fieldLink RX1 15 "ChanceHall$Chain" "states" "I", .methodLink RX1 29 yX1_isLowestOfClosed, .instanceMethod yX1_isLowestOfClosed, .selects RX1 yX1_isLowestOfClosed yX1_isLowestOfClosed, .code yX1_isLowestOfClosed cX1_isLowestOfClosed 4 (some .boolean), .methodLink RX1 33 yX1_reachedFrom, .instanceMethod yX1_reachedFrom, .selects RX1 yX1_reachedFrom yX1_reachedFrom, .code yX1_reachedFrom cX1_reachedFrom 4 (some .int), .methodLink RX1 21 yX1_setOneStepOn, .instanceMethod yX1_setOneStepOn, .selects RX1 yX1_setOneStepOn yX1_setOneStepOn, .code yX1_setOneStepOn cX1_setOneStepOn 5 (some .int), .fieldLink RX1 25 "ChanceHall$Chain" "weights" "[[I"] ++ wsX80 ++ wsX10 ++ wsX00)
def wsX8_period_r1 : List Cond := [Cond.fieldLink RX8 35 "ChanceHall" "classes" "LChanceHall$Classes;", Cond.methodLink RX8 79 yX8_needState, Cond.instanceMethod yX8_needState, Cond.selects RX8 yX8_needState yX8_needState, Cond.initialized RX8, Cond.code yX8_needState cX8_needState 2 none, Cond.classLink RX8 163 "java/lang/IndexOutOfBoundsException", Cond.initialized "java/lang/IndexOutOfBoundsException", Cond.fieldLink RX8 10 "ChanceHall" "chain" "LChanceHall$Chain;", Cond.fieldLink RX8 171 "ChanceHall$Chain" "states" "I", Cond.methodLink RX8 146 yX1_periodOf, Cond.instanceMethod yX1_periodOf, Cond.selects RX1 yX1_periodOf yX1_periodOf, Cond.initialized RX1, Cond.code yX1_periodOf cX1_periodOf 5 (some .int), Cond.methodLink RX1 21 yX1_setOneStepOn, Cond.instanceMethod yX1_setOneStepOn, Cond.selects RX1 yX1_setOneStepOn yX1_setOneStepOn, Cond.code yX1_setOneStepOn cX1_setOneStepOn 5 (some .int), Cond.fieldLink RX1 9 "ChanceHall$Classes" "chain" "LChanceHall$Chain;", Cond.fieldLink RX1 15 "ChanceHall$Chain" "states" "I", Cond.fieldLink RX1 25 "ChanceHall$Chain" "weights" "[[I", Cond.methodLink RX1 36 yX1_greatestDivisor, Cond.static yX1_greatestDivisor]
def wsX8_period_r2 : List Cond := [Cond.code yX1_greatestDivisor cX1_greatestDivisor 2 (some .int), Cond.methodLink RX1 39 yX1_dividesAll, Cond.static yX1_dividesAll, Cond.code yX1_dividesAll cX1_dividesAll 3 (some .boolean)]
def wsX8_period : List Cond := .code yX8_period cX8_period 2 (some .int) :: ((wsX8_period_r1 ++ wsX8_period_r2) ++ wsX80 ++ wsX00 ++ wsX10 ++ (vx_atS RX8 167 "java/lang/IndexOutOfBoundsException" ["java/lang/RuntimeException", "java/lang/Exception"]).filter goodWord)
def wsX8_rest_r1 : List Cond := [Cond.fieldLink RX8 42 "ChanceHall" "trees" "LChanceHall$Trees;", Cond.methodLink RX8 149 yX7_wholeRest, Cond.instanceMethod yX7_wholeRest, Cond.selects RX7 yX7_wholeRest yX7_wholeRest, Cond.initialized RX7, Cond.code yX7_wholeRest cX7_wholeRest 4 (some .long), Cond.fieldLink RX7 9 "ChanceHall$Trees" "chain" "LChanceHall$Chain;", Cond.fieldLink RX7 26 "ChanceHall$Chain" "states" "I", Cond.fieldLink RX7 15 "ChanceHall$Trees" "rests" "[J", Cond.methodLink RX7 36 yX7_countRests, Cond.instanceMethod yX7_countRests, Cond.selects RX7 yX7_countRests yX7_countRests, Cond.code yX7_countRests cX7_countRests 2 none, Cond.methodLink RX7 32 yX7_restOf, Cond.instanceMethod yX7_restOf, Cond.selects RX7 yX7_restOf yX7_restOf, Cond.code yX7_restOf cX7_restOf 4 (some .long), Cond.fieldLink RX7 23 "ChanceHall$Trees" "minors" "[J", Cond.methodLink RX7 39 yX7_listOthers, Cond.instanceMethod yX7_listOthers, Cond.selects RX7 yX7_listOthers yX7_listOthers, Cond.code yX7_listOthers cX7_listOthers 3 none, Cond.fieldLink RX7 19 "ChanceHall$Trees" "others" "[I", Cond.methodLink RX7 43 yX7_minorOf]
def wsX8_rest_r2 : List Cond := [Cond.instanceMethod yX7_minorOf, Cond.selects RX7 yX7_minorOf yX7_minorOf, Cond.code yX7_minorOf cX7_minorOf 8 (some .long), Cond.methodLink RX7 47 yJ6_bitCount_0f7a4, Cond.static yJ6_bitCount_0f7a4, Cond.initialized RJ6, Cond.code yJ6_bitCount_0f7a4 cJ6_bitCount_0f7a4 1 (some .int), Cond.constant RJ6 265 (1431655765), Cond.constant RJ6 266 (858993459), Cond.constant RJ6 267 (252645135), Cond.methodLink RX7 53 yX7_entry, Cond.instanceMethod yX7_entry, Cond.selects RX7 yX7_entry yX7_entry, Cond.code yX7_entry cX7_entry 3 (some .long), Cond.fieldLink RX7 56 "ChanceHall$Chain" "slots" "I", Cond.fieldLink RX7 59 "ChanceHall$Chain" "weights" "[[I", Cond.methodLink RX8 79 yX8_needState, Cond.instanceMethod yX8_needState, Cond.selects RX8 yX8_needState yX8_needState, Cond.initialized RX8, Cond.code yX8_needState cX8_needState 2 none, Cond.classLink RX8 163 "java/lang/IndexOutOfBoundsException", Cond.initialized "java/lang/IndexOutOfBoundsException", Cond.fieldLink RX8 10 "ChanceHall" "chain" "LChanceHall$Chain;"]
def wsX8_rest_r3 : List Cond := [Cond.fieldLink RX8 171 "ChanceHall$Chain" "states" "I", Cond.methodLink RX8 153 yX7_restOf]
def wsX8_rest : List Cond := .code yX8_rest cX8_rest 2 (some .long) :: ((wsX8_rest_r1 ++ (wsX8_rest_r2 ++ wsX8_rest_r3)) ++ wsX80 ++ wsX70 ++ wsX00 ++ (vx_atS RX8 167 "java/lang/IndexOutOfBoundsException" ["java/lang/RuntimeException", "java/lang/Exception"]).filter goodWord)
def wsX8_share_r1 : List Cond := [Cond.classLink RX8 156 "java/lang/IllegalStateException", Cond.initialized "java/lang/IllegalStateException", Cond.fieldLink RX8 42 "ChanceHall" "trees" "LChanceHall$Trees;", Cond.methodLink RX8 79 yX8_needState, Cond.instanceMethod yX8_needState, Cond.selects RX8 yX8_needState yX8_needState, Cond.initialized RX8, Cond.code yX8_needState cX8_needState 2 none, Cond.classLink RX8 163 "java/lang/IndexOutOfBoundsException", Cond.initialized "java/lang/IndexOutOfBoundsException", Cond.fieldLink RX8 10 "ChanceHall" "chain" "LChanceHall$Chain;", Cond.fieldLink RX8 171 "ChanceHall$Chain" "states" "I", Cond.methodLink RX8 149 yX7_wholeRest, Cond.instanceMethod yX7_wholeRest, Cond.selects RX7 yX7_wholeRest yX7_wholeRest, Cond.initialized RX7, Cond.code yX7_wholeRest cX7_wholeRest 4 (some .long), Cond.fieldLink RX7 9 "ChanceHall$Trees" "chain" "LChanceHall$Chain;", Cond.fieldLink RX7 26 "ChanceHall$Chain" "states" "I", Cond.fieldLink RX7 15 "ChanceHall$Trees" "rests" "[J", Cond.methodLink RX7 36 yX7_countRests, Cond.instanceMethod yX7_countRests, Cond.selects RX7 yX7_countRests yX7_countRests, Cond.code yX7_countRests cX7_countRests 2 none]
def wsX8_share_r2 : List Cond := [Cond.methodLink RX7 32 yX7_restOf, Cond.instanceMethod yX7_restOf, Cond.selects RX7 yX7_restOf yX7_restOf, Cond.code yX7_restOf cX7_restOf 4 (some .long), Cond.fieldLink RX7 23 "ChanceHall$Trees" "minors" "[J", Cond.methodLink RX7 39 yX7_listOthers, Cond.instanceMethod yX7_listOthers, Cond.selects RX7 yX7_listOthers yX7_listOthers, Cond.code yX7_listOthers cX7_listOthers 3 none, Cond.fieldLink RX7 19 "ChanceHall$Trees" "others" "[I", Cond.methodLink RX7 43 yX7_minorOf, Cond.instanceMethod yX7_minorOf, Cond.selects RX7 yX7_minorOf yX7_minorOf, Cond.code yX7_minorOf cX7_minorOf 8 (some .long), Cond.methodLink RX7 47 yJ6_bitCount_0f7a4, Cond.static yJ6_bitCount_0f7a4, Cond.initialized RJ6, Cond.code yJ6_bitCount_0f7a4 cJ6_bitCount_0f7a4 1 (some .int), Cond.constant RJ6 265 (1431655765), Cond.constant RJ6 266 (858993459), Cond.constant RJ6 267 (252645135), Cond.methodLink RX7 53 yX7_entry, Cond.instanceMethod yX7_entry, Cond.selects RX7 yX7_entry yX7_entry]
def wsX8_share_r3 : List Cond := [Cond.code yX7_entry cX7_entry 3 (some .long), Cond.fieldLink RX7 56 "ChanceHall$Chain" "slots" "I", Cond.fieldLink RX7 59 "ChanceHall$Chain" "weights" "[[I", Cond.methodLink RX8 153 yX7_restOf]
def wsX8_share : List Cond := .code yX8_share cX8_share 4 (some .float) :: ((wsX8_share_r1 ++ (wsX8_share_r2 ++ wsX8_share_r3)) ++ wsX80 ++ wsX00 ++ wsX70 ++ (vx_atS RX8 160 "java/lang/IllegalStateException" ["java/lang/RuntimeException", "java/lang/Exception"]).filter goodWord ++ (vx_atS RX8 167 "java/lang/IndexOutOfBoundsException" ["java/lang/RuntimeException", "java/lang/Exception"]).filter goodWord)
def wsX8_ranked_r1 : List Cond := [Cond.classLink RX8 163 "java/lang/IndexOutOfBoundsException", Cond.initialized "java/lang/IndexOutOfBoundsException", Cond.fieldLink RX8 42 "ChanceHall" "trees" "LChanceHall$Trees;", Cond.fieldLink RX8 10 "ChanceHall" "chain" "LChanceHall$Chain;", Cond.fieldLink RX8 171 "ChanceHall$Chain" "states" "I", Cond.methodLink RX8 168 yX7_countRests, Cond.instanceMethod yX7_countRests, Cond.selects RX7 yX7_countRests yX7_countRests, Cond.initialized RX7, Cond.code yX7_countRests cX7_countRests 2 none, Cond.fieldLink RX7 9 "ChanceHall$Trees" "chain" "LChanceHall$Chain;", Cond.fieldLink RX7 26 "ChanceHall$Chain" "states" "I", Cond.fieldLink RX7 15 "ChanceHall$Trees" "rests" "[J", Cond.methodLink RX7 32 yX7_restOf, Cond.instanceMethod yX7_restOf, Cond.selects RX7 yX7_restOf yX7_restOf, Cond.code yX7_restOf cX7_restOf 4 (some .long), Cond.fieldLink RX7 23 "ChanceHall$Trees" "minors" "[J", Cond.methodLink RX7 39 yX7_listOthers, Cond.instanceMethod yX7_listOthers, Cond.selects RX7 yX7_listOthers yX7_listOthers, Cond.code yX7_listOthers cX7_listOthers 3 none, Cond.fieldLink RX7 19 "ChanceHall$Trees" "others" "[I", Cond.methodLink RX7 43 yX7_minorOf]
def wsX8_ranked_r2 : List Cond := [Cond.instanceMethod yX7_minorOf, Cond.selects RX7 yX7_minorOf yX7_minorOf, Cond.code yX7_minorOf cX7_minorOf 8 (some .long), Cond.methodLink RX7 47 yJ6_bitCount_0f7a4, Cond.static yJ6_bitCount_0f7a4, Cond.initialized RJ6, Cond.code yJ6_bitCount_0f7a4 cJ6_bitCount_0f7a4 1 (some .int), Cond.constant RJ6 265 (1431655765), Cond.constant RJ6 266 (858993459), Cond.constant RJ6 267 (252645135), Cond.methodLink RX7 53 yX7_entry, Cond.instanceMethod yX7_entry, Cond.selects RX7 yX7_entry yX7_entry, Cond.code yX7_entry cX7_entry 3 (some .long), Cond.fieldLink RX7 56 "ChanceHall$Chain" "slots" "I", Cond.fieldLink RX7 59 "ChanceHall$Chain" "weights" "[[I", Cond.methodLink RX8 175 yX7_countAhead, Cond.instanceMethod yX7_countAhead, Cond.selects RX7 yX7_countAhead yX7_countAhead, Cond.code yX7_countAhead cX7_countAhead 4 (some .int)]
def wsX8_ranked : List Cond := .code yX8_ranked cX8_ranked 3 (some .int) :: ((wsX8_ranked_r1 ++ wsX8_ranked_r2) ++ wsX80 ++ wsX00 ++ wsX70 ++ (vx_atS RX8 167 "java/lang/IndexOutOfBoundsException" ["java/lang/RuntimeException", "java/lang/Exception"]).filter goodWord)
def wsX8_walk_r1 : List Cond := [Cond.constant RX8 178 (65520), Cond.fieldLink RX8 49 "ChanceHall" "draws" "LChanceHall$Draws;", Cond.methodLink RX8 79 yX8_needState, Cond.instanceMethod yX8_needState, Cond.selects RX8 yX8_needState yX8_needState, Cond.initialized RX8, Cond.code yX8_needState cX8_needState 2 none, Cond.classLink RX8 163 "java/lang/IndexOutOfBoundsException", Cond.initialized "java/lang/IndexOutOfBoundsException", Cond.fieldLink RX8 10 "ChanceHall" "chain" "LChanceHall$Chain;", Cond.fieldLink RX8 171 "ChanceHall$Chain" "states" "I", Cond.methodLink RX8 71 yX8_needRange, Cond.static yX8_needRange, Cond.code yX8_needRange cX8_needRange 3 none, Cond.classLink RX8 208 "java/lang/IllegalArgumentException", Cond.initialized "java/lang/IllegalArgumentException", Cond.methodLink RX8 179 yX3_walkOn, Cond.instanceMethod yX3_walkOn, Cond.selects RX3 yX3_walkOn yX3_walkOn, Cond.initialized RX3, Cond.code yX3_walkOn cX3_walkOn 7 (some .int), Cond.fieldLink RX3 9 "ChanceHall$Draws" "chain" "LChanceHall$Chain;", Cond.fieldLink RX3 26 "ChanceHall$Chain" "goesTo" "[[I", Cond.methodLink RX3 22 yX3_seedBehind]
def wsX8_walk_r2 : List Cond := [Cond.static yX3_seedBehind, Cond.code yX3_seedBehind cX3_seedBehind 1 (some .int), Cond.constant RX3 56 (65521), Cond.methodLink RX3 32 yX3_slotOf, Cond.instanceMethod yX3_slotOf, Cond.selects RX3 yX3_slotOf yX3_slotOf, Cond.code yX3_slotOf cX3_slotOf 2 (some .int), Cond.fieldLink RX3 53 "ChanceHall$Chain" "slots" "I"]
def wsX8_walk : List Cond := .code yX8_walk cX8_walk 4 (some .int) :: ((wsX8_walk_r1 ++ wsX8_walk_r2) ++ wsX80 ++ wsX00 ++ wsX30 ++ (vx_atS RX8 167 "java/lang/IndexOutOfBoundsException" ["java/lang/RuntimeException", "java/lang/Exception"]).filter goodWord ++ (vx_atS RX8 212 "java/lang/IllegalArgumentException" ["java/lang/RuntimeException", "java/lang/Exception"]).filter goodWord)
def wsX8_draw_r1 : List Cond := [Cond.constant RX8 178 (65520), Cond.fieldLink RX8 49 "ChanceHall" "draws" "LChanceHall$Draws;", Cond.methodLink RX8 71 yX8_needRange, Cond.static yX8_needRange, Cond.initialized RX8, Cond.code yX8_needRange cX8_needRange 3 none, Cond.classLink RX8 208 "java/lang/IllegalArgumentException", Cond.initialized "java/lang/IllegalArgumentException", Cond.methodLink RX8 182 yX3_drawFromPast, Cond.instanceMethod yX3_drawFromPast, Cond.selects RX3 yX3_drawFromPast yX3_drawFromPast, Cond.initialized RX3, Cond.code yX3_drawFromPast cX3_drawFromPast 4 (some .int), Cond.fieldLink RX3 9 "ChanceHall$Draws" "chain" "LChanceHall$Chain;", Cond.fieldLink RX3 35 "ChanceHall$Chain" "states" "I", Cond.fieldLink RX3 15 "ChanceHall$Draws" "ends" "[I", Cond.methodLink RX3 39 yX3_isTogether, Cond.instanceMethod yX3_isTogether, Cond.selects RX3 yX3_isTogether yX3_isTogether, Cond.code yX3_isTogether cX3_isTogether 2 (some .boolean), Cond.methodLink RX3 22 yX3_seedBehind, Cond.static yX3_seedBehind, Cond.code yX3_seedBehind cX3_seedBehind 1 (some .int), Cond.constant RX3 56 (65521)]
def wsX8_draw_r2 : List Cond := [Cond.methodLink RX3 32 yX3_slotOf, Cond.instanceMethod yX3_slotOf, Cond.selects RX3 yX3_slotOf yX3_slotOf, Cond.code yX3_slotOf cX3_slotOf 2 (some .int), Cond.fieldLink RX3 53 "ChanceHall$Chain" "slots" "I", Cond.methodLink RX3 43 yX3_putAhead, Cond.instanceMethod yX3_putAhead, Cond.selects RX3 yX3_putAhead yX3_putAhead, Cond.code yX3_putAhead cX3_putAhead 3 none, Cond.fieldLink RX3 19 "ChanceHall$Draws" "endsBefore" "[I", Cond.methodLink RX3 47 arraycopyName, Cond.native arraycopyName, Cond.static arraycopyName, Cond.initialized "java/lang/System", Cond.fieldLink RX3 26 "ChanceHall$Chain" "goesTo" "[[I"]
def wsX8_draw : List Cond := .code yX8_draw cX8_draw 2 (some .int) :: ((wsX8_draw_r1 ++ wsX8_draw_r2) ++ wsX80 ++ wsX30 ++ wsX00 ++ (vx_atS RX8 212 "java/lang/IllegalArgumentException" ["java/lang/RuntimeException", "java/lang/Exception"]).filter goodWord)
def wsX8_drift : List Cond := .code yX8_drift cX8_drift 2 (some .long) :: ([.fieldLink RX8 56 "ChanceHall" "games" "LChanceHall$Games;", .methodLink RX8 79 yX8_needState, .instanceMethod yX8_needState, .selects RX8 yX8_needState yX8_needState, .initialized RX8, .code yX8_needState cX8_needState 2 none, .classLink RX8 163 "java/lang/IndexOutOfBoundsException", .initialized "java/lang/IndexOutOfBoundsException", .fieldLink RX8 10 "ChanceHall" "chain" "LChanceHall$Chain;", .fieldLink RX8 171 "ChanceHall$Chain" "states" "I", .methodLink RX8 185 yX4_driftOf, .instanceMethod yX4_driftOf, .selects RX4 yX4_driftOf yX4_driftOf, .initialized RX4, .code yX4_driftOf cX4_driftOf 5 (some .long), .fieldLink RX4 9 "ChanceHall$Games" "chain" "LChanceHall$Chain;", .fieldLink RX4 30 "ChanceHall$Chain" "states" "I", .fieldLink RX4 36 "ChanceHall$Chain" "weights" "[[I", .fieldLink RX4 15 "ChanceHall$Games" "pays" "[I", .fieldLink RX4 40 "ChanceHall$Chain" "slots" "I"] ++ wsX80 ++ wsX00 ++ wsX40 ++ (vx_atS RX8 167 "java/lang/IndexOutOfBoundsException" ["java/lang/RuntimeException", "java/lang/Exception"]).filter goodWord)
def wsX8_isFair : List Cond := .code yX8_isFair cX8_isFair 2 (some .boolean) :: ([.fieldLink RX8 10 "ChanceHall" "chain" "LChanceHall$Chain;", .fieldLink RX8 171 "ChanceHall$Chain" "states" "I", .fieldLink RX8 56 "ChanceHall" "games" "LChanceHall$Games;", .methodLink RX8 185 yX4_driftOf, .instanceMethod yX4_driftOf, .selects RX4 yX4_driftOf yX4_driftOf, .initialized RX4, .code yX4_driftOf cX4_driftOf 5 (some .long), .fieldLink RX4 9 "ChanceHall$Games" "chain" "LChanceHall$Chain;", .fieldLink RX4 30 "ChanceHall$Chain" "states" "I", .fieldLink RX4 36 "ChanceHall$Chain" "weights" "[[I", .fieldLink RX4 15 "ChanceHall$Games" "pays" "[I", .fieldLink RX4 40 "ChanceHall$Chain" "slots" "I"] ++ wsX80 ++ wsX00 ++ wsX40)
def wsX8_best_r1 : List Cond := [Cond.fieldLink RX8 56 "ChanceHall" "games" "LChanceHall$Games;", Cond.methodLink RX8 79 yX8_needState, Cond.instanceMethod yX8_needState, Cond.selects RX8 yX8_needState yX8_needState, Cond.initialized RX8, Cond.code yX8_needState cX8_needState 2 none, Cond.classLink RX8 163 "java/lang/IndexOutOfBoundsException", Cond.initialized "java/lang/IndexOutOfBoundsException", Cond.fieldLink RX8 10 "ChanceHall" "chain" "LChanceHall$Chain;", Cond.fieldLink RX8 171 "ChanceHall$Chain" "states" "I", Cond.methodLink RX8 71 yX8_needRange, Cond.static yX8_needRange, Cond.code yX8_needRange cX8_needRange 3 none, Cond.classLink RX8 208 "java/lang/IllegalArgumentException", Cond.initialized "java/lang/IllegalArgumentException", Cond.methodLink RX8 188 yX4_bestOf, Cond.instanceMethod yX4_bestOf, Cond.selects RX4 yX4_bestOf yX4_bestOf, Cond.initialized RX4, Cond.code yX4_bestOf cX4_bestOf 3 (some .long), Cond.fieldLink RX4 21 "ChanceHall$Games" "bests" "[[J", Cond.methodLink RX4 43 yX4_countBests, Cond.instanceMethod yX4_countBests, Cond.selects RX4 yX4_countBests yX4_countBests]
def wsX8_best_r2 : List Cond := [Cond.code yX4_countBests cX4_countBests 4 none, Cond.fieldLink RX4 9 "ChanceHall$Games" "chain" "LChanceHall$Chain;", Cond.fieldLink RX4 30 "ChanceHall$Chain" "states" "I", Cond.methodLink RX4 54 Lib.MathLoose.max_long.x, Cond.static Lib.MathLoose.max_long.x, Cond.initialized "java/lang/Math", Cond.code Lib.MathLoose.max_long.x Lib.MathLoose.max_long.code 4 (some .long), Cond.methodLink RX4 47 yX4_byStopping, Cond.instanceMethod yX4_byStopping, Cond.selects RX4 yX4_byStopping yX4_byStopping, Cond.code yX4_byStopping cX4_byStopping 3 (some .long), Cond.fieldLink RX4 15 "ChanceHall$Games" "pays" "[I", Cond.methodLink RX4 60 yX0_countWords, Cond.instanceMethod yX0_countWords, Cond.selects RX0 yX0_countWords yX0_countWords, Cond.initialized RX0, Cond.code yX0_countWords cX0_countWords 5 (some .long), Cond.fieldLink RX0 23 "ChanceHall$Chain" "slots" "I", Cond.methodLink RX4 51 yX4_byGoingOn, Cond.instanceMethod yX4_byGoingOn, Cond.selects RX4 yX4_byGoingOn yX4_byGoingOn, Cond.code yX4_byGoingOn cX4_byGoingOn 3 (some .long), Cond.methodLink RX4 64 yX0_sumOverSlots, Cond.instanceMethod yX0_sumOverSlots]
def wsX8_best_r3 : List Cond := [Cond.selects RX0 yX0_sumOverSlots yX0_sumOverSlots, Cond.code yX0_sumOverSlots cX0_sumOverSlots 6 (some .long), Cond.fieldLink RX0 19 "ChanceHall$Chain" "states" "I", Cond.fieldLink RX0 16 "ChanceHall$Chain" "weights" "[[I"]
def wsX8_best : List Cond := .code yX8_best cX8_best 3 (some .long) :: ((wsX8_best_r1 ++ (wsX8_best_r2 ++ wsX8_best_r3)) ++ wsX80 ++ wsX00 ++ wsX40 ++ (vx_atS RX8 167 "java/lang/IndexOutOfBoundsException" ["java/lang/RuntimeException", "java/lang/Exception"]).filter goodWord ++ (vx_atS RX8 212 "java/lang/IllegalArgumentException" ["java/lang/RuntimeException", "java/lang/Exception"]).filter goodWord)
def wsX8_stops_r1 : List Cond := [Cond.fieldLink RX8 56 "ChanceHall" "games" "LChanceHall$Games;", Cond.methodLink RX8 79 yX8_needState, Cond.instanceMethod yX8_needState, Cond.selects RX8 yX8_needState yX8_needState, Cond.initialized RX8, Cond.code yX8_needState cX8_needState 2 none, Cond.classLink RX8 163 "java/lang/IndexOutOfBoundsException", Cond.initialized "java/lang/IndexOutOfBoundsException", Cond.fieldLink RX8 10 "ChanceHall" "chain" "LChanceHall$Chain;", Cond.fieldLink RX8 171 "ChanceHall$Chain" "states" "I", Cond.methodLink RX8 71 yX8_needRange, Cond.static yX8_needRange, Cond.code yX8_needRange cX8_needRange 3 none, Cond.classLink RX8 208 "java/lang/IllegalArgumentException", Cond.initialized "java/lang/IllegalArgumentException", Cond.methodLink RX8 191 yX4_isBestToStop, Cond.instanceMethod yX4_isBestToStop, Cond.selects RX4 yX4_isBestToStop yX4_isBestToStop, Cond.initialized RX4, Cond.code yX4_isBestToStop cX4_isBestToStop 3 (some .boolean), Cond.methodLink RX4 43 yX4_countBests, Cond.instanceMethod yX4_countBests, Cond.selects RX4 yX4_countBests yX4_countBests, Cond.code yX4_countBests cX4_countBests 4 none]
def wsX8_stops_r2 : List Cond := [Cond.fieldLink RX4 9 "ChanceHall$Games" "chain" "LChanceHall$Chain;", Cond.fieldLink RX4 30 "ChanceHall$Chain" "states" "I", Cond.fieldLink RX4 21 "ChanceHall$Games" "bests" "[[J", Cond.methodLink RX4 54 Lib.MathLoose.max_long.x, Cond.static Lib.MathLoose.max_long.x, Cond.initialized "java/lang/Math", Cond.code Lib.MathLoose.max_long.x Lib.MathLoose.max_long.code 4 (some .long), Cond.methodLink RX4 47 yX4_byStopping, Cond.instanceMethod yX4_byStopping, Cond.selects RX4 yX4_byStopping yX4_byStopping, Cond.code yX4_byStopping cX4_byStopping 3 (some .long), Cond.fieldLink RX4 15 "ChanceHall$Games" "pays" "[I", Cond.methodLink RX4 60 yX0_countWords, Cond.instanceMethod yX0_countWords, Cond.selects RX0 yX0_countWords yX0_countWords, Cond.initialized RX0, Cond.code yX0_countWords cX0_countWords 5 (some .long), Cond.fieldLink RX0 23 "ChanceHall$Chain" "slots" "I", Cond.methodLink RX4 51 yX4_byGoingOn, Cond.instanceMethod yX4_byGoingOn, Cond.selects RX4 yX4_byGoingOn yX4_byGoingOn, Cond.code yX4_byGoingOn cX4_byGoingOn 3 (some .long), Cond.methodLink RX4 64 yX0_sumOverSlots, Cond.instanceMethod yX0_sumOverSlots]
def wsX8_stops_r3 : List Cond := [Cond.selects RX0 yX0_sumOverSlots yX0_sumOverSlots, Cond.code yX0_sumOverSlots cX0_sumOverSlots 6 (some .long), Cond.fieldLink RX0 19 "ChanceHall$Chain" "states" "I", Cond.fieldLink RX0 16 "ChanceHall$Chain" "weights" "[[I"]
def wsX8_stops : List Cond := .code yX8_stops cX8_stops 3 (some .boolean) :: ((wsX8_stops_r1 ++ (wsX8_stops_r2 ++ wsX8_stops_r3)) ++ wsX80 ++ wsX00 ++ wsX40 ++ (vx_atS RX8 167 "java/lang/IndexOutOfBoundsException" ["java/lang/RuntimeException", "java/lang/Exception"]).filter goodWord ++ (vx_atS RX8 212 "java/lang/IllegalArgumentException" ["java/lang/RuntimeException", "java/lang/Exception"]).filter goodWord)
def wsX8_reverses_r1 : List Cond := [Cond.fieldLink RX8 42 "ChanceHall" "trees" "LChanceHall$Trees;", Cond.methodLink RX8 194 yX7_isTheSameBackwards, Cond.instanceMethod yX7_isTheSameBackwards, Cond.selects RX7 yX7_isTheSameBackwards yX7_isTheSameBackwards, Cond.initialized RX7, Cond.code yX7_isTheSameBackwards cX7_isTheSameBackwards 3 (some .boolean), Cond.fieldLink RX7 9 "ChanceHall$Trees" "chain" "LChanceHall$Chain;", Cond.fieldLink RX7 26 "ChanceHall$Chain" "states" "I", Cond.fieldLink RX7 15 "ChanceHall$Trees" "rests" "[J", Cond.fieldLink RX7 59 "ChanceHall$Chain" "weights" "[[I", Cond.methodLink RX7 63 yX7_wholeRest, Cond.instanceMethod yX7_wholeRest, Cond.selects RX7 yX7_wholeRest yX7_wholeRest, Cond.code yX7_wholeRest cX7_wholeRest 4 (some .long), Cond.methodLink RX7 36 yX7_countRests, Cond.instanceMethod yX7_countRests, Cond.selects RX7 yX7_countRests yX7_countRests, Cond.code yX7_countRests cX7_countRests 2 none, Cond.methodLink RX7 32 yX7_restOf, Cond.instanceMethod yX7_restOf, Cond.selects RX7 yX7_restOf yX7_restOf, Cond.code yX7_restOf cX7_restOf 4 (some .long), Cond.fieldLink RX7 23 "ChanceHall$Trees" "minors" "[J", Cond.methodLink RX7 39 yX7_listOthers]
def wsX8_reverses_r2 : List Cond := [Cond.instanceMethod yX7_listOthers, Cond.selects RX7 yX7_listOthers yX7_listOthers, Cond.code yX7_listOthers cX7_listOthers 3 none, Cond.fieldLink RX7 19 "ChanceHall$Trees" "others" "[I", Cond.methodLink RX7 43 yX7_minorOf, Cond.instanceMethod yX7_minorOf, Cond.selects RX7 yX7_minorOf yX7_minorOf, Cond.code yX7_minorOf cX7_minorOf 8 (some .long), Cond.methodLink RX7 47 yJ6_bitCount_0f7a4, Cond.static yJ6_bitCount_0f7a4, Cond.initialized RJ6, Cond.code yJ6_bitCount_0f7a4 cJ6_bitCount_0f7a4 1 (some .int), Cond.constant RJ6 265 (1431655765), Cond.constant RJ6 266 (858993459), Cond.constant RJ6 267 (252645135), Cond.methodLink RX7 53 yX7_entry, Cond.instanceMethod yX7_entry, Cond.selects RX7 yX7_entry yX7_entry, Cond.code yX7_entry cX7_entry 3 (some .long), Cond.fieldLink RX7 56 "ChanceHall$Chain" "slots" "I"]
def wsX8_reverses : List Cond := .code yX8_reverses cX8_reverses 1 (some .boolean) :: ((wsX8_reverses_r1 ++ wsX8_reverses_r2) ++ wsX80 ++ wsX70 ++ wsX00)
def wsX8_isLumped : List Cond := .code yX8_isLumped cX8_isLumped 1 (some .boolean) :: ([.fieldLink RX8 63 "ChanceHall" "lumps" "LChanceHall$Lumps;", .methodLink RX8 198 yX6_isChainLumped, .instanceMethod yX6_isChainLumped, .selects RX6 yX6_isChainLumped yX6_isChainLumped, .initialized RX6, .code yX6_isChainLumped cX6_isChainLumped 3 (some .boolean), .fieldLink RX6 9 "ChanceHall$Lumps" "chain" "LChanceHall$Chain;", .fieldLink RX6 25 "ChanceHall$Chain" "states" "I", .fieldLink RX6 15 "ChanceHall$Lumps" "colours" "[I", .methodLink RX6 31 yX6_leadAlike, .instanceMethod yX6_leadAlike, .selects RX6 yX6_leadAlike yX6_leadAlike, .code yX6_leadAlike cX6_leadAlike 4 (some .boolean), .methodLink RX6 35 yX6_weightTo, .instanceMethod yX6_weightTo, .selects RX6 yX6_weightTo yX6_weightTo, .code yX6_weightTo cX6_weightTo 5 (some .int), .fieldLink RX6 39 "ChanceHall$Chain" "weights" "[[I"] ++ wsX80 ++ wsX60 ++ wsX00)
def wsX9_init : List Cond := .code yX9_init cX9_init 1 none :: ([.methodLink RX9 1 objectInit, .instanceMethod objectInit, .code objectInit ⟨#[0xb1]⟩ 1 none, .fieldLink RX9 7 "ChanceHallModel" "states" "I", .fieldLink RX9 13 "ChanceHallModel" "slots" "I", .arrayClass .int, .fieldLink RX9 16 "ChanceHallModel" "to" "[I", .fieldLink RX9 20 "ChanceHallModel" "pay" "[I", .fieldLink RX9 23 "ChanceHallModel" "colour" "[I", .arrayClass .long, .fieldLink RX9 26 "ChanceHallModel" "now" "[J", .fieldLink RX9 30 "ChanceHallModel" "then" "[J", .fieldLink RX9 33 "ChanceHallModel" "others" "[J", .fieldLink RX9 36 "ChanceHallModel" "minor" "[J", .fieldLink RX9 39 "ChanceHallModel" "weights" "[J", .fieldLink RX9 42 "ChanceHallModel" "map" "[I", .fieldLink RX9 45 "ChanceHallModel" "next" "[I"] ++ wsX90)
def wsX9_thrown : List Cond := .code yX9_thrown cX9_thrown 1 (some .int) :: ([.fieldLink RX9 48 "ChanceHallModel" "thrown" "I"] ++ wsX90)
def wsX9_can : List Cond := .code yX9_can cX9_can 2 (some .boolean) :: ([.fieldLink RX9 48 "ChanceHallModel" "thrown" "I"] ++ wsX90)
def wsX9_isIn : List Cond := .code yX9_isIn cX9_isIn 3 (some .boolean) :: ([])
def wsX9_isState : List Cond := .code yX9_isState cX9_isState 2 (some .boolean) :: ([.fieldLink RX9 7 "ChanceHallModel" "states" "I", .methodLink RX9 51 yX9_isIn, .static yX9_isIn, .initialized RX9, .code yX9_isIn cX9_isIn 3 (some .boolean)] ++ wsX90)
def wsX9_isSlot : List Cond := .code yX9_isSlot cX9_isSlot 2 (some .boolean) :: ([.fieldLink RX9 13 "ChanceHallModel" "slots" "I", .methodLink RX9 51 yX9_isIn, .static yX9_isIn, .initialized RX9, .code yX9_isIn cX9_isIn 3 (some .boolean)] ++ wsX90)
def wsX9_areSteps : List Cond := .code yX9_areSteps cX9_areSteps 1 (some .boolean) :: ([.methodLink RX9 51 yX9_isIn, .static yX9_isIn, .initialized RX9, .code yX9_isIn cX9_isIn 3 (some .boolean)])
def wsX9_goes : List Cond := .code yX9_goes cX9_goes 3 (some .int) :: ([.fieldLink RX9 16 "ChanceHallModel" "to" "[I"] ++ wsX90)
def wsX9_begin : List Cond := .code yX9_begin cX9_begin 5 none :: ([.fieldLink RX9 7 "ChanceHallModel" "states" "I", .fieldLink RX9 13 "ChanceHallModel" "slots" "I", .fieldLink RX9 20 "ChanceHallModel" "pay" "[I", .fieldLink RX9 23 "ChanceHallModel" "colour" "[I", .fieldLink RX9 16 "ChanceHallModel" "to" "[I", .methodLink RX9 51 yX9_isIn, .static yX9_isIn, .initialized RX9, .code yX9_isIn cX9_isIn 3 (some .boolean), .methodLink RX9 55 yX9_can, .instanceMethod yX9_can, .selects RX9 yX9_can yX9_can, .code yX9_can cX9_can 2 (some .boolean), .fieldLink RX9 48 "ChanceHallModel" "thrown" "I"] ++ wsX90)
def wsX9_lead : List Cond := .code yX9_lead cX9_lead 5 (some .int) :: ([.fieldLink RX9 16 "ChanceHallModel" "to" "[I", .methodLink RX9 59 yX9_isState, .instanceMethod yX9_isState, .selects RX9 yX9_isState yX9_isState, .initialized RX9, .code yX9_isState cX9_isState 2 (some .boolean), .fieldLink RX9 7 "ChanceHallModel" "states" "I", .methodLink RX9 51 yX9_isIn, .static yX9_isIn, .code yX9_isIn cX9_isIn 3 (some .boolean), .methodLink RX9 62 yX9_isSlot, .instanceMethod yX9_isSlot, .selects RX9 yX9_isSlot yX9_isSlot, .code yX9_isSlot cX9_isSlot 2 (some .boolean), .fieldLink RX9 13 "ChanceHallModel" "slots" "I", .methodLink RX9 55 yX9_can, .instanceMethod yX9_can, .selects RX9 yX9_can yX9_can, .code yX9_can cX9_can 2 (some .boolean), .fieldLink RX9 48 "ChanceHallModel" "thrown" "I", .methodLink RX9 65 yX9_goes, .instanceMethod yX9_goes, .selects RX9 yX9_goes yX9_goes, .code yX9_goes cX9_goes 3 (some .int)] ++ wsX90)
def wsX9_swap : List Cond := .code yX9_swap cX9_swap 5 none :: ([.fieldLink RX9 16 "ChanceHallModel" "to" "[I", .methodLink RX9 59 yX9_isState, .instanceMethod yX9_isState, .selects RX9 yX9_isState yX9_isState, .initialized RX9, .code yX9_isState cX9_isState 2 (some .boolean), .fieldLink RX9 7 "ChanceHallModel" "states" "I", .methodLink RX9 51 yX9_isIn, .static yX9_isIn, .code yX9_isIn cX9_isIn 3 (some .boolean), .methodLink RX9 62 yX9_isSlot, .instanceMethod yX9_isSlot, .selects RX9 yX9_isSlot yX9_isSlot, .code yX9_isSlot cX9_isSlot 2 (some .boolean), .fieldLink RX9 13 "ChanceHallModel" "slots" "I", .methodLink RX9 55 yX9_can, .instanceMethod yX9_can, .selects RX9 yX9_can yX9_can, .code yX9_can cX9_can 2 (some .boolean), .fieldLink RX9 48 "ChanceHallModel" "thrown" "I", .methodLink RX9 65 yX9_goes, .instanceMethod yX9_goes, .selects RX9 yX9_goes yX9_goes, .code yX9_goes cX9_goes 3 (some .int)] ++ wsX90)
def wsX9_pay : List Cond := .code yX9_pay cX9_pay 4 (some .int) :: ([.constant RX9 69 (-100000), .constant RX9 70 (100000), .fieldLink RX9 20 "ChanceHallModel" "pay" "[I", .methodLink RX9 59 yX9_isState, .instanceMethod yX9_isState, .selects RX9 yX9_isState yX9_isState, .initialized RX9, .code yX9_isState cX9_isState 2 (some .boolean), .fieldLink RX9 7 "ChanceHallModel" "states" "I", .methodLink RX9 51 yX9_isIn, .static yX9_isIn, .code yX9_isIn cX9_isIn 3 (some .boolean), .methodLink RX9 55 yX9_can, .instanceMethod yX9_can, .selects RX9 yX9_can yX9_can, .code yX9_can cX9_can 2 (some .boolean), .fieldLink RX9 48 "ChanceHallModel" "thrown" "I"] ++ wsX90)
def wsX9_colour : List Cond := .code yX9_colour cX9_colour 4 (some .int) :: ([.fieldLink RX9 23 "ChanceHallModel" "colour" "[I", .methodLink RX9 59 yX9_isState, .instanceMethod yX9_isState, .selects RX9 yX9_isState yX9_isState, .initialized RX9, .code yX9_isState cX9_isState 2 (some .boolean), .fieldLink RX9 7 "ChanceHallModel" "states" "I", .methodLink RX9 51 yX9_isIn, .static yX9_isIn, .code yX9_isIn cX9_isIn 3 (some .boolean), .methodLink RX9 55 yX9_can, .instanceMethod yX9_can, .selects RX9 yX9_can yX9_can, .code yX9_can cX9_can 2 (some .boolean), .fieldLink RX9 48 "ChanceHallModel" "thrown" "I"] ++ wsX90)
def wsX9_weigh : List Cond := .code yX9_weigh cX9_weigh 5 (some .int) :: ([.fieldLink RX9 13 "ChanceHallModel" "slots" "I", .methodLink RX9 65 yX9_goes, .instanceMethod yX9_goes, .selects RX9 yX9_goes yX9_goes, .initialized RX9, .code yX9_goes cX9_goes 3 (some .int), .fieldLink RX9 16 "ChanceHallModel" "to" "[I"] ++ wsX90)
def wsX9_weight : List Cond := .code yX9_weight cX9_weight 3 (some .int) :: ([.methodLink RX9 59 yX9_isState, .instanceMethod yX9_isState, .selects RX9 yX9_isState yX9_isState, .initialized RX9, .code yX9_isState cX9_isState 2 (some .boolean), .fieldLink RX9 7 "ChanceHallModel" "states" "I", .methodLink RX9 51 yX9_isIn, .static yX9_isIn, .code yX9_isIn cX9_isIn 3 (some .boolean), .methodLink RX9 55 yX9_can, .instanceMethod yX9_can, .selects RX9 yX9_can yX9_can, .code yX9_can cX9_can 2 (some .boolean), .fieldLink RX9 48 "ChanceHallModel" "thrown" "I", .methodLink RX9 71 yX9_weigh, .instanceMethod yX9_weigh, .selects RX9 yX9_weigh yX9_weigh, .code yX9_weigh cX9_weigh 5 (some .int), .fieldLink RX9 13 "ChanceHallModel" "slots" "I", .methodLink RX9 65 yX9_goes, .instanceMethod yX9_goes, .selects RX9 yX9_goes yX9_goes, .code yX9_goes cX9_goes 3 (some .int), .fieldLink RX9 16 "ChanceHallModel" "to" "[I"] ++ wsX90)
def wsX9_power : List Cond := .code yX9_power cX9_power 5 (some .long) :: ([.fieldLink RX9 13 "ChanceHallModel" "slots" "I"] ++ wsX90)
def wsX9_words : List Cond := .code yX9_words cX9_words 2 (some .long) :: ([.methodLink RX9 74 yX9_areSteps, .static yX9_areSteps, .initialized RX9, .code yX9_areSteps cX9_areSteps 1 (some .boolean), .methodLink RX9 51 yX9_isIn, .static yX9_isIn, .code yX9_isIn cX9_isIn 3 (some .boolean), .methodLink RX9 55 yX9_can, .instanceMethod yX9_can, .selects RX9 yX9_can yX9_can, .code yX9_can cX9_can 2 (some .boolean), .fieldLink RX9 48 "ChanceHallModel" "thrown" "I", .methodLink RX9 77 yX9_power, .instanceMethod yX9_power, .selects RX9 yX9_power yX9_power, .code yX9_power cX9_power 5 (some .long), .fieldLink RX9 13 "ChanceHallModel" "slots" "I"] ++ wsX90)
def wsX9_keeps : List Cond := .code yX9_keeps cX9_keeps 2 none :: ([.fieldLink RX9 30 "ChanceHallModel" "then" "[J", .fieldLink RX9 26 "ChanceHallModel" "now" "[J"] ++ wsX90)
def wsX9_begins : List Cond := .code yX9_begins cX9_begins 3 none :: ([.fieldLink RX9 26 "ChanceHallModel" "now" "[J"] ++ wsX90)
def wsX9_spreads : List Cond := .code yX9_spreads cX9_spreads 5 none :: ([.fieldLink RX9 7 "ChanceHallModel" "states" "I", .fieldLink RX9 13 "ChanceHallModel" "slots" "I", .fieldLink RX9 26 "ChanceHallModel" "now" "[J", .fieldLink RX9 30 "ChanceHallModel" "then" "[J", .methodLink RX9 81 yX9_begins, .instanceMethod yX9_begins, .selects RX9 yX9_begins yX9_begins, .initialized RX9, .code yX9_begins cX9_begins 3 none, .methodLink RX9 85 yX9_keeps, .instanceMethod yX9_keeps, .selects RX9 yX9_keeps yX9_keeps, .code yX9_keeps cX9_keeps 2 none, .methodLink RX9 65 yX9_goes, .instanceMethod yX9_goes, .selects RX9 yX9_goes yX9_goes, .code yX9_goes cX9_goes 3 (some .int), .fieldLink RX9 16 "ChanceHallModel" "to" "[I"] ++ wsX90)
def wsX9_lawFault : List Cond := .code yX9_lawFault cX9_lawFault 5 (some .int) :: ([.methodLink RX9 59 yX9_isState, .instanceMethod yX9_isState, .selects RX9 yX9_isState yX9_isState, .initialized RX9, .code yX9_isState cX9_isState 2 (some .boolean), .fieldLink RX9 7 "ChanceHallModel" "states" "I", .methodLink RX9 51 yX9_isIn, .static yX9_isIn, .code yX9_isIn cX9_isIn 3 (some .boolean)] ++ wsX90)
def wsX9_lawOf : List Cond := .code yX9_lawOf cX9_lawOf 4 (some .long) :: ([.fieldLink RX9 26 "ChanceHallModel" "now" "[J", .methodLink RX9 88 yX9_spreads, .instanceMethod yX9_spreads, .selects RX9 yX9_spreads yX9_spreads, .initialized RX9, .code yX9_spreads cX9_spreads 5 none, .fieldLink RX9 7 "ChanceHallModel" "states" "I", .fieldLink RX9 13 "ChanceHallModel" "slots" "I", .fieldLink RX9 30 "ChanceHallModel" "then" "[J", .methodLink RX9 81 yX9_begins, .instanceMethod yX9_begins, .selects RX9 yX9_begins yX9_begins, .code yX9_begins cX9_begins 3 none, .methodLink RX9 85 yX9_keeps, .instanceMethod yX9_keeps, .selects RX9 yX9_keeps yX9_keeps, .code yX9_keeps cX9_keeps 2 none, .methodLink RX9 65 yX9_goes, .instanceMethod yX9_goes, .selects RX9 yX9_goes yX9_goes, .code yX9_goes cX9_goes 3 (some .int), .fieldLink RX9 16 "ChanceHallModel" "to" "[I"] ++ wsX90)
def wsX9_law_r1 : List Cond := [Cond.methodLink RX9 92 yX9_lawFault, Cond.instanceMethod yX9_lawFault, Cond.selects RX9 yX9_lawFault yX9_lawFault, Cond.initialized RX9, Cond.code yX9_lawFault cX9_lawFault 5 (some .int), Cond.methodLink RX9 59 yX9_isState, Cond.instanceMethod yX9_isState, Cond.selects RX9 yX9_isState yX9_isState, Cond.code yX9_isState cX9_isState 2 (some .boolean), Cond.fieldLink RX9 7 "ChanceHallModel" "states" "I", Cond.methodLink RX9 51 yX9_isIn, Cond.static yX9_isIn, Cond.code yX9_isIn cX9_isIn 3 (some .boolean), Cond.methodLink RX9 55 yX9_can, Cond.instanceMethod yX9_can, Cond.selects RX9 yX9_can yX9_can, Cond.code yX9_can cX9_can 2 (some .boolean), Cond.fieldLink RX9 48 "ChanceHallModel" "thrown" "I", Cond.methodLink RX9 96 yX9_lawOf, Cond.instanceMethod yX9_lawOf, Cond.selects RX9 yX9_lawOf yX9_lawOf, Cond.code yX9_lawOf cX9_lawOf 4 (some .long), Cond.fieldLink RX9 26 "ChanceHallModel" "now" "[J", Cond.methodLink RX9 88 yX9_spreads]
def wsX9_law_r2 : List Cond := [Cond.instanceMethod yX9_spreads, Cond.selects RX9 yX9_spreads yX9_spreads, Cond.code yX9_spreads cX9_spreads 5 none, Cond.fieldLink RX9 13 "ChanceHallModel" "slots" "I", Cond.fieldLink RX9 30 "ChanceHallModel" "then" "[J", Cond.methodLink RX9 81 yX9_begins, Cond.instanceMethod yX9_begins, Cond.selects RX9 yX9_begins yX9_begins, Cond.code yX9_begins cX9_begins 3 none, Cond.methodLink RX9 85 yX9_keeps, Cond.instanceMethod yX9_keeps, Cond.selects RX9 yX9_keeps yX9_keeps, Cond.code yX9_keeps cX9_keeps 2 none, Cond.methodLink RX9 65 yX9_goes, Cond.instanceMethod yX9_goes, Cond.selects RX9 yX9_goes yX9_goes, Cond.code yX9_goes cX9_goes 3 (some .int), Cond.fieldLink RX9 16 "ChanceHallModel" "to" "[I"]
def wsX9_law : List Cond := .code yX9_law cX9_law 4 (some .long) :: ((wsX9_law_r1 ++ wsX9_law_r2) ++ wsX90)
def wsX9_lawAnew_r1 : List Cond := [Cond.methodLink RX9 92 yX9_lawFault, Cond.instanceMethod yX9_lawFault, Cond.selects RX9 yX9_lawFault yX9_lawFault, Cond.initialized RX9, Cond.code yX9_lawFault cX9_lawFault 5 (some .int), Cond.methodLink RX9 59 yX9_isState, Cond.instanceMethod yX9_isState, Cond.selects RX9 yX9_isState yX9_isState, Cond.code yX9_isState cX9_isState 2 (some .boolean), Cond.fieldLink RX9 7 "ChanceHallModel" "states" "I", Cond.methodLink RX9 51 yX9_isIn, Cond.static yX9_isIn, Cond.code yX9_isIn cX9_isIn 3 (some .boolean), Cond.methodLink RX9 55 yX9_can, Cond.instanceMethod yX9_can, Cond.selects RX9 yX9_can yX9_can, Cond.code yX9_can cX9_can 2 (some .boolean), Cond.fieldLink RX9 48 "ChanceHallModel" "thrown" "I", Cond.methodLink RX9 96 yX9_lawOf, Cond.instanceMethod yX9_lawOf, Cond.selects RX9 yX9_lawOf yX9_lawOf, Cond.code yX9_lawOf cX9_lawOf 4 (some .long), Cond.fieldLink RX9 26 "ChanceHallModel" "now" "[J", Cond.methodLink RX9 88 yX9_spreads]
def wsX9_lawAnew_r2 : List Cond := [Cond.instanceMethod yX9_spreads, Cond.selects RX9 yX9_spreads yX9_spreads, Cond.code yX9_spreads cX9_spreads 5 none, Cond.fieldLink RX9 13 "ChanceHallModel" "slots" "I", Cond.fieldLink RX9 30 "ChanceHallModel" "then" "[J", Cond.methodLink RX9 81 yX9_begins, Cond.instanceMethod yX9_begins, Cond.selects RX9 yX9_begins yX9_begins, Cond.code yX9_begins cX9_begins 3 none, Cond.methodLink RX9 85 yX9_keeps, Cond.instanceMethod yX9_keeps, Cond.selects RX9 yX9_keeps yX9_keeps, Cond.code yX9_keeps cX9_keeps 2 none, Cond.methodLink RX9 65 yX9_goes, Cond.instanceMethod yX9_goes, Cond.selects RX9 yX9_goes yX9_goes, Cond.code yX9_goes cX9_goes 3 (some .int), Cond.fieldLink RX9 16 "ChanceHallModel" "to" "[I"]
def wsX9_lawAnew : List Cond := .code yX9_lawAnew cX9_lawAnew 4 (some .long) :: ((wsX9_lawAnew_r1 ++ wsX9_lawAnew_r2) ++ wsX90)
def wsX9_distanceOf : List Cond := .code yX9_distanceOf cX9_distanceOf 7 (some .long) :: ([.fieldLink RX9 7 "ChanceHallModel" "states" "I", .fieldLink RX9 33 "ChanceHallModel" "others" "[J", .fieldLink RX9 26 "ChanceHallModel" "now" "[J", .methodLink RX9 88 yX9_spreads, .instanceMethod yX9_spreads, .selects RX9 yX9_spreads yX9_spreads, .initialized RX9, .code yX9_spreads cX9_spreads 5 none, .fieldLink RX9 13 "ChanceHallModel" "slots" "I", .fieldLink RX9 30 "ChanceHallModel" "then" "[J", .methodLink RX9 81 yX9_begins, .instanceMethod yX9_begins, .selects RX9 yX9_begins yX9_begins, .code yX9_begins cX9_begins 3 none, .methodLink RX9 85 yX9_keeps, .instanceMethod yX9_keeps, .selects RX9 yX9_keeps yX9_keeps, .code yX9_keeps cX9_keeps 2 none, .methodLink RX9 65 yX9_goes, .instanceMethod yX9_goes, .selects RX9 yX9_goes yX9_goes, .code yX9_goes cX9_goes 3 (some .int), .fieldLink RX9 16 "ChanceHallModel" "to" "[I"] ++ wsX90)
def wsX9_distance_r1 : List Cond := [Cond.methodLink RX9 92 yX9_lawFault, Cond.instanceMethod yX9_lawFault, Cond.selects RX9 yX9_lawFault yX9_lawFault, Cond.initialized RX9, Cond.code yX9_lawFault cX9_lawFault 5 (some .int), Cond.methodLink RX9 59 yX9_isState, Cond.instanceMethod yX9_isState, Cond.selects RX9 yX9_isState yX9_isState, Cond.code yX9_isState cX9_isState 2 (some .boolean), Cond.fieldLink RX9 7 "ChanceHallModel" "states" "I", Cond.methodLink RX9 51 yX9_isIn, Cond.static yX9_isIn, Cond.code yX9_isIn cX9_isIn 3 (some .boolean), Cond.methodLink RX9 55 yX9_can, Cond.instanceMethod yX9_can, Cond.selects RX9 yX9_can yX9_can, Cond.code yX9_can cX9_can 2 (some .boolean), Cond.fieldLink RX9 48 "ChanceHallModel" "thrown" "I", Cond.methodLink RX9 100 yX9_distanceOf, Cond.instanceMethod yX9_distanceOf, Cond.selects RX9 yX9_distanceOf yX9_distanceOf, Cond.code yX9_distanceOf cX9_distanceOf 7 (some .long), Cond.fieldLink RX9 33 "ChanceHallModel" "others" "[J", Cond.fieldLink RX9 26 "ChanceHallModel" "now" "[J"]
def wsX9_distance_r2 : List Cond := [Cond.methodLink RX9 88 yX9_spreads, Cond.instanceMethod yX9_spreads, Cond.selects RX9 yX9_spreads yX9_spreads, Cond.code yX9_spreads cX9_spreads 5 none, Cond.fieldLink RX9 13 "ChanceHallModel" "slots" "I", Cond.fieldLink RX9 30 "ChanceHallModel" "then" "[J", Cond.methodLink RX9 81 yX9_begins, Cond.instanceMethod yX9_begins, Cond.selects RX9 yX9_begins yX9_begins, Cond.code yX9_begins cX9_begins 3 none, Cond.methodLink RX9 85 yX9_keeps, Cond.instanceMethod yX9_keeps, Cond.selects RX9 yX9_keeps yX9_keeps, Cond.code yX9_keeps cX9_keeps 2 none, Cond.methodLink RX9 65 yX9_goes, Cond.instanceMethod yX9_goes, Cond.selects RX9 yX9_goes yX9_goes, Cond.code yX9_goes cX9_goes 3 (some .int), Cond.fieldLink RX9 16 "ChanceHallModel" "to" "[I"]
def wsX9_distance : List Cond := .code yX9_distance cX9_distance 4 (some .long) :: ((wsX9_distance_r1 ++ wsX9_distance_r2) ++ wsX90)
def wsX9_isMixed_r1 : List Cond := [Cond.fieldLink RX9 7 "ChanceHallModel" "states" "I", Cond.constantLong RX9 103 (1000), Cond.methodLink RX9 100 yX9_distanceOf, Cond.instanceMethod yX9_distanceOf, Cond.selects RX9 yX9_distanceOf yX9_distanceOf, Cond.initialized RX9, Cond.code yX9_distanceOf cX9_distanceOf 7 (some .long), Cond.fieldLink RX9 33 "ChanceHallModel" "others" "[J", Cond.fieldLink RX9 26 "ChanceHallModel" "now" "[J", Cond.methodLink RX9 88 yX9_spreads, Cond.instanceMethod yX9_spreads, Cond.selects RX9 yX9_spreads yX9_spreads, Cond.code yX9_spreads cX9_spreads 5 none, Cond.fieldLink RX9 13 "ChanceHallModel" "slots" "I", Cond.fieldLink RX9 30 "ChanceHallModel" "then" "[J", Cond.methodLink RX9 81 yX9_begins, Cond.instanceMethod yX9_begins, Cond.selects RX9 yX9_begins yX9_begins, Cond.code yX9_begins cX9_begins 3 none, Cond.methodLink RX9 85 yX9_keeps, Cond.instanceMethod yX9_keeps, Cond.selects RX9 yX9_keeps yX9_keeps, Cond.code yX9_keeps cX9_keeps 2 none, Cond.methodLink RX9 65 yX9_goes]
def wsX9_isMixed_r2 : List Cond := [Cond.instanceMethod yX9_goes, Cond.selects RX9 yX9_goes yX9_goes, Cond.code yX9_goes cX9_goes 3 (some .int), Cond.fieldLink RX9 16 "ChanceHallModel" "to" "[I", Cond.methodLink RX9 77 yX9_power, Cond.instanceMethod yX9_power, Cond.selects RX9 yX9_power yX9_power, Cond.code yX9_power cX9_power 5 (some .long)]
def wsX9_isMixed : List Cond := .code yX9_isMixed cX9_isMixed 6 (some .boolean) :: ((wsX9_isMixed_r1 ++ wsX9_isMixed_r2) ++ wsX90)
def wsX9_mixing_r1 : List Cond := [Cond.methodLink RX9 51 yX9_isIn, Cond.static yX9_isIn, Cond.initialized RX9, Cond.code yX9_isIn cX9_isIn 3 (some .boolean), Cond.methodLink RX9 55 yX9_can, Cond.instanceMethod yX9_can, Cond.selects RX9 yX9_can yX9_can, Cond.code yX9_can cX9_can 2 (some .boolean), Cond.fieldLink RX9 48 "ChanceHallModel" "thrown" "I", Cond.methodLink RX9 105 yX9_isMixed, Cond.instanceMethod yX9_isMixed, Cond.selects RX9 yX9_isMixed yX9_isMixed, Cond.code yX9_isMixed cX9_isMixed 6 (some .boolean), Cond.fieldLink RX9 7 "ChanceHallModel" "states" "I", Cond.constantLong RX9 103 (1000), Cond.methodLink RX9 100 yX9_distanceOf, Cond.instanceMethod yX9_distanceOf, Cond.selects RX9 yX9_distanceOf yX9_distanceOf, Cond.code yX9_distanceOf cX9_distanceOf 7 (some .long), Cond.fieldLink RX9 33 "ChanceHallModel" "others" "[J", Cond.fieldLink RX9 26 "ChanceHallModel" "now" "[J", Cond.methodLink RX9 88 yX9_spreads, Cond.instanceMethod yX9_spreads, Cond.selects RX9 yX9_spreads yX9_spreads]
def wsX9_mixing_r2 : List Cond := [Cond.code yX9_spreads cX9_spreads 5 none, Cond.fieldLink RX9 13 "ChanceHallModel" "slots" "I", Cond.fieldLink RX9 30 "ChanceHallModel" "then" "[J", Cond.methodLink RX9 81 yX9_begins, Cond.instanceMethod yX9_begins, Cond.selects RX9 yX9_begins yX9_begins, Cond.code yX9_begins cX9_begins 3 none, Cond.methodLink RX9 85 yX9_keeps, Cond.instanceMethod yX9_keeps, Cond.selects RX9 yX9_keeps yX9_keeps, Cond.code yX9_keeps cX9_keeps 2 none, Cond.methodLink RX9 65 yX9_goes, Cond.instanceMethod yX9_goes, Cond.selects RX9 yX9_goes yX9_goes, Cond.code yX9_goes cX9_goes 3 (some .int), Cond.fieldLink RX9 16 "ChanceHallModel" "to" "[I", Cond.methodLink RX9 77 yX9_power, Cond.instanceMethod yX9_power, Cond.selects RX9 yX9_power yX9_power, Cond.code yX9_power cX9_power 5 (some .long)]
def wsX9_mixing : List Cond := .code yX9_mixing cX9_mixing 4 (some .int) :: ((wsX9_mixing_r1 ++ wsX9_mixing_r2) ++ wsX90)
def wsX9_apartBy : List Cond := .code yX9_apartBy cX9_apartBy 9 (some .long) :: ([.fieldLink RX9 13 "ChanceHallModel" "slots" "I", .fieldLink RX9 30 "ChanceHallModel" "then" "[J", .fieldLink RX9 26 "ChanceHallModel" "now" "[J", .methodLink RX9 81 yX9_begins, .instanceMethod yX9_begins, .selects RX9 yX9_begins yX9_begins, .initialized RX9, .code yX9_begins cX9_begins 3 none, .methodLink RX9 85 yX9_keeps, .instanceMethod yX9_keeps, .selects RX9 yX9_keeps yX9_keeps, .code yX9_keeps cX9_keeps 2 none, .methodLink RX9 65 yX9_goes, .instanceMethod yX9_goes, .selects RX9 yX9_goes yX9_goes, .code yX9_goes cX9_goes 3 (some .int), .fieldLink RX9 16 "ChanceHallModel" "to" "[I"] ++ wsX90)
def wsX9_apart_r1 : List Cond := [Cond.methodLink RX9 92 yX9_lawFault, Cond.instanceMethod yX9_lawFault, Cond.selects RX9 yX9_lawFault yX9_lawFault, Cond.initialized RX9, Cond.code yX9_lawFault cX9_lawFault 5 (some .int), Cond.methodLink RX9 59 yX9_isState, Cond.instanceMethod yX9_isState, Cond.selects RX9 yX9_isState yX9_isState, Cond.code yX9_isState cX9_isState 2 (some .boolean), Cond.fieldLink RX9 7 "ChanceHallModel" "states" "I", Cond.methodLink RX9 51 yX9_isIn, Cond.static yX9_isIn, Cond.code yX9_isIn cX9_isIn 3 (some .boolean), Cond.methodLink RX9 55 yX9_can, Cond.instanceMethod yX9_can, Cond.selects RX9 yX9_can yX9_can, Cond.code yX9_can cX9_can 2 (some .boolean), Cond.fieldLink RX9 48 "ChanceHallModel" "thrown" "I", Cond.methodLink RX9 109 yX9_apartBy, Cond.instanceMethod yX9_apartBy, Cond.selects RX9 yX9_apartBy yX9_apartBy, Cond.code yX9_apartBy cX9_apartBy 9 (some .long), Cond.fieldLink RX9 13 "ChanceHallModel" "slots" "I", Cond.fieldLink RX9 30 "ChanceHallModel" "then" "[J"]
def wsX9_apart_r2 : List Cond := [Cond.fieldLink RX9 26 "ChanceHallModel" "now" "[J", Cond.methodLink RX9 81 yX9_begins, Cond.instanceMethod yX9_begins, Cond.selects RX9 yX9_begins yX9_begins, Cond.code yX9_begins cX9_begins 3 none, Cond.methodLink RX9 85 yX9_keeps, Cond.instanceMethod yX9_keeps, Cond.selects RX9 yX9_keeps yX9_keeps, Cond.code yX9_keeps cX9_keeps 2 none, Cond.methodLink RX9 65 yX9_goes, Cond.instanceMethod yX9_goes, Cond.selects RX9 yX9_goes yX9_goes, Cond.code yX9_goes cX9_goes 3 (some .int), Cond.fieldLink RX9 16 "ChanceHallModel" "to" "[I"]
def wsX9_apart : List Cond := .code yX9_apart cX9_apart 4 (some .long) :: ((wsX9_apart_r1 ++ wsX9_apart_r2) ++ wsX90)
def wsX9_image : List Cond := .code yX9_image cX9_image 5 (some .int) :: ([.fieldLink RX9 7 "ChanceHallModel" "states" "I", .methodLink RX9 65 yX9_goes, .instanceMethod yX9_goes, .selects RX9 yX9_goes yX9_goes, .initialized RX9, .code yX9_goes cX9_goes 3 (some .int), .fieldLink RX9 16 "ChanceHallModel" "to" "[I"] ++ wsX90)
def wsX9_togetherBy : List Cond := .code yX9_togetherBy cX9_togetherBy 6 (some .long) :: ([.fieldLink RX9 7 "ChanceHallModel" "states" "I", .fieldLink RX9 13 "ChanceHallModel" "slots" "I", .fieldLink RX9 30 "ChanceHallModel" "then" "[J", .fieldLink RX9 26 "ChanceHallModel" "now" "[J", .methodLink RX9 81 yX9_begins, .instanceMethod yX9_begins, .selects RX9 yX9_begins yX9_begins, .initialized RX9, .code yX9_begins cX9_begins 3 none, .methodLink RX9 85 yX9_keeps, .instanceMethod yX9_keeps, .selects RX9 yX9_keeps yX9_keeps, .code yX9_keeps cX9_keeps 2 none, .methodLink RX9 112 yX9_image, .instanceMethod yX9_image, .selects RX9 yX9_image yX9_image, .code yX9_image cX9_image 5 (some .int), .methodLink RX9 65 yX9_goes, .instanceMethod yX9_goes, .selects RX9 yX9_goes yX9_goes, .code yX9_goes cX9_goes 3 (some .int), .fieldLink RX9 16 "ChanceHallModel" "to" "[I"] ++ wsX90)
def wsX9_together_r1 : List Cond := [Cond.methodLink RX9 59 yX9_isState, Cond.instanceMethod yX9_isState, Cond.selects RX9 yX9_isState yX9_isState, Cond.initialized RX9, Cond.code yX9_isState cX9_isState 2 (some .boolean), Cond.fieldLink RX9 7 "ChanceHallModel" "states" "I", Cond.methodLink RX9 51 yX9_isIn, Cond.static yX9_isIn, Cond.code yX9_isIn cX9_isIn 3 (some .boolean), Cond.methodLink RX9 74 yX9_areSteps, Cond.static yX9_areSteps, Cond.code yX9_areSteps cX9_areSteps 1 (some .boolean), Cond.methodLink RX9 55 yX9_can, Cond.instanceMethod yX9_can, Cond.selects RX9 yX9_can yX9_can, Cond.code yX9_can cX9_can 2 (some .boolean), Cond.fieldLink RX9 48 "ChanceHallModel" "thrown" "I", Cond.methodLink RX9 115 yX9_togetherBy, Cond.instanceMethod yX9_togetherBy, Cond.selects RX9 yX9_togetherBy yX9_togetherBy, Cond.code yX9_togetherBy cX9_togetherBy 6 (some .long), Cond.fieldLink RX9 13 "ChanceHallModel" "slots" "I", Cond.fieldLink RX9 30 "ChanceHallModel" "then" "[J", Cond.fieldLink RX9 26 "ChanceHallModel" "now" "[J"]
def wsX9_together_r2 : List Cond := [Cond.methodLink RX9 81 yX9_begins, Cond.instanceMethod yX9_begins, Cond.selects RX9 yX9_begins yX9_begins, Cond.code yX9_begins cX9_begins 3 none, Cond.methodLink RX9 85 yX9_keeps, Cond.instanceMethod yX9_keeps, Cond.selects RX9 yX9_keeps yX9_keeps, Cond.code yX9_keeps cX9_keeps 2 none, Cond.methodLink RX9 112 yX9_image, Cond.instanceMethod yX9_image, Cond.selects RX9 yX9_image yX9_image, Cond.code yX9_image cX9_image 5 (some .int), Cond.methodLink RX9 65 yX9_goes, Cond.instanceMethod yX9_goes, Cond.selects RX9 yX9_goes yX9_goes, Cond.code yX9_goes cX9_goes 3 (some .int), Cond.fieldLink RX9 16 "ChanceHallModel" "to" "[I"]
def wsX9_together : List Cond := .code yX9_together cX9_together 3 (some .long) :: ((wsX9_together_r1 ++ wsX9_together_r2) ++ wsX90)
def wsX9_hitsBy : List Cond := .code yX9_hitsBy cX9_hitsBy 8 (some .long) :: ([.fieldLink RX9 26 "ChanceHallModel" "now" "[J", .fieldLink RX9 7 "ChanceHallModel" "states" "I", .fieldLink RX9 13 "ChanceHallModel" "slots" "I", .fieldLink RX9 30 "ChanceHallModel" "then" "[J", .methodLink RX9 81 yX9_begins, .instanceMethod yX9_begins, .selects RX9 yX9_begins yX9_begins, .initialized RX9, .code yX9_begins cX9_begins 3 none, .methodLink RX9 77 yX9_power, .instanceMethod yX9_power, .selects RX9 yX9_power yX9_power, .code yX9_power cX9_power 5 (some .long), .methodLink RX9 85 yX9_keeps, .instanceMethod yX9_keeps, .selects RX9 yX9_keeps yX9_keeps, .code yX9_keeps cX9_keeps 2 none, .methodLink RX9 65 yX9_goes, .instanceMethod yX9_goes, .selects RX9 yX9_goes yX9_goes, .code yX9_goes cX9_goes 3 (some .int), .fieldLink RX9 16 "ChanceHallModel" "to" "[I"] ++ wsX90)
def wsX9_hits_r1 : List Cond := [Cond.methodLink RX9 92 yX9_lawFault, Cond.instanceMethod yX9_lawFault, Cond.selects RX9 yX9_lawFault yX9_lawFault, Cond.initialized RX9, Cond.code yX9_lawFault cX9_lawFault 5 (some .int), Cond.methodLink RX9 59 yX9_isState, Cond.instanceMethod yX9_isState, Cond.selects RX9 yX9_isState yX9_isState, Cond.code yX9_isState cX9_isState 2 (some .boolean), Cond.fieldLink RX9 7 "ChanceHallModel" "states" "I", Cond.methodLink RX9 51 yX9_isIn, Cond.static yX9_isIn, Cond.code yX9_isIn cX9_isIn 3 (some .boolean), Cond.methodLink RX9 55 yX9_can, Cond.instanceMethod yX9_can, Cond.selects RX9 yX9_can yX9_can, Cond.code yX9_can cX9_can 2 (some .boolean), Cond.fieldLink RX9 48 "ChanceHallModel" "thrown" "I", Cond.methodLink RX9 119 yX9_hitsBy, Cond.instanceMethod yX9_hitsBy, Cond.selects RX9 yX9_hitsBy yX9_hitsBy, Cond.code yX9_hitsBy cX9_hitsBy 8 (some .long), Cond.fieldLink RX9 26 "ChanceHallModel" "now" "[J", Cond.fieldLink RX9 13 "ChanceHallModel" "slots" "I"]
def wsX9_hits_r2 : List Cond := [Cond.fieldLink RX9 30 "ChanceHallModel" "then" "[J", Cond.methodLink RX9 81 yX9_begins, Cond.instanceMethod yX9_begins, Cond.selects RX9 yX9_begins yX9_begins, Cond.code yX9_begins cX9_begins 3 none, Cond.methodLink RX9 77 yX9_power, Cond.instanceMethod yX9_power, Cond.selects RX9 yX9_power yX9_power, Cond.code yX9_power cX9_power 5 (some .long), Cond.methodLink RX9 85 yX9_keeps, Cond.instanceMethod yX9_keeps, Cond.selects RX9 yX9_keeps yX9_keeps, Cond.code yX9_keeps cX9_keeps 2 none, Cond.methodLink RX9 65 yX9_goes, Cond.instanceMethod yX9_goes, Cond.selects RX9 yX9_goes yX9_goes, Cond.code yX9_goes cX9_goes 3 (some .int), Cond.fieldLink RX9 16 "ChanceHallModel" "to" "[I"]
def wsX9_hits : List Cond := .code yX9_hits cX9_hits 4 (some .long) :: ((wsX9_hits_r1 ++ wsX9_hits_r2) ++ wsX90)
def wsX9_ahead : List Cond := .code yX9_ahead cX9_ahead 4 (some .int) :: ([.fieldLink RX9 13 "ChanceHallModel" "slots" "I", .methodLink RX9 112 yX9_image, .instanceMethod yX9_image, .selects RX9 yX9_image yX9_image, .initialized RX9, .code yX9_image cX9_image 5 (some .int), .fieldLink RX9 7 "ChanceHallModel" "states" "I", .methodLink RX9 65 yX9_goes, .instanceMethod yX9_goes, .selects RX9 yX9_goes yX9_goes, .code yX9_goes cX9_goes 3 (some .int), .fieldLink RX9 16 "ChanceHallModel" "to" "[I"] ++ wsX90)
def wsX9_reached : List Cond := .code yX9_reached cX9_reached 4 (some .int) :: ([.fieldLink RX9 7 "ChanceHallModel" "states" "I", .methodLink RX9 122 yX9_ahead, .instanceMethod yX9_ahead, .selects RX9 yX9_ahead yX9_ahead, .initialized RX9, .code yX9_ahead cX9_ahead 4 (some .int), .fieldLink RX9 13 "ChanceHallModel" "slots" "I", .methodLink RX9 112 yX9_image, .instanceMethod yX9_image, .selects RX9 yX9_image yX9_image, .code yX9_image cX9_image 5 (some .int), .methodLink RX9 65 yX9_goes, .instanceMethod yX9_goes, .selects RX9 yX9_goes yX9_goes, .code yX9_goes cX9_goes 3 (some .int), .fieldLink RX9 16 "ChanceHallModel" "to" "[I"] ++ wsX90)
def wsX9_reach_r1 : List Cond := [Cond.methodLink RX9 59 yX9_isState, Cond.instanceMethod yX9_isState, Cond.selects RX9 yX9_isState yX9_isState, Cond.initialized RX9, Cond.code yX9_isState cX9_isState 2 (some .boolean), Cond.fieldLink RX9 7 "ChanceHallModel" "states" "I", Cond.methodLink RX9 51 yX9_isIn, Cond.static yX9_isIn, Cond.code yX9_isIn cX9_isIn 3 (some .boolean), Cond.methodLink RX9 55 yX9_can, Cond.instanceMethod yX9_can, Cond.selects RX9 yX9_can yX9_can, Cond.code yX9_can cX9_can 2 (some .boolean), Cond.fieldLink RX9 48 "ChanceHallModel" "thrown" "I", Cond.methodLink RX9 126 yX9_reached, Cond.instanceMethod yX9_reached, Cond.selects RX9 yX9_reached yX9_reached, Cond.code yX9_reached cX9_reached 4 (some .int), Cond.methodLink RX9 122 yX9_ahead, Cond.instanceMethod yX9_ahead, Cond.selects RX9 yX9_ahead yX9_ahead, Cond.code yX9_ahead cX9_ahead 4 (some .int), Cond.fieldLink RX9 13 "ChanceHallModel" "slots" "I", Cond.methodLink RX9 112 yX9_image]
def wsX9_reach_r2 : List Cond := [Cond.instanceMethod yX9_image, Cond.selects RX9 yX9_image yX9_image, Cond.code yX9_image cX9_image 5 (some .int), Cond.methodLink RX9 65 yX9_goes, Cond.instanceMethod yX9_goes, Cond.selects RX9 yX9_goes yX9_goes, Cond.code yX9_goes cX9_goes 3 (some .int), Cond.fieldLink RX9 16 "ChanceHallModel" "to" "[I"]
def wsX9_reach : List Cond := .code yX9_reach cX9_reach 2 (some .int) :: ((wsX9_reach_r1 ++ wsX9_reach_r2) ++ wsX90)
def wsX9_isClosed : List Cond := .code yX9_isClosed cX9_isClosed 5 (some .boolean) :: ([.fieldLink RX9 7 "ChanceHallModel" "states" "I", .methodLink RX9 126 yX9_reached, .instanceMethod yX9_reached, .selects RX9 yX9_reached yX9_reached, .initialized RX9, .code yX9_reached cX9_reached 4 (some .int), .methodLink RX9 122 yX9_ahead, .instanceMethod yX9_ahead, .selects RX9 yX9_ahead yX9_ahead, .code yX9_ahead cX9_ahead 4 (some .int), .fieldLink RX9 13 "ChanceHallModel" "slots" "I", .methodLink RX9 112 yX9_image, .instanceMethod yX9_image, .selects RX9 yX9_image yX9_image, .code yX9_image cX9_image 5 (some .int), .methodLink RX9 65 yX9_goes, .instanceMethod yX9_goes, .selects RX9 yX9_goes yX9_goes, .code yX9_goes cX9_goes 3 (some .int), .fieldLink RX9 16 "ChanceHallModel" "to" "[I"] ++ wsX90)
def wsX9_closed_r1 : List Cond := [Cond.fieldLink RX9 48 "ChanceHallModel" "thrown" "I", Cond.fieldLink RX9 7 "ChanceHallModel" "states" "I", Cond.methodLink RX9 129 yX9_isClosed, Cond.instanceMethod yX9_isClosed, Cond.selects RX9 yX9_isClosed yX9_isClosed, Cond.initialized RX9, Cond.code yX9_isClosed cX9_isClosed 5 (some .boolean), Cond.methodLink RX9 126 yX9_reached, Cond.instanceMethod yX9_reached, Cond.selects RX9 yX9_reached yX9_reached, Cond.code yX9_reached cX9_reached 4 (some .int), Cond.methodLink RX9 122 yX9_ahead, Cond.instanceMethod yX9_ahead, Cond.selects RX9 yX9_ahead yX9_ahead, Cond.code yX9_ahead cX9_ahead 4 (some .int), Cond.fieldLink RX9 13 "ChanceHallModel" "slots" "I", Cond.methodLink RX9 112 yX9_image, Cond.instanceMethod yX9_image, Cond.selects RX9 yX9_image yX9_image, Cond.code yX9_image cX9_image 5 (some .int), Cond.methodLink RX9 65 yX9_goes, Cond.instanceMethod yX9_goes, Cond.selects RX9 yX9_goes yX9_goes, Cond.code yX9_goes cX9_goes 3 (some .int)]
def wsX9_closed_r2 : List Cond := [Cond.fieldLink RX9 16 "ChanceHallModel" "to" "[I"]
def wsX9_closed : List Cond := .code yX9_closed cX9_closed 3 (some .int) :: ((wsX9_closed_r1 ++ wsX9_closed_r2) ++ wsX90)
def wsX9_common : List Cond := .code yX9_common cX9_common 5 (some .int) :: ([])
def wsX9_period_r1 : List Cond := [Cond.methodLink RX9 59 yX9_isState, Cond.instanceMethod yX9_isState, Cond.selects RX9 yX9_isState yX9_isState, Cond.initialized RX9, Cond.code yX9_isState cX9_isState 2 (some .boolean), Cond.fieldLink RX9 7 "ChanceHallModel" "states" "I", Cond.methodLink RX9 51 yX9_isIn, Cond.static yX9_isIn, Cond.code yX9_isIn cX9_isIn 3 (some .boolean), Cond.methodLink RX9 55 yX9_can, Cond.instanceMethod yX9_can, Cond.selects RX9 yX9_can yX9_can, Cond.code yX9_can cX9_can 2 (some .boolean), Cond.fieldLink RX9 48 "ChanceHallModel" "thrown" "I", Cond.methodLink RX9 122 yX9_ahead, Cond.instanceMethod yX9_ahead, Cond.selects RX9 yX9_ahead yX9_ahead, Cond.code yX9_ahead cX9_ahead 4 (some .int), Cond.fieldLink RX9 13 "ChanceHallModel" "slots" "I", Cond.methodLink RX9 112 yX9_image, Cond.instanceMethod yX9_image, Cond.selects RX9 yX9_image yX9_image, Cond.code yX9_image cX9_image 5 (some .int), Cond.methodLink RX9 65 yX9_goes]
def wsX9_period_r2 : List Cond := [Cond.instanceMethod yX9_goes, Cond.selects RX9 yX9_goes yX9_goes, Cond.code yX9_goes cX9_goes 3 (some .int), Cond.fieldLink RX9 16 "ChanceHallModel" "to" "[I", Cond.methodLink RX9 132 yX9_common, Cond.static yX9_common, Cond.code yX9_common cX9_common 5 (some .int)]
def wsX9_period : List Cond := .code yX9_period cX9_period 5 (some .int) :: ((wsX9_period_r1 ++ wsX9_period_r2) ++ wsX90)
def wsX9_laysWeights : List Cond := .code yX9_laysWeights cX9_laysWeights 6 none :: ([.fieldLink RX9 7 "ChanceHallModel" "states" "I", .fieldLink RX9 39 "ChanceHallModel" "weights" "[J", .fieldLink RX9 13 "ChanceHallModel" "slots" "I", .methodLink RX9 71 yX9_weigh, .instanceMethod yX9_weigh, .selects RX9 yX9_weigh yX9_weigh, .initialized RX9, .code yX9_weigh cX9_weigh 5 (some .int), .methodLink RX9 65 yX9_goes, .instanceMethod yX9_goes, .selects RX9 yX9_goes yX9_goes, .code yX9_goes cX9_goes 3 (some .int), .fieldLink RX9 16 "ChanceHallModel" "to" "[I"] ++ wsX90)
def wsX9_bits : List Cond := .code yX9_bits cX9_bits 3 (some .int) :: ([])
def wsX9_restOf : List Cond := .code yX9_restOf cX9_restOf 8 (some .long) :: ([.fieldLink RX9 7 "ChanceHallModel" "states" "I", .fieldLink RX9 36 "ChanceHallModel" "minor" "[J", .fieldLink RX9 39 "ChanceHallModel" "weights" "[J", .methodLink RX9 135 yX9_laysWeights, .instanceMethod yX9_laysWeights, .selects RX9 yX9_laysWeights yX9_laysWeights, .initialized RX9, .code yX9_laysWeights cX9_laysWeights 6 none, .fieldLink RX9 13 "ChanceHallModel" "slots" "I", .methodLink RX9 71 yX9_weigh, .instanceMethod yX9_weigh, .selects RX9 yX9_weigh yX9_weigh, .code yX9_weigh cX9_weigh 5 (some .int), .methodLink RX9 65 yX9_goes, .instanceMethod yX9_goes, .selects RX9 yX9_goes yX9_goes, .code yX9_goes cX9_goes 3 (some .int), .fieldLink RX9 16 "ChanceHallModel" "to" "[I", .methodLink RX9 138 yX9_bits, .static yX9_bits, .code yX9_bits cX9_bits 3 (some .int)] ++ wsX90)
def wsX9_wholeRest_r1 : List Cond := [Cond.fieldLink RX9 7 "ChanceHallModel" "states" "I", Cond.methodLink RX9 141 yX9_restOf, Cond.instanceMethod yX9_restOf, Cond.selects RX9 yX9_restOf yX9_restOf, Cond.initialized RX9, Cond.code yX9_restOf cX9_restOf 8 (some .long), Cond.fieldLink RX9 36 "ChanceHallModel" "minor" "[J", Cond.fieldLink RX9 39 "ChanceHallModel" "weights" "[J", Cond.methodLink RX9 135 yX9_laysWeights, Cond.instanceMethod yX9_laysWeights, Cond.selects RX9 yX9_laysWeights yX9_laysWeights, Cond.code yX9_laysWeights cX9_laysWeights 6 none, Cond.fieldLink RX9 13 "ChanceHallModel" "slots" "I", Cond.methodLink RX9 71 yX9_weigh, Cond.instanceMethod yX9_weigh, Cond.selects RX9 yX9_weigh yX9_weigh, Cond.code yX9_weigh cX9_weigh 5 (some .int), Cond.methodLink RX9 65 yX9_goes, Cond.instanceMethod yX9_goes, Cond.selects RX9 yX9_goes yX9_goes, Cond.code yX9_goes cX9_goes 3 (some .int), Cond.fieldLink RX9 16 "ChanceHallModel" "to" "[I", Cond.methodLink RX9 138 yX9_bits, Cond.static yX9_bits]
def wsX9_wholeRest_r2 : List Cond := [Cond.code yX9_bits cX9_bits 3 (some .int)]
def wsX9_wholeRest : List Cond := .code yX9_wholeRest cX9_wholeRest 4 (some .long) :: ((wsX9_wholeRest_r1 ++ wsX9_wholeRest_r2) ++ wsX90)
def wsX9_rest_r1 : List Cond := [Cond.methodLink RX9 59 yX9_isState, Cond.instanceMethod yX9_isState, Cond.selects RX9 yX9_isState yX9_isState, Cond.initialized RX9, Cond.code yX9_isState cX9_isState 2 (some .boolean), Cond.fieldLink RX9 7 "ChanceHallModel" "states" "I", Cond.methodLink RX9 51 yX9_isIn, Cond.static yX9_isIn, Cond.code yX9_isIn cX9_isIn 3 (some .boolean), Cond.methodLink RX9 55 yX9_can, Cond.instanceMethod yX9_can, Cond.selects RX9 yX9_can yX9_can, Cond.code yX9_can cX9_can 2 (some .boolean), Cond.fieldLink RX9 48 "ChanceHallModel" "thrown" "I", Cond.methodLink RX9 144 yX9_wholeRest, Cond.instanceMethod yX9_wholeRest, Cond.selects RX9 yX9_wholeRest yX9_wholeRest, Cond.code yX9_wholeRest cX9_wholeRest 4 (some .long), Cond.methodLink RX9 141 yX9_restOf, Cond.instanceMethod yX9_restOf, Cond.selects RX9 yX9_restOf yX9_restOf, Cond.code yX9_restOf cX9_restOf 8 (some .long), Cond.fieldLink RX9 36 "ChanceHallModel" "minor" "[J", Cond.fieldLink RX9 39 "ChanceHallModel" "weights" "[J"]
def wsX9_rest_r2 : List Cond := [Cond.methodLink RX9 135 yX9_laysWeights, Cond.instanceMethod yX9_laysWeights, Cond.selects RX9 yX9_laysWeights yX9_laysWeights, Cond.code yX9_laysWeights cX9_laysWeights 6 none, Cond.fieldLink RX9 13 "ChanceHallModel" "slots" "I", Cond.methodLink RX9 71 yX9_weigh, Cond.instanceMethod yX9_weigh, Cond.selects RX9 yX9_weigh yX9_weigh, Cond.code yX9_weigh cX9_weigh 5 (some .int), Cond.methodLink RX9 65 yX9_goes, Cond.instanceMethod yX9_goes, Cond.selects RX9 yX9_goes yX9_goes, Cond.code yX9_goes cX9_goes 3 (some .int), Cond.fieldLink RX9 16 "ChanceHallModel" "to" "[I", Cond.methodLink RX9 138 yX9_bits, Cond.static yX9_bits, Cond.code yX9_bits cX9_bits 3 (some .int)]
def wsX9_rest : List Cond := .code yX9_rest cX9_rest 2 (some .long) :: ((wsX9_rest_r1 ++ wsX9_rest_r2) ++ wsX90)
def wsX9_share_r1 : List Cond := [Cond.methodLink RX9 59 yX9_isState, Cond.instanceMethod yX9_isState, Cond.selects RX9 yX9_isState yX9_isState, Cond.initialized RX9, Cond.code yX9_isState cX9_isState 2 (some .boolean), Cond.fieldLink RX9 7 "ChanceHallModel" "states" "I", Cond.methodLink RX9 51 yX9_isIn, Cond.static yX9_isIn, Cond.code yX9_isIn cX9_isIn 3 (some .boolean), Cond.methodLink RX9 144 yX9_wholeRest, Cond.instanceMethod yX9_wholeRest, Cond.selects RX9 yX9_wholeRest yX9_wholeRest, Cond.code yX9_wholeRest cX9_wholeRest 4 (some .long), Cond.methodLink RX9 141 yX9_restOf, Cond.instanceMethod yX9_restOf, Cond.selects RX9 yX9_restOf yX9_restOf, Cond.code yX9_restOf cX9_restOf 8 (some .long), Cond.fieldLink RX9 36 "ChanceHallModel" "minor" "[J", Cond.fieldLink RX9 39 "ChanceHallModel" "weights" "[J", Cond.methodLink RX9 135 yX9_laysWeights, Cond.instanceMethod yX9_laysWeights, Cond.selects RX9 yX9_laysWeights yX9_laysWeights, Cond.code yX9_laysWeights cX9_laysWeights 6 none, Cond.fieldLink RX9 13 "ChanceHallModel" "slots" "I"]
def wsX9_share_r2 : List Cond := [Cond.methodLink RX9 71 yX9_weigh, Cond.instanceMethod yX9_weigh, Cond.selects RX9 yX9_weigh yX9_weigh, Cond.code yX9_weigh cX9_weigh 5 (some .int), Cond.methodLink RX9 65 yX9_goes, Cond.instanceMethod yX9_goes, Cond.selects RX9 yX9_goes yX9_goes, Cond.code yX9_goes cX9_goes 3 (some .int), Cond.fieldLink RX9 16 "ChanceHallModel" "to" "[I", Cond.methodLink RX9 138 yX9_bits, Cond.static yX9_bits, Cond.code yX9_bits cX9_bits 3 (some .int), Cond.methodLink RX9 55 yX9_can, Cond.instanceMethod yX9_can, Cond.selects RX9 yX9_can yX9_can, Cond.code yX9_can cX9_can 2 (some .boolean), Cond.fieldLink RX9 48 "ChanceHallModel" "thrown" "I"]
def wsX9_share : List Cond := .code yX9_share cX9_share 5 (some .float) :: ((wsX9_share_r1 ++ wsX9_share_r2) ++ wsX90)
def wsX9_placeOf_r1 : List Cond := [Cond.fieldLink RX9 7 "ChanceHallModel" "states" "I", Cond.methodLink RX9 141 yX9_restOf, Cond.instanceMethod yX9_restOf, Cond.selects RX9 yX9_restOf yX9_restOf, Cond.initialized RX9, Cond.code yX9_restOf cX9_restOf 8 (some .long), Cond.fieldLink RX9 36 "ChanceHallModel" "minor" "[J", Cond.fieldLink RX9 39 "ChanceHallModel" "weights" "[J", Cond.methodLink RX9 135 yX9_laysWeights, Cond.instanceMethod yX9_laysWeights, Cond.selects RX9 yX9_laysWeights yX9_laysWeights, Cond.code yX9_laysWeights cX9_laysWeights 6 none, Cond.fieldLink RX9 13 "ChanceHallModel" "slots" "I", Cond.methodLink RX9 71 yX9_weigh, Cond.instanceMethod yX9_weigh, Cond.selects RX9 yX9_weigh yX9_weigh, Cond.code yX9_weigh cX9_weigh 5 (some .int), Cond.methodLink RX9 65 yX9_goes, Cond.instanceMethod yX9_goes, Cond.selects RX9 yX9_goes yX9_goes, Cond.code yX9_goes cX9_goes 3 (some .int), Cond.fieldLink RX9 16 "ChanceHallModel" "to" "[I", Cond.methodLink RX9 138 yX9_bits, Cond.static yX9_bits]
def wsX9_placeOf_r2 : List Cond := [Cond.code yX9_bits cX9_bits 3 (some .int)]
def wsX9_placeOf : List Cond := .code yX9_placeOf cX9_placeOf 8 (some .int) :: ((wsX9_placeOf_r1 ++ wsX9_placeOf_r2) ++ wsX90)
def wsX9_ranked_r1 : List Cond := [Cond.fieldLink RX9 7 "ChanceHallModel" "states" "I", Cond.methodLink RX9 55 yX9_can, Cond.instanceMethod yX9_can, Cond.selects RX9 yX9_can yX9_can, Cond.initialized RX9, Cond.code yX9_can cX9_can 2 (some .boolean), Cond.fieldLink RX9 48 "ChanceHallModel" "thrown" "I", Cond.methodLink RX9 148 yX9_placeOf, Cond.instanceMethod yX9_placeOf, Cond.selects RX9 yX9_placeOf yX9_placeOf, Cond.code yX9_placeOf cX9_placeOf 8 (some .int), Cond.methodLink RX9 141 yX9_restOf, Cond.instanceMethod yX9_restOf, Cond.selects RX9 yX9_restOf yX9_restOf, Cond.code yX9_restOf cX9_restOf 8 (some .long), Cond.fieldLink RX9 36 "ChanceHallModel" "minor" "[J", Cond.fieldLink RX9 39 "ChanceHallModel" "weights" "[J", Cond.methodLink RX9 135 yX9_laysWeights, Cond.instanceMethod yX9_laysWeights, Cond.selects RX9 yX9_laysWeights yX9_laysWeights, Cond.code yX9_laysWeights cX9_laysWeights 6 none, Cond.fieldLink RX9 13 "ChanceHallModel" "slots" "I", Cond.methodLink RX9 71 yX9_weigh, Cond.instanceMethod yX9_weigh]
def wsX9_ranked_r2 : List Cond := [Cond.selects RX9 yX9_weigh yX9_weigh, Cond.code yX9_weigh cX9_weigh 5 (some .int), Cond.methodLink RX9 65 yX9_goes, Cond.instanceMethod yX9_goes, Cond.selects RX9 yX9_goes yX9_goes, Cond.code yX9_goes cX9_goes 3 (some .int), Cond.fieldLink RX9 16 "ChanceHallModel" "to" "[I", Cond.methodLink RX9 138 yX9_bits, Cond.static yX9_bits, Cond.code yX9_bits cX9_bits 3 (some .int)]
def wsX9_ranked : List Cond := .code yX9_ranked cX9_ranked 4 (some .int) :: ((wsX9_ranked_r1 ++ wsX9_ranked_r2) ++ wsX90)
def wsX9_drawn : List Cond := .code yX9_drawn cX9_drawn 1 (some .int) :: ([.constant RX9 151 (65521)])
def wsX9_isSeed : List Cond := .code yX9_isSeed cX9_isSeed 1 (some .boolean) :: ([.constant RX9 152 (65520), .methodLink RX9 51 yX9_isIn, .static yX9_isIn, .initialized RX9, .code yX9_isIn cX9_isIn 3 (some .boolean)])
def wsX9_walk_r1 : List Cond := [Cond.fieldLink RX9 13 "ChanceHallModel" "slots" "I", Cond.methodLink RX9 59 yX9_isState, Cond.instanceMethod yX9_isState, Cond.selects RX9 yX9_isState yX9_isState, Cond.initialized RX9, Cond.code yX9_isState cX9_isState 2 (some .boolean), Cond.fieldLink RX9 7 "ChanceHallModel" "states" "I", Cond.methodLink RX9 51 yX9_isIn, Cond.static yX9_isIn, Cond.code yX9_isIn cX9_isIn 3 (some .boolean), Cond.methodLink RX9 153 yX9_isSeed, Cond.static yX9_isSeed, Cond.code yX9_isSeed cX9_isSeed 1 (some .boolean), Cond.constant RX9 152 (65520), Cond.methodLink RX9 55 yX9_can, Cond.instanceMethod yX9_can, Cond.selects RX9 yX9_can yX9_can, Cond.code yX9_can cX9_can 2 (some .boolean), Cond.fieldLink RX9 48 "ChanceHallModel" "thrown" "I", Cond.methodLink RX9 156 yX9_drawn, Cond.static yX9_drawn, Cond.code yX9_drawn cX9_drawn 1 (some .int), Cond.constant RX9 151 (65521), Cond.methodLink RX9 65 yX9_goes]
def wsX9_walk_r2 : List Cond := [Cond.instanceMethod yX9_goes, Cond.selects RX9 yX9_goes yX9_goes, Cond.code yX9_goes cX9_goes 3 (some .int), Cond.fieldLink RX9 16 "ChanceHallModel" "to" "[I"]
def wsX9_walk : List Cond := .code yX9_walk cX9_walk 7 (some .int) :: ((wsX9_walk_r1 ++ wsX9_walk_r2) ++ wsX90)
def wsX9_isOne : List Cond := .code yX9_isOne cX9_isOne 3 (some .boolean) :: ([.fieldLink RX9 7 "ChanceHallModel" "states" "I", .fieldLink RX9 42 "ChanceHallModel" "map" "[I"] ++ wsX90)
def wsX9_draw_r1 : List Cond := [Cond.fieldLink RX9 7 "ChanceHallModel" "states" "I", Cond.fieldLink RX9 42 "ChanceHallModel" "map" "[I", Cond.fieldLink RX9 45 "ChanceHallModel" "next" "[I", Cond.fieldLink RX9 13 "ChanceHallModel" "slots" "I", Cond.methodLink RX9 153 yX9_isSeed, Cond.static yX9_isSeed, Cond.initialized RX9, Cond.code yX9_isSeed cX9_isSeed 1 (some .boolean), Cond.constant RX9 152 (65520), Cond.methodLink RX9 51 yX9_isIn, Cond.static yX9_isIn, Cond.code yX9_isIn cX9_isIn 3 (some .boolean), Cond.methodLink RX9 55 yX9_can, Cond.instanceMethod yX9_can, Cond.selects RX9 yX9_can yX9_can, Cond.code yX9_can cX9_can 2 (some .boolean), Cond.fieldLink RX9 48 "ChanceHallModel" "thrown" "I", Cond.methodLink RX9 159 yX9_isOne, Cond.instanceMethod yX9_isOne, Cond.selects RX9 yX9_isOne yX9_isOne, Cond.code yX9_isOne cX9_isOne 3 (some .boolean), Cond.methodLink RX9 156 yX9_drawn, Cond.static yX9_drawn, Cond.code yX9_drawn cX9_drawn 1 (some .int)]
def wsX9_draw_r2 : List Cond := [Cond.constant RX9 151 (65521), Cond.methodLink RX9 65 yX9_goes, Cond.instanceMethod yX9_goes, Cond.selects RX9 yX9_goes yX9_goes, Cond.code yX9_goes cX9_goes 3 (some .int), Cond.fieldLink RX9 16 "ChanceHallModel" "to" "[I"]
def wsX9_draw : List Cond := .code yX9_draw cX9_draw 5 (some .int) :: ((wsX9_draw_r1 ++ wsX9_draw_r2) ++ wsX90)
def wsX9_driftOf : List Cond := .code yX9_driftOf cX9_driftOf 5 (some .long) :: ([.fieldLink RX9 13 "ChanceHallModel" "slots" "I", .fieldLink RX9 20 "ChanceHallModel" "pay" "[I", .methodLink RX9 65 yX9_goes, .instanceMethod yX9_goes, .selects RX9 yX9_goes yX9_goes, .initialized RX9, .code yX9_goes cX9_goes 3 (some .int), .fieldLink RX9 16 "ChanceHallModel" "to" "[I"] ++ wsX90)
def wsX9_drift_r1 : List Cond := [Cond.methodLink RX9 59 yX9_isState, Cond.instanceMethod yX9_isState, Cond.selects RX9 yX9_isState yX9_isState, Cond.initialized RX9, Cond.code yX9_isState cX9_isState 2 (some .boolean), Cond.fieldLink RX9 7 "ChanceHallModel" "states" "I", Cond.methodLink RX9 51 yX9_isIn, Cond.static yX9_isIn, Cond.code yX9_isIn cX9_isIn 3 (some .boolean), Cond.methodLink RX9 55 yX9_can, Cond.instanceMethod yX9_can, Cond.selects RX9 yX9_can yX9_can, Cond.code yX9_can cX9_can 2 (some .boolean), Cond.fieldLink RX9 48 "ChanceHallModel" "thrown" "I", Cond.methodLink RX9 163 yX9_driftOf, Cond.instanceMethod yX9_driftOf, Cond.selects RX9 yX9_driftOf yX9_driftOf, Cond.code yX9_driftOf cX9_driftOf 5 (some .long), Cond.fieldLink RX9 13 "ChanceHallModel" "slots" "I", Cond.fieldLink RX9 20 "ChanceHallModel" "pay" "[I", Cond.methodLink RX9 65 yX9_goes, Cond.instanceMethod yX9_goes, Cond.selects RX9 yX9_goes yX9_goes, Cond.code yX9_goes cX9_goes 3 (some .int)]
def wsX9_drift_r2 : List Cond := [Cond.fieldLink RX9 16 "ChanceHallModel" "to" "[I"]
def wsX9_drift : List Cond := .code yX9_drift cX9_drift 2 (some .long) :: ((wsX9_drift_r1 ++ wsX9_drift_r2) ++ wsX90)
def wsX9_isFair : List Cond := .code yX9_isFair cX9_isFair 3 (some .boolean) :: ([.fieldLink RX9 48 "ChanceHallModel" "thrown" "I", .fieldLink RX9 7 "ChanceHallModel" "states" "I", .methodLink RX9 163 yX9_driftOf, .instanceMethod yX9_driftOf, .selects RX9 yX9_driftOf yX9_driftOf, .initialized RX9, .code yX9_driftOf cX9_driftOf 5 (some .long), .fieldLink RX9 13 "ChanceHallModel" "slots" "I", .fieldLink RX9 20 "ChanceHallModel" "pay" "[I", .methodLink RX9 65 yX9_goes, .instanceMethod yX9_goes, .selects RX9 yX9_goes yX9_goes, .code yX9_goes cX9_goes 3 (some .int), .fieldLink RX9 16 "ChanceHallModel" "to" "[I"] ++ wsX90)
def wsX9_plays : List Cond := .code yX9_plays cX9_plays 6 none :: ([.fieldLink RX9 7 "ChanceHallModel" "states" "I", .fieldLink RX9 26 "ChanceHallModel" "now" "[J", .fieldLink RX9 20 "ChanceHallModel" "pay" "[I", .fieldLink RX9 33 "ChanceHallModel" "others" "[J", .fieldLink RX9 30 "ChanceHallModel" "then" "[J", .fieldLink RX9 13 "ChanceHallModel" "slots" "I", .methodLink RX9 65 yX9_goes, .instanceMethod yX9_goes, .selects RX9 yX9_goes yX9_goes, .initialized RX9, .code yX9_goes cX9_goes 3 (some .int), .fieldLink RX9 16 "ChanceHallModel" "to" "[I", .methodLink RX9 77 yX9_power, .instanceMethod yX9_power, .selects RX9 yX9_power yX9_power, .code yX9_power cX9_power 5 (some .long)] ++ wsX90)
def wsX9_best_r1 : List Cond := [Cond.fieldLink RX9 26 "ChanceHallModel" "now" "[J", Cond.methodLink RX9 59 yX9_isState, Cond.instanceMethod yX9_isState, Cond.selects RX9 yX9_isState yX9_isState, Cond.initialized RX9, Cond.code yX9_isState cX9_isState 2 (some .boolean), Cond.fieldLink RX9 7 "ChanceHallModel" "states" "I", Cond.methodLink RX9 51 yX9_isIn, Cond.static yX9_isIn, Cond.code yX9_isIn cX9_isIn 3 (some .boolean), Cond.methodLink RX9 74 yX9_areSteps, Cond.static yX9_areSteps, Cond.code yX9_areSteps cX9_areSteps 1 (some .boolean), Cond.methodLink RX9 55 yX9_can, Cond.instanceMethod yX9_can, Cond.selects RX9 yX9_can yX9_can, Cond.code yX9_can cX9_can 2 (some .boolean), Cond.fieldLink RX9 48 "ChanceHallModel" "thrown" "I", Cond.methodLink RX9 166 yX9_plays, Cond.instanceMethod yX9_plays, Cond.selects RX9 yX9_plays yX9_plays, Cond.code yX9_plays cX9_plays 6 none, Cond.fieldLink RX9 20 "ChanceHallModel" "pay" "[I", Cond.fieldLink RX9 33 "ChanceHallModel" "others" "[J"]
def wsX9_best_r2 : List Cond := [Cond.fieldLink RX9 30 "ChanceHallModel" "then" "[J", Cond.fieldLink RX9 13 "ChanceHallModel" "slots" "I", Cond.methodLink RX9 65 yX9_goes, Cond.instanceMethod yX9_goes, Cond.selects RX9 yX9_goes yX9_goes, Cond.code yX9_goes cX9_goes 3 (some .int), Cond.fieldLink RX9 16 "ChanceHallModel" "to" "[I", Cond.methodLink RX9 77 yX9_power, Cond.instanceMethod yX9_power, Cond.selects RX9 yX9_power yX9_power, Cond.code yX9_power cX9_power 5 (some .long)]
def wsX9_best : List Cond := .code yX9_best cX9_best 3 (some .long) :: ((wsX9_best_r1 ++ wsX9_best_r2) ++ wsX90)
def wsX9_stops_r1 : List Cond := [Cond.fieldLink RX9 20 "ChanceHallModel" "pay" "[I", Cond.fieldLink RX9 33 "ChanceHallModel" "others" "[J", Cond.methodLink RX9 59 yX9_isState, Cond.instanceMethod yX9_isState, Cond.selects RX9 yX9_isState yX9_isState, Cond.initialized RX9, Cond.code yX9_isState cX9_isState 2 (some .boolean), Cond.fieldLink RX9 7 "ChanceHallModel" "states" "I", Cond.methodLink RX9 51 yX9_isIn, Cond.static yX9_isIn, Cond.code yX9_isIn cX9_isIn 3 (some .boolean), Cond.methodLink RX9 74 yX9_areSteps, Cond.static yX9_areSteps, Cond.code yX9_areSteps cX9_areSteps 1 (some .boolean), Cond.methodLink RX9 55 yX9_can, Cond.instanceMethod yX9_can, Cond.selects RX9 yX9_can yX9_can, Cond.code yX9_can cX9_can 2 (some .boolean), Cond.fieldLink RX9 48 "ChanceHallModel" "thrown" "I", Cond.methodLink RX9 166 yX9_plays, Cond.instanceMethod yX9_plays, Cond.selects RX9 yX9_plays yX9_plays, Cond.code yX9_plays cX9_plays 6 none, Cond.fieldLink RX9 26 "ChanceHallModel" "now" "[J"]
def wsX9_stops_r2 : List Cond := [Cond.fieldLink RX9 30 "ChanceHallModel" "then" "[J", Cond.fieldLink RX9 13 "ChanceHallModel" "slots" "I", Cond.methodLink RX9 65 yX9_goes, Cond.instanceMethod yX9_goes, Cond.selects RX9 yX9_goes yX9_goes, Cond.code yX9_goes cX9_goes 3 (some .int), Cond.fieldLink RX9 16 "ChanceHallModel" "to" "[I", Cond.methodLink RX9 77 yX9_power, Cond.instanceMethod yX9_power, Cond.selects RX9 yX9_power yX9_power, Cond.code yX9_power cX9_power 5 (some .long)]
def wsX9_stops : List Cond := .code yX9_stops cX9_stops 3 (some .boolean) :: ((wsX9_stops_r1 ++ wsX9_stops_r2) ++ wsX90)
def wsX9_reverses_r1 : List Cond := [Cond.fieldLink RX9 48 "ChanceHallModel" "thrown" "I", Cond.fieldLink RX9 7 "ChanceHallModel" "states" "I", Cond.methodLink RX9 144 yX9_wholeRest, Cond.instanceMethod yX9_wholeRest, Cond.selects RX9 yX9_wholeRest yX9_wholeRest, Cond.initialized RX9, Cond.code yX9_wholeRest cX9_wholeRest 4 (some .long), Cond.methodLink RX9 141 yX9_restOf, Cond.instanceMethod yX9_restOf, Cond.selects RX9 yX9_restOf yX9_restOf, Cond.code yX9_restOf cX9_restOf 8 (some .long), Cond.fieldLink RX9 36 "ChanceHallModel" "minor" "[J", Cond.fieldLink RX9 39 "ChanceHallModel" "weights" "[J", Cond.methodLink RX9 135 yX9_laysWeights, Cond.instanceMethod yX9_laysWeights, Cond.selects RX9 yX9_laysWeights yX9_laysWeights, Cond.code yX9_laysWeights cX9_laysWeights 6 none, Cond.fieldLink RX9 13 "ChanceHallModel" "slots" "I", Cond.methodLink RX9 71 yX9_weigh, Cond.instanceMethod yX9_weigh, Cond.selects RX9 yX9_weigh yX9_weigh, Cond.code yX9_weigh cX9_weigh 5 (some .int), Cond.methodLink RX9 65 yX9_goes, Cond.instanceMethod yX9_goes]
def wsX9_reverses_r2 : List Cond := [Cond.selects RX9 yX9_goes yX9_goes, Cond.code yX9_goes cX9_goes 3 (some .int), Cond.fieldLink RX9 16 "ChanceHallModel" "to" "[I", Cond.methodLink RX9 138 yX9_bits, Cond.static yX9_bits, Cond.code yX9_bits cX9_bits 3 (some .int)]
def wsX9_reverses : List Cond := .code yX9_reverses cX9_reverses 4 (some .boolean) :: ((wsX9_reverses_r1 ++ wsX9_reverses_r2) ++ wsX90)
def wsX9_weighColour : List Cond := .code yX9_weighColour cX9_weighColour 5 (some .int) :: ([.fieldLink RX9 7 "ChanceHallModel" "states" "I", .fieldLink RX9 23 "ChanceHallModel" "colour" "[I", .methodLink RX9 71 yX9_weigh, .instanceMethod yX9_weigh, .selects RX9 yX9_weigh yX9_weigh, .initialized RX9, .code yX9_weigh cX9_weigh 5 (some .int), .fieldLink RX9 13 "ChanceHallModel" "slots" "I", .methodLink RX9 65 yX9_goes, .instanceMethod yX9_goes, .selects RX9 yX9_goes yX9_goes, .code yX9_goes cX9_goes 3 (some .int), .fieldLink RX9 16 "ChanceHallModel" "to" "[I"] ++ wsX90)
def wsX9_isLumped : List Cond := .code yX9_isLumped cX9_isLumped 5 (some .boolean) :: ([.fieldLink RX9 48 "ChanceHallModel" "thrown" "I", .fieldLink RX9 7 "ChanceHallModel" "states" "I", .fieldLink RX9 23 "ChanceHallModel" "colour" "[I", .methodLink RX9 169 yX9_weighColour, .instanceMethod yX9_weighColour, .selects RX9 yX9_weighColour yX9_weighColour, .initialized RX9, .code yX9_weighColour cX9_weighColour 5 (some .int), .methodLink RX9 71 yX9_weigh, .instanceMethod yX9_weigh, .selects RX9 yX9_weigh yX9_weigh, .code yX9_weigh cX9_weigh 5 (some .int), .fieldLink RX9 13 "ChanceHallModel" "slots" "I", .methodLink RX9 65 yX9_goes, .instanceMethod yX9_goes, .selects RX9 yX9_goes yX9_goes, .code yX9_goes cX9_goes 3 (some .int), .fieldLink RX9 16 "ChanceHallModel" "to" "[I"] ++ wsX90)
def wsJ9_max_f86c9 : List Cond := .code yJ9_max_f86c9 cJ9_max_f86c9 4 (some .long) :: ([])
def wsL_begin_r1 : List Cond := [Cond.classLink RL 13 "java/lang/IllegalArgumentException", Cond.methodLink RL 7 yX8_begin, Cond.instanceMethod yX8_begin, Cond.selects RX8 yX8_begin yX8_begin, Cond.initialized RX8, Cond.code yX8_begin cX8_begin 3 none, Cond.fieldLink RX8 10 "ChanceHall" "chain" "LChanceHall$Chain;", Cond.fieldLink RX8 56 "ChanceHall" "games" "LChanceHall$Games;", Cond.fieldLink RX8 63 "ChanceHall" "lumps" "LChanceHall$Lumps;", Cond.methodLink RX8 71 yX8_needRange, Cond.static yX8_needRange, Cond.code yX8_needRange cX8_needRange 3 none, Cond.classLink RX8 208 "java/lang/IllegalArgumentException", Cond.initialized "java/lang/IllegalArgumentException", Cond.methodLink RX8 67 yX0_setOut, Cond.instanceMethod yX0_setOut, Cond.selects RX0 yX0_setOut yX0_setOut, Cond.initialized RX0, Cond.code yX0_setOut cX0_setOut 4 none, Cond.fieldLink RX0 19 "ChanceHall$Chain" "states" "I", Cond.fieldLink RX0 23 "ChanceHall$Chain" "slots" "I", Cond.fieldLink RX0 11 "ChanceHall$Chain" "goesTo" "[[I", Cond.fieldLink RX0 16 "ChanceHall$Chain" "weights" "[[I", Cond.methodLink RX0 26 yJ7_fill_53178]
def wsL_begin_r2 : List Cond := [Cond.static yJ7_fill_53178, Cond.initialized RJ7, Cond.code yJ7_fill_53178 cJ7_fill_53178 4 none, Cond.methodLink RX8 75 yX4_forget, Cond.instanceMethod yX4_forget, Cond.selects RX4 yX4_forget yX4_forget, Cond.initialized RX4, Cond.code yX4_forget cX4_forget 1 none, Cond.fieldLink RX4 15 "ChanceHall$Games" "pays" "[I", Cond.methodLink RX4 24 yJ7_fill_53178, Cond.methodLink RX8 78 yX6_forget, Cond.instanceMethod yX6_forget, Cond.selects RX6 yX6_forget yX6_forget, Cond.initialized RX6, Cond.code yX6_forget cX6_forget 1 none, Cond.fieldLink RX6 15 "ChanceHall$Lumps" "colours" "[I", Cond.methodLink RX6 19 yJ7_fill_53178]
def wsL_begin : List Cond := .codeWith yL_begin cL_begin 4 (some .int) [(0, 6, 9, 13)] :: ((wsL_begin_r1 ++ wsL_begin_r2) ++ wsX80 ++ wsX00 ++ wsX40 ++ wsX60 ++ (vx_atS RX8 212 "java/lang/IllegalArgumentException" ["java/lang/RuntimeException", "java/lang/Exception"]).filter goodWord)
def wsL_lead_r1 : List Cond := [Cond.classLink RL 19 "java/lang/IndexOutOfBoundsException", Cond.methodLink RL 15 yX8_lead, Cond.instanceMethod yX8_lead, Cond.selects RX8 yX8_lead yX8_lead, Cond.initialized RX8, Cond.code yX8_lead cX8_lead 4 (some .int), Cond.fieldLink RX8 10 "ChanceHall" "chain" "LChanceHall$Chain;", Cond.methodLink RX8 79 yX8_needState, Cond.instanceMethod yX8_needState, Cond.selects RX8 yX8_needState yX8_needState, Cond.code yX8_needState cX8_needState 2 none, Cond.classLink RX8 163 "java/lang/IndexOutOfBoundsException", Cond.initialized "java/lang/IndexOutOfBoundsException", Cond.fieldLink RX8 171 "ChanceHall$Chain" "states" "I", Cond.methodLink RX8 83 yX8_needSlot, Cond.instanceMethod yX8_needSlot, Cond.selects RX8 yX8_needSlot yX8_needSlot, Cond.code yX8_needSlot cX8_needSlot 2 none, Cond.fieldLink RX8 203 "ChanceHall$Chain" "slots" "I", Cond.methodLink RX8 86 yX0_turn, Cond.instanceMethod yX0_turn, Cond.selects RX0 yX0_turn yX0_turn, Cond.initialized RX0, Cond.code yX0_turn cX0_turn 5 (some .int)]
def wsL_lead_r2 : List Cond := [Cond.fieldLink RX0 11 "ChanceHall$Chain" "goesTo" "[[I", Cond.fieldLink RX0 16 "ChanceHall$Chain" "weights" "[[I"]
def wsL_lead : List Cond := .codeWith yL_lead cL_lead 6 (some .int) [(0, 12, 15, 19)] :: ((wsL_lead_r1 ++ wsL_lead_r2) ++ wsX80 ++ wsX00 ++ (vx_atS RX8 167 "java/lang/IndexOutOfBoundsException" ["java/lang/RuntimeException", "java/lang/Exception"]).filter goodWord)
def wsL_swap_r1 : List Cond := [Cond.classLink RL 19 "java/lang/IndexOutOfBoundsException", Cond.methodLink RL 21 yX8_swap, Cond.instanceMethod yX8_swap, Cond.selects RX8 yX8_swap yX8_swap, Cond.initialized RX8, Cond.code yX8_swap cX8_swap 4 none, Cond.fieldLink RX8 10 "ChanceHall" "chain" "LChanceHall$Chain;", Cond.methodLink RX8 79 yX8_needState, Cond.instanceMethod yX8_needState, Cond.selects RX8 yX8_needState yX8_needState, Cond.code yX8_needState cX8_needState 2 none, Cond.classLink RX8 163 "java/lang/IndexOutOfBoundsException", Cond.initialized "java/lang/IndexOutOfBoundsException", Cond.fieldLink RX8 171 "ChanceHall$Chain" "states" "I", Cond.methodLink RX8 83 yX8_needSlot, Cond.instanceMethod yX8_needSlot, Cond.selects RX8 yX8_needSlot yX8_needSlot, Cond.code yX8_needSlot cX8_needSlot 2 none, Cond.fieldLink RX8 203 "ChanceHall$Chain" "slots" "I", Cond.methodLink RX8 90 yX0_exchange, Cond.instanceMethod yX0_exchange, Cond.selects RX0 yX0_exchange yX0_exchange, Cond.initialized RX0, Cond.code yX0_exchange cX0_exchange 5 none]
def wsL_swap_r2 : List Cond := [Cond.fieldLink RX0 11 "ChanceHall$Chain" "goesTo" "[[I"]
def wsL_swap : List Cond := .codeWith yL_swap cL_swap 5 (some .int) [(0, 7, 10, 19)] :: ((wsL_swap_r1 ++ wsL_swap_r2) ++ wsX80 ++ wsX00 ++ (vx_atS RX8 167 "java/lang/IndexOutOfBoundsException" ["java/lang/RuntimeException", "java/lang/Exception"]).filter goodWord)
def wsL_pay_r1 : List Cond := [Cond.classLink RL 19 "java/lang/IndexOutOfBoundsException", Cond.classLink RL 13 "java/lang/IllegalArgumentException", Cond.methodLink RL 25 yX8_pay, Cond.instanceMethod yX8_pay, Cond.selects RX8 yX8_pay yX8_pay, Cond.initialized RX8, Cond.code yX8_pay cX8_pay 3 (some .int), Cond.constant RX8 93 (-100000), Cond.constant RX8 94 (100000), Cond.fieldLink RX8 56 "ChanceHall" "games" "LChanceHall$Games;", Cond.methodLink RX8 79 yX8_needState, Cond.instanceMethod yX8_needState, Cond.selects RX8 yX8_needState yX8_needState, Cond.code yX8_needState cX8_needState 2 none, Cond.classLink RX8 163 "java/lang/IndexOutOfBoundsException", Cond.initialized "java/lang/IndexOutOfBoundsException", Cond.fieldLink RX8 10 "ChanceHall" "chain" "LChanceHall$Chain;", Cond.fieldLink RX8 171 "ChanceHall$Chain" "states" "I", Cond.methodLink RX8 71 yX8_needRange, Cond.static yX8_needRange, Cond.code yX8_needRange cX8_needRange 3 none, Cond.classLink RX8 208 "java/lang/IllegalArgumentException", Cond.initialized "java/lang/IllegalArgumentException", Cond.methodLink RX8 95 yX4_setPay]
def wsL_pay_r2 : List Cond := [Cond.instanceMethod yX4_setPay, Cond.selects RX4 yX4_setPay yX4_setPay, Cond.initialized RX4, Cond.code yX4_setPay cX4_setPay 4 (some .int), Cond.fieldLink RX4 15 "ChanceHall$Games" "pays" "[I"]
def wsL_pay : List Cond := .codeWith yL_pay cL_pay 5 (some .int) [(0, 10, 13, 19), (0, 10, 17, 13)] :: ((wsL_pay_r1 ++ wsL_pay_r2) ++ wsX80 ++ wsX00 ++ wsX40 ++ (vx_atS RX8 167 "java/lang/IndexOutOfBoundsException" ["java/lang/RuntimeException", "java/lang/Exception"]).filter goodWord ++ (vx_atS RX8 212 "java/lang/IllegalArgumentException" ["java/lang/RuntimeException", "java/lang/Exception"]).filter goodWord)
def wsL_colour_r1 : List Cond := [Cond.classLink RL 19 "java/lang/IndexOutOfBoundsException", Cond.classLink RL 13 "java/lang/IllegalArgumentException", Cond.methodLink RL 29 yX8_colour, Cond.instanceMethod yX8_colour, Cond.selects RX8 yX8_colour yX8_colour, Cond.initialized RX8, Cond.code yX8_colour cX8_colour 3 (some .int), Cond.fieldLink RX8 63 "ChanceHall" "lumps" "LChanceHall$Lumps;", Cond.methodLink RX8 79 yX8_needState, Cond.instanceMethod yX8_needState, Cond.selects RX8 yX8_needState yX8_needState, Cond.code yX8_needState cX8_needState 2 none, Cond.classLink RX8 163 "java/lang/IndexOutOfBoundsException", Cond.initialized "java/lang/IndexOutOfBoundsException", Cond.fieldLink RX8 10 "ChanceHall" "chain" "LChanceHall$Chain;", Cond.fieldLink RX8 171 "ChanceHall$Chain" "states" "I", Cond.methodLink RX8 71 yX8_needRange, Cond.static yX8_needRange, Cond.code yX8_needRange cX8_needRange 3 none, Cond.classLink RX8 208 "java/lang/IllegalArgumentException", Cond.initialized "java/lang/IllegalArgumentException", Cond.methodLink RX8 99 yX6_setColour, Cond.instanceMethod yX6_setColour, Cond.selects RX6 yX6_setColour yX6_setColour]
def wsL_colour_r2 : List Cond := [Cond.initialized RX6, Cond.code yX6_setColour cX6_setColour 4 (some .int), Cond.fieldLink RX6 15 "ChanceHall$Lumps" "colours" "[I"]
def wsL_colour : List Cond := .codeWith yL_colour cL_colour 5 (some .int) [(0, 10, 13, 19), (0, 10, 17, 13)] :: ((wsL_colour_r1 ++ wsL_colour_r2) ++ wsX80 ++ wsX00 ++ wsX60 ++ (vx_atS RX8 167 "java/lang/IndexOutOfBoundsException" ["java/lang/RuntimeException", "java/lang/Exception"]).filter goodWord ++ (vx_atS RX8 212 "java/lang/IllegalArgumentException" ["java/lang/RuntimeException", "java/lang/Exception"]).filter goodWord)
def wsL_weight : List Cond := .codeWith yL_weight cL_weight 5 (some .int) [(0, 10, 13, 19)] :: ([.classLink RL 19 "java/lang/IndexOutOfBoundsException", .methodLink RL 32 yX8_weight, .instanceMethod yX8_weight, .selects RX8 yX8_weight yX8_weight, .initialized RX8, .code yX8_weight cX8_weight 3 (some .int), .fieldLink RX8 10 "ChanceHall" "chain" "LChanceHall$Chain;", .fieldLink RX8 102 "ChanceHall$Chain" "weights" "[[I", .methodLink RX8 79 yX8_needState, .instanceMethod yX8_needState, .selects RX8 yX8_needState yX8_needState, .code yX8_needState cX8_needState 2 none, .classLink RX8 163 "java/lang/IndexOutOfBoundsException", .initialized "java/lang/IndexOutOfBoundsException", .fieldLink RX8 171 "ChanceHall$Chain" "states" "I"] ++ wsX80 ++ wsX00 ++ (vx_atS RX8 167 "java/lang/IndexOutOfBoundsException" ["java/lang/RuntimeException", "java/lang/Exception"]).filter goodWord)
def wsL_words : List Cond := .codeWith yL_words cL_words 4 (some .int) [(0, 8, 11, 13)] :: ([.classLink RL 13 "java/lang/IllegalArgumentException", .methodLink RL 35 yX8_words, .instanceMethod yX8_words, .selects RX8 yX8_words yX8_words, .initialized RX8, .code yX8_words cX8_words 2 (some .long), .fieldLink RX8 10 "ChanceHall" "chain" "LChanceHall$Chain;", .methodLink RX8 71 yX8_needRange, .static yX8_needRange, .code yX8_needRange cX8_needRange 3 none, .classLink RX8 208 "java/lang/IllegalArgumentException", .initialized "java/lang/IllegalArgumentException", .methodLink RX8 106 yX0_countWords, .instanceMethod yX0_countWords, .selects RX0 yX0_countWords yX0_countWords, .initialized RX0, .code yX0_countWords cX0_countWords 5 (some .long), .fieldLink RX0 23 "ChanceHall$Chain" "slots" "I"] ++ wsX80 ++ wsX00 ++ (vx_atS RX8 212 "java/lang/IllegalArgumentException" ["java/lang/RuntimeException", "java/lang/Exception"]).filter goodWord)
def wsL_law_r1 : List Cond := [Cond.classLink RL 19 "java/lang/IndexOutOfBoundsException", Cond.classLink RL 13 "java/lang/IllegalArgumentException", Cond.methodLink RL 39 yX8_law, Cond.instanceMethod yX8_law, Cond.selects RX8 yX8_law yX8_law, Cond.initialized RX8, Cond.code yX8_law cX8_law 4 (some .long), Cond.fieldLink RX8 21 "ChanceHall" "laws" "LChanceHall$Laws;", Cond.methodLink RX8 79 yX8_needState, Cond.instanceMethod yX8_needState, Cond.selects RX8 yX8_needState yX8_needState, Cond.code yX8_needState cX8_needState 2 none, Cond.classLink RX8 163 "java/lang/IndexOutOfBoundsException", Cond.initialized "java/lang/IndexOutOfBoundsException", Cond.fieldLink RX8 10 "ChanceHall" "chain" "LChanceHall$Chain;", Cond.fieldLink RX8 171 "ChanceHall$Chain" "states" "I", Cond.methodLink RX8 71 yX8_needRange, Cond.static yX8_needRange, Cond.code yX8_needRange cX8_needRange 3 none, Cond.classLink RX8 208 "java/lang/IllegalArgumentException", Cond.initialized "java/lang/IllegalArgumentException", Cond.methodLink RX8 110 yX5_countLaw, Cond.instanceMethod yX5_countLaw, Cond.selects RX5 yX5_countLaw yX5_countLaw]
def wsL_law_r2 : List Cond := [Cond.initialized RX5, Cond.code yX5_countLaw cX5_countLaw 4 (some .long), Cond.fieldLink RX5 17 "ChanceHall$Laws" "rows" "[[J", Cond.methodLink RX5 41 yX5_countLaws, Cond.instanceMethod yX5_countLaws, Cond.selects RX5 yX5_countLaws yX5_countLaws, Cond.code yX5_countLaws cX5_countLaws 4 none, Cond.fieldLink RX5 9 "ChanceHall$Laws" "chain" "LChanceHall$Chain;", Cond.fieldLink RX5 23 "ChanceHall$Chain" "states" "I", Cond.static yX8_pairOf, Cond.code yX8_pairOf cX8_pairOf 2 (some .int), Cond.methodLink RX5 33 yX5_goOneStep, Cond.instanceMethod yX5_goOneStep, Cond.selects RX5 yX5_goOneStep yX5_goOneStep, Cond.code yX5_goOneStep cX5_goOneStep 8 none, Cond.fieldLink RX5 37 "ChanceHall$Chain" "weights" "[[I"]
def wsL_law : List Cond := .codeWith yL_law cL_law 6 (some .int) [(0, 11, 14, 19), (0, 11, 18, 13)] :: ((wsL_law_r1 ++ wsL_law_r2) ++ wsX80 ++ wsX00 ++ wsX50 ++ (vx_atS RX8 167 "java/lang/IndexOutOfBoundsException" ["java/lang/RuntimeException", "java/lang/Exception"]).filter goodWord ++ (vx_atS RX8 212 "java/lang/IllegalArgumentException" ["java/lang/RuntimeException", "java/lang/Exception"]).filter goodWord)
def wsL_lawAnew_r1 : List Cond := [Cond.classLink RL 19 "java/lang/IndexOutOfBoundsException", Cond.classLink RL 13 "java/lang/IllegalArgumentException", Cond.methodLink RL 43 yX8_lawAnew, Cond.instanceMethod yX8_lawAnew, Cond.selects RX8 yX8_lawAnew yX8_lawAnew, Cond.initialized RX8, Cond.code yX8_lawAnew cX8_lawAnew 4 (some .long), Cond.fieldLink RX8 10 "ChanceHall" "chain" "LChanceHall$Chain;", Cond.methodLink RX8 79 yX8_needState, Cond.instanceMethod yX8_needState, Cond.selects RX8 yX8_needState yX8_needState, Cond.code yX8_needState cX8_needState 2 none, Cond.classLink RX8 163 "java/lang/IndexOutOfBoundsException", Cond.initialized "java/lang/IndexOutOfBoundsException", Cond.fieldLink RX8 171 "ChanceHall$Chain" "states" "I", Cond.methodLink RX8 71 yX8_needRange, Cond.static yX8_needRange, Cond.code yX8_needRange cX8_needRange 3 none, Cond.classLink RX8 208 "java/lang/IllegalArgumentException", Cond.initialized "java/lang/IllegalArgumentException", Cond.methodLink RX8 114 yX8_goThroughWords, Cond.static yX8_goThroughWords, Cond.code yX8_goThroughWords cX8_goThroughWords 7 (some .long), Cond.fieldLink RX8 203 "ChanceHall$Chain" "slots" "I"]
def wsL_lawAnew_r2 : List Cond := [Cond.fieldLink RX8 213 "ChanceHall$Chain" "goesTo" "[[I"]
def wsL_lawAnew : List Cond := .codeWith yL_lawAnew cL_lawAnew 6 (some .int) [(0, 11, 14, 19), (0, 11, 18, 13)] :: ((wsL_lawAnew_r1 ++ wsL_lawAnew_r2) ++ wsX80 ++ wsX00 ++ (vx_atS RX8 167 "java/lang/IndexOutOfBoundsException" ["java/lang/RuntimeException", "java/lang/Exception"]).filter goodWord ++ (vx_atS RX8 212 "java/lang/IllegalArgumentException" ["java/lang/RuntimeException", "java/lang/Exception"]).filter goodWord)
def wsL_distance_r1 : List Cond := [Cond.classLink RL 19 "java/lang/IndexOutOfBoundsException", Cond.classLink RL 13 "java/lang/IllegalArgumentException", Cond.methodLink RL 46 yX8_distance, Cond.instanceMethod yX8_distance, Cond.selects RX8 yX8_distance yX8_distance, Cond.initialized RX8, Cond.code yX8_distance cX8_distance 4 (some .long), Cond.fieldLink RX8 21 "ChanceHall" "laws" "LChanceHall$Laws;", Cond.methodLink RX8 79 yX8_needState, Cond.instanceMethod yX8_needState, Cond.selects RX8 yX8_needState yX8_needState, Cond.code yX8_needState cX8_needState 2 none, Cond.classLink RX8 163 "java/lang/IndexOutOfBoundsException", Cond.initialized "java/lang/IndexOutOfBoundsException", Cond.fieldLink RX8 10 "ChanceHall" "chain" "LChanceHall$Chain;", Cond.fieldLink RX8 171 "ChanceHall$Chain" "states" "I", Cond.methodLink RX8 71 yX8_needRange, Cond.static yX8_needRange, Cond.code yX8_needRange cX8_needRange 3 none, Cond.classLink RX8 208 "java/lang/IllegalArgumentException", Cond.initialized "java/lang/IllegalArgumentException", Cond.methodLink RX8 118 yX5_countLaws, Cond.instanceMethod yX5_countLaws, Cond.selects RX5 yX5_countLaws yX5_countLaws]
def wsL_distance_r2 : List Cond := [Cond.initialized RX5, Cond.code yX5_countLaws cX5_countLaws 4 none, Cond.fieldLink RX5 9 "ChanceHall$Laws" "chain" "LChanceHall$Chain;", Cond.fieldLink RX5 23 "ChanceHall$Chain" "states" "I", Cond.fieldLink RX5 17 "ChanceHall$Laws" "rows" "[[J", Cond.static yX8_pairOf, Cond.code yX8_pairOf cX8_pairOf 2 (some .int), Cond.methodLink RX5 33 yX5_goOneStep, Cond.instanceMethod yX5_goOneStep, Cond.selects RX5 yX5_goOneStep yX5_goOneStep, Cond.code yX5_goOneStep cX5_goOneStep 8 none, Cond.fieldLink RX5 37 "ChanceHall$Chain" "weights" "[[I", Cond.methodLink RX8 121 yX5_distanceBehind, Cond.instanceMethod yX5_distanceBehind, Cond.selects RX5 yX5_distanceBehind yX5_distanceBehind, Cond.code yX5_distanceBehind cX5_distanceBehind 9 (some .long), Cond.methodLink RX5 45 Lib.MathLoose.max_long.x, Cond.static Lib.MathLoose.max_long.x, Cond.initialized "java/lang/Math", Cond.code Lib.MathLoose.max_long.x Lib.MathLoose.max_long.code 4 (some .long)]
def wsL_distance : List Cond := .codeWith yL_distance cL_distance 6 (some .int) [(0, 11, 14, 19), (0, 11, 18, 13)] :: ((wsL_distance_r1 ++ wsL_distance_r2) ++ wsX80 ++ wsX00 ++ wsX50 ++ (vx_atS RX8 167 "java/lang/IndexOutOfBoundsException" ["java/lang/RuntimeException", "java/lang/Exception"]).filter goodWord ++ (vx_atS RX8 212 "java/lang/IllegalArgumentException" ["java/lang/RuntimeException", "java/lang/Exception"]).filter goodWord)
def wsL_mixing_r1 : List Cond := [Cond.classLink RL 13 "java/lang/IllegalArgumentException", Cond.methodLink RL 49 yX8_mixing, Cond.instanceMethod yX8_mixing, Cond.selects RX8 yX8_mixing yX8_mixing, Cond.initialized RX8, Cond.code yX8_mixing cX8_mixing 3 (some .int), Cond.fieldLink RX8 21 "ChanceHall" "laws" "LChanceHall$Laws;", Cond.methodLink RX8 71 yX8_needRange, Cond.static yX8_needRange, Cond.code yX8_needRange cX8_needRange 3 none, Cond.classLink RX8 208 "java/lang/IllegalArgumentException", Cond.initialized "java/lang/IllegalArgumentException", Cond.methodLink RX8 118 yX5_countLaws, Cond.instanceMethod yX5_countLaws, Cond.selects RX5 yX5_countLaws yX5_countLaws, Cond.initialized RX5, Cond.code yX5_countLaws cX5_countLaws 4 none, Cond.fieldLink RX5 9 "ChanceHall$Laws" "chain" "LChanceHall$Chain;", Cond.fieldLink RX5 23 "ChanceHall$Chain" "states" "I", Cond.fieldLink RX5 17 "ChanceHall$Laws" "rows" "[[J", Cond.static yX8_pairOf, Cond.code yX8_pairOf cX8_pairOf 2 (some .int), Cond.methodLink RX5 33 yX5_goOneStep, Cond.instanceMethod yX5_goOneStep]
def wsL_mixing_r2 : List Cond := [Cond.selects RX5 yX5_goOneStep yX5_goOneStep, Cond.code yX5_goOneStep cX5_goOneStep 8 none, Cond.fieldLink RX5 37 "ChanceHall$Chain" "weights" "[[I", Cond.methodLink RX8 124 yX5_isMixed, Cond.instanceMethod yX5_isMixed, Cond.selects RX5 yX5_isMixed yX5_isMixed, Cond.code yX5_isMixed cX5_isMixed 7 (some .boolean), Cond.constantLong RX5 55 (1000), Cond.methodLink RX5 51 yX0_countWords, Cond.instanceMethod yX0_countWords, Cond.selects RX0 yX0_countWords yX0_countWords, Cond.initialized RX0, Cond.code yX0_countWords cX0_countWords 5 (some .long), Cond.fieldLink RX0 23 "ChanceHall$Chain" "slots" "I", Cond.methodLink RX5 57 yX5_distanceBehind, Cond.instanceMethod yX5_distanceBehind, Cond.selects RX5 yX5_distanceBehind yX5_distanceBehind, Cond.code yX5_distanceBehind cX5_distanceBehind 9 (some .long), Cond.methodLink RX5 45 Lib.MathLoose.max_long.x, Cond.static Lib.MathLoose.max_long.x, Cond.initialized "java/lang/Math", Cond.code Lib.MathLoose.max_long.x Lib.MathLoose.max_long.code 4 (some .long)]
def wsL_mixing : List Cond := .codeWith yL_mixing cL_mixing 4 (some .int) [(0, 9, 12, 13)] :: ((wsL_mixing_r1 ++ wsL_mixing_r2) ++ wsX80 ++ wsX50 ++ wsX00 ++ (vx_atS RX8 212 "java/lang/IllegalArgumentException" ["java/lang/RuntimeException", "java/lang/Exception"]).filter goodWord)
def wsL_apart_r1 : List Cond := [Cond.classLink RL 19 "java/lang/IndexOutOfBoundsException", Cond.classLink RL 13 "java/lang/IllegalArgumentException", Cond.methodLink RL 53 yX8_apart, Cond.instanceMethod yX8_apart, Cond.selects RX8 yX8_apart yX8_apart, Cond.initialized RX8, Cond.code yX8_apart cX8_apart 4 (some .long), Cond.fieldLink RX8 28 "ChanceHall" "crowds" "LChanceHall$Crowds;", Cond.methodLink RX8 79 yX8_needState, Cond.instanceMethod yX8_needState, Cond.selects RX8 yX8_needState yX8_needState, Cond.code yX8_needState cX8_needState 2 none, Cond.classLink RX8 163 "java/lang/IndexOutOfBoundsException", Cond.initialized "java/lang/IndexOutOfBoundsException", Cond.fieldLink RX8 10 "ChanceHall" "chain" "LChanceHall$Chain;", Cond.fieldLink RX8 171 "ChanceHall$Chain" "states" "I", Cond.methodLink RX8 71 yX8_needRange, Cond.static yX8_needRange, Cond.code yX8_needRange cX8_needRange 3 none, Cond.classLink RX8 208 "java/lang/IllegalArgumentException", Cond.initialized "java/lang/IllegalArgumentException", Cond.methodLink RX8 128 yX2_countApart, Cond.instanceMethod yX2_countApart, Cond.selects RX2 yX2_countApart yX2_countApart]
def wsL_apart_r2 : List Cond := [Cond.initialized RX2, Cond.code yX2_countApart cX2_countApart 7 (some .long), Cond.fieldLink RX2 9 "ChanceHall$Crowds" "chain" "LChanceHall$Chain;", Cond.fieldLink RX2 23 "ChanceHall$Chain" "states" "I", Cond.fieldLink RX2 17 "ChanceHall$Crowds" "apartRows" "[[J", Cond.static yX8_pairOf, Cond.code yX8_pairOf cX8_pairOf 2 (some .int), Cond.methodLink RX2 33 yX2_apartFrom, Cond.instanceMethod yX2_apartFrom, Cond.selects RX2 yX2_apartFrom yX2_apartFrom, Cond.code yX2_apartFrom cX2_apartFrom 7 (some .long), Cond.fieldLink RX2 37 "ChanceHall$Chain" "slots" "I", Cond.fieldLink RX2 40 "ChanceHall$Chain" "goesTo" "[[I"]
def wsL_apart : List Cond := .codeWith yL_apart cL_apart 6 (some .int) [(0, 11, 14, 19), (0, 11, 18, 13)] :: ((wsL_apart_r1 ++ wsL_apart_r2) ++ wsX80 ++ wsX00 ++ wsX20 ++ (vx_atS RX8 167 "java/lang/IndexOutOfBoundsException" ["java/lang/RuntimeException", "java/lang/Exception"]).filter goodWord ++ (vx_atS RX8 212 "java/lang/IllegalArgumentException" ["java/lang/RuntimeException", "java/lang/Exception"]).filter goodWord)
def wsL_together_r1 : List Cond := [Cond.classLink RL 19 "java/lang/IndexOutOfBoundsException", Cond.classLink RL 13 "java/lang/IllegalArgumentException", Cond.methodLink RL 56 yX8_together, Cond.instanceMethod yX8_together, Cond.selects RX8 yX8_together yX8_together, Cond.initialized RX8, Cond.code yX8_together cX8_together 3 (some .long), Cond.fieldLink RX8 28 "ChanceHall" "crowds" "LChanceHall$Crowds;", Cond.methodLink RX8 79 yX8_needState, Cond.instanceMethod yX8_needState, Cond.selects RX8 yX8_needState yX8_needState, Cond.code yX8_needState cX8_needState 2 none, Cond.classLink RX8 163 "java/lang/IndexOutOfBoundsException", Cond.initialized "java/lang/IndexOutOfBoundsException", Cond.fieldLink RX8 10 "ChanceHall" "chain" "LChanceHall$Chain;", Cond.fieldLink RX8 171 "ChanceHall$Chain" "states" "I", Cond.methodLink RX8 71 yX8_needRange, Cond.static yX8_needRange, Cond.code yX8_needRange cX8_needRange 3 none, Cond.classLink RX8 208 "java/lang/IllegalArgumentException", Cond.initialized "java/lang/IllegalArgumentException", Cond.methodLink RX8 131 yX2_countTogether, Cond.instanceMethod yX2_countTogether, Cond.selects RX2 yX2_countTogether yX2_countTogether]
def wsL_together_r2 : List Cond := [Cond.initialized RX2, Cond.code yX2_countTogether cX2_countTogether 6 (some .long), Cond.fieldLink RX2 9 "ChanceHall$Crowds" "chain" "LChanceHall$Chain;", Cond.fieldLink RX2 23 "ChanceHall$Chain" "states" "I", Cond.fieldLink RX2 20 "ChanceHall$Crowds" "setRows" "[[J", Cond.methodLink RX2 44 yJ7_fill_d0a16, Cond.static yJ7_fill_d0a16, Cond.initialized RJ7, Cond.code yJ7_fill_d0a16 cJ7_fill_d0a16 5 none, Cond.methodLink RX2 50 yX2_moveCrowds, Cond.instanceMethod yX2_moveCrowds, Cond.selects RX2 yX2_moveCrowds yX2_moveCrowds, Cond.code yX2_moveCrowds cX2_moveCrowds 6 none, Cond.fieldLink RX2 37 "ChanceHall$Chain" "slots" "I", Cond.methodLink RX2 54 yX2_setBehind, Cond.instanceMethod yX2_setBehind, Cond.selects RX2 yX2_setBehind yX2_setBehind, Cond.code yX2_setBehind cX2_setBehind 5 (some .int), Cond.fieldLink RX2 40 "ChanceHall$Chain" "goesTo" "[[I"]
def wsL_together : List Cond := .codeWith yL_together cL_together 5 (some .int) [(0, 9, 12, 19), (0, 9, 16, 13)] :: ((wsL_together_r1 ++ wsL_together_r2) ++ wsX80 ++ wsX00 ++ wsX20 ++ (vx_atS RX8 167 "java/lang/IndexOutOfBoundsException" ["java/lang/RuntimeException", "java/lang/Exception"]).filter goodWord ++ (vx_atS RX8 212 "java/lang/IllegalArgumentException" ["java/lang/RuntimeException", "java/lang/Exception"]).filter goodWord)
def wsL_hits_r1 : List Cond := [Cond.classLink RL 19 "java/lang/IndexOutOfBoundsException", Cond.classLink RL 13 "java/lang/IllegalArgumentException", Cond.methodLink RL 60 yX8_hits, Cond.instanceMethod yX8_hits, Cond.selects RX8 yX8_hits yX8_hits, Cond.initialized RX8, Cond.code yX8_hits cX8_hits 4 (some .long), Cond.fieldLink RX8 21 "ChanceHall" "laws" "LChanceHall$Laws;", Cond.methodLink RX8 79 yX8_needState, Cond.instanceMethod yX8_needState, Cond.selects RX8 yX8_needState yX8_needState, Cond.code yX8_needState cX8_needState 2 none, Cond.classLink RX8 163 "java/lang/IndexOutOfBoundsException", Cond.initialized "java/lang/IndexOutOfBoundsException", Cond.fieldLink RX8 10 "ChanceHall" "chain" "LChanceHall$Chain;", Cond.fieldLink RX8 171 "ChanceHall$Chain" "states" "I", Cond.methodLink RX8 71 yX8_needRange, Cond.static yX8_needRange, Cond.code yX8_needRange cX8_needRange 3 none, Cond.classLink RX8 208 "java/lang/IllegalArgumentException", Cond.initialized "java/lang/IllegalArgumentException", Cond.methodLink RX8 135 yX5_countHits, Cond.instanceMethod yX5_countHits, Cond.selects RX5 yX5_countHits yX5_countHits]
def wsL_hits_r2 : List Cond := [Cond.initialized RX5, Cond.code yX5_countHits cX5_countHits 6 (some .long), Cond.fieldLink RX5 9 "ChanceHall$Laws" "chain" "LChanceHall$Chain;", Cond.fieldLink RX5 23 "ChanceHall$Chain" "states" "I", Cond.fieldLink RX5 20 "ChanceHall$Laws" "hitRows" "[[J", Cond.methodLink RX5 61 yX5_hitsIn, Cond.instanceMethod yX5_hitsIn, Cond.selects RX5 yX5_hitsIn yX5_hitsIn, Cond.code yX5_hitsIn cX5_hitsIn 4 (some .long), Cond.methodLink RX5 51 yX0_countWords, Cond.instanceMethod yX0_countWords, Cond.selects RX0 yX0_countWords yX0_countWords, Cond.initialized RX0, Cond.code yX0_countWords cX0_countWords 5 (some .long), Cond.fieldLink RX0 23 "ChanceHall$Chain" "slots" "I", Cond.methodLink RX5 64 yX0_sumOverSlots, Cond.instanceMethod yX0_sumOverSlots, Cond.selects RX0 yX0_sumOverSlots yX0_sumOverSlots, Cond.code yX0_sumOverSlots cX0_sumOverSlots 6 (some .long), Cond.fieldLink RX0 19 "ChanceHall$Chain" "states" "I", Cond.fieldLink RX0 16 "ChanceHall$Chain" "weights" "[[I"]
def wsL_hits : List Cond := .codeWith yL_hits cL_hits 6 (some .int) [(0, 11, 14, 19), (0, 11, 18, 13)] :: ((wsL_hits_r1 ++ wsL_hits_r2) ++ wsX80 ++ wsX00 ++ wsX50 ++ (vx_atS RX8 167 "java/lang/IndexOutOfBoundsException" ["java/lang/RuntimeException", "java/lang/Exception"]).filter goodWord ++ (vx_atS RX8 212 "java/lang/IllegalArgumentException" ["java/lang/RuntimeException", "java/lang/Exception"]).filter goodWord)
def wsL_reach_r1 : List Cond := [Cond.classLink RL 19 "java/lang/IndexOutOfBoundsException", Cond.methodLink RL 63 yX8_reach, Cond.instanceMethod yX8_reach, Cond.selects RX8 yX8_reach yX8_reach, Cond.initialized RX8, Cond.code yX8_reach cX8_reach 2 (some .int), Cond.fieldLink RX8 35 "ChanceHall" "classes" "LChanceHall$Classes;", Cond.methodLink RX8 79 yX8_needState, Cond.instanceMethod yX8_needState, Cond.selects RX8 yX8_needState yX8_needState, Cond.code yX8_needState cX8_needState 2 none, Cond.classLink RX8 163 "java/lang/IndexOutOfBoundsException", Cond.initialized "java/lang/IndexOutOfBoundsException", Cond.fieldLink RX8 10 "ChanceHall" "chain" "LChanceHall$Chain;", Cond.fieldLink RX8 171 "ChanceHall$Chain" "states" "I", Cond.methodLink RX8 138 yX1_reachedFrom, Cond.instanceMethod yX1_reachedFrom, Cond.selects RX1 yX1_reachedFrom yX1_reachedFrom, Cond.initialized RX1, Cond.code yX1_reachedFrom cX1_reachedFrom 4 (some .int), Cond.fieldLink RX1 9 "ChanceHall$Classes" "chain" "LChanceHall$Chain;", Cond.fieldLink RX1 15 "ChanceHall$Chain" "states" "I", Cond.methodLink RX1 21 yX1_setOneStepOn, Cond.instanceMethod yX1_setOneStepOn]
def wsL_reach_r2 : List Cond := [Cond.selects RX1 yX1_setOneStepOn yX1_setOneStepOn, Cond.code yX1_setOneStepOn cX1_setOneStepOn 5 (some .int), Cond.fieldLink RX1 25 "ChanceHall$Chain" "weights" "[[I"]
def wsL_reach : List Cond := .codeWith yL_reach cL_reach 4 (some .int) [(0, 9, 12, 19)] :: ((wsL_reach_r1 ++ wsL_reach_r2) ++ wsX80 ++ wsX00 ++ wsX10 ++ (vx_atS RX8 167 "java/lang/IndexOutOfBoundsException" ["java/lang/RuntimeException", "java/lang/Exception"]).filter goodWord)
def wsL_period_r1 : List Cond := [Cond.classLink RL 19 "java/lang/IndexOutOfBoundsException", Cond.methodLink RL 66 yX8_period, Cond.instanceMethod yX8_period, Cond.selects RX8 yX8_period yX8_period, Cond.initialized RX8, Cond.code yX8_period cX8_period 2 (some .int), Cond.fieldLink RX8 35 "ChanceHall" "classes" "LChanceHall$Classes;", Cond.methodLink RX8 79 yX8_needState, Cond.instanceMethod yX8_needState, Cond.selects RX8 yX8_needState yX8_needState, Cond.code yX8_needState cX8_needState 2 none, Cond.classLink RX8 163 "java/lang/IndexOutOfBoundsException", Cond.initialized "java/lang/IndexOutOfBoundsException", Cond.fieldLink RX8 10 "ChanceHall" "chain" "LChanceHall$Chain;", Cond.fieldLink RX8 171 "ChanceHall$Chain" "states" "I", Cond.methodLink RX8 146 yX1_periodOf, Cond.instanceMethod yX1_periodOf, Cond.selects RX1 yX1_periodOf yX1_periodOf, Cond.initialized RX1, Cond.code yX1_periodOf cX1_periodOf 5 (some .int), Cond.methodLink RX1 21 yX1_setOneStepOn, Cond.instanceMethod yX1_setOneStepOn, Cond.selects RX1 yX1_setOneStepOn yX1_setOneStepOn, Cond.code yX1_setOneStepOn cX1_setOneStepOn 5 (some .int)]
def wsL_period_r2 : List Cond := [Cond.fieldLink RX1 9 "ChanceHall$Classes" "chain" "LChanceHall$Chain;", Cond.fieldLink RX1 15 "ChanceHall$Chain" "states" "I", Cond.fieldLink RX1 25 "ChanceHall$Chain" "weights" "[[I", Cond.methodLink RX1 36 yX1_greatestDivisor, Cond.static yX1_greatestDivisor, Cond.code yX1_greatestDivisor cX1_greatestDivisor 2 (some .int), Cond.methodLink RX1 39 yX1_dividesAll, Cond.static yX1_dividesAll, Cond.code yX1_dividesAll cX1_dividesAll 3 (some .boolean)]
def wsL_period : List Cond := .codeWith yL_period cL_period 4 (some .int) [(0, 9, 12, 19)] :: ((wsL_period_r1 ++ wsL_period_r2) ++ wsX80 ++ wsX00 ++ wsX10 ++ (vx_atS RX8 167 "java/lang/IndexOutOfBoundsException" ["java/lang/RuntimeException", "java/lang/Exception"]).filter goodWord)
def wsL_rest_r1 : List Cond := [Cond.classLink RL 19 "java/lang/IndexOutOfBoundsException", Cond.methodLink RL 69 yX8_rest, Cond.instanceMethod yX8_rest, Cond.selects RX8 yX8_rest yX8_rest, Cond.initialized RX8, Cond.code yX8_rest cX8_rest 2 (some .long), Cond.fieldLink RX8 42 "ChanceHall" "trees" "LChanceHall$Trees;", Cond.methodLink RX8 149 yX7_wholeRest, Cond.instanceMethod yX7_wholeRest, Cond.selects RX7 yX7_wholeRest yX7_wholeRest, Cond.initialized RX7, Cond.code yX7_wholeRest cX7_wholeRest 4 (some .long), Cond.fieldLink RX7 9 "ChanceHall$Trees" "chain" "LChanceHall$Chain;", Cond.fieldLink RX7 26 "ChanceHall$Chain" "states" "I", Cond.fieldLink RX7 15 "ChanceHall$Trees" "rests" "[J", Cond.methodLink RX7 36 yX7_countRests, Cond.instanceMethod yX7_countRests, Cond.selects RX7 yX7_countRests yX7_countRests, Cond.code yX7_countRests cX7_countRests 2 none, Cond.methodLink RX7 32 yX7_restOf, Cond.instanceMethod yX7_restOf, Cond.selects RX7 yX7_restOf yX7_restOf, Cond.code yX7_restOf cX7_restOf 4 (some .long), Cond.fieldLink RX7 23 "ChanceHall$Trees" "minors" "[J"]
def wsL_rest_r2 : List Cond := [Cond.methodLink RX7 39 yX7_listOthers, Cond.instanceMethod yX7_listOthers, Cond.selects RX7 yX7_listOthers yX7_listOthers, Cond.code yX7_listOthers cX7_listOthers 3 none, Cond.fieldLink RX7 19 "ChanceHall$Trees" "others" "[I", Cond.methodLink RX7 43 yX7_minorOf, Cond.instanceMethod yX7_minorOf, Cond.selects RX7 yX7_minorOf yX7_minorOf, Cond.code yX7_minorOf cX7_minorOf 8 (some .long), Cond.methodLink RX7 47 yJ6_bitCount_0f7a4, Cond.static yJ6_bitCount_0f7a4, Cond.initialized RJ6, Cond.code yJ6_bitCount_0f7a4 cJ6_bitCount_0f7a4 1 (some .int), Cond.constant RJ6 265 (1431655765), Cond.constant RJ6 266 (858993459), Cond.constant RJ6 267 (252645135), Cond.methodLink RX7 53 yX7_entry, Cond.instanceMethod yX7_entry, Cond.selects RX7 yX7_entry yX7_entry, Cond.code yX7_entry cX7_entry 3 (some .long), Cond.fieldLink RX7 56 "ChanceHall$Chain" "slots" "I", Cond.fieldLink RX7 59 "ChanceHall$Chain" "weights" "[[I", Cond.methodLink RX8 79 yX8_needState, Cond.instanceMethod yX8_needState]
def wsL_rest_r3 : List Cond := [Cond.selects RX8 yX8_needState yX8_needState, Cond.code yX8_needState cX8_needState 2 none, Cond.classLink RX8 163 "java/lang/IndexOutOfBoundsException", Cond.initialized "java/lang/IndexOutOfBoundsException", Cond.fieldLink RX8 10 "ChanceHall" "chain" "LChanceHall$Chain;", Cond.fieldLink RX8 171 "ChanceHall$Chain" "states" "I", Cond.methodLink RX8 153 yX7_restOf]
def wsL_rest : List Cond := .codeWith yL_rest cL_rest 4 (some .int) [(0, 8, 11, 19)] :: ((wsL_rest_r1 ++ (wsL_rest_r2 ++ wsL_rest_r3)) ++ wsX80 ++ wsX70 ++ wsX00 ++ (vx_atS RX8 167 "java/lang/IndexOutOfBoundsException" ["java/lang/RuntimeException", "java/lang/Exception"]).filter goodWord)
def wsL_share_r1 : List Cond := [Cond.classLink RL 19 "java/lang/IndexOutOfBoundsException", Cond.classLink RL 76 "java/lang/IllegalStateException", Cond.methodLink RL 72 yX8_share, Cond.instanceMethod yX8_share, Cond.selects RX8 yX8_share yX8_share, Cond.initialized RX8, Cond.code yX8_share cX8_share 4 (some .float), Cond.classLink RX8 156 "java/lang/IllegalStateException", Cond.initialized "java/lang/IllegalStateException", Cond.fieldLink RX8 42 "ChanceHall" "trees" "LChanceHall$Trees;", Cond.methodLink RX8 79 yX8_needState, Cond.instanceMethod yX8_needState, Cond.selects RX8 yX8_needState yX8_needState, Cond.code yX8_needState cX8_needState 2 none, Cond.classLink RX8 163 "java/lang/IndexOutOfBoundsException", Cond.initialized "java/lang/IndexOutOfBoundsException", Cond.fieldLink RX8 10 "ChanceHall" "chain" "LChanceHall$Chain;", Cond.fieldLink RX8 171 "ChanceHall$Chain" "states" "I", Cond.methodLink RX8 149 yX7_wholeRest, Cond.instanceMethod yX7_wholeRest, Cond.selects RX7 yX7_wholeRest yX7_wholeRest, Cond.initialized RX7, Cond.code yX7_wholeRest cX7_wholeRest 4 (some .long), Cond.fieldLink RX7 9 "ChanceHall$Trees" "chain" "LChanceHall$Chain;"]
def wsL_share_r2 : List Cond := [Cond.fieldLink RX7 26 "ChanceHall$Chain" "states" "I", Cond.fieldLink RX7 15 "ChanceHall$Trees" "rests" "[J", Cond.methodLink RX7 36 yX7_countRests, Cond.instanceMethod yX7_countRests, Cond.selects RX7 yX7_countRests yX7_countRests, Cond.code yX7_countRests cX7_countRests 2 none, Cond.methodLink RX7 32 yX7_restOf, Cond.instanceMethod yX7_restOf, Cond.selects RX7 yX7_restOf yX7_restOf, Cond.code yX7_restOf cX7_restOf 4 (some .long), Cond.fieldLink RX7 23 "ChanceHall$Trees" "minors" "[J", Cond.methodLink RX7 39 yX7_listOthers, Cond.instanceMethod yX7_listOthers, Cond.selects RX7 yX7_listOthers yX7_listOthers, Cond.code yX7_listOthers cX7_listOthers 3 none, Cond.fieldLink RX7 19 "ChanceHall$Trees" "others" "[I", Cond.methodLink RX7 43 yX7_minorOf, Cond.instanceMethod yX7_minorOf, Cond.selects RX7 yX7_minorOf yX7_minorOf, Cond.code yX7_minorOf cX7_minorOf 8 (some .long), Cond.methodLink RX7 47 yJ6_bitCount_0f7a4, Cond.static yJ6_bitCount_0f7a4, Cond.initialized RJ6, Cond.code yJ6_bitCount_0f7a4 cJ6_bitCount_0f7a4 1 (some .int)]
def wsL_share_r3 : List Cond := [Cond.constant RJ6 265 (1431655765), Cond.constant RJ6 266 (858993459), Cond.constant RJ6 267 (252645135), Cond.methodLink RX7 53 yX7_entry, Cond.instanceMethod yX7_entry, Cond.selects RX7 yX7_entry yX7_entry, Cond.code yX7_entry cX7_entry 3 (some .long), Cond.fieldLink RX7 56 "ChanceHall$Chain" "slots" "I", Cond.fieldLink RX7 59 "ChanceHall$Chain" "weights" "[[I", Cond.methodLink RX8 153 yX7_restOf]
def wsL_share : List Cond := .codeWith yL_share cL_share 4 (some .int) [(0, 9, 12, 19), (0, 9, 15, 76)] :: ((wsL_share_r1 ++ (wsL_share_r2 ++ wsL_share_r3)) ++ wsX80 ++ wsX00 ++ wsX70 ++ (vx_atS RX8 160 "java/lang/IllegalStateException" ["java/lang/RuntimeException", "java/lang/Exception"]).filter goodWord ++ (vx_atS RX8 167 "java/lang/IndexOutOfBoundsException" ["java/lang/RuntimeException", "java/lang/Exception"]).filter goodWord)
def wsL_ranked_r1 : List Cond := [Cond.classLink RL 19 "java/lang/IndexOutOfBoundsException", Cond.methodLink RL 78 yX8_ranked, Cond.instanceMethod yX8_ranked, Cond.selects RX8 yX8_ranked yX8_ranked, Cond.initialized RX8, Cond.code yX8_ranked cX8_ranked 3 (some .int), Cond.classLink RX8 163 "java/lang/IndexOutOfBoundsException", Cond.initialized "java/lang/IndexOutOfBoundsException", Cond.fieldLink RX8 42 "ChanceHall" "trees" "LChanceHall$Trees;", Cond.fieldLink RX8 10 "ChanceHall" "chain" "LChanceHall$Chain;", Cond.fieldLink RX8 171 "ChanceHall$Chain" "states" "I", Cond.methodLink RX8 168 yX7_countRests, Cond.instanceMethod yX7_countRests, Cond.selects RX7 yX7_countRests yX7_countRests, Cond.initialized RX7, Cond.code yX7_countRests cX7_countRests 2 none, Cond.fieldLink RX7 9 "ChanceHall$Trees" "chain" "LChanceHall$Chain;", Cond.fieldLink RX7 26 "ChanceHall$Chain" "states" "I", Cond.fieldLink RX7 15 "ChanceHall$Trees" "rests" "[J", Cond.methodLink RX7 32 yX7_restOf, Cond.instanceMethod yX7_restOf, Cond.selects RX7 yX7_restOf yX7_restOf, Cond.code yX7_restOf cX7_restOf 4 (some .long), Cond.fieldLink RX7 23 "ChanceHall$Trees" "minors" "[J"]
def wsL_ranked_r2 : List Cond := [Cond.methodLink RX7 39 yX7_listOthers, Cond.instanceMethod yX7_listOthers, Cond.selects RX7 yX7_listOthers yX7_listOthers, Cond.code yX7_listOthers cX7_listOthers 3 none, Cond.fieldLink RX7 19 "ChanceHall$Trees" "others" "[I", Cond.methodLink RX7 43 yX7_minorOf, Cond.instanceMethod yX7_minorOf, Cond.selects RX7 yX7_minorOf yX7_minorOf, Cond.code yX7_minorOf cX7_minorOf 8 (some .long), Cond.methodLink RX7 47 yJ6_bitCount_0f7a4, Cond.static yJ6_bitCount_0f7a4, Cond.initialized RJ6, Cond.code yJ6_bitCount_0f7a4 cJ6_bitCount_0f7a4 1 (some .int), Cond.constant RJ6 265 (1431655765), Cond.constant RJ6 266 (858993459), Cond.constant RJ6 267 (252645135), Cond.methodLink RX7 53 yX7_entry, Cond.instanceMethod yX7_entry, Cond.selects RX7 yX7_entry yX7_entry, Cond.code yX7_entry cX7_entry 3 (some .long), Cond.fieldLink RX7 56 "ChanceHall$Chain" "slots" "I", Cond.fieldLink RX7 59 "ChanceHall$Chain" "weights" "[[I", Cond.methodLink RX8 175 yX7_countAhead, Cond.instanceMethod yX7_countAhead]
def wsL_ranked_r3 : List Cond := [Cond.selects RX7 yX7_countAhead yX7_countAhead, Cond.code yX7_countAhead cX7_countAhead 4 (some .int)]
def wsL_ranked : List Cond := .codeWith yL_ranked cL_ranked 4 (some .int) [(0, 9, 12, 19)] :: ((wsL_ranked_r1 ++ (wsL_ranked_r2 ++ wsL_ranked_r3)) ++ wsX80 ++ wsX00 ++ wsX70 ++ (vx_atS RX8 167 "java/lang/IndexOutOfBoundsException" ["java/lang/RuntimeException", "java/lang/Exception"]).filter goodWord)
def wsL_walk_r1 : List Cond := [Cond.classLink RL 19 "java/lang/IndexOutOfBoundsException", Cond.classLink RL 13 "java/lang/IllegalArgumentException", Cond.methodLink RL 81 yX8_walk, Cond.instanceMethod yX8_walk, Cond.selects RX8 yX8_walk yX8_walk, Cond.initialized RX8, Cond.code yX8_walk cX8_walk 4 (some .int), Cond.constant RX8 178 (65520), Cond.fieldLink RX8 49 "ChanceHall" "draws" "LChanceHall$Draws;", Cond.methodLink RX8 79 yX8_needState, Cond.instanceMethod yX8_needState, Cond.selects RX8 yX8_needState yX8_needState, Cond.code yX8_needState cX8_needState 2 none, Cond.classLink RX8 163 "java/lang/IndexOutOfBoundsException", Cond.initialized "java/lang/IndexOutOfBoundsException", Cond.fieldLink RX8 10 "ChanceHall" "chain" "LChanceHall$Chain;", Cond.fieldLink RX8 171 "ChanceHall$Chain" "states" "I", Cond.methodLink RX8 71 yX8_needRange, Cond.static yX8_needRange, Cond.code yX8_needRange cX8_needRange 3 none, Cond.classLink RX8 208 "java/lang/IllegalArgumentException", Cond.initialized "java/lang/IllegalArgumentException", Cond.methodLink RX8 179 yX3_walkOn, Cond.instanceMethod yX3_walkOn]
def wsL_walk_r2 : List Cond := [Cond.selects RX3 yX3_walkOn yX3_walkOn, Cond.initialized RX3, Cond.code yX3_walkOn cX3_walkOn 7 (some .int), Cond.fieldLink RX3 9 "ChanceHall$Draws" "chain" "LChanceHall$Chain;", Cond.fieldLink RX3 26 "ChanceHall$Chain" "goesTo" "[[I", Cond.methodLink RX3 22 yX3_seedBehind, Cond.static yX3_seedBehind, Cond.code yX3_seedBehind cX3_seedBehind 1 (some .int), Cond.constant RX3 56 (65521), Cond.methodLink RX3 32 yX3_slotOf, Cond.instanceMethod yX3_slotOf, Cond.selects RX3 yX3_slotOf yX3_slotOf, Cond.code yX3_slotOf cX3_slotOf 2 (some .int), Cond.fieldLink RX3 53 "ChanceHall$Chain" "slots" "I"]
def wsL_walk : List Cond := .codeWith yL_walk cL_walk 6 (some .int) [(0, 12, 15, 19), (0, 12, 19, 13)] :: ((wsL_walk_r1 ++ wsL_walk_r2) ++ wsX80 ++ wsX00 ++ wsX30 ++ (vx_atS RX8 167 "java/lang/IndexOutOfBoundsException" ["java/lang/RuntimeException", "java/lang/Exception"]).filter goodWord ++ (vx_atS RX8 212 "java/lang/IllegalArgumentException" ["java/lang/RuntimeException", "java/lang/Exception"]).filter goodWord)
def wsL_draw_r1 : List Cond := [Cond.classLink RL 13 "java/lang/IllegalArgumentException", Cond.methodLink RL 84 yX8_draw, Cond.instanceMethod yX8_draw, Cond.selects RX8 yX8_draw yX8_draw, Cond.initialized RX8, Cond.code yX8_draw cX8_draw 2 (some .int), Cond.constant RX8 178 (65520), Cond.fieldLink RX8 49 "ChanceHall" "draws" "LChanceHall$Draws;", Cond.methodLink RX8 71 yX8_needRange, Cond.static yX8_needRange, Cond.code yX8_needRange cX8_needRange 3 none, Cond.classLink RX8 208 "java/lang/IllegalArgumentException", Cond.initialized "java/lang/IllegalArgumentException", Cond.methodLink RX8 182 yX3_drawFromPast, Cond.instanceMethod yX3_drawFromPast, Cond.selects RX3 yX3_drawFromPast yX3_drawFromPast, Cond.initialized RX3, Cond.code yX3_drawFromPast cX3_drawFromPast 4 (some .int), Cond.fieldLink RX3 9 "ChanceHall$Draws" "chain" "LChanceHall$Chain;", Cond.fieldLink RX3 35 "ChanceHall$Chain" "states" "I", Cond.fieldLink RX3 15 "ChanceHall$Draws" "ends" "[I", Cond.methodLink RX3 39 yX3_isTogether, Cond.instanceMethod yX3_isTogether, Cond.selects RX3 yX3_isTogether yX3_isTogether]
def wsL_draw_r2 : List Cond := [Cond.code yX3_isTogether cX3_isTogether 2 (some .boolean), Cond.methodLink RX3 22 yX3_seedBehind, Cond.static yX3_seedBehind, Cond.code yX3_seedBehind cX3_seedBehind 1 (some .int), Cond.constant RX3 56 (65521), Cond.methodLink RX3 32 yX3_slotOf, Cond.instanceMethod yX3_slotOf, Cond.selects RX3 yX3_slotOf yX3_slotOf, Cond.code yX3_slotOf cX3_slotOf 2 (some .int), Cond.fieldLink RX3 53 "ChanceHall$Chain" "slots" "I", Cond.methodLink RX3 43 yX3_putAhead, Cond.instanceMethod yX3_putAhead, Cond.selects RX3 yX3_putAhead yX3_putAhead, Cond.code yX3_putAhead cX3_putAhead 3 none, Cond.fieldLink RX3 19 "ChanceHall$Draws" "endsBefore" "[I", Cond.methodLink RX3 47 arraycopyName, Cond.native arraycopyName, Cond.static arraycopyName, Cond.initialized "java/lang/System", Cond.fieldLink RX3 26 "ChanceHall$Chain" "goesTo" "[[I"]
def wsL_draw : List Cond := .codeWith yL_draw cL_draw 4 (some .int) [(0, 9, 12, 13)] :: ((wsL_draw_r1 ++ wsL_draw_r2) ++ wsX80 ++ wsX30 ++ wsX00 ++ (vx_atS RX8 212 "java/lang/IllegalArgumentException" ["java/lang/RuntimeException", "java/lang/Exception"]).filter goodWord)
def wsL_drift_r1 : List Cond := [Cond.classLink RL 19 "java/lang/IndexOutOfBoundsException", Cond.methodLink RL 87 yX8_drift, Cond.instanceMethod yX8_drift, Cond.selects RX8 yX8_drift yX8_drift, Cond.initialized RX8, Cond.code yX8_drift cX8_drift 2 (some .long), Cond.fieldLink RX8 56 "ChanceHall" "games" "LChanceHall$Games;", Cond.methodLink RX8 79 yX8_needState, Cond.instanceMethod yX8_needState, Cond.selects RX8 yX8_needState yX8_needState, Cond.code yX8_needState cX8_needState 2 none, Cond.classLink RX8 163 "java/lang/IndexOutOfBoundsException", Cond.initialized "java/lang/IndexOutOfBoundsException", Cond.fieldLink RX8 10 "ChanceHall" "chain" "LChanceHall$Chain;", Cond.fieldLink RX8 171 "ChanceHall$Chain" "states" "I", Cond.methodLink RX8 185 yX4_driftOf, Cond.instanceMethod yX4_driftOf, Cond.selects RX4 yX4_driftOf yX4_driftOf, Cond.initialized RX4, Cond.code yX4_driftOf cX4_driftOf 5 (some .long), Cond.fieldLink RX4 9 "ChanceHall$Games" "chain" "LChanceHall$Chain;", Cond.fieldLink RX4 30 "ChanceHall$Chain" "states" "I", Cond.fieldLink RX4 36 "ChanceHall$Chain" "weights" "[[I", Cond.fieldLink RX4 15 "ChanceHall$Games" "pays" "[I"]
def wsL_drift_r2 : List Cond := [Cond.fieldLink RX4 40 "ChanceHall$Chain" "slots" "I"]
def wsL_drift : List Cond := .codeWith yL_drift cL_drift 4 (some .int) [(0, 8, 11, 19)] :: ((wsL_drift_r1 ++ wsL_drift_r2) ++ wsX80 ++ wsX00 ++ wsX40 ++ (vx_atS RX8 167 "java/lang/IndexOutOfBoundsException" ["java/lang/RuntimeException", "java/lang/Exception"]).filter goodWord)
def wsL_best_r1 : List Cond := [Cond.classLink RL 19 "java/lang/IndexOutOfBoundsException", Cond.classLink RL 13 "java/lang/IllegalArgumentException", Cond.methodLink RL 90 yX8_best, Cond.instanceMethod yX8_best, Cond.selects RX8 yX8_best yX8_best, Cond.initialized RX8, Cond.code yX8_best cX8_best 3 (some .long), Cond.fieldLink RX8 56 "ChanceHall" "games" "LChanceHall$Games;", Cond.methodLink RX8 79 yX8_needState, Cond.instanceMethod yX8_needState, Cond.selects RX8 yX8_needState yX8_needState, Cond.code yX8_needState cX8_needState 2 none, Cond.classLink RX8 163 "java/lang/IndexOutOfBoundsException", Cond.initialized "java/lang/IndexOutOfBoundsException", Cond.fieldLink RX8 10 "ChanceHall" "chain" "LChanceHall$Chain;", Cond.fieldLink RX8 171 "ChanceHall$Chain" "states" "I", Cond.methodLink RX8 71 yX8_needRange, Cond.static yX8_needRange, Cond.code yX8_needRange cX8_needRange 3 none, Cond.classLink RX8 208 "java/lang/IllegalArgumentException", Cond.initialized "java/lang/IllegalArgumentException", Cond.methodLink RX8 188 yX4_bestOf, Cond.instanceMethod yX4_bestOf, Cond.selects RX4 yX4_bestOf yX4_bestOf]
def wsL_best_r2 : List Cond := [Cond.initialized RX4, Cond.code yX4_bestOf cX4_bestOf 3 (some .long), Cond.fieldLink RX4 21 "ChanceHall$Games" "bests" "[[J", Cond.methodLink RX4 43 yX4_countBests, Cond.instanceMethod yX4_countBests, Cond.selects RX4 yX4_countBests yX4_countBests, Cond.code yX4_countBests cX4_countBests 4 none, Cond.fieldLink RX4 9 "ChanceHall$Games" "chain" "LChanceHall$Chain;", Cond.fieldLink RX4 30 "ChanceHall$Chain" "states" "I", Cond.methodLink RX4 54 Lib.MathLoose.max_long.x, Cond.static Lib.MathLoose.max_long.x, Cond.initialized "java/lang/Math", Cond.code Lib.MathLoose.max_long.x Lib.MathLoose.max_long.code 4 (some .long), Cond.methodLink RX4 47 yX4_byStopping, Cond.instanceMethod yX4_byStopping, Cond.selects RX4 yX4_byStopping yX4_byStopping, Cond.code yX4_byStopping cX4_byStopping 3 (some .long), Cond.fieldLink RX4 15 "ChanceHall$Games" "pays" "[I", Cond.methodLink RX4 60 yX0_countWords, Cond.instanceMethod yX0_countWords, Cond.selects RX0 yX0_countWords yX0_countWords, Cond.initialized RX0, Cond.code yX0_countWords cX0_countWords 5 (some .long), Cond.fieldLink RX0 23 "ChanceHall$Chain" "slots" "I"]
def wsL_best_r3 : List Cond := [Cond.methodLink RX4 51 yX4_byGoingOn, Cond.instanceMethod yX4_byGoingOn, Cond.selects RX4 yX4_byGoingOn yX4_byGoingOn, Cond.code yX4_byGoingOn cX4_byGoingOn 3 (some .long), Cond.methodLink RX4 64 yX0_sumOverSlots, Cond.instanceMethod yX0_sumOverSlots, Cond.selects RX0 yX0_sumOverSlots yX0_sumOverSlots, Cond.code yX0_sumOverSlots cX0_sumOverSlots 6 (some .long), Cond.fieldLink RX0 19 "ChanceHall$Chain" "states" "I", Cond.fieldLink RX0 16 "ChanceHall$Chain" "weights" "[[I"]
def wsL_best : List Cond := .codeWith yL_best cL_best 5 (some .int) [(0, 9, 12, 19), (0, 9, 16, 13)] :: ((wsL_best_r1 ++ (wsL_best_r2 ++ wsL_best_r3)) ++ wsX80 ++ wsX00 ++ wsX40 ++ (vx_atS RX8 167 "java/lang/IndexOutOfBoundsException" ["java/lang/RuntimeException", "java/lang/Exception"]).filter goodWord ++ (vx_atS RX8 212 "java/lang/IllegalArgumentException" ["java/lang/RuntimeException", "java/lang/Exception"]).filter goodWord)
def wsL_stops_r1 : List Cond := [Cond.classLink RL 19 "java/lang/IndexOutOfBoundsException", Cond.classLink RL 13 "java/lang/IllegalArgumentException", Cond.methodLink RL 93 yX8_stops, Cond.instanceMethod yX8_stops, Cond.selects RX8 yX8_stops yX8_stops, Cond.initialized RX8, Cond.code yX8_stops cX8_stops 3 (some .boolean), Cond.fieldLink RX8 56 "ChanceHall" "games" "LChanceHall$Games;", Cond.methodLink RX8 79 yX8_needState, Cond.instanceMethod yX8_needState, Cond.selects RX8 yX8_needState yX8_needState, Cond.code yX8_needState cX8_needState 2 none, Cond.classLink RX8 163 "java/lang/IndexOutOfBoundsException", Cond.initialized "java/lang/IndexOutOfBoundsException", Cond.fieldLink RX8 10 "ChanceHall" "chain" "LChanceHall$Chain;", Cond.fieldLink RX8 171 "ChanceHall$Chain" "states" "I", Cond.methodLink RX8 71 yX8_needRange, Cond.static yX8_needRange, Cond.code yX8_needRange cX8_needRange 3 none, Cond.classLink RX8 208 "java/lang/IllegalArgumentException", Cond.initialized "java/lang/IllegalArgumentException", Cond.methodLink RX8 191 yX4_isBestToStop, Cond.instanceMethod yX4_isBestToStop, Cond.selects RX4 yX4_isBestToStop yX4_isBestToStop]
def wsL_stops_r2 : List Cond := [Cond.initialized RX4, Cond.code yX4_isBestToStop cX4_isBestToStop 3 (some .boolean), Cond.methodLink RX4 43 yX4_countBests, Cond.instanceMethod yX4_countBests, Cond.selects RX4 yX4_countBests yX4_countBests, Cond.code yX4_countBests cX4_countBests 4 none, Cond.fieldLink RX4 9 "ChanceHall$Games" "chain" "LChanceHall$Chain;", Cond.fieldLink RX4 30 "ChanceHall$Chain" "states" "I", Cond.fieldLink RX4 21 "ChanceHall$Games" "bests" "[[J", Cond.methodLink RX4 54 Lib.MathLoose.max_long.x, Cond.static Lib.MathLoose.max_long.x, Cond.initialized "java/lang/Math", Cond.code Lib.MathLoose.max_long.x Lib.MathLoose.max_long.code 4 (some .long), Cond.methodLink RX4 47 yX4_byStopping, Cond.instanceMethod yX4_byStopping, Cond.selects RX4 yX4_byStopping yX4_byStopping, Cond.code yX4_byStopping cX4_byStopping 3 (some .long), Cond.fieldLink RX4 15 "ChanceHall$Games" "pays" "[I", Cond.methodLink RX4 60 yX0_countWords, Cond.instanceMethod yX0_countWords, Cond.selects RX0 yX0_countWords yX0_countWords, Cond.initialized RX0, Cond.code yX0_countWords cX0_countWords 5 (some .long), Cond.fieldLink RX0 23 "ChanceHall$Chain" "slots" "I"]
def wsL_stops_r3 : List Cond := [Cond.methodLink RX4 51 yX4_byGoingOn, Cond.instanceMethod yX4_byGoingOn, Cond.selects RX4 yX4_byGoingOn yX4_byGoingOn, Cond.code yX4_byGoingOn cX4_byGoingOn 3 (some .long), Cond.methodLink RX4 64 yX0_sumOverSlots, Cond.instanceMethod yX0_sumOverSlots, Cond.selects RX0 yX0_sumOverSlots yX0_sumOverSlots, Cond.code yX0_sumOverSlots cX0_sumOverSlots 6 (some .long), Cond.fieldLink RX0 19 "ChanceHall$Chain" "states" "I", Cond.fieldLink RX0 16 "ChanceHall$Chain" "weights" "[[I"]
def wsL_stops : List Cond := .codeWith yL_stops cL_stops 5 (some .int) [(0, 17, 20, 19), (0, 17, 24, 13)] :: ((wsL_stops_r1 ++ (wsL_stops_r2 ++ wsL_stops_r3)) ++ wsX80 ++ wsX00 ++ wsX40 ++ (vx_atS RX8 167 "java/lang/IndexOutOfBoundsException" ["java/lang/RuntimeException", "java/lang/Exception"]).filter goodWord ++ (vx_atS RX8 212 "java/lang/IllegalArgumentException" ["java/lang/RuntimeException", "java/lang/Exception"]).filter goodWord)
def wsL_law_0_r1 : List Cond := [Cond.classLink RL 8 RX8, Cond.instantiable RX8 8, Cond.initialized RX8, Cond.classLink RL 98 RX9, Cond.instantiable RX9 13, Cond.initialized RX9, Cond.arrayClass .long, Cond.arrayClass .double, Cond.methodLink RL 97 yX8_init, Cond.instanceMethod yX8_init, Cond.code yX8_init cX8_init 1 none, Cond.methodLink RX8 1 objectInit, Cond.instanceMethod objectInit, Cond.code objectInit ⟨#[0xb1]⟩ 1 none, Cond.classLink RX8 7 RX0, Cond.instantiable RX0 4, Cond.initialized RX0, Cond.fieldLink RX8 10 "ChanceHall" "chain" "LChanceHall$Chain;", Cond.classLink RX8 16 RX5, Cond.instantiable RX5 3, Cond.initialized RX5, Cond.fieldLink RX8 21 "ChanceHall" "laws" "LChanceHall$Laws;", Cond.classLink RX8 25 RX2, Cond.instantiable RX2 3]
def wsL_law_0_r2 : List Cond := [Cond.initialized RX2, Cond.fieldLink RX8 28 "ChanceHall" "crowds" "LChanceHall$Crowds;", Cond.classLink RX8 32 RX1, Cond.instantiable RX1 1, Cond.initialized RX1, Cond.fieldLink RX8 35 "ChanceHall" "classes" "LChanceHall$Classes;", Cond.classLink RX8 39 RX7, Cond.instantiable RX7 4, Cond.initialized RX7, Cond.fieldLink RX8 42 "ChanceHall" "trees" "LChanceHall$Trees;", Cond.classLink RX8 46 RX3, Cond.instantiable RX3 3, Cond.initialized RX3, Cond.fieldLink RX8 49 "ChanceHall" "draws" "LChanceHall$Draws;", Cond.classLink RX8 53 RX4, Cond.instantiable RX4 3, Cond.initialized RX4, Cond.fieldLink RX8 56 "ChanceHall" "games" "LChanceHall$Games;", Cond.classLink RX8 60 RX6, Cond.instantiable RX6 2, Cond.initialized RX6, Cond.fieldLink RX8 63 "ChanceHall" "lumps" "LChanceHall$Lumps;", Cond.methodLink RX8 9 yX0_init, Cond.instanceMethod yX0_init]
def wsL_law_0_r3 : List Cond := [Cond.code yX0_init cX0_init 1 none, Cond.methodLink RX0 3 objectInit, Cond.classLink RX0 9 "[[I", Cond.arrayClass .int, Cond.fieldLink RX0 11 "ChanceHall$Chain" "goesTo" "[[I", Cond.fieldLink RX0 16 "ChanceHall$Chain" "weights" "[[I", Cond.methodLink RX8 18 yX5_init, Cond.instanceMethod yX5_init, Cond.code yX5_init cX5_init 2 none, Cond.methodLink RX5 3 objectInit, Cond.fieldLink RX5 9 "ChanceHall$Laws" "chain" "LChanceHall$Chain;", Cond.classLink RX5 15 "[[J", Cond.fieldLink RX5 17 "ChanceHall$Laws" "rows" "[[J", Cond.fieldLink RX5 20 "ChanceHall$Laws" "hitRows" "[[J", Cond.methodLink RX8 27 yX2_init, Cond.instanceMethod yX2_init, Cond.code yX2_init cX2_init 2 none, Cond.methodLink RX2 3 objectInit, Cond.fieldLink RX2 9 "ChanceHall$Crowds" "chain" "LChanceHall$Chain;", Cond.classLink RX2 15 "[[J", Cond.fieldLink RX2 17 "ChanceHall$Crowds" "apartRows" "[[J", Cond.fieldLink RX2 20 "ChanceHall$Crowds" "setRows" "[[J", Cond.methodLink RX8 34 yX1_init, Cond.instanceMethod yX1_init]
def wsL_law_0_r4 : List Cond := [Cond.code yX1_init cX1_init 2 none, Cond.methodLink RX1 3 objectInit, Cond.fieldLink RX1 9 "ChanceHall$Classes" "chain" "LChanceHall$Chain;", Cond.methodLink RX8 41 yX7_init, Cond.instanceMethod yX7_init, Cond.code yX7_init cX7_init 2 none, Cond.methodLink RX7 3 objectInit, Cond.fieldLink RX7 9 "ChanceHall$Trees" "chain" "LChanceHall$Chain;", Cond.fieldLink RX7 15 "ChanceHall$Trees" "rests" "[J", Cond.fieldLink RX7 19 "ChanceHall$Trees" "others" "[I", Cond.fieldLink RX7 23 "ChanceHall$Trees" "minors" "[J", Cond.methodLink RX8 48 yX3_init, Cond.instanceMethod yX3_init, Cond.code yX3_init cX3_init 2 none, Cond.methodLink RX3 3 objectInit, Cond.fieldLink RX3 9 "ChanceHall$Draws" "chain" "LChanceHall$Chain;", Cond.fieldLink RX3 15 "ChanceHall$Draws" "ends" "[I", Cond.fieldLink RX3 19 "ChanceHall$Draws" "endsBefore" "[I", Cond.methodLink RX8 55 yX4_init, Cond.instanceMethod yX4_init, Cond.code yX4_init cX4_init 2 none, Cond.methodLink RX4 3 objectInit, Cond.fieldLink RX4 9 "ChanceHall$Games" "chain" "LChanceHall$Chain;", Cond.fieldLink RX4 15 "ChanceHall$Games" "pays" "[I"]
def wsL_law_0_r5 : List Cond := [Cond.classLink RX4 19 "[[J", Cond.fieldLink RX4 21 "ChanceHall$Games" "bests" "[[J", Cond.methodLink RX8 62 yX6_init, Cond.instanceMethod yX6_init, Cond.code yX6_init cX6_init 2 none, Cond.methodLink RX6 3 objectInit, Cond.fieldLink RX6 9 "ChanceHall$Lumps" "chain" "LChanceHall$Chain;", Cond.fieldLink RX6 15 "ChanceHall$Lumps" "colours" "[I", Cond.methodLink RX8 67 yX0_setOut, Cond.instanceMethod yX0_setOut, Cond.selects RX0 yX0_setOut yX0_setOut, Cond.code yX0_setOut cX0_setOut 4 none, Cond.fieldLink RX0 19 "ChanceHall$Chain" "states" "I", Cond.fieldLink RX0 23 "ChanceHall$Chain" "slots" "I", Cond.methodLink RX0 26 yJ7_fill_53178, Cond.static yJ7_fill_53178, Cond.initialized RJ7, Cond.code yJ7_fill_53178 cJ7_fill_53178 4 none, Cond.methodLink RL 100 yX9_init, Cond.instanceMethod yX9_init, Cond.code yX9_init cX9_init 1 none, Cond.methodLink RX9 1 objectInit, Cond.fieldLink RX9 7 "ChanceHallModel" "states" "I", Cond.fieldLink RX9 13 "ChanceHallModel" "slots" "I"]
def wsL_law_0_r6 : List Cond := [Cond.fieldLink RX9 16 "ChanceHallModel" "to" "[I", Cond.fieldLink RX9 20 "ChanceHallModel" "pay" "[I", Cond.fieldLink RX9 23 "ChanceHallModel" "colour" "[I", Cond.fieldLink RX9 26 "ChanceHallModel" "now" "[J", Cond.fieldLink RX9 30 "ChanceHallModel" "then" "[J", Cond.fieldLink RX9 33 "ChanceHallModel" "others" "[J", Cond.fieldLink RX9 36 "ChanceHallModel" "minor" "[J", Cond.fieldLink RX9 39 "ChanceHallModel" "weights" "[J", Cond.fieldLink RX9 42 "ChanceHallModel" "map" "[I", Cond.fieldLink RX9 45 "ChanceHallModel" "next" "[I", Cond.methodLink RL 101 yL_begin, Cond.static yL_begin, Cond.initialized RL, Cond.codeWith yL_begin cL_begin 4 (some .int) [(0, 6, 9, 13)], Cond.classLink RL 13 "java/lang/IllegalArgumentException", Cond.methodLink RL 7 yX8_begin, Cond.instanceMethod yX8_begin, Cond.selects RX8 yX8_begin yX8_begin, Cond.code yX8_begin cX8_begin 3 none, Cond.methodLink RX8 71 yX8_needRange, Cond.static yX8_needRange, Cond.code yX8_needRange cX8_needRange 3 none, Cond.classLink RX8 208 "java/lang/IllegalArgumentException", Cond.initialized "java/lang/IllegalArgumentException"]
def wsL_law_0_r7 : List Cond := [Cond.methodLink RX8 75 yX4_forget, Cond.instanceMethod yX4_forget, Cond.selects RX4 yX4_forget yX4_forget, Cond.code yX4_forget cX4_forget 1 none, Cond.methodLink RX4 24 yJ7_fill_53178, Cond.methodLink RX8 78 yX6_forget, Cond.instanceMethod yX6_forget, Cond.selects RX6 yX6_forget yX6_forget, Cond.code yX6_forget cX6_forget 1 none, Cond.methodLink RX6 19 yJ7_fill_53178, Cond.methodLink RL 106 yX9_begin, Cond.instanceMethod yX9_begin, Cond.selects RX9 yX9_begin yX9_begin, Cond.code yX9_begin cX9_begin 5 none, Cond.methodLink RX9 51 yX9_isIn, Cond.static yX9_isIn, Cond.code yX9_isIn cX9_isIn 3 (some .boolean), Cond.methodLink RX9 55 yX9_can, Cond.instanceMethod yX9_can, Cond.selects RX9 yX9_can yX9_can, Cond.code yX9_can cX9_can 2 (some .boolean), Cond.fieldLink RX9 48 "ChanceHallModel" "thrown" "I", Cond.methodLink RL 107 yX9_thrown, Cond.instanceMethod yX9_thrown]
def wsL_law_0_r8 : List Cond := [Cond.selects RX9 yX9_thrown yX9_thrown, Cond.code yX9_thrown cX9_thrown 1 (some .int), Cond.methodLink RL 111 yL_lead, Cond.static yL_lead, Cond.codeWith yL_lead cL_lead 6 (some .int) [(0, 12, 15, 19)], Cond.classLink RL 19 "java/lang/IndexOutOfBoundsException", Cond.methodLink RL 15 yX8_lead, Cond.instanceMethod yX8_lead, Cond.selects RX8 yX8_lead yX8_lead, Cond.code yX8_lead cX8_lead 4 (some .int), Cond.methodLink RX8 79 yX8_needState, Cond.instanceMethod yX8_needState, Cond.selects RX8 yX8_needState yX8_needState, Cond.code yX8_needState cX8_needState 2 none, Cond.classLink RX8 163 "java/lang/IndexOutOfBoundsException", Cond.initialized "java/lang/IndexOutOfBoundsException", Cond.fieldLink RX8 171 "ChanceHall$Chain" "states" "I", Cond.methodLink RX8 83 yX8_needSlot, Cond.instanceMethod yX8_needSlot, Cond.selects RX8 yX8_needSlot yX8_needSlot, Cond.code yX8_needSlot cX8_needSlot 2 none, Cond.fieldLink RX8 203 "ChanceHall$Chain" "slots" "I", Cond.methodLink RX8 86 yX0_turn, Cond.instanceMethod yX0_turn]
def wsL_law_0_r9 : List Cond := [Cond.selects RX0 yX0_turn yX0_turn, Cond.code yX0_turn cX0_turn 5 (some .int), Cond.methodLink RL 114 yX9_lead, Cond.instanceMethod yX9_lead, Cond.selects RX9 yX9_lead yX9_lead, Cond.code yX9_lead cX9_lead 5 (some .int), Cond.methodLink RX9 59 yX9_isState, Cond.instanceMethod yX9_isState, Cond.selects RX9 yX9_isState yX9_isState, Cond.code yX9_isState cX9_isState 2 (some .boolean), Cond.methodLink RX9 62 yX9_isSlot, Cond.instanceMethod yX9_isSlot, Cond.selects RX9 yX9_isSlot yX9_isSlot, Cond.code yX9_isSlot cX9_isSlot 2 (some .boolean), Cond.methodLink RX9 65 yX9_goes, Cond.instanceMethod yX9_goes, Cond.selects RX9 yX9_goes yX9_goes, Cond.code yX9_goes cX9_goes 3 (some .int), Cond.methodLink RL 115 yL_swap, Cond.static yL_swap, Cond.codeWith yL_swap cL_swap 5 (some .int) [(0, 7, 10, 19)], Cond.methodLink RL 21 yX8_swap, Cond.instanceMethod yX8_swap, Cond.selects RX8 yX8_swap yX8_swap]
def wsL_law_0_r10 : List Cond := [Cond.code yX8_swap cX8_swap 4 none, Cond.methodLink RX8 90 yX0_exchange, Cond.instanceMethod yX0_exchange, Cond.selects RX0 yX0_exchange yX0_exchange, Cond.code yX0_exchange cX0_exchange 5 none, Cond.methodLink RL 118 yX9_swap, Cond.instanceMethod yX9_swap, Cond.selects RX9 yX9_swap yX9_swap, Cond.code yX9_swap cX9_swap 5 none, Cond.methodLink RL 119 yL_pay, Cond.static yL_pay, Cond.codeWith yL_pay cL_pay 5 (some .int) [(0, 10, 13, 19), (0, 10, 17, 13)], Cond.methodLink RL 25 yX8_pay, Cond.instanceMethod yX8_pay, Cond.selects RX8 yX8_pay yX8_pay, Cond.code yX8_pay cX8_pay 3 (some .int), Cond.constant RX8 93 (-100000), Cond.constant RX8 94 (100000), Cond.methodLink RX8 95 yX4_setPay, Cond.instanceMethod yX4_setPay, Cond.selects RX4 yX4_setPay yX4_setPay, Cond.code yX4_setPay cX4_setPay 4 (some .int), Cond.methodLink RL 122 yX9_pay, Cond.instanceMethod yX9_pay]
def wsL_law_0_r11 : List Cond := [Cond.selects RX9 yX9_pay yX9_pay, Cond.code yX9_pay cX9_pay 4 (some .int), Cond.constant RX9 69 (-100000), Cond.constant RX9 70 (100000), Cond.methodLink RL 123 yL_colour, Cond.static yL_colour, Cond.codeWith yL_colour cL_colour 5 (some .int) [(0, 10, 13, 19), (0, 10, 17, 13)], Cond.methodLink RL 29 yX8_colour, Cond.instanceMethod yX8_colour, Cond.selects RX8 yX8_colour yX8_colour, Cond.code yX8_colour cX8_colour 3 (some .int), Cond.methodLink RX8 99 yX6_setColour, Cond.instanceMethod yX6_setColour, Cond.selects RX6 yX6_setColour yX6_setColour, Cond.code yX6_setColour cX6_setColour 4 (some .int), Cond.methodLink RL 125 yX9_colour, Cond.instanceMethod yX9_colour, Cond.selects RX9 yX9_colour yX9_colour, Cond.code yX9_colour cX9_colour 4 (some .int), Cond.methodLink RL 126 yL_weight, Cond.static yL_weight, Cond.codeWith yL_weight cL_weight 5 (some .int) [(0, 10, 13, 19)], Cond.methodLink RL 32 yX8_weight, Cond.instanceMethod yX8_weight]
def wsL_law_0_r12 : List Cond := [Cond.selects RX8 yX8_weight yX8_weight, Cond.code yX8_weight cX8_weight 3 (some .int), Cond.fieldLink RX8 102 "ChanceHall$Chain" "weights" "[[I", Cond.methodLink RL 128 yX9_weight, Cond.instanceMethod yX9_weight, Cond.selects RX9 yX9_weight yX9_weight, Cond.code yX9_weight cX9_weight 3 (some .int), Cond.methodLink RX9 71 yX9_weigh, Cond.instanceMethod yX9_weigh, Cond.selects RX9 yX9_weigh yX9_weigh, Cond.code yX9_weigh cX9_weigh 5 (some .int), Cond.methodLink RL 129 yL_words, Cond.static yL_words, Cond.codeWith yL_words cL_words 4 (some .int) [(0, 8, 11, 13)], Cond.methodLink RL 35 yX8_words, Cond.instanceMethod yX8_words, Cond.selects RX8 yX8_words yX8_words, Cond.code yX8_words cX8_words 2 (some .long), Cond.methodLink RX8 106 yX0_countWords, Cond.instanceMethod yX0_countWords, Cond.selects RX0 yX0_countWords yX0_countWords, Cond.code yX0_countWords cX0_countWords 5 (some .long), Cond.methodLink RL 132 yX9_words, Cond.instanceMethod yX9_words]
def wsL_law_0_r13 : List Cond := [Cond.selects RX9 yX9_words yX9_words, Cond.code yX9_words cX9_words 2 (some .long), Cond.methodLink RX9 74 yX9_areSteps, Cond.static yX9_areSteps, Cond.code yX9_areSteps cX9_areSteps 1 (some .boolean), Cond.methodLink RX9 77 yX9_power, Cond.instanceMethod yX9_power, Cond.selects RX9 yX9_power yX9_power, Cond.code yX9_power cX9_power 5 (some .long), Cond.methodLink RL 133 yL_law, Cond.static yL_law, Cond.codeWith yL_law cL_law 6 (some .int) [(0, 11, 14, 19), (0, 11, 18, 13)], Cond.methodLink RL 39 yX8_law, Cond.instanceMethod yX8_law, Cond.selects RX8 yX8_law yX8_law, Cond.code yX8_law cX8_law 4 (some .long), Cond.methodLink RX8 110 yX5_countLaw, Cond.instanceMethod yX5_countLaw, Cond.selects RX5 yX5_countLaw yX5_countLaw, Cond.code yX5_countLaw cX5_countLaw 4 (some .long), Cond.methodLink RX5 41 yX5_countLaws, Cond.instanceMethod yX5_countLaws, Cond.selects RX5 yX5_countLaws yX5_countLaws, Cond.code yX5_countLaws cX5_countLaws 4 none]
def wsL_law_0_r14 : List Cond := [Cond.fieldLink RX5 23 "ChanceHall$Chain" "states" "I", Cond.static yX8_pairOf, Cond.code yX8_pairOf cX8_pairOf 2 (some .int), Cond.methodLink RX5 33 yX5_goOneStep, Cond.instanceMethod yX5_goOneStep, Cond.selects RX5 yX5_goOneStep yX5_goOneStep, Cond.code yX5_goOneStep cX5_goOneStep 8 none, Cond.fieldLink RX5 37 "ChanceHall$Chain" "weights" "[[I", Cond.methodLink RL 135 yX9_law, Cond.instanceMethod yX9_law, Cond.selects RX9 yX9_law yX9_law, Cond.code yX9_law cX9_law 4 (some .long), Cond.methodLink RX9 92 yX9_lawFault, Cond.instanceMethod yX9_lawFault, Cond.selects RX9 yX9_lawFault yX9_lawFault, Cond.code yX9_lawFault cX9_lawFault 5 (some .int), Cond.methodLink RX9 96 yX9_lawOf, Cond.instanceMethod yX9_lawOf, Cond.selects RX9 yX9_lawOf yX9_lawOf, Cond.code yX9_lawOf cX9_lawOf 4 (some .long), Cond.methodLink RX9 88 yX9_spreads, Cond.instanceMethod yX9_spreads, Cond.selects RX9 yX9_spreads yX9_spreads, Cond.code yX9_spreads cX9_spreads 5 none]
def wsL_law_0_r15 : List Cond := [Cond.methodLink RX9 81 yX9_begins, Cond.instanceMethod yX9_begins, Cond.selects RX9 yX9_begins yX9_begins, Cond.code yX9_begins cX9_begins 3 none, Cond.methodLink RX9 85 yX9_keeps, Cond.instanceMethod yX9_keeps, Cond.selects RX9 yX9_keeps yX9_keeps, Cond.code yX9_keeps cX9_keeps 2 none, Cond.methodLink RL 136 yL_lawAnew, Cond.static yL_lawAnew, Cond.codeWith yL_lawAnew cL_lawAnew 6 (some .int) [(0, 11, 14, 19), (0, 11, 18, 13)], Cond.methodLink RL 43 yX8_lawAnew, Cond.instanceMethod yX8_lawAnew, Cond.selects RX8 yX8_lawAnew yX8_lawAnew, Cond.code yX8_lawAnew cX8_lawAnew 4 (some .long), Cond.methodLink RX8 114 yX8_goThroughWords, Cond.static yX8_goThroughWords, Cond.code yX8_goThroughWords cX8_goThroughWords 7 (some .long), Cond.fieldLink RX8 213 "ChanceHall$Chain" "goesTo" "[[I", Cond.methodLink RL 138 yX9_lawAnew, Cond.instanceMethod yX9_lawAnew, Cond.selects RX9 yX9_lawAnew yX9_lawAnew, Cond.code yX9_lawAnew cX9_lawAnew 4 (some .long), Cond.methodLink RL 139 yL_distance]
def wsL_law_0_r16 : List Cond := [Cond.static yL_distance, Cond.codeWith yL_distance cL_distance 6 (some .int) [(0, 11, 14, 19), (0, 11, 18, 13)], Cond.methodLink RL 46 yX8_distance, Cond.instanceMethod yX8_distance, Cond.selects RX8 yX8_distance yX8_distance, Cond.code yX8_distance cX8_distance 4 (some .long), Cond.methodLink RX8 118 yX5_countLaws, Cond.methodLink RX8 121 yX5_distanceBehind, Cond.instanceMethod yX5_distanceBehind, Cond.selects RX5 yX5_distanceBehind yX5_distanceBehind, Cond.code yX5_distanceBehind cX5_distanceBehind 9 (some .long), Cond.methodLink RX5 45 Lib.MathLoose.max_long.x, Cond.static Lib.MathLoose.max_long.x, Cond.initialized "java/lang/Math", Cond.code Lib.MathLoose.max_long.x Lib.MathLoose.max_long.code 4 (some .long), Cond.methodLink RL 141 yX9_distance, Cond.instanceMethod yX9_distance, Cond.selects RX9 yX9_distance yX9_distance, Cond.code yX9_distance cX9_distance 4 (some .long), Cond.methodLink RX9 100 yX9_distanceOf, Cond.instanceMethod yX9_distanceOf, Cond.selects RX9 yX9_distanceOf yX9_distanceOf, Cond.code yX9_distanceOf cX9_distanceOf 7 (some .long), Cond.methodLink RL 142 yL_mixing]
def wsL_law_0_r17 : List Cond := [Cond.static yL_mixing, Cond.codeWith yL_mixing cL_mixing 4 (some .int) [(0, 9, 12, 13)], Cond.methodLink RL 49 yX8_mixing, Cond.instanceMethod yX8_mixing, Cond.selects RX8 yX8_mixing yX8_mixing, Cond.code yX8_mixing cX8_mixing 3 (some .int), Cond.methodLink RX8 124 yX5_isMixed, Cond.instanceMethod yX5_isMixed, Cond.selects RX5 yX5_isMixed yX5_isMixed, Cond.code yX5_isMixed cX5_isMixed 7 (some .boolean), Cond.constantLong RX5 55 (1000), Cond.methodLink RX5 51 yX0_countWords, Cond.methodLink RX5 57 yX5_distanceBehind, Cond.methodLink RL 144 yX9_mixing, Cond.instanceMethod yX9_mixing, Cond.selects RX9 yX9_mixing yX9_mixing, Cond.code yX9_mixing cX9_mixing 4 (some .int), Cond.methodLink RX9 105 yX9_isMixed, Cond.instanceMethod yX9_isMixed, Cond.selects RX9 yX9_isMixed yX9_isMixed, Cond.code yX9_isMixed cX9_isMixed 6 (some .boolean), Cond.constantLong RX9 103 (1000), Cond.methodLink RL 145 yL_apart, Cond.static yL_apart]
def wsL_law_0_r18 : List Cond := [Cond.codeWith yL_apart cL_apart 6 (some .int) [(0, 11, 14, 19), (0, 11, 18, 13)], Cond.methodLink RL 53 yX8_apart, Cond.instanceMethod yX8_apart, Cond.selects RX8 yX8_apart yX8_apart, Cond.code yX8_apart cX8_apart 4 (some .long), Cond.methodLink RX8 128 yX2_countApart, Cond.instanceMethod yX2_countApart, Cond.selects RX2 yX2_countApart yX2_countApart, Cond.code yX2_countApart cX2_countApart 7 (some .long), Cond.fieldLink RX2 23 "ChanceHall$Chain" "states" "I", Cond.methodLink RX2 33 yX2_apartFrom, Cond.instanceMethod yX2_apartFrom, Cond.selects RX2 yX2_apartFrom yX2_apartFrom, Cond.code yX2_apartFrom cX2_apartFrom 7 (some .long), Cond.fieldLink RX2 37 "ChanceHall$Chain" "slots" "I", Cond.fieldLink RX2 40 "ChanceHall$Chain" "goesTo" "[[I", Cond.methodLink RL 147 yX9_apart, Cond.instanceMethod yX9_apart, Cond.selects RX9 yX9_apart yX9_apart, Cond.code yX9_apart cX9_apart 4 (some .long), Cond.methodLink RX9 109 yX9_apartBy, Cond.instanceMethod yX9_apartBy, Cond.selects RX9 yX9_apartBy yX9_apartBy, Cond.code yX9_apartBy cX9_apartBy 9 (some .long)]
def wsL_law_0_r19 : List Cond := [Cond.methodLink RL 148 yL_together, Cond.static yL_together, Cond.codeWith yL_together cL_together 5 (some .int) [(0, 9, 12, 19), (0, 9, 16, 13)], Cond.methodLink RL 56 yX8_together, Cond.instanceMethod yX8_together, Cond.selects RX8 yX8_together yX8_together, Cond.code yX8_together cX8_together 3 (some .long), Cond.methodLink RX8 131 yX2_countTogether, Cond.instanceMethod yX2_countTogether, Cond.selects RX2 yX2_countTogether yX2_countTogether, Cond.code yX2_countTogether cX2_countTogether 6 (some .long), Cond.methodLink RX2 44 yJ7_fill_d0a16, Cond.static yJ7_fill_d0a16, Cond.code yJ7_fill_d0a16 cJ7_fill_d0a16 5 none, Cond.methodLink RX2 50 yX2_moveCrowds, Cond.instanceMethod yX2_moveCrowds, Cond.selects RX2 yX2_moveCrowds yX2_moveCrowds, Cond.code yX2_moveCrowds cX2_moveCrowds 6 none, Cond.methodLink RX2 54 yX2_setBehind, Cond.instanceMethod yX2_setBehind, Cond.selects RX2 yX2_setBehind yX2_setBehind, Cond.code yX2_setBehind cX2_setBehind 5 (some .int), Cond.methodLink RL 150 yX9_together, Cond.instanceMethod yX9_together]
def wsL_law_0_r20 : List Cond := [Cond.selects RX9 yX9_together yX9_together, Cond.code yX9_together cX9_together 3 (some .long), Cond.methodLink RX9 115 yX9_togetherBy, Cond.instanceMethod yX9_togetherBy, Cond.selects RX9 yX9_togetherBy yX9_togetherBy, Cond.code yX9_togetherBy cX9_togetherBy 6 (some .long), Cond.methodLink RX9 112 yX9_image, Cond.instanceMethod yX9_image, Cond.selects RX9 yX9_image yX9_image, Cond.code yX9_image cX9_image 5 (some .int), Cond.methodLink RL 151 yL_hits, Cond.static yL_hits, Cond.codeWith yL_hits cL_hits 6 (some .int) [(0, 11, 14, 19), (0, 11, 18, 13)], Cond.methodLink RL 60 yX8_hits, Cond.instanceMethod yX8_hits, Cond.selects RX8 yX8_hits yX8_hits, Cond.code yX8_hits cX8_hits 4 (some .long), Cond.methodLink RX8 135 yX5_countHits, Cond.instanceMethod yX5_countHits, Cond.selects RX5 yX5_countHits yX5_countHits, Cond.code yX5_countHits cX5_countHits 6 (some .long), Cond.methodLink RX5 61 yX5_hitsIn, Cond.instanceMethod yX5_hitsIn, Cond.selects RX5 yX5_hitsIn yX5_hitsIn]
def wsL_law_0_r21 : List Cond := [Cond.code yX5_hitsIn cX5_hitsIn 4 (some .long), Cond.methodLink RX5 64 yX0_sumOverSlots, Cond.instanceMethod yX0_sumOverSlots, Cond.selects RX0 yX0_sumOverSlots yX0_sumOverSlots, Cond.code yX0_sumOverSlots cX0_sumOverSlots 6 (some .long), Cond.methodLink RL 153 yX9_hits, Cond.instanceMethod yX9_hits, Cond.selects RX9 yX9_hits yX9_hits, Cond.code yX9_hits cX9_hits 4 (some .long), Cond.methodLink RX9 119 yX9_hitsBy, Cond.instanceMethod yX9_hitsBy, Cond.selects RX9 yX9_hitsBy yX9_hitsBy, Cond.code yX9_hitsBy cX9_hitsBy 8 (some .long), Cond.methodLink RL 154 yL_reach, Cond.static yL_reach, Cond.codeWith yL_reach cL_reach 4 (some .int) [(0, 9, 12, 19)], Cond.methodLink RL 63 yX8_reach, Cond.instanceMethod yX8_reach, Cond.selects RX8 yX8_reach yX8_reach, Cond.code yX8_reach cX8_reach 2 (some .int), Cond.methodLink RX8 138 yX1_reachedFrom, Cond.instanceMethod yX1_reachedFrom, Cond.selects RX1 yX1_reachedFrom yX1_reachedFrom, Cond.code yX1_reachedFrom cX1_reachedFrom 4 (some .int)]
def wsL_law_0_r22 : List Cond := [Cond.fieldLink RX1 15 "ChanceHall$Chain" "states" "I", Cond.methodLink RX1 21 yX1_setOneStepOn, Cond.instanceMethod yX1_setOneStepOn, Cond.selects RX1 yX1_setOneStepOn yX1_setOneStepOn, Cond.code yX1_setOneStepOn cX1_setOneStepOn 5 (some .int), Cond.fieldLink RX1 25 "ChanceHall$Chain" "weights" "[[I", Cond.methodLink RL 156 yX9_reach, Cond.instanceMethod yX9_reach, Cond.selects RX9 yX9_reach yX9_reach, Cond.code yX9_reach cX9_reach 2 (some .int), Cond.methodLink RX9 126 yX9_reached, Cond.instanceMethod yX9_reached, Cond.selects RX9 yX9_reached yX9_reached, Cond.code yX9_reached cX9_reached 4 (some .int), Cond.methodLink RX9 122 yX9_ahead, Cond.instanceMethod yX9_ahead, Cond.selects RX9 yX9_ahead yX9_ahead, Cond.code yX9_ahead cX9_ahead 4 (some .int), Cond.methodLink RL 157 yX8_closed, Cond.instanceMethod yX8_closed, Cond.selects RX8 yX8_closed yX8_closed, Cond.code yX8_closed cX8_closed 1 (some .int), Cond.methodLink RX8 142 yX1_countClosed, Cond.instanceMethod yX1_countClosed]
def wsL_law_0_r23 : List Cond := [Cond.selects RX1 yX1_countClosed yX1_countClosed, Cond.code yX1_countClosed cX1_countClosed 3 (some .int), Cond.methodLink RX1 29 yX1_isLowestOfClosed, Cond.instanceMethod yX1_isLowestOfClosed, Cond.selects RX1 yX1_isLowestOfClosed yX1_isLowestOfClosed, Cond.code yX1_isLowestOfClosed cX1_isLowestOfClosed 4 (some .boolean), Cond.methodLink RX1 33 yX1_reachedFrom, Cond.methodLink RL 160 yX9_closed, Cond.instanceMethod yX9_closed, Cond.selects RX9 yX9_closed yX9_closed, Cond.code yX9_closed cX9_closed 3 (some .int), Cond.methodLink RX9 129 yX9_isClosed, Cond.instanceMethod yX9_isClosed, Cond.selects RX9 yX9_isClosed yX9_isClosed, Cond.code yX9_isClosed cX9_isClosed 5 (some .boolean), Cond.methodLink RL 161 yL_period, Cond.static yL_period, Cond.codeWith yL_period cL_period 4 (some .int) [(0, 9, 12, 19)], Cond.methodLink RL 66 yX8_period, Cond.instanceMethod yX8_period, Cond.selects RX8 yX8_period yX8_period, Cond.code yX8_period cX8_period 2 (some .int), Cond.methodLink RX8 146 yX1_periodOf, Cond.instanceMethod yX1_periodOf]
def wsL_law_0_r24 : List Cond := [Cond.selects RX1 yX1_periodOf yX1_periodOf, Cond.code yX1_periodOf cX1_periodOf 5 (some .int), Cond.methodLink RX1 36 yX1_greatestDivisor, Cond.static yX1_greatestDivisor, Cond.code yX1_greatestDivisor cX1_greatestDivisor 2 (some .int), Cond.methodLink RX1 39 yX1_dividesAll, Cond.static yX1_dividesAll, Cond.code yX1_dividesAll cX1_dividesAll 3 (some .boolean), Cond.methodLink RL 163 yX9_period, Cond.instanceMethod yX9_period, Cond.selects RX9 yX9_period yX9_period, Cond.code yX9_period cX9_period 5 (some .int), Cond.methodLink RX9 132 yX9_common, Cond.static yX9_common, Cond.code yX9_common cX9_common 5 (some .int), Cond.methodLink RL 164 yL_rest, Cond.static yL_rest, Cond.codeWith yL_rest cL_rest 4 (some .int) [(0, 8, 11, 19)], Cond.methodLink RL 69 yX8_rest, Cond.instanceMethod yX8_rest, Cond.selects RX8 yX8_rest yX8_rest, Cond.code yX8_rest cX8_rest 2 (some .long), Cond.methodLink RX8 149 yX7_wholeRest, Cond.instanceMethod yX7_wholeRest]
def wsL_law_0_r25 : List Cond := [Cond.selects RX7 yX7_wholeRest yX7_wholeRest, Cond.code yX7_wholeRest cX7_wholeRest 4 (some .long), Cond.fieldLink RX7 26 "ChanceHall$Chain" "states" "I", Cond.methodLink RX7 36 yX7_countRests, Cond.instanceMethod yX7_countRests, Cond.selects RX7 yX7_countRests yX7_countRests, Cond.code yX7_countRests cX7_countRests 2 none, Cond.methodLink RX7 32 yX7_restOf, Cond.instanceMethod yX7_restOf, Cond.selects RX7 yX7_restOf yX7_restOf, Cond.code yX7_restOf cX7_restOf 4 (some .long), Cond.methodLink RX7 39 yX7_listOthers, Cond.instanceMethod yX7_listOthers, Cond.selects RX7 yX7_listOthers yX7_listOthers, Cond.code yX7_listOthers cX7_listOthers 3 none, Cond.methodLink RX7 43 yX7_minorOf, Cond.instanceMethod yX7_minorOf, Cond.selects RX7 yX7_minorOf yX7_minorOf, Cond.code yX7_minorOf cX7_minorOf 8 (some .long), Cond.methodLink RX7 47 yJ6_bitCount_0f7a4, Cond.static yJ6_bitCount_0f7a4, Cond.initialized RJ6, Cond.code yJ6_bitCount_0f7a4 cJ6_bitCount_0f7a4 1 (some .int), Cond.constant RJ6 265 (1431655765)]
def wsL_law_0_r26 : List Cond := [Cond.constant RJ6 266 (858993459), Cond.constant RJ6 267 (252645135), Cond.methodLink RX7 53 yX7_entry, Cond.instanceMethod yX7_entry, Cond.selects RX7 yX7_entry yX7_entry, Cond.code yX7_entry cX7_entry 3 (some .long), Cond.fieldLink RX7 56 "ChanceHall$Chain" "slots" "I", Cond.fieldLink RX7 59 "ChanceHall$Chain" "weights" "[[I", Cond.methodLink RX8 153 yX7_restOf, Cond.methodLink RL 166 yX9_rest, Cond.instanceMethod yX9_rest, Cond.selects RX9 yX9_rest yX9_rest, Cond.code yX9_rest cX9_rest 2 (some .long), Cond.methodLink RX9 144 yX9_wholeRest, Cond.instanceMethod yX9_wholeRest, Cond.selects RX9 yX9_wholeRest yX9_wholeRest, Cond.code yX9_wholeRest cX9_wholeRest 4 (some .long), Cond.methodLink RX9 141 yX9_restOf, Cond.instanceMethod yX9_restOf, Cond.selects RX9 yX9_restOf yX9_restOf, Cond.code yX9_restOf cX9_restOf 8 (some .long), Cond.methodLink RX9 135 yX9_laysWeights, Cond.instanceMethod yX9_laysWeights, Cond.selects RX9 yX9_laysWeights yX9_laysWeights]
def wsL_law_0_r27 : List Cond := [Cond.code yX9_laysWeights cX9_laysWeights 6 none, Cond.methodLink RX9 138 yX9_bits, Cond.static yX9_bits, Cond.code yX9_bits cX9_bits 3 (some .int), Cond.methodLink RL 167 yL_share, Cond.static yL_share, Cond.codeWith yL_share cL_share 4 (some .int) [(0, 9, 12, 19), (0, 9, 15, 76)], Cond.classLink RL 76 "java/lang/IllegalStateException", Cond.methodLink RL 72 yX8_share, Cond.instanceMethod yX8_share, Cond.selects RX8 yX8_share yX8_share, Cond.code yX8_share cX8_share 4 (some .float), Cond.classLink RX8 156 "java/lang/IllegalStateException", Cond.initialized "java/lang/IllegalStateException", Cond.methodLink RL 170 yX9_share, Cond.instanceMethod yX9_share, Cond.selects RX9 yX9_share yX9_share, Cond.code yX9_share cX9_share 5 (some .float), Cond.methodLink RL 171 yL_ranked, Cond.static yL_ranked, Cond.codeWith yL_ranked cL_ranked 4 (some .int) [(0, 9, 12, 19)], Cond.methodLink RL 78 yX8_ranked, Cond.instanceMethod yX8_ranked, Cond.selects RX8 yX8_ranked yX8_ranked]
def wsL_law_0_r28 : List Cond := [Cond.code yX8_ranked cX8_ranked 3 (some .int), Cond.methodLink RX8 168 yX7_countRests, Cond.methodLink RX8 175 yX7_countAhead, Cond.instanceMethod yX7_countAhead, Cond.selects RX7 yX7_countAhead yX7_countAhead, Cond.code yX7_countAhead cX7_countAhead 4 (some .int), Cond.methodLink RL 173 yX9_ranked, Cond.instanceMethod yX9_ranked, Cond.selects RX9 yX9_ranked yX9_ranked, Cond.code yX9_ranked cX9_ranked 4 (some .int), Cond.methodLink RX9 148 yX9_placeOf, Cond.instanceMethod yX9_placeOf, Cond.selects RX9 yX9_placeOf yX9_placeOf, Cond.code yX9_placeOf cX9_placeOf 8 (some .int), Cond.methodLink RL 174 yL_walk, Cond.static yL_walk, Cond.codeWith yL_walk cL_walk 6 (some .int) [(0, 12, 15, 19), (0, 12, 19, 13)], Cond.methodLink RL 81 yX8_walk, Cond.instanceMethod yX8_walk, Cond.selects RX8 yX8_walk yX8_walk, Cond.code yX8_walk cX8_walk 4 (some .int), Cond.constant RX8 178 (65520), Cond.methodLink RX8 179 yX3_walkOn, Cond.instanceMethod yX3_walkOn]
def wsL_law_0_r29 : List Cond := [Cond.selects RX3 yX3_walkOn yX3_walkOn, Cond.code yX3_walkOn cX3_walkOn 7 (some .int), Cond.fieldLink RX3 26 "ChanceHall$Chain" "goesTo" "[[I", Cond.methodLink RX3 22 yX3_seedBehind, Cond.static yX3_seedBehind, Cond.code yX3_seedBehind cX3_seedBehind 1 (some .int), Cond.constant RX3 56 (65521), Cond.methodLink RX3 32 yX3_slotOf, Cond.instanceMethod yX3_slotOf, Cond.selects RX3 yX3_slotOf yX3_slotOf, Cond.code yX3_slotOf cX3_slotOf 2 (some .int), Cond.fieldLink RX3 53 "ChanceHall$Chain" "slots" "I", Cond.methodLink RL 176 yX9_walk, Cond.instanceMethod yX9_walk, Cond.selects RX9 yX9_walk yX9_walk, Cond.code yX9_walk cX9_walk 7 (some .int), Cond.methodLink RX9 153 yX9_isSeed, Cond.static yX9_isSeed, Cond.code yX9_isSeed cX9_isSeed 1 (some .boolean), Cond.constant RX9 152 (65520), Cond.methodLink RX9 156 yX9_drawn, Cond.static yX9_drawn, Cond.code yX9_drawn cX9_drawn 1 (some .int), Cond.constant RX9 151 (65521)]
def wsL_law_0_r30 : List Cond := [Cond.methodLink RL 177 yL_draw, Cond.static yL_draw, Cond.codeWith yL_draw cL_draw 4 (some .int) [(0, 9, 12, 13)], Cond.methodLink RL 84 yX8_draw, Cond.instanceMethod yX8_draw, Cond.selects RX8 yX8_draw yX8_draw, Cond.code yX8_draw cX8_draw 2 (some .int), Cond.methodLink RX8 182 yX3_drawFromPast, Cond.instanceMethod yX3_drawFromPast, Cond.selects RX3 yX3_drawFromPast yX3_drawFromPast, Cond.code yX3_drawFromPast cX3_drawFromPast 4 (some .int), Cond.fieldLink RX3 35 "ChanceHall$Chain" "states" "I", Cond.methodLink RX3 39 yX3_isTogether, Cond.instanceMethod yX3_isTogether, Cond.selects RX3 yX3_isTogether yX3_isTogether, Cond.code yX3_isTogether cX3_isTogether 2 (some .boolean), Cond.methodLink RX3 43 yX3_putAhead, Cond.instanceMethod yX3_putAhead, Cond.selects RX3 yX3_putAhead yX3_putAhead, Cond.code yX3_putAhead cX3_putAhead 3 none, Cond.methodLink RX3 47 arraycopyName, Cond.native arraycopyName, Cond.static arraycopyName, Cond.initialized "java/lang/System"]
def wsL_law_0_r31 : List Cond := [Cond.methodLink RL 179 yX9_draw, Cond.instanceMethod yX9_draw, Cond.selects RX9 yX9_draw yX9_draw, Cond.code yX9_draw cX9_draw 5 (some .int), Cond.methodLink RX9 159 yX9_isOne, Cond.instanceMethod yX9_isOne, Cond.selects RX9 yX9_isOne yX9_isOne, Cond.code yX9_isOne cX9_isOne 3 (some .boolean), Cond.methodLink RL 180 yL_drift, Cond.static yL_drift, Cond.codeWith yL_drift cL_drift 4 (some .int) [(0, 8, 11, 19)], Cond.methodLink RL 87 yX8_drift, Cond.instanceMethod yX8_drift, Cond.selects RX8 yX8_drift yX8_drift, Cond.code yX8_drift cX8_drift 2 (some .long), Cond.methodLink RX8 185 yX4_driftOf, Cond.instanceMethod yX4_driftOf, Cond.selects RX4 yX4_driftOf yX4_driftOf, Cond.code yX4_driftOf cX4_driftOf 5 (some .long), Cond.fieldLink RX4 30 "ChanceHall$Chain" "states" "I", Cond.fieldLink RX4 36 "ChanceHall$Chain" "weights" "[[I", Cond.fieldLink RX4 40 "ChanceHall$Chain" "slots" "I", Cond.methodLink RL 182 yX9_drift, Cond.instanceMethod yX9_drift]
def wsL_law_0_r32 : List Cond := [Cond.selects RX9 yX9_drift yX9_drift, Cond.code yX9_drift cX9_drift 2 (some .long), Cond.methodLink RX9 163 yX9_driftOf, Cond.instanceMethod yX9_driftOf, Cond.selects RX9 yX9_driftOf yX9_driftOf, Cond.code yX9_driftOf cX9_driftOf 5 (some .long), Cond.methodLink RL 183 yX8_isFair, Cond.instanceMethod yX8_isFair, Cond.selects RX8 yX8_isFair yX8_isFair, Cond.code yX8_isFair cX8_isFair 2 (some .boolean), Cond.methodLink RL 187 yX9_isFair, Cond.instanceMethod yX9_isFair, Cond.selects RX9 yX9_isFair yX9_isFair, Cond.code yX9_isFair cX9_isFair 3 (some .boolean), Cond.methodLink RL 188 yL_best, Cond.static yL_best, Cond.codeWith yL_best cL_best 5 (some .int) [(0, 9, 12, 19), (0, 9, 16, 13)], Cond.methodLink RL 90 yX8_best, Cond.instanceMethod yX8_best, Cond.selects RX8 yX8_best yX8_best, Cond.code yX8_best cX8_best 3 (some .long), Cond.methodLink RX8 188 yX4_bestOf, Cond.instanceMethod yX4_bestOf, Cond.selects RX4 yX4_bestOf yX4_bestOf]
def wsL_law_0_r33 : List Cond := [Cond.code yX4_bestOf cX4_bestOf 3 (some .long), Cond.methodLink RX4 43 yX4_countBests, Cond.instanceMethod yX4_countBests, Cond.selects RX4 yX4_countBests yX4_countBests, Cond.code yX4_countBests cX4_countBests 4 none, Cond.methodLink RX4 54 Lib.MathLoose.max_long.x, Cond.methodLink RX4 47 yX4_byStopping, Cond.instanceMethod yX4_byStopping, Cond.selects RX4 yX4_byStopping yX4_byStopping, Cond.code yX4_byStopping cX4_byStopping 3 (some .long), Cond.methodLink RX4 60 yX0_countWords, Cond.methodLink RX4 51 yX4_byGoingOn, Cond.instanceMethod yX4_byGoingOn, Cond.selects RX4 yX4_byGoingOn yX4_byGoingOn, Cond.code yX4_byGoingOn cX4_byGoingOn 3 (some .long), Cond.methodLink RX4 64 yX0_sumOverSlots, Cond.methodLink RL 190 yX9_best, Cond.instanceMethod yX9_best, Cond.selects RX9 yX9_best yX9_best, Cond.code yX9_best cX9_best 3 (some .long), Cond.methodLink RX9 166 yX9_plays, Cond.instanceMethod yX9_plays, Cond.selects RX9 yX9_plays yX9_plays, Cond.code yX9_plays cX9_plays 6 none]
def wsL_law_0_r34 : List Cond := [Cond.methodLink RL 191 yL_stops, Cond.static yL_stops, Cond.codeWith yL_stops cL_stops 5 (some .int) [(0, 17, 20, 19), (0, 17, 24, 13)], Cond.methodLink RL 93 yX8_stops, Cond.instanceMethod yX8_stops, Cond.selects RX8 yX8_stops yX8_stops, Cond.code yX8_stops cX8_stops 3 (some .boolean), Cond.methodLink RX8 191 yX4_isBestToStop, Cond.instanceMethod yX4_isBestToStop, Cond.selects RX4 yX4_isBestToStop yX4_isBestToStop, Cond.code yX4_isBestToStop cX4_isBestToStop 3 (some .boolean), Cond.methodLink RL 193 yX9_stops, Cond.instanceMethod yX9_stops, Cond.selects RX9 yX9_stops yX9_stops, Cond.code yX9_stops cX9_stops 3 (some .boolean), Cond.methodLink RL 194 yX8_reverses, Cond.instanceMethod yX8_reverses, Cond.selects RX8 yX8_reverses yX8_reverses, Cond.code yX8_reverses cX8_reverses 1 (some .boolean), Cond.methodLink RX8 194 yX7_isTheSameBackwards, Cond.instanceMethod yX7_isTheSameBackwards, Cond.selects RX7 yX7_isTheSameBackwards yX7_isTheSameBackwards, Cond.code yX7_isTheSameBackwards cX7_isTheSameBackwards 3 (some .boolean), Cond.methodLink RX7 63 yX7_wholeRest]
def wsL_law_0_r35 : List Cond := [Cond.methodLink RL 197 yX9_reverses, Cond.instanceMethod yX9_reverses, Cond.selects RX9 yX9_reverses yX9_reverses, Cond.code yX9_reverses cX9_reverses 4 (some .boolean), Cond.methodLink RL 198 yX8_isLumped, Cond.instanceMethod yX8_isLumped, Cond.selects RX8 yX8_isLumped yX8_isLumped, Cond.code yX8_isLumped cX8_isLumped 1 (some .boolean), Cond.methodLink RX8 198 yX6_isChainLumped, Cond.instanceMethod yX6_isChainLumped, Cond.selects RX6 yX6_isChainLumped yX6_isChainLumped, Cond.code yX6_isChainLumped cX6_isChainLumped 3 (some .boolean), Cond.fieldLink RX6 25 "ChanceHall$Chain" "states" "I", Cond.methodLink RX6 31 yX6_leadAlike, Cond.instanceMethod yX6_leadAlike, Cond.selects RX6 yX6_leadAlike yX6_leadAlike, Cond.code yX6_leadAlike cX6_leadAlike 4 (some .boolean), Cond.methodLink RX6 35 yX6_weightTo, Cond.instanceMethod yX6_weightTo, Cond.selects RX6 yX6_weightTo yX6_weightTo, Cond.code yX6_weightTo cX6_weightTo 5 (some .int), Cond.fieldLink RX6 39 "ChanceHall$Chain" "weights" "[[I", Cond.methodLink RL 201 yX9_isLumped, Cond.instanceMethod yX9_isLumped]
def wsL_law_0_r36 : List Cond := [Cond.selects RX9 yX9_isLumped yX9_isLumped, Cond.code yX9_isLumped cX9_isLumped 5 (some .boolean), Cond.methodLink RX9 169 yX9_weighColour, Cond.instanceMethod yX9_weighColour, Cond.selects RX9 yX9_weighColour yX9_weighColour, Cond.code yX9_weighColour cX9_weighColour 5 (some .int)]
def wsL_law_0 : List Cond := (wsL_law_0_r1 ++ (wsL_law_0_r2 ++ (wsL_law_0_r3 ++ (wsL_law_0_r4 ++ (wsL_law_0_r5 ++ (wsL_law_0_r6 ++ (wsL_law_0_r7 ++ (wsL_law_0_r8 ++ (wsL_law_0_r9 ++ (wsL_law_0_r10 ++ (wsL_law_0_r11 ++ (wsL_law_0_r12 ++ (wsL_law_0_r13 ++ (wsL_law_0_r14 ++ (wsL_law_0_r15 ++ (wsL_law_0_r16 ++ (wsL_law_0_r17 ++ (wsL_law_0_r18 ++ (wsL_law_0_r19 ++ (wsL_law_0_r20 ++ (wsL_law_0_r21 ++ (wsL_law_0_r22 ++ (wsL_law_0_r23 ++ (wsL_law_0_r24 ++ (wsL_law_0_r25 ++ (wsL_law_0_r26 ++ (wsL_law_0_r27 ++ (wsL_law_0_r28 ++ (wsL_law_0_r29 ++ (wsL_law_0_r30 ++ (wsL_law_0_r31 ++ (wsL_law_0_r32 ++ (wsL_law_0_r33 ++ (wsL_law_0_r34 ++ (wsL_law_0_r35 ++ wsL_law_0_r36))))))))))))))))))))))))))))))))))) ++ wsX80 ++ wsX90 ++ wsX00 ++ wsX50 ++ wsX20 ++ wsX10 ++ wsX70 ++ wsX30 ++ wsX40 ++ wsX60 ++ ([] : List Cond)
def wsL_law_ : List Cond := wsL_law_0 ++ (vx_atS RX8 212 "java/lang/IllegalArgumentException" ["java/lang/RuntimeException", "java/lang/Exception"]).filter goodWord ++ (vx_atS RX8 167 "java/lang/IndexOutOfBoundsException" ["java/lang/RuntimeException", "java/lang/Exception"]).filter goodWord ++ (vx_atS RX8 160 "java/lang/IllegalStateException" ["java/lang/RuntimeException", "java/lang/Exception"]).filter goodWord
end
section
abbrev vwCl : List vw_C := [(RX0, TX0, 4), (RX1, TX1, 1), (RX2, TX2, 3), (RX3, TX3, 3), (RX4, TX4, 3), (RX5, TX5, 3), (RX6, TX6, 2), (RX7, TX7, 4), (RX8, TX8, 8), (RX9, TX9, 13)]
-- ===== worlds in blocks: a world is the flattening of a list of blocks; own rows =====
theorem bl_get : ∀ {BL : List va_W} {B : va_W} {b i : Nat} {q : Nat × va_E}, BL[b]? = some B → B[i]? = some q → ∃ q0 : Nat, BL.flatten[q0]? = some q ∧ ∀ z : Nat × va_E, BL.flatten.set q0 z = (BL.set b (B.set i z)).flatten := by
  intro BL
  induction BL with
  | nil => intro B b i q h; simp at h
  | cons X BL ih =>
    intro B b i q hb hi
    cases b with
    | zero =>
      have e : X = B := by simpa using hb
      subst e
      have hl : i < X.length := (List.getElem?_eq_some_iff.mp hi).1
      refine ⟨i, ?_, fun z => ?_⟩
      · rw [List.flatten_cons, List.getElem?_append_left hl]; exact hi
      · rw [List.flatten_cons, List.set_append_left _ _ hl]; rfl
    | succ b =>
      have hb' : BL[b]? = some B := by simpa using hb
      obtain ⟨q0, h1, h2⟩ := ih hb' hi
      refine ⟨X.length + q0, ?_, fun z => ?_⟩
      · rw [List.flatten_cons, List.getElem?_append_right (Nat.le_add_right _ _), Nat.add_sub_cancel_left]; exact h1
      · rw [List.flatten_cons, List.set_append_right _ _ (Nat.le_add_right _ _), Nat.add_sub_cancel_left, h2]; rfl
theorem vP_mem {D : va_G} {cl : List vw_C} {ws : va_W} {H : Heap} : va_P D cl ws H ↔ ∀ q ∈ ws, va_at D cl q H :=
  ⟨fun h q hq => by obtain ⟨k, hk⟩ := List.getElem?_of_mem hq; exact h k q hk, fun h k q hk => h q (List.mem_of_getElem? hk)⟩
theorem vP_app {D : va_G} {cl : List vw_C} {a b : va_W} {H : Heap} : va_P D cl (a ++ b) H ↔ va_P D cl a H ∧ va_P D cl b H := by
  rw [vP_mem, vP_mem, vP_mem]
  exact ⟨fun h => ⟨fun q hq => h q (List.mem_append_left _ hq), fun q hq => h q (List.mem_append_right _ hq)⟩, fun h q hq => (List.mem_append.mp hq).elim (h.1 q) (h.2 q)⟩
theorem vD_mem {A : Nat → Prop} {ws : va_W} : va_D A ws ↔ (ws.map Prod.fst).Nodup ∧ ∀ q ∈ ws, A q.1 := by
  constructor
  · intro h
    refine ⟨?_, fun q hq => by obtain ⟨k, hk⟩ := List.getElem?_of_mem hq; exact h.2 k q hk⟩
    rw [List.Nodup, List.pairwise_iff_getElem]
    intro i j hi hj hij e
    have hi' : i < ws.length := by simpa using hi
    have hj' : j < ws.length := by simpa using hj
    have := h.1 j i ws[j] ws[i] (List.getElem?_eq_getElem hj') (List.getElem?_eq_getElem hi') (by simpa using e.symm)
    omega
  · intro h
    refine ⟨fun i j p q hi hj e => ?_, fun k q hk => h.2 q (List.mem_of_getElem? hk)⟩
    obtain ⟨hi', ei⟩ := List.getElem?_eq_some_iff.mp hi
    obtain ⟨hj', ej⟩ := List.getElem?_eq_some_iff.mp hj
    have h1 := h.1
    rw [List.Nodup, List.pairwise_iff_getElem] at h1
    rcases Nat.lt_trichotomy i j with q1 | q1 | q1
    · exact (h1 i j (by simpa using hi') (by simpa using hj') q1 (by simp [ei, ej, e])).elim
    · exact q1
    · exact (h1 j i (by simpa using hj') (by simpa using hi') q1 (by simp [ei, ej, e])).elim
theorem vP_perm {D : va_G} {cl : List vw_C} {ws ws' : va_W} {H : Heap} (hp : ws.Perm ws') (h : va_P D cl ws H) : va_P D cl ws' H :=
  vP_mem.mpr fun q hq => vP_mem.mp h q (hp.mem_iff.mpr hq)
theorem vD_perm {A : Nat → Prop} {ws ws' : va_W} (hp : ws.Perm ws') (h : va_D A ws) : va_D A ws' :=
  vD_mem.mpr ⟨(hp.map Prod.fst).nodup_iff.mp (vD_mem.mp h).1, fun q hq => (vD_mem.mp h).2 q (hp.mem_iff.mpr hq)⟩
theorem vA_mem {ws : va_W} {sz q : Nat} : va_A ws sz q ↔ (∃ e, (q, e) ∈ ws) ∨ sz ≤ q := by
  constructor
  · rintro (⟨k, e, h⟩ | h)
    · exact Or.inl ⟨e, List.mem_of_getElem? h⟩
    · exact Or.inr h
  · rintro (⟨e, h⟩ | h)
    · obtain ⟨k, hk⟩ := List.getElem?_of_mem h
      exact Or.inl ⟨k, e, hk⟩
    · exact Or.inr h
/-- blocks put at places -/
def putB (BL : List va_W) : List Nat → List va_W → List va_W
  | i :: is, c :: cs => putB (BL.set i c) is cs
  | _, _ => BL
theorem bl_out : ∀ {BL : List va_W} {i : Nat} {c : va_W}, BL[i]? = some c → BL.flatten.Perm (c ++ (BL.set i []).flatten) := by
  intro BL
  induction BL with
  | nil => intro i c h; simp at h
  | cons X BL ih =>
    intro i c h
    cases i with
    | zero =>
      have e : X = c := by simpa using h
      subst e
      exact List.Perm.refl _
    | succ i =>
      have h' : BL[i]? = some c := by simpa using h
      have h1 : (X :: BL).flatten.Perm (X ++ (c ++ (BL.set i []).flatten)) := by
        rw [List.flatten_cons]
        exact List.Perm.append_left X (ih h')
      refine h1.trans ?_
      show (X ++ (c ++ (BL.set i []).flatten)).Perm (c ++ (X :: BL.set i []).flatten)
      rw [List.flatten_cons, ← List.append_assoc, ← List.append_assoc]
      exact List.Perm.append_right _ List.perm_append_comm
theorem set_nil {BL : List va_W} {i : Nat} (h : BL[i]? = some []) (c : va_W) : (BL.set i c).set i [] = BL := by
  rw [List.set_set]
  apply List.ext_getElem?
  intro j
  by_cases e : i = j
  · subst e
    have hl := (List.getElem?_eq_some_iff.mp h).1
    rw [List.getElem?_set_self hl, h]
  · rw [List.getElem?_set_ne e]
theorem bl_in {BL : List va_W} {i : Nat} (h : BL[i]? = some []) (c : va_W) : (BL.set i c).flatten.Perm (c ++ BL.flatten) := by
  have hl := (List.getElem?_eq_some_iff.mp h).1
  have h1 : (BL.set i c)[i]? = some c := List.getElem?_set_self hl
  have := bl_out h1
  rw [set_nil h] at this
  exact this
theorem putB_set : ∀ (is : List Nat) (cs : List va_W) (BL : List va_W) (i : Nat) (c : va_W), i ∉ is → putB (BL.set i c) is cs = (putB BL is cs).set i c := by
  intro is
  induction is with
  | nil => intro cs BL i c _; cases cs <;> rfl
  | cons j is ih =>
    intro cs BL i c hi
    cases cs with
    | nil => rfl
    | cons d cs =>
      have hij : i ≠ j := fun e => hi (by rw [e]; exact List.mem_cons_self)
      show putB ((BL.set i c).set j d) is cs = (putB (BL.set j d) is cs).set i c
      rw [List.set_comm c d hij, ih cs _ i c (fun h => hi (List.mem_cons_of_mem _ h))]
theorem putB_get : ∀ (is : List Nat) (cs : List va_W) (BL : List va_W) (i : Nat), i ∉ is → (putB BL is cs)[i]? = BL[i]? := by
  intro is
  induction is with
  | nil => intro cs BL i _; cases cs <;> rfl
  | cons j is ih =>
    intro cs BL i hi
    cases cs with
    | nil => rfl
    | cons d cs =>
      have hij : j ≠ i := fun e => hi (by rw [e]; exact List.mem_cons_self)
      show (putB (BL.set j d) is cs)[i]? = BL[i]?
      rw [ih cs _ i (fun h => hi (List.mem_cons_of_mem _ h)), List.getElem?_set_ne hij]
theorem bl_split : ∀ (isC : List Nat) (BL CL : List va_W), isC.map (fun i => BL[i]?) = CL.map some → va_nd isC = true → ∃ RL : va_W, BL.flatten.Perm (CL.flatten ++ RL) ∧ ∀ CL1 : List va_W, CL1.length = CL.length → (putB BL isC CL1).flatten.Perm (CL1.flatten ++ RL) := by
  intro isC
  induction isC with
  | nil =>
    intro BL CL hC _
    cases CL with
    | nil =>
      refine ⟨BL.flatten, List.Perm.refl _, fun CL1 h => ?_⟩
      cases CL1 with
      | nil => exact List.Perm.refl _
      | cons c cs => simp at h
    | cons c cs => simp at hC
  | cons i is ih =>
    intro BL CL hC hn
    cases CL with
    | nil => simp at hC
    | cons c cs =>
      have hc : BL[i]? = some c := by
        have := congrArg (fun l => l.head?) hC
        simpa using this
      have hcs : is.map (fun i => BL[i]?) = cs.map some := by
        have := congrArg (fun l => l.tail) hC
        simpa using this
      have hi : i ∉ is := by
        have : (decide (i ∉ is) && va_nd is) = true := hn
        exact of_decide_eq_true (Bool.and_eq_true _ _ ▸ this).1
      have hn' : va_nd is = true := by
        have : (decide (i ∉ is) && va_nd is) = true := hn
        exact (Bool.and_eq_true _ _ ▸ this).2
      have hl := (List.getElem?_eq_some_iff.mp hc).1
      have h0 : is.map (fun j => (BL.set i [])[j]?) = cs.map some := by
        rw [← hcs]
        apply List.map_congr_left
        intro j hj
        have hij : i ≠ j := fun e => hi (by rw [e]; exact hj)
        exact List.getElem?_set_ne hij
      obtain ⟨RL, r1, r2⟩ := ih (BL.set i []) cs h0 hn'
      refine ⟨RL, ?_, fun CL1 hl1 => ?_⟩
      · refine (bl_out hc).trans ?_
        rw [List.flatten_cons, List.append_assoc]
        exact List.Perm.append_left c r1
      · cases CL1 with
        | nil => simp at hl1
        | cons c1 cs1 =>
          have hl2 : cs1.length = cs.length := by simpa using hl1
          have e1 : putB BL (i :: is) (c1 :: cs1) = (putB (BL.set i []) is cs1).set i c1 := by
            show putB (BL.set i c1) is cs1 = _
            rw [← putB_set is cs1 _ i c1 hi, List.set_set]
          have e2 : (putB (BL.set i []) is cs1)[i]? = some [] := by
            rw [putB_get is cs1 _ i hi]
            exact List.getElem?_set_self hl
          rw [e1, List.flatten_cons, List.append_assoc]
          exact (bl_in e2 c1).trans (List.Perm.append_left c1 (r2 cs1 hl2))
theorem bl_cutP {D : va_G} {cl : List vw_C} {BL CL : List va_W} {H : Heap} (hP : va_P D cl BL.flatten H) (isC : List Nat) (hC : isC.map (fun i => BL[i]?) = CL.map some) (hn : va_nd isC = true) : va_P D cl CL.flatten H := by
  obtain ⟨RL, r1, -⟩ := bl_split isC BL CL hC hn
  exact (vP_app.mp (vP_perm r1 hP)).1
theorem bl_cutD {A : Nat → Prop} {BL CL : List va_W} (hD : va_D A BL.flatten) (isC : List Nat) (hC : isC.map (fun i => BL[i]?) = CL.map some) (hn : va_nd isC = true) : va_D A CL.flatten := by
  obtain ⟨RL, r1, -⟩ := bl_split isC BL CL hC hn
  have h := vD_mem.mp (vD_perm r1 hD)
  refine vD_mem.mpr ⟨?_, fun q hq => h.2 q (List.mem_append_left _ hq)⟩
  have h1 := h.1
  rw [List.map_append, List.nodup_append] at h1
  exact h1.1
theorem bl_free {A0 : Nat → Prop} {BL CL : List va_W} {H0 H : Heap} {locs : List Loc} (hD : va_D A0 BL.flatten) (hS : va_S A0 H0 H locs) (hA : ∀ q, H0.size ≤ q → A0 q) (isC : List Nat) (hC : isC.map (fun i => BL[i]?) = CL.map some) (hn : va_nd isC = true) : ∀ q, va_A CL.flatten H.size q → A0 q := by
  intro q hq
  rcases vA_mem.mp hq with ⟨e, h⟩ | h
  · exact (vD_mem.mp (bl_cutD hD isC hC hn)).2 (q, e) h
  · exact hA q (Nat.le_trans hS.1 h)
theorem bl_join {A0 : Nat → Prop} {D : va_G} {cl : List vw_C} {BL CL CL1 : List va_W} {H H1 : Heap} (hP : va_P D cl BL.flatten H) (hD : va_D A0 BL.flatten) (isC : List Nat) (hC : isC.map (fun i => BL[i]?) = CL.map some) (hn : va_nd isC = true) (hl : CL1.length = CL.length)
    (hk : ∀ q : Nat, q < H.size → ¬ va_A CL.flatten H.size q → H1[q]? = H[q]?) (hF : ∀ q, va_A CL.flatten H.size q → A0 q) (hP1 : va_P D cl CL1.flatten H1) (hD1 : va_D (va_A CL.flatten H.size) CL1.flatten) : va_P D cl (putB BL isC CL1).flatten H1 ∧ va_D A0 (putB BL isC CL1).flatten := by
  obtain ⟨RL, r1, r2⟩ := bl_split isC BL CL hC hn
  have hP' := vP_app.mp (vP_perm r1 hP)
  have hD' := vD_mem.mp (vD_perm r1 hD)
  have hnd := hD'.1
  rw [List.map_append, List.nodup_append] at hnd
  have hlt : ∀ q ∈ RL, q.1 < H.size := fun q hq => (vP_mem.mp hP'.2 q hq).lt
  have hout : ∀ q ∈ RL, ¬ va_A CL.flatten H.size q.1 := by
    intro q hq h
    rcases vA_mem.mp h with ⟨e, h⟩ | h
    · exact hnd.2.2 q.1 (List.mem_map.mpr ⟨(q.1, e), h, rfl⟩) q.1 (List.mem_map.mpr ⟨q, hq, rfl⟩) rfl
    · exact absurd (hlt q hq) (Nat.not_lt.mpr h)
  have hD1' := vD_mem.mp hD1
  refine ⟨vP_perm (r2 CL1 hl).symm (vP_app.mpr ⟨hP1, vP_mem.mpr fun q hq => (vP_mem.mp hP'.2 q hq).kept (hk q.1 (hlt q hq) (hout q hq))⟩), vD_perm (r2 CL1 hl).symm (vD_mem.mpr ⟨?_, fun q hq => ?_⟩)⟩
  · rw [List.map_append, List.nodup_append]
    refine ⟨hD1'.1, hnd.2.1, fun a ha b hb e => ?_⟩
    obtain ⟨x, hx, rfl⟩ := List.mem_map.mp ha
    obtain ⟨y, hy, rfl⟩ := List.mem_map.mp hb
    exact hout y hy (e ▸ hD1'.2 x hx)
  · rcases List.mem_append.mp hq with h | h
    · exact hF q.1 (hD1'.2 q h)
    · exact hD'.2 q (List.mem_append_right _ h)
-- the array classes: int, long, int[], long[], double
abbrev tyz (cY : Nat → ClassId) : List (ClassId × FieldType) := [(cY 0, .int), (cY 1, .long), (cY 2, .array .int), (cY 3, .array .long), (cY 4, .double)]
/-- rows of ints; rows of longs; the outer array over rows -/
def gI (cA : ClassId) (r : Nat → Nat) (n : Nat) (M : Nat → Nat → Int32) (N : Nat) : va_W := (List.range N).map (fun j => (r j, .inl (cA, n, .inl (M j))))
def gJ (cA : ClassId) (r : Nat → Nat) (n : Nat) (M : Nat → Nat → Int64) (N : Nat) : va_W := (List.range N).map (fun j => (r j, .inl (cA, n, .inr (.inl (M j)))))
def oQ (cA : ClassId) (q : Nat) (r : Nat → Nat) (N : Nat) : va_W := [(q, .inl (cA, N, .inr (.inr (.inr (.inr (fun i => if i < N then some (r i) else none))))))]
theorem gI_get {cA : ClassId} {r : Nat → Nat} {n : Nat} {M : Nat → Nat → Int32} {N j : Nat} (h : j < N) : (gI cA r n M N)[j]? = some (r j, .inl (cA, n, .inl (M j))) := by
  unfold gI; rw [List.getElem?_map, List.getElem?_range h]; rfl
theorem gJ_get {cA : ClassId} {r : Nat → Nat} {n : Nat} {M : Nat → Nat → Int64} {N j : Nat} (h : j < N) : (gJ cA r n M N)[j]? = some (r j, .inl (cA, n, .inr (.inl (M j)))) := by
  unfold gJ; rw [List.getElem?_map, List.getElem?_range h]; rfl
theorem gI_set {cA : ClassId} {r : Nat → Nat} {n : Nat} {M : Nat → Nat → Int32} {N j : Nat} {f : Nat → Int32} (h : j < N) : (gI cA r n M N).set j (r j, .inl (cA, n, .inl f)) = gI cA r n (va_up M j f) N := by
  apply List.ext_getElem?
  intro i
  by_cases e : j = i
  · subst e
    rw [List.getElem?_set_self (by unfold gI; simpa using h), gI_get h, va_up_self]
  · rw [List.getElem?_set_ne e]
    by_cases hi : i < N
    · rw [gI_get hi, gI_get hi, va_up_ne _ _ (Ne.symm e)]
    · rw [List.getElem?_eq_none (by unfold gI; simpa using hi), List.getElem?_eq_none (by unfold gI; simpa using hi)]
theorem gJ_set {cA : ClassId} {r : Nat → Nat} {n : Nat} {M : Nat → Nat → Int64} {N j : Nat} {f : Nat → Int64} (h : j < N) : (gJ cA r n M N).set j (r j, .inl (cA, n, .inr (.inl f))) = gJ cA r n (va_up M j f) N := by
  apply List.ext_getElem?
  intro i
  by_cases e : j = i
  · subst e
    rw [List.getElem?_set_self (by unfold gJ; simpa using h), gJ_get h, va_up_self]
  · rw [List.getElem?_set_ne e]
    by_cases hi : i < N
    · rw [gJ_get hi, gJ_get hi, va_up_ne _ _ (Ne.symm e)]
    · rw [List.getElem?_eq_none (by unfold gJ; simpa using hi), List.getElem?_eq_none (by unfold gJ; simpa using hi)]
-- loops
theorem lpW {P : Nat → Prop} (N : Nat) (h : ∀ i, i ≤ N → (i < N → P (i + 1)) → P i) : ∀ i, i ≤ N → P i := by
  have key : ∀ d i, i ≤ N → N - i = d → P i := by
    intro d
    induction d with
    | zero => intro i hi e; exact h i hi (fun q => by omega)
    | succ d ih => intro i hi e; exact h i hi (fun q => ih (i + 1) q (by omega))
  exact fun i hi => key _ i hi rfl
theorem lpD {P : Nat → Prop} (h : ∀ i, (∀ j, i = j + 1 → P j) → P i) : ∀ i, P i := by
  intro i
  induction i with
  | zero => exact h 0 (fun j e => by omega)
  | succ i ih => exact h (i + 1) (fun j e => by have : j = i := by omega
                                                subst this; exact ih)
/-- a boolean as an int -/
def bI (b : Bool) : Int32 := if b then nI 1 else nI 0
end
section
-- ===== rows over worlds in blocks =====
abbrev cW (D : va_G) (cY : Nat → ClassId) (A : Nat → Prop) (BL : List va_W) (t : State) : Prop := va_P D vwCl BL.flatten t.heap ∧ va_K D vwCl (tyz cY) t ∧ va_D A BL.flatten
abbrev cP (D : va_G) (cY : Nat → ClassId) (av : List Value) (BL : List va_W) (sz : Nat) : Array Value → State → Prop := va_Pc av (fun U => U.heap.size = sz ∧ va_P D vwCl BL.flatten U.heap ∧ va_K D vwCl (tyz cY) U ∧ va_D (fun _ => True) BL.flatten)
abbrev qI {S : Type} (D : va_G) (cY : Nat → ClassId) (post : Int32 → S → Prop) (B : S → List va_W) (A : Nat → Prop) := va_Qi post (fun u t => cW D cY A (B u) t) A
abbrev qL {S : Type} (D : va_G) (cY : Nat → ClassId) (post : Int64 → S → Prop) (B : S → List va_W) (A : Nat → Prop) := va_Ql post (fun u t => cW D cY A (B u) t) A
abbrev qF {S : Type} (D : va_G) (cY : Nat → ClassId) (post : UInt32 → S → Prop) (B : S → List va_W) (A : Nat → Prop) := va_Qf post (fun u t => cW D cY A (B u) t) A
abbrev qV {S : Type} (D : va_G) (cY : Nat → ClassId) (post : S → Prop) (B : S → List va_W) (A : Nat → Prop) := va_Qv post (fun u t => cW D cY A (B u) t) A
theorem cP_blind {D : va_G} {cY : Nat → ClassId} {av : List Value} {BL : List va_W} {sz : Nat} : FrameBlind (cP D cY av BL sz) := fun a U g mk q => by
  obtain ⟨q0, q1, qP, qK, qD⟩ := q
  exact ⟨q0, q1, qP, va_K.moved (u := U) (U := U.calling g mk a) (Vm.Alike.refl U.vm) qK, qD⟩
theorem mtB {l : Launch} {y : MethodName} {ws ws' : List Cond} {rm : Room} {cc : ByteArray} {maxL : Nat} {ret : Option FieldType} {D : va_G} {cY : Nat → ClassId} {av : List Value} {BL : List va_W} {sz : Nat} {Qc : (Nat → Prop) → Array Value → State → Outcome → State → Prop} {mc ms : Nat} (hy : plainName y.cls = true) (hw : ws = Cond.code y cc maxL ret :: ws') (hlen : (lg_sl av).length ≤ maxL)
    (body : ∀ (p : Program) (e : Env) (s : State) (m : MethodId) (below : List Frame) (meth : Method) (c : Code) (A : Nat → Prop) (ls : Array Slot), p.tables.exec = Jvm.exec → c.code = cc → meth.sig.returnType = ret → c.maxLocals = maxL → (∀ w ∈ ws, w.before av.toArray s = true) → s.vm.findClass y.cls = some m.cls → meth.locks = false → meth.name = y.name → s.heap.size = sz → va_P D vwCl BL.flatten s.heap → va_K D vwCl (tyz cY) s → va_D A BL.flatten → va_S A s.heap s.heap [] → (∀ q, s.heap.size ≤ q → A q) → lv_has ls maxL (lv_args 0 av) → W p l e rm s m av.toArray below meth c s.heap [] 0 0 (MQ below (Qc A) av.toArray s mc ms A) (F0 m 0 ls [])) :
    Met l y ws rm (cP D cY av BL sz) (Qc (va_A BL.flatten sz)) mc ms (va_A BL.flatten sz) := by
  refine Met.ofW (cc := cc) (maxL := maxL) (ret := ret) hy hw ?_
  intro p e s m args below meth c s₁ B hml hv
  obtain ⟨rfl, hsz, hP, hK, hD0⟩ := hv
  have hts := atoms_spec (ws := ws) B.pre
  have hl := lv_entry av (n := maxL) hlen
  rw [lg_entry_eq]
  exact body p e s m below meth c _ _ B.exec B.bytes B.returns hml hts (findClass_of_methodNamed B.named) B.notSynchronized (name_of_methodNamed B.named B.method).1 hsz hP hK hD0.self va_S.rf (fun q h => Or.inr (hsz ▸ h)) hl
section MyRows
variable {p : Program} {l : Launch} {e : Env} {R : Room} {s : State} {m : MethodId} {args : Array Value} {below : List Frame} {meth : Method} {c : Code} {H : Heap} {locs : List Loc} {cells slots : Nat} {Q : State → Prop}
variable {cc : ByteArray} {pc : Nat} {ls : Array Slot} {rest st0 : List Value} {D : va_G} {cY : Nat → ClassId} {A : Nat → Prop} {a : Nat} {tys : List (ClassId × FieldType)} {BL CL : List va_W} {H0 : Heap}
theorem eqi {x x' : Int32} (h : x = x') (k : W p l e R s m args below meth c H locs cells slots Q (F0 m pc ls (.int x' :: rest))) : W p l e R s m args below meth c H locs cells slots Q (F0 m pc ls (.int x :: rest)) := by subst h; exact k
theorem eql {x x' : Int64} (h : x = x') (k : W p l e R s m args below meth c H locs cells slots Q (F0 m pc ls (.long x' :: rest))) : W p l e R s m args below meth c H locs cells slots Q (F0 m pc ls (.long x :: rest)) := by subst h; exact k
theorem eqs {st st' : List Value} (h : st = st') (k : W p l e R s m args below meth c H locs cells slots Q (F0 m pc ls st')) : W p l e R s m args below meth c H locs cells slots Q (F0 m pc ls st) := by subst h; exact k
theorem n_icmp_ge (hx : p.tables.exec = Jvm.exec) (hb : c.code = cc) {x y : Nat} {off : Int} {tgt : Nat} (hdg : decode cc pc = .ok (.if_icmp .ge off, 3)) (ht : (pc : Int) + off = (tgt : Int)) (bx : x < 2 ^ 31) (bY : y < 2 ^ 31)
    (kt : y ≤ x → W p l e R s m args below meth c H locs cells slots Q (F0 m tgt ls rest)) (kf : x < y → W p l e R s m args below meth c H locs cells slots Q (F0 m (pc + 3) ls rest)) : W p l e R s m args below meth c H locs cells slots Q (F0 m pc ls (.int (nI y) :: .int (nI x) :: rest)) :=
  lv_icmp_ge hx hb hdg ht (fun h => kt ((nI_leI bY bx).mp h)) (fun h => kf (Nat.not_le.mp (fun q => h ((nI_leI bY bx).mpr q))))
theorem n_icmp_gt (hx : p.tables.exec = Jvm.exec) (hb : c.code = cc) {x y : Nat} {off : Int} {tgt : Nat} (hdg : decode cc pc = .ok (.if_icmp .gt off, 3)) (ht : (pc : Int) + off = (tgt : Int)) (bx : x < 2 ^ 31) (bY : y < 2 ^ 31)
    (kt : y < x → W p l e R s m args below meth c H locs cells slots Q (F0 m tgt ls rest)) (kf : x ≤ y → W p l e R s m args below meth c H locs cells slots Q (F0 m (pc + 3) ls rest)) : W p l e R s m args below meth c H locs cells slots Q (F0 m pc ls (.int (nI y) :: .int (nI x) :: rest)) :=
  lv_icmp_gt hx hb hdg ht (fun h => kt ((nI_ltI bY bx).mp h)) (fun h => kf (Nat.not_lt.mp (fun q => h ((nI_ltI bY bx).mpr q))))
theorem n_icmp_lt (hx : p.tables.exec = Jvm.exec) (hb : c.code = cc) {x y : Nat} {off : Int} {tgt : Nat} (hdg : decode cc pc = .ok (.if_icmp .lt off, 3)) (ht : (pc : Int) + off = (tgt : Int)) (bx : x < 2 ^ 31) (bY : y < 2 ^ 31)
    (kt : x < y → W p l e R s m args below meth c H locs cells slots Q (F0 m tgt ls rest)) (kf : y ≤ x → W p l e R s m args below meth c H locs cells slots Q (F0 m (pc + 3) ls rest)) : W p l e R s m args below meth c H locs cells slots Q (F0 m pc ls (.int (nI y) :: .int (nI x) :: rest)) :=
  lv_icmp_lt hx hb hdg ht (fun h => kt ((nI_ltI bx bY).mp h)) (fun h => kf (Nat.not_lt.mp (fun q => h ((nI_ltI bx bY).mpr q))))
theorem n_icmp_le (hx : p.tables.exec = Jvm.exec) (hb : c.code = cc) {x y : Nat} {off : Int} {tgt : Nat} (hdg : decode cc pc = .ok (.if_icmp .le off, 3)) (ht : (pc : Int) + off = (tgt : Int)) (bx : x < 2 ^ 31) (bY : y < 2 ^ 31)
    (kt : x ≤ y → W p l e R s m args below meth c H locs cells slots Q (F0 m tgt ls rest)) (kf : y < x → W p l e R s m args below meth c H locs cells slots Q (F0 m (pc + 3) ls rest)) : W p l e R s m args below meth c H locs cells slots Q (F0 m pc ls (.int (nI y) :: .int (nI x) :: rest)) :=
  lv_icmp_le hx hb hdg ht (fun h => kt ((nI_leI bx bY).mp h)) (fun h => kf (Nat.not_le.mp (fun q => h ((nI_leI bx bY).mpr q))))
theorem n_icmp_eq (hx : p.tables.exec = Jvm.exec) (hb : c.code = cc) {x y : Nat} {off : Int} {tgt : Nat} (hdg : decode cc pc = .ok (.if_icmp .eq off, 3)) (ht : (pc : Int) + off = (tgt : Int)) (bx : x < 2 ^ 31) (bY : y < 2 ^ 31)
    (kt : x = y → W p l e R s m args below meth c H locs cells slots Q (F0 m tgt ls rest)) (kf : x ≠ y → W p l e R s m args below meth c H locs cells slots Q (F0 m (pc + 3) ls rest)) : W p l e R s m args below meth c H locs cells slots Q (F0 m pc ls (.int (nI y) :: .int (nI x) :: rest)) :=
  lv_icmp_eq hx hb hdg ht (fun h => kt ((nI_eq bx bY).mp h)) (fun h => kf (fun q => h ((nI_eq bx bY).mpr q)))
theorem n_icmp_ne (hx : p.tables.exec = Jvm.exec) (hb : c.code = cc) {x y : Nat} {off : Int} {tgt : Nat} (hdg : decode cc pc = .ok (.if_icmp .ne off, 3)) (ht : (pc : Int) + off = (tgt : Int)) (bx : x < 2 ^ 31) (bY : y < 2 ^ 31)
    (kt : x ≠ y → W p l e R s m args below meth c H locs cells slots Q (F0 m tgt ls rest)) (kf : x = y → W p l e R s m args below meth c H locs cells slots Q (F0 m (pc + 3) ls rest)) : W p l e R s m args below meth c H locs cells slots Q (F0 m pc ls (.int (nI y) :: .int (nI x) :: rest)) :=
  lv_icmp_ne hx hb hdg ht (fun h => kt (fun q => h ((nI_eq bx bY).mpr q))) (fun h => kf ((nI_eq bx bY).mp h))
theorem n_if_eq (hx : p.tables.exec = Jvm.exec) (hb : c.code = cc) {x : Nat} {off : Int} {tgt : Nat} (hdg : decode cc pc = .ok (.ifCond .eq off, 3)) (ht : (pc : Int) + off = (tgt : Int)) (bx : x < 2 ^ 31)
    (kt : x = 0 → W p l e R s m args below meth c H locs cells slots Q (F0 m tgt ls rest)) (kf : x ≠ 0 → W p l e R s m args below meth c H locs cells slots Q (F0 m (pc + 3) ls rest)) : W p l e R s m args below meth c H locs cells slots Q (F0 m pc ls (.int (nI x) :: rest)) :=
  lv_if_eq hx hb hdg ht (fun h => kt ((nI_eq bx (Nat.le_of_ble_eq_true rfl)).mp (h.trans nI_0.symm))) (fun h => kf (fun q => h (by rw [q]; exact nI_0)))
theorem n_if_ne (hx : p.tables.exec = Jvm.exec) (hb : c.code = cc) {x : Nat} {off : Int} {tgt : Nat} (hdg : decode cc pc = .ok (.ifCond .ne off, 3)) (ht : (pc : Int) + off = (tgt : Int)) (bx : x < 2 ^ 31)
    (kt : x ≠ 0 → W p l e R s m args below meth c H locs cells slots Q (F0 m tgt ls rest)) (kf : x = 0 → W p l e R s m args below meth c H locs cells slots Q (F0 m (pc + 3) ls rest)) : W p l e R s m args below meth c H locs cells slots Q (F0 m pc ls (.int (nI x) :: rest)) :=
  lv_if_ne hx hb hdg ht (fun h => kt (fun q => h (by rw [q]; exact nI_0))) (fun h => kf ((nI_eq bx (Nat.le_of_ble_eq_true rfl)).mp (h.trans nI_0.symm)))
theorem n_if_le (hx : p.tables.exec = Jvm.exec) (hb : c.code = cc) {x : Nat} {off : Int} {tgt : Nat} (hdg : decode cc pc = .ok (.ifCond .le off, 3)) (ht : (pc : Int) + off = (tgt : Int)) (bx : x < 2 ^ 31)
    (kt : x = 0 → W p l e R s m args below meth c H locs cells slots Q (F0 m tgt ls rest)) (kf : 0 < x → W p l e R s m args below meth c H locs cells slots Q (F0 m (pc + 3) ls rest)) : W p l e R s m args below meth c H locs cells slots Q (F0 m pc ls (.int (nI x) :: rest)) :=
  lv_if_le hx hb hdg ht (fun h => kt (by rw [← nI_0] at h; have := (nI_leI bx (Nat.le_of_ble_eq_true rfl)).mp h; omega)) (fun h => kf (by rw [← nI_0] at h; have := mt (nI_leI bx (Nat.le_of_ble_eq_true rfl)).mpr h; omega))
theorem n_if_gt (hx : p.tables.exec = Jvm.exec) (hb : c.code = cc) {x : Nat} {off : Int} {tgt : Nat} (hdg : decode cc pc = .ok (.ifCond .gt off, 3)) (ht : (pc : Int) + off = (tgt : Int)) (bx : x < 2 ^ 31)
    (kt : 0 < x → W p l e R s m args below meth c H locs cells slots Q (F0 m tgt ls rest)) (kf : x = 0 → W p l e R s m args below meth c H locs cells slots Q (F0 m (pc + 3) ls rest)) : W p l e R s m args below meth c H locs cells slots Q (F0 m pc ls (.int (nI x) :: rest)) :=
  lv_if_gt hx hb hdg ht (fun h => kt (by rw [← nI_0] at h; exact (nI_ltI (Nat.le_of_ble_eq_true rfl) bx).mp h)) (fun h => kf (by rw [← nI_0] at h; have := mt (nI_ltI (Nat.le_of_ble_eq_true rfl) bx).mpr h; omega))
theorem b_if_eq (hx : p.tables.exec = Jvm.exec) (hb : c.code = cc) {b : Bool} {off : Int} {tgt : Nat} (hdg : decode cc pc = .ok (.ifCond .eq off, 3)) (ht : (pc : Int) + off = (tgt : Int))
    (kt : b = false → W p l e R s m args below meth c H locs cells slots Q (F0 m tgt ls rest)) (kf : b = true → W p l e R s m args below meth c H locs cells slots Q (F0 m (pc + 3) ls rest)) : W p l e R s m args below meth c H locs cells slots Q (F0 m pc ls (.int (bI b) :: rest)) :=
  lv_if_eq hx hb hdg ht (fun h => kt (by cases b; rfl; exact absurd h (by decide))) (fun h => kf (by cases b; exact absurd (by decide) h; rfl))
theorem b_if_ne (hx : p.tables.exec = Jvm.exec) (hb : c.code = cc) {b : Bool} {off : Int} {tgt : Nat} (hdg : decode cc pc = .ok (.ifCond .ne off, 3)) (ht : (pc : Int) + off = (tgt : Int))
    (kt : b = true → W p l e R s m args below meth c H locs cells slots Q (F0 m tgt ls rest)) (kf : b = false → W p l e R s m args below meth c H locs cells slots Q (F0 m (pc + 3) ls rest)) : W p l e R s m args below meth c H locs cells slots Q (F0 m pc ls (.int (bI b) :: rest)) :=
  lv_if_ne hx hb hdg ht (fun h => kt (by cases b; exact absurd (by decide) h; rfl)) (fun h => kf (by cases b; rfl; exact absurd h (by decide)))
-- fields
theorem b_get (hx : p.tables.exec = Jvm.exec) (hb : c.code = cc) {own ref C : String} {T : u_T} {N ci index : Nat} {Ts : List Cond} (hts : ∀ w ∈ Ts, w.before args s = true) (hin : ∀ w ∈ u_ws C T N, w ∈ Ts) (hown : s.vm.findClass own = some m.cls) (hK : va_K D vwCl tys s) (hP : va_P D vwCl BL.flatten H) (b : Nat) {fs : List Value} (he : BL[b]? = some [(a, .inr (ci, fs))]) (hc : vwCl[ci]? = some (C, T, N)) (k : Nat) (hk : k < N) (hlink : (Cond.fieldLink own index ref (T k).2.1 (T k).2.2.1).before args s = true) (hsame : ∀ x, s.fieldFound? (T k).1 (T k).2.1 (T k).2.2.1 = some x → s.fieldFound? ref (T k).2.1 (T k).2.2.1 = some x) {v : Value} (hv : fs[k]? = some v) (hdg : decode cc pc = .ok (.getfield index, 3))
    (kk : W p l e R s m args below meth c H locs cells slots Q (F0 m (pc + 3) ls (v :: rest))) : W p l e R s m args below meth c H locs cells slots Q (F0 m pc ls (.ref a :: rest)) := by
  obtain ⟨q0, h1, -⟩ := bl_get (i := 0) he rfl
  exact va_get hx hb hts hin hown hK hP q0 h1 hc k hk hlink hsame hv hdg kk
theorem b_put (hx : p.tables.exec = Jvm.exec) (hb : c.code = cc) {own ref C : String} {T : u_T} {N ci index : Nat} {Ts : List Cond} (hts : ∀ w ∈ Ts, w.before args s = true) (hin : ∀ w ∈ u_ws C T N, w ∈ Ts) (ty0 : Nat → FieldType) (hty : ∀ k, k < N → parseFieldDescriptor (T k).2.2.1 = some (ty0 k)) (hnm : ∀ a, a < N → ∀ b, b < N → a ≠ b → (T a).2.1 ≠ (T b).2.1) (hown : s.vm.findClass own = some m.cls) (hK : va_K D vwCl tys s) (hP : va_P D vwCl BL.flatten H) (hD : va_D A BL.flatten) (hS0 : va_S A H0 H locs) (b : Nat) {fs : List Value} (he : BL[b]? = some [(a, .inr (ci, fs))]) (hc : vwCl[ci]? = some (C, T, N)) (k : Nat) (hk : k < N) (hlink : (Cond.fieldLink own index ref (T k).2.1 (T k).2.2.1).before args s = true) (hsame : ∀ x, s.fieldFound? (T k).1 (T k).2.1 (T k).2.2.1 = some x → s.fieldFound? ref (T k).2.1 (T k).2.2.1 = some x) (hfin : (T k).2.2.2 = false) {ty : FieldType} {v : Value} (hd : parseFieldDescriptor (T k).2.2.1 = some ty) (hn : narrow ty v = v) (hfit : fits ty v = true) (hl : k < fs.length)
    (hdg : decode cc pc = .ok (.putfield index, 3)) (kk : ∀ (H1 : Heap) (locs1 : List Loc), va_P D vwCl (BL.set b [(a, .inr (ci, fs.set k v))]).flatten H1 → va_D A (BL.set b [(a, .inr (ci, fs.set k v))]).flatten → va_S A H0 H1 locs1 → W p l e R s m args below meth c H1 locs1 cells slots Q (F0 m (pc + 3) ls rest)) : W p l e R s m args below meth c H locs cells slots Q (F0 m pc ls (v :: .ref a :: rest)) := by
  obtain ⟨q0, h1, h2⟩ := bl_get (i := 0) he rfl
  have e := h2 (a, .inr (ci, fs.set k v))
  refine va_put hx hb hts hin ty0 hty hnm hown hK hP hD hS0 q0 h1 hc k hk hlink hsame hfin hd hn hfit hl hdg (fun H1 locs1 h3 h4 h5 => ?_)
  rw [e] at h3 h4
  exact kk H1 locs1 h3 h4 h5
theorem b_putF (hx : p.tables.exec = Jvm.exec) (hb : c.code = cc) {own ref C : String} {T : u_T} {N ci index : Nat} {Ts : List Cond} (hts : ∀ w ∈ Ts, w.before args s = true) (hin : ∀ w ∈ u_ws C T N, w ∈ Ts) (ty0 : Nat → FieldType) (hty : ∀ k, k < N → parseFieldDescriptor (T k).2.2.1 = some (ty0 k)) (hnm : ∀ a, a < N → ∀ b, b < N → a ≠ b → (T a).2.1 ≠ (T b).2.1) (hown : s.vm.findClass own = some m.cls) (hK : va_K D vwCl tys s) (hP : va_P D vwCl BL.flatten H) (hD : va_D A BL.flatten) (hS0 : va_S A H0 H locs) (b : Nat) {fs : List Value} (he : BL[b]? = some [(a, .inr (ci, fs))]) (hc : vwCl[ci]? = some (C, T, N)) (k : Nat) (hk : k < N) (hlink : (Cond.fieldLink own index ref (T k).2.1 (T k).2.2.1).before args s = true) (hsame : ∀ x, s.fieldFound? (T k).1 (T k).2.1 (T k).2.2.1 = some x → s.fieldFound? ref (T k).2.1 (T k).2.2.1 = some x) (hfin : (T k).2.2.2 = true) (hin2 : meth.name = "<init>") (hdecl : (T k).1 = own) {ty : FieldType} {v : Value} (hd : parseFieldDescriptor (T k).2.2.1 = some ty) (hn : narrow ty v = v) (hfit : fits ty v = true) (hl : k < fs.length)
    (hdg : decode cc pc = .ok (.putfield index, 3)) (kk : ∀ (H1 : Heap) (locs1 : List Loc), va_P D vwCl (BL.set b [(a, .inr (ci, fs.set k v))]).flatten H1 → va_D A (BL.set b [(a, .inr (ci, fs.set k v))]).flatten → va_S A H0 H1 locs1 → W p l e R s m args below meth c H1 locs1 cells slots Q (F0 m (pc + 3) ls rest)) : W p l e R s m args below meth c H locs cells slots Q (F0 m pc ls (v :: .ref a :: rest)) := by
  obtain ⟨q0, h1, h2⟩ := bl_get (i := 0) he rfl
  have e := h2 (a, .inr (ci, fs.set k v))
  refine va_putF hx hb hts hin ty0 hty hnm hown hK hP hD hS0 q0 h1 hc k hk hlink hsame hfin hin2 hdecl hd hn hfit hl hdg (fun H1 locs1 h3 h4 h5 => ?_)
  rw [e] at h3 h4
  exact kk H1 locs1 h3 h4 h5
-- arrays: one array a block
theorem b_iald (hx : p.tables.exec = Jvm.exec) (hb : c.code = cc) (hK : va_K D vwCl tys s) (hP : va_P D vwCl BL.flatten H) (b t0 : Nat) {cA : ClassId} {n : Nat} {f : Nat → Int32} (ha : BL[b]? = some [(a, .inl (cA, n, .inl f))]) (ht : tys[t0]? = some (cA, .int)) {i : Nat} (hi : i < n) (hn : n < 2 ^ 31) (hdg : decode cc pc = .ok (.iaload, 1))
    (kk : W p l e R s m args below meth c H locs cells slots Q (F0 m (pc + 1) ls (.int (f i) :: rest))) : W p l e R s m args below meth c H locs cells slots Q (F0 m pc ls (.int (nI i) :: .ref a :: rest)) := by
  obtain ⟨q0, h1, -⟩ := bl_get (i := 0) ha rfl
  exact va_iald hx hb hK hP q0 t0 h1 ht (vp_in_nI hi hn) hdg (by rw [nI_clamp (by omega)]; exact kk)
theorem b_lald (hx : p.tables.exec = Jvm.exec) (hb : c.code = cc) (hK : va_K D vwCl tys s) (hP : va_P D vwCl BL.flatten H) (b t0 : Nat) {cA : ClassId} {n : Nat} {f : Nat → Int64} (ha : BL[b]? = some [(a, .inl (cA, n, .inr (.inl f)))]) (ht : tys[t0]? = some (cA, .long)) {i : Nat} (hi : i < n) (hn : n < 2 ^ 31) (hdg : decode cc pc = .ok (.laload, 1))
    (kk : W p l e R s m args below meth c H locs cells slots Q (F0 m (pc + 1) ls (.long (f i) :: rest))) : W p l e R s m args below meth c H locs cells slots Q (F0 m pc ls (.int (nI i) :: .ref a :: rest)) := by
  obtain ⟨q0, h1, -⟩ := bl_get (i := 0) ha rfl
  exact va_lald hx hb hK hP q0 t0 h1 ht (vp_in_nI hi hn) hdg (by rw [nI_clamp (by omega)]; exact kk)
theorem b_iast (hx : p.tables.exec = Jvm.exec) (hb : c.code = cc) (hK : va_K D vwCl tys s) (hP : va_P D vwCl BL.flatten H) (hD : va_D A BL.flatten) (hS : va_S A H0 H locs) (b t0 : Nat) {cA : ClassId} {n : Nat} {f : Nat → Int32} (ha : BL[b]? = some [(a, .inl (cA, n, .inl f))]) (ht : tys[t0]? = some (cA, .int)) {i : Nat} {x : Int32} (hi : i < n) (hn : n < 2 ^ 31) (hdg : decode cc pc = .ok (.iastore, 1))
    (kk : ∀ (H1 : Heap) (locs1 : List Loc), va_P D vwCl (BL.set b [(a, .inl (cA, n, .inl (upd f i x)))]).flatten H1 → va_D A (BL.set b [(a, .inl (cA, n, .inl (upd f i x)))]).flatten → va_S A H0 H1 locs1 → W p l e R s m args below meth c H1 locs1 cells slots Q (F0 m (pc + 1) ls rest)) : W p l e R s m args below meth c H locs cells slots Q (F0 m pc ls (.int x :: .int (nI i) :: .ref a :: rest)) := by
  obtain ⟨q0, h1, h2⟩ := bl_get (i := 0) ha rfl
  have e := h2 (a, .inl (cA, n, .inl (upd f i x)))
  refine va_iast hx hb hK hP hD hS q0 t0 h1 ht (vp_in_nI hi hn) hdg (fun H1 locs1 h3 h4 h5 => ?_)
  rw [nI_clamp (by omega), e] at h3 h4
  exact kk H1 locs1 h3 h4 h5
theorem b_last (hx : p.tables.exec = Jvm.exec) (hb : c.code = cc) (hK : va_K D vwCl tys s) (hP : va_P D vwCl BL.flatten H) (hD : va_D A BL.flatten) (hS : va_S A H0 H locs) (b t0 : Nat) {cA : ClassId} {n : Nat} {f : Nat → Int64} (ha : BL[b]? = some [(a, .inl (cA, n, .inr (.inl f)))]) (ht : tys[t0]? = some (cA, .long)) {i : Nat} {x : Int64} (hi : i < n) (hn : n < 2 ^ 31) (hdg : decode cc pc = .ok (.lastore, 1))
    (kk : ∀ (H1 : Heap) (locs1 : List Loc), va_P D vwCl (BL.set b [(a, .inl (cA, n, .inr (.inl (vp_updL f i x))))]).flatten H1 → va_D A (BL.set b [(a, .inl (cA, n, .inr (.inl (vp_updL f i x))))]).flatten → va_S A H0 H1 locs1 → W p l e R s m args below meth c H1 locs1 cells slots Q (F0 m (pc + 1) ls rest)) : W p l e R s m args below meth c H locs cells slots Q (F0 m pc ls (.long x :: .int (nI i) :: .ref a :: rest)) := by
  obtain ⟨q0, h1, h2⟩ := bl_get (i := 0) ha rfl
  have e := h2 (a, .inl (cA, n, .inr (.inl (vp_updL f i x))))
  refine va_last hx hb hK hP hD hS q0 t0 h1 ht (vp_in_nI hi hn) hdg (fun H1 locs1 h3 h4 h5 => ?_)
  rw [nI_clamp (by omega), e] at h3 h4
  exact kk H1 locs1 h3 h4 h5
-- rows of a grid
theorem g_iald (hx : p.tables.exec = Jvm.exec) (hb : c.code = cc) (hK : va_K D vwCl tys s) (hP : va_P D vwCl BL.flatten H) (b t0 : Nat) {cA : ClassId} {r : Nat → Nat} {n N : Nat} {M : Nat → Nat → Int32} (ha : BL[b]? = some (gI cA r n M N)) (ht : tys[t0]? = some (cA, .int)) {j i : Nat} (hj : j < N) (hi : i < n) (hn : n < 2 ^ 31) (hdg : decode cc pc = .ok (.iaload, 1))
    (kk : W p l e R s m args below meth c H locs cells slots Q (F0 m (pc + 1) ls (.int (M j i) :: rest))) : W p l e R s m args below meth c H locs cells slots Q (F0 m pc ls (.int (nI i) :: .ref (r j) :: rest)) := by
  obtain ⟨q0, h1, -⟩ := bl_get ha (gI_get hj)
  exact va_iald hx hb hK hP q0 t0 h1 ht (vp_in_nI hi hn) hdg (by rw [nI_clamp (by omega)]; exact kk)
theorem g_lald (hx : p.tables.exec = Jvm.exec) (hb : c.code = cc) (hK : va_K D vwCl tys s) (hP : va_P D vwCl BL.flatten H) (b t0 : Nat) {cA : ClassId} {r : Nat → Nat} {n N : Nat} {M : Nat → Nat → Int64} (ha : BL[b]? = some (gJ cA r n M N)) (ht : tys[t0]? = some (cA, .long)) {j i : Nat} (hj : j < N) (hi : i < n) (hn : n < 2 ^ 31) (hdg : decode cc pc = .ok (.laload, 1))
    (kk : W p l e R s m args below meth c H locs cells slots Q (F0 m (pc + 1) ls (.long (M j i) :: rest))) : W p l e R s m args below meth c H locs cells slots Q (F0 m pc ls (.int (nI i) :: .ref (r j) :: rest)) := by
  obtain ⟨q0, h1, -⟩ := bl_get ha (gJ_get hj)
  exact va_lald hx hb hK hP q0 t0 h1 ht (vp_in_nI hi hn) hdg (by rw [nI_clamp (by omega)]; exact kk)
theorem g_iast (hx : p.tables.exec = Jvm.exec) (hb : c.code = cc) (hK : va_K D vwCl tys s) (hP : va_P D vwCl BL.flatten H) (hD : va_D A BL.flatten) (hS : va_S A H0 H locs) (b t0 : Nat) {cA : ClassId} {r : Nat → Nat} {n N : Nat} {M : Nat → Nat → Int32} (ha : BL[b]? = some (gI cA r n M N)) (ht : tys[t0]? = some (cA, .int)) {j i : Nat} {x : Int32} (hj : j < N) (hi : i < n) (hn : n < 2 ^ 31) (hdg : decode cc pc = .ok (.iastore, 1))
    (kk : ∀ (H1 : Heap) (locs1 : List Loc), va_P D vwCl (BL.set b (gI cA r n (va_up M j (upd (M j) i x)) N)).flatten H1 → va_D A (BL.set b (gI cA r n (va_up M j (upd (M j) i x)) N)).flatten → va_S A H0 H1 locs1 → W p l e R s m args below meth c H1 locs1 cells slots Q (F0 m (pc + 1) ls rest)) : W p l e R s m args below meth c H locs cells slots Q (F0 m pc ls (.int x :: .int (nI i) :: .ref (r j) :: rest)) := by
  obtain ⟨q0, h1, h2⟩ := bl_get ha (gI_get hj)
  have e := h2 (r j, .inl (cA, n, .inl (upd (M j) i x)))
  rw [gI_set hj] at e
  refine va_iast hx hb hK hP hD hS q0 t0 h1 ht (vp_in_nI hi hn) hdg (fun H1 locs1 h3 h4 h5 => ?_)
  rw [nI_clamp (by omega), e] at h3 h4
  exact kk H1 locs1 h3 h4 h5
theorem g_last (hx : p.tables.exec = Jvm.exec) (hb : c.code = cc) (hK : va_K D vwCl tys s) (hP : va_P D vwCl BL.flatten H) (hD : va_D A BL.flatten) (hS : va_S A H0 H locs) (b t0 : Nat) {cA : ClassId} {r : Nat → Nat} {n N : Nat} {M : Nat → Nat → Int64} (ha : BL[b]? = some (gJ cA r n M N)) (ht : tys[t0]? = some (cA, .long)) {j i : Nat} {x : Int64} (hj : j < N) (hi : i < n) (hn : n < 2 ^ 31) (hdg : decode cc pc = .ok (.lastore, 1))
    (kk : ∀ (H1 : Heap) (locs1 : List Loc), va_P D vwCl (BL.set b (gJ cA r n (va_up M j (vp_updL (M j) i x)) N)).flatten H1 → va_D A (BL.set b (gJ cA r n (va_up M j (vp_updL (M j) i x)) N)).flatten → va_S A H0 H1 locs1 → W p l e R s m args below meth c H1 locs1 cells slots Q (F0 m (pc + 1) ls rest)) : W p l e R s m args below meth c H locs cells slots Q (F0 m pc ls (.long x :: .int (nI i) :: .ref (r j) :: rest)) := by
  obtain ⟨q0, h1, h2⟩ := bl_get ha (gJ_get hj)
  have e := h2 (r j, .inl (cA, n, .inr (.inl (vp_updL (M j) i x))))
  rw [gJ_set hj] at e
  refine va_last hx hb hK hP hD hS q0 t0 h1 ht (vp_in_nI hi hn) hdg (fun H1 locs1 h3 h4 h5 => ?_)
  rw [nI_clamp (by omega), e] at h3 h4
  exact kk H1 locs1 h3 h4 h5
/-- the row of an outer array -/
theorem g_aald (hx : p.tables.exec = Jvm.exec) (hb : c.code = cc) (hK : va_K D vwCl tys s) (hP : va_P D vwCl BL.flatten H) (b t0 : Nat) {cA : ClassId} {r : Nat → Nat} {N : Nat} {ty : FieldType} (ha : BL[b]? = some (oQ cA a r N)) (ht : tys[t0]? = some (cA, .array ty)) {j : Nat} (hj : j < N) (hn : N < 2 ^ 31) (hdg : decode cc pc = .ok (.aaload, 1))
    (kk : W p l e R s m args below meth c H locs cells slots Q (F0 m (pc + 1) ls (.ref (r j) :: rest))) : W p l e R s m args below meth c H locs cells slots Q (F0 m pc ls (.int (nI j) :: .ref a :: rest)) := by
  obtain ⟨q0, h1, -⟩ := bl_get (i := 0) ha rfl
  have hin := vp_in_nI hj hn
  have hcl : (nI j).toNatClampNeg = j := nI_clamp (by omega)
  have hlt : (nI j).toNatClampNeg < N := by rw [hcl]; exact hj
  refine W.aald (v := .ref (r j)) (ty := .array ty) hx hb (hP q0 _ h1) ((hK.2 t0 _ ht).1 N (fun i => va_rf (if i < N then some (r i) else none))) rfl (fun q => by cases q) (by show ¬ (nI j < 0 ∨ (arrV _ _ _).slots.size ≤ _); rw [arrV_size]; exact hin) (by show (arrV _ _ _).slots[_]? = _; rw [arrV_read _ _ hlt, hcl]; show some (va_rf (if j < N then some (r j) else none)) = _; rw [if_pos hj]; rfl) rfl rfl hdg kk
-- calls
theorem b_recv (hK : va_K D vwCl tys s) (hP : va_P D vwCl BL.flatten H) (rb : Nat) {ci : Nat} {fs : List Value} {q : vw_C} (hrb : BL[rb]? = some [(a, .inr (ci, fs))]) (hc : vwCl[ci]? = some q) : ∃ cell : Cell, H[a]? = some cell ∧ cell.vm.isStatics = false ∧ s.vm.findClass q.1 = some cell.cls := by
  obtain ⟨q0, h1, -⟩ := bl_get (i := 0) hrb rfl
  exact va_recv hK hP hc h1
theorem b_preS {As : List Value} (hK : va_K D vwCl (tyz cY) s) (hP : va_P D vwCl BL.flatten H) (hD : va_D A BL.flatten) (isC : List Nat) (hC : isC.map (fun i => BL[i]?) = CL.map some) (hn : va_nd isC = true) : PreS s H (cP D cY As CL H.size) As :=
  ⟨cP_blind, fun U hU hW => ⟨rfl, by rw [hU], by rw [hU]; exact bl_cutP hP isC hC hn, va_K.moved hW.alike hK, (bl_cutD hD isC hC hn).weaken (fun _ _ _ _ => trivial)⟩⟩
theorem b_preV {As : List Value} (hK : va_K D vwCl (tyz cY) s) (hP : va_P D vwCl BL.flatten H) (hD : va_D A BL.flatten) (isC : List Nat) (hC : isC.map (fun i => BL[i]?) = CL.map some) (hn : va_nd isC = true) (rb : Nat) {ci : Nat} {fs : List Value} {q : vw_C} (hrb : BL[rb]? = some [(a, .inr (ci, fs))]) (hc : vwCl[ci]? = some q) : PreV s H q.1 a (cP D cY (.ref a :: As) CL H.size) As :=
  ⟨cP_blind, b_recv hK hP rb hrb hc, (b_preS hK hP hD isC hC hn).2⟩
theorem ca_i {S : Type} {post : Int32 → S → Prop} {B : S → List va_W} {mc ms : Nat} {av : Array Value} (hr : va_Run p l e R s m args below meth c H locs cells slots mc ms (F0 m pc ls st0) rest (qI D cY post B (va_A CL.flatten H.size) av) (va_A CL.flatten H.size)) (hP : va_P D vwCl BL.flatten H) (hD : va_D A BL.flatten) (hS : va_S A H0 H locs) (hA : ∀ q, H0.size ≤ q → A q) (isC : List Nat) (hC : isC.map (fun i => BL[i]?) = CL.map some) (hn : va_nd isC = true) (hl : ∀ u, (B u).length = CL.length)
    (kk : ∀ (r : Int32) (u : S) (H1 : Heap) (locs1 : List Loc), post r u → va_P D vwCl (putB BL isC (B u)).flatten H1 → va_D A (putB BL isC (B u)).flatten → va_S A H0 H1 locs1 → W p l e R s m args below meth c H1 locs1 (cells + mc) (slots + ms) Q (F0 m (pc + 3) ls (.int r :: rest))) : W p l e R s m args below meth c H locs cells slots Q (F0 m pc ls st0) := by
  have hF := bl_free hD hS hA isC hC hn
  refine va_calli hr hS (fun q _ h => hF q h) hF (fun r u t H1 locs1 ht _ hq hB _ hk hS1 => ?_)
  obtain ⟨hP1, -, hD1⟩ := hB
  rw [ht] at hP1
  obtain ⟨hP2, hD2⟩ := bl_join hP hD isC hC hn (hl u) hk hF hP1 hD1
  exact kk r u H1 locs1 hq hP2 hD2 hS1
theorem ca_l {S : Type} {post : Int64 → S → Prop} {B : S → List va_W} {mc ms : Nat} {av : Array Value} (hr : va_Run p l e R s m args below meth c H locs cells slots mc ms (F0 m pc ls st0) rest (qL D cY post B (va_A CL.flatten H.size) av) (va_A CL.flatten H.size)) (hP : va_P D vwCl BL.flatten H) (hD : va_D A BL.flatten) (hS : va_S A H0 H locs) (hA : ∀ q, H0.size ≤ q → A q) (isC : List Nat) (hC : isC.map (fun i => BL[i]?) = CL.map some) (hn : va_nd isC = true) (hl : ∀ u, (B u).length = CL.length)
    (kk : ∀ (r : Int64) (u : S) (H1 : Heap) (locs1 : List Loc), post r u → va_P D vwCl (putB BL isC (B u)).flatten H1 → va_D A (putB BL isC (B u)).flatten → va_S A H0 H1 locs1 → W p l e R s m args below meth c H1 locs1 (cells + mc) (slots + ms) Q (F0 m (pc + 3) ls (.long r :: rest))) : W p l e R s m args below meth c H locs cells slots Q (F0 m pc ls st0) := by
  have hF := bl_free hD hS hA isC hC hn
  refine va_calll hr hS (fun q _ h => hF q h) hF (fun r u t H1 locs1 ht _ hq hB _ hk hS1 => ?_)
  obtain ⟨hP1, -, hD1⟩ := hB
  rw [ht] at hP1
  obtain ⟨hP2, hD2⟩ := bl_join hP hD isC hC hn (hl u) hk hF hP1 hD1
  exact kk r u H1 locs1 hq hP2 hD2 hS1
theorem ca_f {S : Type} {post : UInt32 → S → Prop} {B : S → List va_W} {mc ms : Nat} {av : Array Value} (hr : va_Run p l e R s m args below meth c H locs cells slots mc ms (F0 m pc ls st0) rest (qF D cY post B (va_A CL.flatten H.size) av) (va_A CL.flatten H.size)) (hP : va_P D vwCl BL.flatten H) (hD : va_D A BL.flatten) (hS : va_S A H0 H locs) (hA : ∀ q, H0.size ≤ q → A q) (isC : List Nat) (hC : isC.map (fun i => BL[i]?) = CL.map some) (hn : va_nd isC = true) (hl : ∀ u, (B u).length = CL.length)
    (kk : ∀ (r : UInt32) (u : S) (H1 : Heap) (locs1 : List Loc), post r u → va_P D vwCl (putB BL isC (B u)).flatten H1 → va_D A (putB BL isC (B u)).flatten → va_S A H0 H1 locs1 → W p l e R s m args below meth c H1 locs1 (cells + mc) (slots + ms) Q (F0 m (pc + 3) ls (.float r :: rest))) : W p l e R s m args below meth c H locs cells slots Q (F0 m pc ls st0) := by
  have hF := bl_free hD hS hA isC hC hn
  refine va_callf hr hS (fun q _ h => hF q h) hF (fun r u t H1 locs1 ht _ hq hB _ hk hS1 => ?_)
  obtain ⟨hP1, -, hD1⟩ := hB
  rw [ht] at hP1
  obtain ⟨hP2, hD2⟩ := bl_join hP hD isC hC hn (hl u) hk hF hP1 hD1
  exact kk r u H1 locs1 hq hP2 hD2 hS1
theorem ca_v {S : Type} {post : S → Prop} {B : S → List va_W} {mc ms : Nat} {av : Array Value} (hr : va_Run p l e R s m args below meth c H locs cells slots mc ms (F0 m pc ls st0) rest (qV D cY post B (va_A CL.flatten H.size) av) (va_A CL.flatten H.size)) (hP : va_P D vwCl BL.flatten H) (hD : va_D A BL.flatten) (hS : va_S A H0 H locs) (hA : ∀ q, H0.size ≤ q → A q) (isC : List Nat) (hC : isC.map (fun i => BL[i]?) = CL.map some) (hn : va_nd isC = true) (hl : ∀ u, (B u).length = CL.length)
    (kk : ∀ (u : S) (H1 : Heap) (locs1 : List Loc), post u → va_P D vwCl (putB BL isC (B u)).flatten H1 → va_D A (putB BL isC (B u)).flatten → va_S A H0 H1 locs1 → W p l e R s m args below meth c H1 locs1 (cells + mc) (slots + ms) Q (F0 m (pc + 3) ls rest)) : W p l e R s m args below meth c H locs cells slots Q (F0 m pc ls st0) := by
  have hF := bl_free hD hS hA isC hC hn
  refine va_callv hr hS (fun q _ h => hF q h) hF (fun u t H1 locs1 ht _ hq hB _ hk hS1 => ?_)
  obtain ⟨hP1, -, hD1⟩ := hB
  rw [ht] at hP1
  obtain ⟨hP2, hD2⟩ := bl_join hP hD isC hC hn (hl u) hk hF hP1 hD1
  exact kk u H1 locs1 hq hP2 hD2 hS1
-- returns
theorem r_i {S : Type} {post : Int32 → S → Prop} {B : S → List va_W} {v : Int32} (hx : p.tables.exec = Jvm.exec) (hb : c.code = cc) (hr : meth.sig.returnType = some .int) (hlocks : meth.locks = false) (hK : va_K D vwCl (tyz cY) s) (hP : va_P D vwCl BL.flatten H) (hD : va_D A BL.flatten) (hS : va_S A s.heap H locs) (u : S) (hu : BL = B u) (hp : post v u) (hdg : decode cc pc = .ok (.ireturn, 1)) : W p l e R s m args below meth c H locs cells slots (MQ below (qI D cY post B A) args s cells slots A) (F0 m pc ls [.int v]) := by
  subst hu
  exact W.iret hx hb hr (fun t ht hW => ⟨⟨v, u, rfl, hp, by rw [ht]; exact hP, va_K.moved hW.alike hK, hD⟩, hS.F ht⟩) hS.2.2 hdg hlocks
theorem r_z {S : Type} {post : Int32 → S → Prop} {B : S → List va_W} {b : Bool} (hx : p.tables.exec = Jvm.exec) (hb : c.code = cc) (hr : meth.sig.returnType = some .boolean) (hlocks : meth.locks = false) (hK : va_K D vwCl (tyz cY) s) (hP : va_P D vwCl BL.flatten H) (hD : va_D A BL.flatten) (hS : va_S A s.heap H locs) (u : S) (hu : BL = B u) (hp : post (bI b) u) (hdg : decode cc pc = .ok (.ireturn, 1)) : W p l e R s m args below meth c H locs cells slots (MQ below (qI D cY post B A) args s cells slots A) (F0 m pc ls [.int (bI b)]) := by
  subst hu
  exact W.zret (ty := .boolean) hx hb hr (by cases b <;> rfl) (fun t ht hW => ⟨⟨_, u, rfl, hp, by rw [ht]; exact hP, va_K.moved hW.alike hK, hD⟩, hS.F ht⟩) hS.2.2 hdg hlocks
theorem r_l {S : Type} {post : Int64 → S → Prop} {B : S → List va_W} {v : Int64} (hx : p.tables.exec = Jvm.exec) (hb : c.code = cc) (hr : meth.sig.returnType = some .long) (hlocks : meth.locks = false) (hK : va_K D vwCl (tyz cY) s) (hP : va_P D vwCl BL.flatten H) (hD : va_D A BL.flatten) (hS : va_S A s.heap H locs) (u : S) (hu : BL = B u) (hp : post v u) (hdg : decode cc pc = .ok (.lreturn, 1)) : W p l e R s m args below meth c H locs cells slots (MQ below (qL D cY post B A) args s cells slots A) (F0 m pc ls [.long v]) := by
  subst hu
  exact W.lret hx hb hr (fun t ht hW => ⟨⟨v, u, rfl, hp, by rw [ht]; exact hP, va_K.moved hW.alike hK, hD⟩, hS.F ht⟩) hS.2.2 hdg hlocks
theorem r_v {S : Type} {post : S → Prop} {B : S → List va_W} (hx : p.tables.exec = Jvm.exec) (hb : c.code = cc) (hr : meth.sig.returnType = none) (hlocks : meth.locks = false) (hK : va_K D vwCl (tyz cY) s) (hP : va_P D vwCl BL.flatten H) (hD : va_D A BL.flatten) (hS : va_S A s.heap H locs) (u : S) (hu : BL = B u) (hp : post u) (hdg : decode cc pc = .ok (.return_, 1)) : W p l e R s m args below meth c H locs cells slots (MQ below (qV D cY post B A) args s cells slots A) (F0 m pc ls []) := by
  subst hu
  exact W.vret hx hb hr (fun t ht hW => ⟨⟨u, rfl, hp, by rw [ht]; exact hP, va_K.moved hW.alike hK, hD⟩, hS.F ht⟩) hS.2.2 hdg hlocks
end MyRows
end
