section
-- ===== PART A: goes FIRST, ahead of the names: the tables' words, and 'selects' of the private methods out of them =====
/-- a private method of a class that the tables say can be made, by its rows of tables_1 -/
def lw_okq (q : MethodName × Nat) : Prop := (q.1.cls ≠ "java/lang/invoke/MethodHandle" ∧ q.1.cls ≠ "java/lang/invoke/VarHandle") ∧ Cond.instantiable q.1.cls q.2 ∈ tables_1 ∧ Cond.privateMethod q.1 ∈ tables_1 ∧ Cond.instanceMethod q.1 ∈ tables_1
theorem lw_p0 : lw_okq (⟨"SlipperDuke$Text", "skipBlanks", "()V"⟩, 7) := ⟨⟨by decide +kernel, by decide +kernel⟩, List.mem_of_getElem? (i := 25) (by decide +kernel), List.mem_of_getElem? (i := 342) (by decide +kernel), List.mem_of_getElem? (i := 343) (by decide +kernel)⟩
theorem lw_p1 : lw_okq (⟨"SlipperDuke$Text", "readClause", "()V"⟩, 7) := ⟨⟨by decide +kernel, by decide +kernel⟩, List.mem_of_getElem? (i := 25) (by decide +kernel), List.mem_of_getElem? (i := 346) (by decide +kernel), List.mem_of_getElem? (i := 347) (by decide +kernel)⟩
theorem lw_p2 : lw_okq (⟨"SlipperDuke$Text", "noteFault", "(II)V"⟩, 7) := ⟨⟨by decide +kernel, by decide +kernel⟩, List.mem_of_getElem? (i := 25) (by decide +kernel), List.mem_of_getElem? (i := 350) (by decide +kernel), List.mem_of_getElem? (i := 351) (by decide +kernel)⟩
theorem lw_p3 : lw_okq (⟨"SlipperDuke$Text", "readRule", "()V"⟩, 7) := ⟨⟨by decide +kernel, by decide +kernel⟩, List.mem_of_getElem? (i := 25) (by decide +kernel), List.mem_of_getElem? (i := 354) (by decide +kernel), List.mem_of_getElem? (i := 355) (by decide +kernel)⟩
theorem lw_p4 : lw_okq (⟨"SlipperDuke$Text", "readWord", "(Z)V"⟩, 7) := ⟨⟨by decide +kernel, by decide +kernel⟩, List.mem_of_getElem? (i := 25) (by decide +kernel), List.mem_of_getElem? (i := 358) (by decide +kernel), List.mem_of_getElem? (i := 359) (by decide +kernel)⟩
theorem lw_p5 : lw_okq (⟨"SlipperDuke$Text", "readNumber", "(I)I"⟩, 7) := ⟨⟨by decide +kernel, by decide +kernel⟩, List.mem_of_getElem? (i := 25) (by decide +kernel), List.mem_of_getElem? (i := 362) (by decide +kernel), List.mem_of_getElem? (i := 363) (by decide +kernel)⟩
theorem lw_p6 : lw_okq (⟨"SlipperDuke$Text", "readEnd", "()V"⟩, 7) := ⟨⟨by decide +kernel, by decide +kernel⟩, List.mem_of_getElem? (i := 25) (by decide +kernel), List.mem_of_getElem? (i := 366) (by decide +kernel), List.mem_of_getElem? (i := 367) (by decide +kernel)⟩
theorem lw_p7 : lw_okq (⟨"SlipperDuke$Text", "readRoom", "()V"⟩, 7) := ⟨⟨by decide +kernel, by decide +kernel⟩, List.mem_of_getElem? (i := 25) (by decide +kernel), List.mem_of_getElem? (i := 370) (by decide +kernel), List.mem_of_getElem? (i := 371) (by decide +kernel)⟩
theorem lw_p8 : lw_okq (⟨"SlipperDuke$Text", "readDoor", "()V"⟩, 7) := ⟨⟨by decide +kernel, by decide +kernel⟩, List.mem_of_getElem? (i := 25) (by decide +kernel), List.mem_of_getElem? (i := 384) (by decide +kernel), List.mem_of_getElem? (i := 385) (by decide +kernel)⟩
theorem lw_p9 : lw_okq (⟨"SlipperDuke$Text", "readPetition", "()V"⟩, 7) := ⟨⟨by decide +kernel, by decide +kernel⟩, List.mem_of_getElem? (i := 25) (by decide +kernel), List.mem_of_getElem? (i := 396) (by decide +kernel), List.mem_of_getElem? (i := 397) (by decide +kernel)⟩
theorem lw_p10 : lw_okq (⟨"SlipperDuke", "isNoRoom", "(I)Z"⟩, 10) := ⟨⟨by decide +kernel, by decide +kernel⟩, List.mem_of_getElem? (i := 17) (by decide +kernel), List.mem_of_getElem? (i := 444) (by decide +kernel), List.mem_of_getElem? (i := 445) (by decide +kernel)⟩
theorem lw_p11 : lw_okq (⟨"SlipperDuke", "isNoPetition", "(I)Z"⟩, 10) := ⟨⟨by decide +kernel, by decide +kernel⟩, List.mem_of_getElem? (i := 17) (by decide +kernel), List.mem_of_getElem? (i := 481) (by decide +kernel), List.mem_of_getElem? (i := 482) (by decide +kernel)⟩
theorem lw_p12 : lw_okq (⟨"SlipperDuke", "refusalOfHours", "(I)I"⟩, 10) := ⟨⟨by decide +kernel, by decide +kernel⟩, List.mem_of_getElem? (i := 17) (by decide +kernel), List.mem_of_getElem? (i := 497) (by decide +kernel), List.mem_of_getElem? (i := 498) (by decide +kernel)⟩
theorem lw_p13 : lw_okq (⟨"SlipperDuke$State", "hearAll", "(LSlipperDuke$Palace;)V"⟩, 8) := ⟨⟨by decide +kernel, by decide +kernel⟩, List.mem_of_getElem? (i := 121) (by decide +kernel), List.mem_of_getElem? (i := 532) (by decide +kernel), List.mem_of_getElem? (i := 533) (by decide +kernel)⟩
theorem lw_p14 : lw_okq (⟨"SlipperDuke", "changeByDraws", "()V"⟩, 10) := ⟨⟨by decide +kernel, by decide +kernel⟩, List.mem_of_getElem? (i := 17) (by decide +kernel), List.mem_of_getElem? (i := 602) (by decide +kernel), List.mem_of_getElem? (i := 603) (by decide +kernel)⟩
theorem lw_p15 : lw_okq (⟨"SlipperDuke", "draw", "(I)I"⟩, 10) := ⟨⟨by decide +kernel, by decide +kernel⟩, List.mem_of_getElem? (i := 17) (by decide +kernel), List.mem_of_getElem? (i := 606) (by decide +kernel), List.mem_of_getElem? (i := 607) (by decide +kernel)⟩
def lw_privs_1 : List (MethodName × Nat) := [(⟨"SlipperDuke$Text", "skipBlanks", "()V"⟩, 7), (⟨"SlipperDuke$Text", "readClause", "()V"⟩, 7), (⟨"SlipperDuke$Text", "noteFault", "(II)V"⟩, 7), (⟨"SlipperDuke$Text", "readRule", "()V"⟩, 7), (⟨"SlipperDuke$Text", "readWord", "(Z)V"⟩, 7), (⟨"SlipperDuke$Text", "readNumber", "(I)I"⟩, 7), (⟨"SlipperDuke$Text", "readEnd", "()V"⟩, 7), (⟨"SlipperDuke$Text", "readRoom", "()V"⟩, 7), (⟨"SlipperDuke$Text", "readDoor", "()V"⟩, 7), (⟨"SlipperDuke$Text", "readPetition", "()V"⟩, 7), (⟨"SlipperDuke", "isNoRoom", "(I)Z"⟩, 10), (⟨"SlipperDuke", "isNoPetition", "(I)Z"⟩, 10), (⟨"SlipperDuke", "refusalOfHours", "(I)I"⟩, 10), (⟨"SlipperDuke$State", "hearAll", "(LSlipperDuke$Palace;)V"⟩, 8), (⟨"SlipperDuke", "changeByDraws", "()V"⟩, 10), (⟨"SlipperDuke", "draw", "(I)I"⟩, 10)]
theorem lw_r1 : ∀ q ∈ lw_privs_1, lw_okq q := List.forall_mem_cons.mpr ⟨lw_p0, List.forall_mem_cons.mpr ⟨lw_p1, List.forall_mem_cons.mpr ⟨lw_p2, List.forall_mem_cons.mpr ⟨lw_p3, List.forall_mem_cons.mpr ⟨lw_p4, List.forall_mem_cons.mpr ⟨lw_p5, List.forall_mem_cons.mpr ⟨lw_p6, List.forall_mem_cons.mpr ⟨lw_p7, List.forall_mem_cons.mpr ⟨lw_p8, List.forall_mem_cons.mpr ⟨lw_p9, List.forall_mem_cons.mpr ⟨lw_p10, List.forall_mem_cons.mpr ⟨lw_p11, List.forall_mem_cons.mpr ⟨lw_p12, List.forall_mem_cons.mpr ⟨lw_p13, List.forall_mem_cons.mpr ⟨lw_p14, List.forall_mem_cons.mpr ⟨lw_p15, fun _ h => absurd h List.not_mem_nil⟩⟩⟩⟩⟩⟩⟩⟩⟩⟩⟩⟩⟩⟩⟩⟩
theorem lw_p16 : lw_okq (⟨"SlipperDuke", "hoursUntil", "(II)I"⟩, 10) := ⟨⟨by decide +kernel, by decide +kernel⟩, List.mem_of_getElem? (i := 17) (by decide +kernel), List.mem_of_getElem? (i := 638) (by decide +kernel), List.mem_of_getElem? (i := 639) (by decide +kernel)⟩
theorem lw_p17 : lw_okq (⟨"SlipperDuke", "comesByCarpets", "(III)Z"⟩, 10) := ⟨⟨by decide +kernel, by decide +kernel⟩, List.mem_of_getElem? (i := 17) (by decide +kernel), List.mem_of_getElem? (i := 663) (by decide +kernel), List.mem_of_getElem? (i := 664) (by decide +kernel)⟩
theorem lw_p18 : lw_okq (⟨"SlipperDuke", "doorsToPass", "()I"⟩, 10) := ⟨⟨by decide +kernel, by decide +kernel⟩, List.mem_of_getElem? (i := 17) (by decide +kernel), List.mem_of_getElem? (i := 671) (by decide +kernel), List.mem_of_getElem? (i := 672) (by decide +kernel)⟩
theorem lw_p19 : lw_okq (⟨"SlipperDuke", "spreadNoise", "([II)V"⟩, 10) := ⟨⟨by decide +kernel, by decide +kernel⟩, List.mem_of_getElem? (i := 17) (by decide +kernel), List.mem_of_getElem? (i := 685) (by decide +kernel), List.mem_of_getElem? (i := 686) (by decide +kernel)⟩
theorem lw_p20 : lw_okq (⟨"SlipperDuke", "worthToHear", "(I)I"⟩, 10) := ⟨⟨by decide +kernel, by decide +kernel⟩, List.mem_of_getElem? (i := 17) (by decide +kernel), List.mem_of_getElem? (i := 697) (by decide +kernel), List.mem_of_getElem? (i := 698) (by decide +kernel)⟩
theorem lw_p21 : lw_okq (⟨"SlipperDuke$Way", "isFitting", "(I)Z"⟩, 6) := ⟨⟨by decide +kernel, by decide +kernel⟩, List.mem_of_getElem? (i := 171) (by decide +kernel), List.mem_of_getElem? (i := 715) (by decide +kernel), List.mem_of_getElem? (i := 716) (by decide +kernel)⟩
theorem lw_p22 : lw_okq (⟨"SlipperDuke", "greatestPart", "(J)I"⟩, 10) := ⟨⟨by decide +kernel, by decide +kernel⟩, List.mem_of_getElem? (i := 17) (by decide +kernel), List.mem_of_getElem? (i := 731) (by decide +kernel), List.mem_of_getElem? (i := 732) (by decide +kernel)⟩
theorem lw_p23 : lw_okq (⟨"SlipperDuke", "isOfRooms", "(I)Z"⟩, 10) := ⟨⟨by decide +kernel, by decide +kernel⟩, List.mem_of_getElem? (i := 17) (by decide +kernel), List.mem_of_getElem? (i := 744) (by decide +kernel), List.mem_of_getElem? (i := 745) (by decide +kernel)⟩
theorem lw_p24 : lw_okq (⟨"SlipperDuke", "goesSo", "(II)Z"⟩, 10) := ⟨⟨by decide +kernel, by decide +kernel⟩, List.mem_of_getElem? (i := 17) (by decide +kernel), List.mem_of_getElem? (i := 757) (by decide +kernel), List.mem_of_getElem? (i := 758) (by decide +kernel)⟩
theorem lw_p25 : lw_okq (⟨"SlipperDukeModel", "here", "()I"⟩, 27) := ⟨⟨by decide +kernel, by decide +kernel⟩, List.mem_of_getElem? (i := 799) (by decide +kernel), List.mem_of_getElem? (i := 903) (by decide +kernel), List.mem_of_getElem? (i := 904) (by decide +kernel)⟩
theorem lw_p26 : lw_okq (⟨"SlipperDukeModel", "readClause", "()V"⟩, 27) := ⟨⟨by decide +kernel, by decide +kernel⟩, List.mem_of_getElem? (i := 799) (by decide +kernel), List.mem_of_getElem? (i := 907) (by decide +kernel), List.mem_of_getElem? (i := 908) (by decide +kernel)⟩
theorem lw_p27 : lw_okq (⟨"SlipperDukeModel", "readRule", "()V"⟩, 27) := ⟨⟨by decide +kernel, by decide +kernel⟩, List.mem_of_getElem? (i := 799) (by decide +kernel), List.mem_of_getElem? (i := 911) (by decide +kernel), List.mem_of_getElem? (i := 912) (by decide +kernel)⟩
theorem lw_p28 : lw_okq (⟨"SlipperDukeModel", "faults", "(I)V"⟩, 27) := ⟨⟨by decide +kernel, by decide +kernel⟩, List.mem_of_getElem? (i := 799) (by decide +kernel), List.mem_of_getElem? (i := 915) (by decide +kernel), List.mem_of_getElem? (i := 916) (by decide +kernel)⟩
theorem lw_p29 : lw_okq (⟨"SlipperDukeModel", "number", "(I)I"⟩, 27) := ⟨⟨by decide +kernel, by decide +kernel⟩, List.mem_of_getElem? (i := 799) (by decide +kernel), List.mem_of_getElem? (i := 919) (by decide +kernel), List.mem_of_getElem? (i := 920) (by decide +kernel)⟩
theorem lw_p30 : lw_okq (⟨"SlipperDukeModel", "ends", "()V"⟩, 27) := ⟨⟨by decide +kernel, by decide +kernel⟩, List.mem_of_getElem? (i := 799) (by decide +kernel), List.mem_of_getElem? (i := 928) (by decide +kernel), List.mem_of_getElem? (i := 929) (by decide +kernel)⟩
theorem lw_p31 : lw_okq (⟨"SlipperDukeModel", "readRoom", "()V"⟩, 27) := ⟨⟨by decide +kernel, by decide +kernel⟩, List.mem_of_getElem? (i := 799) (by decide +kernel), List.mem_of_getElem? (i := 932) (by decide +kernel), List.mem_of_getElem? (i := 933) (by decide +kernel)⟩
def lw_privs_2 : List (MethodName × Nat) := [(⟨"SlipperDuke", "hoursUntil", "(II)I"⟩, 10), (⟨"SlipperDuke", "comesByCarpets", "(III)Z"⟩, 10), (⟨"SlipperDuke", "doorsToPass", "()I"⟩, 10), (⟨"SlipperDuke", "spreadNoise", "([II)V"⟩, 10), (⟨"SlipperDuke", "worthToHear", "(I)I"⟩, 10), (⟨"SlipperDuke$Way", "isFitting", "(I)Z"⟩, 6), (⟨"SlipperDuke", "greatestPart", "(J)I"⟩, 10), (⟨"SlipperDuke", "isOfRooms", "(I)Z"⟩, 10), (⟨"SlipperDuke", "goesSo", "(II)Z"⟩, 10), (⟨"SlipperDukeModel", "here", "()I"⟩, 27), (⟨"SlipperDukeModel", "readClause", "()V"⟩, 27), (⟨"SlipperDukeModel", "readRule", "()V"⟩, 27), (⟨"SlipperDukeModel", "faults", "(I)V"⟩, 27), (⟨"SlipperDukeModel", "number", "(I)I"⟩, 27), (⟨"SlipperDukeModel", "ends", "()V"⟩, 27), (⟨"SlipperDukeModel", "readRoom", "()V"⟩, 27)]
theorem lw_r2 : ∀ q ∈ lw_privs_2, lw_okq q := List.forall_mem_cons.mpr ⟨lw_p16, List.forall_mem_cons.mpr ⟨lw_p17, List.forall_mem_cons.mpr ⟨lw_p18, List.forall_mem_cons.mpr ⟨lw_p19, List.forall_mem_cons.mpr ⟨lw_p20, List.forall_mem_cons.mpr ⟨lw_p21, List.forall_mem_cons.mpr ⟨lw_p22, List.forall_mem_cons.mpr ⟨lw_p23, List.forall_mem_cons.mpr ⟨lw_p24, List.forall_mem_cons.mpr ⟨lw_p25, List.forall_mem_cons.mpr ⟨lw_p26, List.forall_mem_cons.mpr ⟨lw_p27, List.forall_mem_cons.mpr ⟨lw_p28, List.forall_mem_cons.mpr ⟨lw_p29, List.forall_mem_cons.mpr ⟨lw_p30, List.forall_mem_cons.mpr ⟨lw_p31, fun _ h => absurd h List.not_mem_nil⟩⟩⟩⟩⟩⟩⟩⟩⟩⟩⟩⟩⟩⟩⟩⟩
theorem lw_p32 : lw_okq (⟨"SlipperDukeModel", "readDoor", "()V"⟩, 27) := ⟨⟨by decide +kernel, by decide +kernel⟩, List.mem_of_getElem? (i := 799) (by decide +kernel), List.mem_of_getElem? (i := 936) (by decide +kernel), List.mem_of_getElem? (i := 937) (by decide +kernel)⟩
theorem lw_p33 : lw_okq (⟨"SlipperDukeModel", "readPetition", "()V"⟩, 27) := ⟨⟨by decide +kernel, by decide +kernel⟩, List.mem_of_getElem? (i := 799) (by decide +kernel), List.mem_of_getElem? (i := 940) (by decide +kernel), List.mem_of_getElem? (i := 941) (by decide +kernel)⟩
theorem lw_p34 : lw_okq (⟨"SlipperDukeModel", "becomes", "()V"⟩, 27) := ⟨⟨by decide +kernel, by decide +kernel⟩, List.mem_of_getElem? (i := 799) (by decide +kernel), List.mem_of_getElem? (i := 944) (by decide +kernel), List.mem_of_getElem? (i := 945) (by decide +kernel)⟩
theorem lw_p35 : lw_okq (⟨"SlipperDukeModel", "at", "(I)I"⟩, 27) := ⟨⟨by decide +kernel, by decide +kernel⟩, List.mem_of_getElem? (i := 799) (by decide +kernel), List.mem_of_getElem? (i := 956) (by decide +kernel), List.mem_of_getElem? (i := 957) (by decide +kernel)⟩
theorem lw_p36 : lw_okq (⟨"SlipperDukeModel", "isRoom", "(I)Z"⟩, 27) := ⟨⟨by decide +kernel, by decide +kernel⟩, List.mem_of_getElem? (i := 799) (by decide +kernel), List.mem_of_getElem? (i := 964) (by decide +kernel), List.mem_of_getElem? (i := 965) (by decide +kernel)⟩
theorem lw_p37 : lw_okq (⟨"SlipperDukeModel", "counts", "()J"⟩, 27) := ⟨⟨by decide +kernel, by decide +kernel⟩, List.mem_of_getElem? (i := 799) (by decide +kernel), List.mem_of_getElem? (i := 972) (by decide +kernel), List.mem_of_getElem? (i := 973) (by decide +kernel)⟩
theorem lw_p38 : lw_okq (⟨"SlipperDukeModel", "isWorn", "()Z"⟩, 27) := ⟨⟨by decide +kernel, by decide +kernel⟩, List.mem_of_getElem? (i := 799) (by decide +kernel), List.mem_of_getElem? (i := 978) (by decide +kernel), List.mem_of_getElem? (i := 979) (by decide +kernel)⟩
theorem lw_p39 : lw_okq (⟨"SlipperDukeModel", "beside", "(I)I"⟩, 27) := ⟨⟨by decide +kernel, by decide +kernel⟩, List.mem_of_getElem? (i := 799) (by decide +kernel), List.mem_of_getElem? (i := 986) (by decide +kernel), List.mem_of_getElem? (i := 987) (by decide +kernel)⟩
theorem lw_p40 : lw_okq (⟨"SlipperDukeModel", "doorBetween", "(II)I"⟩, 27) := ⟨⟨by decide +kernel, by decide +kernel⟩, List.mem_of_getElem? (i := 799) (by decide +kernel), List.mem_of_getElem? (i := 990) (by decide +kernel), List.mem_of_getElem? (i := 991) (by decide +kernel)⟩
theorem lw_p41 : lw_okq (⟨"SlipperDukeModel", "isPetition", "(I)Z"⟩, 27) := ⟨⟨by decide +kernel, by decide +kernel⟩, List.mem_of_getElem? (i := 799) (by decide +kernel), List.mem_of_getElem? (i := 998) (by decide +kernel), List.mem_of_getElem? (i := 999) (by decide +kernel)⟩
theorem lw_p42 : lw_okq (⟨"SlipperDukeModel", "wayFrom", "(I)I"⟩, 27) := ⟨⟨by decide +kernel, by decide +kernel⟩, List.mem_of_getElem? (i := 799) (by decide +kernel), List.mem_of_getElem? (i := 1006) (by decide +kernel), List.mem_of_getElem? (i := 1007) (by decide +kernel)⟩
theorem lw_p43 : lw_okq (⟨"SlipperDukeModel", "wayTo", "(I)I"⟩, 27) := ⟨⟨by decide +kernel, by decide +kernel⟩, List.mem_of_getElem? (i := 799) (by decide +kernel), List.mem_of_getElem? (i := 1011) (by decide +kernel), List.mem_of_getElem? (i := 1012) (by decide +kernel)⟩
theorem lw_p44 : lw_okq (⟨"SlipperDukeModel", "notes", "()V"⟩, 27) := ⟨⟨by decide +kernel, by decide +kernel⟩, List.mem_of_getElem? (i := 799) (by decide +kernel), List.mem_of_getElem? (i := 1022) (by decide +kernel), List.mem_of_getElem? (i := 1023) (by decide +kernel)⟩
theorem lw_p45 : lw_okq (⟨"SlipperDukeModel", "goesOn", "(I)V"⟩, 27) := ⟨⟨by decide +kernel, by decide +kernel⟩, List.mem_of_getElem? (i := 799) (by decide +kernel), List.mem_of_getElem? (i := 1026) (by decide +kernel), List.mem_of_getElem? (i := 1027) (by decide +kernel)⟩
theorem lw_p46 : lw_okq (⟨"SlipperDukeModel", "goesBy", "()V"⟩, 27) := ⟨⟨by decide +kernel, by decide +kernel⟩, List.mem_of_getElem? (i := 799) (by decide +kernel), List.mem_of_getElem? (i := 1030) (by decide +kernel), List.mem_of_getElem? (i := 1031) (by decide +kernel)⟩
theorem lw_p47 : lw_okq (⟨"SlipperDukeModel", "hears", "()V"⟩, 27) := ⟨⟨by decide +kernel, by decide +kernel⟩, List.mem_of_getElem? (i := 799) (by decide +kernel), List.mem_of_getElem? (i := 1034) (by decide +kernel), List.mem_of_getElem? (i := 1035) (by decide +kernel)⟩
def lw_privs_3 : List (MethodName × Nat) := [(⟨"SlipperDukeModel", "readDoor", "()V"⟩, 27), (⟨"SlipperDukeModel", "readPetition", "()V"⟩, 27), (⟨"SlipperDukeModel", "becomes", "()V"⟩, 27), (⟨"SlipperDukeModel", "at", "(I)I"⟩, 27), (⟨"SlipperDukeModel", "isRoom", "(I)Z"⟩, 27), (⟨"SlipperDukeModel", "counts", "()J"⟩, 27), (⟨"SlipperDukeModel", "isWorn", "()Z"⟩, 27), (⟨"SlipperDukeModel", "beside", "(I)I"⟩, 27), (⟨"SlipperDukeModel", "doorBetween", "(II)I"⟩, 27), (⟨"SlipperDukeModel", "isPetition", "(I)Z"⟩, 27), (⟨"SlipperDukeModel", "wayFrom", "(I)I"⟩, 27), (⟨"SlipperDukeModel", "wayTo", "(I)I"⟩, 27), (⟨"SlipperDukeModel", "notes", "()V"⟩, 27), (⟨"SlipperDukeModel", "goesOn", "(I)V"⟩, 27), (⟨"SlipperDukeModel", "goesBy", "()V"⟩, 27), (⟨"SlipperDukeModel", "hears", "()V"⟩, 27)]
theorem lw_r3 : ∀ q ∈ lw_privs_3, lw_okq q := List.forall_mem_cons.mpr ⟨lw_p32, List.forall_mem_cons.mpr ⟨lw_p33, List.forall_mem_cons.mpr ⟨lw_p34, List.forall_mem_cons.mpr ⟨lw_p35, List.forall_mem_cons.mpr ⟨lw_p36, List.forall_mem_cons.mpr ⟨lw_p37, List.forall_mem_cons.mpr ⟨lw_p38, List.forall_mem_cons.mpr ⟨lw_p39, List.forall_mem_cons.mpr ⟨lw_p40, List.forall_mem_cons.mpr ⟨lw_p41, List.forall_mem_cons.mpr ⟨lw_p42, List.forall_mem_cons.mpr ⟨lw_p43, List.forall_mem_cons.mpr ⟨lw_p44, List.forall_mem_cons.mpr ⟨lw_p45, List.forall_mem_cons.mpr ⟨lw_p46, List.forall_mem_cons.mpr ⟨lw_p47, fun _ h => absurd h List.not_mem_nil⟩⟩⟩⟩⟩⟩⟩⟩⟩⟩⟩⟩⟩⟩⟩⟩
theorem lw_p48 : lw_okq (⟨"SlipperDukeModel", "goesNext", "(IJ)I"⟩, 27) := ⟨⟨by decide +kernel, by decide +kernel⟩, List.mem_of_getElem? (i := 799) (by decide +kernel), List.mem_of_getElem? (i := 1039) (by decide +kernel), List.mem_of_getElem? (i := 1040) (by decide +kernel)⟩
theorem lw_p49 : lw_okq (⟨"SlipperDukeModel", "noises", "()J"⟩, 27) := ⟨⟨by decide +kernel, by decide +kernel⟩, List.mem_of_getElem? (i := 799) (by decide +kernel), List.mem_of_getElem? (i := 1043) (by decide +kernel), List.mem_of_getElem? (i := 1044) (by decide +kernel)⟩
theorem lw_p50 : lw_okq (⟨"SlipperDukeModel", "goesTo", "(IIJJJJJZ)I"⟩, 27) := ⟨⟨by decide +kernel, by decide +kernel⟩, List.mem_of_getElem? (i := 799) (by decide +kernel), List.mem_of_getElem? (i := 1047) (by decide +kernel), List.mem_of_getElem? (i := 1048) (by decide +kernel)⟩
theorem lw_p51 : lw_okq (⟨"SlipperDukeModel", "remembers", "(I)V"⟩, 27) := ⟨⟨by decide +kernel, by decide +kernel⟩, List.mem_of_getElem? (i := 799) (by decide +kernel), List.mem_of_getElem? (i := 1051) (by decide +kernel), List.mem_of_getElem? (i := 1052) (by decide +kernel)⟩
theorem lw_p52 : lw_okq (⟨"SlipperDukeModel", "turns", "(IIZ)I"⟩, 27) := ⟨⟨by decide +kernel, by decide +kernel⟩, List.mem_of_getElem? (i := 799) (by decide +kernel), List.mem_of_getElem? (i := 1062) (by decide +kernel), List.mem_of_getElem? (i := 1063) (by decide +kernel)⟩
theorem lw_p53 : lw_okq (⟨"SlipperDukeModel", "isDoor", "(I)Z"⟩, 27) := ⟨⟨by decide +kernel, by decide +kernel⟩, List.mem_of_getElem? (i := 799) (by decide +kernel), List.mem_of_getElem? (i := 1079) (by decide +kernel), List.mem_of_getElem? (i := 1080) (by decide +kernel)⟩
theorem lw_p54 : lw_okq (⟨"SlipperDukeModel", "stirs", "()V"⟩, 27) := ⟨⟨by decide +kernel, by decide +kernel⟩, List.mem_of_getElem? (i := 799) (by decide +kernel), List.mem_of_getElem? (i := 1103) (by decide +kernel), List.mem_of_getElem? (i := 1104) (by decide +kernel)⟩
theorem lw_p55 : lw_okq (⟨"SlipperDukeModel", "drawn", "(I)I"⟩, 27) := ⟨⟨by decide +kernel, by decide +kernel⟩, List.mem_of_getElem? (i := 799) (by decide +kernel), List.mem_of_getElem? (i := 1107) (by decide +kernel), List.mem_of_getElem? (i := 1108) (by decide +kernel)⟩
theorem lw_p56 : lw_okq (⟨"SlipperDukeModel", "asides", "()V"⟩, 27) := ⟨⟨by decide +kernel, by decide +kernel⟩, List.mem_of_getElem? (i := 799) (by decide +kernel), List.mem_of_getElem? (i := 1124) (by decide +kernel), List.mem_of_getElem? (i := 1125) (by decide +kernel)⟩
theorem lw_p57 : lw_okq (⟨"SlipperDukeModel", "backs", "()V"⟩, 27) := ⟨⟨by decide +kernel, by decide +kernel⟩, List.mem_of_getElem? (i := 799) (by decide +kernel), List.mem_of_getElem? (i := 1128) (by decide +kernel), List.mem_of_getElem? (i := 1129) (by decide +kernel)⟩
theorem lw_p58 : lw_okq (⟨"SlipperDukeModel", "whenIn", "(II)I"⟩, 27) := ⟨⟨by decide +kernel, by decide +kernel⟩, List.mem_of_getElem? (i := 799) (by decide +kernel), List.mem_of_getElem? (i := 1136) (by decide +kernel), List.mem_of_getElem? (i := 1137) (by decide +kernel)⟩
theorem lw_p59 : lw_okq (⟨"SlipperDukeModel", "reached", "(I)I"⟩, 27) := ⟨⟨by decide +kernel, by decide +kernel⟩, List.mem_of_getElem? (i := 799) (by decide +kernel), List.mem_of_getElem? (i := 1160) (by decide +kernel), List.mem_of_getElem? (i := 1161) (by decide +kernel)⟩
theorem lw_p60 : lw_okq (⟨"SlipperDukeModel", "enters", "(III)V"⟩, 27) := ⟨⟨by decide +kernel, by decide +kernel⟩, List.mem_of_getElem? (i := 799) (by decide +kernel), List.mem_of_getElem? (i := 1168) (by decide +kernel), List.mem_of_getElem? (i := 1169) (by decide +kernel)⟩
theorem lw_p61 : lw_okq (⟨"SlipperDukeModel", "isFit", "(I)Z"⟩, 27) := ⟨⟨by decide +kernel, by decide +kernel⟩, List.mem_of_getElem? (i := 799) (by decide +kernel), List.mem_of_getElem? (i := 1189) (by decide +kernel), List.mem_of_getElem? (i := 1190) (by decide +kernel)⟩
theorem lw_p62 : lw_okq (⟨"SlipperDukeModel", "goesSo", "(II)Z"⟩, 27) := ⟨⟨by decide +kernel, by decide +kernel⟩, List.mem_of_getElem? (i := 799) (by decide +kernel), List.mem_of_getElem? (i := 1209) (by decide +kernel), List.mem_of_getElem? (i := 1210) (by decide +kernel)⟩
def lw_privs_4 : List (MethodName × Nat) := [(⟨"SlipperDukeModel", "goesNext", "(IJ)I"⟩, 27), (⟨"SlipperDukeModel", "noises", "()J"⟩, 27), (⟨"SlipperDukeModel", "goesTo", "(IIJJJJJZ)I"⟩, 27), (⟨"SlipperDukeModel", "remembers", "(I)V"⟩, 27), (⟨"SlipperDukeModel", "turns", "(IIZ)I"⟩, 27), (⟨"SlipperDukeModel", "isDoor", "(I)Z"⟩, 27), (⟨"SlipperDukeModel", "stirs", "()V"⟩, 27), (⟨"SlipperDukeModel", "drawn", "(I)I"⟩, 27), (⟨"SlipperDukeModel", "asides", "()V"⟩, 27), (⟨"SlipperDukeModel", "backs", "()V"⟩, 27), (⟨"SlipperDukeModel", "whenIn", "(II)I"⟩, 27), (⟨"SlipperDukeModel", "reached", "(I)I"⟩, 27), (⟨"SlipperDukeModel", "enters", "(III)V"⟩, 27), (⟨"SlipperDukeModel", "isFit", "(I)Z"⟩, 27), (⟨"SlipperDukeModel", "goesSo", "(II)Z"⟩, 27)]
theorem lw_r4 : ∀ q ∈ lw_privs_4, lw_okq q := List.forall_mem_cons.mpr ⟨lw_p48, List.forall_mem_cons.mpr ⟨lw_p49, List.forall_mem_cons.mpr ⟨lw_p50, List.forall_mem_cons.mpr ⟨lw_p51, List.forall_mem_cons.mpr ⟨lw_p52, List.forall_mem_cons.mpr ⟨lw_p53, List.forall_mem_cons.mpr ⟨lw_p54, List.forall_mem_cons.mpr ⟨lw_p55, List.forall_mem_cons.mpr ⟨lw_p56, List.forall_mem_cons.mpr ⟨lw_p57, List.forall_mem_cons.mpr ⟨lw_p58, List.forall_mem_cons.mpr ⟨lw_p59, List.forall_mem_cons.mpr ⟨lw_p60, List.forall_mem_cons.mpr ⟨lw_p61, List.forall_mem_cons.mpr ⟨lw_p62, fun _ h => absurd h List.not_mem_nil⟩⟩⟩⟩⟩⟩⟩⟩⟩⟩⟩⟩⟩⟩⟩
def lw_privs : List (MethodName × Nat) := lw_privs_1 ++ (lw_privs_2 ++ (lw_privs_3 ++ (lw_privs_4)))
def lw_tbl : List Cond := k2_sels lw_privs ++ tables_1
theorem lw_privs_ok : ∀ q ∈ lw_privs, lw_okq q := by
  show ∀ q ∈ lw_privs_1 ++ (lw_privs_2 ++ (lw_privs_3 ++ (lw_privs_4))), lw_okq q
  exact List.forall_mem_append.mpr ⟨lw_r1, List.forall_mem_append.mpr ⟨lw_r2, List.forall_mem_append.mpr ⟨lw_r3, lw_r4⟩⟩⟩
end
section
def RX0 : String := "SlipperDuke$Book"
def TX0 : u_T := fun k => match k with
  | 0 => ("SlipperDuke$Book", "count", "I", false)
  | 1 => ("SlipperDuke$Book", "roomsWritten", "[I", true)
  | _ => ("SlipperDuke$Book", "oftenWritten", "[I", true)
def tyX0 : Nat → FieldType := fun k => match k with
  | 0 => .int
  | 1 => .array .int
  | _ => .array .int
theorem nmX0 : ∀ a, a < 3 → ∀ b, b < 3 → a ≠ b → (TX0 a).2.1 ≠ (TX0 b).2.1 := by decide +kernel
theorem tyX0_ok : ∀ k, k < 3 → parseFieldDescriptor (TX0 k).2.2.1 = some (tyX0 k) := by decide +kernel
abbrev cX0_init : ByteArray := prog_2_method_1_code
def yX0_init : MethodName := ⟨RX0, "<init>", "()V"⟩
abbrev cX0_add : ByteArray := prog_2_method_2_code
def yX0_add : MethodName := ⟨RX0, "add", "(II)V"⟩
abbrev cX0_firstWrong : ByteArray := prog_2_method_3_code
def yX0_firstWrong : MethodName := ⟨RX0, "firstWrong", "([I)I"⟩
def RX1 : String := "SlipperDuke$Image"
def TX1 : u_T := fun k => match k with
  | 0 => ("SlipperDuke$Image", "kept", "Z", false)
  | 1 => ("SlipperDuke$Image", "seedKept", "I", false)
  | _ => ("SlipperDuke$Image", "state", "LSlipperDuke$State;", true)
def tyX1 : Nat → FieldType := fun k => match k with
  | 0 => .boolean
  | 1 => .int
  | _ => .object "SlipperDuke$State"
theorem nmX1 : ∀ a, a < 3 → ∀ b, b < 3 → a ≠ b → (TX1 a).2.1 ≠ (TX1 b).2.1 := by decide +kernel
theorem tyX1_ok : ∀ k, k < 3 → parseFieldDescriptor (TX1 k).2.2.1 = some (tyX1 k) := by decide +kernel
abbrev cX1_init : ByteArray := prog_3_method_1_code
def yX1_init : MethodName := ⟨RX1, "<init>", "()V"⟩
def RX2 : String := "SlipperDuke$Palace"
def TX2 : u_T := fun k => match k with
  | 0 => ("SlipperDuke$Palace", "stands", "Z", false)
  | 1 => ("SlipperDuke$Palace", "rule", "I", false)
  | 2 => ("SlipperDuke$Palace", "rooms", "I", false)
  | 3 => ("SlipperDuke$Palace", "doors", "I", false)
  | 4 => ("SlipperDuke$Palace", "petitions", "I", false)
  | 5 => ("SlipperDuke$Palace", "noises", "I", false)
  | 6 => ("SlipperDuke$Palace", "carpetSet", "I", false)
  | 7 => ("SlipperDuke$Palace", "doorFrom", "[I", true)
  | 8 => ("SlipperDuke$Palace", "doorTo", "[I", true)
  | 9 => ("SlipperDuke$Palace", "chalkedFirst", "[I", true)
  | _ => ("SlipperDuke$Palace", "worth", "[I", true)
def tyX2 : Nat → FieldType := fun k => match k with
  | 0 => .boolean
  | 1 => .int
  | 2 => .int
  | 3 => .int
  | 4 => .int
  | 5 => .int
  | 6 => .int
  | 7 => .array .int
  | 8 => .array .int
  | 9 => .array .int
  | _ => .array .int
theorem nmX2 : ∀ a, a < 11 → ∀ b, b < 11 → a ≠ b → (TX2 a).2.1 ≠ (TX2 b).2.1 := by decide +kernel
theorem tyX2_ok : ∀ k, k < 11 → parseFieldDescriptor (TX2 k).2.2.1 = some (tyX2 k) := by decide +kernel
abbrev cX2_init : ByteArray := prog_4_method_1_code
def yX2_init : MethodName := ⟨RX2, "<init>", "()V"⟩
abbrev cX2_clear : ByteArray := prog_4_method_2_code
def yX2_clear : MethodName := ⟨RX2, "clear", "()V"⟩
abbrev cX2_addRoom : ByteArray := prog_4_method_3_code
def yX2_addRoom : MethodName := ⟨RX2, "addRoom", "(II)V"⟩
abbrev cX2_addDoor : ByteArray := prog_4_method_4_code
def yX2_addDoor : MethodName := ⟨RX2, "addDoor", "(II)V"⟩
abbrev cX2_addPetition : ByteArray := prog_4_method_5_code
def yX2_addPetition : MethodName := ⟨RX2, "addPetition", "(II)V"⟩
abbrev cX2_hasDoor : ByteArray := prog_4_method_6_code
def yX2_hasDoor : MethodName := ⟨RX2, "hasDoor", "(II)Z"⟩
abbrev cX2_doorsBetween : ByteArray := prog_4_method_7_code
def yX2_doorsBetween : MethodName := ⟨RX2, "doorsBetween", "(I)I"⟩
def RX3 : String := "SlipperDuke$Past"
def TX3 : u_T := fun k => match k with
  | 0 => ("SlipperDuke$Past", "count", "I", false)
  | 1 => ("SlipperDuke$Past", "free", "I", false)
  | _ => ("SlipperDuke$Past", "states", "[LSlipperDuke$State;", true)
def tyX3 : Nat → FieldType := fun k => match k with
  | 0 => .int
  | 1 => .int
  | _ => .array (.object "SlipperDuke$State")
theorem nmX3 : ∀ a, a < 3 → ∀ b, b < 3 → a ≠ b → (TX3 a).2.1 ≠ (TX3 b).2.1 := by decide +kernel
theorem tyX3_ok : ∀ k, k < 3 → parseFieldDescriptor (TX3 k).2.2.1 = some (tyX3 k) := by decide +kernel
abbrev cX3_init : ByteArray := prog_5_method_1_code
def yX3_init : MethodName := ⟨RX3, "<init>", "()V"⟩
abbrev cX3_forget : ByteArray := prog_5_method_2_code
def yX3_forget : MethodName := ⟨RX3, "forget", "()V"⟩
abbrev cX3_remember : ByteArray := prog_5_method_3_code
def yX3_remember : MethodName := ⟨RX3, "remember", "(LSlipperDuke$State;)V"⟩
abbrev cX3_giveBack : ByteArray := prog_5_method_4_code
def yX3_giveBack : MethodName := ⟨RX3, "giveBack", "(LSlipperDuke$State;)V"⟩
def RX4 : String := "SlipperDuke$Slippers"
def TX4 : u_T := fun k => match k with
  | 0 => ("SlipperDuke$Slippers", "rule", "I", false)
  | 1 => ("SlipperDuke$Slippers", "at", "I", false)
  | 2 => ("SlipperDuke$Slippers", "wear", "I", false)
  | 3 => ("SlipperDuke$Slippers", "noises", "I", false)
  | 4 => ("SlipperDuke$Slippers", "often", "I", false)
  | 5 => ("SlipperDuke$Slippers", "carpetSet", "I", false)
  | 6 => ("SlipperDuke$Slippers", "nailSet", "I", false)
  | _ => ("SlipperDuke$Slippers", "beside", "[I", true)
def tyX4 : Nat → FieldType := fun k => match k with
  | 0 => .int
  | 1 => .int
  | 2 => .int
  | 3 => .int
  | 4 => .int
  | 5 => .int
  | 6 => .int
  | _ => .array .int
theorem nmX4 : ∀ a, a < 8 → ∀ b, b < 8 → a ≠ b → (TX4 a).2.1 ≠ (TX4 b).2.1 := by decide +kernel
theorem tyX4_ok : ∀ k, k < 8 → parseFieldDescriptor (TX4 k).2.2.1 = some (tyX4 k) := by decide +kernel
abbrev cX4_init : ByteArray := prog_6_method_1_code
def yX4_init : MethodName := ⟨RX4, "<init>", "()V"⟩
abbrev cX4_begin : ByteArray := prog_6_method_2_code
def yX4_begin : MethodName := ⟨RX4, "begin", "(LSlipperDuke$Palace;)V"⟩
abbrev cX4_copyFrom : ByteArray := prog_6_method_3_code
def yX4_copyFrom : MethodName := ⟨RX4, "copyFrom", "(LSlipperDuke$Slippers;)V"⟩
abbrev cX4_openDoor : ByteArray := prog_6_method_4_code
def yX4_openDoor : MethodName := ⟨RX4, "openDoor", "(IIZ)V"⟩
abbrev cX4_isWorn : ByteArray := prog_6_method_5_code
def yX4_isWorn : MethodName := ⟨RX4, "isWorn", "()Z"⟩
abbrev cX4_roomsAhead : ByteArray := prog_6_method_6_code
def yX4_roomsAhead : MethodName := ⟨RX4, "roomsAhead", "()I"⟩
abbrev cX4_pullNow : ByteArray := prog_6_method_7_code
def yX4_pullNow : MethodName := ⟨RX4, "pullNow", "(I)I"⟩
abbrev cX4_nextBy : ByteArray := prog_6_method_8_code
def yX4_nextBy : MethodName := ⟨RX4, "nextBy", "(I)I"⟩
abbrev cX4_feelGoverned : ByteArray := prog_6_method_9_code
def yX4_feelGoverned : MethodName := ⟨RX4, "feelGoverned", "()V"⟩
abbrev cX4_stepTo : ByteArray := prog_6_method_10_code
def yX4_stepTo : MethodName := ⟨RX4, "stepTo", "(I)V"⟩
abbrev cX4_tryHour : ByteArray := prog_6_method_11_code
def yX4_tryHour : MethodName := ⟨RX4, "tryHour", "()V"⟩
abbrev cX4_pullOf : ByteArray := prog_6_method_12_code
def yX4_pullOf : MethodName := ⟨RX4, "pullOf", "(IIIIIZ)I"⟩
abbrev cX4_liked : ByteArray := prog_6_method_13_code
def yX4_liked : MethodName := ⟨RX4, "liked", "(IIIIIZ)I"⟩
def RX5 : String := "SlipperDuke$State"
def TX5 : u_T := fun k => match k with
  | 0 => ("SlipperDuke$State", "slippers", "LSlipperDuke$Slippers;", true)
  | 1 => ("SlipperDuke$State", "way", "LSlipperDuke$Way;", true)
  | 2 => ("SlipperDuke$State", "hours", "I", false)
  | 3 => ("SlipperDuke$State", "brickSet", "I", false)
  | 4 => ("SlipperDuke$State", "heardSet", "I", false)
  | 5 => ("SlipperDuke$State", "worthHeard", "I", false)
  | 6 => ("SlipperDuke$State", "governedOften", "[I", true)
  | _ => ("SlipperDuke$State", "chalkedIn", "[I", true)
def tyX5 : Nat → FieldType := fun k => match k with
  | 0 => .object "SlipperDuke$Slippers"
  | 1 => .object "SlipperDuke$Way"
  | 2 => .int
  | 3 => .int
  | 4 => .int
  | 5 => .int
  | 6 => .array .int
  | _ => .array .int
theorem nmX5 : ∀ a, a < 8 → ∀ b, b < 8 → a ≠ b → (TX5 a).2.1 ≠ (TX5 b).2.1 := by decide +kernel
theorem tyX5_ok : ∀ k, k < 8 → parseFieldDescriptor (TX5 k).2.2.1 = some (tyX5 k) := by decide +kernel
abbrev cX5_init : ByteArray := prog_7_method_1_code
def yX5_init : MethodName := ⟨RX5, "<init>", "()V"⟩
abbrev cX5_begin : ByteArray := prog_7_method_2_code
def yX5_begin : MethodName := ⟨RX5, "begin", "(LSlipperDuke$Palace;)V"⟩
abbrev cX5_copyFrom : ByteArray := prog_7_method_3_code
def yX5_copyFrom : MethodName := ⟨RX5, "copyFrom", "(LSlipperDuke$State;)V"⟩
abbrev cX5_passHour : ByteArray := prog_7_method_4_code
def yX5_passHour : MethodName := ⟨RX5, "passHour", "(LSlipperDuke$Palace;)V"⟩
abbrev cX5_hearAll : ByteArray := prog_7_method_5_code
def yX5_hearAll : MethodName := ⟨RX5, "hearAll", "(LSlipperDuke$Palace;)V"⟩
def RX6 : String := "SlipperDuke$Text"
def TX6 : u_T := fun k => match k with
  | 0 => ("SlipperDuke$Text", "length", "I", false)
  | 1 => ("SlipperDuke$Text", "faultNumber", "I", false)
  | 2 => ("SlipperDuke$Text", "faultAt", "I", false)
  | 3 => ("SlipperDuke$Text", "draft", "LSlipperDuke$Palace;", false)
  | 4 => ("SlipperDuke$Text", "letters", "[I", true)
  | 5 => ("SlipperDuke$Text", "next", "I", false)
  | _ => ("SlipperDuke$Text", "numberAt", "I", false)
def tyX6 : Nat → FieldType := fun k => match k with
  | 0 => .int
  | 1 => .int
  | 2 => .int
  | 3 => .object "SlipperDuke$Palace"
  | 4 => .array .int
  | 5 => .int
  | _ => .int
theorem nmX6 : ∀ a, a < 7 → ∀ b, b < 7 → a ≠ b → (TX6 a).2.1 ≠ (TX6 b).2.1 := by decide +kernel
theorem tyX6_ok : ∀ k, k < 7 → parseFieldDescriptor (TX6 k).2.2.1 = some (tyX6 k) := by decide +kernel
abbrev cX6_init : ByteArray := prog_8_method_1_code
def yX6_init : MethodName := ⟨RX6, "<init>", "()V"⟩
abbrev cX6_add : ByteArray := prog_8_method_2_code
def yX6_add : MethodName := ⟨RX6, "add", "(I)V"⟩
abbrev cX6_read : ByteArray := prog_8_method_3_code
def yX6_read : MethodName := ⟨RX6, "read", "()V"⟩
abbrev cX6_readClause : ByteArray := prog_8_method_4_code
def yX6_readClause : MethodName := ⟨RX6, "readClause", "()V"⟩
abbrev cX6_readRule : ByteArray := prog_8_method_5_code
def yX6_readRule : MethodName := ⟨RX6, "readRule", "()V"⟩
abbrev cX6_readRoom : ByteArray := prog_8_method_6_code
def yX6_readRoom : MethodName := ⟨RX6, "readRoom", "()V"⟩
abbrev cX6_readDoor : ByteArray := prog_8_method_7_code
def yX6_readDoor : MethodName := ⟨RX6, "readDoor", "()V"⟩
abbrev cX6_readPetition : ByteArray := prog_8_method_8_code
def yX6_readPetition : MethodName := ⟨RX6, "readPetition", "()V"⟩
abbrev cX6_readWord : ByteArray := prog_8_method_9_code
def yX6_readWord : MethodName := ⟨RX6, "readWord", "(Z)V"⟩
abbrev cX6_readNumber : ByteArray := prog_8_method_10_code
def yX6_readNumber : MethodName := ⟨RX6, "readNumber", "(I)I"⟩
abbrev cX6_readEnd : ByteArray := prog_8_method_11_code
def yX6_readEnd : MethodName := ⟨RX6, "readEnd", "()V"⟩
abbrev cX6_skipBlanks : ByteArray := prog_8_method_12_code
def yX6_skipBlanks : MethodName := ⟨RX6, "skipBlanks", "()V"⟩
abbrev cX6_noteFault : ByteArray := prog_8_method_13_code
def yX6_noteFault : MethodName := ⟨RX6, "noteFault", "(II)V"⟩
def RX7 : String := "SlipperDuke$Way"
def TX7 : u_T := fun k => match k with
  | 0 => ("SlipperDuke$Way", "count", "I", false)
  | 1 => ("SlipperDuke$Way", "free", "I", false)
  | 2 => ("SlipperDuke$Way", "fromTo", "[I", true)
  | 3 => ("SlipperDuke$Way", "sets", "[I", true)
  | 4 => ("SlipperDuke$Way", "noises", "[I", true)
  | _ => ("SlipperDuke$Way", "often", "[I", true)
def tyX7 : Nat → FieldType := fun k => match k with
  | 0 => .int
  | 1 => .int
  | 2 => .array .int
  | 3 => .array .int
  | 4 => .array .int
  | _ => .array .int
theorem nmX7 : ∀ a, a < 6 → ∀ b, b < 6 → a ≠ b → (TX7 a).2.1 ≠ (TX7 b).2.1 := by decide +kernel
theorem tyX7_ok : ∀ k, k < 6 → parseFieldDescriptor (TX7 k).2.2.1 = some (tyX7 k) := by decide +kernel
abbrev cX7_init : ByteArray := prog_9_method_1_code
def yX7_init : MethodName := ⟨RX7, "<init>", "()V"⟩
abbrev cX7_clear : ByteArray := prog_9_method_2_code
def yX7_clear : MethodName := ⟨RX7, "clear", "()V"⟩
abbrev cX7_copyFrom : ByteArray := prog_9_method_3_code
def yX7_copyFrom : MethodName := ⟨RX7, "copyFrom", "(LSlipperDuke$Way;)V"⟩
abbrev cX7_add : ByteArray := prog_9_method_4_code
def yX7_add : MethodName := ⟨RX7, "add", "(LSlipperDuke$Slippers;I)V"⟩
abbrev cX7_fromAndTo : ByteArray := prog_9_method_5_code
def yX7_fromAndTo : MethodName := ⟨RX7, "fromAndTo", "(I)I"⟩
abbrev cX7_fittingRules : ByteArray := prog_9_method_6_code
def yX7_fittingRules : MethodName := ⟨RX7, "fittingRules", "()J"⟩
abbrev cX7_isFitting : ByteArray := prog_9_method_7_code
def yX7_isFitting : MethodName := ⟨RX7, "isFitting", "(I)Z"⟩
def RX8 : String := "SlipperDuke"
def TX8 : u_T := fun k => match k with
  | 0 => ("SlipperDuke", "text", "LSlipperDuke$Text;", true)
  | 1 => ("SlipperDuke", "plan", "LSlipperDuke$Palace;", false)
  | 2 => ("SlipperDuke", "now", "LSlipperDuke$State;", true)
  | 3 => ("SlipperDuke", "past", "LSlipperDuke$Past;", true)
  | 4 => ("SlipperDuke", "images", "[LSlipperDuke$Image;", true)
  | 5 => ("SlipperDuke", "book", "LSlipperDuke$Book;", true)
  | 6 => ("SlipperDuke", "theSeed", "I", false)
  | 7 => ("SlipperDuke", "tried", "LSlipperDuke$Slippers;", true)
  | 8 => ("SlipperDuke", "pair", "LSlipperDuke$Slippers;", true)
  | _ => ("SlipperDuke", "scratch", "[I", true)
def tyX8 : Nat → FieldType := fun k => match k with
  | 0 => .object "SlipperDuke$Text"
  | 1 => .object "SlipperDuke$Palace"
  | 2 => .object "SlipperDuke$State"
  | 3 => .object "SlipperDuke$Past"
  | 4 => .array (.object "SlipperDuke$Image")
  | 5 => .object "SlipperDuke$Book"
  | 6 => .int
  | 7 => .object "SlipperDuke$Slippers"
  | 8 => .object "SlipperDuke$Slippers"
  | _ => .array .int
theorem nmX8 : ∀ a, a < 10 → ∀ b, b < 10 → a ≠ b → (TX8 a).2.1 ≠ (TX8 b).2.1 := by decide +kernel
theorem tyX8_ok : ∀ k, k < 10 → parseFieldDescriptor (TX8 k).2.2.1 = some (tyX8 k) := by decide +kernel
abbrev cX8_init : ByteArray := prog_1_method_1_code
def yX8_init : MethodName := ⟨RX8, "<init>", "()V"⟩
abbrev cX8_feed : ByteArray := prog_1_method_2_code
def yX8_feed : MethodName := ⟨RX8, "feed", "(I)I"⟩
abbrev cX8_palace : ByteArray := prog_1_method_3_code
def yX8_palace : MethodName := ⟨RX8, "palace", "()I"⟩
abbrev cX8_fault : ByteArray := prog_1_method_4_code
def yX8_fault : MethodName := ⟨RX8, "fault", "()I"⟩
abbrev cX8_told : ByteArray := prog_1_method_5_code
def yX8_told : MethodName := ⟨RX8, "told", "(I)I"⟩
abbrev cX8_room : ByteArray := prog_1_method_6_code
def yX8_room : MethodName := ⟨RX8, "room", "(II)I"⟩
abbrev cX8_petition : ByteArray := prog_1_method_7_code
def yX8_petition : MethodName := ⟨RX8, "petition", "(II)I"⟩
abbrev cX8_went : ByteArray := prog_1_method_8_code
def yX8_went : MethodName := ⟨RX8, "went", "(I)I"⟩
abbrev cX8_hour : ByteArray := prog_1_method_9_code
def yX8_hour : MethodName := ⟨RX8, "hour", "(I)I"⟩
abbrev cX8_carpet : ByteArray := prog_1_method_10_code
def yX8_carpet : MethodName := ⟨RX8, "carpet", "(IZ)I"⟩
abbrev cX8_noise : ByteArray := prog_1_method_11_code
def yX8_noise : MethodName := ⟨RX8, "noise", "(II)I"⟩
abbrev cX8_nail : ByteArray := prog_1_method_12_code
def yX8_nail : MethodName := ⟨RX8, "nail", "(IZ)I"⟩
abbrev cX8_brick : ByteArray := prog_1_method_13_code
def yX8_brick : MethodName := ⟨RX8, "brick", "(IZ)I"⟩
abbrev cX8_chalk : ByteArray := prog_1_method_14_code
def yX8_chalk : MethodName := ⟨RX8, "chalk", "(II)I"⟩
abbrev cX8_sole : ByteArray := prog_1_method_15_code
def yX8_sole : MethodName := ⟨RX8, "sole", "()I"⟩
abbrev cX8_teach : ByteArray := prog_1_method_16_code
def yX8_teach : MethodName := ⟨RX8, "teach", "(I)I"⟩
abbrev cX8_drift : ByteArray := prog_1_method_17_code
def yX8_drift : MethodName := ⟨RX8, "drift", "(I)I"⟩
abbrev cX8_undo : ByteArray := prog_1_method_18_code
def yX8_undo : MethodName := ⟨RX8, "undo", "()I"⟩
abbrev cX8_where : ByteArray := prog_1_method_19_code
def yX8_where : MethodName := ⟨RX8, "where", "(I)I"⟩
abbrev cX8_when : ByteArray := prog_1_method_20_code
def yX8_when : MethodName := ⟨RX8, "when", "(I)I"⟩
abbrev cX8_governed : ByteArray := prog_1_method_21_code
def yX8_governed : MethodName := ⟨RX8, "governed", "(II)I"⟩
abbrev cX8_ring : ByteArray := prog_1_method_22_code
def yX8_ring : MethodName := ⟨RX8, "ring", "()I"⟩
abbrev cX8_carpets : ByteArray := prog_1_method_23_code
def yX8_carpets : MethodName := ⟨RX8, "carpets", "(II)I"⟩
abbrev cX8_bricks : ByteArray := prog_1_method_24_code
def yX8_bricks : MethodName := ⟨RX8, "bricks", "(I)I"⟩
abbrev cX8_quietest : ByteArray := prog_1_method_25_code
def yX8_quietest : MethodName := ⟨RX8, "quietest", "(I)I"⟩
abbrev cX8_stand : ByteArray := prog_1_method_26_code
def yX8_stand : MethodName := ⟨RX8, "stand", "()I"⟩
abbrev cX8_willHear : ByteArray := prog_1_method_27_code
def yX8_willHear : MethodName := ⟨RX8, "willHear", "(I)I"⟩
abbrev cX8_dance : ByteArray := prog_1_method_28_code
def yX8_dance : MethodName := ⟨RX8, "dance", "(II)I"⟩
abbrev cX8_fit : ByteArray := prog_1_method_29_code
def yX8_fit : MethodName := ⟨RX8, "fit", "(I)I"⟩
abbrev cX8_tells : ByteArray := prog_1_method_30_code
def yX8_tells : MethodName := ⟨RX8, "tells", "()I"⟩
abbrev cX8_teachFor : ByteArray := prog_1_method_31_code
def yX8_teachFor : MethodName := ⟨RX8, "teachFor", "(I)I"⟩
abbrev cX8_otherwise : ByteArray := prog_1_method_32_code
def yX8_otherwise : MethodName := ⟨RX8, "otherwise", "(I)I"⟩
abbrev cX8_write : ByteArray := prog_1_method_33_code
def yX8_write : MethodName := ⟨RX8, "write", "(II)I"⟩
abbrev cX8_tear : ByteArray := prog_1_method_34_code
def yX8_tear : MethodName := ⟨RX8, "tear", "()I"⟩
abbrev cX8_judge : ByteArray := prog_1_method_35_code
def yX8_judge : MethodName := ⟨RX8, "judge", "()I"⟩
abbrev cX8_seed : ByteArray := prog_1_method_36_code
def yX8_seed : MethodName := ⟨RX8, "seed", "(I)I"⟩
abbrev cX8_keep : ByteArray := prog_1_method_37_code
def yX8_keep : MethodName := ⟨RX8, "keep", "(I)I"⟩
abbrev cX8_goBack : ByteArray := prog_1_method_38_code
def yX8_goBack : MethodName := ⟨RX8, "goBack", "(I)I"⟩
abbrev cX8_isNoRoom : ByteArray := prog_1_method_39_code
def yX8_isNoRoom : MethodName := ⟨RX8, "isNoRoom", "(I)Z"⟩
abbrev cX8_isNoPetition : ByteArray := prog_1_method_40_code
def yX8_isNoPetition : MethodName := ⟨RX8, "isNoPetition", "(I)Z"⟩
abbrev cX8_isNoRule : ByteArray := prog_1_method_41_code
def yX8_isNoRule : MethodName := ⟨RX8, "isNoRule", "(I)Z"⟩
abbrev cX8_refusalOfHours : ByteArray := prog_1_method_42_code
def yX8_refusalOfHours : MethodName := ⟨RX8, "refusalOfHours", "(I)I"⟩
abbrev cX8_draw : ByteArray := prog_1_method_43_code
def yX8_draw : MethodName := ⟨RX8, "draw", "(I)I"⟩
abbrev cX8_changeByDraws : ByteArray := prog_1_method_44_code
def yX8_changeByDraws : MethodName := ⟨RX8, "changeByDraws", "()V"⟩
abbrev cX8_hoursUntil : ByteArray := prog_1_method_45_code
def yX8_hoursUntil : MethodName := ⟨RX8, "hoursUntil", "(II)I"⟩
abbrev cX8_isBetterSet : ByteArray := prog_1_method_46_code
def yX8_isBetterSet : MethodName := ⟨RX8, "isBetterSet", "(II)Z"⟩
abbrev cX8_comesByCarpets : ByteArray := prog_1_method_47_code
def yX8_comesByCarpets : MethodName := ⟨RX8, "comesByCarpets", "(III)Z"⟩
abbrev cX8_doorsToPass : ByteArray := prog_1_method_48_code
def yX8_doorsToPass : MethodName := ⟨RX8, "doorsToPass", "()I"⟩
abbrev cX8_spreadNoise : ByteArray := prog_1_method_49_code
def yX8_spreadNoise : MethodName := ⟨RX8, "spreadNoise", "([II)V"⟩
abbrev cX8_worthToHear : ByteArray := prog_1_method_50_code
def yX8_worthToHear : MethodName := ⟨RX8, "worthToHear", "(I)I"⟩
abbrev cX8_greatestPart : ByteArray := prog_1_method_51_code
def yX8_greatestPart : MethodName := ⟨RX8, "greatestPart", "(J)I"⟩
abbrev cX8_isOfRooms : ByteArray := prog_1_method_52_code
def yX8_isOfRooms : MethodName := ⟨RX8, "isOfRooms", "(I)Z"⟩
abbrev cX8_goesSo : ByteArray := prog_1_method_53_code
def yX8_goesSo : MethodName := ⟨RX8, "goesSo", "(II)Z"⟩
abbrev cX8_apart : ByteArray := prog_1_method_54_code
def yX8_apart : MethodName := ⟨RX8, "apart", "(II)I"⟩
abbrev cX8_quietOf : ByteArray := prog_1_method_55_code
def yX8_quietOf : MethodName := ⟨RX8, "quietOf", "(I)I"⟩
abbrev cX8_softOf : ByteArray := prog_1_method_56_code
def yX8_softOf : MethodName := ⟨RX8, "softOf", "(I)I"⟩
abbrev cX8_newOf : ByteArray := prog_1_method_57_code
def yX8_newOf : MethodName := ⟨RX8, "newOf", "(I)I"⟩
abbrev cX8_bit : ByteArray := prog_1_method_58_code
def yX8_bit : MethodName := ⟨RX8, "bit", "(II)I"⟩
abbrev cX8_withBit : ByteArray := prog_1_method_59_code
def yX8_withBit : MethodName := ⟨RX8, "withBit", "(IIZ)I"⟩
abbrev cX8_packedAt : ByteArray := prog_1_method_60_code
def yX8_packedAt : MethodName := ⟨RX8, "packedAt", "(II)I"⟩
abbrev cX8_withPacked : ByteArray := prog_1_method_61_code
def yX8_withPacked : MethodName := ⟨RX8, "withPacked", "(III)I"⟩
def RX9 : String := "SlipperDukeModel"
def TX9 : u_T := fun k => match k with
  | 0 => ("SlipperDukeModel", "isPalace", "Z", false)
  | 1 => ("SlipperDukeModel", "rooms", "I", false)
  | 2 => ("SlipperDukeModel", "doors", "I", false)
  | 3 => ("SlipperDukeModel", "petitions", "I", false)
  | 4 => ("SlipperDukeModel", "doorFrom", "[I", true)
  | 5 => ("SlipperDukeModel", "doorTo", "[I", true)
  | 6 => ("SlipperDukeModel", "worths", "[I", true)
  | 7 => ("SlipperDukeModel", "now", "[J", true)
  | 8 => ("SlipperDukeModel", "draw", "J", false)
  | 9 => ("SlipperDukeModel", "text", "[I", true)
  | 10 => ("SlipperDukeModel", "typed", "I", false)
  | 11 => ("SlipperDukeModel", "place", "I", false)
  | 12 => ("SlipperDukeModel", "wrong", "I", false)
  | 13 => ("SlipperDukeModel", "latestFault", "I", false)
  | 14 => ("SlipperDukeModel", "read", "[I", true)
  | 15 => ("SlipperDukeModel", "undone", "[J", true)
  | 16 => ("SlipperDukeModel", "undos", "I", false)
  | 17 => ("SlipperDukeModel", "aside", "[J", true)
  | 18 => ("SlipperDukeModel", "sums", "[I", true)
  | 19 => ("SlipperDukeModel", "fits", "[Z", true)
  | 20 => ("SlipperDukeModel", "parts", "[I", true)
  | 21 => ("SlipperDukeModel", "path", "[I", true)
  | 22 => ("SlipperDukeModel", "walked", "[I", true)
  | 23 => ("SlipperDukeModel", "book", "[I", true)
  | 24 => ("SlipperDukeModel", "written", "I", false)
  | 25 => ("SlipperDukeModel", "kept", "[J", true)
  | _ => ("SlipperDukeModel", "isKept", "[Z", true)
def tyX9 : Nat → FieldType := fun k => match k with
  | 0 => .boolean
  | 1 => .int
  | 2 => .int
  | 3 => .int
  | 4 => .array .int
  | 5 => .array .int
  | 6 => .array .int
  | 7 => .array .long
  | 8 => .long
  | 9 => .array .int
  | 10 => .int
  | 11 => .int
  | 12 => .int
  | 13 => .int
  | 14 => .array .int
  | 15 => .array .long
  | 16 => .int
  | 17 => .array .long
  | 18 => .array .int
  | 19 => .array .boolean
  | 20 => .array .int
  | 21 => .array .int
  | 22 => .array .int
  | 23 => .array .int
  | 24 => .int
  | 25 => .array .long
  | _ => .array .boolean
theorem nmX9 : ∀ a, a < 27 → ∀ b, b < 27 → a ≠ b → (TX9 a).2.1 ≠ (TX9 b).2.1 := by decide +kernel
theorem tyX9_ok : ∀ k, k < 27 → parseFieldDescriptor (TX9 k).2.2.1 = some (tyX9 k) := by decide +kernel
abbrev cX9_in : ByteArray := prog_11_method_2_code
def yX9_in : MethodName := ⟨RX9, "in", "(JJJ)Z"⟩
abbrev cX9_init : ByteArray := prog_11_method_3_code
def yX9_init : MethodName := ⟨RX9, "<init>", "()V"⟩
abbrev cX9_at : ByteArray := prog_11_method_4_code
def yX9_at : MethodName := ⟨RX9, "at", "(I)I"⟩
abbrev cX9_isRoom : ByteArray := prog_11_method_5_code
def yX9_isRoom : MethodName := ⟨RX9, "isRoom", "(I)Z"⟩
abbrev cX9_isDoor : ByteArray := prog_11_method_6_code
def yX9_isDoor : MethodName := ⟨RX9, "isDoor", "(I)Z"⟩
abbrev cX9_isPetition : ByteArray := prog_11_method_7_code
def yX9_isPetition : MethodName := ⟨RX9, "isPetition", "(I)Z"⟩
abbrev cX9_isRule : ByteArray := prog_11_method_8_code
def yX9_isRule : MethodName := ⟨RX9, "isRule", "(I)Z"⟩
abbrev cX9_doorBetween : ByteArray := prog_11_method_9_code
def yX9_doorBetween : MethodName := ⟨RX9, "doorBetween", "(II)I"⟩
abbrev cX9_pull : ByteArray := prog_11_method_10_code
def yX9_pull : MethodName := ⟨RX9, "pull", "(IIZIZ)I"⟩
abbrev cX9_noises : ByteArray := prog_11_method_11_code
def yX9_noises : MethodName := ⟨RX9, "noises", "()J"⟩
abbrev cX9_counts : ByteArray := prog_11_method_12_code
def yX9_counts : MethodName := ⟨RX9, "counts", "()J"⟩
abbrev cX9_has : ByteArray := prog_11_method_13_code
def yX9_has : MethodName := ⟨RX9, "has", "(JI)Z"⟩
abbrev cX9_goesTo : ByteArray := prog_11_method_14_code
def yX9_goesTo : MethodName := ⟨RX9, "goesTo", "(IIJJJJJZ)I"⟩
abbrev cX9_isWorn : ByteArray := prog_11_method_15_code
def yX9_isWorn : MethodName := ⟨RX9, "isWorn", "()Z"⟩
abbrev cX9_goesNext : ByteArray := prog_11_method_16_code
def yX9_goesNext : MethodName := ⟨RX9, "goesNext", "(IJ)I"⟩
abbrev cX9_remembers : ByteArray := prog_11_method_17_code
def yX9_remembers : MethodName := ⟨RX9, "remembers", "(I)V"⟩
abbrev cX9_wayFrom : ByteArray := prog_11_method_18_code
def yX9_wayFrom : MethodName := ⟨RX9, "wayFrom", "(I)I"⟩
abbrev cX9_wayTo : ByteArray := prog_11_method_19_code
def yX9_wayTo : MethodName := ⟨RX9, "wayTo", "(I)I"⟩
abbrev cX9_hears : ByteArray := prog_11_method_20_code
def yX9_hears : MethodName := ⟨RX9, "hears", "()V"⟩
abbrev cX9_goesBy : ByteArray := prog_11_method_21_code
def yX9_goesBy : MethodName := ⟨RX9, "goesBy", "()V"⟩
abbrev cX9_goesOn : ByteArray := prog_11_method_22_code
def yX9_goesOn : MethodName := ⟨RX9, "goesOn", "(I)V"⟩
abbrev cX9_feed : ByteArray := prog_11_method_23_code
def yX9_feed : MethodName := ⟨RX9, "feed", "(I)I"⟩
abbrev cX9_here : ByteArray := prog_11_method_24_code
def yX9_here : MethodName := ⟨RX9, "here", "()I"⟩
abbrev cX9_isFigure : ByteArray := prog_11_method_25_code
def yX9_isFigure : MethodName := ⟨RX9, "isFigure", "(I)Z"⟩
abbrev cX9_faults : ByteArray := prog_11_method_26_code
def yX9_faults : MethodName := ⟨RX9, "faults", "(I)V"⟩
abbrev cX9_number : ByteArray := prog_11_method_27_code
def yX9_number : MethodName := ⟨RX9, "number", "(I)I"⟩
abbrev cX9_ends : ByteArray := prog_11_method_28_code
def yX9_ends : MethodName := ⟨RX9, "ends", "()V"⟩
abbrev cX9_readRule : ByteArray := prog_11_method_29_code
def yX9_readRule : MethodName := ⟨RX9, "readRule", "()V"⟩
abbrev cX9_readRoom : ByteArray := prog_11_method_30_code
def yX9_readRoom : MethodName := ⟨RX9, "readRoom", "()V"⟩
abbrev cX9_readDoor : ByteArray := prog_11_method_31_code
def yX9_readDoor : MethodName := ⟨RX9, "readDoor", "()V"⟩
abbrev cX9_readPetition : ByteArray := prog_11_method_32_code
def yX9_readPetition : MethodName := ⟨RX9, "readPetition", "()V"⟩
abbrev cX9_readClause : ByteArray := prog_11_method_33_code
def yX9_readClause : MethodName := ⟨RX9, "readClause", "()V"⟩
abbrev cX9_becomes : ByteArray := prog_11_method_34_code
def yX9_becomes : MethodName := ⟨RX9, "becomes", "()V"⟩
abbrev cX9_palace : ByteArray := prog_11_method_35_code
def yX9_palace : MethodName := ⟨RX9, "palace", "()I"⟩
abbrev cX9_fault : ByteArray := prog_11_method_36_code
def yX9_fault : MethodName := ⟨RX9, "fault", "()I"⟩
abbrev cX9_told : ByteArray := prog_11_method_37_code
def yX9_told : MethodName := ⟨RX9, "told", "(I)I"⟩
abbrev cX9_beside : ByteArray := prog_11_method_38_code
def yX9_beside : MethodName := ⟨RX9, "beside", "(I)I"⟩
abbrev cX9_room : ByteArray := prog_11_method_39_code
def yX9_room : MethodName := ⟨RX9, "room", "(II)I"⟩
abbrev cX9_petition : ByteArray := prog_11_method_40_code
def yX9_petition : MethodName := ⟨RX9, "petition", "(II)I"⟩
abbrev cX9_went : ByteArray := prog_11_method_41_code
def yX9_went : MethodName := ⟨RX9, "went", "(I)I"⟩
abbrev cX9_notes : ByteArray := prog_11_method_42_code
def yX9_notes : MethodName := ⟨RX9, "notes", "()V"⟩
abbrev cX9_hour : ByteArray := prog_11_method_43_code
def yX9_hour : MethodName := ⟨RX9, "hour", "(I)I"⟩
abbrev cX9_turns : ByteArray := prog_11_method_44_code
def yX9_turns : MethodName := ⟨RX9, "turns", "(IIZ)I"⟩
abbrev cX9_carpet : ByteArray := prog_11_method_45_code
def yX9_carpet : MethodName := ⟨RX9, "carpet", "(IZ)I"⟩
abbrev cX9_noise : ByteArray := prog_11_method_46_code
def yX9_noise : MethodName := ⟨RX9, "noise", "(II)I"⟩
abbrev cX9_nail : ByteArray := prog_11_method_47_code
def yX9_nail : MethodName := ⟨RX9, "nail", "(IZ)I"⟩
abbrev cX9_brick : ByteArray := prog_11_method_48_code
def yX9_brick : MethodName := ⟨RX9, "brick", "(IZ)I"⟩
abbrev cX9_chalk : ByteArray := prog_11_method_49_code
def yX9_chalk : MethodName := ⟨RX9, "chalk", "(II)I"⟩
abbrev cX9_sole : ByteArray := prog_11_method_50_code
def yX9_sole : MethodName := ⟨RX9, "sole", "()I"⟩
abbrev cX9_teach : ByteArray := prog_11_method_51_code
def yX9_teach : MethodName := ⟨RX9, "teach", "(I)I"⟩
abbrev cX9_drawn : ByteArray := prog_11_method_52_code
def yX9_drawn : MethodName := ⟨RX9, "drawn", "(I)I"⟩
abbrev cX9_stirs : ByteArray := prog_11_method_53_code
def yX9_stirs : MethodName := ⟨RX9, "stirs", "()V"⟩
abbrev cX9_drift : ByteArray := prog_11_method_54_code
def yX9_drift : MethodName := ⟨RX9, "drift", "(I)I"⟩
abbrev cX9_undo : ByteArray := prog_11_method_55_code
def yX9_undo : MethodName := ⟨RX9, "undo", "()I"⟩
abbrev cX9_asides : ByteArray := prog_11_method_56_code
def yX9_asides : MethodName := ⟨RX9, "asides", "()V"⟩
abbrev cX9_backs : ByteArray := prog_11_method_57_code
def yX9_backs : MethodName := ⟨RX9, "backs", "()V"⟩
abbrev cX9_where : ByteArray := prog_11_method_58_code
def yX9_where : MethodName := ⟨RX9, "where", "(I)I"⟩
abbrev cX9_whenIn : ByteArray := prog_11_method_59_code
def yX9_whenIn : MethodName := ⟨RX9, "whenIn", "(II)I"⟩
abbrev cX9_when : ByteArray := prog_11_method_60_code
def yX9_when : MethodName := ⟨RX9, "when", "(I)I"⟩
abbrev cX9_governed : ByteArray := prog_11_method_61_code
def yX9_governed : MethodName := ⟨RX9, "governed", "(II)I"⟩
abbrev cX9_ring : ByteArray := prog_11_method_62_code
def yX9_ring : MethodName := ⟨RX9, "ring", "()I"⟩
abbrev cX9_many : ByteArray := prog_11_method_63_code
def yX9_many : MethodName := ⟨RX9, "many", "(I)I"⟩
abbrev cX9_carpets : ByteArray := prog_11_method_64_code
def yX9_carpets : MethodName := ⟨RX9, "carpets", "(II)I"⟩
abbrev cX9_reached : ByteArray := prog_11_method_65_code
def yX9_reached : MethodName := ⟨RX9, "reached", "(I)I"⟩
abbrev cX9_bricks : ByteArray := prog_11_method_66_code
def yX9_bricks : MethodName := ⟨RX9, "bricks", "(I)I"⟩
abbrev cX9_enters : ByteArray := prog_11_method_67_code
def yX9_enters : MethodName := ⟨RX9, "enters", "(III)V"⟩
abbrev cX9_quietest : ByteArray := prog_11_method_68_code
def yX9_quietest : MethodName := ⟨RX9, "quietest", "(I)I"⟩
abbrev cX9_stand : ByteArray := prog_11_method_69_code
def yX9_stand : MethodName := ⟨RX9, "stand", "()I"⟩
abbrev cX9_willHear : ByteArray := prog_11_method_70_code
def yX9_willHear : MethodName := ⟨RX9, "willHear", "(I)I"⟩
abbrev cX9_dance : ByteArray := prog_11_method_71_code
def yX9_dance : MethodName := ⟨RX9, "dance", "(II)I"⟩
abbrev cX9_isFit : ByteArray := prog_11_method_72_code
def yX9_isFit : MethodName := ⟨RX9, "isFit", "(I)Z"⟩
abbrev cX9_fit : ByteArray := prog_11_method_73_code
def yX9_fit : MethodName := ⟨RX9, "fit", "(I)I"⟩
abbrev cX9_tells : ByteArray := prog_11_method_74_code
def yX9_tells : MethodName := ⟨RX9, "tells", "()I"⟩
abbrev cX9_goesSo : ByteArray := prog_11_method_75_code
def yX9_goesSo : MethodName := ⟨RX9, "goesSo", "(II)Z"⟩
abbrev cX9_apart : ByteArray := prog_11_method_76_code
def yX9_apart : MethodName := ⟨RX9, "apart", "(II)I"⟩
abbrev cX9_differ : ByteArray := prog_11_method_77_code
def yX9_differ : MethodName := ⟨RX9, "differ", "(II)I"⟩
abbrev cX9_teachFor : ByteArray := prog_11_method_78_code
def yX9_teachFor : MethodName := ⟨RX9, "teachFor", "(I)I"⟩
abbrev cX9_otherwise : ByteArray := prog_11_method_79_code
def yX9_otherwise : MethodName := ⟨RX9, "otherwise", "(I)I"⟩
abbrev cX9_write : ByteArray := prog_11_method_80_code
def yX9_write : MethodName := ⟨RX9, "write", "(II)I"⟩
abbrev cX9_tear : ByteArray := prog_11_method_81_code
def yX9_tear : MethodName := ⟨RX9, "tear", "()I"⟩
abbrev cX9_judge : ByteArray := prog_11_method_82_code
def yX9_judge : MethodName := ⟨RX9, "judge", "()I"⟩
abbrev cX9_seed : ByteArray := prog_11_method_83_code
def yX9_seed : MethodName := ⟨RX9, "seed", "(I)I"⟩
abbrev cX9_keep : ByteArray := prog_11_method_84_code
def yX9_keep : MethodName := ⟨RX9, "keep", "(I)I"⟩
abbrev cX9_goBack : ByteArray := prog_11_method_85_code
def yX9_goBack : MethodName := ⟨RX9, "goBack", "(I)I"⟩
def RJ6 : String := "java/lang/Integer"
def TJ6 : u_T := fun k => match k with
  | _ => ("", "", "", false)
def tyJ6 : Nat → FieldType := fun k => match k with
  | _ => .int
theorem nmJ6 : ∀ a, a < 0 → ∀ b, b < 0 → a ≠ b → (TJ6 a).2.1 ≠ (TJ6 b).2.1 := by decide +kernel
theorem tyJ6_ok : ∀ k, k < 0 → parseFieldDescriptor (TJ6 k).2.2.1 = some (tyJ6 k) := by decide +kernel
abbrev cJ6_bitCount_0f7a4 : ByteArray := prog_12_method_49_code
def yJ6_bitCount_0f7a4 : MethodName := ⟨RJ6, "bitCount", "(I)I"⟩
def RJ13 : String := "java/lang/Long"
def TJ13 : u_T := fun k => match k with
  | _ => ("", "", "", false)
def tyJ13 : Nat → FieldType := fun k => match k with
  | _ => .int
theorem nmJ13 : ∀ a, a < 0 → ∀ b, b < 0 → a ≠ b → (TJ13 a).2.1 ≠ (TJ13 b).2.1 := by decide +kernel
theorem tyJ13_ok : ∀ k, k < 0 → parseFieldDescriptor (TJ13 k).2.2.1 = some (tyJ13 k) := by decide +kernel
abbrev cJ13_bitCount_95d88 : ByteArray := prog_13_method_50_code
def yJ13_bitCount_95d88 : MethodName := ⟨RJ13, "bitCount", "(J)I"⟩
def RJ9 : String := "java/lang/Math"
def TJ9 : u_T := fun k => match k with
  | _ => ("", "", "", false)
def tyJ9 : Nat → FieldType := fun k => match k with
  | _ => .int
theorem nmJ9 : ∀ a, a < 0 → ∀ b, b < 0 → a ≠ b → (TJ9 a).2.1 ≠ (TJ9 b).2.1 := by decide +kernel
theorem tyJ9_ok : ∀ k, k < 0 → parseFieldDescriptor (TJ9 k).2.2.1 = some (tyJ9 k) := by decide +kernel
abbrev cJ9_abs_0f7a4 : ByteArray := prog_14_method_59_code
def yJ9_abs_0f7a4 : MethodName := ⟨RJ9, "abs", "(I)I"⟩
abbrev cJ9_max_7cf53 : ByteArray := prog_14_method_65_code
def yJ9_max_7cf53 : MethodName := ⟨RJ9, "max", "(II)I"⟩
abbrev cJ9_min_7cf53 : ByteArray := prog_14_method_69_code
def yJ9_min_7cf53 : MethodName := ⟨RJ9, "min", "(II)I"⟩
def RJ10 : String := "java/lang/System"
def TJ10 : u_T := fun k => match k with
  | _ => ("", "", "", false)
def tyJ10 : Nat → FieldType := fun k => match k with
  | _ => .int
theorem nmJ10 : ∀ a, a < 0 → ∀ b, b < 0 → a ≠ b → (TJ10 a).2.1 ≠ (TJ10 b).2.1 := by decide +kernel
theorem tyJ10_ok : ∀ k, k < 0 → parseFieldDescriptor (TJ10 k).2.2.1 = some (tyJ10 k) := by decide +kernel
def RJ7 : String := "java/util/Arrays"
def TJ7 : u_T := fun k => match k with
  | _ => ("", "", "", false)
def tyJ7 : Nat → FieldType := fun k => match k with
  | _ => .int
theorem nmJ7 : ∀ a, a < 0 → ∀ b, b < 0 → a ≠ b → (TJ7 a).2.1 ≠ (TJ7 b).2.1 := by decide +kernel
theorem tyJ7_ok : ∀ k, k < 0 → parseFieldDescriptor (TJ7 k).2.2.1 = some (tyJ7 k) := by decide +kernel
abbrev cJ7_fill_53178 : ByteArray := prog_16_method_103_code
def yJ7_fill_53178 : MethodName := ⟨RJ7, "fill", "([II)V"⟩
def RL : String := "SlipperDukeLaw"
abbrev cL_law : ByteArray := code
def yL_law : MethodName := ⟨RL, "law", "([I)Z"⟩
abbrev vwCl : List vw_C := [(RX0, TX0, 3), (RX1, TX1, 3), (RX2, TX2, 11), (RX3, TX3, 3), (RX4, TX4, 8), (RX5, TX5, 8), (RX6, TX6, 7), (RX7, TX7, 6), (RX8, TX8, 10), (RX9, TX9, 27)]
end
section
theorem dX0_init_0 : decode cX0_init 0 = .ok (.aload_n 0, 1) := by decide +kernel
theorem dX0_init_1 : decode cX0_init 1 = .ok (.invokespecial 3, 3) := by decide +kernel
theorem dX0_init_4 : decode cX0_init 4 = .ok (.aload_n 0, 1) := by decide +kernel
theorem dX0_init_5 : decode cX0_init 5 = .ok (.bipush 15, 2) := by decide +kernel
theorem dX0_init_7 : decode cX0_init 7 = .ok (.newarray .int, 2) := by decide +kernel
theorem dX0_init_9 : decode cX0_init 9 = .ok (.putfield 9, 3) := by decide +kernel
theorem dX0_init_12 : decode cX0_init 12 = .ok (.aload_n 0, 1) := by decide +kernel
theorem dX0_init_13 : decode cX0_init 13 = .ok (.bipush 15, 2) := by decide +kernel
theorem dX0_init_15 : decode cX0_init 15 = .ok (.newarray .int, 2) := by decide +kernel
theorem dX0_init_17 : decode cX0_init 17 = .ok (.putfield 15, 3) := by decide +kernel
theorem dX0_init_20 : decode cX0_init 20 = .ok (.return_, 1) := by decide +kernel
theorem dX0_add_0 : decode cX0_add 0 = .ok (.aload_n 0, 1) := by decide +kernel
theorem dX0_add_1 : decode cX0_add 1 = .ok (.getfield 18, 3) := by decide +kernel
theorem dX0_add_4 : decode cX0_add 4 = .ok (.bipush 15, 2) := by decide +kernel
theorem dX0_add_6 : decode cX0_add 6 = .ok (.if_icmp .ge 33, 3) := by decide +kernel
theorem dX0_add_9 : decode cX0_add 9 = .ok (.aload_n 0, 1) := by decide +kernel
theorem dX0_add_10 : decode cX0_add 10 = .ok (.getfield 9, 3) := by decide +kernel
theorem dX0_add_13 : decode cX0_add 13 = .ok (.aload_n 0, 1) := by decide +kernel
theorem dX0_add_14 : decode cX0_add 14 = .ok (.getfield 18, 3) := by decide +kernel
theorem dX0_add_17 : decode cX0_add 17 = .ok (.iload_n 1, 1) := by decide +kernel
theorem dX0_add_18 : decode cX0_add 18 = .ok (.iastore, 1) := by decide +kernel
theorem dX0_add_19 : decode cX0_add 19 = .ok (.aload_n 0, 1) := by decide +kernel
theorem dX0_add_20 : decode cX0_add 20 = .ok (.getfield 15, 3) := by decide +kernel
theorem dX0_add_23 : decode cX0_add 23 = .ok (.aload_n 0, 1) := by decide +kernel
theorem dX0_add_24 : decode cX0_add 24 = .ok (.getfield 18, 3) := by decide +kernel
theorem dX0_add_27 : decode cX0_add 27 = .ok (.iload_n 2, 1) := by decide +kernel
theorem dX0_add_28 : decode cX0_add 28 = .ok (.iastore, 1) := by decide +kernel
theorem dX0_add_29 : decode cX0_add 29 = .ok (.aload_n 0, 1) := by decide +kernel
theorem dX0_add_30 : decode cX0_add 30 = .ok (.dup, 1) := by decide +kernel
theorem dX0_add_31 : decode cX0_add 31 = .ok (.getfield 18, 3) := by decide +kernel
theorem dX0_add_34 : decode cX0_add 34 = .ok (.iconst 1, 1) := by decide +kernel
theorem dX0_add_35 : decode cX0_add 35 = .ok (.iadd, 1) := by decide +kernel
theorem dX0_add_36 : decode cX0_add 36 = .ok (.putfield 18, 3) := by decide +kernel
theorem dX0_add_39 : decode cX0_add 39 = .ok (.return_, 1) := by decide +kernel
theorem dX0_firstWrong_0 : decode cX0_firstWrong 0 = .ok (.iconst 0, 1) := by decide +kernel
theorem dX0_firstWrong_1 : decode cX0_firstWrong 1 = .ok (.istore_n 2, 1) := by decide +kernel
theorem dX0_firstWrong_2 : decode cX0_firstWrong 2 = .ok (.iload_n 2, 1) := by decide +kernel
theorem dX0_firstWrong_3 : decode cX0_firstWrong 3 = .ok (.aload_n 0, 1) := by decide +kernel
theorem dX0_firstWrong_4 : decode cX0_firstWrong 4 = .ok (.getfield 18, 3) := by decide +kernel
theorem dX0_firstWrong_7 : decode cX0_firstWrong 7 = .ok (.if_icmp .ge 28, 3) := by decide +kernel
theorem dX0_firstWrong_10 : decode cX0_firstWrong 10 = .ok (.aload_n 1, 1) := by decide +kernel
theorem dX0_firstWrong_11 : decode cX0_firstWrong 11 = .ok (.aload_n 0, 1) := by decide +kernel
theorem dX0_firstWrong_12 : decode cX0_firstWrong 12 = .ok (.getfield 9, 3) := by decide +kernel
theorem dX0_firstWrong_15 : decode cX0_firstWrong 15 = .ok (.iload_n 2, 1) := by decide +kernel
theorem dX0_firstWrong_16 : decode cX0_firstWrong 16 = .ok (.iaload, 1) := by decide +kernel
theorem dX0_firstWrong_17 : decode cX0_firstWrong 17 = .ok (.iaload, 1) := by decide +kernel
theorem dX0_firstWrong_18 : decode cX0_firstWrong 18 = .ok (.aload_n 0, 1) := by decide +kernel
theorem dX0_firstWrong_19 : decode cX0_firstWrong 19 = .ok (.getfield 15, 3) := by decide +kernel
theorem dX0_firstWrong_22 : decode cX0_firstWrong 22 = .ok (.iload_n 2, 1) := by decide +kernel
theorem dX0_firstWrong_23 : decode cX0_firstWrong 23 = .ok (.iaload, 1) := by decide +kernel
theorem dX0_firstWrong_24 : decode cX0_firstWrong 24 = .ok (.if_icmp .eq 5, 3) := by decide +kernel
theorem dX0_firstWrong_27 : decode cX0_firstWrong 27 = .ok (.iload_n 2, 1) := by decide +kernel
theorem dX0_firstWrong_28 : decode cX0_firstWrong 28 = .ok (.ireturn, 1) := by decide +kernel
theorem dX0_firstWrong_29 : decode cX0_firstWrong 29 = .ok (.iinc 2 1, 3) := by decide +kernel
theorem dX0_firstWrong_32 : decode cX0_firstWrong 32 = .ok (.goto (-30), 3) := by decide +kernel
theorem dX0_firstWrong_35 : decode cX0_firstWrong 35 = .ok (.iconst (-1), 1) := by decide +kernel
theorem dX0_firstWrong_36 : decode cX0_firstWrong 36 = .ok (.ireturn, 1) := by decide +kernel
theorem dX1_init_0 : decode cX1_init 0 = .ok (.aload_n 0, 1) := by decide +kernel
theorem dX1_init_1 : decode cX1_init 1 = .ok (.invokespecial 1, 3) := by decide +kernel
theorem dX1_init_4 : decode cX1_init 4 = .ok (.aload_n 0, 1) := by decide +kernel
theorem dX1_init_5 : decode cX1_init 5 = .ok (.new 7, 3) := by decide +kernel
theorem dX1_init_8 : decode cX1_init 8 = .ok (.dup, 1) := by decide +kernel
theorem dX1_init_9 : decode cX1_init 9 = .ok (.invokespecial 9, 3) := by decide +kernel
theorem dX1_init_12 : decode cX1_init 12 = .ok (.putfield 10, 3) := by decide +kernel
theorem dX1_init_15 : decode cX1_init 15 = .ok (.return_, 1) := by decide +kernel
theorem dX2_init_0 : decode cX2_init 0 = .ok (.aload_n 0, 1) := by decide +kernel
theorem dX2_init_1 : decode cX2_init 1 = .ok (.invokespecial 3, 3) := by decide +kernel
theorem dX2_init_4 : decode cX2_init 4 = .ok (.aload_n 0, 1) := by decide +kernel
theorem dX2_init_5 : decode cX2_init 5 = .ok (.bipush 12, 2) := by decide +kernel
theorem dX2_init_7 : decode cX2_init 7 = .ok (.newarray .int, 2) := by decide +kernel
theorem dX2_init_9 : decode cX2_init 9 = .ok (.putfield 9, 3) := by decide +kernel
theorem dX2_init_12 : decode cX2_init 12 = .ok (.aload_n 0, 1) := by decide +kernel
theorem dX2_init_13 : decode cX2_init 13 = .ok (.bipush 12, 2) := by decide +kernel
theorem dX2_init_15 : decode cX2_init 15 = .ok (.newarray .int, 2) := by decide +kernel
theorem dX2_init_17 : decode cX2_init 17 = .ok (.putfield 15, 3) := by decide +kernel
theorem dX2_init_20 : decode cX2_init 20 = .ok (.aload_n 0, 1) := by decide +kernel
theorem dX2_init_21 : decode cX2_init 21 = .ok (.bipush 6, 2) := by decide +kernel
theorem dX2_init_23 : decode cX2_init 23 = .ok (.newarray .int, 2) := by decide +kernel
theorem dX2_init_25 : decode cX2_init 25 = .ok (.putfield 18, 3) := by decide +kernel
theorem dX2_init_28 : decode cX2_init 28 = .ok (.aload_n 0, 1) := by decide +kernel
theorem dX2_init_29 : decode cX2_init 29 = .ok (.bipush 6, 2) := by decide +kernel
theorem dX2_init_31 : decode cX2_init 31 = .ok (.newarray .int, 2) := by decide +kernel
theorem dX2_init_33 : decode cX2_init 33 = .ok (.putfield 21, 3) := by decide +kernel
theorem dX2_init_36 : decode cX2_init 36 = .ok (.return_, 1) := by decide +kernel
theorem dX2_clear_0 : decode cX2_clear 0 = .ok (.aload_n 0, 1) := by decide +kernel
theorem dX2_clear_1 : decode cX2_clear 1 = .ok (.iconst 0, 1) := by decide +kernel
theorem dX2_clear_2 : decode cX2_clear 2 = .ok (.putfield 24, 3) := by decide +kernel
theorem dX2_clear_5 : decode cX2_clear 5 = .ok (.aload_n 0, 1) := by decide +kernel
theorem dX2_clear_6 : decode cX2_clear 6 = .ok (.iconst 0, 1) := by decide +kernel
theorem dX2_clear_7 : decode cX2_clear 7 = .ok (.putfield 28, 3) := by decide +kernel
theorem dX2_clear_10 : decode cX2_clear 10 = .ok (.aload_n 0, 1) := by decide +kernel
theorem dX2_clear_11 : decode cX2_clear 11 = .ok (.iconst 0, 1) := by decide +kernel
theorem dX2_clear_12 : decode cX2_clear 12 = .ok (.putfield 32, 3) := by decide +kernel
theorem dX2_clear_15 : decode cX2_clear 15 = .ok (.aload_n 0, 1) := by decide +kernel
theorem dX2_clear_16 : decode cX2_clear 16 = .ok (.iconst 0, 1) := by decide +kernel
theorem dX2_clear_17 : decode cX2_clear 17 = .ok (.putfield 35, 3) := by decide +kernel
theorem dX2_clear_20 : decode cX2_clear 20 = .ok (.aload_n 0, 1) := by decide +kernel
theorem dX2_clear_21 : decode cX2_clear 21 = .ok (.iconst 0, 1) := by decide +kernel
theorem dX2_clear_22 : decode cX2_clear 22 = .ok (.putfield 38, 3) := by decide +kernel
theorem dX2_clear_25 : decode cX2_clear 25 = .ok (.aload_n 0, 1) := by decide +kernel
theorem dX2_clear_26 : decode cX2_clear 26 = .ok (.iconst 0, 1) := by decide +kernel
theorem dX2_clear_27 : decode cX2_clear 27 = .ok (.putfield 41, 3) := by decide +kernel
theorem dX2_clear_30 : decode cX2_clear 30 = .ok (.aload_n 0, 1) := by decide +kernel
theorem dX2_clear_31 : decode cX2_clear 31 = .ok (.iconst 0, 1) := by decide +kernel
theorem dX2_clear_32 : decode cX2_clear 32 = .ok (.putfield 44, 3) := by decide +kernel
theorem dX2_clear_35 : decode cX2_clear 35 = .ok (.return_, 1) := by decide +kernel
theorem dX2_addRoom_0 : decode cX2_addRoom 0 = .ok (.aload_n 0, 1) := by decide +kernel
theorem dX2_addRoom_1 : decode cX2_addRoom 1 = .ok (.aload_n 0, 1) := by decide +kernel
theorem dX2_addRoom_2 : decode cX2_addRoom 2 = .ok (.getfield 41, 3) := by decide +kernel
theorem dX2_addRoom_5 : decode cX2_addRoom 5 = .ok (.aload_n 0, 1) := by decide +kernel
theorem dX2_addRoom_6 : decode cX2_addRoom 6 = .ok (.getfield 32, 3) := by decide +kernel
theorem dX2_addRoom_9 : decode cX2_addRoom 9 = .ok (.iload_n 1, 1) := by decide +kernel
theorem dX2_addRoom_10 : decode cX2_addRoom 10 = .ok (.invokestatic 47, 3) := by decide +kernel
theorem dX2_addRoom_13 : decode cX2_addRoom 13 = .ok (.putfield 41, 3) := by decide +kernel
theorem dX2_addRoom_16 : decode cX2_addRoom 16 = .ok (.aload_n 0, 1) := by decide +kernel
theorem dX2_addRoom_17 : decode cX2_addRoom 17 = .ok (.aload_n 0, 1) := by decide +kernel
theorem dX2_addRoom_18 : decode cX2_addRoom 18 = .ok (.getfield 44, 3) := by decide +kernel
theorem dX2_addRoom_21 : decode cX2_addRoom 21 = .ok (.aload_n 0, 1) := by decide +kernel
theorem dX2_addRoom_22 : decode cX2_addRoom 22 = .ok (.getfield 32, 3) := by decide +kernel
theorem dX2_addRoom_25 : decode cX2_addRoom 25 = .ok (.iload_n 2, 1) := by decide +kernel
theorem dX2_addRoom_26 : decode cX2_addRoom 26 = .ok (.iconst 1, 1) := by decide +kernel
theorem dX2_addRoom_27 : decode cX2_addRoom 27 = .ok (.if_icmp .ne 7, 3) := by decide +kernel
theorem dX2_addRoom_30 : decode cX2_addRoom 30 = .ok (.iconst 1, 1) := by decide +kernel
theorem dX2_addRoom_31 : decode cX2_addRoom 31 = .ok (.goto 4, 3) := by decide +kernel
theorem dX2_addRoom_34 : decode cX2_addRoom 34 = .ok (.iconst 0, 1) := by decide +kernel
theorem dX2_addRoom_35 : decode cX2_addRoom 35 = .ok (.invokestatic 51, 3) := by decide +kernel
theorem dX2_addRoom_38 : decode cX2_addRoom 38 = .ok (.putfield 44, 3) := by decide +kernel
theorem dX2_addRoom_41 : decode cX2_addRoom 41 = .ok (.aload_n 0, 1) := by decide +kernel
theorem dX2_addRoom_42 : decode cX2_addRoom 42 = .ok (.dup, 1) := by decide +kernel
theorem dX2_addRoom_43 : decode cX2_addRoom 43 = .ok (.getfield 32, 3) := by decide +kernel
theorem dX2_addRoom_46 : decode cX2_addRoom 46 = .ok (.iconst 1, 1) := by decide +kernel
theorem dX2_addRoom_47 : decode cX2_addRoom 47 = .ok (.iadd, 1) := by decide +kernel
theorem dX2_addRoom_48 : decode cX2_addRoom 48 = .ok (.putfield 32, 3) := by decide +kernel
theorem dX2_addRoom_51 : decode cX2_addRoom 51 = .ok (.return_, 1) := by decide +kernel
theorem dX2_addDoor_0 : decode cX2_addDoor 0 = .ok (.aload_n 0, 1) := by decide +kernel
theorem dX2_addDoor_1 : decode cX2_addDoor 1 = .ok (.getfield 9, 3) := by decide +kernel
theorem dX2_addDoor_4 : decode cX2_addDoor 4 = .ok (.aload_n 0, 1) := by decide +kernel
theorem dX2_addDoor_5 : decode cX2_addDoor 5 = .ok (.getfield 35, 3) := by decide +kernel
theorem dX2_addDoor_8 : decode cX2_addDoor 8 = .ok (.iload_n 1, 1) := by decide +kernel
theorem dX2_addDoor_9 : decode cX2_addDoor 9 = .ok (.iastore, 1) := by decide +kernel
theorem dX2_addDoor_10 : decode cX2_addDoor 10 = .ok (.aload_n 0, 1) := by decide +kernel
theorem dX2_addDoor_11 : decode cX2_addDoor 11 = .ok (.getfield 15, 3) := by decide +kernel
theorem dX2_addDoor_14 : decode cX2_addDoor 14 = .ok (.aload_n 0, 1) := by decide +kernel
theorem dX2_addDoor_15 : decode cX2_addDoor 15 = .ok (.getfield 35, 3) := by decide +kernel
theorem dX2_addDoor_18 : decode cX2_addDoor 18 = .ok (.iload_n 2, 1) := by decide +kernel
theorem dX2_addDoor_19 : decode cX2_addDoor 19 = .ok (.iastore, 1) := by decide +kernel
theorem dX2_addDoor_20 : decode cX2_addDoor 20 = .ok (.aload_n 0, 1) := by decide +kernel
theorem dX2_addDoor_21 : decode cX2_addDoor 21 = .ok (.dup, 1) := by decide +kernel
theorem dX2_addDoor_22 : decode cX2_addDoor 22 = .ok (.getfield 35, 3) := by decide +kernel
theorem dX2_addDoor_25 : decode cX2_addDoor 25 = .ok (.iconst 1, 1) := by decide +kernel
theorem dX2_addDoor_26 : decode cX2_addDoor 26 = .ok (.iadd, 1) := by decide +kernel
theorem dX2_addDoor_27 : decode cX2_addDoor 27 = .ok (.putfield 35, 3) := by decide +kernel
theorem dX2_addDoor_30 : decode cX2_addDoor 30 = .ok (.return_, 1) := by decide +kernel
theorem dX2_addPetition_0 : decode cX2_addPetition 0 = .ok (.aload_n 0, 1) := by decide +kernel
theorem dX2_addPetition_1 : decode cX2_addPetition 1 = .ok (.getfield 18, 3) := by decide +kernel
theorem dX2_addPetition_4 : decode cX2_addPetition 4 = .ok (.aload_n 0, 1) := by decide +kernel
theorem dX2_addPetition_5 : decode cX2_addPetition 5 = .ok (.getfield 38, 3) := by decide +kernel
theorem dX2_addPetition_8 : decode cX2_addPetition 8 = .ok (.iload_n 1, 1) := by decide +kernel
theorem dX2_addPetition_9 : decode cX2_addPetition 9 = .ok (.iastore, 1) := by decide +kernel
theorem dX2_addPetition_10 : decode cX2_addPetition 10 = .ok (.aload_n 0, 1) := by decide +kernel
theorem dX2_addPetition_11 : decode cX2_addPetition 11 = .ok (.getfield 21, 3) := by decide +kernel
theorem dX2_addPetition_14 : decode cX2_addPetition 14 = .ok (.aload_n 0, 1) := by decide +kernel
theorem dX2_addPetition_15 : decode cX2_addPetition 15 = .ok (.getfield 38, 3) := by decide +kernel
theorem dX2_addPetition_18 : decode cX2_addPetition 18 = .ok (.iload_n 2, 1) := by decide +kernel
theorem dX2_addPetition_19 : decode cX2_addPetition 19 = .ok (.iastore, 1) := by decide +kernel
theorem dX2_addPetition_20 : decode cX2_addPetition 20 = .ok (.aload_n 0, 1) := by decide +kernel
theorem dX2_addPetition_21 : decode cX2_addPetition 21 = .ok (.dup, 1) := by decide +kernel
theorem dX2_addPetition_22 : decode cX2_addPetition 22 = .ok (.getfield 38, 3) := by decide +kernel
theorem dX2_addPetition_25 : decode cX2_addPetition 25 = .ok (.iconst 1, 1) := by decide +kernel
theorem dX2_addPetition_26 : decode cX2_addPetition 26 = .ok (.iadd, 1) := by decide +kernel
theorem dX2_addPetition_27 : decode cX2_addPetition 27 = .ok (.putfield 38, 3) := by decide +kernel
theorem dX2_addPetition_30 : decode cX2_addPetition 30 = .ok (.return_, 1) := by decide +kernel
theorem dX2_hasDoor_0 : decode cX2_hasDoor 0 = .ok (.iconst 0, 1) := by decide +kernel
theorem dX2_hasDoor_1 : decode cX2_hasDoor 1 = .ok (.istore_n 3, 1) := by decide +kernel
theorem dX2_hasDoor_2 : decode cX2_hasDoor 2 = .ok (.iload_n 3, 1) := by decide +kernel
theorem dX2_hasDoor_3 : decode cX2_hasDoor 3 = .ok (.aload_n 0, 1) := by decide +kernel
theorem dX2_hasDoor_4 : decode cX2_hasDoor 4 = .ok (.getfield 35, 3) := by decide +kernel
theorem dX2_hasDoor_7 : decode cX2_hasDoor 7 = .ok (.if_icmp .ge 51, 3) := by decide +kernel
theorem dX2_hasDoor_10 : decode cX2_hasDoor 10 = .ok (.aload_n 0, 1) := by decide +kernel
theorem dX2_hasDoor_11 : decode cX2_hasDoor 11 = .ok (.getfield 9, 3) := by decide +kernel
theorem dX2_hasDoor_14 : decode cX2_hasDoor 14 = .ok (.iload_n 3, 1) := by decide +kernel
theorem dX2_hasDoor_15 : decode cX2_hasDoor 15 = .ok (.iaload, 1) := by decide +kernel
theorem dX2_hasDoor_16 : decode cX2_hasDoor 16 = .ok (.iload_n 1, 1) := by decide +kernel
theorem dX2_hasDoor_17 : decode cX2_hasDoor 17 = .ok (.if_icmp .ne 13, 3) := by decide +kernel
theorem dX2_hasDoor_20 : decode cX2_hasDoor 20 = .ok (.aload_n 0, 1) := by decide +kernel
theorem dX2_hasDoor_21 : decode cX2_hasDoor 21 = .ok (.getfield 15, 3) := by decide +kernel
theorem dX2_hasDoor_24 : decode cX2_hasDoor 24 = .ok (.iload_n 3, 1) := by decide +kernel
theorem dX2_hasDoor_25 : decode cX2_hasDoor 25 = .ok (.iaload, 1) := by decide +kernel
theorem dX2_hasDoor_26 : decode cX2_hasDoor 26 = .ok (.iload_n 2, 1) := by decide +kernel
theorem dX2_hasDoor_27 : decode cX2_hasDoor 27 = .ok (.if_icmp .eq 23, 3) := by decide +kernel
theorem dX2_hasDoor_30 : decode cX2_hasDoor 30 = .ok (.aload_n 0, 1) := by decide +kernel
theorem dX2_hasDoor_31 : decode cX2_hasDoor 31 = .ok (.getfield 9, 3) := by decide +kernel
theorem dX2_hasDoor_34 : decode cX2_hasDoor 34 = .ok (.iload_n 3, 1) := by decide +kernel
theorem dX2_hasDoor_35 : decode cX2_hasDoor 35 = .ok (.iaload, 1) := by decide +kernel
theorem dX2_hasDoor_36 : decode cX2_hasDoor 36 = .ok (.iload_n 2, 1) := by decide +kernel
theorem dX2_hasDoor_37 : decode cX2_hasDoor 37 = .ok (.if_icmp .ne 15, 3) := by decide +kernel
theorem dX2_hasDoor_40 : decode cX2_hasDoor 40 = .ok (.aload_n 0, 1) := by decide +kernel
theorem dX2_hasDoor_41 : decode cX2_hasDoor 41 = .ok (.getfield 15, 3) := by decide +kernel
theorem dX2_hasDoor_44 : decode cX2_hasDoor 44 = .ok (.iload_n 3, 1) := by decide +kernel
theorem dX2_hasDoor_45 : decode cX2_hasDoor 45 = .ok (.iaload, 1) := by decide +kernel
theorem dX2_hasDoor_46 : decode cX2_hasDoor 46 = .ok (.iload_n 1, 1) := by decide +kernel
theorem dX2_hasDoor_47 : decode cX2_hasDoor 47 = .ok (.if_icmp .ne 5, 3) := by decide +kernel
theorem dX2_hasDoor_50 : decode cX2_hasDoor 50 = .ok (.iconst 1, 1) := by decide +kernel
theorem dX2_hasDoor_51 : decode cX2_hasDoor 51 = .ok (.ireturn, 1) := by decide +kernel
theorem dX2_hasDoor_52 : decode cX2_hasDoor 52 = .ok (.iinc 3 1, 3) := by decide +kernel
theorem dX2_hasDoor_55 : decode cX2_hasDoor 55 = .ok (.goto (-53), 3) := by decide +kernel
theorem dX2_hasDoor_58 : decode cX2_hasDoor 58 = .ok (.iconst 0, 1) := by decide +kernel
theorem dX2_hasDoor_59 : decode cX2_hasDoor 59 = .ok (.ireturn, 1) := by decide +kernel
theorem dX2_doorsBetween_0 : decode cX2_doorsBetween 0 = .ok (.iconst 0, 1) := by decide +kernel
theorem dX2_doorsBetween_1 : decode cX2_doorsBetween 1 = .ok (.istore_n 2, 1) := by decide +kernel
theorem dX2_doorsBetween_2 : decode cX2_doorsBetween 2 = .ok (.iconst 0, 1) := by decide +kernel
theorem dX2_doorsBetween_3 : decode cX2_doorsBetween 3 = .ok (.istore_n 3, 1) := by decide +kernel
theorem dX2_doorsBetween_4 : decode cX2_doorsBetween 4 = .ok (.iload_n 3, 1) := by decide +kernel
theorem dX2_doorsBetween_5 : decode cX2_doorsBetween 5 = .ok (.aload_n 0, 1) := by decide +kernel
theorem dX2_doorsBetween_6 : decode cX2_doorsBetween 6 = .ok (.getfield 35, 3) := by decide +kernel
theorem dX2_doorsBetween_9 : decode cX2_doorsBetween 9 = .ok (.if_icmp .ge 38, 3) := by decide +kernel
theorem dX2_doorsBetween_12 : decode cX2_doorsBetween 12 = .ok (.iload_n 1, 1) := by decide +kernel
theorem dX2_doorsBetween_13 : decode cX2_doorsBetween 13 = .ok (.aload_n 0, 1) := by decide +kernel
theorem dX2_doorsBetween_14 : decode cX2_doorsBetween 14 = .ok (.getfield 9, 3) := by decide +kernel
theorem dX2_doorsBetween_17 : decode cX2_doorsBetween 17 = .ok (.iload_n 3, 1) := by decide +kernel
theorem dX2_doorsBetween_18 : decode cX2_doorsBetween 18 = .ok (.iaload, 1) := by decide +kernel
theorem dX2_doorsBetween_19 : decode cX2_doorsBetween 19 = .ok (.invokestatic 55, 3) := by decide +kernel
theorem dX2_doorsBetween_22 : decode cX2_doorsBetween 22 = .ok (.iload_n 1, 1) := by decide +kernel
theorem dX2_doorsBetween_23 : decode cX2_doorsBetween 23 = .ok (.aload_n 0, 1) := by decide +kernel
theorem dX2_doorsBetween_24 : decode cX2_doorsBetween 24 = .ok (.getfield 15, 3) := by decide +kernel
theorem dX2_doorsBetween_27 : decode cX2_doorsBetween 27 = .ok (.iload_n 3, 1) := by decide +kernel
theorem dX2_doorsBetween_28 : decode cX2_doorsBetween 28 = .ok (.iaload, 1) := by decide +kernel
theorem dX2_doorsBetween_29 : decode cX2_doorsBetween 29 = .ok (.invokestatic 55, 3) := by decide +kernel
theorem dX2_doorsBetween_32 : decode cX2_doorsBetween 32 = .ok (.if_icmp .eq 9, 3) := by decide +kernel
theorem dX2_doorsBetween_35 : decode cX2_doorsBetween 35 = .ok (.iload_n 2, 1) := by decide +kernel
theorem dX2_doorsBetween_36 : decode cX2_doorsBetween 36 = .ok (.iconst 1, 1) := by decide +kernel
theorem dX2_doorsBetween_37 : decode cX2_doorsBetween 37 = .ok (.iload_n 3, 1) := by decide +kernel
theorem dX2_doorsBetween_38 : decode cX2_doorsBetween 38 = .ok (.ishl, 1) := by decide +kernel
theorem dX2_doorsBetween_39 : decode cX2_doorsBetween 39 = .ok (.ior, 1) := by decide +kernel
theorem dX2_doorsBetween_40 : decode cX2_doorsBetween 40 = .ok (.istore_n 2, 1) := by decide +kernel
theorem dX2_doorsBetween_41 : decode cX2_doorsBetween 41 = .ok (.iinc 3 1, 3) := by decide +kernel
theorem dX2_doorsBetween_44 : decode cX2_doorsBetween 44 = .ok (.goto (-40), 3) := by decide +kernel
theorem dX2_doorsBetween_47 : decode cX2_doorsBetween 47 = .ok (.iload_n 2, 1) := by decide +kernel
theorem dX2_doorsBetween_48 : decode cX2_doorsBetween 48 = .ok (.ireturn, 1) := by decide +kernel
theorem dX3_init_0 : decode cX3_init 0 = .ok (.aload_n 0, 1) := by decide +kernel
theorem dX3_init_1 : decode cX3_init 1 = .ok (.invokespecial 3, 3) := by decide +kernel
theorem dX3_init_4 : decode cX3_init 4 = .ok (.aload_n 0, 1) := by decide +kernel
theorem dX3_init_5 : decode cX3_init 5 = .ok (.bipush 16, 2) := by decide +kernel
theorem dX3_init_7 : decode cX3_init 7 = .ok (.anewarray 9, 3) := by decide +kernel
theorem dX3_init_10 : decode cX3_init 10 = .ok (.putfield 11, 3) := by decide +kernel
theorem dX3_init_13 : decode cX3_init 13 = .ok (.iconst 0, 1) := by decide +kernel
theorem dX3_init_14 : decode cX3_init 14 = .ok (.istore_n 1, 1) := by decide +kernel
theorem dX3_init_15 : decode cX3_init 15 = .ok (.iload_n 1, 1) := by decide +kernel
theorem dX3_init_16 : decode cX3_init 16 = .ok (.bipush 16, 2) := by decide +kernel
theorem dX3_init_18 : decode cX3_init 18 = .ok (.if_icmp .ge 22, 3) := by decide +kernel
theorem dX3_init_21 : decode cX3_init 21 = .ok (.aload_n 0, 1) := by decide +kernel
theorem dX3_init_22 : decode cX3_init 22 = .ok (.getfield 11, 3) := by decide +kernel
theorem dX3_init_25 : decode cX3_init 25 = .ok (.iload_n 1, 1) := by decide +kernel
theorem dX3_init_26 : decode cX3_init 26 = .ok (.new 9, 3) := by decide +kernel
theorem dX3_init_29 : decode cX3_init 29 = .ok (.dup, 1) := by decide +kernel
theorem dX3_init_30 : decode cX3_init 30 = .ok (.invokespecial 17, 3) := by decide +kernel
theorem dX3_init_33 : decode cX3_init 33 = .ok (.aastore, 1) := by decide +kernel
theorem dX3_init_34 : decode cX3_init 34 = .ok (.iinc 1 1, 3) := by decide +kernel
theorem dX3_init_37 : decode cX3_init 37 = .ok (.goto (-22), 3) := by decide +kernel
theorem dX3_init_40 : decode cX3_init 40 = .ok (.return_, 1) := by decide +kernel
theorem dX3_forget_0 : decode cX3_forget 0 = .ok (.aload_n 0, 1) := by decide +kernel
theorem dX3_forget_1 : decode cX3_forget 1 = .ok (.iconst 0, 1) := by decide +kernel
theorem dX3_forget_2 : decode cX3_forget 2 = .ok (.putfield 18, 3) := by decide +kernel
theorem dX3_forget_5 : decode cX3_forget 5 = .ok (.return_, 1) := by decide +kernel
theorem dX3_remember_0 : decode cX3_remember 0 = .ok (.aload_n 0, 1) := by decide +kernel
theorem dX3_remember_1 : decode cX3_remember 1 = .ok (.getfield 11, 3) := by decide +kernel
theorem dX3_remember_4 : decode cX3_remember 4 = .ok (.aload_n 0, 1) := by decide +kernel
theorem dX3_remember_5 : decode cX3_remember 5 = .ok (.getfield 22, 3) := by decide +kernel
theorem dX3_remember_8 : decode cX3_remember 8 = .ok (.aaload, 1) := by decide +kernel
theorem dX3_remember_9 : decode cX3_remember 9 = .ok (.aload_n 1, 1) := by decide +kernel
theorem dX3_remember_10 : decode cX3_remember 10 = .ok (.invokevirtual 25, 3) := by decide +kernel
theorem dX3_remember_13 : decode cX3_remember 13 = .ok (.aload_n 0, 1) := by decide +kernel
theorem dX3_remember_14 : decode cX3_remember 14 = .ok (.aload_n 0, 1) := by decide +kernel
theorem dX3_remember_15 : decode cX3_remember 15 = .ok (.getfield 22, 3) := by decide +kernel
theorem dX3_remember_18 : decode cX3_remember 18 = .ok (.iconst 1, 1) := by decide +kernel
theorem dX3_remember_19 : decode cX3_remember 19 = .ok (.iadd, 1) := by decide +kernel
theorem dX3_remember_20 : decode cX3_remember 20 = .ok (.bipush 16, 2) := by decide +kernel
theorem dX3_remember_22 : decode cX3_remember 22 = .ok (.irem, 1) := by decide +kernel
theorem dX3_remember_23 : decode cX3_remember 23 = .ok (.putfield 22, 3) := by decide +kernel
theorem dX3_remember_26 : decode cX3_remember 26 = .ok (.aload_n 0, 1) := by decide +kernel
theorem dX3_remember_27 : decode cX3_remember 27 = .ok (.bipush 16, 2) := by decide +kernel
theorem dX3_remember_29 : decode cX3_remember 29 = .ok (.aload_n 0, 1) := by decide +kernel
theorem dX3_remember_30 : decode cX3_remember 30 = .ok (.getfield 18, 3) := by decide +kernel
theorem dX3_remember_33 : decode cX3_remember 33 = .ok (.iconst 1, 1) := by decide +kernel
theorem dX3_remember_34 : decode cX3_remember 34 = .ok (.iadd, 1) := by decide +kernel
theorem dX3_remember_35 : decode cX3_remember 35 = .ok (.invokestatic 29, 3) := by decide +kernel
theorem dX3_remember_38 : decode cX3_remember 38 = .ok (.putfield 18, 3) := by decide +kernel
theorem dX3_remember_41 : decode cX3_remember 41 = .ok (.return_, 1) := by decide +kernel
theorem dX3_giveBack_0 : decode cX3_giveBack 0 = .ok (.aload_n 0, 1) := by decide +kernel
theorem dX3_giveBack_1 : decode cX3_giveBack 1 = .ok (.getfield 18, 3) := by decide +kernel
theorem dX3_giveBack_4 : decode cX3_giveBack 4 = .ok (.ifCond .le 42, 3) := by decide +kernel
theorem dX3_giveBack_7 : decode cX3_giveBack 7 = .ok (.aload_n 0, 1) := by decide +kernel
theorem dX3_giveBack_8 : decode cX3_giveBack 8 = .ok (.aload_n 0, 1) := by decide +kernel
theorem dX3_giveBack_9 : decode cX3_giveBack 9 = .ok (.getfield 22, 3) := by decide +kernel
theorem dX3_giveBack_12 : decode cX3_giveBack 12 = .ok (.bipush 16, 2) := by decide +kernel
theorem dX3_giveBack_14 : decode cX3_giveBack 14 = .ok (.iadd, 1) := by decide +kernel
theorem dX3_giveBack_15 : decode cX3_giveBack 15 = .ok (.iconst 1, 1) := by decide +kernel
theorem dX3_giveBack_16 : decode cX3_giveBack 16 = .ok (.isub, 1) := by decide +kernel
theorem dX3_giveBack_17 : decode cX3_giveBack 17 = .ok (.bipush 16, 2) := by decide +kernel
theorem dX3_giveBack_19 : decode cX3_giveBack 19 = .ok (.irem, 1) := by decide +kernel
theorem dX3_giveBack_20 : decode cX3_giveBack 20 = .ok (.putfield 22, 3) := by decide +kernel
theorem dX3_giveBack_23 : decode cX3_giveBack 23 = .ok (.aload_n 0, 1) := by decide +kernel
theorem dX3_giveBack_24 : decode cX3_giveBack 24 = .ok (.dup, 1) := by decide +kernel
theorem dX3_giveBack_25 : decode cX3_giveBack 25 = .ok (.getfield 18, 3) := by decide +kernel
theorem dX3_giveBack_28 : decode cX3_giveBack 28 = .ok (.iconst 1, 1) := by decide +kernel
theorem dX3_giveBack_29 : decode cX3_giveBack 29 = .ok (.isub, 1) := by decide +kernel
theorem dX3_giveBack_30 : decode cX3_giveBack 30 = .ok (.putfield 18, 3) := by decide +kernel
theorem dX3_giveBack_33 : decode cX3_giveBack 33 = .ok (.aload_n 1, 1) := by decide +kernel
theorem dX3_giveBack_34 : decode cX3_giveBack 34 = .ok (.aload_n 0, 1) := by decide +kernel
theorem dX3_giveBack_35 : decode cX3_giveBack 35 = .ok (.getfield 11, 3) := by decide +kernel
theorem dX3_giveBack_38 : decode cX3_giveBack 38 = .ok (.aload_n 0, 1) := by decide +kernel
theorem dX3_giveBack_39 : decode cX3_giveBack 39 = .ok (.getfield 22, 3) := by decide +kernel
theorem dX3_giveBack_42 : decode cX3_giveBack 42 = .ok (.aaload, 1) := by decide +kernel
theorem dX3_giveBack_43 : decode cX3_giveBack 43 = .ok (.invokevirtual 25, 3) := by decide +kernel
theorem dX3_giveBack_46 : decode cX3_giveBack 46 = .ok (.return_, 1) := by decide +kernel
theorem dX4_init_0 : decode cX4_init 0 = .ok (.aload_n 0, 1) := by decide +kernel
theorem dX4_init_1 : decode cX4_init 1 = .ok (.invokespecial 3, 3) := by decide +kernel
theorem dX4_init_4 : decode cX4_init 4 = .ok (.aload_n 0, 1) := by decide +kernel
theorem dX4_init_5 : decode cX4_init 5 = .ok (.bipush 8, 2) := by decide +kernel
theorem dX4_init_7 : decode cX4_init 7 = .ok (.newarray .int, 2) := by decide +kernel
theorem dX4_init_9 : decode cX4_init 9 = .ok (.putfield 9, 3) := by decide +kernel
theorem dX4_init_12 : decode cX4_init 12 = .ok (.return_, 1) := by decide +kernel
theorem dX4_begin_0 : decode cX4_begin 0 = .ok (.aload_n 0, 1) := by decide +kernel
theorem dX4_begin_1 : decode cX4_begin 1 = .ok (.aload_n 1, 1) := by decide +kernel
theorem dX4_begin_2 : decode cX4_begin 2 = .ok (.getfield 15, 3) := by decide +kernel
theorem dX4_begin_5 : decode cX4_begin 5 = .ok (.putfield 21, 3) := by decide +kernel
theorem dX4_begin_8 : decode cX4_begin 8 = .ok (.aload_n 0, 1) := by decide +kernel
theorem dX4_begin_9 : decode cX4_begin 9 = .ok (.iconst 0, 1) := by decide +kernel
theorem dX4_begin_10 : decode cX4_begin 10 = .ok (.putfield 22, 3) := by decide +kernel
theorem dX4_begin_13 : decode cX4_begin 13 = .ok (.aload_n 0, 1) := by decide +kernel
theorem dX4_begin_14 : decode cX4_begin 14 = .ok (.iconst 0, 1) := by decide +kernel
theorem dX4_begin_15 : decode cX4_begin 15 = .ok (.putfield 25, 3) := by decide +kernel
theorem dX4_begin_18 : decode cX4_begin 18 = .ok (.aload_n 0, 1) := by decide +kernel
theorem dX4_begin_19 : decode cX4_begin 19 = .ok (.aload_n 1, 1) := by decide +kernel
theorem dX4_begin_20 : decode cX4_begin 20 = .ok (.getfield 28, 3) := by decide +kernel
theorem dX4_begin_23 : decode cX4_begin 23 = .ok (.putfield 31, 3) := by decide +kernel
theorem dX4_begin_26 : decode cX4_begin 26 = .ok (.aload_n 0, 1) := by decide +kernel
theorem dX4_begin_27 : decode cX4_begin 27 = .ok (.iconst 0, 1) := by decide +kernel
theorem dX4_begin_28 : decode cX4_begin 28 = .ok (.putfield 32, 3) := by decide +kernel
theorem dX4_begin_31 : decode cX4_begin 31 = .ok (.aload_n 0, 1) := by decide +kernel
theorem dX4_begin_32 : decode cX4_begin 32 = .ok (.aload_n 1, 1) := by decide +kernel
theorem dX4_begin_33 : decode cX4_begin 33 = .ok (.getfield 35, 3) := by decide +kernel
theorem dX4_begin_36 : decode cX4_begin 36 = .ok (.putfield 38, 3) := by decide +kernel
theorem dX4_begin_39 : decode cX4_begin 39 = .ok (.aload_n 0, 1) := by decide +kernel
theorem dX4_begin_40 : decode cX4_begin 40 = .ok (.iconst 0, 1) := by decide +kernel
theorem dX4_begin_41 : decode cX4_begin 41 = .ok (.putfield 39, 3) := by decide +kernel
theorem dX4_begin_44 : decode cX4_begin 44 = .ok (.aload_n 0, 1) := by decide +kernel
theorem dX4_begin_45 : decode cX4_begin 45 = .ok (.getfield 9, 3) := by decide +kernel
theorem dX4_begin_48 : decode cX4_begin 48 = .ok (.iconst 0, 1) := by decide +kernel
theorem dX4_begin_49 : decode cX4_begin 49 = .ok (.invokestatic 42, 3) := by decide +kernel
theorem dX4_begin_52 : decode cX4_begin 52 = .ok (.iconst 0, 1) := by decide +kernel
theorem dX4_begin_53 : decode cX4_begin 53 = .ok (.istore_n 2, 1) := by decide +kernel
theorem dX4_begin_54 : decode cX4_begin 54 = .ok (.iload_n 2, 1) := by decide +kernel
theorem dX4_begin_55 : decode cX4_begin 55 = .ok (.aload_n 1, 1) := by decide +kernel
theorem dX4_begin_56 : decode cX4_begin 56 = .ok (.getfield 48, 3) := by decide +kernel
theorem dX4_begin_59 : decode cX4_begin 59 = .ok (.if_icmp .ge 26, 3) := by decide +kernel
theorem dX4_begin_62 : decode cX4_begin 62 = .ok (.aload_n 0, 1) := by decide +kernel
theorem dX4_begin_63 : decode cX4_begin 63 = .ok (.aload_n 1, 1) := by decide +kernel
theorem dX4_begin_64 : decode cX4_begin 64 = .ok (.getfield 51, 3) := by decide +kernel
theorem dX4_begin_67 : decode cX4_begin 67 = .ok (.iload_n 2, 1) := by decide +kernel
theorem dX4_begin_68 : decode cX4_begin 68 = .ok (.iaload, 1) := by decide +kernel
theorem dX4_begin_69 : decode cX4_begin 69 = .ok (.aload_n 1, 1) := by decide +kernel
theorem dX4_begin_70 : decode cX4_begin 70 = .ok (.getfield 54, 3) := by decide +kernel
theorem dX4_begin_73 : decode cX4_begin 73 = .ok (.iload_n 2, 1) := by decide +kernel
theorem dX4_begin_74 : decode cX4_begin 74 = .ok (.iaload, 1) := by decide +kernel
theorem dX4_begin_75 : decode cX4_begin 75 = .ok (.iconst 1, 1) := by decide +kernel
theorem dX4_begin_76 : decode cX4_begin 76 = .ok (.invokevirtual 57, 3) := by decide +kernel
theorem dX4_begin_79 : decode cX4_begin 79 = .ok (.iinc 2 1, 3) := by decide +kernel
theorem dX4_begin_82 : decode cX4_begin 82 = .ok (.goto (-28), 3) := by decide +kernel
theorem dX4_begin_85 : decode cX4_begin 85 = .ok (.return_, 1) := by decide +kernel
theorem dX4_copyFrom_0 : decode cX4_copyFrom 0 = .ok (.aload_n 0, 1) := by decide +kernel
theorem dX4_copyFrom_1 : decode cX4_copyFrom 1 = .ok (.aload_n 1, 1) := by decide +kernel
theorem dX4_copyFrom_2 : decode cX4_copyFrom 2 = .ok (.getfield 21, 3) := by decide +kernel
theorem dX4_copyFrom_5 : decode cX4_copyFrom 5 = .ok (.putfield 21, 3) := by decide +kernel
theorem dX4_copyFrom_8 : decode cX4_copyFrom 8 = .ok (.aload_n 0, 1) := by decide +kernel
theorem dX4_copyFrom_9 : decode cX4_copyFrom 9 = .ok (.aload_n 1, 1) := by decide +kernel
theorem dX4_copyFrom_10 : decode cX4_copyFrom 10 = .ok (.getfield 22, 3) := by decide +kernel
theorem dX4_copyFrom_13 : decode cX4_copyFrom 13 = .ok (.putfield 22, 3) := by decide +kernel
theorem dX4_copyFrom_16 : decode cX4_copyFrom 16 = .ok (.aload_n 0, 1) := by decide +kernel
theorem dX4_copyFrom_17 : decode cX4_copyFrom 17 = .ok (.aload_n 1, 1) := by decide +kernel
theorem dX4_copyFrom_18 : decode cX4_copyFrom 18 = .ok (.getfield 25, 3) := by decide +kernel
theorem dX4_copyFrom_21 : decode cX4_copyFrom 21 = .ok (.putfield 25, 3) := by decide +kernel
theorem dX4_copyFrom_24 : decode cX4_copyFrom 24 = .ok (.aload_n 0, 1) := by decide +kernel
theorem dX4_copyFrom_25 : decode cX4_copyFrom 25 = .ok (.aload_n 1, 1) := by decide +kernel
theorem dX4_copyFrom_26 : decode cX4_copyFrom 26 = .ok (.getfield 31, 3) := by decide +kernel
theorem dX4_copyFrom_29 : decode cX4_copyFrom 29 = .ok (.putfield 31, 3) := by decide +kernel
theorem dX4_copyFrom_32 : decode cX4_copyFrom 32 = .ok (.aload_n 0, 1) := by decide +kernel
theorem dX4_copyFrom_33 : decode cX4_copyFrom 33 = .ok (.aload_n 1, 1) := by decide +kernel
theorem dX4_copyFrom_34 : decode cX4_copyFrom 34 = .ok (.getfield 32, 3) := by decide +kernel
theorem dX4_copyFrom_37 : decode cX4_copyFrom 37 = .ok (.putfield 32, 3) := by decide +kernel
theorem dX4_copyFrom_40 : decode cX4_copyFrom 40 = .ok (.aload_n 0, 1) := by decide +kernel
theorem dX4_copyFrom_41 : decode cX4_copyFrom 41 = .ok (.aload_n 1, 1) := by decide +kernel
theorem dX4_copyFrom_42 : decode cX4_copyFrom 42 = .ok (.getfield 38, 3) := by decide +kernel
theorem dX4_copyFrom_45 : decode cX4_copyFrom 45 = .ok (.putfield 38, 3) := by decide +kernel
theorem dX4_copyFrom_48 : decode cX4_copyFrom 48 = .ok (.aload_n 0, 1) := by decide +kernel
theorem dX4_copyFrom_49 : decode cX4_copyFrom 49 = .ok (.aload_n 1, 1) := by decide +kernel
theorem dX4_copyFrom_50 : decode cX4_copyFrom 50 = .ok (.getfield 39, 3) := by decide +kernel
theorem dX4_copyFrom_53 : decode cX4_copyFrom 53 = .ok (.putfield 39, 3) := by decide +kernel
theorem dX4_copyFrom_56 : decode cX4_copyFrom 56 = .ok (.aload_n 1, 1) := by decide +kernel
theorem dX4_copyFrom_57 : decode cX4_copyFrom 57 = .ok (.getfield 9, 3) := by decide +kernel
theorem dX4_copyFrom_60 : decode cX4_copyFrom 60 = .ok (.iconst 0, 1) := by decide +kernel
theorem dX4_copyFrom_61 : decode cX4_copyFrom 61 = .ok (.aload_n 0, 1) := by decide +kernel
theorem dX4_copyFrom_62 : decode cX4_copyFrom 62 = .ok (.getfield 9, 3) := by decide +kernel
theorem dX4_copyFrom_65 : decode cX4_copyFrom 65 = .ok (.iconst 0, 1) := by decide +kernel
theorem dX4_copyFrom_66 : decode cX4_copyFrom 66 = .ok (.bipush 8, 2) := by decide +kernel
theorem dX4_copyFrom_68 : decode cX4_copyFrom 68 = .ok (.invokestatic 61, 3) := by decide +kernel
theorem dX4_copyFrom_71 : decode cX4_copyFrom 71 = .ok (.return_, 1) := by decide +kernel
theorem dX4_openDoor_0 : decode cX4_openDoor 0 = .ok (.aload_n 0, 1) := by decide +kernel
theorem dX4_openDoor_1 : decode cX4_openDoor 1 = .ok (.getfield 9, 3) := by decide +kernel
theorem dX4_openDoor_4 : decode cX4_openDoor 4 = .ok (.iload_n 1, 1) := by decide +kernel
theorem dX4_openDoor_5 : decode cX4_openDoor 5 = .ok (.aload_n 0, 1) := by decide +kernel
theorem dX4_openDoor_6 : decode cX4_openDoor 6 = .ok (.getfield 9, 3) := by decide +kernel
theorem dX4_openDoor_9 : decode cX4_openDoor 9 = .ok (.iload_n 1, 1) := by decide +kernel
theorem dX4_openDoor_10 : decode cX4_openDoor 10 = .ok (.iaload, 1) := by decide +kernel
theorem dX4_openDoor_11 : decode cX4_openDoor 11 = .ok (.iload_n 2, 1) := by decide +kernel
theorem dX4_openDoor_12 : decode cX4_openDoor 12 = .ok (.iload_n 3, 1) := by decide +kernel
theorem dX4_openDoor_13 : decode cX4_openDoor 13 = .ok (.invokestatic 67, 3) := by decide +kernel
theorem dX4_openDoor_16 : decode cX4_openDoor 16 = .ok (.iastore, 1) := by decide +kernel
theorem dX4_openDoor_17 : decode cX4_openDoor 17 = .ok (.aload_n 0, 1) := by decide +kernel
theorem dX4_openDoor_18 : decode cX4_openDoor 18 = .ok (.getfield 9, 3) := by decide +kernel
theorem dX4_openDoor_21 : decode cX4_openDoor 21 = .ok (.iload_n 2, 1) := by decide +kernel
theorem dX4_openDoor_22 : decode cX4_openDoor 22 = .ok (.aload_n 0, 1) := by decide +kernel
theorem dX4_openDoor_23 : decode cX4_openDoor 23 = .ok (.getfield 9, 3) := by decide +kernel
theorem dX4_openDoor_26 : decode cX4_openDoor 26 = .ok (.iload_n 2, 1) := by decide +kernel
theorem dX4_openDoor_27 : decode cX4_openDoor 27 = .ok (.iaload, 1) := by decide +kernel
theorem dX4_openDoor_28 : decode cX4_openDoor 28 = .ok (.iload_n 1, 1) := by decide +kernel
theorem dX4_openDoor_29 : decode cX4_openDoor 29 = .ok (.iload_n 3, 1) := by decide +kernel
theorem dX4_openDoor_30 : decode cX4_openDoor 30 = .ok (.invokestatic 67, 3) := by decide +kernel
theorem dX4_openDoor_33 : decode cX4_openDoor 33 = .ok (.iastore, 1) := by decide +kernel
theorem dX4_openDoor_34 : decode cX4_openDoor 34 = .ok (.return_, 1) := by decide +kernel
theorem dX4_isWorn_0 : decode cX4_isWorn 0 = .ok (.aload_n 0, 1) := by decide +kernel
theorem dX4_isWorn_1 : decode cX4_isWorn 1 = .ok (.getfield 25, 3) := by decide +kernel
theorem dX4_isWorn_4 : decode cX4_isWorn 4 = .ok (.bipush 50, 2) := by decide +kernel
theorem dX4_isWorn_6 : decode cX4_isWorn 6 = .ok (.if_icmp .lt 7, 3) := by decide +kernel
theorem dX4_isWorn_9 : decode cX4_isWorn 9 = .ok (.iconst 1, 1) := by decide +kernel
theorem dX4_isWorn_10 : decode cX4_isWorn 10 = .ok (.goto 4, 3) := by decide +kernel
theorem dX4_isWorn_13 : decode cX4_isWorn 13 = .ok (.iconst 0, 1) := by decide +kernel
theorem dX4_isWorn_14 : decode cX4_isWorn 14 = .ok (.ireturn, 1) := by decide +kernel
theorem dX4_roomsAhead_0 : decode cX4_roomsAhead 0 = .ok (.aload_n 0, 1) := by decide +kernel
theorem dX4_roomsAhead_1 : decode cX4_roomsAhead 1 = .ok (.getfield 9, 3) := by decide +kernel
theorem dX4_roomsAhead_4 : decode cX4_roomsAhead 4 = .ok (.aload_n 0, 1) := by decide +kernel
theorem dX4_roomsAhead_5 : decode cX4_roomsAhead 5 = .ok (.getfield 22, 3) := by decide +kernel
theorem dX4_roomsAhead_8 : decode cX4_roomsAhead 8 = .ok (.iaload, 1) := by decide +kernel
theorem dX4_roomsAhead_9 : decode cX4_roomsAhead 9 = .ok (.aload_n 0, 1) := by decide +kernel
theorem dX4_roomsAhead_10 : decode cX4_roomsAhead 10 = .ok (.getfield 39, 3) := by decide +kernel
theorem dX4_roomsAhead_13 : decode cX4_roomsAhead 13 = .ok (.iconst (-1), 1) := by decide +kernel
theorem dX4_roomsAhead_14 : decode cX4_roomsAhead 14 = .ok (.ixor, 1) := by decide +kernel
theorem dX4_roomsAhead_15 : decode cX4_roomsAhead 15 = .ok (.iand, 1) := by decide +kernel
theorem dX4_roomsAhead_16 : decode cX4_roomsAhead 16 = .ok (.ireturn, 1) := by decide +kernel
theorem dX4_pullNow_0 : decode cX4_pullNow 0 = .ok (.aload_n 0, 1) := by decide +kernel
theorem dX4_pullNow_1 : decode cX4_pullNow 1 = .ok (.getfield 21, 3) := by decide +kernel
theorem dX4_pullNow_4 : decode cX4_pullNow 4 = .ok (.iload_n 1, 1) := by decide +kernel
theorem dX4_pullNow_5 : decode cX4_pullNow 5 = .ok (.aload_n 0, 1) := by decide +kernel
theorem dX4_pullNow_6 : decode cX4_pullNow 6 = .ok (.getfield 31, 3) := by decide +kernel
theorem dX4_pullNow_9 : decode cX4_pullNow 9 = .ok (.aload_n 0, 1) := by decide +kernel
theorem dX4_pullNow_10 : decode cX4_pullNow 10 = .ok (.getfield 38, 3) := by decide +kernel
theorem dX4_pullNow_13 : decode cX4_pullNow 13 = .ok (.aload_n 0, 1) := by decide +kernel
theorem dX4_pullNow_14 : decode cX4_pullNow 14 = .ok (.getfield 32, 3) := by decide +kernel
theorem dX4_pullNow_17 : decode cX4_pullNow 17 = .ok (.aload_n 0, 1) := by decide +kernel
theorem dX4_pullNow_18 : decode cX4_pullNow 18 = .ok (.invokevirtual 71, 3) := by decide +kernel
theorem dX4_pullNow_21 : decode cX4_pullNow 21 = .ok (.invokestatic 75, 3) := by decide +kernel
theorem dX4_pullNow_24 : decode cX4_pullNow 24 = .ok (.ireturn, 1) := by decide +kernel
theorem dX4_nextBy_0 : decode cX4_nextBy 0 = .ok (.iload_n 1, 1) := by decide +kernel
theorem dX4_nextBy_1 : decode cX4_nextBy 1 = .ok (.aload_n 0, 1) := by decide +kernel
theorem dX4_nextBy_2 : decode cX4_nextBy 2 = .ok (.invokevirtual 79, 3) := by decide +kernel
theorem dX4_nextBy_5 : decode cX4_nextBy 5 = .ok (.aload_n 0, 1) := by decide +kernel
theorem dX4_nextBy_6 : decode cX4_nextBy 6 = .ok (.getfield 31, 3) := by decide +kernel
theorem dX4_nextBy_9 : decode cX4_nextBy 9 = .ok (.aload_n 0, 1) := by decide +kernel
theorem dX4_nextBy_10 : decode cX4_nextBy 10 = .ok (.getfield 38, 3) := by decide +kernel
theorem dX4_nextBy_13 : decode cX4_nextBy 13 = .ok (.aload_n 0, 1) := by decide +kernel
theorem dX4_nextBy_14 : decode cX4_nextBy 14 = .ok (.getfield 32, 3) := by decide +kernel
theorem dX4_nextBy_17 : decode cX4_nextBy 17 = .ok (.aload_n 0, 1) := by decide +kernel
theorem dX4_nextBy_18 : decode cX4_nextBy 18 = .ok (.invokevirtual 71, 3) := by decide +kernel
theorem dX4_nextBy_21 : decode cX4_nextBy 21 = .ok (.invokestatic 83, 3) := by decide +kernel
theorem dX4_nextBy_24 : decode cX4_nextBy 24 = .ok (.istore_n 2, 1) := by decide +kernel
theorem dX4_nextBy_25 : decode cX4_nextBy 25 = .ok (.iload_n 2, 1) := by decide +kernel
theorem dX4_nextBy_26 : decode cX4_nextBy 26 = .ok (.iconst (-1), 1) := by decide +kernel
theorem dX4_nextBy_27 : decode cX4_nextBy 27 = .ok (.if_icmp .ne 10, 3) := by decide +kernel
theorem dX4_nextBy_30 : decode cX4_nextBy 30 = .ok (.aload_n 0, 1) := by decide +kernel
theorem dX4_nextBy_31 : decode cX4_nextBy 31 = .ok (.getfield 22, 3) := by decide +kernel
theorem dX4_nextBy_34 : decode cX4_nextBy 34 = .ok (.goto 4, 3) := by decide +kernel
theorem dX4_nextBy_37 : decode cX4_nextBy 37 = .ok (.iload_n 2, 1) := by decide +kernel
theorem dX4_nextBy_38 : decode cX4_nextBy 38 = .ok (.ireturn, 1) := by decide +kernel
theorem dX4_feelGoverned_0 : decode cX4_feelGoverned 0 = .ok (.aload_n 0, 1) := by decide +kernel
theorem dX4_feelGoverned_1 : decode cX4_feelGoverned 1 = .ok (.getfield 32, 3) := by decide +kernel
theorem dX4_feelGoverned_4 : decode cX4_feelGoverned 4 = .ok (.aload_n 0, 1) := by decide +kernel
theorem dX4_feelGoverned_5 : decode cX4_feelGoverned 5 = .ok (.getfield 22, 3) := by decide +kernel
theorem dX4_feelGoverned_8 : decode cX4_feelGoverned 8 = .ok (.invokestatic 86, 3) := by decide +kernel
theorem dX4_feelGoverned_11 : decode cX4_feelGoverned 11 = .ok (.istore_n 1, 1) := by decide +kernel
theorem dX4_feelGoverned_12 : decode cX4_feelGoverned 12 = .ok (.iload_n 1, 1) := by decide +kernel
theorem dX4_feelGoverned_13 : decode cX4_feelGoverned 13 = .ok (.bipush 9, 2) := by decide +kernel
theorem dX4_feelGoverned_15 : decode cX4_feelGoverned 15 = .ok (.if_icmp .ge 21, 3) := by decide +kernel
theorem dX4_feelGoverned_18 : decode cX4_feelGoverned 18 = .ok (.aload_n 0, 1) := by decide +kernel
theorem dX4_feelGoverned_19 : decode cX4_feelGoverned 19 = .ok (.aload_n 0, 1) := by decide +kernel
theorem dX4_feelGoverned_20 : decode cX4_feelGoverned 20 = .ok (.getfield 32, 3) := by decide +kernel
theorem dX4_feelGoverned_23 : decode cX4_feelGoverned 23 = .ok (.aload_n 0, 1) := by decide +kernel
theorem dX4_feelGoverned_24 : decode cX4_feelGoverned 24 = .ok (.getfield 22, 3) := by decide +kernel
theorem dX4_feelGoverned_27 : decode cX4_feelGoverned 27 = .ok (.iload_n 1, 1) := by decide +kernel
theorem dX4_feelGoverned_28 : decode cX4_feelGoverned 28 = .ok (.iconst 1, 1) := by decide +kernel
theorem dX4_feelGoverned_29 : decode cX4_feelGoverned 29 = .ok (.iadd, 1) := by decide +kernel
theorem dX4_feelGoverned_30 : decode cX4_feelGoverned 30 = .ok (.invokestatic 90, 3) := by decide +kernel
theorem dX4_feelGoverned_33 : decode cX4_feelGoverned 33 = .ok (.putfield 32, 3) := by decide +kernel
theorem dX4_feelGoverned_36 : decode cX4_feelGoverned 36 = .ok (.return_, 1) := by decide +kernel
theorem dX4_stepTo_0 : decode cX4_stepTo 0 = .ok (.iload_n 1, 1) := by decide +kernel
theorem dX4_stepTo_1 : decode cX4_stepTo 1 = .ok (.aload_n 0, 1) := by decide +kernel
theorem dX4_stepTo_2 : decode cX4_stepTo 2 = .ok (.getfield 22, 3) := by decide +kernel
theorem dX4_stepTo_5 : decode cX4_stepTo 5 = .ok (.if_icmp .eq 24, 3) := by decide +kernel
theorem dX4_stepTo_8 : decode cX4_stepTo 8 = .ok (.aload_n 0, 1) := by decide +kernel
theorem dX4_stepTo_9 : decode cX4_stepTo 9 = .ok (.iload_n 1, 1) := by decide +kernel
theorem dX4_stepTo_10 : decode cX4_stepTo 10 = .ok (.putfield 22, 3) := by decide +kernel
theorem dX4_stepTo_13 : decode cX4_stepTo 13 = .ok (.aload_n 0, 1) := by decide +kernel
theorem dX4_stepTo_14 : decode cX4_stepTo 14 = .ok (.sipush 999, 3) := by decide +kernel
theorem dX4_stepTo_17 : decode cX4_stepTo 17 = .ok (.aload_n 0, 1) := by decide +kernel
theorem dX4_stepTo_18 : decode cX4_stepTo 18 = .ok (.getfield 25, 3) := by decide +kernel
theorem dX4_stepTo_21 : decode cX4_stepTo 21 = .ok (.iconst 1, 1) := by decide +kernel
theorem dX4_stepTo_22 : decode cX4_stepTo 22 = .ok (.iadd, 1) := by decide +kernel
theorem dX4_stepTo_23 : decode cX4_stepTo 23 = .ok (.invokestatic 94, 3) := by decide +kernel
theorem dX4_stepTo_26 : decode cX4_stepTo 26 = .ok (.putfield 25, 3) := by decide +kernel
theorem dX4_stepTo_29 : decode cX4_stepTo 29 = .ok (.return_, 1) := by decide +kernel
theorem dX4_tryHour_0 : decode cX4_tryHour 0 = .ok (.aload_n 0, 1) := by decide +kernel
theorem dX4_tryHour_1 : decode cX4_tryHour 1 = .ok (.invokevirtual 99, 3) := by decide +kernel
theorem dX4_tryHour_4 : decode cX4_tryHour 4 = .ok (.aload_n 0, 1) := by decide +kernel
theorem dX4_tryHour_5 : decode cX4_tryHour 5 = .ok (.aload_n 0, 1) := by decide +kernel
theorem dX4_tryHour_6 : decode cX4_tryHour 6 = .ok (.aload_n 0, 1) := by decide +kernel
theorem dX4_tryHour_7 : decode cX4_tryHour 7 = .ok (.getfield 21, 3) := by decide +kernel
theorem dX4_tryHour_10 : decode cX4_tryHour 10 = .ok (.invokevirtual 102, 3) := by decide +kernel
theorem dX4_tryHour_13 : decode cX4_tryHour 13 = .ok (.invokevirtual 106, 3) := by decide +kernel
theorem dX4_tryHour_16 : decode cX4_tryHour 16 = .ok (.return_, 1) := by decide +kernel
theorem dX4_pullOf_0 : decode cX4_pullOf 0 = .ok (.iload_n 0, 1) := by decide +kernel
theorem dX4_pullOf_1 : decode cX4_pullOf 1 = .ok (.invokestatic 110, 3) := by decide +kernel
theorem dX4_pullOf_4 : decode cX4_pullOf 4 = .ok (.iload_n 2, 1) := by decide +kernel
theorem dX4_pullOf_5 : decode cX4_pullOf 5 = .ok (.iload_n 1, 1) := by decide +kernel
theorem dX4_pullOf_6 : decode cX4_pullOf 6 = .ok (.invokestatic 86, 3) := by decide +kernel
theorem dX4_pullOf_9 : decode cX4_pullOf 9 = .ok (.imul, 1) := by decide +kernel
theorem dX4_pullOf_10 : decode cX4_pullOf 10 = .ok (.istore 6, 2) := by decide +kernel
theorem dX4_pullOf_12 : decode cX4_pullOf 12 = .ok (.iload_n 3, 1) := by decide +kernel
theorem dX4_pullOf_13 : decode cX4_pullOf 13 = .ok (.iload_n 1, 1) := by decide +kernel
theorem dX4_pullOf_14 : decode cX4_pullOf 14 = .ok (.invokestatic 113, 3) := by decide +kernel
theorem dX4_pullOf_17 : decode cX4_pullOf 17 = .ok (.iconst 1, 1) := by decide +kernel
theorem dX4_pullOf_18 : decode cX4_pullOf 18 = .ok (.if_icmp .ne 7, 3) := by decide +kernel
theorem dX4_pullOf_21 : decode cX4_pullOf 21 = .ok (.iconst 0, 1) := by decide +kernel
theorem dX4_pullOf_22 : decode cX4_pullOf 22 = .ok (.goto 9, 3) := by decide +kernel
theorem dX4_pullOf_25 : decode cX4_pullOf 25 = .ok (.iload_n 0, 1) := by decide +kernel
theorem dX4_pullOf_26 : decode cX4_pullOf 26 = .ok (.invokestatic 116, 3) := by decide +kernel
theorem dX4_pullOf_29 : decode cX4_pullOf 29 = .ok (.iconst 3, 1) := by decide +kernel
theorem dX4_pullOf_30 : decode cX4_pullOf 30 = .ok (.imul, 1) := by decide +kernel
theorem dX4_pullOf_31 : decode cX4_pullOf 31 = .ok (.istore 7, 2) := by decide +kernel
theorem dX4_pullOf_33 : decode cX4_pullOf 33 = .ok (.iload_n 0, 1) := by decide +kernel
theorem dX4_pullOf_34 : decode cX4_pullOf 34 = .ok (.invokestatic 119, 3) := by decide +kernel
theorem dX4_pullOf_37 : decode cX4_pullOf 37 = .ok (.iload 4, 2) := by decide +kernel
theorem dX4_pullOf_39 : decode cX4_pullOf 39 = .ok (.iload_n 1, 1) := by decide +kernel
theorem dX4_pullOf_40 : decode cX4_pullOf 40 = .ok (.invokestatic 86, 3) := by decide +kernel
theorem dX4_pullOf_43 : decode cX4_pullOf 43 = .ok (.imul, 1) := by decide +kernel
theorem dX4_pullOf_44 : decode cX4_pullOf 44 = .ok (.istore 8, 2) := by decide +kernel
theorem dX4_pullOf_46 : decode cX4_pullOf 46 = .ok (.iload 5, 2) := by decide +kernel
theorem dX4_pullOf_48 : decode cX4_pullOf 48 = .ok (.ifCond .eq 10, 3) := by decide +kernel
theorem dX4_pullOf_51 : decode cX4_pullOf 51 = .ok (.iload 6, 2) := by decide +kernel
theorem dX4_pullOf_53 : decode cX4_pullOf 53 = .ok (.iconst 2, 1) := by decide +kernel
theorem dX4_pullOf_54 : decode cX4_pullOf 54 = .ok (.imul, 1) := by decide +kernel
theorem dX4_pullOf_55 : decode cX4_pullOf 55 = .ok (.goto 5, 3) := by decide +kernel
theorem dX4_pullOf_58 : decode cX4_pullOf 58 = .ok (.iload 6, 2) := by decide +kernel
theorem dX4_pullOf_60 : decode cX4_pullOf 60 = .ok (.iload 7, 2) := by decide +kernel
theorem dX4_pullOf_62 : decode cX4_pullOf 62 = .ok (.iadd, 1) := by decide +kernel
theorem dX4_pullOf_63 : decode cX4_pullOf 63 = .ok (.iload 8, 2) := by decide +kernel
theorem dX4_pullOf_65 : decode cX4_pullOf 65 = .ok (.iadd, 1) := by decide +kernel
theorem dX4_pullOf_66 : decode cX4_pullOf 66 = .ok (.ireturn, 1) := by decide +kernel
theorem dX4_liked_0 : decode cX4_liked 0 = .ok (.iconst (-1), 1) := by decide +kernel
theorem dX4_liked_1 : decode cX4_liked 1 = .ok (.istore 6, 2) := by decide +kernel
theorem dX4_liked_3 : decode cX4_liked 3 = .ok (.iconst 0, 1) := by decide +kernel
theorem dX4_liked_4 : decode cX4_liked 4 = .ok (.istore 7, 2) := by decide +kernel
theorem dX4_liked_6 : decode cX4_liked 6 = .ok (.iconst 0, 1) := by decide +kernel
theorem dX4_liked_7 : decode cX4_liked 7 = .ok (.istore 8, 2) := by decide +kernel
theorem dX4_liked_9 : decode cX4_liked 9 = .ok (.iload 8, 2) := by decide +kernel
theorem dX4_liked_11 : decode cX4_liked 11 = .ok (.bipush 8, 2) := by decide +kernel
theorem dX4_liked_13 : decode cX4_liked 13 = .ok (.if_icmp .ge 54, 3) := by decide +kernel
theorem dX4_liked_16 : decode cX4_liked 16 = .ok (.iload_n 1, 1) := by decide +kernel
theorem dX4_liked_17 : decode cX4_liked 17 = .ok (.iload 8, 2) := by decide +kernel
theorem dX4_liked_19 : decode cX4_liked 19 = .ok (.invokestatic 113, 3) := by decide +kernel
theorem dX4_liked_22 : decode cX4_liked 22 = .ok (.iconst 1, 1) := by decide +kernel
theorem dX4_liked_23 : decode cX4_liked 23 = .ok (.if_icmp .ne 38, 3) := by decide +kernel
theorem dX4_liked_26 : decode cX4_liked 26 = .ok (.iload_n 0, 1) := by decide +kernel
theorem dX4_liked_27 : decode cX4_liked 27 = .ok (.iload 8, 2) := by decide +kernel
theorem dX4_liked_29 : decode cX4_liked 29 = .ok (.iload_n 2, 1) := by decide +kernel
theorem dX4_liked_30 : decode cX4_liked 30 = .ok (.iload_n 3, 1) := by decide +kernel
theorem dX4_liked_31 : decode cX4_liked 31 = .ok (.iload 4, 2) := by decide +kernel
theorem dX4_liked_33 : decode cX4_liked 33 = .ok (.iload 5, 2) := by decide +kernel
theorem dX4_liked_35 : decode cX4_liked 35 = .ok (.invokestatic 75, 3) := by decide +kernel
theorem dX4_liked_38 : decode cX4_liked 38 = .ok (.istore 9, 2) := by decide +kernel
theorem dX4_liked_40 : decode cX4_liked 40 = .ok (.iload 6, 2) := by decide +kernel
theorem dX4_liked_42 : decode cX4_liked 42 = .ok (.iconst (-1), 1) := by decide +kernel
theorem dX4_liked_43 : decode cX4_liked 43 = .ok (.if_icmp .eq 10, 3) := by decide +kernel
theorem dX4_liked_46 : decode cX4_liked 46 = .ok (.iload 9, 2) := by decide +kernel
theorem dX4_liked_48 : decode cX4_liked 48 = .ok (.iload 7, 2) := by decide +kernel
theorem dX4_liked_50 : decode cX4_liked 50 = .ok (.if_icmp .ge 11, 3) := by decide +kernel
theorem dX4_liked_53 : decode cX4_liked 53 = .ok (.iload 8, 2) := by decide +kernel
theorem dX4_liked_55 : decode cX4_liked 55 = .ok (.istore 6, 2) := by decide +kernel
theorem dX4_liked_57 : decode cX4_liked 57 = .ok (.iload 9, 2) := by decide +kernel
theorem dX4_liked_59 : decode cX4_liked 59 = .ok (.istore 7, 2) := by decide +kernel
theorem dX4_liked_61 : decode cX4_liked 61 = .ok (.iinc 8 1, 3) := by decide +kernel
theorem dX4_liked_64 : decode cX4_liked 64 = .ok (.goto (-55), 3) := by decide +kernel
theorem dX4_liked_67 : decode cX4_liked 67 = .ok (.iload 6, 2) := by decide +kernel
theorem dX4_liked_69 : decode cX4_liked 69 = .ok (.ireturn, 1) := by decide +kernel
theorem dX5_init_0 : decode cX5_init 0 = .ok (.aload_n 0, 1) := by decide +kernel
theorem dX5_init_1 : decode cX5_init 1 = .ok (.invokespecial 3, 3) := by decide +kernel
theorem dX5_init_4 : decode cX5_init 4 = .ok (.aload_n 0, 1) := by decide +kernel
theorem dX5_init_5 : decode cX5_init 5 = .ok (.new 9, 3) := by decide +kernel
theorem dX5_init_8 : decode cX5_init 8 = .ok (.dup, 1) := by decide +kernel
theorem dX5_init_9 : decode cX5_init 9 = .ok (.invokespecial 11, 3) := by decide +kernel
theorem dX5_init_12 : decode cX5_init 12 = .ok (.putfield 12, 3) := by decide +kernel
theorem dX5_init_15 : decode cX5_init 15 = .ok (.aload_n 0, 1) := by decide +kernel
theorem dX5_init_16 : decode cX5_init 16 = .ok (.new 18, 3) := by decide +kernel
theorem dX5_init_19 : decode cX5_init 19 = .ok (.dup, 1) := by decide +kernel
theorem dX5_init_20 : decode cX5_init 20 = .ok (.invokespecial 20, 3) := by decide +kernel
theorem dX5_init_23 : decode cX5_init 23 = .ok (.putfield 21, 3) := by decide +kernel
theorem dX5_init_26 : decode cX5_init 26 = .ok (.aload_n 0, 1) := by decide +kernel
theorem dX5_init_27 : decode cX5_init 27 = .ok (.bipush 8, 2) := by decide +kernel
theorem dX5_init_29 : decode cX5_init 29 = .ok (.newarray .int, 2) := by decide +kernel
theorem dX5_init_31 : decode cX5_init 31 = .ok (.putfield 25, 3) := by decide +kernel
theorem dX5_init_34 : decode cX5_init 34 = .ok (.aload_n 0, 1) := by decide +kernel
theorem dX5_init_35 : decode cX5_init 35 = .ok (.bipush 6, 2) := by decide +kernel
theorem dX5_init_37 : decode cX5_init 37 = .ok (.newarray .int, 2) := by decide +kernel
theorem dX5_init_39 : decode cX5_init 39 = .ok (.putfield 29, 3) := by decide +kernel
theorem dX5_init_42 : decode cX5_init 42 = .ok (.return_, 1) := by decide +kernel
theorem dX5_begin_0 : decode cX5_begin 0 = .ok (.aload_n 0, 1) := by decide +kernel
theorem dX5_begin_1 : decode cX5_begin 1 = .ok (.getfield 12, 3) := by decide +kernel
theorem dX5_begin_4 : decode cX5_begin 4 = .ok (.aload_n 1, 1) := by decide +kernel
theorem dX5_begin_5 : decode cX5_begin 5 = .ok (.invokevirtual 32, 3) := by decide +kernel
theorem dX5_begin_8 : decode cX5_begin 8 = .ok (.aload_n 0, 1) := by decide +kernel
theorem dX5_begin_9 : decode cX5_begin 9 = .ok (.getfield 21, 3) := by decide +kernel
theorem dX5_begin_12 : decode cX5_begin 12 = .ok (.invokevirtual 36, 3) := by decide +kernel
theorem dX5_begin_15 : decode cX5_begin 15 = .ok (.aload_n 0, 1) := by decide +kernel
theorem dX5_begin_16 : decode cX5_begin 16 = .ok (.iconst 0, 1) := by decide +kernel
theorem dX5_begin_17 : decode cX5_begin 17 = .ok (.putfield 39, 3) := by decide +kernel
theorem dX5_begin_20 : decode cX5_begin 20 = .ok (.aload_n 0, 1) := by decide +kernel
theorem dX5_begin_21 : decode cX5_begin 21 = .ok (.iconst 0, 1) := by decide +kernel
theorem dX5_begin_22 : decode cX5_begin 22 = .ok (.putfield 43, 3) := by decide +kernel
theorem dX5_begin_25 : decode cX5_begin 25 = .ok (.aload_n 0, 1) := by decide +kernel
theorem dX5_begin_26 : decode cX5_begin 26 = .ok (.iconst 0, 1) := by decide +kernel
theorem dX5_begin_27 : decode cX5_begin 27 = .ok (.putfield 46, 3) := by decide +kernel
theorem dX5_begin_30 : decode cX5_begin 30 = .ok (.aload_n 0, 1) := by decide +kernel
theorem dX5_begin_31 : decode cX5_begin 31 = .ok (.iconst 0, 1) := by decide +kernel
theorem dX5_begin_32 : decode cX5_begin 32 = .ok (.putfield 49, 3) := by decide +kernel
theorem dX5_begin_35 : decode cX5_begin 35 = .ok (.aload_n 0, 1) := by decide +kernel
theorem dX5_begin_36 : decode cX5_begin 36 = .ok (.getfield 25, 3) := by decide +kernel
theorem dX5_begin_39 : decode cX5_begin 39 = .ok (.iconst 0, 1) := by decide +kernel
theorem dX5_begin_40 : decode cX5_begin 40 = .ok (.invokestatic 52, 3) := by decide +kernel
theorem dX5_begin_43 : decode cX5_begin 43 = .ok (.aload_n 1, 1) := by decide +kernel
theorem dX5_begin_44 : decode cX5_begin 44 = .ok (.getfield 58, 3) := by decide +kernel
theorem dX5_begin_47 : decode cX5_begin 47 = .ok (.iconst 0, 1) := by decide +kernel
theorem dX5_begin_48 : decode cX5_begin 48 = .ok (.aload_n 0, 1) := by decide +kernel
theorem dX5_begin_49 : decode cX5_begin 49 = .ok (.getfield 29, 3) := by decide +kernel
theorem dX5_begin_52 : decode cX5_begin 52 = .ok (.iconst 0, 1) := by decide +kernel
theorem dX5_begin_53 : decode cX5_begin 53 = .ok (.bipush 6, 2) := by decide +kernel
theorem dX5_begin_55 : decode cX5_begin 55 = .ok (.invokestatic 63, 3) := by decide +kernel
theorem dX5_begin_58 : decode cX5_begin 58 = .ok (.return_, 1) := by decide +kernel
theorem dX5_copyFrom_0 : decode cX5_copyFrom 0 = .ok (.aload_n 0, 1) := by decide +kernel
theorem dX5_copyFrom_1 : decode cX5_copyFrom 1 = .ok (.getfield 12, 3) := by decide +kernel
theorem dX5_copyFrom_4 : decode cX5_copyFrom 4 = .ok (.aload_n 1, 1) := by decide +kernel
theorem dX5_copyFrom_5 : decode cX5_copyFrom 5 = .ok (.getfield 12, 3) := by decide +kernel
theorem dX5_copyFrom_8 : decode cX5_copyFrom 8 = .ok (.invokevirtual 69, 3) := by decide +kernel
theorem dX5_copyFrom_11 : decode cX5_copyFrom 11 = .ok (.aload_n 0, 1) := by decide +kernel
theorem dX5_copyFrom_12 : decode cX5_copyFrom 12 = .ok (.getfield 21, 3) := by decide +kernel
theorem dX5_copyFrom_15 : decode cX5_copyFrom 15 = .ok (.aload_n 1, 1) := by decide +kernel
theorem dX5_copyFrom_16 : decode cX5_copyFrom 16 = .ok (.getfield 21, 3) := by decide +kernel
theorem dX5_copyFrom_19 : decode cX5_copyFrom 19 = .ok (.invokevirtual 73, 3) := by decide +kernel
theorem dX5_copyFrom_22 : decode cX5_copyFrom 22 = .ok (.aload_n 0, 1) := by decide +kernel
theorem dX5_copyFrom_23 : decode cX5_copyFrom 23 = .ok (.aload_n 1, 1) := by decide +kernel
theorem dX5_copyFrom_24 : decode cX5_copyFrom 24 = .ok (.getfield 39, 3) := by decide +kernel
theorem dX5_copyFrom_27 : decode cX5_copyFrom 27 = .ok (.putfield 39, 3) := by decide +kernel
theorem dX5_copyFrom_30 : decode cX5_copyFrom 30 = .ok (.aload_n 0, 1) := by decide +kernel
theorem dX5_copyFrom_31 : decode cX5_copyFrom 31 = .ok (.aload_n 1, 1) := by decide +kernel
theorem dX5_copyFrom_32 : decode cX5_copyFrom 32 = .ok (.getfield 43, 3) := by decide +kernel
theorem dX5_copyFrom_35 : decode cX5_copyFrom 35 = .ok (.putfield 43, 3) := by decide +kernel
theorem dX5_copyFrom_38 : decode cX5_copyFrom 38 = .ok (.aload_n 0, 1) := by decide +kernel
theorem dX5_copyFrom_39 : decode cX5_copyFrom 39 = .ok (.aload_n 1, 1) := by decide +kernel
theorem dX5_copyFrom_40 : decode cX5_copyFrom 40 = .ok (.getfield 46, 3) := by decide +kernel
theorem dX5_copyFrom_43 : decode cX5_copyFrom 43 = .ok (.putfield 46, 3) := by decide +kernel
theorem dX5_copyFrom_46 : decode cX5_copyFrom 46 = .ok (.aload_n 0, 1) := by decide +kernel
theorem dX5_copyFrom_47 : decode cX5_copyFrom 47 = .ok (.aload_n 1, 1) := by decide +kernel
theorem dX5_copyFrom_48 : decode cX5_copyFrom 48 = .ok (.getfield 49, 3) := by decide +kernel
theorem dX5_copyFrom_51 : decode cX5_copyFrom 51 = .ok (.putfield 49, 3) := by decide +kernel
theorem dX5_copyFrom_54 : decode cX5_copyFrom 54 = .ok (.aload_n 1, 1) := by decide +kernel
theorem dX5_copyFrom_55 : decode cX5_copyFrom 55 = .ok (.getfield 25, 3) := by decide +kernel
theorem dX5_copyFrom_58 : decode cX5_copyFrom 58 = .ok (.iconst 0, 1) := by decide +kernel
theorem dX5_copyFrom_59 : decode cX5_copyFrom 59 = .ok (.aload_n 0, 1) := by decide +kernel
theorem dX5_copyFrom_60 : decode cX5_copyFrom 60 = .ok (.getfield 25, 3) := by decide +kernel
theorem dX5_copyFrom_63 : decode cX5_copyFrom 63 = .ok (.iconst 0, 1) := by decide +kernel
theorem dX5_copyFrom_64 : decode cX5_copyFrom 64 = .ok (.bipush 8, 2) := by decide +kernel
theorem dX5_copyFrom_66 : decode cX5_copyFrom 66 = .ok (.invokestatic 63, 3) := by decide +kernel
theorem dX5_copyFrom_69 : decode cX5_copyFrom 69 = .ok (.aload_n 1, 1) := by decide +kernel
theorem dX5_copyFrom_70 : decode cX5_copyFrom 70 = .ok (.getfield 29, 3) := by decide +kernel
theorem dX5_copyFrom_73 : decode cX5_copyFrom 73 = .ok (.iconst 0, 1) := by decide +kernel
theorem dX5_copyFrom_74 : decode cX5_copyFrom 74 = .ok (.aload_n 0, 1) := by decide +kernel
theorem dX5_copyFrom_75 : decode cX5_copyFrom 75 = .ok (.getfield 29, 3) := by decide +kernel
theorem dX5_copyFrom_78 : decode cX5_copyFrom 78 = .ok (.iconst 0, 1) := by decide +kernel
theorem dX5_copyFrom_79 : decode cX5_copyFrom 79 = .ok (.bipush 6, 2) := by decide +kernel
theorem dX5_copyFrom_81 : decode cX5_copyFrom 81 = .ok (.invokestatic 63, 3) := by decide +kernel
theorem dX5_copyFrom_84 : decode cX5_copyFrom 84 = .ok (.return_, 1) := by decide +kernel
theorem dX5_passHour_0 : decode cX5_passHour 0 = .ok (.aload_n 0, 1) := by decide +kernel
theorem dX5_passHour_1 : decode cX5_passHour 1 = .ok (.getfield 25, 3) := by decide +kernel
theorem dX5_passHour_4 : decode cX5_passHour 4 = .ok (.aload_n 0, 1) := by decide +kernel
theorem dX5_passHour_5 : decode cX5_passHour 5 = .ok (.getfield 12, 3) := by decide +kernel
theorem dX5_passHour_8 : decode cX5_passHour 8 = .ok (.getfield 76, 3) := by decide +kernel
theorem dX5_passHour_11 : decode cX5_passHour 11 = .ok (.dup2, 1) := by decide +kernel
theorem dX5_passHour_12 : decode cX5_passHour 12 = .ok (.iaload, 1) := by decide +kernel
theorem dX5_passHour_13 : decode cX5_passHour 13 = .ok (.iconst 1, 1) := by decide +kernel
theorem dX5_passHour_14 : decode cX5_passHour 14 = .ok (.iadd, 1) := by decide +kernel
theorem dX5_passHour_15 : decode cX5_passHour 15 = .ok (.iastore, 1) := by decide +kernel
theorem dX5_passHour_16 : decode cX5_passHour 16 = .ok (.aload_n 0, 1) := by decide +kernel
theorem dX5_passHour_17 : decode cX5_passHour 17 = .ok (.getfield 12, 3) := by decide +kernel
theorem dX5_passHour_20 : decode cX5_passHour 20 = .ok (.invokevirtual 79, 3) := by decide +kernel
theorem dX5_passHour_23 : decode cX5_passHour 23 = .ok (.aload_n 0, 1) := by decide +kernel
theorem dX5_passHour_24 : decode cX5_passHour 24 = .ok (.aload_n 1, 1) := by decide +kernel
theorem dX5_passHour_25 : decode cX5_passHour 25 = .ok (.invokevirtual 82, 3) := by decide +kernel
theorem dX5_passHour_28 : decode cX5_passHour 28 = .ok (.aload_n 0, 1) := by decide +kernel
theorem dX5_passHour_29 : decode cX5_passHour 29 = .ok (.getfield 12, 3) := by decide +kernel
theorem dX5_passHour_32 : decode cX5_passHour 32 = .ok (.aload_n 0, 1) := by decide +kernel
theorem dX5_passHour_33 : decode cX5_passHour 33 = .ok (.getfield 12, 3) := by decide +kernel
theorem dX5_passHour_36 : decode cX5_passHour 36 = .ok (.getfield 85, 3) := by decide +kernel
theorem dX5_passHour_39 : decode cX5_passHour 39 = .ok (.invokevirtual 88, 3) := by decide +kernel
theorem dX5_passHour_42 : decode cX5_passHour 42 = .ok (.istore_n 2, 1) := by decide +kernel
theorem dX5_passHour_43 : decode cX5_passHour 43 = .ok (.iload_n 2, 1) := by decide +kernel
theorem dX5_passHour_44 : decode cX5_passHour 44 = .ok (.aload_n 0, 1) := by decide +kernel
theorem dX5_passHour_45 : decode cX5_passHour 45 = .ok (.getfield 12, 3) := by decide +kernel
theorem dX5_passHour_48 : decode cX5_passHour 48 = .ok (.getfield 76, 3) := by decide +kernel
theorem dX5_passHour_51 : decode cX5_passHour 51 = .ok (.if_icmp .eq 23, 3) := by decide +kernel
theorem dX5_passHour_54 : decode cX5_passHour 54 = .ok (.aload_n 0, 1) := by decide +kernel
theorem dX5_passHour_55 : decode cX5_passHour 55 = .ok (.getfield 21, 3) := by decide +kernel
theorem dX5_passHour_58 : decode cX5_passHour 58 = .ok (.aload_n 0, 1) := by decide +kernel
theorem dX5_passHour_59 : decode cX5_passHour 59 = .ok (.getfield 12, 3) := by decide +kernel
theorem dX5_passHour_62 : decode cX5_passHour 62 = .ok (.iload_n 2, 1) := by decide +kernel
theorem dX5_passHour_63 : decode cX5_passHour 63 = .ok (.invokevirtual 92, 3) := by decide +kernel
theorem dX5_passHour_66 : decode cX5_passHour 66 = .ok (.aload_n 0, 1) := by decide +kernel
theorem dX5_passHour_67 : decode cX5_passHour 67 = .ok (.getfield 12, 3) := by decide +kernel
theorem dX5_passHour_70 : decode cX5_passHour 70 = .ok (.iload_n 2, 1) := by decide +kernel
theorem dX5_passHour_71 : decode cX5_passHour 71 = .ok (.invokevirtual 96, 3) := by decide +kernel
theorem dX5_passHour_74 : decode cX5_passHour 74 = .ok (.aload_n 0, 1) := by decide +kernel
theorem dX5_passHour_75 : decode cX5_passHour 75 = .ok (.dup, 1) := by decide +kernel
theorem dX5_passHour_76 : decode cX5_passHour 76 = .ok (.getfield 39, 3) := by decide +kernel
theorem dX5_passHour_79 : decode cX5_passHour 79 = .ok (.iconst 1, 1) := by decide +kernel
theorem dX5_passHour_80 : decode cX5_passHour 80 = .ok (.iadd, 1) := by decide +kernel
theorem dX5_passHour_81 : decode cX5_passHour 81 = .ok (.putfield 39, 3) := by decide +kernel
theorem dX5_passHour_84 : decode cX5_passHour 84 = .ok (.return_, 1) := by decide +kernel
theorem dX5_hearAll_0 : decode cX5_hearAll 0 = .ok (.iconst 0, 1) := by decide +kernel
theorem dX5_hearAll_1 : decode cX5_hearAll 1 = .ok (.istore_n 2, 1) := by decide +kernel
theorem dX5_hearAll_2 : decode cX5_hearAll 2 = .ok (.iload_n 2, 1) := by decide +kernel
theorem dX5_hearAll_3 : decode cX5_hearAll 3 = .ok (.aload_n 1, 1) := by decide +kernel
theorem dX5_hearAll_4 : decode cX5_hearAll 4 = .ok (.getfield 100, 3) := by decide +kernel
theorem dX5_hearAll_7 : decode cX5_hearAll 7 = .ok (.if_icmp .ge 69, 3) := by decide +kernel
theorem dX5_hearAll_10 : decode cX5_hearAll 10 = .ok (.aload_n 0, 1) := by decide +kernel
theorem dX5_hearAll_11 : decode cX5_hearAll 11 = .ok (.getfield 29, 3) := by decide +kernel
theorem dX5_hearAll_14 : decode cX5_hearAll 14 = .ok (.iload_n 2, 1) := by decide +kernel
theorem dX5_hearAll_15 : decode cX5_hearAll 15 = .ok (.iaload, 1) := by decide +kernel
theorem dX5_hearAll_16 : decode cX5_hearAll 16 = .ok (.aload_n 0, 1) := by decide +kernel
theorem dX5_hearAll_17 : decode cX5_hearAll 17 = .ok (.getfield 12, 3) := by decide +kernel
theorem dX5_hearAll_20 : decode cX5_hearAll 20 = .ok (.getfield 76, 3) := by decide +kernel
theorem dX5_hearAll_23 : decode cX5_hearAll 23 = .ok (.if_icmp .ne 47, 3) := by decide +kernel
theorem dX5_hearAll_26 : decode cX5_hearAll 26 = .ok (.aload_n 0, 1) := by decide +kernel
theorem dX5_hearAll_27 : decode cX5_hearAll 27 = .ok (.getfield 46, 3) := by decide +kernel
theorem dX5_hearAll_30 : decode cX5_hearAll 30 = .ok (.iload_n 2, 1) := by decide +kernel
theorem dX5_hearAll_31 : decode cX5_hearAll 31 = .ok (.invokestatic 103, 3) := by decide +kernel
theorem dX5_hearAll_34 : decode cX5_hearAll 34 = .ok (.ifCond .ne 36, 3) := by decide +kernel
theorem dX5_hearAll_37 : decode cX5_hearAll 37 = .ok (.aload_n 0, 1) := by decide +kernel
theorem dX5_hearAll_38 : decode cX5_hearAll 38 = .ok (.aload_n 0, 1) := by decide +kernel
theorem dX5_hearAll_39 : decode cX5_hearAll 39 = .ok (.getfield 46, 3) := by decide +kernel
theorem dX5_hearAll_42 : decode cX5_hearAll 42 = .ok (.iload_n 2, 1) := by decide +kernel
theorem dX5_hearAll_43 : decode cX5_hearAll 43 = .ok (.iconst 1, 1) := by decide +kernel
theorem dX5_hearAll_44 : decode cX5_hearAll 44 = .ok (.invokestatic 107, 3) := by decide +kernel
theorem dX5_hearAll_47 : decode cX5_hearAll 47 = .ok (.putfield 46, 3) := by decide +kernel
theorem dX5_hearAll_50 : decode cX5_hearAll 50 = .ok (.aload_n 0, 1) := by decide +kernel
theorem dX5_hearAll_51 : decode cX5_hearAll 51 = .ok (.ldc 111, 2) := by decide +kernel
theorem dX5_hearAll_53 : decode cX5_hearAll 53 = .ok (.aload_n 0, 1) := by decide +kernel
theorem dX5_hearAll_54 : decode cX5_hearAll 54 = .ok (.getfield 49, 3) := by decide +kernel
theorem dX5_hearAll_57 : decode cX5_hearAll 57 = .ok (.aload_n 1, 1) := by decide +kernel
theorem dX5_hearAll_58 : decode cX5_hearAll 58 = .ok (.getfield 112, 3) := by decide +kernel
theorem dX5_hearAll_61 : decode cX5_hearAll 61 = .ok (.iload_n 2, 1) := by decide +kernel
theorem dX5_hearAll_62 : decode cX5_hearAll 62 = .ok (.iaload, 1) := by decide +kernel
theorem dX5_hearAll_63 : decode cX5_hearAll 63 = .ok (.iadd, 1) := by decide +kernel
theorem dX5_hearAll_64 : decode cX5_hearAll 64 = .ok (.invokestatic 115, 3) := by decide +kernel
theorem dX5_hearAll_67 : decode cX5_hearAll 67 = .ok (.putfield 49, 3) := by decide +kernel
theorem dX5_hearAll_70 : decode cX5_hearAll 70 = .ok (.iinc 2 1, 3) := by decide +kernel
theorem dX5_hearAll_73 : decode cX5_hearAll 73 = .ok (.goto (-71), 3) := by decide +kernel
theorem dX5_hearAll_76 : decode cX5_hearAll 76 = .ok (.return_, 1) := by decide +kernel
theorem dX6_init_0 : decode cX6_init 0 = .ok (.aload_n 0, 1) := by decide +kernel
theorem dX6_init_1 : decode cX6_init 1 = .ok (.invokespecial 3, 3) := by decide +kernel
theorem dX6_init_4 : decode cX6_init 4 = .ok (.aload_n 0, 1) := by decide +kernel
theorem dX6_init_5 : decode cX6_init 5 = .ok (.iconst (-1), 1) := by decide +kernel
theorem dX6_init_6 : decode cX6_init 6 = .ok (.putfield 9, 3) := by decide +kernel
theorem dX6_init_9 : decode cX6_init 9 = .ok (.aload_n 0, 1) := by decide +kernel
theorem dX6_init_10 : decode cX6_init 10 = .ok (.new 15, 3) := by decide +kernel
theorem dX6_init_13 : decode cX6_init 13 = .ok (.dup, 1) := by decide +kernel
theorem dX6_init_14 : decode cX6_init 14 = .ok (.invokespecial 17, 3) := by decide +kernel
theorem dX6_init_17 : decode cX6_init 17 = .ok (.putfield 18, 3) := by decide +kernel
theorem dX6_init_20 : decode cX6_init 20 = .ok (.aload_n 0, 1) := by decide +kernel
theorem dX6_init_21 : decode cX6_init 21 = .ok (.sipush 240, 3) := by decide +kernel
theorem dX6_init_24 : decode cX6_init 24 = .ok (.newarray .int, 2) := by decide +kernel
theorem dX6_init_26 : decode cX6_init 26 = .ok (.putfield 22, 3) := by decide +kernel
theorem dX6_init_29 : decode cX6_init 29 = .ok (.return_, 1) := by decide +kernel
theorem dX6_add_0 : decode cX6_add 0 = .ok (.aload_n 0, 1) := by decide +kernel
theorem dX6_add_1 : decode cX6_add 1 = .ok (.getfield 26, 3) := by decide +kernel
theorem dX6_add_4 : decode cX6_add 4 = .ok (.sipush 240, 3) := by decide +kernel
theorem dX6_add_7 : decode cX6_add 7 = .ok (.if_icmp .ge 23, 3) := by decide +kernel
theorem dX6_add_10 : decode cX6_add 10 = .ok (.aload_n 0, 1) := by decide +kernel
theorem dX6_add_11 : decode cX6_add 11 = .ok (.getfield 22, 3) := by decide +kernel
theorem dX6_add_14 : decode cX6_add 14 = .ok (.aload_n 0, 1) := by decide +kernel
theorem dX6_add_15 : decode cX6_add 15 = .ok (.getfield 26, 3) := by decide +kernel
theorem dX6_add_18 : decode cX6_add 18 = .ok (.iload_n 1, 1) := by decide +kernel
theorem dX6_add_19 : decode cX6_add 19 = .ok (.iastore, 1) := by decide +kernel
theorem dX6_add_20 : decode cX6_add 20 = .ok (.aload_n 0, 1) := by decide +kernel
theorem dX6_add_21 : decode cX6_add 21 = .ok (.dup, 1) := by decide +kernel
theorem dX6_add_22 : decode cX6_add 22 = .ok (.getfield 26, 3) := by decide +kernel
theorem dX6_add_25 : decode cX6_add 25 = .ok (.iconst 1, 1) := by decide +kernel
theorem dX6_add_26 : decode cX6_add 26 = .ok (.iadd, 1) := by decide +kernel
theorem dX6_add_27 : decode cX6_add 27 = .ok (.putfield 26, 3) := by decide +kernel
theorem dX6_add_30 : decode cX6_add 30 = .ok (.return_, 1) := by decide +kernel
theorem dX6_read_0 : decode cX6_read 0 = .ok (.aload_n 0, 1) := by decide +kernel
theorem dX6_read_1 : decode cX6_read 1 = .ok (.iconst 0, 1) := by decide +kernel
theorem dX6_read_2 : decode cX6_read 2 = .ok (.putfield 29, 3) := by decide +kernel
theorem dX6_read_5 : decode cX6_read 5 = .ok (.aload_n 0, 1) := by decide +kernel
theorem dX6_read_6 : decode cX6_read 6 = .ok (.iconst 0, 1) := by decide +kernel
theorem dX6_read_7 : decode cX6_read 7 = .ok (.putfield 32, 3) := by decide +kernel
theorem dX6_read_10 : decode cX6_read 10 = .ok (.aload_n 0, 1) := by decide +kernel
theorem dX6_read_11 : decode cX6_read 11 = .ok (.iconst (-1), 1) := by decide +kernel
theorem dX6_read_12 : decode cX6_read 12 = .ok (.putfield 9, 3) := by decide +kernel
theorem dX6_read_15 : decode cX6_read 15 = .ok (.aload_n 0, 1) := by decide +kernel
theorem dX6_read_16 : decode cX6_read 16 = .ok (.getfield 18, 3) := by decide +kernel
theorem dX6_read_19 : decode cX6_read 19 = .ok (.invokevirtual 35, 3) := by decide +kernel
theorem dX6_read_22 : decode cX6_read 22 = .ok (.aload_n 0, 1) := by decide +kernel
theorem dX6_read_23 : decode cX6_read 23 = .ok (.invokevirtual 38, 3) := by decide +kernel
theorem dX6_read_26 : decode cX6_read 26 = .ok (.iconst 0, 1) := by decide +kernel
theorem dX6_read_27 : decode cX6_read 27 = .ok (.istore_n 1, 1) := by decide +kernel
theorem dX6_read_28 : decode cX6_read 28 = .ok (.iload_n 1, 1) := by decide +kernel
theorem dX6_read_29 : decode cX6_read 29 = .ok (.sipush 240, 3) := by decide +kernel
theorem dX6_read_32 : decode cX6_read 32 = .ok (.if_icmp .ge 35, 3) := by decide +kernel
theorem dX6_read_35 : decode cX6_read 35 = .ok (.aload_n 0, 1) := by decide +kernel
theorem dX6_read_36 : decode cX6_read 36 = .ok (.getfield 29, 3) := by decide +kernel
theorem dX6_read_39 : decode cX6_read 39 = .ok (.aload_n 0, 1) := by decide +kernel
theorem dX6_read_40 : decode cX6_read 40 = .ok (.getfield 26, 3) := by decide +kernel
theorem dX6_read_43 : decode cX6_read 43 = .ok (.if_icmp .ge 24, 3) := by decide +kernel
theorem dX6_read_46 : decode cX6_read 46 = .ok (.aload_n 0, 1) := by decide +kernel
theorem dX6_read_47 : decode cX6_read 47 = .ok (.getfield 32, 3) := by decide +kernel
theorem dX6_read_50 : decode cX6_read 50 = .ok (.ifCond .ne 17, 3) := by decide +kernel
theorem dX6_read_53 : decode cX6_read 53 = .ok (.aload_n 0, 1) := by decide +kernel
theorem dX6_read_54 : decode cX6_read 54 = .ok (.invokevirtual 41, 3) := by decide +kernel
theorem dX6_read_57 : decode cX6_read 57 = .ok (.aload_n 0, 1) := by decide +kernel
theorem dX6_read_58 : decode cX6_read 58 = .ok (.invokevirtual 38, 3) := by decide +kernel
theorem dX6_read_61 : decode cX6_read 61 = .ok (.iinc 1 1, 3) := by decide +kernel
theorem dX6_read_64 : decode cX6_read 64 = .ok (.goto (-36), 3) := by decide +kernel
theorem dX6_read_67 : decode cX6_read 67 = .ok (.return_, 1) := by decide +kernel
theorem dX6_readClause_0 : decode cX6_readClause 0 = .ok (.aload_n 0, 1) := by decide +kernel
theorem dX6_readClause_1 : decode cX6_readClause 1 = .ok (.getfield 22, 3) := by decide +kernel
theorem dX6_readClause_4 : decode cX6_readClause 4 = .ok (.aload_n 0, 1) := by decide +kernel
theorem dX6_readClause_5 : decode cX6_readClause 5 = .ok (.getfield 29, 3) := by decide +kernel
theorem dX6_readClause_8 : decode cX6_readClause 8 = .ok (.iaload, 1) := by decide +kernel
theorem dX6_readClause_9 : decode cX6_readClause 9 = .ok (.istore_n 1, 1) := by decide +kernel
theorem dX6_readClause_10 : decode cX6_readClause 10 = .ok (.aload_n 0, 1) := by decide +kernel
theorem dX6_readClause_11 : decode cX6_readClause 11 = .ok (.getfield 18, 3) := by decide +kernel
theorem dX6_readClause_14 : decode cX6_readClause 14 = .ok (.getfield 44, 3) := by decide +kernel
theorem dX6_readClause_17 : decode cX6_readClause 17 = .ok (.ifCond .ne 19, 3) := by decide +kernel
theorem dX6_readClause_20 : decode cX6_readClause 20 = .ok (.iload_n 1, 1) := by decide +kernel
theorem dX6_readClause_21 : decode cX6_readClause 21 = .ok (.bipush 115, 2) := by decide +kernel
theorem dX6_readClause_23 : decode cX6_readClause 23 = .ok (.if_icmp .eq 13, 3) := by decide +kernel
theorem dX6_readClause_26 : decode cX6_readClause 26 = .ok (.aload_n 0, 1) := by decide +kernel
theorem dX6_readClause_27 : decode cX6_readClause 27 = .ok (.iconst 1, 1) := by decide +kernel
theorem dX6_readClause_28 : decode cX6_readClause 28 = .ok (.aload_n 0, 1) := by decide +kernel
theorem dX6_readClause_29 : decode cX6_readClause 29 = .ok (.getfield 29, 3) := by decide +kernel
theorem dX6_readClause_32 : decode cX6_readClause 32 = .ok (.invokevirtual 48, 3) := by decide +kernel
theorem dX6_readClause_35 : decode cX6_readClause 35 = .ok (.return_, 1) := by decide +kernel
theorem dX6_readClause_36 : decode cX6_readClause 36 = .ok (.iload_n 1, 1) := by decide +kernel
theorem dX6_readClause_37 : decode cX6_readClause 37 = .ok (.lookupswitch 71 #[(100, 57), (112, 64), (114, 50), (115, 43)], 43) := by decide +kernel
theorem dX6_readClause_80 : decode cX6_readClause 80 = .ok (.aload_n 0, 1) := by decide +kernel
theorem dX6_readClause_81 : decode cX6_readClause 81 = .ok (.invokevirtual 52, 3) := by decide +kernel
theorem dX6_readClause_84 : decode cX6_readClause 84 = .ok (.goto 33, 3) := by decide +kernel
theorem dX6_readClause_87 : decode cX6_readClause 87 = .ok (.aload_n 0, 1) := by decide +kernel
theorem dX6_readClause_88 : decode cX6_readClause 88 = .ok (.invokevirtual 55, 3) := by decide +kernel
theorem dX6_readClause_91 : decode cX6_readClause 91 = .ok (.goto 26, 3) := by decide +kernel
theorem dX6_readClause_94 : decode cX6_readClause 94 = .ok (.aload_n 0, 1) := by decide +kernel
theorem dX6_readClause_95 : decode cX6_readClause 95 = .ok (.invokevirtual 58, 3) := by decide +kernel
theorem dX6_readClause_98 : decode cX6_readClause 98 = .ok (.goto 19, 3) := by decide +kernel
theorem dX6_readClause_101 : decode cX6_readClause 101 = .ok (.aload_n 0, 1) := by decide +kernel
theorem dX6_readClause_102 : decode cX6_readClause 102 = .ok (.invokevirtual 61, 3) := by decide +kernel
theorem dX6_readClause_105 : decode cX6_readClause 105 = .ok (.goto 12, 3) := by decide +kernel
theorem dX6_readClause_108 : decode cX6_readClause 108 = .ok (.aload_n 0, 1) := by decide +kernel
theorem dX6_readClause_109 : decode cX6_readClause 109 = .ok (.iconst 1, 1) := by decide +kernel
theorem dX6_readClause_110 : decode cX6_readClause 110 = .ok (.aload_n 0, 1) := by decide +kernel
theorem dX6_readClause_111 : decode cX6_readClause 111 = .ok (.getfield 29, 3) := by decide +kernel
theorem dX6_readClause_114 : decode cX6_readClause 114 = .ok (.invokevirtual 48, 3) := by decide +kernel
theorem dX6_readClause_117 : decode cX6_readClause 117 = .ok (.return_, 1) := by decide +kernel
theorem dX6_readRule_0 : decode cX6_readRule 0 = .ok (.aload_n 0, 1) := by decide +kernel
theorem dX6_readRule_1 : decode cX6_readRule 1 = .ok (.aload_n 0, 1) := by decide +kernel
theorem dX6_readRule_2 : decode cX6_readRule 2 = .ok (.getfield 18, 3) := by decide +kernel
theorem dX6_readRule_5 : decode cX6_readRule 5 = .ok (.getfield 44, 3) := by decide +kernel
theorem dX6_readRule_8 : decode cX6_readRule 8 = .ok (.invokevirtual 64, 3) := by decide +kernel
theorem dX6_readRule_11 : decode cX6_readRule 11 = .ok (.aload_n 0, 1) := by decide +kernel
theorem dX6_readRule_12 : decode cX6_readRule 12 = .ok (.bipush 63, 2) := by decide +kernel
theorem dX6_readRule_14 : decode cX6_readRule 14 = .ok (.invokevirtual 68, 3) := by decide +kernel
theorem dX6_readRule_17 : decode cX6_readRule 17 = .ok (.istore_n 1, 1) := by decide +kernel
theorem dX6_readRule_18 : decode cX6_readRule 18 = .ok (.aload_n 0, 1) := by decide +kernel
theorem dX6_readRule_19 : decode cX6_readRule 19 = .ok (.invokevirtual 72, 3) := by decide +kernel
theorem dX6_readRule_22 : decode cX6_readRule 22 = .ok (.aload_n 0, 1) := by decide +kernel
theorem dX6_readRule_23 : decode cX6_readRule 23 = .ok (.getfield 32, 3) := by decide +kernel
theorem dX6_readRule_26 : decode cX6_readRule 26 = .ok (.ifCond .ne 19, 3) := by decide +kernel
theorem dX6_readRule_29 : decode cX6_readRule 29 = .ok (.aload_n 0, 1) := by decide +kernel
theorem dX6_readRule_30 : decode cX6_readRule 30 = .ok (.getfield 18, 3) := by decide +kernel
theorem dX6_readRule_33 : decode cX6_readRule 33 = .ok (.iload_n 1, 1) := by decide +kernel
theorem dX6_readRule_34 : decode cX6_readRule 34 = .ok (.putfield 75, 3) := by decide +kernel
theorem dX6_readRule_37 : decode cX6_readRule 37 = .ok (.aload_n 0, 1) := by decide +kernel
theorem dX6_readRule_38 : decode cX6_readRule 38 = .ok (.getfield 18, 3) := by decide +kernel
theorem dX6_readRule_41 : decode cX6_readRule 41 = .ok (.iconst 1, 1) := by decide +kernel
theorem dX6_readRule_42 : decode cX6_readRule 42 = .ok (.putfield 44, 3) := by decide +kernel
theorem dX6_readRule_45 : decode cX6_readRule 45 = .ok (.return_, 1) := by decide +kernel
theorem dX6_readRoom_0 : decode cX6_readRoom 0 = .ok (.aload_n 0, 1) := by decide +kernel
theorem dX6_readRoom_1 : decode cX6_readRoom 1 = .ok (.aload_n 0, 1) := by decide +kernel
theorem dX6_readRoom_2 : decode cX6_readRoom 2 = .ok (.getfield 18, 3) := by decide +kernel
theorem dX6_readRoom_5 : decode cX6_readRoom 5 = .ok (.getfield 78, 3) := by decide +kernel
theorem dX6_readRoom_8 : decode cX6_readRoom 8 = .ok (.bipush 8, 2) := by decide +kernel
theorem dX6_readRoom_10 : decode cX6_readRoom 10 = .ok (.if_icmp .lt 7, 3) := by decide +kernel
theorem dX6_readRoom_13 : decode cX6_readRoom 13 = .ok (.iconst 1, 1) := by decide +kernel
theorem dX6_readRoom_14 : decode cX6_readRoom 14 = .ok (.goto 4, 3) := by decide +kernel
theorem dX6_readRoom_17 : decode cX6_readRoom 17 = .ok (.iconst 0, 1) := by decide +kernel
theorem dX6_readRoom_18 : decode cX6_readRoom 18 = .ok (.invokevirtual 64, 3) := by decide +kernel
theorem dX6_readRoom_21 : decode cX6_readRoom 21 = .ok (.aload_n 0, 1) := by decide +kernel
theorem dX6_readRoom_22 : decode cX6_readRoom 22 = .ok (.bipush 9, 2) := by decide +kernel
theorem dX6_readRoom_24 : decode cX6_readRoom 24 = .ok (.invokevirtual 68, 3) := by decide +kernel
theorem dX6_readRoom_27 : decode cX6_readRoom 27 = .ok (.istore_n 1, 1) := by decide +kernel
theorem dX6_readRoom_28 : decode cX6_readRoom 28 = .ok (.aload_n 0, 1) := by decide +kernel
theorem dX6_readRoom_29 : decode cX6_readRoom 29 = .ok (.iconst 1, 1) := by decide +kernel
theorem dX6_readRoom_30 : decode cX6_readRoom 30 = .ok (.invokevirtual 68, 3) := by decide +kernel
theorem dX6_readRoom_33 : decode cX6_readRoom 33 = .ok (.istore_n 2, 1) := by decide +kernel
theorem dX6_readRoom_34 : decode cX6_readRoom 34 = .ok (.aload_n 0, 1) := by decide +kernel
theorem dX6_readRoom_35 : decode cX6_readRoom 35 = .ok (.invokevirtual 72, 3) := by decide +kernel
theorem dX6_readRoom_38 : decode cX6_readRoom 38 = .ok (.aload_n 0, 1) := by decide +kernel
theorem dX6_readRoom_39 : decode cX6_readRoom 39 = .ok (.getfield 32, 3) := by decide +kernel
theorem dX6_readRoom_42 : decode cX6_readRoom 42 = .ok (.ifCond .ne 12, 3) := by decide +kernel
theorem dX6_readRoom_45 : decode cX6_readRoom 45 = .ok (.aload_n 0, 1) := by decide +kernel
theorem dX6_readRoom_46 : decode cX6_readRoom 46 = .ok (.getfield 18, 3) := by decide +kernel
theorem dX6_readRoom_49 : decode cX6_readRoom 49 = .ok (.iload_n 1, 1) := by decide +kernel
theorem dX6_readRoom_50 : decode cX6_readRoom 50 = .ok (.iload_n 2, 1) := by decide +kernel
theorem dX6_readRoom_51 : decode cX6_readRoom 51 = .ok (.invokevirtual 81, 3) := by decide +kernel
theorem dX6_readRoom_54 : decode cX6_readRoom 54 = .ok (.return_, 1) := by decide +kernel
theorem dX6_readDoor_0 : decode cX6_readDoor 0 = .ok (.aload_n 0, 1) := by decide +kernel
theorem dX6_readDoor_1 : decode cX6_readDoor 1 = .ok (.aload_n 0, 1) := by decide +kernel
theorem dX6_readDoor_2 : decode cX6_readDoor 2 = .ok (.getfield 18, 3) := by decide +kernel
theorem dX6_readDoor_5 : decode cX6_readDoor 5 = .ok (.getfield 84, 3) := by decide +kernel
theorem dX6_readDoor_8 : decode cX6_readDoor 8 = .ok (.bipush 12, 2) := by decide +kernel
theorem dX6_readDoor_10 : decode cX6_readDoor 10 = .ok (.if_icmp .lt 7, 3) := by decide +kernel
theorem dX6_readDoor_13 : decode cX6_readDoor 13 = .ok (.iconst 1, 1) := by decide +kernel
theorem dX6_readDoor_14 : decode cX6_readDoor 14 = .ok (.goto 4, 3) := by decide +kernel
theorem dX6_readDoor_17 : decode cX6_readDoor 17 = .ok (.iconst 0, 1) := by decide +kernel
theorem dX6_readDoor_18 : decode cX6_readDoor 18 = .ok (.invokevirtual 64, 3) := by decide +kernel
theorem dX6_readDoor_21 : decode cX6_readDoor 21 = .ok (.aload_n 0, 1) := by decide +kernel
theorem dX6_readDoor_22 : decode cX6_readDoor 22 = .ok (.aload_n 0, 1) := by decide +kernel
theorem dX6_readDoor_23 : decode cX6_readDoor 23 = .ok (.getfield 18, 3) := by decide +kernel
theorem dX6_readDoor_26 : decode cX6_readDoor 26 = .ok (.getfield 78, 3) := by decide +kernel
theorem dX6_readDoor_29 : decode cX6_readDoor 29 = .ok (.iconst 1, 1) := by decide +kernel
theorem dX6_readDoor_30 : decode cX6_readDoor 30 = .ok (.isub, 1) := by decide +kernel
theorem dX6_readDoor_31 : decode cX6_readDoor 31 = .ok (.invokevirtual 68, 3) := by decide +kernel
theorem dX6_readDoor_34 : decode cX6_readDoor 34 = .ok (.istore_n 1, 1) := by decide +kernel
theorem dX6_readDoor_35 : decode cX6_readDoor 35 = .ok (.aload_n 0, 1) := by decide +kernel
theorem dX6_readDoor_36 : decode cX6_readDoor 36 = .ok (.aload_n 0, 1) := by decide +kernel
theorem dX6_readDoor_37 : decode cX6_readDoor 37 = .ok (.getfield 18, 3) := by decide +kernel
theorem dX6_readDoor_40 : decode cX6_readDoor 40 = .ok (.getfield 78, 3) := by decide +kernel
theorem dX6_readDoor_43 : decode cX6_readDoor 43 = .ok (.iconst 1, 1) := by decide +kernel
theorem dX6_readDoor_44 : decode cX6_readDoor 44 = .ok (.isub, 1) := by decide +kernel
theorem dX6_readDoor_45 : decode cX6_readDoor 45 = .ok (.invokevirtual 68, 3) := by decide +kernel
theorem dX6_readDoor_48 : decode cX6_readDoor 48 = .ok (.istore_n 2, 1) := by decide +kernel
theorem dX6_readDoor_49 : decode cX6_readDoor 49 = .ok (.aload_n 0, 1) := by decide +kernel
theorem dX6_readDoor_50 : decode cX6_readDoor 50 = .ok (.getfield 32, 3) := by decide +kernel
theorem dX6_readDoor_53 : decode cX6_readDoor 53 = .ok (.ifCond .ne 29, 3) := by decide +kernel
theorem dX6_readDoor_56 : decode cX6_readDoor 56 = .ok (.iload_n 1, 1) := by decide +kernel
theorem dX6_readDoor_57 : decode cX6_readDoor 57 = .ok (.iload_n 2, 1) := by decide +kernel
theorem dX6_readDoor_58 : decode cX6_readDoor 58 = .ok (.if_icmp .eq 15, 3) := by decide +kernel
theorem dX6_readDoor_61 : decode cX6_readDoor 61 = .ok (.aload_n 0, 1) := by decide +kernel
theorem dX6_readDoor_62 : decode cX6_readDoor 62 = .ok (.getfield 18, 3) := by decide +kernel
theorem dX6_readDoor_65 : decode cX6_readDoor 65 = .ok (.iload_n 1, 1) := by decide +kernel
theorem dX6_readDoor_66 : decode cX6_readDoor 66 = .ok (.iload_n 2, 1) := by decide +kernel
theorem dX6_readDoor_67 : decode cX6_readDoor 67 = .ok (.invokevirtual 87, 3) := by decide +kernel
theorem dX6_readDoor_70 : decode cX6_readDoor 70 = .ok (.ifCond .eq 12, 3) := by decide +kernel
theorem dX6_readDoor_73 : decode cX6_readDoor 73 = .ok (.aload_n 0, 1) := by decide +kernel
theorem dX6_readDoor_74 : decode cX6_readDoor 74 = .ok (.iconst 4, 1) := by decide +kernel
theorem dX6_readDoor_75 : decode cX6_readDoor 75 = .ok (.aload_n 0, 1) := by decide +kernel
theorem dX6_readDoor_76 : decode cX6_readDoor 76 = .ok (.getfield 91, 3) := by decide +kernel
theorem dX6_readDoor_79 : decode cX6_readDoor 79 = .ok (.invokevirtual 48, 3) := by decide +kernel
theorem dX6_readDoor_82 : decode cX6_readDoor 82 = .ok (.aload_n 0, 1) := by decide +kernel
theorem dX6_readDoor_83 : decode cX6_readDoor 83 = .ok (.invokevirtual 72, 3) := by decide +kernel
theorem dX6_readDoor_86 : decode cX6_readDoor 86 = .ok (.aload_n 0, 1) := by decide +kernel
theorem dX6_readDoor_87 : decode cX6_readDoor 87 = .ok (.getfield 32, 3) := by decide +kernel
theorem dX6_readDoor_90 : decode cX6_readDoor 90 = .ok (.ifCond .ne 12, 3) := by decide +kernel
theorem dX6_readDoor_93 : decode cX6_readDoor 93 = .ok (.aload_n 0, 1) := by decide +kernel
theorem dX6_readDoor_94 : decode cX6_readDoor 94 = .ok (.getfield 18, 3) := by decide +kernel
theorem dX6_readDoor_97 : decode cX6_readDoor 97 = .ok (.iload_n 1, 1) := by decide +kernel
theorem dX6_readDoor_98 : decode cX6_readDoor 98 = .ok (.iload_n 2, 1) := by decide +kernel
theorem dX6_readDoor_99 : decode cX6_readDoor 99 = .ok (.invokevirtual 94, 3) := by decide +kernel
theorem dX6_readDoor_102 : decode cX6_readDoor 102 = .ok (.return_, 1) := by decide +kernel
theorem dX6_readPetition_0 : decode cX6_readPetition 0 = .ok (.aload_n 0, 1) := by decide +kernel
theorem dX6_readPetition_1 : decode cX6_readPetition 1 = .ok (.aload_n 0, 1) := by decide +kernel
theorem dX6_readPetition_2 : decode cX6_readPetition 2 = .ok (.getfield 18, 3) := by decide +kernel
theorem dX6_readPetition_5 : decode cX6_readPetition 5 = .ok (.getfield 97, 3) := by decide +kernel
theorem dX6_readPetition_8 : decode cX6_readPetition 8 = .ok (.bipush 6, 2) := by decide +kernel
theorem dX6_readPetition_10 : decode cX6_readPetition 10 = .ok (.if_icmp .lt 7, 3) := by decide +kernel
theorem dX6_readPetition_13 : decode cX6_readPetition 13 = .ok (.iconst 1, 1) := by decide +kernel
theorem dX6_readPetition_14 : decode cX6_readPetition 14 = .ok (.goto 4, 3) := by decide +kernel
theorem dX6_readPetition_17 : decode cX6_readPetition 17 = .ok (.iconst 0, 1) := by decide +kernel
theorem dX6_readPetition_18 : decode cX6_readPetition 18 = .ok (.invokevirtual 64, 3) := by decide +kernel
theorem dX6_readPetition_21 : decode cX6_readPetition 21 = .ok (.aload_n 0, 1) := by decide +kernel
theorem dX6_readPetition_22 : decode cX6_readPetition 22 = .ok (.aload_n 0, 1) := by decide +kernel
theorem dX6_readPetition_23 : decode cX6_readPetition 23 = .ok (.getfield 18, 3) := by decide +kernel
theorem dX6_readPetition_26 : decode cX6_readPetition 26 = .ok (.getfield 78, 3) := by decide +kernel
theorem dX6_readPetition_29 : decode cX6_readPetition 29 = .ok (.iconst 1, 1) := by decide +kernel
theorem dX6_readPetition_30 : decode cX6_readPetition 30 = .ok (.isub, 1) := by decide +kernel
theorem dX6_readPetition_31 : decode cX6_readPetition 31 = .ok (.invokevirtual 68, 3) := by decide +kernel
theorem dX6_readPetition_34 : decode cX6_readPetition 34 = .ok (.istore_n 1, 1) := by decide +kernel
theorem dX6_readPetition_35 : decode cX6_readPetition 35 = .ok (.aload_n 0, 1) := by decide +kernel
theorem dX6_readPetition_36 : decode cX6_readPetition 36 = .ok (.bipush 99, 2) := by decide +kernel
theorem dX6_readPetition_38 : decode cX6_readPetition 38 = .ok (.invokevirtual 68, 3) := by decide +kernel
theorem dX6_readPetition_41 : decode cX6_readPetition 41 = .ok (.istore_n 2, 1) := by decide +kernel
theorem dX6_readPetition_42 : decode cX6_readPetition 42 = .ok (.aload_n 0, 1) := by decide +kernel
theorem dX6_readPetition_43 : decode cX6_readPetition 43 = .ok (.invokevirtual 72, 3) := by decide +kernel
theorem dX6_readPetition_46 : decode cX6_readPetition 46 = .ok (.aload_n 0, 1) := by decide +kernel
theorem dX6_readPetition_47 : decode cX6_readPetition 47 = .ok (.getfield 32, 3) := by decide +kernel
theorem dX6_readPetition_50 : decode cX6_readPetition 50 = .ok (.ifCond .ne 12, 3) := by decide +kernel
theorem dX6_readPetition_53 : decode cX6_readPetition 53 = .ok (.aload_n 0, 1) := by decide +kernel
theorem dX6_readPetition_54 : decode cX6_readPetition 54 = .ok (.getfield 18, 3) := by decide +kernel
theorem dX6_readPetition_57 : decode cX6_readPetition 57 = .ok (.iload_n 1, 1) := by decide +kernel
theorem dX6_readPetition_58 : decode cX6_readPetition 58 = .ok (.iload_n 2, 1) := by decide +kernel
theorem dX6_readPetition_59 : decode cX6_readPetition 59 = .ok (.invokevirtual 100, 3) := by decide +kernel
theorem dX6_readPetition_62 : decode cX6_readPetition 62 = .ok (.return_, 1) := by decide +kernel
theorem dX6_readWord_0 : decode cX6_readWord 0 = .ok (.iload_n 1, 1) := by decide +kernel
theorem dX6_readWord_1 : decode cX6_readWord 1 = .ok (.ifCond .eq 12, 3) := by decide +kernel
theorem dX6_readWord_4 : decode cX6_readWord 4 = .ok (.aload_n 0, 1) := by decide +kernel
theorem dX6_readWord_5 : decode cX6_readWord 5 = .ok (.iconst 3, 1) := by decide +kernel
theorem dX6_readWord_6 : decode cX6_readWord 6 = .ok (.aload_n 0, 1) := by decide +kernel
theorem dX6_readWord_7 : decode cX6_readWord 7 = .ok (.getfield 29, 3) := by decide +kernel
theorem dX6_readWord_10 : decode cX6_readWord 10 = .ok (.invokevirtual 48, 3) := by decide +kernel
theorem dX6_readWord_13 : decode cX6_readWord 13 = .ok (.aload_n 0, 1) := by decide +kernel
theorem dX6_readWord_14 : decode cX6_readWord 14 = .ok (.dup, 1) := by decide +kernel
theorem dX6_readWord_15 : decode cX6_readWord 15 = .ok (.getfield 29, 3) := by decide +kernel
theorem dX6_readWord_18 : decode cX6_readWord 18 = .ok (.iconst 1, 1) := by decide +kernel
theorem dX6_readWord_19 : decode cX6_readWord 19 = .ok (.iadd, 1) := by decide +kernel
theorem dX6_readWord_20 : decode cX6_readWord 20 = .ok (.putfield 29, 3) := by decide +kernel
theorem dX6_readWord_23 : decode cX6_readWord 23 = .ok (.return_, 1) := by decide +kernel
theorem dX6_readNumber_0 : decode cX6_readNumber 0 = .ok (.aload_n 0, 1) := by decide +kernel
theorem dX6_readNumber_1 : decode cX6_readNumber 1 = .ok (.getfield 32, 3) := by decide +kernel
theorem dX6_readNumber_4 : decode cX6_readNumber 4 = .ok (.ifCond .eq 5, 3) := by decide +kernel
theorem dX6_readNumber_7 : decode cX6_readNumber 7 = .ok (.iconst 0, 1) := by decide +kernel
theorem dX6_readNumber_8 : decode cX6_readNumber 8 = .ok (.ireturn, 1) := by decide +kernel
theorem dX6_readNumber_9 : decode cX6_readNumber 9 = .ok (.aload_n 0, 1) := by decide +kernel
theorem dX6_readNumber_10 : decode cX6_readNumber 10 = .ok (.invokevirtual 38, 3) := by decide +kernel
theorem dX6_readNumber_13 : decode cX6_readNumber 13 = .ok (.aload_n 0, 1) := by decide +kernel
theorem dX6_readNumber_14 : decode cX6_readNumber 14 = .ok (.aload_n 0, 1) := by decide +kernel
theorem dX6_readNumber_15 : decode cX6_readNumber 15 = .ok (.getfield 29, 3) := by decide +kernel
theorem dX6_readNumber_18 : decode cX6_readNumber 18 = .ok (.putfield 91, 3) := by decide +kernel
theorem dX6_readNumber_21 : decode cX6_readNumber 21 = .ok (.iconst 0, 1) := by decide +kernel
theorem dX6_readNumber_22 : decode cX6_readNumber 22 = .ok (.istore_n 2, 1) := by decide +kernel
theorem dX6_readNumber_23 : decode cX6_readNumber 23 = .ok (.aload_n 0, 1) := by decide +kernel
theorem dX6_readNumber_24 : decode cX6_readNumber 24 = .ok (.getfield 29, 3) := by decide +kernel
theorem dX6_readNumber_27 : decode cX6_readNumber 27 = .ok (.aload_n 0, 1) := by decide +kernel
theorem dX6_readNumber_28 : decode cX6_readNumber 28 = .ok (.getfield 26, 3) := by decide +kernel
theorem dX6_readNumber_31 : decode cX6_readNumber 31 = .ok (.if_icmp .ge 79, 3) := by decide +kernel
theorem dX6_readNumber_34 : decode cX6_readNumber 34 = .ok (.aload_n 0, 1) := by decide +kernel
theorem dX6_readNumber_35 : decode cX6_readNumber 35 = .ok (.getfield 22, 3) := by decide +kernel
theorem dX6_readNumber_38 : decode cX6_readNumber 38 = .ok (.aload_n 0, 1) := by decide +kernel
theorem dX6_readNumber_39 : decode cX6_readNumber 39 = .ok (.getfield 29, 3) := by decide +kernel
theorem dX6_readNumber_42 : decode cX6_readNumber 42 = .ok (.iaload, 1) := by decide +kernel
theorem dX6_readNumber_43 : decode cX6_readNumber 43 = .ok (.bipush 48, 2) := by decide +kernel
theorem dX6_readNumber_45 : decode cX6_readNumber 45 = .ok (.if_icmp .lt 65, 3) := by decide +kernel
theorem dX6_readNumber_48 : decode cX6_readNumber 48 = .ok (.aload_n 0, 1) := by decide +kernel
theorem dX6_readNumber_49 : decode cX6_readNumber 49 = .ok (.getfield 22, 3) := by decide +kernel
theorem dX6_readNumber_52 : decode cX6_readNumber 52 = .ok (.aload_n 0, 1) := by decide +kernel
theorem dX6_readNumber_53 : decode cX6_readNumber 53 = .ok (.getfield 29, 3) := by decide +kernel
theorem dX6_readNumber_56 : decode cX6_readNumber 56 = .ok (.iaload, 1) := by decide +kernel
theorem dX6_readNumber_57 : decode cX6_readNumber 57 = .ok (.bipush 57, 2) := by decide +kernel
theorem dX6_readNumber_59 : decode cX6_readNumber 59 = .ok (.if_icmp .gt 51, 3) := by decide +kernel
theorem dX6_readNumber_62 : decode cX6_readNumber 62 = .ok (.aload_n 0, 1) := by decide +kernel
theorem dX6_readNumber_63 : decode cX6_readNumber 63 = .ok (.getfield 29, 3) := by decide +kernel
theorem dX6_readNumber_66 : decode cX6_readNumber 66 = .ok (.aload_n 0, 1) := by decide +kernel
theorem dX6_readNumber_67 : decode cX6_readNumber 67 = .ok (.getfield 91, 3) := by decide +kernel
theorem dX6_readNumber_70 : decode cX6_readNumber 70 = .ok (.isub, 1) := by decide +kernel
theorem dX6_readNumber_71 : decode cX6_readNumber 71 = .ok (.iconst 3, 1) := by decide +kernel
theorem dX6_readNumber_72 : decode cX6_readNumber 72 = .ok (.if_icmp .ge 23, 3) := by decide +kernel
theorem dX6_readNumber_75 : decode cX6_readNumber 75 = .ok (.iload_n 2, 1) := by decide +kernel
theorem dX6_readNumber_76 : decode cX6_readNumber 76 = .ok (.bipush 10, 2) := by decide +kernel
theorem dX6_readNumber_78 : decode cX6_readNumber 78 = .ok (.imul, 1) := by decide +kernel
theorem dX6_readNumber_79 : decode cX6_readNumber 79 = .ok (.aload_n 0, 1) := by decide +kernel
theorem dX6_readNumber_80 : decode cX6_readNumber 80 = .ok (.getfield 22, 3) := by decide +kernel
theorem dX6_readNumber_83 : decode cX6_readNumber 83 = .ok (.aload_n 0, 1) := by decide +kernel
theorem dX6_readNumber_84 : decode cX6_readNumber 84 = .ok (.getfield 29, 3) := by decide +kernel
theorem dX6_readNumber_87 : decode cX6_readNumber 87 = .ok (.iaload, 1) := by decide +kernel
theorem dX6_readNumber_88 : decode cX6_readNumber 88 = .ok (.iadd, 1) := by decide +kernel
theorem dX6_readNumber_89 : decode cX6_readNumber 89 = .ok (.bipush 48, 2) := by decide +kernel
theorem dX6_readNumber_91 : decode cX6_readNumber 91 = .ok (.isub, 1) := by decide +kernel
theorem dX6_readNumber_92 : decode cX6_readNumber 92 = .ok (.goto 4, 3) := by decide +kernel
theorem dX6_readNumber_95 : decode cX6_readNumber 95 = .ok (.iload_n 2, 1) := by decide +kernel
theorem dX6_readNumber_96 : decode cX6_readNumber 96 = .ok (.istore_n 2, 1) := by decide +kernel
theorem dX6_readNumber_97 : decode cX6_readNumber 97 = .ok (.aload_n 0, 1) := by decide +kernel
theorem dX6_readNumber_98 : decode cX6_readNumber 98 = .ok (.dup, 1) := by decide +kernel
theorem dX6_readNumber_99 : decode cX6_readNumber 99 = .ok (.getfield 29, 3) := by decide +kernel
theorem dX6_readNumber_102 : decode cX6_readNumber 102 = .ok (.iconst 1, 1) := by decide +kernel
theorem dX6_readNumber_103 : decode cX6_readNumber 103 = .ok (.iadd, 1) := by decide +kernel
theorem dX6_readNumber_104 : decode cX6_readNumber 104 = .ok (.putfield 29, 3) := by decide +kernel
theorem dX6_readNumber_107 : decode cX6_readNumber 107 = .ok (.goto (-84), 3) := by decide +kernel
theorem dX6_readNumber_110 : decode cX6_readNumber 110 = .ok (.aload_n 0, 1) := by decide +kernel
theorem dX6_readNumber_111 : decode cX6_readNumber 111 = .ok (.getfield 29, 3) := by decide +kernel
theorem dX6_readNumber_114 : decode cX6_readNumber 114 = .ok (.aload_n 0, 1) := by decide +kernel
theorem dX6_readNumber_115 : decode cX6_readNumber 115 = .ok (.getfield 91, 3) := by decide +kernel
theorem dX6_readNumber_118 : decode cX6_readNumber 118 = .ok (.isub, 1) := by decide +kernel
theorem dX6_readNumber_119 : decode cX6_readNumber 119 = .ok (.istore_n 3, 1) := by decide +kernel
theorem dX6_readNumber_120 : decode cX6_readNumber 120 = .ok (.iload_n 3, 1) := by decide +kernel
theorem dX6_readNumber_121 : decode cX6_readNumber 121 = .ok (.ifCond .ne 15, 3) := by decide +kernel
theorem dX6_readNumber_124 : decode cX6_readNumber 124 = .ok (.aload_n 0, 1) := by decide +kernel
theorem dX6_readNumber_125 : decode cX6_readNumber 125 = .ok (.iconst 1, 1) := by decide +kernel
theorem dX6_readNumber_126 : decode cX6_readNumber 126 = .ok (.aload_n 0, 1) := by decide +kernel
theorem dX6_readNumber_127 : decode cX6_readNumber 127 = .ok (.getfield 29, 3) := by decide +kernel
theorem dX6_readNumber_130 : decode cX6_readNumber 130 = .ok (.invokevirtual 48, 3) := by decide +kernel
theorem dX6_readNumber_133 : decode cX6_readNumber 133 = .ok (.goto 22, 3) := by decide +kernel
theorem dX6_readNumber_136 : decode cX6_readNumber 136 = .ok (.iload_n 3, 1) := by decide +kernel
theorem dX6_readNumber_137 : decode cX6_readNumber 137 = .ok (.iconst 3, 1) := by decide +kernel
theorem dX6_readNumber_138 : decode cX6_readNumber 138 = .ok (.if_icmp .gt 8, 3) := by decide +kernel
theorem dX6_readNumber_141 : decode cX6_readNumber 141 = .ok (.iload_n 2, 1) := by decide +kernel
theorem dX6_readNumber_142 : decode cX6_readNumber 142 = .ok (.iload_n 1, 1) := by decide +kernel
theorem dX6_readNumber_143 : decode cX6_readNumber 143 = .ok (.if_icmp .le 12, 3) := by decide +kernel
theorem dX6_readNumber_146 : decode cX6_readNumber 146 = .ok (.aload_n 0, 1) := by decide +kernel
theorem dX6_readNumber_147 : decode cX6_readNumber 147 = .ok (.iconst 2, 1) := by decide +kernel
theorem dX6_readNumber_148 : decode cX6_readNumber 148 = .ok (.aload_n 0, 1) := by decide +kernel
theorem dX6_readNumber_149 : decode cX6_readNumber 149 = .ok (.getfield 91, 3) := by decide +kernel
theorem dX6_readNumber_152 : decode cX6_readNumber 152 = .ok (.invokevirtual 48, 3) := by decide +kernel
theorem dX6_readNumber_155 : decode cX6_readNumber 155 = .ok (.iload_n 2, 1) := by decide +kernel
theorem dX6_readNumber_156 : decode cX6_readNumber 156 = .ok (.ireturn, 1) := by decide +kernel
theorem dX6_readEnd_0 : decode cX6_readEnd 0 = .ok (.aload_n 0, 1) := by decide +kernel
theorem dX6_readEnd_1 : decode cX6_readEnd 1 = .ok (.getfield 32, 3) := by decide +kernel
theorem dX6_readEnd_4 : decode cX6_readEnd 4 = .ok (.ifCond .eq 4, 3) := by decide +kernel
theorem dX6_readEnd_7 : decode cX6_readEnd 7 = .ok (.return_, 1) := by decide +kernel
theorem dX6_readEnd_8 : decode cX6_readEnd 8 = .ok (.aload_n 0, 1) := by decide +kernel
theorem dX6_readEnd_9 : decode cX6_readEnd 9 = .ok (.invokevirtual 38, 3) := by decide +kernel
theorem dX6_readEnd_12 : decode cX6_readEnd 12 = .ok (.aload_n 0, 1) := by decide +kernel
theorem dX6_readEnd_13 : decode cX6_readEnd 13 = .ok (.getfield 29, 3) := by decide +kernel
theorem dX6_readEnd_16 : decode cX6_readEnd 16 = .ok (.aload_n 0, 1) := by decide +kernel
theorem dX6_readEnd_17 : decode cX6_readEnd 17 = .ok (.getfield 26, 3) := by decide +kernel
theorem dX6_readEnd_20 : decode cX6_readEnd 20 = .ok (.if_icmp .ge 17, 3) := by decide +kernel
theorem dX6_readEnd_23 : decode cX6_readEnd 23 = .ok (.aload_n 0, 1) := by decide +kernel
theorem dX6_readEnd_24 : decode cX6_readEnd 24 = .ok (.getfield 22, 3) := by decide +kernel
theorem dX6_readEnd_27 : decode cX6_readEnd 27 = .ok (.aload_n 0, 1) := by decide +kernel
theorem dX6_readEnd_28 : decode cX6_readEnd 28 = .ok (.getfield 29, 3) := by decide +kernel
theorem dX6_readEnd_31 : decode cX6_readEnd 31 = .ok (.iaload, 1) := by decide +kernel
theorem dX6_readEnd_32 : decode cX6_readEnd 32 = .ok (.bipush 59, 2) := by decide +kernel
theorem dX6_readEnd_34 : decode cX6_readEnd 34 = .ok (.if_icmp .eq 12, 3) := by decide +kernel
theorem dX6_readEnd_37 : decode cX6_readEnd 37 = .ok (.aload_n 0, 1) := by decide +kernel
theorem dX6_readEnd_38 : decode cX6_readEnd 38 = .ok (.iconst 1, 1) := by decide +kernel
theorem dX6_readEnd_39 : decode cX6_readEnd 39 = .ok (.aload_n 0, 1) := by decide +kernel
theorem dX6_readEnd_40 : decode cX6_readEnd 40 = .ok (.getfield 29, 3) := by decide +kernel
theorem dX6_readEnd_43 : decode cX6_readEnd 43 = .ok (.invokevirtual 48, 3) := by decide +kernel
theorem dX6_readEnd_46 : decode cX6_readEnd 46 = .ok (.aload_n 0, 1) := by decide +kernel
theorem dX6_readEnd_47 : decode cX6_readEnd 47 = .ok (.dup, 1) := by decide +kernel
theorem dX6_readEnd_48 : decode cX6_readEnd 48 = .ok (.getfield 29, 3) := by decide +kernel
theorem dX6_readEnd_51 : decode cX6_readEnd 51 = .ok (.iconst 1, 1) := by decide +kernel
theorem dX6_readEnd_52 : decode cX6_readEnd 52 = .ok (.iadd, 1) := by decide +kernel
theorem dX6_readEnd_53 : decode cX6_readEnd 53 = .ok (.putfield 29, 3) := by decide +kernel
theorem dX6_readEnd_56 : decode cX6_readEnd 56 = .ok (.return_, 1) := by decide +kernel
theorem dX6_skipBlanks_0 : decode cX6_skipBlanks 0 = .ok (.aload_n 0, 1) := by decide +kernel
theorem dX6_skipBlanks_1 : decode cX6_skipBlanks 1 = .ok (.getfield 29, 3) := by decide +kernel
theorem dX6_skipBlanks_4 : decode cX6_skipBlanks 4 = .ok (.aload_n 0, 1) := by decide +kernel
theorem dX6_skipBlanks_5 : decode cX6_skipBlanks 5 = .ok (.getfield 26, 3) := by decide +kernel
theorem dX6_skipBlanks_8 : decode cX6_skipBlanks 8 = .ok (.if_icmp .ge 30, 3) := by decide +kernel
theorem dX6_skipBlanks_11 : decode cX6_skipBlanks 11 = .ok (.aload_n 0, 1) := by decide +kernel
theorem dX6_skipBlanks_12 : decode cX6_skipBlanks 12 = .ok (.getfield 22, 3) := by decide +kernel
theorem dX6_skipBlanks_15 : decode cX6_skipBlanks 15 = .ok (.aload_n 0, 1) := by decide +kernel
theorem dX6_skipBlanks_16 : decode cX6_skipBlanks 16 = .ok (.getfield 29, 3) := by decide +kernel
theorem dX6_skipBlanks_19 : decode cX6_skipBlanks 19 = .ok (.iaload, 1) := by decide +kernel
theorem dX6_skipBlanks_20 : decode cX6_skipBlanks 20 = .ok (.bipush 32, 2) := by decide +kernel
theorem dX6_skipBlanks_22 : decode cX6_skipBlanks 22 = .ok (.if_icmp .ne 16, 3) := by decide +kernel
theorem dX6_skipBlanks_25 : decode cX6_skipBlanks 25 = .ok (.aload_n 0, 1) := by decide +kernel
theorem dX6_skipBlanks_26 : decode cX6_skipBlanks 26 = .ok (.dup, 1) := by decide +kernel
theorem dX6_skipBlanks_27 : decode cX6_skipBlanks 27 = .ok (.getfield 29, 3) := by decide +kernel
theorem dX6_skipBlanks_30 : decode cX6_skipBlanks 30 = .ok (.iconst 1, 1) := by decide +kernel
theorem dX6_skipBlanks_31 : decode cX6_skipBlanks 31 = .ok (.iadd, 1) := by decide +kernel
theorem dX6_skipBlanks_32 : decode cX6_skipBlanks 32 = .ok (.putfield 29, 3) := by decide +kernel
theorem dX6_skipBlanks_35 : decode cX6_skipBlanks 35 = .ok (.goto (-35), 3) := by decide +kernel
theorem dX6_skipBlanks_38 : decode cX6_skipBlanks 38 = .ok (.return_, 1) := by decide +kernel
theorem dX6_noteFault_0 : decode cX6_noteFault 0 = .ok (.aload_n 0, 1) := by decide +kernel
theorem dX6_noteFault_1 : decode cX6_noteFault 1 = .ok (.iload_n 1, 1) := by decide +kernel
theorem dX6_noteFault_2 : decode cX6_noteFault 2 = .ok (.putfield 32, 3) := by decide +kernel
theorem dX6_noteFault_5 : decode cX6_noteFault 5 = .ok (.aload_n 0, 1) := by decide +kernel
theorem dX6_noteFault_6 : decode cX6_noteFault 6 = .ok (.iload_n 2, 1) := by decide +kernel
theorem dX6_noteFault_7 : decode cX6_noteFault 7 = .ok (.putfield 9, 3) := by decide +kernel
theorem dX6_noteFault_10 : decode cX6_noteFault 10 = .ok (.return_, 1) := by decide +kernel
theorem dX7_init_0 : decode cX7_init 0 = .ok (.aload_n 0, 1) := by decide +kernel
theorem dX7_init_1 : decode cX7_init 1 = .ok (.invokespecial 3, 3) := by decide +kernel
theorem dX7_init_4 : decode cX7_init 4 = .ok (.aload_n 0, 1) := by decide +kernel
theorem dX7_init_5 : decode cX7_init 5 = .ok (.bipush 16, 2) := by decide +kernel
theorem dX7_init_7 : decode cX7_init 7 = .ok (.newarray .int, 2) := by decide +kernel
theorem dX7_init_9 : decode cX7_init 9 = .ok (.putfield 9, 3) := by decide +kernel
theorem dX7_init_12 : decode cX7_init 12 = .ok (.aload_n 0, 1) := by decide +kernel
theorem dX7_init_13 : decode cX7_init 13 = .ok (.bipush 16, 2) := by decide +kernel
theorem dX7_init_15 : decode cX7_init 15 = .ok (.newarray .int, 2) := by decide +kernel
theorem dX7_init_17 : decode cX7_init 17 = .ok (.putfield 15, 3) := by decide +kernel
theorem dX7_init_20 : decode cX7_init 20 = .ok (.aload_n 0, 1) := by decide +kernel
theorem dX7_init_21 : decode cX7_init 21 = .ok (.bipush 16, 2) := by decide +kernel
theorem dX7_init_23 : decode cX7_init 23 = .ok (.newarray .int, 2) := by decide +kernel
theorem dX7_init_25 : decode cX7_init 25 = .ok (.putfield 18, 3) := by decide +kernel
theorem dX7_init_28 : decode cX7_init 28 = .ok (.aload_n 0, 1) := by decide +kernel
theorem dX7_init_29 : decode cX7_init 29 = .ok (.bipush 16, 2) := by decide +kernel
theorem dX7_init_31 : decode cX7_init 31 = .ok (.newarray .int, 2) := by decide +kernel
theorem dX7_init_33 : decode cX7_init 33 = .ok (.putfield 21, 3) := by decide +kernel
theorem dX7_init_36 : decode cX7_init 36 = .ok (.return_, 1) := by decide +kernel
theorem dX7_clear_0 : decode cX7_clear 0 = .ok (.aload_n 0, 1) := by decide +kernel
theorem dX7_clear_1 : decode cX7_clear 1 = .ok (.iconst 0, 1) := by decide +kernel
theorem dX7_clear_2 : decode cX7_clear 2 = .ok (.putfield 24, 3) := by decide +kernel
theorem dX7_clear_5 : decode cX7_clear 5 = .ok (.aload_n 0, 1) := by decide +kernel
theorem dX7_clear_6 : decode cX7_clear 6 = .ok (.iconst 0, 1) := by decide +kernel
theorem dX7_clear_7 : decode cX7_clear 7 = .ok (.putfield 28, 3) := by decide +kernel
theorem dX7_clear_10 : decode cX7_clear 10 = .ok (.return_, 1) := by decide +kernel
theorem dX7_copyFrom_0 : decode cX7_copyFrom 0 = .ok (.aload_n 0, 1) := by decide +kernel
theorem dX7_copyFrom_1 : decode cX7_copyFrom 1 = .ok (.aload_n 1, 1) := by decide +kernel
theorem dX7_copyFrom_2 : decode cX7_copyFrom 2 = .ok (.getfield 24, 3) := by decide +kernel
theorem dX7_copyFrom_5 : decode cX7_copyFrom 5 = .ok (.putfield 24, 3) := by decide +kernel
theorem dX7_copyFrom_8 : decode cX7_copyFrom 8 = .ok (.aload_n 0, 1) := by decide +kernel
theorem dX7_copyFrom_9 : decode cX7_copyFrom 9 = .ok (.aload_n 1, 1) := by decide +kernel
theorem dX7_copyFrom_10 : decode cX7_copyFrom 10 = .ok (.getfield 28, 3) := by decide +kernel
theorem dX7_copyFrom_13 : decode cX7_copyFrom 13 = .ok (.putfield 28, 3) := by decide +kernel
theorem dX7_copyFrom_16 : decode cX7_copyFrom 16 = .ok (.aload_n 1, 1) := by decide +kernel
theorem dX7_copyFrom_17 : decode cX7_copyFrom 17 = .ok (.getfield 9, 3) := by decide +kernel
theorem dX7_copyFrom_20 : decode cX7_copyFrom 20 = .ok (.iconst 0, 1) := by decide +kernel
theorem dX7_copyFrom_21 : decode cX7_copyFrom 21 = .ok (.aload_n 0, 1) := by decide +kernel
theorem dX7_copyFrom_22 : decode cX7_copyFrom 22 = .ok (.getfield 9, 3) := by decide +kernel
theorem dX7_copyFrom_25 : decode cX7_copyFrom 25 = .ok (.iconst 0, 1) := by decide +kernel
theorem dX7_copyFrom_26 : decode cX7_copyFrom 26 = .ok (.bipush 16, 2) := by decide +kernel
theorem dX7_copyFrom_28 : decode cX7_copyFrom 28 = .ok (.invokestatic 31, 3) := by decide +kernel
theorem dX7_copyFrom_31 : decode cX7_copyFrom 31 = .ok (.aload_n 1, 1) := by decide +kernel
theorem dX7_copyFrom_32 : decode cX7_copyFrom 32 = .ok (.getfield 15, 3) := by decide +kernel
theorem dX7_copyFrom_35 : decode cX7_copyFrom 35 = .ok (.iconst 0, 1) := by decide +kernel
theorem dX7_copyFrom_36 : decode cX7_copyFrom 36 = .ok (.aload_n 0, 1) := by decide +kernel
theorem dX7_copyFrom_37 : decode cX7_copyFrom 37 = .ok (.getfield 15, 3) := by decide +kernel
theorem dX7_copyFrom_40 : decode cX7_copyFrom 40 = .ok (.iconst 0, 1) := by decide +kernel
theorem dX7_copyFrom_41 : decode cX7_copyFrom 41 = .ok (.bipush 16, 2) := by decide +kernel
theorem dX7_copyFrom_43 : decode cX7_copyFrom 43 = .ok (.invokestatic 31, 3) := by decide +kernel
theorem dX7_copyFrom_46 : decode cX7_copyFrom 46 = .ok (.aload_n 1, 1) := by decide +kernel
theorem dX7_copyFrom_47 : decode cX7_copyFrom 47 = .ok (.getfield 18, 3) := by decide +kernel
theorem dX7_copyFrom_50 : decode cX7_copyFrom 50 = .ok (.iconst 0, 1) := by decide +kernel
theorem dX7_copyFrom_51 : decode cX7_copyFrom 51 = .ok (.aload_n 0, 1) := by decide +kernel
theorem dX7_copyFrom_52 : decode cX7_copyFrom 52 = .ok (.getfield 18, 3) := by decide +kernel
theorem dX7_copyFrom_55 : decode cX7_copyFrom 55 = .ok (.iconst 0, 1) := by decide +kernel
theorem dX7_copyFrom_56 : decode cX7_copyFrom 56 = .ok (.bipush 16, 2) := by decide +kernel
theorem dX7_copyFrom_58 : decode cX7_copyFrom 58 = .ok (.invokestatic 31, 3) := by decide +kernel
theorem dX7_copyFrom_61 : decode cX7_copyFrom 61 = .ok (.aload_n 1, 1) := by decide +kernel
theorem dX7_copyFrom_62 : decode cX7_copyFrom 62 = .ok (.getfield 21, 3) := by decide +kernel
theorem dX7_copyFrom_65 : decode cX7_copyFrom 65 = .ok (.iconst 0, 1) := by decide +kernel
theorem dX7_copyFrom_66 : decode cX7_copyFrom 66 = .ok (.aload_n 0, 1) := by decide +kernel
theorem dX7_copyFrom_67 : decode cX7_copyFrom 67 = .ok (.getfield 21, 3) := by decide +kernel
theorem dX7_copyFrom_70 : decode cX7_copyFrom 70 = .ok (.iconst 0, 1) := by decide +kernel
theorem dX7_copyFrom_71 : decode cX7_copyFrom 71 = .ok (.bipush 16, 2) := by decide +kernel
theorem dX7_copyFrom_73 : decode cX7_copyFrom 73 = .ok (.invokestatic 31, 3) := by decide +kernel
theorem dX7_copyFrom_76 : decode cX7_copyFrom 76 = .ok (.return_, 1) := by decide +kernel
theorem dX7_add_0 : decode cX7_add 0 = .ok (.aload_n 0, 1) := by decide +kernel
theorem dX7_add_1 : decode cX7_add 1 = .ok (.getfield 9, 3) := by decide +kernel
theorem dX7_add_4 : decode cX7_add 4 = .ok (.aload_n 0, 1) := by decide +kernel
theorem dX7_add_5 : decode cX7_add 5 = .ok (.getfield 28, 3) := by decide +kernel
theorem dX7_add_8 : decode cX7_add 8 = .ok (.aload_n 1, 1) := by decide +kernel
theorem dX7_add_9 : decode cX7_add 9 = .ok (.getfield 37, 3) := by decide +kernel
theorem dX7_add_12 : decode cX7_add 12 = .ok (.bipush 10, 2) := by decide +kernel
theorem dX7_add_14 : decode cX7_add 14 = .ok (.imul, 1) := by decide +kernel
theorem dX7_add_15 : decode cX7_add 15 = .ok (.iload_n 2, 1) := by decide +kernel
theorem dX7_add_16 : decode cX7_add 16 = .ok (.iadd, 1) := by decide +kernel
theorem dX7_add_17 : decode cX7_add 17 = .ok (.iastore, 1) := by decide +kernel
theorem dX7_add_18 : decode cX7_add 18 = .ok (.aload_n 0, 1) := by decide +kernel
theorem dX7_add_19 : decode cX7_add 19 = .ok (.getfield 15, 3) := by decide +kernel
theorem dX7_add_22 : decode cX7_add 22 = .ok (.aload_n 0, 1) := by decide +kernel
theorem dX7_add_23 : decode cX7_add 23 = .ok (.getfield 28, 3) := by decide +kernel
theorem dX7_add_26 : decode cX7_add 26 = .ok (.aload_n 1, 1) := by decide +kernel
theorem dX7_add_27 : decode cX7_add 27 = .ok (.invokevirtual 42, 3) := by decide +kernel
theorem dX7_add_30 : decode cX7_add 30 = .ok (.aload_n 1, 1) := by decide +kernel
theorem dX7_add_31 : decode cX7_add 31 = .ok (.getfield 46, 3) := by decide +kernel
theorem dX7_add_34 : decode cX7_add 34 = .ok (.bipush 8, 2) := by decide +kernel
theorem dX7_add_36 : decode cX7_add 36 = .ok (.ishl, 1) := by decide +kernel
theorem dX7_add_37 : decode cX7_add 37 = .ok (.ior, 1) := by decide +kernel
theorem dX7_add_38 : decode cX7_add 38 = .ok (.aload_n 1, 1) := by decide +kernel
theorem dX7_add_39 : decode cX7_add 39 = .ok (.invokevirtual 49, 3) := by decide +kernel
theorem dX7_add_42 : decode cX7_add 42 = .ok (.ifCond .eq 8, 3) := by decide +kernel
theorem dX7_add_45 : decode cX7_add 45 = .ok (.ldc 53, 2) := by decide +kernel
theorem dX7_add_47 : decode cX7_add 47 = .ok (.goto 4, 3) := by decide +kernel
theorem dX7_add_50 : decode cX7_add 50 = .ok (.iconst 0, 1) := by decide +kernel
theorem dX7_add_51 : decode cX7_add 51 = .ok (.ior, 1) := by decide +kernel
theorem dX7_add_52 : decode cX7_add 52 = .ok (.iastore, 1) := by decide +kernel
theorem dX7_add_53 : decode cX7_add 53 = .ok (.aload_n 0, 1) := by decide +kernel
theorem dX7_add_54 : decode cX7_add 54 = .ok (.getfield 18, 3) := by decide +kernel
theorem dX7_add_57 : decode cX7_add 57 = .ok (.aload_n 0, 1) := by decide +kernel
theorem dX7_add_58 : decode cX7_add 58 = .ok (.getfield 28, 3) := by decide +kernel
theorem dX7_add_61 : decode cX7_add 61 = .ok (.aload_n 1, 1) := by decide +kernel
theorem dX7_add_62 : decode cX7_add 62 = .ok (.getfield 54, 3) := by decide +kernel
theorem dX7_add_65 : decode cX7_add 65 = .ok (.iastore, 1) := by decide +kernel
theorem dX7_add_66 : decode cX7_add 66 = .ok (.aload_n 0, 1) := by decide +kernel
theorem dX7_add_67 : decode cX7_add 67 = .ok (.getfield 21, 3) := by decide +kernel
theorem dX7_add_70 : decode cX7_add 70 = .ok (.aload_n 0, 1) := by decide +kernel
theorem dX7_add_71 : decode cX7_add 71 = .ok (.getfield 28, 3) := by decide +kernel
theorem dX7_add_74 : decode cX7_add 74 = .ok (.aload_n 1, 1) := by decide +kernel
theorem dX7_add_75 : decode cX7_add 75 = .ok (.getfield 56, 3) := by decide +kernel
theorem dX7_add_78 : decode cX7_add 78 = .ok (.iastore, 1) := by decide +kernel
theorem dX7_add_79 : decode cX7_add 79 = .ok (.aload_n 0, 1) := by decide +kernel
theorem dX7_add_80 : decode cX7_add 80 = .ok (.aload_n 0, 1) := by decide +kernel
theorem dX7_add_81 : decode cX7_add 81 = .ok (.getfield 28, 3) := by decide +kernel
theorem dX7_add_84 : decode cX7_add 84 = .ok (.iconst 1, 1) := by decide +kernel
theorem dX7_add_85 : decode cX7_add 85 = .ok (.iadd, 1) := by decide +kernel
theorem dX7_add_86 : decode cX7_add 86 = .ok (.bipush 16, 2) := by decide +kernel
theorem dX7_add_88 : decode cX7_add 88 = .ok (.irem, 1) := by decide +kernel
theorem dX7_add_89 : decode cX7_add 89 = .ok (.putfield 28, 3) := by decide +kernel
theorem dX7_add_92 : decode cX7_add 92 = .ok (.aload_n 0, 1) := by decide +kernel
theorem dX7_add_93 : decode cX7_add 93 = .ok (.bipush 16, 2) := by decide +kernel
theorem dX7_add_95 : decode cX7_add 95 = .ok (.aload_n 0, 1) := by decide +kernel
theorem dX7_add_96 : decode cX7_add 96 = .ok (.getfield 24, 3) := by decide +kernel
theorem dX7_add_99 : decode cX7_add 99 = .ok (.iconst 1, 1) := by decide +kernel
theorem dX7_add_100 : decode cX7_add 100 = .ok (.iadd, 1) := by decide +kernel
theorem dX7_add_101 : decode cX7_add 101 = .ok (.invokestatic 58, 3) := by decide +kernel
theorem dX7_add_104 : decode cX7_add 104 = .ok (.putfield 24, 3) := by decide +kernel
theorem dX7_add_107 : decode cX7_add 107 = .ok (.return_, 1) := by decide +kernel
theorem dX7_fromAndTo_0 : decode cX7_fromAndTo 0 = .ok (.aload_n 0, 1) := by decide +kernel
theorem dX7_fromAndTo_1 : decode cX7_fromAndTo 1 = .ok (.getfield 9, 3) := by decide +kernel
theorem dX7_fromAndTo_4 : decode cX7_fromAndTo 4 = .ok (.aload_n 0, 1) := by decide +kernel
theorem dX7_fromAndTo_5 : decode cX7_fromAndTo 5 = .ok (.getfield 28, 3) := by decide +kernel
theorem dX7_fromAndTo_8 : decode cX7_fromAndTo 8 = .ok (.bipush 16, 2) := by decide +kernel
theorem dX7_fromAndTo_10 : decode cX7_fromAndTo 10 = .ok (.iadd, 1) := by decide +kernel
theorem dX7_fromAndTo_11 : decode cX7_fromAndTo 11 = .ok (.iconst 1, 1) := by decide +kernel
theorem dX7_fromAndTo_12 : decode cX7_fromAndTo 12 = .ok (.isub, 1) := by decide +kernel
theorem dX7_fromAndTo_13 : decode cX7_fromAndTo 13 = .ok (.iload_n 1, 1) := by decide +kernel
theorem dX7_fromAndTo_14 : decode cX7_fromAndTo 14 = .ok (.isub, 1) := by decide +kernel
theorem dX7_fromAndTo_15 : decode cX7_fromAndTo 15 = .ok (.bipush 16, 2) := by decide +kernel
theorem dX7_fromAndTo_17 : decode cX7_fromAndTo 17 = .ok (.irem, 1) := by decide +kernel
theorem dX7_fromAndTo_18 : decode cX7_fromAndTo 18 = .ok (.iaload, 1) := by decide +kernel
theorem dX7_fromAndTo_19 : decode cX7_fromAndTo 19 = .ok (.ireturn, 1) := by decide +kernel
theorem dX7_fittingRules_0 : decode cX7_fittingRules 0 = .ok (.lconst 0, 1) := by decide +kernel
theorem dX7_fittingRules_1 : decode cX7_fittingRules 1 = .ok (.lstore_n 1, 1) := by decide +kernel
theorem dX7_fittingRules_2 : decode cX7_fittingRules 2 = .ok (.iconst 0, 1) := by decide +kernel
theorem dX7_fittingRules_3 : decode cX7_fittingRules 3 = .ok (.istore_n 3, 1) := by decide +kernel
theorem dX7_fittingRules_4 : decode cX7_fittingRules 4 = .ok (.iload_n 3, 1) := by decide +kernel
theorem dX7_fittingRules_5 : decode cX7_fittingRules 5 = .ok (.bipush 64, 2) := by decide +kernel
theorem dX7_fittingRules_7 : decode cX7_fittingRules 7 = .ok (.if_icmp .ge 23, 3) := by decide +kernel
theorem dX7_fittingRules_10 : decode cX7_fittingRules 10 = .ok (.aload_n 0, 1) := by decide +kernel
theorem dX7_fittingRules_11 : decode cX7_fittingRules 11 = .ok (.iload_n 3, 1) := by decide +kernel
theorem dX7_fittingRules_12 : decode cX7_fittingRules 12 = .ok (.invokevirtual 64, 3) := by decide +kernel
theorem dX7_fittingRules_15 : decode cX7_fittingRules 15 = .ok (.ifCond .eq 9, 3) := by decide +kernel
theorem dX7_fittingRules_18 : decode cX7_fittingRules 18 = .ok (.lload_n 1, 1) := by decide +kernel
theorem dX7_fittingRules_19 : decode cX7_fittingRules 19 = .ok (.lconst 1, 1) := by decide +kernel
theorem dX7_fittingRules_20 : decode cX7_fittingRules 20 = .ok (.iload_n 3, 1) := by decide +kernel
theorem dX7_fittingRules_21 : decode cX7_fittingRules 21 = .ok (.lshl, 1) := by decide +kernel
theorem dX7_fittingRules_22 : decode cX7_fittingRules 22 = .ok (.lor, 1) := by decide +kernel
theorem dX7_fittingRules_23 : decode cX7_fittingRules 23 = .ok (.lstore_n 1, 1) := by decide +kernel
theorem dX7_fittingRules_24 : decode cX7_fittingRules 24 = .ok (.iinc 3 1, 3) := by decide +kernel
theorem dX7_fittingRules_27 : decode cX7_fittingRules 27 = .ok (.goto (-23), 3) := by decide +kernel
theorem dX7_fittingRules_30 : decode cX7_fittingRules 30 = .ok (.lload_n 1, 1) := by decide +kernel
theorem dX7_fittingRules_31 : decode cX7_fittingRules 31 = .ok (.lreturn, 1) := by decide +kernel
theorem dX7_isFitting_0 : decode cX7_isFitting 0 = .ok (.iconst 0, 1) := by decide +kernel
theorem dX7_isFitting_1 : decode cX7_isFitting 1 = .ok (.istore_n 2, 1) := by decide +kernel
theorem dX7_isFitting_2 : decode cX7_isFitting 2 = .ok (.iload_n 2, 1) := by decide +kernel
theorem dX7_isFitting_3 : decode cX7_isFitting 3 = .ok (.aload_n 0, 1) := by decide +kernel
theorem dX7_isFitting_4 : decode cX7_isFitting 4 = .ok (.getfield 24, 3) := by decide +kernel
theorem dX7_isFitting_7 : decode cX7_isFitting 7 = .ok (.if_icmp .ge 84, 3) := by decide +kernel
theorem dX7_isFitting_10 : decode cX7_isFitting 10 = .ok (.iload_n 1, 1) := by decide +kernel
theorem dX7_isFitting_11 : decode cX7_isFitting 11 = .ok (.aload_n 0, 1) := by decide +kernel
theorem dX7_isFitting_12 : decode cX7_isFitting 12 = .ok (.getfield 15, 3) := by decide +kernel
theorem dX7_isFitting_15 : decode cX7_isFitting 15 = .ok (.iload_n 2, 1) := by decide +kernel
theorem dX7_isFitting_16 : decode cX7_isFitting 16 = .ok (.iaload, 1) := by decide +kernel
theorem dX7_isFitting_17 : decode cX7_isFitting 17 = .ok (.sipush 255, 3) := by decide +kernel
theorem dX7_isFitting_20 : decode cX7_isFitting 20 = .ok (.iand, 1) := by decide +kernel
theorem dX7_isFitting_21 : decode cX7_isFitting 21 = .ok (.aload_n 0, 1) := by decide +kernel
theorem dX7_isFitting_22 : decode cX7_isFitting 22 = .ok (.getfield 18, 3) := by decide +kernel
theorem dX7_isFitting_25 : decode cX7_isFitting 25 = .ok (.iload_n 2, 1) := by decide +kernel
theorem dX7_isFitting_26 : decode cX7_isFitting 26 = .ok (.iaload, 1) := by decide +kernel
theorem dX7_isFitting_27 : decode cX7_isFitting 27 = .ok (.aload_n 0, 1) := by decide +kernel
theorem dX7_isFitting_28 : decode cX7_isFitting 28 = .ok (.getfield 15, 3) := by decide +kernel
theorem dX7_isFitting_31 : decode cX7_isFitting 31 = .ok (.iload_n 2, 1) := by decide +kernel
theorem dX7_isFitting_32 : decode cX7_isFitting 32 = .ok (.iaload, 1) := by decide +kernel
theorem dX7_isFitting_33 : decode cX7_isFitting 33 = .ok (.bipush 8, 2) := by decide +kernel
theorem dX7_isFitting_35 : decode cX7_isFitting 35 = .ok (.ishr, 1) := by decide +kernel
theorem dX7_isFitting_36 : decode cX7_isFitting 36 = .ok (.sipush 255, 3) := by decide +kernel
theorem dX7_isFitting_39 : decode cX7_isFitting 39 = .ok (.iand, 1) := by decide +kernel
theorem dX7_isFitting_40 : decode cX7_isFitting 40 = .ok (.aload_n 0, 1) := by decide +kernel
theorem dX7_isFitting_41 : decode cX7_isFitting 41 = .ok (.getfield 21, 3) := by decide +kernel
theorem dX7_isFitting_44 : decode cX7_isFitting 44 = .ok (.iload_n 2, 1) := by decide +kernel
theorem dX7_isFitting_45 : decode cX7_isFitting 45 = .ok (.iaload, 1) := by decide +kernel
theorem dX7_isFitting_46 : decode cX7_isFitting 46 = .ok (.aload_n 0, 1) := by decide +kernel
theorem dX7_isFitting_47 : decode cX7_isFitting 47 = .ok (.getfield 15, 3) := by decide +kernel
theorem dX7_isFitting_50 : decode cX7_isFitting 50 = .ok (.iload_n 2, 1) := by decide +kernel
theorem dX7_isFitting_51 : decode cX7_isFitting 51 = .ok (.iaload, 1) := by decide +kernel
theorem dX7_isFitting_52 : decode cX7_isFitting 52 = .ok (.bipush 16, 2) := by decide +kernel
theorem dX7_isFitting_54 : decode cX7_isFitting 54 = .ok (.invokestatic 68, 3) := by decide +kernel
theorem dX7_isFitting_57 : decode cX7_isFitting 57 = .ok (.iconst 1, 1) := by decide +kernel
theorem dX7_isFitting_58 : decode cX7_isFitting 58 = .ok (.if_icmp .ne 7, 3) := by decide +kernel
theorem dX7_isFitting_61 : decode cX7_isFitting 61 = .ok (.iconst 1, 1) := by decide +kernel
theorem dX7_isFitting_62 : decode cX7_isFitting 62 = .ok (.goto 4, 3) := by decide +kernel
theorem dX7_isFitting_65 : decode cX7_isFitting 65 = .ok (.iconst 0, 1) := by decide +kernel
theorem dX7_isFitting_66 : decode cX7_isFitting 66 = .ok (.invokestatic 71, 3) := by decide +kernel
theorem dX7_isFitting_69 : decode cX7_isFitting 69 = .ok (.istore_n 3, 1) := by decide +kernel
theorem dX7_isFitting_70 : decode cX7_isFitting 70 = .ok (.iload_n 3, 1) := by decide +kernel
theorem dX7_isFitting_71 : decode cX7_isFitting 71 = .ok (.aload_n 0, 1) := by decide +kernel
theorem dX7_isFitting_72 : decode cX7_isFitting 72 = .ok (.getfield 9, 3) := by decide +kernel
theorem dX7_isFitting_75 : decode cX7_isFitting 75 = .ok (.iload_n 2, 1) := by decide +kernel
theorem dX7_isFitting_76 : decode cX7_isFitting 76 = .ok (.iaload, 1) := by decide +kernel
theorem dX7_isFitting_77 : decode cX7_isFitting 77 = .ok (.bipush 10, 2) := by decide +kernel
theorem dX7_isFitting_79 : decode cX7_isFitting 79 = .ok (.irem, 1) := by decide +kernel
theorem dX7_isFitting_80 : decode cX7_isFitting 80 = .ok (.if_icmp .eq 5, 3) := by decide +kernel
theorem dX7_isFitting_83 : decode cX7_isFitting 83 = .ok (.iconst 0, 1) := by decide +kernel
theorem dX7_isFitting_84 : decode cX7_isFitting 84 = .ok (.ireturn, 1) := by decide +kernel
theorem dX7_isFitting_85 : decode cX7_isFitting 85 = .ok (.iinc 2 1, 3) := by decide +kernel
theorem dX7_isFitting_88 : decode cX7_isFitting 88 = .ok (.goto (-86), 3) := by decide +kernel
theorem dX7_isFitting_91 : decode cX7_isFitting 91 = .ok (.iconst 1, 1) := by decide +kernel
theorem dX7_isFitting_92 : decode cX7_isFitting 92 = .ok (.ireturn, 1) := by decide +kernel
theorem dX8_init_0 : decode cX8_init 0 = .ok (.aload_n 0, 1) := by decide +kernel
theorem dX8_init_1 : decode cX8_init 1 = .ok (.invokespecial 1, 3) := by decide +kernel
theorem dX8_init_4 : decode cX8_init 4 = .ok (.aload_n 0, 1) := by decide +kernel
theorem dX8_init_5 : decode cX8_init 5 = .ok (.new 7, 3) := by decide +kernel
theorem dX8_init_8 : decode cX8_init 8 = .ok (.dup, 1) := by decide +kernel
theorem dX8_init_9 : decode cX8_init 9 = .ok (.invokespecial 9, 3) := by decide +kernel
theorem dX8_init_12 : decode cX8_init 12 = .ok (.putfield 10, 3) := by decide +kernel
theorem dX8_init_15 : decode cX8_init 15 = .ok (.aload_n 0, 1) := by decide +kernel
theorem dX8_init_16 : decode cX8_init 16 = .ok (.new 16, 3) := by decide +kernel
theorem dX8_init_19 : decode cX8_init 19 = .ok (.dup, 1) := by decide +kernel
theorem dX8_init_20 : decode cX8_init 20 = .ok (.invokespecial 18, 3) := by decide +kernel
theorem dX8_init_23 : decode cX8_init 23 = .ok (.putfield 19, 3) := by decide +kernel
theorem dX8_init_26 : decode cX8_init 26 = .ok (.aload_n 0, 1) := by decide +kernel
theorem dX8_init_27 : decode cX8_init 27 = .ok (.new 23, 3) := by decide +kernel
theorem dX8_init_30 : decode cX8_init 30 = .ok (.dup, 1) := by decide +kernel
theorem dX8_init_31 : decode cX8_init 31 = .ok (.invokespecial 25, 3) := by decide +kernel
theorem dX8_init_34 : decode cX8_init 34 = .ok (.putfield 26, 3) := by decide +kernel
theorem dX8_init_37 : decode cX8_init 37 = .ok (.aload_n 0, 1) := by decide +kernel
theorem dX8_init_38 : decode cX8_init 38 = .ok (.new 30, 3) := by decide +kernel
theorem dX8_init_41 : decode cX8_init 41 = .ok (.dup, 1) := by decide +kernel
theorem dX8_init_42 : decode cX8_init 42 = .ok (.invokespecial 32, 3) := by decide +kernel
theorem dX8_init_45 : decode cX8_init 45 = .ok (.putfield 33, 3) := by decide +kernel
theorem dX8_init_48 : decode cX8_init 48 = .ok (.aload_n 0, 1) := by decide +kernel
theorem dX8_init_49 : decode cX8_init 49 = .ok (.iconst 2, 1) := by decide +kernel
theorem dX8_init_50 : decode cX8_init 50 = .ok (.anewarray 37, 3) := by decide +kernel
theorem dX8_init_53 : decode cX8_init 53 = .ok (.putfield 39, 3) := by decide +kernel
theorem dX8_init_56 : decode cX8_init 56 = .ok (.aload_n 0, 1) := by decide +kernel
theorem dX8_init_57 : decode cX8_init 57 = .ok (.new 43, 3) := by decide +kernel
theorem dX8_init_60 : decode cX8_init 60 = .ok (.dup, 1) := by decide +kernel
theorem dX8_init_61 : decode cX8_init 61 = .ok (.invokespecial 45, 3) := by decide +kernel
theorem dX8_init_64 : decode cX8_init 64 = .ok (.putfield 46, 3) := by decide +kernel
theorem dX8_init_67 : decode cX8_init 67 = .ok (.aload_n 0, 1) := by decide +kernel
theorem dX8_init_68 : decode cX8_init 68 = .ok (.new 50, 3) := by decide +kernel
theorem dX8_init_71 : decode cX8_init 71 = .ok (.dup, 1) := by decide +kernel
theorem dX8_init_72 : decode cX8_init 72 = .ok (.invokespecial 52, 3) := by decide +kernel
theorem dX8_init_75 : decode cX8_init 75 = .ok (.putfield 53, 3) := by decide +kernel
theorem dX8_init_78 : decode cX8_init 78 = .ok (.aload_n 0, 1) := by decide +kernel
theorem dX8_init_79 : decode cX8_init 79 = .ok (.new 50, 3) := by decide +kernel
theorem dX8_init_82 : decode cX8_init 82 = .ok (.dup, 1) := by decide +kernel
theorem dX8_init_83 : decode cX8_init 83 = .ok (.invokespecial 52, 3) := by decide +kernel
theorem dX8_init_86 : decode cX8_init 86 = .ok (.putfield 57, 3) := by decide +kernel
theorem dX8_init_89 : decode cX8_init 89 = .ok (.aload_n 0, 1) := by decide +kernel
theorem dX8_init_90 : decode cX8_init 90 = .ok (.bipush 8, 2) := by decide +kernel
theorem dX8_init_92 : decode cX8_init 92 = .ok (.newarray .int, 2) := by decide +kernel
theorem dX8_init_94 : decode cX8_init 94 = .ok (.putfield 60, 3) := by decide +kernel
theorem dX8_init_97 : decode cX8_init 97 = .ok (.iconst 0, 1) := by decide +kernel
theorem dX8_init_98 : decode cX8_init 98 = .ok (.istore_n 1, 1) := by decide +kernel
theorem dX8_init_99 : decode cX8_init 99 = .ok (.iload_n 1, 1) := by decide +kernel
theorem dX8_init_100 : decode cX8_init 100 = .ok (.iconst 2, 1) := by decide +kernel
theorem dX8_init_101 : decode cX8_init 101 = .ok (.if_icmp .ge 22, 3) := by decide +kernel
theorem dX8_init_104 : decode cX8_init 104 = .ok (.aload_n 0, 1) := by decide +kernel
theorem dX8_init_105 : decode cX8_init 105 = .ok (.getfield 39, 3) := by decide +kernel
theorem dX8_init_108 : decode cX8_init 108 = .ok (.iload_n 1, 1) := by decide +kernel
theorem dX8_init_109 : decode cX8_init 109 = .ok (.new 37, 3) := by decide +kernel
theorem dX8_init_112 : decode cX8_init 112 = .ok (.dup, 1) := by decide +kernel
theorem dX8_init_113 : decode cX8_init 113 = .ok (.invokespecial 64, 3) := by decide +kernel
theorem dX8_init_116 : decode cX8_init 116 = .ok (.aastore, 1) := by decide +kernel
theorem dX8_init_117 : decode cX8_init 117 = .ok (.iinc 1 1, 3) := by decide +kernel
theorem dX8_init_120 : decode cX8_init 120 = .ok (.goto (-21), 3) := by decide +kernel
theorem dX8_init_123 : decode cX8_init 123 = .ok (.return_, 1) := by decide +kernel
theorem dX8_feed_0 : decode cX8_feed 0 = .ok (.iload_n 1, 1) := by decide +kernel
theorem dX8_feed_1 : decode cX8_feed 1 = .ok (.ifCond .lt 10, 3) := by decide +kernel
theorem dX8_feed_4 : decode cX8_feed 4 = .ok (.iload_n 1, 1) := by decide +kernel
theorem dX8_feed_5 : decode cX8_feed 5 = .ok (.sipush 255, 3) := by decide +kernel
theorem dX8_feed_8 : decode cX8_feed 8 = .ok (.if_icmp .le 6, 3) := by decide +kernel
theorem dX8_feed_11 : decode cX8_feed 11 = .ok (.ldc 65, 2) := by decide +kernel
theorem dX8_feed_13 : decode cX8_feed 13 = .ok (.ireturn, 1) := by decide +kernel
theorem dX8_feed_14 : decode cX8_feed 14 = .ok (.aload_n 0, 1) := by decide +kernel
theorem dX8_feed_15 : decode cX8_feed 15 = .ok (.getfield 10, 3) := by decide +kernel
theorem dX8_feed_18 : decode cX8_feed 18 = .ok (.getfield 66, 3) := by decide +kernel
theorem dX8_feed_21 : decode cX8_feed 21 = .ok (.sipush 240, 3) := by decide +kernel
theorem dX8_feed_24 : decode cX8_feed 24 = .ok (.if_icmp .lt 6, 3) := by decide +kernel
theorem dX8_feed_27 : decode cX8_feed 27 = .ok (.ldc 70, 2) := by decide +kernel
theorem dX8_feed_29 : decode cX8_feed 29 = .ok (.ireturn, 1) := by decide +kernel
theorem dX8_feed_30 : decode cX8_feed 30 = .ok (.aload_n 0, 1) := by decide +kernel
theorem dX8_feed_31 : decode cX8_feed 31 = .ok (.getfield 10, 3) := by decide +kernel
theorem dX8_feed_34 : decode cX8_feed 34 = .ok (.iload_n 1, 1) := by decide +kernel
theorem dX8_feed_35 : decode cX8_feed 35 = .ok (.invokevirtual 71, 3) := by decide +kernel
theorem dX8_feed_38 : decode cX8_feed 38 = .ok (.aload_n 0, 1) := by decide +kernel
theorem dX8_feed_39 : decode cX8_feed 39 = .ok (.getfield 10, 3) := by decide +kernel
theorem dX8_feed_42 : decode cX8_feed 42 = .ok (.getfield 66, 3) := by decide +kernel
theorem dX8_feed_45 : decode cX8_feed 45 = .ok (.ireturn, 1) := by decide +kernel
theorem dX8_palace_0 : decode cX8_palace 0 = .ok (.aload_n 0, 1) := by decide +kernel
theorem dX8_palace_1 : decode cX8_palace 1 = .ok (.getfield 10, 3) := by decide +kernel
theorem dX8_palace_4 : decode cX8_palace 4 = .ok (.invokevirtual 75, 3) := by decide +kernel
theorem dX8_palace_7 : decode cX8_palace 7 = .ok (.aload_n 0, 1) := by decide +kernel
theorem dX8_palace_8 : decode cX8_palace 8 = .ok (.getfield 10, 3) := by decide +kernel
theorem dX8_palace_11 : decode cX8_palace 11 = .ok (.iconst 0, 1) := by decide +kernel
theorem dX8_palace_12 : decode cX8_palace 12 = .ok (.putfield 66, 3) := by decide +kernel
theorem dX8_palace_15 : decode cX8_palace 15 = .ok (.aload_n 0, 1) := by decide +kernel
theorem dX8_palace_16 : decode cX8_palace 16 = .ok (.getfield 10, 3) := by decide +kernel
theorem dX8_palace_19 : decode cX8_palace 19 = .ok (.getfield 78, 3) := by decide +kernel
theorem dX8_palace_22 : decode cX8_palace 22 = .ok (.ifCond .eq 14, 3) := by decide +kernel
theorem dX8_palace_25 : decode cX8_palace 25 = .ok (.bipush (-10), 2) := by decide +kernel
theorem dX8_palace_27 : decode cX8_palace 27 = .ok (.aload_n 0, 1) := by decide +kernel
theorem dX8_palace_28 : decode cX8_palace 28 = .ok (.getfield 10, 3) := by decide +kernel
theorem dX8_palace_31 : decode cX8_palace 31 = .ok (.getfield 78, 3) := by decide +kernel
theorem dX8_palace_34 : decode cX8_palace 34 = .ok (.isub, 1) := by decide +kernel
theorem dX8_palace_35 : decode cX8_palace 35 = .ok (.ireturn, 1) := by decide +kernel
theorem dX8_palace_36 : decode cX8_palace 36 = .ok (.aload_n 0, 1) := by decide +kernel
theorem dX8_palace_37 : decode cX8_palace 37 = .ok (.getfield 19, 3) := by decide +kernel
theorem dX8_palace_40 : decode cX8_palace 40 = .ok (.astore_n 1, 1) := by decide +kernel
theorem dX8_palace_41 : decode cX8_palace 41 = .ok (.aload_n 0, 1) := by decide +kernel
theorem dX8_palace_42 : decode cX8_palace 42 = .ok (.aload_n 0, 1) := by decide +kernel
theorem dX8_palace_43 : decode cX8_palace 43 = .ok (.getfield 10, 3) := by decide +kernel
theorem dX8_palace_46 : decode cX8_palace 46 = .ok (.getfield 81, 3) := by decide +kernel
theorem dX8_palace_49 : decode cX8_palace 49 = .ok (.putfield 19, 3) := by decide +kernel
theorem dX8_palace_52 : decode cX8_palace 52 = .ok (.aload_n 0, 1) := by decide +kernel
theorem dX8_palace_53 : decode cX8_palace 53 = .ok (.getfield 10, 3) := by decide +kernel
theorem dX8_palace_56 : decode cX8_palace 56 = .ok (.aload_n 1, 1) := by decide +kernel
theorem dX8_palace_57 : decode cX8_palace 57 = .ok (.putfield 81, 3) := by decide +kernel
theorem dX8_palace_60 : decode cX8_palace 60 = .ok (.aload_n 0, 1) := by decide +kernel
theorem dX8_palace_61 : decode cX8_palace 61 = .ok (.getfield 26, 3) := by decide +kernel
theorem dX8_palace_64 : decode cX8_palace 64 = .ok (.aload_n 0, 1) := by decide +kernel
theorem dX8_palace_65 : decode cX8_palace 65 = .ok (.getfield 19, 3) := by decide +kernel
theorem dX8_palace_68 : decode cX8_palace 68 = .ok (.invokevirtual 84, 3) := by decide +kernel
theorem dX8_palace_71 : decode cX8_palace 71 = .ok (.aload_n 0, 1) := by decide +kernel
theorem dX8_palace_72 : decode cX8_palace 72 = .ok (.getfield 33, 3) := by decide +kernel
theorem dX8_palace_75 : decode cX8_palace 75 = .ok (.invokevirtual 88, 3) := by decide +kernel
theorem dX8_palace_78 : decode cX8_palace 78 = .ok (.aload_n 0, 1) := by decide +kernel
theorem dX8_palace_79 : decode cX8_palace 79 = .ok (.getfield 46, 3) := by decide +kernel
theorem dX8_palace_82 : decode cX8_palace 82 = .ok (.iconst 0, 1) := by decide +kernel
theorem dX8_palace_83 : decode cX8_palace 83 = .ok (.putfield 91, 3) := by decide +kernel
theorem dX8_palace_86 : decode cX8_palace 86 = .ok (.iconst 0, 1) := by decide +kernel
theorem dX8_palace_87 : decode cX8_palace 87 = .ok (.istore_n 2, 1) := by decide +kernel
theorem dX8_palace_88 : decode cX8_palace 88 = .ok (.iload_n 2, 1) := by decide +kernel
theorem dX8_palace_89 : decode cX8_palace 89 = .ok (.iconst 2, 1) := by decide +kernel
theorem dX8_palace_90 : decode cX8_palace 90 = .ok (.if_icmp .ge 19, 3) := by decide +kernel
theorem dX8_palace_93 : decode cX8_palace 93 = .ok (.aload_n 0, 1) := by decide +kernel
theorem dX8_palace_94 : decode cX8_palace 94 = .ok (.getfield 39, 3) := by decide +kernel
theorem dX8_palace_97 : decode cX8_palace 97 = .ok (.iload_n 2, 1) := by decide +kernel
theorem dX8_palace_98 : decode cX8_palace 98 = .ok (.aaload, 1) := by decide +kernel
theorem dX8_palace_99 : decode cX8_palace 99 = .ok (.iconst 0, 1) := by decide +kernel
theorem dX8_palace_100 : decode cX8_palace 100 = .ok (.putfield 94, 3) := by decide +kernel
theorem dX8_palace_103 : decode cX8_palace 103 = .ok (.iinc 2 1, 3) := by decide +kernel
theorem dX8_palace_106 : decode cX8_palace 106 = .ok (.goto (-18), 3) := by decide +kernel
theorem dX8_palace_109 : decode cX8_palace 109 = .ok (.aload_n 0, 1) := by decide +kernel
theorem dX8_palace_110 : decode cX8_palace 110 = .ok (.getfield 19, 3) := by decide +kernel
theorem dX8_palace_113 : decode cX8_palace 113 = .ok (.getfield 98, 3) := by decide +kernel
theorem dX8_palace_116 : decode cX8_palace 116 = .ok (.ireturn, 1) := by decide +kernel
theorem dX8_fault_0 : decode cX8_fault 0 = .ok (.aload_n 0, 1) := by decide +kernel
theorem dX8_fault_1 : decode cX8_fault 1 = .ok (.getfield 10, 3) := by decide +kernel
theorem dX8_fault_4 : decode cX8_fault 4 = .ok (.getfield 101, 3) := by decide +kernel
theorem dX8_fault_7 : decode cX8_fault 7 = .ok (.ireturn, 1) := by decide +kernel
theorem dX8_told_0 : decode cX8_told 0 = .ok (.iload_n 1, 1) := by decide +kernel
theorem dX8_told_1 : decode cX8_told 1 = .ok (.tableswitch 253 0 15 #[79, 87, 95, 103, 111, 136, 144, 169, 180, 191, 202, 210, 218, 226, 237, 245], 79) := by decide +kernel
theorem dX8_told_80 : decode cX8_told 80 = .ok (.aload_n 0, 1) := by decide +kernel
theorem dX8_told_81 : decode cX8_told 81 = .ok (.getfield 19, 3) := by decide +kernel
theorem dX8_told_84 : decode cX8_told 84 = .ok (.getfield 98, 3) := by decide +kernel
theorem dX8_told_87 : decode cX8_told 87 = .ok (.ireturn, 1) := by decide +kernel
theorem dX8_told_88 : decode cX8_told 88 = .ok (.aload_n 0, 1) := by decide +kernel
theorem dX8_told_89 : decode cX8_told 89 = .ok (.getfield 19, 3) := by decide +kernel
theorem dX8_told_92 : decode cX8_told 92 = .ok (.getfield 104, 3) := by decide +kernel
theorem dX8_told_95 : decode cX8_told 95 = .ok (.ireturn, 1) := by decide +kernel
theorem dX8_told_96 : decode cX8_told 96 = .ok (.aload_n 0, 1) := by decide +kernel
theorem dX8_told_97 : decode cX8_told 97 = .ok (.getfield 19, 3) := by decide +kernel
theorem dX8_told_100 : decode cX8_told 100 = .ok (.getfield 107, 3) := by decide +kernel
theorem dX8_told_103 : decode cX8_told 103 = .ok (.ireturn, 1) := by decide +kernel
theorem dX8_told_104 : decode cX8_told 104 = .ok (.aload_n 0, 1) := by decide +kernel
theorem dX8_told_105 : decode cX8_told 105 = .ok (.getfield 10, 3) := by decide +kernel
theorem dX8_told_108 : decode cX8_told 108 = .ok (.getfield 66, 3) := by decide +kernel
theorem dX8_told_111 : decode cX8_told 111 = .ok (.ireturn, 1) := by decide +kernel
theorem dX8_told_112 : decode cX8_told 112 = .ok (.aload_n 0, 1) := by decide +kernel
theorem dX8_told_113 : decode cX8_told 113 = .ok (.getfield 19, 3) := by decide +kernel
theorem dX8_told_116 : decode cX8_told 116 = .ok (.getfield 110, 3) := by decide +kernel
theorem dX8_told_119 : decode cX8_told 119 = .ok (.ifCond .eq 16, 3) := by decide +kernel
theorem dX8_told_122 : decode cX8_told 122 = .ok (.aload_n 0, 1) := by decide +kernel
theorem dX8_told_123 : decode cX8_told 123 = .ok (.getfield 26, 3) := by decide +kernel
theorem dX8_told_126 : decode cX8_told 126 = .ok (.getfield 113, 3) := by decide +kernel
theorem dX8_told_129 : decode cX8_told 129 = .ok (.getfield 116, 3) := by decide +kernel
theorem dX8_told_132 : decode cX8_told 132 = .ok (.goto 4, 3) := by decide +kernel
theorem dX8_told_135 : decode cX8_told 135 = .ok (.iconst (-1), 1) := by decide +kernel
theorem dX8_told_136 : decode cX8_told 136 = .ok (.ireturn, 1) := by decide +kernel
theorem dX8_told_137 : decode cX8_told 137 = .ok (.aload_n 0, 1) := by decide +kernel
theorem dX8_told_138 : decode cX8_told 138 = .ok (.getfield 26, 3) := by decide +kernel
theorem dX8_told_141 : decode cX8_told 141 = .ok (.getfield 119, 3) := by decide +kernel
theorem dX8_told_144 : decode cX8_told 144 = .ok (.ireturn, 1) := by decide +kernel
theorem dX8_told_145 : decode cX8_told 145 = .ok (.aload_n 0, 1) := by decide +kernel
theorem dX8_told_146 : decode cX8_told 146 = .ok (.getfield 19, 3) := by decide +kernel
theorem dX8_told_149 : decode cX8_told 149 = .ok (.getfield 98, 3) := by decide +kernel
theorem dX8_told_152 : decode cX8_told 152 = .ok (.ifCond .le 16, 3) := by decide +kernel
theorem dX8_told_155 : decode cX8_told 155 = .ok (.aload_n 0, 1) := by decide +kernel
theorem dX8_told_156 : decode cX8_told 156 = .ok (.getfield 26, 3) := by decide +kernel
theorem dX8_told_159 : decode cX8_told 159 = .ok (.getfield 113, 3) := by decide +kernel
theorem dX8_told_162 : decode cX8_told 162 = .ok (.getfield 122, 3) := by decide +kernel
theorem dX8_told_165 : decode cX8_told 165 = .ok (.goto 4, 3) := by decide +kernel
theorem dX8_told_168 : decode cX8_told 168 = .ok (.iconst (-1), 1) := by decide +kernel
theorem dX8_told_169 : decode cX8_told 169 = .ok (.ireturn, 1) := by decide +kernel
theorem dX8_told_170 : decode cX8_told 170 = .ok (.aload_n 0, 1) := by decide +kernel
theorem dX8_told_171 : decode cX8_told 171 = .ok (.getfield 26, 3) := by decide +kernel
theorem dX8_told_174 : decode cX8_told 174 = .ok (.getfield 113, 3) := by decide +kernel
theorem dX8_told_177 : decode cX8_told 177 = .ok (.getfield 125, 3) := by decide +kernel
theorem dX8_told_180 : decode cX8_told 180 = .ok (.ireturn, 1) := by decide +kernel
theorem dX8_told_181 : decode cX8_told 181 = .ok (.aload_n 0, 1) := by decide +kernel
theorem dX8_told_182 : decode cX8_told 182 = .ok (.getfield 26, 3) := by decide +kernel
theorem dX8_told_185 : decode cX8_told 185 = .ok (.getfield 113, 3) := by decide +kernel
theorem dX8_told_188 : decode cX8_told 188 = .ok (.getfield 128, 3) := by decide +kernel
theorem dX8_told_191 : decode cX8_told 191 = .ok (.ireturn, 1) := by decide +kernel
theorem dX8_told_192 : decode cX8_told 192 = .ok (.aload_n 0, 1) := by decide +kernel
theorem dX8_told_193 : decode cX8_told 193 = .ok (.getfield 26, 3) := by decide +kernel
theorem dX8_told_196 : decode cX8_told 196 = .ok (.getfield 113, 3) := by decide +kernel
theorem dX8_told_199 : decode cX8_told 199 = .ok (.getfield 131, 3) := by decide +kernel
theorem dX8_told_202 : decode cX8_told 202 = .ok (.ireturn, 1) := by decide +kernel
theorem dX8_told_203 : decode cX8_told 203 = .ok (.aload_n 0, 1) := by decide +kernel
theorem dX8_told_204 : decode cX8_told 204 = .ok (.getfield 26, 3) := by decide +kernel
theorem dX8_told_207 : decode cX8_told 207 = .ok (.getfield 134, 3) := by decide +kernel
theorem dX8_told_210 : decode cX8_told 210 = .ok (.ireturn, 1) := by decide +kernel
theorem dX8_told_211 : decode cX8_told 211 = .ok (.aload_n 0, 1) := by decide +kernel
theorem dX8_told_212 : decode cX8_told 212 = .ok (.getfield 26, 3) := by decide +kernel
theorem dX8_told_215 : decode cX8_told 215 = .ok (.getfield 137, 3) := by decide +kernel
theorem dX8_told_218 : decode cX8_told 218 = .ok (.ireturn, 1) := by decide +kernel
theorem dX8_told_219 : decode cX8_told 219 = .ok (.aload_n 0, 1) := by decide +kernel
theorem dX8_told_220 : decode cX8_told 220 = .ok (.getfield 26, 3) := by decide +kernel
theorem dX8_told_223 : decode cX8_told 223 = .ok (.getfield 140, 3) := by decide +kernel
theorem dX8_told_226 : decode cX8_told 226 = .ok (.ireturn, 1) := by decide +kernel
theorem dX8_told_227 : decode cX8_told 227 = .ok (.aload_n 0, 1) := by decide +kernel
theorem dX8_told_228 : decode cX8_told 228 = .ok (.getfield 26, 3) := by decide +kernel
theorem dX8_told_231 : decode cX8_told 231 = .ok (.getfield 143, 3) := by decide +kernel
theorem dX8_told_234 : decode cX8_told 234 = .ok (.getfield 147, 3) := by decide +kernel
theorem dX8_told_237 : decode cX8_told 237 = .ok (.ireturn, 1) := by decide +kernel
theorem dX8_told_238 : decode cX8_told 238 = .ok (.aload_n 0, 1) := by decide +kernel
theorem dX8_told_239 : decode cX8_told 239 = .ok (.getfield 46, 3) := by decide +kernel
theorem dX8_told_242 : decode cX8_told 242 = .ok (.getfield 91, 3) := by decide +kernel
theorem dX8_told_245 : decode cX8_told 245 = .ok (.ireturn, 1) := by decide +kernel
theorem dX8_told_246 : decode cX8_told 246 = .ok (.aload_n 0, 1) := by decide +kernel
theorem dX8_told_247 : decode cX8_told 247 = .ok (.getfield 33, 3) := by decide +kernel
theorem dX8_told_250 : decode cX8_told 250 = .ok (.getfield 150, 3) := by decide +kernel
theorem dX8_told_253 : decode cX8_told 253 = .ok (.ireturn, 1) := by decide +kernel
theorem dX8_told_254 : decode cX8_told 254 = .ok (.ldc 65, 2) := by decide +kernel
theorem dX8_told_256 : decode cX8_told 256 = .ok (.ireturn, 1) := by decide +kernel
theorem dX8_room_0 : decode cX8_room 0 = .ok (.aload_n 0, 1) := by decide +kernel
theorem dX8_room_1 : decode cX8_room 1 = .ok (.iload_n 1, 1) := by decide +kernel
theorem dX8_room_2 : decode cX8_room 2 = .ok (.invokevirtual 151, 3) := by decide +kernel
theorem dX8_room_5 : decode cX8_room 5 = .ok (.ifCond .eq 6, 3) := by decide +kernel
theorem dX8_room_8 : decode cX8_room 8 = .ok (.ldc 155, 2) := by decide +kernel
theorem dX8_room_10 : decode cX8_room 10 = .ok (.ireturn, 1) := by decide +kernel
theorem dX8_room_11 : decode cX8_room 11 = .ok (.iload_n 2, 1) := by decide +kernel
theorem dX8_room_12 : decode cX8_room 12 = .ok (.tableswitch 101 0 4 #[36, 51, 61, 73, 86], 36) := by decide +kernel
theorem dX8_room_48 : decode cX8_room 48 = .ok (.aload_n 0, 1) := by decide +kernel
theorem dX8_room_49 : decode cX8_room 49 = .ok (.getfield 26, 3) := by decide +kernel
theorem dX8_room_52 : decode cX8_room 52 = .ok (.getfield 113, 3) := by decide +kernel
theorem dX8_room_55 : decode cX8_room 55 = .ok (.getfield 156, 3) := by decide +kernel
theorem dX8_room_58 : decode cX8_room 58 = .ok (.iload_n 1, 1) := by decide +kernel
theorem dX8_room_59 : decode cX8_room 59 = .ok (.invokestatic 159, 3) := by decide +kernel
theorem dX8_room_62 : decode cX8_room 62 = .ok (.ireturn, 1) := by decide +kernel
theorem dX8_room_63 : decode cX8_room 63 = .ok (.aload_n 0, 1) := by decide +kernel
theorem dX8_room_64 : decode cX8_room 64 = .ok (.getfield 26, 3) := by decide +kernel
theorem dX8_room_67 : decode cX8_room 67 = .ok (.getfield 163, 3) := by decide +kernel
theorem dX8_room_70 : decode cX8_room 70 = .ok (.iload_n 1, 1) := by decide +kernel
theorem dX8_room_71 : decode cX8_room 71 = .ok (.iaload, 1) := by decide +kernel
theorem dX8_room_72 : decode cX8_room 72 = .ok (.ireturn, 1) := by decide +kernel
theorem dX8_room_73 : decode cX8_room 73 = .ok (.aload_n 0, 1) := by decide +kernel
theorem dX8_room_74 : decode cX8_room 74 = .ok (.getfield 26, 3) := by decide +kernel
theorem dX8_room_77 : decode cX8_room 77 = .ok (.getfield 113, 3) := by decide +kernel
theorem dX8_room_80 : decode cX8_room 80 = .ok (.iload_n 1, 1) := by decide +kernel
theorem dX8_room_81 : decode cX8_room 81 = .ok (.invokevirtual 166, 3) := by decide +kernel
theorem dX8_room_84 : decode cX8_room 84 = .ok (.ireturn, 1) := by decide +kernel
theorem dX8_room_85 : decode cX8_room 85 = .ok (.aload_n 0, 1) := by decide +kernel
theorem dX8_room_86 : decode cX8_room 86 = .ok (.getfield 26, 3) := by decide +kernel
theorem dX8_room_89 : decode cX8_room 89 = .ok (.getfield 113, 3) := by decide +kernel
theorem dX8_room_92 : decode cX8_room 92 = .ok (.getfield 170, 3) := by decide +kernel
theorem dX8_room_95 : decode cX8_room 95 = .ok (.iload_n 1, 1) := by decide +kernel
theorem dX8_room_96 : decode cX8_room 96 = .ok (.iaload, 1) := by decide +kernel
theorem dX8_room_97 : decode cX8_room 97 = .ok (.ireturn, 1) := by decide +kernel
theorem dX8_room_98 : decode cX8_room 98 = .ok (.aload_n 0, 1) := by decide +kernel
theorem dX8_room_99 : decode cX8_room 99 = .ok (.getfield 26, 3) := by decide +kernel
theorem dX8_room_102 : decode cX8_room 102 = .ok (.getfield 113, 3) := by decide +kernel
theorem dX8_room_105 : decode cX8_room 105 = .ok (.getfield 131, 3) := by decide +kernel
theorem dX8_room_108 : decode cX8_room 108 = .ok (.iload_n 1, 1) := by decide +kernel
theorem dX8_room_109 : decode cX8_room 109 = .ok (.invokestatic 173, 3) := by decide +kernel
theorem dX8_room_112 : decode cX8_room 112 = .ok (.ireturn, 1) := by decide +kernel
theorem dX8_room_113 : decode cX8_room 113 = .ok (.ldc 65, 2) := by decide +kernel
theorem dX8_room_115 : decode cX8_room 115 = .ok (.ireturn, 1) := by decide +kernel
theorem dX8_petition_0 : decode cX8_petition 0 = .ok (.aload_n 0, 1) := by decide +kernel
theorem dX8_petition_1 : decode cX8_petition 1 = .ok (.iload_n 1, 1) := by decide +kernel
theorem dX8_petition_2 : decode cX8_petition 2 = .ok (.invokevirtual 176, 3) := by decide +kernel
theorem dX8_petition_5 : decode cX8_petition 5 = .ok (.ifCond .eq 6, 3) := by decide +kernel
theorem dX8_petition_8 : decode cX8_petition 8 = .ok (.ldc 155, 2) := by decide +kernel
theorem dX8_petition_10 : decode cX8_petition 10 = .ok (.ireturn, 1) := by decide +kernel
theorem dX8_petition_11 : decode cX8_petition 11 = .ok (.iload_n 2, 1) := by decide +kernel
theorem dX8_petition_12 : decode cX8_petition 12 = .ok (.tableswitch 60 0 2 #[28, 38, 48], 28) := by decide +kernel
theorem dX8_petition_40 : decode cX8_petition 40 = .ok (.aload_n 0, 1) := by decide +kernel
theorem dX8_petition_41 : decode cX8_petition 41 = .ok (.getfield 26, 3) := by decide +kernel
theorem dX8_petition_44 : decode cX8_petition 44 = .ok (.getfield 179, 3) := by decide +kernel
theorem dX8_petition_47 : decode cX8_petition 47 = .ok (.iload_n 1, 1) := by decide +kernel
theorem dX8_petition_48 : decode cX8_petition 48 = .ok (.iaload, 1) := by decide +kernel
theorem dX8_petition_49 : decode cX8_petition 49 = .ok (.ireturn, 1) := by decide +kernel
theorem dX8_petition_50 : decode cX8_petition 50 = .ok (.aload_n 0, 1) := by decide +kernel
theorem dX8_petition_51 : decode cX8_petition 51 = .ok (.getfield 19, 3) := by decide +kernel
theorem dX8_petition_54 : decode cX8_petition 54 = .ok (.getfield 182, 3) := by decide +kernel
theorem dX8_petition_57 : decode cX8_petition 57 = .ok (.iload_n 1, 1) := by decide +kernel
theorem dX8_petition_58 : decode cX8_petition 58 = .ok (.iaload, 1) := by decide +kernel
theorem dX8_petition_59 : decode cX8_petition 59 = .ok (.ireturn, 1) := by decide +kernel
theorem dX8_petition_60 : decode cX8_petition 60 = .ok (.aload_n 0, 1) := by decide +kernel
theorem dX8_petition_61 : decode cX8_petition 61 = .ok (.getfield 26, 3) := by decide +kernel
theorem dX8_petition_64 : decode cX8_petition 64 = .ok (.getfield 137, 3) := by decide +kernel
theorem dX8_petition_67 : decode cX8_petition 67 = .ok (.iload_n 1, 1) := by decide +kernel
theorem dX8_petition_68 : decode cX8_petition 68 = .ok (.invokestatic 173, 3) := by decide +kernel
theorem dX8_petition_71 : decode cX8_petition 71 = .ok (.ireturn, 1) := by decide +kernel
theorem dX8_petition_72 : decode cX8_petition 72 = .ok (.ldc 65, 2) := by decide +kernel
theorem dX8_petition_74 : decode cX8_petition 74 = .ok (.ireturn, 1) := by decide +kernel
theorem dX8_went_0 : decode cX8_went 0 = .ok (.iload_n 1, 1) := by decide +kernel
theorem dX8_went_1 : decode cX8_went 1 = .ok (.ifCond .lt 17, 3) := by decide +kernel
theorem dX8_went_4 : decode cX8_went 4 = .ok (.iload_n 1, 1) := by decide +kernel
theorem dX8_went_5 : decode cX8_went 5 = .ok (.aload_n 0, 1) := by decide +kernel
theorem dX8_went_6 : decode cX8_went 6 = .ok (.getfield 26, 3) := by decide +kernel
theorem dX8_went_9 : decode cX8_went 9 = .ok (.getfield 143, 3) := by decide +kernel
theorem dX8_went_12 : decode cX8_went 12 = .ok (.getfield 147, 3) := by decide +kernel
theorem dX8_went_15 : decode cX8_went 15 = .ok (.if_icmp .lt 5, 3) := by decide +kernel
theorem dX8_went_18 : decode cX8_went 18 = .ok (.iconst (-1), 1) := by decide +kernel
theorem dX8_went_19 : decode cX8_went 19 = .ok (.ireturn, 1) := by decide +kernel
theorem dX8_went_20 : decode cX8_went 20 = .ok (.aload_n 0, 1) := by decide +kernel
theorem dX8_went_21 : decode cX8_went 21 = .ok (.getfield 26, 3) := by decide +kernel
theorem dX8_went_24 : decode cX8_went 24 = .ok (.getfield 143, 3) := by decide +kernel
theorem dX8_went_27 : decode cX8_went 27 = .ok (.iload_n 1, 1) := by decide +kernel
theorem dX8_went_28 : decode cX8_went 28 = .ok (.invokevirtual 185, 3) := by decide +kernel
theorem dX8_went_31 : decode cX8_went 31 = .ok (.ireturn, 1) := by decide +kernel
theorem dX8_hour_0 : decode cX8_hour 0 = .ok (.aload_n 0, 1) := by decide +kernel
theorem dX8_hour_1 : decode cX8_hour 1 = .ok (.iload_n 1, 1) := by decide +kernel
theorem dX8_hour_2 : decode cX8_hour 2 = .ok (.invokevirtual 188, 3) := by decide +kernel
theorem dX8_hour_5 : decode cX8_hour 5 = .ok (.istore_n 2, 1) := by decide +kernel
theorem dX8_hour_6 : decode cX8_hour 6 = .ok (.iload_n 2, 1) := by decide +kernel
theorem dX8_hour_7 : decode cX8_hour 7 = .ok (.ifCond .eq 5, 3) := by decide +kernel
theorem dX8_hour_10 : decode cX8_hour 10 = .ok (.iload_n 2, 1) := by decide +kernel
theorem dX8_hour_11 : decode cX8_hour 11 = .ok (.ireturn, 1) := by decide +kernel
theorem dX8_hour_12 : decode cX8_hour 12 = .ok (.aload_n 0, 1) := by decide +kernel
theorem dX8_hour_13 : decode cX8_hour 13 = .ok (.getfield 33, 3) := by decide +kernel
theorem dX8_hour_16 : decode cX8_hour 16 = .ok (.aload_n 0, 1) := by decide +kernel
theorem dX8_hour_17 : decode cX8_hour 17 = .ok (.getfield 26, 3) := by decide +kernel
theorem dX8_hour_20 : decode cX8_hour 20 = .ok (.invokevirtual 191, 3) := by decide +kernel
theorem dX8_hour_23 : decode cX8_hour 23 = .ok (.iconst 0, 1) := by decide +kernel
theorem dX8_hour_24 : decode cX8_hour 24 = .ok (.istore_n 3, 1) := by decide +kernel
theorem dX8_hour_25 : decode cX8_hour 25 = .ok (.iload_n 3, 1) := by decide +kernel
theorem dX8_hour_26 : decode cX8_hour 26 = .ok (.iload_n 1, 1) := by decide +kernel
theorem dX8_hour_27 : decode cX8_hour 27 = .ok (.if_icmp .ge 20, 3) := by decide +kernel
theorem dX8_hour_30 : decode cX8_hour 30 = .ok (.aload_n 0, 1) := by decide +kernel
theorem dX8_hour_31 : decode cX8_hour 31 = .ok (.getfield 26, 3) := by decide +kernel
theorem dX8_hour_34 : decode cX8_hour 34 = .ok (.aload_n 0, 1) := by decide +kernel
theorem dX8_hour_35 : decode cX8_hour 35 = .ok (.getfield 19, 3) := by decide +kernel
theorem dX8_hour_38 : decode cX8_hour 38 = .ok (.invokevirtual 195, 3) := by decide +kernel
theorem dX8_hour_41 : decode cX8_hour 41 = .ok (.iinc 3 1, 3) := by decide +kernel
theorem dX8_hour_44 : decode cX8_hour 44 = .ok (.goto (-19), 3) := by decide +kernel
theorem dX8_hour_47 : decode cX8_hour 47 = .ok (.aload_n 0, 1) := by decide +kernel
theorem dX8_hour_48 : decode cX8_hour 48 = .ok (.getfield 26, 3) := by decide +kernel
theorem dX8_hour_51 : decode cX8_hour 51 = .ok (.getfield 113, 3) := by decide +kernel
theorem dX8_hour_54 : decode cX8_hour 54 = .ok (.getfield 122, 3) := by decide +kernel
theorem dX8_hour_57 : decode cX8_hour 57 = .ok (.ireturn, 1) := by decide +kernel
theorem dX8_carpet_0 : decode cX8_carpet 0 = .ok (.aload_n 0, 1) := by decide +kernel
theorem dX8_carpet_1 : decode cX8_carpet 1 = .ok (.iload_n 1, 1) := by decide +kernel
theorem dX8_carpet_2 : decode cX8_carpet 2 = .ok (.invokevirtual 151, 3) := by decide +kernel
theorem dX8_carpet_5 : decode cX8_carpet 5 = .ok (.ifCond .eq 6, 3) := by decide +kernel
theorem dX8_carpet_8 : decode cX8_carpet 8 = .ok (.ldc 155, 2) := by decide +kernel
theorem dX8_carpet_10 : decode cX8_carpet 10 = .ok (.ireturn, 1) := by decide +kernel
theorem dX8_carpet_11 : decode cX8_carpet 11 = .ok (.aload_n 0, 1) := by decide +kernel
theorem dX8_carpet_12 : decode cX8_carpet 12 = .ok (.getfield 33, 3) := by decide +kernel
theorem dX8_carpet_15 : decode cX8_carpet 15 = .ok (.aload_n 0, 1) := by decide +kernel
theorem dX8_carpet_16 : decode cX8_carpet 16 = .ok (.getfield 26, 3) := by decide +kernel
theorem dX8_carpet_19 : decode cX8_carpet 19 = .ok (.invokevirtual 191, 3) := by decide +kernel
theorem dX8_carpet_22 : decode cX8_carpet 22 = .ok (.aload_n 0, 1) := by decide +kernel
theorem dX8_carpet_23 : decode cX8_carpet 23 = .ok (.getfield 26, 3) := by decide +kernel
theorem dX8_carpet_26 : decode cX8_carpet 26 = .ok (.getfield 113, 3) := by decide +kernel
theorem dX8_carpet_29 : decode cX8_carpet 29 = .ok (.getfield 128, 3) := by decide +kernel
theorem dX8_carpet_32 : decode cX8_carpet 32 = .ok (.iload_n 1, 1) := by decide +kernel
theorem dX8_carpet_33 : decode cX8_carpet 33 = .ok (.invokestatic 173, 3) := by decide +kernel
theorem dX8_carpet_36 : decode cX8_carpet 36 = .ok (.istore_n 3, 1) := by decide +kernel
theorem dX8_carpet_37 : decode cX8_carpet 37 = .ok (.aload_n 0, 1) := by decide +kernel
theorem dX8_carpet_38 : decode cX8_carpet 38 = .ok (.getfield 26, 3) := by decide +kernel
theorem dX8_carpet_41 : decode cX8_carpet 41 = .ok (.getfield 113, 3) := by decide +kernel
theorem dX8_carpet_44 : decode cX8_carpet 44 = .ok (.aload_n 0, 1) := by decide +kernel
theorem dX8_carpet_45 : decode cX8_carpet 45 = .ok (.getfield 26, 3) := by decide +kernel
theorem dX8_carpet_48 : decode cX8_carpet 48 = .ok (.getfield 113, 3) := by decide +kernel
theorem dX8_carpet_51 : decode cX8_carpet 51 = .ok (.getfield 128, 3) := by decide +kernel
theorem dX8_carpet_54 : decode cX8_carpet 54 = .ok (.iload_n 1, 1) := by decide +kernel
theorem dX8_carpet_55 : decode cX8_carpet 55 = .ok (.iload_n 2, 1) := by decide +kernel
theorem dX8_carpet_56 : decode cX8_carpet 56 = .ok (.invokestatic 198, 3) := by decide +kernel
theorem dX8_carpet_59 : decode cX8_carpet 59 = .ok (.putfield 128, 3) := by decide +kernel
theorem dX8_carpet_62 : decode cX8_carpet 62 = .ok (.iload_n 3, 1) := by decide +kernel
theorem dX8_carpet_63 : decode cX8_carpet 63 = .ok (.ireturn, 1) := by decide +kernel
theorem dX8_noise_0 : decode cX8_noise 0 = .ok (.aload_n 0, 1) := by decide +kernel
theorem dX8_noise_1 : decode cX8_noise 1 = .ok (.iload_n 1, 1) := by decide +kernel
theorem dX8_noise_2 : decode cX8_noise 2 = .ok (.invokevirtual 151, 3) := by decide +kernel
theorem dX8_noise_5 : decode cX8_noise 5 = .ok (.ifCond .eq 6, 3) := by decide +kernel
theorem dX8_noise_8 : decode cX8_noise 8 = .ok (.ldc 155, 2) := by decide +kernel
theorem dX8_noise_10 : decode cX8_noise 10 = .ok (.ireturn, 1) := by decide +kernel
theorem dX8_noise_11 : decode cX8_noise 11 = .ok (.iload_n 2, 1) := by decide +kernel
theorem dX8_noise_12 : decode cX8_noise 12 = .ok (.ifCond .lt 9, 3) := by decide +kernel
theorem dX8_noise_15 : decode cX8_noise 15 = .ok (.iload_n 2, 1) := by decide +kernel
theorem dX8_noise_16 : decode cX8_noise 16 = .ok (.bipush 9, 2) := by decide +kernel
theorem dX8_noise_18 : decode cX8_noise 18 = .ok (.if_icmp .le 6, 3) := by decide +kernel
theorem dX8_noise_21 : decode cX8_noise 21 = .ok (.ldc 65, 2) := by decide +kernel
theorem dX8_noise_23 : decode cX8_noise 23 = .ok (.ireturn, 1) := by decide +kernel
theorem dX8_noise_24 : decode cX8_noise 24 = .ok (.aload_n 0, 1) := by decide +kernel
theorem dX8_noise_25 : decode cX8_noise 25 = .ok (.getfield 33, 3) := by decide +kernel
theorem dX8_noise_28 : decode cX8_noise 28 = .ok (.aload_n 0, 1) := by decide +kernel
theorem dX8_noise_29 : decode cX8_noise 29 = .ok (.getfield 26, 3) := by decide +kernel
theorem dX8_noise_32 : decode cX8_noise 32 = .ok (.invokevirtual 191, 3) := by decide +kernel
theorem dX8_noise_35 : decode cX8_noise 35 = .ok (.aload_n 0, 1) := by decide +kernel
theorem dX8_noise_36 : decode cX8_noise 36 = .ok (.getfield 26, 3) := by decide +kernel
theorem dX8_noise_39 : decode cX8_noise 39 = .ok (.getfield 113, 3) := by decide +kernel
theorem dX8_noise_42 : decode cX8_noise 42 = .ok (.getfield 156, 3) := by decide +kernel
theorem dX8_noise_45 : decode cX8_noise 45 = .ok (.iload_n 1, 1) := by decide +kernel
theorem dX8_noise_46 : decode cX8_noise 46 = .ok (.invokestatic 159, 3) := by decide +kernel
theorem dX8_noise_49 : decode cX8_noise 49 = .ok (.istore_n 3, 1) := by decide +kernel
theorem dX8_noise_50 : decode cX8_noise 50 = .ok (.aload_n 0, 1) := by decide +kernel
theorem dX8_noise_51 : decode cX8_noise 51 = .ok (.getfield 26, 3) := by decide +kernel
theorem dX8_noise_54 : decode cX8_noise 54 = .ok (.getfield 113, 3) := by decide +kernel
theorem dX8_noise_57 : decode cX8_noise 57 = .ok (.aload_n 0, 1) := by decide +kernel
theorem dX8_noise_58 : decode cX8_noise 58 = .ok (.getfield 26, 3) := by decide +kernel
theorem dX8_noise_61 : decode cX8_noise 61 = .ok (.getfield 113, 3) := by decide +kernel
theorem dX8_noise_64 : decode cX8_noise 64 = .ok (.getfield 156, 3) := by decide +kernel
theorem dX8_noise_67 : decode cX8_noise 67 = .ok (.iload_n 1, 1) := by decide +kernel
theorem dX8_noise_68 : decode cX8_noise 68 = .ok (.iload_n 2, 1) := by decide +kernel
theorem dX8_noise_69 : decode cX8_noise 69 = .ok (.invokestatic 202, 3) := by decide +kernel
theorem dX8_noise_72 : decode cX8_noise 72 = .ok (.putfield 156, 3) := by decide +kernel
theorem dX8_noise_75 : decode cX8_noise 75 = .ok (.iload_n 3, 1) := by decide +kernel
theorem dX8_noise_76 : decode cX8_noise 76 = .ok (.ireturn, 1) := by decide +kernel
theorem dX8_nail_0 : decode cX8_nail 0 = .ok (.aload_n 0, 1) := by decide +kernel
theorem dX8_nail_1 : decode cX8_nail 1 = .ok (.iload_n 1, 1) := by decide +kernel
theorem dX8_nail_2 : decode cX8_nail 2 = .ok (.invokevirtual 151, 3) := by decide +kernel
theorem dX8_nail_5 : decode cX8_nail 5 = .ok (.ifCond .eq 6, 3) := by decide +kernel
theorem dX8_nail_8 : decode cX8_nail 8 = .ok (.ldc 155, 2) := by decide +kernel
theorem dX8_nail_10 : decode cX8_nail 10 = .ok (.ireturn, 1) := by decide +kernel
theorem dX8_nail_11 : decode cX8_nail 11 = .ok (.aload_n 0, 1) := by decide +kernel
theorem dX8_nail_12 : decode cX8_nail 12 = .ok (.getfield 33, 3) := by decide +kernel
theorem dX8_nail_15 : decode cX8_nail 15 = .ok (.aload_n 0, 1) := by decide +kernel
theorem dX8_nail_16 : decode cX8_nail 16 = .ok (.getfield 26, 3) := by decide +kernel
theorem dX8_nail_19 : decode cX8_nail 19 = .ok (.invokevirtual 191, 3) := by decide +kernel
theorem dX8_nail_22 : decode cX8_nail 22 = .ok (.aload_n 0, 1) := by decide +kernel
theorem dX8_nail_23 : decode cX8_nail 23 = .ok (.getfield 26, 3) := by decide +kernel
theorem dX8_nail_26 : decode cX8_nail 26 = .ok (.getfield 113, 3) := by decide +kernel
theorem dX8_nail_29 : decode cX8_nail 29 = .ok (.getfield 131, 3) := by decide +kernel
theorem dX8_nail_32 : decode cX8_nail 32 = .ok (.iload_n 1, 1) := by decide +kernel
theorem dX8_nail_33 : decode cX8_nail 33 = .ok (.invokestatic 173, 3) := by decide +kernel
theorem dX8_nail_36 : decode cX8_nail 36 = .ok (.istore_n 3, 1) := by decide +kernel
theorem dX8_nail_37 : decode cX8_nail 37 = .ok (.aload_n 0, 1) := by decide +kernel
theorem dX8_nail_38 : decode cX8_nail 38 = .ok (.getfield 26, 3) := by decide +kernel
theorem dX8_nail_41 : decode cX8_nail 41 = .ok (.getfield 113, 3) := by decide +kernel
theorem dX8_nail_44 : decode cX8_nail 44 = .ok (.aload_n 0, 1) := by decide +kernel
theorem dX8_nail_45 : decode cX8_nail 45 = .ok (.getfield 26, 3) := by decide +kernel
theorem dX8_nail_48 : decode cX8_nail 48 = .ok (.getfield 113, 3) := by decide +kernel
theorem dX8_nail_51 : decode cX8_nail 51 = .ok (.getfield 131, 3) := by decide +kernel
theorem dX8_nail_54 : decode cX8_nail 54 = .ok (.iload_n 1, 1) := by decide +kernel
theorem dX8_nail_55 : decode cX8_nail 55 = .ok (.iload_n 2, 1) := by decide +kernel
theorem dX8_nail_56 : decode cX8_nail 56 = .ok (.invokestatic 198, 3) := by decide +kernel
theorem dX8_nail_59 : decode cX8_nail 59 = .ok (.putfield 131, 3) := by decide +kernel
theorem dX8_nail_62 : decode cX8_nail 62 = .ok (.iload_n 3, 1) := by decide +kernel
theorem dX8_nail_63 : decode cX8_nail 63 = .ok (.ireturn, 1) := by decide +kernel
theorem dX8_brick_0 : decode cX8_brick 0 = .ok (.iload_n 1, 1) := by decide +kernel
theorem dX8_brick_1 : decode cX8_brick 1 = .ok (.ifCond .lt 14, 3) := by decide +kernel
theorem dX8_brick_4 : decode cX8_brick 4 = .ok (.iload_n 1, 1) := by decide +kernel
theorem dX8_brick_5 : decode cX8_brick 5 = .ok (.aload_n 0, 1) := by decide +kernel
theorem dX8_brick_6 : decode cX8_brick 6 = .ok (.getfield 19, 3) := by decide +kernel
theorem dX8_brick_9 : decode cX8_brick 9 = .ok (.getfield 104, 3) := by decide +kernel
theorem dX8_brick_12 : decode cX8_brick 12 = .ok (.if_icmp .lt 6, 3) := by decide +kernel
theorem dX8_brick_15 : decode cX8_brick 15 = .ok (.ldc 155, 2) := by decide +kernel
theorem dX8_brick_17 : decode cX8_brick 17 = .ok (.ireturn, 1) := by decide +kernel
theorem dX8_brick_18 : decode cX8_brick 18 = .ok (.aload_n 0, 1) := by decide +kernel
theorem dX8_brick_19 : decode cX8_brick 19 = .ok (.getfield 33, 3) := by decide +kernel
theorem dX8_brick_22 : decode cX8_brick 22 = .ok (.aload_n 0, 1) := by decide +kernel
theorem dX8_brick_23 : decode cX8_brick 23 = .ok (.getfield 26, 3) := by decide +kernel
theorem dX8_brick_26 : decode cX8_brick 26 = .ok (.invokevirtual 191, 3) := by decide +kernel
theorem dX8_brick_29 : decode cX8_brick 29 = .ok (.aload_n 0, 1) := by decide +kernel
theorem dX8_brick_30 : decode cX8_brick 30 = .ok (.getfield 26, 3) := by decide +kernel
theorem dX8_brick_33 : decode cX8_brick 33 = .ok (.getfield 134, 3) := by decide +kernel
theorem dX8_brick_36 : decode cX8_brick 36 = .ok (.iload_n 1, 1) := by decide +kernel
theorem dX8_brick_37 : decode cX8_brick 37 = .ok (.invokestatic 173, 3) := by decide +kernel
theorem dX8_brick_40 : decode cX8_brick 40 = .ok (.istore_n 3, 1) := by decide +kernel
theorem dX8_brick_41 : decode cX8_brick 41 = .ok (.aload_n 0, 1) := by decide +kernel
theorem dX8_brick_42 : decode cX8_brick 42 = .ok (.getfield 26, 3) := by decide +kernel
theorem dX8_brick_45 : decode cX8_brick 45 = .ok (.aload_n 0, 1) := by decide +kernel
theorem dX8_brick_46 : decode cX8_brick 46 = .ok (.getfield 26, 3) := by decide +kernel
theorem dX8_brick_49 : decode cX8_brick 49 = .ok (.getfield 134, 3) := by decide +kernel
theorem dX8_brick_52 : decode cX8_brick 52 = .ok (.iload_n 1, 1) := by decide +kernel
theorem dX8_brick_53 : decode cX8_brick 53 = .ok (.iload_n 2, 1) := by decide +kernel
theorem dX8_brick_54 : decode cX8_brick 54 = .ok (.invokestatic 198, 3) := by decide +kernel
theorem dX8_brick_57 : decode cX8_brick 57 = .ok (.putfield 134, 3) := by decide +kernel
theorem dX8_brick_60 : decode cX8_brick 60 = .ok (.aload_n 0, 1) := by decide +kernel
theorem dX8_brick_61 : decode cX8_brick 61 = .ok (.getfield 26, 3) := by decide +kernel
theorem dX8_brick_64 : decode cX8_brick 64 = .ok (.getfield 113, 3) := by decide +kernel
theorem dX8_brick_67 : decode cX8_brick 67 = .ok (.aload_n 0, 1) := by decide +kernel
theorem dX8_brick_68 : decode cX8_brick 68 = .ok (.getfield 19, 3) := by decide +kernel
theorem dX8_brick_71 : decode cX8_brick 71 = .ok (.getfield 206, 3) := by decide +kernel
theorem dX8_brick_74 : decode cX8_brick 74 = .ok (.iload_n 1, 1) := by decide +kernel
theorem dX8_brick_75 : decode cX8_brick 75 = .ok (.iaload, 1) := by decide +kernel
theorem dX8_brick_76 : decode cX8_brick 76 = .ok (.aload_n 0, 1) := by decide +kernel
theorem dX8_brick_77 : decode cX8_brick 77 = .ok (.getfield 19, 3) := by decide +kernel
theorem dX8_brick_80 : decode cX8_brick 80 = .ok (.getfield 209, 3) := by decide +kernel
theorem dX8_brick_83 : decode cX8_brick 83 = .ok (.iload_n 1, 1) := by decide +kernel
theorem dX8_brick_84 : decode cX8_brick 84 = .ok (.iaload, 1) := by decide +kernel
theorem dX8_brick_85 : decode cX8_brick 85 = .ok (.iload_n 2, 1) := by decide +kernel
theorem dX8_brick_86 : decode cX8_brick 86 = .ok (.ifCond .ne 7, 3) := by decide +kernel
theorem dX8_brick_89 : decode cX8_brick 89 = .ok (.iconst 1, 1) := by decide +kernel
theorem dX8_brick_90 : decode cX8_brick 90 = .ok (.goto 4, 3) := by decide +kernel
theorem dX8_brick_93 : decode cX8_brick 93 = .ok (.iconst 0, 1) := by decide +kernel
theorem dX8_brick_94 : decode cX8_brick 94 = .ok (.invokevirtual 212, 3) := by decide +kernel
theorem dX8_brick_97 : decode cX8_brick 97 = .ok (.iload_n 3, 1) := by decide +kernel
theorem dX8_brick_98 : decode cX8_brick 98 = .ok (.ireturn, 1) := by decide +kernel
theorem dX8_chalk_0 : decode cX8_chalk 0 = .ok (.aload_n 0, 1) := by decide +kernel
theorem dX8_chalk_1 : decode cX8_chalk 1 = .ok (.iload_n 1, 1) := by decide +kernel
theorem dX8_chalk_2 : decode cX8_chalk 2 = .ok (.invokevirtual 176, 3) := by decide +kernel
theorem dX8_chalk_5 : decode cX8_chalk 5 = .ok (.ifCond .ne 11, 3) := by decide +kernel
theorem dX8_chalk_8 : decode cX8_chalk 8 = .ok (.aload_n 0, 1) := by decide +kernel
theorem dX8_chalk_9 : decode cX8_chalk 9 = .ok (.iload_n 2, 1) := by decide +kernel
theorem dX8_chalk_10 : decode cX8_chalk 10 = .ok (.invokevirtual 151, 3) := by decide +kernel
theorem dX8_chalk_13 : decode cX8_chalk 13 = .ok (.ifCond .eq 6, 3) := by decide +kernel
theorem dX8_chalk_16 : decode cX8_chalk 16 = .ok (.ldc 155, 2) := by decide +kernel
theorem dX8_chalk_18 : decode cX8_chalk 18 = .ok (.ireturn, 1) := by decide +kernel
theorem dX8_chalk_19 : decode cX8_chalk 19 = .ok (.aload_n 0, 1) := by decide +kernel
theorem dX8_chalk_20 : decode cX8_chalk 20 = .ok (.getfield 33, 3) := by decide +kernel
theorem dX8_chalk_23 : decode cX8_chalk 23 = .ok (.aload_n 0, 1) := by decide +kernel
theorem dX8_chalk_24 : decode cX8_chalk 24 = .ok (.getfield 26, 3) := by decide +kernel
theorem dX8_chalk_27 : decode cX8_chalk 27 = .ok (.invokevirtual 191, 3) := by decide +kernel
theorem dX8_chalk_30 : decode cX8_chalk 30 = .ok (.aload_n 0, 1) := by decide +kernel
theorem dX8_chalk_31 : decode cX8_chalk 31 = .ok (.getfield 26, 3) := by decide +kernel
theorem dX8_chalk_34 : decode cX8_chalk 34 = .ok (.getfield 179, 3) := by decide +kernel
theorem dX8_chalk_37 : decode cX8_chalk 37 = .ok (.iload_n 1, 1) := by decide +kernel
theorem dX8_chalk_38 : decode cX8_chalk 38 = .ok (.iaload, 1) := by decide +kernel
theorem dX8_chalk_39 : decode cX8_chalk 39 = .ok (.istore_n 3, 1) := by decide +kernel
theorem dX8_chalk_40 : decode cX8_chalk 40 = .ok (.aload_n 0, 1) := by decide +kernel
theorem dX8_chalk_41 : decode cX8_chalk 41 = .ok (.getfield 26, 3) := by decide +kernel
theorem dX8_chalk_44 : decode cX8_chalk 44 = .ok (.getfield 179, 3) := by decide +kernel
theorem dX8_chalk_47 : decode cX8_chalk 47 = .ok (.iload_n 1, 1) := by decide +kernel
theorem dX8_chalk_48 : decode cX8_chalk 48 = .ok (.iload_n 2, 1) := by decide +kernel
theorem dX8_chalk_49 : decode cX8_chalk 49 = .ok (.iastore, 1) := by decide +kernel
theorem dX8_chalk_50 : decode cX8_chalk 50 = .ok (.aload_n 0, 1) := by decide +kernel
theorem dX8_chalk_51 : decode cX8_chalk 51 = .ok (.getfield 26, 3) := by decide +kernel
theorem dX8_chalk_54 : decode cX8_chalk 54 = .ok (.aload_n 0, 1) := by decide +kernel
theorem dX8_chalk_55 : decode cX8_chalk 55 = .ok (.getfield 26, 3) := by decide +kernel
theorem dX8_chalk_58 : decode cX8_chalk 58 = .ok (.getfield 137, 3) := by decide +kernel
theorem dX8_chalk_61 : decode cX8_chalk 61 = .ok (.iload_n 1, 1) := by decide +kernel
theorem dX8_chalk_62 : decode cX8_chalk 62 = .ok (.iconst 0, 1) := by decide +kernel
theorem dX8_chalk_63 : decode cX8_chalk 63 = .ok (.invokestatic 198, 3) := by decide +kernel
theorem dX8_chalk_66 : decode cX8_chalk 66 = .ok (.putfield 137, 3) := by decide +kernel
theorem dX8_chalk_69 : decode cX8_chalk 69 = .ok (.iload_n 3, 1) := by decide +kernel
theorem dX8_chalk_70 : decode cX8_chalk 70 = .ok (.ireturn, 1) := by decide +kernel
theorem dX8_sole_0 : decode cX8_sole 0 = .ok (.aload_n 0, 1) := by decide +kernel
theorem dX8_sole_1 : decode cX8_sole 1 = .ok (.getfield 19, 3) := by decide +kernel
theorem dX8_sole_4 : decode cX8_sole 4 = .ok (.getfield 110, 3) := by decide +kernel
theorem dX8_sole_7 : decode cX8_sole 7 = .ok (.ifCond .ne 6, 3) := by decide +kernel
theorem dX8_sole_10 : decode cX8_sole 10 = .ok (.ldc 216, 2) := by decide +kernel
theorem dX8_sole_12 : decode cX8_sole 12 = .ok (.ireturn, 1) := by decide +kernel
theorem dX8_sole_13 : decode cX8_sole 13 = .ok (.aload_n 0, 1) := by decide +kernel
theorem dX8_sole_14 : decode cX8_sole 14 = .ok (.getfield 33, 3) := by decide +kernel
theorem dX8_sole_17 : decode cX8_sole 17 = .ok (.aload_n 0, 1) := by decide +kernel
theorem dX8_sole_18 : decode cX8_sole 18 = .ok (.getfield 26, 3) := by decide +kernel
theorem dX8_sole_21 : decode cX8_sole 21 = .ok (.invokevirtual 191, 3) := by decide +kernel
theorem dX8_sole_24 : decode cX8_sole 24 = .ok (.aload_n 0, 1) := by decide +kernel
theorem dX8_sole_25 : decode cX8_sole 25 = .ok (.getfield 26, 3) := by decide +kernel
theorem dX8_sole_28 : decode cX8_sole 28 = .ok (.getfield 113, 3) := by decide +kernel
theorem dX8_sole_31 : decode cX8_sole 31 = .ok (.getfield 125, 3) := by decide +kernel
theorem dX8_sole_34 : decode cX8_sole 34 = .ok (.istore_n 1, 1) := by decide +kernel
theorem dX8_sole_35 : decode cX8_sole 35 = .ok (.aload_n 0, 1) := by decide +kernel
theorem dX8_sole_36 : decode cX8_sole 36 = .ok (.getfield 26, 3) := by decide +kernel
theorem dX8_sole_39 : decode cX8_sole 39 = .ok (.getfield 113, 3) := by decide +kernel
theorem dX8_sole_42 : decode cX8_sole 42 = .ok (.iconst 0, 1) := by decide +kernel
theorem dX8_sole_43 : decode cX8_sole 43 = .ok (.putfield 125, 3) := by decide +kernel
theorem dX8_sole_46 : decode cX8_sole 46 = .ok (.iload_n 1, 1) := by decide +kernel
theorem dX8_sole_47 : decode cX8_sole 47 = .ok (.ireturn, 1) := by decide +kernel
theorem dX8_teach_0 : decode cX8_teach 0 = .ok (.iload_n 1, 1) := by decide +kernel
theorem dX8_teach_1 : decode cX8_teach 1 = .ok (.invokestatic 217, 3) := by decide +kernel
theorem dX8_teach_4 : decode cX8_teach 4 = .ok (.ifCond .eq 6, 3) := by decide +kernel
theorem dX8_teach_7 : decode cX8_teach 7 = .ok (.ldc 155, 2) := by decide +kernel
theorem dX8_teach_9 : decode cX8_teach 9 = .ok (.ireturn, 1) := by decide +kernel
theorem dX8_teach_10 : decode cX8_teach 10 = .ok (.aload_n 0, 1) := by decide +kernel
theorem dX8_teach_11 : decode cX8_teach 11 = .ok (.getfield 19, 3) := by decide +kernel
theorem dX8_teach_14 : decode cX8_teach 14 = .ok (.getfield 110, 3) := by decide +kernel
theorem dX8_teach_17 : decode cX8_teach 17 = .ok (.ifCond .ne 6, 3) := by decide +kernel
theorem dX8_teach_20 : decode cX8_teach 20 = .ok (.ldc 216, 2) := by decide +kernel
theorem dX8_teach_22 : decode cX8_teach 22 = .ok (.ireturn, 1) := by decide +kernel
theorem dX8_teach_23 : decode cX8_teach 23 = .ok (.aload_n 0, 1) := by decide +kernel
theorem dX8_teach_24 : decode cX8_teach 24 = .ok (.getfield 33, 3) := by decide +kernel
theorem dX8_teach_27 : decode cX8_teach 27 = .ok (.aload_n 0, 1) := by decide +kernel
theorem dX8_teach_28 : decode cX8_teach 28 = .ok (.getfield 26, 3) := by decide +kernel
theorem dX8_teach_31 : decode cX8_teach 31 = .ok (.invokevirtual 191, 3) := by decide +kernel
theorem dX8_teach_34 : decode cX8_teach 34 = .ok (.aload_n 0, 1) := by decide +kernel
theorem dX8_teach_35 : decode cX8_teach 35 = .ok (.getfield 26, 3) := by decide +kernel
theorem dX8_teach_38 : decode cX8_teach 38 = .ok (.getfield 113, 3) := by decide +kernel
theorem dX8_teach_41 : decode cX8_teach 41 = .ok (.getfield 116, 3) := by decide +kernel
theorem dX8_teach_44 : decode cX8_teach 44 = .ok (.istore_n 2, 1) := by decide +kernel
theorem dX8_teach_45 : decode cX8_teach 45 = .ok (.aload_n 0, 1) := by decide +kernel
theorem dX8_teach_46 : decode cX8_teach 46 = .ok (.getfield 26, 3) := by decide +kernel
theorem dX8_teach_49 : decode cX8_teach 49 = .ok (.getfield 113, 3) := by decide +kernel
theorem dX8_teach_52 : decode cX8_teach 52 = .ok (.iload_n 1, 1) := by decide +kernel
theorem dX8_teach_53 : decode cX8_teach 53 = .ok (.putfield 116, 3) := by decide +kernel
theorem dX8_teach_56 : decode cX8_teach 56 = .ok (.iload_n 2, 1) := by decide +kernel
theorem dX8_teach_57 : decode cX8_teach 57 = .ok (.ireturn, 1) := by decide +kernel
theorem dX8_drift_0 : decode cX8_drift 0 = .ok (.aload_n 0, 1) := by decide +kernel
theorem dX8_drift_1 : decode cX8_drift 1 = .ok (.iload_n 1, 1) := by decide +kernel
theorem dX8_drift_2 : decode cX8_drift 2 = .ok (.invokevirtual 188, 3) := by decide +kernel
theorem dX8_drift_5 : decode cX8_drift 5 = .ok (.istore_n 2, 1) := by decide +kernel
theorem dX8_drift_6 : decode cX8_drift 6 = .ok (.iload_n 2, 1) := by decide +kernel
theorem dX8_drift_7 : decode cX8_drift 7 = .ok (.ifCond .eq 5, 3) := by decide +kernel
theorem dX8_drift_10 : decode cX8_drift 10 = .ok (.iload_n 2, 1) := by decide +kernel
theorem dX8_drift_11 : decode cX8_drift 11 = .ok (.ireturn, 1) := by decide +kernel
theorem dX8_drift_12 : decode cX8_drift 12 = .ok (.aload_n 0, 1) := by decide +kernel
theorem dX8_drift_13 : decode cX8_drift 13 = .ok (.getfield 33, 3) := by decide +kernel
theorem dX8_drift_16 : decode cX8_drift 16 = .ok (.aload_n 0, 1) := by decide +kernel
theorem dX8_drift_17 : decode cX8_drift 17 = .ok (.getfield 26, 3) := by decide +kernel
theorem dX8_drift_20 : decode cX8_drift 20 = .ok (.invokevirtual 191, 3) := by decide +kernel
theorem dX8_drift_23 : decode cX8_drift 23 = .ok (.iconst 0, 1) := by decide +kernel
theorem dX8_drift_24 : decode cX8_drift 24 = .ok (.istore_n 3, 1) := by decide +kernel
theorem dX8_drift_25 : decode cX8_drift 25 = .ok (.iload_n 3, 1) := by decide +kernel
theorem dX8_drift_26 : decode cX8_drift 26 = .ok (.iload_n 1, 1) := by decide +kernel
theorem dX8_drift_27 : decode cX8_drift 27 = .ok (.if_icmp .ge 24, 3) := by decide +kernel
theorem dX8_drift_30 : decode cX8_drift 30 = .ok (.aload_n 0, 1) := by decide +kernel
theorem dX8_drift_31 : decode cX8_drift 31 = .ok (.invokevirtual 220, 3) := by decide +kernel
theorem dX8_drift_34 : decode cX8_drift 34 = .ok (.aload_n 0, 1) := by decide +kernel
theorem dX8_drift_35 : decode cX8_drift 35 = .ok (.getfield 26, 3) := by decide +kernel
theorem dX8_drift_38 : decode cX8_drift 38 = .ok (.aload_n 0, 1) := by decide +kernel
theorem dX8_drift_39 : decode cX8_drift 39 = .ok (.getfield 19, 3) := by decide +kernel
theorem dX8_drift_42 : decode cX8_drift 42 = .ok (.invokevirtual 195, 3) := by decide +kernel
theorem dX8_drift_45 : decode cX8_drift 45 = .ok (.iinc 3 1, 3) := by decide +kernel
theorem dX8_drift_48 : decode cX8_drift 48 = .ok (.goto (-23), 3) := by decide +kernel
theorem dX8_drift_51 : decode cX8_drift 51 = .ok (.aload_n 0, 1) := by decide +kernel
theorem dX8_drift_52 : decode cX8_drift 52 = .ok (.getfield 26, 3) := by decide +kernel
theorem dX8_drift_55 : decode cX8_drift 55 = .ok (.getfield 113, 3) := by decide +kernel
theorem dX8_drift_58 : decode cX8_drift 58 = .ok (.getfield 122, 3) := by decide +kernel
theorem dX8_drift_61 : decode cX8_drift 61 = .ok (.ireturn, 1) := by decide +kernel
theorem dX8_undo_0 : decode cX8_undo 0 = .ok (.aload_n 0, 1) := by decide +kernel
theorem dX8_undo_1 : decode cX8_undo 1 = .ok (.getfield 33, 3) := by decide +kernel
theorem dX8_undo_4 : decode cX8_undo 4 = .ok (.getfield 150, 3) := by decide +kernel
theorem dX8_undo_7 : decode cX8_undo 7 = .ok (.ifCond .ne 6, 3) := by decide +kernel
theorem dX8_undo_10 : decode cX8_undo 10 = .ok (.ldc 216, 2) := by decide +kernel
theorem dX8_undo_12 : decode cX8_undo 12 = .ok (.ireturn, 1) := by decide +kernel
theorem dX8_undo_13 : decode cX8_undo 13 = .ok (.aload_n 0, 1) := by decide +kernel
theorem dX8_undo_14 : decode cX8_undo 14 = .ok (.getfield 33, 3) := by decide +kernel
theorem dX8_undo_17 : decode cX8_undo 17 = .ok (.aload_n 0, 1) := by decide +kernel
theorem dX8_undo_18 : decode cX8_undo 18 = .ok (.getfield 26, 3) := by decide +kernel
theorem dX8_undo_21 : decode cX8_undo 21 = .ok (.invokevirtual 223, 3) := by decide +kernel
theorem dX8_undo_24 : decode cX8_undo 24 = .ok (.aload_n 0, 1) := by decide +kernel
theorem dX8_undo_25 : decode cX8_undo 25 = .ok (.getfield 33, 3) := by decide +kernel
theorem dX8_undo_28 : decode cX8_undo 28 = .ok (.getfield 150, 3) := by decide +kernel
theorem dX8_undo_31 : decode cX8_undo 31 = .ok (.ireturn, 1) := by decide +kernel
theorem dX8_where_0 : decode cX8_where 0 = .ok (.iload_n 1, 1) := by decide +kernel
theorem dX8_where_1 : decode cX8_where 1 = .ok (.ifCond .lt 9, 3) := by decide +kernel
theorem dX8_where_4 : decode cX8_where 4 = .ok (.iload_n 1, 1) := by decide +kernel
theorem dX8_where_5 : decode cX8_where 5 = .ok (.bipush 100, 2) := by decide +kernel
theorem dX8_where_7 : decode cX8_where 7 = .ok (.if_icmp .le 6, 3) := by decide +kernel
theorem dX8_where_10 : decode cX8_where 10 = .ok (.ldc 65, 2) := by decide +kernel
theorem dX8_where_12 : decode cX8_where 12 = .ok (.ireturn, 1) := by decide +kernel
theorem dX8_where_13 : decode cX8_where 13 = .ok (.aload_n 0, 1) := by decide +kernel
theorem dX8_where_14 : decode cX8_where 14 = .ok (.getfield 19, 3) := by decide +kernel
theorem dX8_where_17 : decode cX8_where 17 = .ok (.getfield 98, 3) := by decide +kernel
theorem dX8_where_20 : decode cX8_where 20 = .ok (.ifCond .ne 6, 3) := by decide +kernel
theorem dX8_where_23 : decode cX8_where 23 = .ok (.ldc 216, 2) := by decide +kernel
theorem dX8_where_25 : decode cX8_where 25 = .ok (.ireturn, 1) := by decide +kernel
theorem dX8_where_26 : decode cX8_where 26 = .ok (.aload_n 0, 1) := by decide +kernel
theorem dX8_where_27 : decode cX8_where 27 = .ok (.getfield 53, 3) := by decide +kernel
theorem dX8_where_30 : decode cX8_where 30 = .ok (.aload_n 0, 1) := by decide +kernel
theorem dX8_where_31 : decode cX8_where 31 = .ok (.getfield 26, 3) := by decide +kernel
theorem dX8_where_34 : decode cX8_where 34 = .ok (.getfield 113, 3) := by decide +kernel
theorem dX8_where_37 : decode cX8_where 37 = .ok (.invokevirtual 226, 3) := by decide +kernel
theorem dX8_where_40 : decode cX8_where 40 = .ok (.iconst 0, 1) := by decide +kernel
theorem dX8_where_41 : decode cX8_where 41 = .ok (.istore_n 2, 1) := by decide +kernel
theorem dX8_where_42 : decode cX8_where 42 = .ok (.iload_n 2, 1) := by decide +kernel
theorem dX8_where_43 : decode cX8_where 43 = .ok (.iload_n 1, 1) := by decide +kernel
theorem dX8_where_44 : decode cX8_where 44 = .ok (.if_icmp .ge 16, 3) := by decide +kernel
theorem dX8_where_47 : decode cX8_where 47 = .ok (.aload_n 0, 1) := by decide +kernel
theorem dX8_where_48 : decode cX8_where 48 = .ok (.getfield 53, 3) := by decide +kernel
theorem dX8_where_51 : decode cX8_where 51 = .ok (.invokevirtual 230, 3) := by decide +kernel
theorem dX8_where_54 : decode cX8_where 54 = .ok (.iinc 2 1, 3) := by decide +kernel
theorem dX8_where_57 : decode cX8_where 57 = .ok (.goto (-15), 3) := by decide +kernel
theorem dX8_where_60 : decode cX8_where 60 = .ok (.aload_n 0, 1) := by decide +kernel
theorem dX8_where_61 : decode cX8_where 61 = .ok (.getfield 53, 3) := by decide +kernel
theorem dX8_where_64 : decode cX8_where 64 = .ok (.getfield 122, 3) := by decide +kernel
theorem dX8_where_67 : decode cX8_where 67 = .ok (.ireturn, 1) := by decide +kernel
theorem dX8_when_0 : decode cX8_when 0 = .ok (.aload_n 0, 1) := by decide +kernel
theorem dX8_when_1 : decode cX8_when 1 = .ok (.iload_n 1, 1) := by decide +kernel
theorem dX8_when_2 : decode cX8_when 2 = .ok (.invokevirtual 151, 3) := by decide +kernel
theorem dX8_when_5 : decode cX8_when 5 = .ok (.ifCond .eq 6, 3) := by decide +kernel
theorem dX8_when_8 : decode cX8_when 8 = .ok (.ldc 155, 2) := by decide +kernel
theorem dX8_when_10 : decode cX8_when 10 = .ok (.ireturn, 1) := by decide +kernel
theorem dX8_when_11 : decode cX8_when 11 = .ok (.aload_n 0, 1) := by decide +kernel
theorem dX8_when_12 : decode cX8_when 12 = .ok (.getfield 53, 3) := by decide +kernel
theorem dX8_when_15 : decode cX8_when 15 = .ok (.aload_n 0, 1) := by decide +kernel
theorem dX8_when_16 : decode cX8_when 16 = .ok (.getfield 26, 3) := by decide +kernel
theorem dX8_when_19 : decode cX8_when 19 = .ok (.getfield 113, 3) := by decide +kernel
theorem dX8_when_22 : decode cX8_when 22 = .ok (.invokevirtual 226, 3) := by decide +kernel
theorem dX8_when_25 : decode cX8_when 25 = .ok (.aload_n 0, 1) := by decide +kernel
theorem dX8_when_26 : decode cX8_when 26 = .ok (.iload_n 1, 1) := by decide +kernel
theorem dX8_when_27 : decode cX8_when 27 = .ok (.bipush 100, 2) := by decide +kernel
theorem dX8_when_29 : decode cX8_when 29 = .ok (.invokevirtual 233, 3) := by decide +kernel
theorem dX8_when_32 : decode cX8_when 32 = .ok (.ireturn, 1) := by decide +kernel
theorem dX8_governed_0 : decode cX8_governed 0 = .ok (.aload_n 0, 1) := by decide +kernel
theorem dX8_governed_1 : decode cX8_governed 1 = .ok (.iload_n 1, 1) := by decide +kernel
theorem dX8_governed_2 : decode cX8_governed 2 = .ok (.invokevirtual 151, 3) := by decide +kernel
theorem dX8_governed_5 : decode cX8_governed 5 = .ok (.ifCond .eq 6, 3) := by decide +kernel
theorem dX8_governed_8 : decode cX8_governed 8 = .ok (.ldc 155, 2) := by decide +kernel
theorem dX8_governed_10 : decode cX8_governed 10 = .ok (.ireturn, 1) := by decide +kernel
theorem dX8_governed_11 : decode cX8_governed 11 = .ok (.iload_n 2, 1) := by decide +kernel
theorem dX8_governed_12 : decode cX8_governed 12 = .ok (.iconst 1, 1) := by decide +kernel
theorem dX8_governed_13 : decode cX8_governed 13 = .ok (.if_icmp .lt 9, 3) := by decide +kernel
theorem dX8_governed_16 : decode cX8_governed 16 = .ok (.iload_n 2, 1) := by decide +kernel
theorem dX8_governed_17 : decode cX8_governed 17 = .ok (.bipush 100, 2) := by decide +kernel
theorem dX8_governed_19 : decode cX8_governed 19 = .ok (.if_icmp .le 6, 3) := by decide +kernel
theorem dX8_governed_22 : decode cX8_governed 22 = .ok (.ldc 65, 2) := by decide +kernel
theorem dX8_governed_24 : decode cX8_governed 24 = .ok (.ireturn, 1) := by decide +kernel
theorem dX8_governed_25 : decode cX8_governed 25 = .ok (.aload_n 0, 1) := by decide +kernel
theorem dX8_governed_26 : decode cX8_governed 26 = .ok (.getfield 53, 3) := by decide +kernel
theorem dX8_governed_29 : decode cX8_governed 29 = .ok (.aload_n 0, 1) := by decide +kernel
theorem dX8_governed_30 : decode cX8_governed 30 = .ok (.getfield 26, 3) := by decide +kernel
theorem dX8_governed_33 : decode cX8_governed 33 = .ok (.getfield 113, 3) := by decide +kernel
theorem dX8_governed_36 : decode cX8_governed 36 = .ok (.invokevirtual 226, 3) := by decide +kernel
theorem dX8_governed_39 : decode cX8_governed 39 = .ok (.iconst 0, 1) := by decide +kernel
theorem dX8_governed_40 : decode cX8_governed 40 = .ok (.istore_n 3, 1) := by decide +kernel
theorem dX8_governed_41 : decode cX8_governed 41 = .ok (.iconst 0, 1) := by decide +kernel
theorem dX8_governed_42 : decode cX8_governed 42 = .ok (.istore 4, 2) := by decide +kernel
theorem dX8_governed_44 : decode cX8_governed 44 = .ok (.iload 4, 2) := by decide +kernel
theorem dX8_governed_46 : decode cX8_governed 46 = .ok (.iload_n 2, 1) := by decide +kernel
theorem dX8_governed_47 : decode cX8_governed 47 = .ok (.if_icmp .ge 30, 3) := by decide +kernel
theorem dX8_governed_50 : decode cX8_governed 50 = .ok (.aload_n 0, 1) := by decide +kernel
theorem dX8_governed_51 : decode cX8_governed 51 = .ok (.getfield 53, 3) := by decide +kernel
theorem dX8_governed_54 : decode cX8_governed 54 = .ok (.getfield 122, 3) := by decide +kernel
theorem dX8_governed_57 : decode cX8_governed 57 = .ok (.iload_n 1, 1) := by decide +kernel
theorem dX8_governed_58 : decode cX8_governed 58 = .ok (.if_icmp .ne 6, 3) := by decide +kernel
theorem dX8_governed_61 : decode cX8_governed 61 = .ok (.iinc 3 1, 3) := by decide +kernel
theorem dX8_governed_64 : decode cX8_governed 64 = .ok (.aload_n 0, 1) := by decide +kernel
theorem dX8_governed_65 : decode cX8_governed 65 = .ok (.getfield 53, 3) := by decide +kernel
theorem dX8_governed_68 : decode cX8_governed 68 = .ok (.invokevirtual 230, 3) := by decide +kernel
theorem dX8_governed_71 : decode cX8_governed 71 = .ok (.iinc 4 1, 3) := by decide +kernel
theorem dX8_governed_74 : decode cX8_governed 74 = .ok (.goto (-30), 3) := by decide +kernel
theorem dX8_governed_77 : decode cX8_governed 77 = .ok (.iload_n 3, 1) := by decide +kernel
theorem dX8_governed_78 : decode cX8_governed 78 = .ok (.ireturn, 1) := by decide +kernel
theorem dX8_ring_0 : decode cX8_ring 0 = .ok (.aload_n 0, 1) := by decide +kernel
theorem dX8_ring_1 : decode cX8_ring 1 = .ok (.getfield 19, 3) := by decide +kernel
theorem dX8_ring_4 : decode cX8_ring 4 = .ok (.getfield 98, 3) := by decide +kernel
theorem dX8_ring_7 : decode cX8_ring 7 = .ok (.ifCond .ne 6, 3) := by decide +kernel
theorem dX8_ring_10 : decode cX8_ring 10 = .ok (.ldc 216, 2) := by decide +kernel
theorem dX8_ring_12 : decode cX8_ring 12 = .ok (.ireturn, 1) := by decide +kernel
theorem dX8_ring_13 : decode cX8_ring 13 = .ok (.aload_n 0, 1) := by decide +kernel
theorem dX8_ring_14 : decode cX8_ring 14 = .ok (.getfield 53, 3) := by decide +kernel
theorem dX8_ring_17 : decode cX8_ring 17 = .ok (.aload_n 0, 1) := by decide +kernel
theorem dX8_ring_18 : decode cX8_ring 18 = .ok (.getfield 26, 3) := by decide +kernel
theorem dX8_ring_21 : decode cX8_ring 21 = .ok (.getfield 113, 3) := by decide +kernel
theorem dX8_ring_24 : decode cX8_ring 24 = .ok (.invokevirtual 226, 3) := by decide +kernel
theorem dX8_ring_27 : decode cX8_ring 27 = .ok (.iconst 0, 1) := by decide +kernel
theorem dX8_ring_28 : decode cX8_ring 28 = .ok (.istore_n 1, 1) := by decide +kernel
theorem dX8_ring_29 : decode cX8_ring 29 = .ok (.iconst 1, 1) := by decide +kernel
theorem dX8_ring_30 : decode cX8_ring 30 = .ok (.istore_n 2, 1) := by decide +kernel
theorem dX8_ring_31 : decode cX8_ring 31 = .ok (.iload_n 2, 1) := by decide +kernel
theorem dX8_ring_32 : decode cX8_ring 32 = .ok (.bipush 100, 2) := by decide +kernel
theorem dX8_ring_34 : decode cX8_ring 34 = .ok (.if_icmp .gt 47, 3) := by decide +kernel
theorem dX8_ring_37 : decode cX8_ring 37 = .ok (.aload_n 0, 1) := by decide +kernel
theorem dX8_ring_38 : decode cX8_ring 38 = .ok (.getfield 53, 3) := by decide +kernel
theorem dX8_ring_41 : decode cX8_ring 41 = .ok (.invokevirtual 230, 3) := by decide +kernel
theorem dX8_ring_44 : decode cX8_ring 44 = .ok (.aload_n 0, 1) := by decide +kernel
theorem dX8_ring_45 : decode cX8_ring 45 = .ok (.getfield 53, 3) := by decide +kernel
theorem dX8_ring_48 : decode cX8_ring 48 = .ok (.getfield 122, 3) := by decide +kernel
theorem dX8_ring_51 : decode cX8_ring 51 = .ok (.aload_n 0, 1) := by decide +kernel
theorem dX8_ring_52 : decode cX8_ring 52 = .ok (.getfield 26, 3) := by decide +kernel
theorem dX8_ring_55 : decode cX8_ring 55 = .ok (.getfield 113, 3) := by decide +kernel
theorem dX8_ring_58 : decode cX8_ring 58 = .ok (.getfield 122, 3) := by decide +kernel
theorem dX8_ring_61 : decode cX8_ring 61 = .ok (.if_icmp .eq 8, 3) := by decide +kernel
theorem dX8_ring_64 : decode cX8_ring 64 = .ok (.iconst 1, 1) := by decide +kernel
theorem dX8_ring_65 : decode cX8_ring 65 = .ok (.istore_n 1, 1) := by decide +kernel
theorem dX8_ring_66 : decode cX8_ring 66 = .ok (.goto 9, 3) := by decide +kernel
theorem dX8_ring_69 : decode cX8_ring 69 = .ok (.iload_n 1, 1) := by decide +kernel
theorem dX8_ring_70 : decode cX8_ring 70 = .ok (.ifCond .eq 5, 3) := by decide +kernel
theorem dX8_ring_73 : decode cX8_ring 73 = .ok (.iload_n 2, 1) := by decide +kernel
theorem dX8_ring_74 : decode cX8_ring 74 = .ok (.ireturn, 1) := by decide +kernel
theorem dX8_ring_75 : decode cX8_ring 75 = .ok (.iinc 2 1, 3) := by decide +kernel
theorem dX8_ring_78 : decode cX8_ring 78 = .ok (.goto (-47), 3) := by decide +kernel
theorem dX8_ring_81 : decode cX8_ring 81 = .ok (.iconst (-1), 1) := by decide +kernel
theorem dX8_ring_82 : decode cX8_ring 82 = .ok (.ireturn, 1) := by decide +kernel
theorem dX8_carpets_0 : decode cX8_carpets 0 = .ok (.aload_n 0, 1) := by decide +kernel
theorem dX8_carpets_1 : decode cX8_carpets 1 = .ok (.iload_n 1, 1) := by decide +kernel
theorem dX8_carpets_2 : decode cX8_carpets 2 = .ok (.invokevirtual 151, 3) := by decide +kernel
theorem dX8_carpets_5 : decode cX8_carpets 5 = .ok (.ifCond .eq 6, 3) := by decide +kernel
theorem dX8_carpets_8 : decode cX8_carpets 8 = .ok (.ldc 155, 2) := by decide +kernel
theorem dX8_carpets_10 : decode cX8_carpets 10 = .ok (.ireturn, 1) := by decide +kernel
theorem dX8_carpets_11 : decode cX8_carpets 11 = .ok (.iload_n 2, 1) := by decide +kernel
theorem dX8_carpets_12 : decode cX8_carpets 12 = .ok (.ifCond .lt 9, 3) := by decide +kernel
theorem dX8_carpets_15 : decode cX8_carpets 15 = .ok (.iload_n 2, 1) := by decide +kernel
theorem dX8_carpets_16 : decode cX8_carpets 16 = .ok (.bipush 20, 2) := by decide +kernel
theorem dX8_carpets_18 : decode cX8_carpets 18 = .ok (.if_icmp .le 6, 3) := by decide +kernel
theorem dX8_carpets_21 : decode cX8_carpets 21 = .ok (.ldc 65, 2) := by decide +kernel
theorem dX8_carpets_23 : decode cX8_carpets 23 = .ok (.ireturn, 1) := by decide +kernel
theorem dX8_carpets_24 : decode cX8_carpets 24 = .ok (.iconst (-1), 1) := by decide +kernel
theorem dX8_carpets_25 : decode cX8_carpets 25 = .ok (.istore_n 3, 1) := by decide +kernel
theorem dX8_carpets_26 : decode cX8_carpets 26 = .ok (.iconst 0, 1) := by decide +kernel
theorem dX8_carpets_27 : decode cX8_carpets 27 = .ok (.istore 4, 2) := by decide +kernel
theorem dX8_carpets_29 : decode cX8_carpets 29 = .ok (.iload 4, 2) := by decide +kernel
theorem dX8_carpets_31 : decode cX8_carpets 31 = .ok (.iconst 1, 1) := by decide +kernel
theorem dX8_carpets_32 : decode cX8_carpets 32 = .ok (.aload_n 0, 1) := by decide +kernel
theorem dX8_carpets_33 : decode cX8_carpets 33 = .ok (.getfield 19, 3) := by decide +kernel
theorem dX8_carpets_36 : decode cX8_carpets 36 = .ok (.getfield 98, 3) := by decide +kernel
theorem dX8_carpets_39 : decode cX8_carpets 39 = .ok (.ishl, 1) := by decide +kernel
theorem dX8_carpets_40 : decode cX8_carpets 40 = .ok (.if_icmp .ge 32, 3) := by decide +kernel
theorem dX8_carpets_43 : decode cX8_carpets 43 = .ok (.iload 4, 2) := by decide +kernel
theorem dX8_carpets_45 : decode cX8_carpets 45 = .ok (.iload_n 3, 1) := by decide +kernel
theorem dX8_carpets_46 : decode cX8_carpets 46 = .ok (.invokestatic 236, 3) := by decide +kernel
theorem dX8_carpets_49 : decode cX8_carpets 49 = .ok (.ifCond .eq 17, 3) := by decide +kernel
theorem dX8_carpets_52 : decode cX8_carpets 52 = .ok (.aload_n 0, 1) := by decide +kernel
theorem dX8_carpets_53 : decode cX8_carpets 53 = .ok (.iload 4, 2) := by decide +kernel
theorem dX8_carpets_55 : decode cX8_carpets 55 = .ok (.iload_n 1, 1) := by decide +kernel
theorem dX8_carpets_56 : decode cX8_carpets 56 = .ok (.iload_n 2, 1) := by decide +kernel
theorem dX8_carpets_57 : decode cX8_carpets 57 = .ok (.invokevirtual 240, 3) := by decide +kernel
theorem dX8_carpets_60 : decode cX8_carpets 60 = .ok (.ifCond .eq 6, 3) := by decide +kernel
theorem dX8_carpets_63 : decode cX8_carpets 63 = .ok (.iload 4, 2) := by decide +kernel
theorem dX8_carpets_65 : decode cX8_carpets 65 = .ok (.istore_n 3, 1) := by decide +kernel
theorem dX8_carpets_66 : decode cX8_carpets 66 = .ok (.iinc 4 1, 3) := by decide +kernel
theorem dX8_carpets_69 : decode cX8_carpets 69 = .ok (.goto (-40), 3) := by decide +kernel
theorem dX8_carpets_72 : decode cX8_carpets 72 = .ok (.iload_n 3, 1) := by decide +kernel
theorem dX8_carpets_73 : decode cX8_carpets 73 = .ok (.ireturn, 1) := by decide +kernel
theorem dX8_bricks_0 : decode cX8_bricks 0 = .ok (.aload_n 0, 1) := by decide +kernel
theorem dX8_bricks_1 : decode cX8_bricks 1 = .ok (.iload_n 1, 1) := by decide +kernel
theorem dX8_bricks_2 : decode cX8_bricks 2 = .ok (.invokevirtual 151, 3) := by decide +kernel
theorem dX8_bricks_5 : decode cX8_bricks 5 = .ok (.ifCond .eq 6, 3) := by decide +kernel
theorem dX8_bricks_8 : decode cX8_bricks 8 = .ok (.ldc 155, 2) := by decide +kernel
theorem dX8_bricks_10 : decode cX8_bricks 10 = .ok (.ireturn, 1) := by decide +kernel
theorem dX8_bricks_11 : decode cX8_bricks 11 = .ok (.aload_n 0, 1) := by decide +kernel
theorem dX8_bricks_12 : decode cX8_bricks 12 = .ok (.getfield 26, 3) := by decide +kernel
theorem dX8_bricks_15 : decode cX8_bricks 15 = .ok (.getfield 113, 3) := by decide +kernel
theorem dX8_bricks_18 : decode cX8_bricks 18 = .ok (.getfield 122, 3) := by decide +kernel
theorem dX8_bricks_21 : decode cX8_bricks 21 = .ok (.istore_n 2, 1) := by decide +kernel
theorem dX8_bricks_22 : decode cX8_bricks 22 = .ok (.iload_n 1, 1) := by decide +kernel
theorem dX8_bricks_23 : decode cX8_bricks 23 = .ok (.iload_n 2, 1) := by decide +kernel
theorem dX8_bricks_24 : decode cX8_bricks 24 = .ok (.if_icmp .ne 5, 3) := by decide +kernel
theorem dX8_bricks_27 : decode cX8_bricks 27 = .ok (.iconst (-1), 1) := by decide +kernel
theorem dX8_bricks_28 : decode cX8_bricks 28 = .ok (.ireturn, 1) := by decide +kernel
theorem dX8_bricks_29 : decode cX8_bricks 29 = .ok (.aload_n 0, 1) := by decide +kernel
theorem dX8_bricks_30 : decode cX8_bricks 30 = .ok (.invokevirtual 244, 3) := by decide +kernel
theorem dX8_bricks_33 : decode cX8_bricks 33 = .ok (.istore_n 3, 1) := by decide +kernel
theorem dX8_bricks_34 : decode cX8_bricks 34 = .ok (.iconst (-1), 1) := by decide +kernel
theorem dX8_bricks_35 : decode cX8_bricks 35 = .ok (.istore 4, 2) := by decide +kernel
theorem dX8_bricks_37 : decode cX8_bricks 37 = .ok (.iconst 0, 1) := by decide +kernel
theorem dX8_bricks_38 : decode cX8_bricks 38 = .ok (.istore 5, 2) := by decide +kernel
theorem dX8_bricks_40 : decode cX8_bricks 40 = .ok (.iload 5, 2) := by decide +kernel
theorem dX8_bricks_42 : decode cX8_bricks 42 = .ok (.iconst 1, 1) := by decide +kernel
theorem dX8_bricks_43 : decode cX8_bricks 43 = .ok (.aload_n 0, 1) := by decide +kernel
theorem dX8_bricks_44 : decode cX8_bricks 44 = .ok (.getfield 19, 3) := by decide +kernel
theorem dX8_bricks_47 : decode cX8_bricks 47 = .ok (.getfield 98, 3) := by decide +kernel
theorem dX8_bricks_50 : decode cX8_bricks 50 = .ok (.ishl, 1) := by decide +kernel
theorem dX8_bricks_51 : decode cX8_bricks 51 = .ok (.if_icmp .ge 55, 3) := by decide +kernel
theorem dX8_bricks_54 : decode cX8_bricks 54 = .ok (.iload 5, 2) := by decide +kernel
theorem dX8_bricks_56 : decode cX8_bricks 56 = .ok (.iload_n 2, 1) := by decide +kernel
theorem dX8_bricks_57 : decode cX8_bricks 57 = .ok (.invokestatic 173, 3) := by decide +kernel
theorem dX8_bricks_60 : decode cX8_bricks 60 = .ok (.iconst 1, 1) := by decide +kernel
theorem dX8_bricks_61 : decode cX8_bricks 61 = .ok (.if_icmp .ne 39, 3) := by decide +kernel
theorem dX8_bricks_64 : decode cX8_bricks 64 = .ok (.iload 5, 2) := by decide +kernel
theorem dX8_bricks_66 : decode cX8_bricks 66 = .ok (.iload_n 1, 1) := by decide +kernel
theorem dX8_bricks_67 : decode cX8_bricks 67 = .ok (.invokestatic 173, 3) := by decide +kernel
theorem dX8_bricks_70 : decode cX8_bricks 70 = .ok (.ifCond .ne 30, 3) := by decide +kernel
theorem dX8_bricks_73 : decode cX8_bricks 73 = .ok (.aload_n 0, 1) := by decide +kernel
theorem dX8_bricks_74 : decode cX8_bricks 74 = .ok (.getfield 19, 3) := by decide +kernel
theorem dX8_bricks_77 : decode cX8_bricks 77 = .ok (.iload 5, 2) := by decide +kernel
theorem dX8_bricks_79 : decode cX8_bricks 79 = .ok (.invokevirtual 248, 3) := by decide +kernel
theorem dX8_bricks_82 : decode cX8_bricks 82 = .ok (.iload_n 3, 1) := by decide +kernel
theorem dX8_bricks_83 : decode cX8_bricks 83 = .ok (.iand, 1) := by decide +kernel
theorem dX8_bricks_84 : decode cX8_bricks 84 = .ok (.istore 6, 2) := by decide +kernel
theorem dX8_bricks_86 : decode cX8_bricks 86 = .ok (.iload 6, 2) := by decide +kernel
theorem dX8_bricks_88 : decode cX8_bricks 88 = .ok (.iload 4, 2) := by decide +kernel
theorem dX8_bricks_90 : decode cX8_bricks 90 = .ok (.invokestatic 236, 3) := by decide +kernel
theorem dX8_bricks_93 : decode cX8_bricks 93 = .ok (.ifCond .eq 7, 3) := by decide +kernel
theorem dX8_bricks_96 : decode cX8_bricks 96 = .ok (.iload 6, 2) := by decide +kernel
theorem dX8_bricks_98 : decode cX8_bricks 98 = .ok (.istore 4, 2) := by decide +kernel
theorem dX8_bricks_100 : decode cX8_bricks 100 = .ok (.iinc 5 1, 3) := by decide +kernel
theorem dX8_bricks_103 : decode cX8_bricks 103 = .ok (.goto (-63), 3) := by decide +kernel
theorem dX8_bricks_106 : decode cX8_bricks 106 = .ok (.iload 4, 2) := by decide +kernel
theorem dX8_bricks_108 : decode cX8_bricks 108 = .ok (.ireturn, 1) := by decide +kernel
theorem dX8_quietest_0 : decode cX8_quietest 0 = .ok (.aload_n 0, 1) := by decide +kernel
theorem dX8_quietest_1 : decode cX8_quietest 1 = .ok (.iload_n 1, 1) := by decide +kernel
theorem dX8_quietest_2 : decode cX8_quietest 2 = .ok (.invokevirtual 151, 3) := by decide +kernel
theorem dX8_quietest_5 : decode cX8_quietest 5 = .ok (.ifCond .eq 6, 3) := by decide +kernel
theorem dX8_quietest_8 : decode cX8_quietest 8 = .ok (.ldc 155, 2) := by decide +kernel
theorem dX8_quietest_10 : decode cX8_quietest 10 = .ok (.ireturn, 1) := by decide +kernel
theorem dX8_quietest_11 : decode cX8_quietest 11 = .ok (.aload_n 0, 1) := by decide +kernel
theorem dX8_quietest_12 : decode cX8_quietest 12 = .ok (.getfield 60, 3) := by decide +kernel
theorem dX8_quietest_15 : decode cX8_quietest 15 = .ok (.astore_n 2, 1) := by decide +kernel
theorem dX8_quietest_16 : decode cX8_quietest 16 = .ok (.aload_n 2, 1) := by decide +kernel
theorem dX8_quietest_17 : decode cX8_quietest 17 = .ok (.iconst (-1), 1) := by decide +kernel
theorem dX8_quietest_18 : decode cX8_quietest 18 = .ok (.invokestatic 251, 3) := by decide +kernel
theorem dX8_quietest_21 : decode cX8_quietest 21 = .ok (.aload_n 2, 1) := by decide +kernel
theorem dX8_quietest_22 : decode cX8_quietest 22 = .ok (.aload_n 0, 1) := by decide +kernel
theorem dX8_quietest_23 : decode cX8_quietest 23 = .ok (.getfield 26, 3) := by decide +kernel
theorem dX8_quietest_26 : decode cX8_quietest 26 = .ok (.getfield 113, 3) := by decide +kernel
theorem dX8_quietest_29 : decode cX8_quietest 29 = .ok (.getfield 122, 3) := by decide +kernel
theorem dX8_quietest_32 : decode cX8_quietest 32 = .ok (.iconst 0, 1) := by decide +kernel
theorem dX8_quietest_33 : decode cX8_quietest 33 = .ok (.iastore, 1) := by decide +kernel
theorem dX8_quietest_34 : decode cX8_quietest 34 = .ok (.iconst 0, 1) := by decide +kernel
theorem dX8_quietest_35 : decode cX8_quietest 35 = .ok (.istore_n 3, 1) := by decide +kernel
theorem dX8_quietest_36 : decode cX8_quietest 36 = .ok (.iload_n 3, 1) := by decide +kernel
theorem dX8_quietest_37 : decode cX8_quietest 37 = .ok (.aload_n 0, 1) := by decide +kernel
theorem dX8_quietest_38 : decode cX8_quietest 38 = .ok (.getfield 19, 3) := by decide +kernel
theorem dX8_quietest_41 : decode cX8_quietest 41 = .ok (.getfield 98, 3) := by decide +kernel
theorem dX8_quietest_44 : decode cX8_quietest 44 = .ok (.if_icmp .ge 45, 3) := by decide +kernel
theorem dX8_quietest_47 : decode cX8_quietest 47 = .ok (.iconst 0, 1) := by decide +kernel
theorem dX8_quietest_48 : decode cX8_quietest 48 = .ok (.istore 4, 2) := by decide +kernel
theorem dX8_quietest_50 : decode cX8_quietest 50 = .ok (.iload 4, 2) := by decide +kernel
theorem dX8_quietest_52 : decode cX8_quietest 52 = .ok (.aload_n 0, 1) := by decide +kernel
theorem dX8_quietest_53 : decode cX8_quietest 53 = .ok (.getfield 19, 3) := by decide +kernel
theorem dX8_quietest_56 : decode cX8_quietest 56 = .ok (.getfield 98, 3) := by decide +kernel
theorem dX8_quietest_59 : decode cX8_quietest 59 = .ok (.if_icmp .ge 24, 3) := by decide +kernel
theorem dX8_quietest_62 : decode cX8_quietest 62 = .ok (.aload_n 2, 1) := by decide +kernel
theorem dX8_quietest_63 : decode cX8_quietest 63 = .ok (.iload 4, 2) := by decide +kernel
theorem dX8_quietest_65 : decode cX8_quietest 65 = .ok (.iaload, 1) := by decide +kernel
theorem dX8_quietest_66 : decode cX8_quietest 66 = .ok (.iconst (-1), 1) := by decide +kernel
theorem dX8_quietest_67 : decode cX8_quietest 67 = .ok (.if_icmp .eq 10, 3) := by decide +kernel
theorem dX8_quietest_70 : decode cX8_quietest 70 = .ok (.aload_n 0, 1) := by decide +kernel
theorem dX8_quietest_71 : decode cX8_quietest 71 = .ok (.aload_n 2, 1) := by decide +kernel
theorem dX8_quietest_72 : decode cX8_quietest 72 = .ok (.iload 4, 2) := by decide +kernel
theorem dX8_quietest_74 : decode cX8_quietest 74 = .ok (.invokevirtual 257, 3) := by decide +kernel
theorem dX8_quietest_77 : decode cX8_quietest 77 = .ok (.iinc 4 1, 3) := by decide +kernel
theorem dX8_quietest_80 : decode cX8_quietest 80 = .ok (.goto (-30), 3) := by decide +kernel
theorem dX8_quietest_83 : decode cX8_quietest 83 = .ok (.iinc 3 1, 3) := by decide +kernel
theorem dX8_quietest_86 : decode cX8_quietest 86 = .ok (.goto (-50), 3) := by decide +kernel
theorem dX8_quietest_89 : decode cX8_quietest 89 = .ok (.aload_n 2, 1) := by decide +kernel
theorem dX8_quietest_90 : decode cX8_quietest 90 = .ok (.iload_n 1, 1) := by decide +kernel
theorem dX8_quietest_91 : decode cX8_quietest 91 = .ok (.iaload, 1) := by decide +kernel
theorem dX8_quietest_92 : decode cX8_quietest 92 = .ok (.ireturn, 1) := by decide +kernel
theorem dX8_stand_0 : decode cX8_stand 0 = .ok (.aload_n 0, 1) := by decide +kernel
theorem dX8_stand_1 : decode cX8_stand 1 = .ok (.getfield 19, 3) := by decide +kernel
theorem dX8_stand_4 : decode cX8_stand 4 = .ok (.getfield 98, 3) := by decide +kernel
theorem dX8_stand_7 : decode cX8_stand 7 = .ok (.ifCond .ne 6, 3) := by decide +kernel
theorem dX8_stand_10 : decode cX8_stand 10 = .ok (.ldc 216, 2) := by decide +kernel
theorem dX8_stand_12 : decode cX8_stand 12 = .ok (.ireturn, 1) := by decide +kernel
theorem dX8_stand_13 : decode cX8_stand 13 = .ok (.aload_n 0, 1) := by decide +kernel
theorem dX8_stand_14 : decode cX8_stand 14 = .ok (.getfield 53, 3) := by decide +kernel
theorem dX8_stand_17 : decode cX8_stand 17 = .ok (.aload_n 0, 1) := by decide +kernel
theorem dX8_stand_18 : decode cX8_stand 18 = .ok (.getfield 26, 3) := by decide +kernel
theorem dX8_stand_21 : decode cX8_stand 21 = .ok (.getfield 113, 3) := by decide +kernel
theorem dX8_stand_24 : decode cX8_stand 24 = .ok (.invokevirtual 226, 3) := by decide +kernel
theorem dX8_stand_27 : decode cX8_stand 27 = .ok (.iconst 0, 1) := by decide +kernel
theorem dX8_stand_28 : decode cX8_stand 28 = .ok (.istore_n 1, 1) := by decide +kernel
theorem dX8_stand_29 : decode cX8_stand 29 = .ok (.iload_n 1, 1) := by decide +kernel
theorem dX8_stand_30 : decode cX8_stand 30 = .ok (.bipush 100, 2) := by decide +kernel
theorem dX8_stand_32 : decode cX8_stand 32 = .ok (.if_icmp .ge 44, 3) := by decide +kernel
theorem dX8_stand_35 : decode cX8_stand 35 = .ok (.aload_n 0, 1) := by decide +kernel
theorem dX8_stand_36 : decode cX8_stand 36 = .ok (.getfield 53, 3) := by decide +kernel
theorem dX8_stand_39 : decode cX8_stand 39 = .ok (.getfield 122, 3) := by decide +kernel
theorem dX8_stand_42 : decode cX8_stand 42 = .ok (.aload_n 0, 1) := by decide +kernel
theorem dX8_stand_43 : decode cX8_stand 43 = .ok (.getfield 26, 3) := by decide +kernel
theorem dX8_stand_46 : decode cX8_stand 46 = .ok (.getfield 113, 3) := by decide +kernel
theorem dX8_stand_49 : decode cX8_stand 49 = .ok (.getfield 122, 3) := by decide +kernel
theorem dX8_stand_52 : decode cX8_stand 52 = .ok (.if_icmp .eq 11, 3) := by decide +kernel
theorem dX8_stand_55 : decode cX8_stand 55 = .ok (.aload_n 0, 1) := by decide +kernel
theorem dX8_stand_56 : decode cX8_stand 56 = .ok (.getfield 53, 3) := by decide +kernel
theorem dX8_stand_59 : decode cX8_stand 59 = .ok (.getfield 122, 3) := by decide +kernel
theorem dX8_stand_62 : decode cX8_stand 62 = .ok (.ireturn, 1) := by decide +kernel
theorem dX8_stand_63 : decode cX8_stand 63 = .ok (.aload_n 0, 1) := by decide +kernel
theorem dX8_stand_64 : decode cX8_stand 64 = .ok (.getfield 53, 3) := by decide +kernel
theorem dX8_stand_67 : decode cX8_stand 67 = .ok (.invokevirtual 230, 3) := by decide +kernel
theorem dX8_stand_70 : decode cX8_stand 70 = .ok (.iinc 1 1, 3) := by decide +kernel
theorem dX8_stand_73 : decode cX8_stand 73 = .ok (.goto (-44), 3) := by decide +kernel
theorem dX8_stand_76 : decode cX8_stand 76 = .ok (.iconst (-1), 1) := by decide +kernel
theorem dX8_stand_77 : decode cX8_stand 77 = .ok (.ireturn, 1) := by decide +kernel
theorem dX8_willHear_0 : decode cX8_willHear 0 = .ok (.iload_n 1, 1) := by decide +kernel
theorem dX8_willHear_1 : decode cX8_willHear 1 = .ok (.iconst 1, 1) := by decide +kernel
theorem dX8_willHear_2 : decode cX8_willHear 2 = .ok (.if_icmp .lt 9, 3) := by decide +kernel
theorem dX8_willHear_5 : decode cX8_willHear 5 = .ok (.iload_n 1, 1) := by decide +kernel
theorem dX8_willHear_6 : decode cX8_willHear 6 = .ok (.bipush 100, 2) := by decide +kernel
theorem dX8_willHear_8 : decode cX8_willHear 8 = .ok (.if_icmp .le 6, 3) := by decide +kernel
theorem dX8_willHear_11 : decode cX8_willHear 11 = .ok (.ldc 65, 2) := by decide +kernel
theorem dX8_willHear_13 : decode cX8_willHear 13 = .ok (.ireturn, 1) := by decide +kernel
theorem dX8_willHear_14 : decode cX8_willHear 14 = .ok (.aload_n 0, 1) := by decide +kernel
theorem dX8_willHear_15 : decode cX8_willHear 15 = .ok (.getfield 19, 3) := by decide +kernel
theorem dX8_willHear_18 : decode cX8_willHear 18 = .ok (.getfield 98, 3) := by decide +kernel
theorem dX8_willHear_21 : decode cX8_willHear 21 = .ok (.ifCond .ne 6, 3) := by decide +kernel
theorem dX8_willHear_24 : decode cX8_willHear 24 = .ok (.ldc 216, 2) := by decide +kernel
theorem dX8_willHear_26 : decode cX8_willHear 26 = .ok (.ireturn, 1) := by decide +kernel
theorem dX8_willHear_27 : decode cX8_willHear 27 = .ok (.aload_n 0, 1) := by decide +kernel
theorem dX8_willHear_28 : decode cX8_willHear 28 = .ok (.getfield 53, 3) := by decide +kernel
theorem dX8_willHear_31 : decode cX8_willHear 31 = .ok (.aload_n 0, 1) := by decide +kernel
theorem dX8_willHear_32 : decode cX8_willHear 32 = .ok (.getfield 26, 3) := by decide +kernel
theorem dX8_willHear_35 : decode cX8_willHear 35 = .ok (.getfield 113, 3) := by decide +kernel
theorem dX8_willHear_38 : decode cX8_willHear 38 = .ok (.invokevirtual 226, 3) := by decide +kernel
theorem dX8_willHear_41 : decode cX8_willHear 41 = .ok (.iconst 0, 1) := by decide +kernel
theorem dX8_willHear_42 : decode cX8_willHear 42 = .ok (.istore_n 2, 1) := by decide +kernel
theorem dX8_willHear_43 : decode cX8_willHear 43 = .ok (.iconst 0, 1) := by decide +kernel
theorem dX8_willHear_44 : decode cX8_willHear 44 = .ok (.istore_n 3, 1) := by decide +kernel
theorem dX8_willHear_45 : decode cX8_willHear 45 = .ok (.iload_n 3, 1) := by decide +kernel
theorem dX8_willHear_46 : decode cX8_willHear 46 = .ok (.iload_n 1, 1) := by decide +kernel
theorem dX8_willHear_47 : decode cX8_willHear 47 = .ok (.if_icmp .ge 28, 3) := by decide +kernel
theorem dX8_willHear_50 : decode cX8_willHear 50 = .ok (.iload_n 2, 1) := by decide +kernel
theorem dX8_willHear_51 : decode cX8_willHear 51 = .ok (.iconst 1, 1) := by decide +kernel
theorem dX8_willHear_52 : decode cX8_willHear 52 = .ok (.aload_n 0, 1) := by decide +kernel
theorem dX8_willHear_53 : decode cX8_willHear 53 = .ok (.getfield 53, 3) := by decide +kernel
theorem dX8_willHear_56 : decode cX8_willHear 56 = .ok (.getfield 122, 3) := by decide +kernel
theorem dX8_willHear_59 : decode cX8_willHear 59 = .ok (.ishl, 1) := by decide +kernel
theorem dX8_willHear_60 : decode cX8_willHear 60 = .ok (.ior, 1) := by decide +kernel
theorem dX8_willHear_61 : decode cX8_willHear 61 = .ok (.istore_n 2, 1) := by decide +kernel
theorem dX8_willHear_62 : decode cX8_willHear 62 = .ok (.aload_n 0, 1) := by decide +kernel
theorem dX8_willHear_63 : decode cX8_willHear 63 = .ok (.getfield 53, 3) := by decide +kernel
theorem dX8_willHear_66 : decode cX8_willHear 66 = .ok (.invokevirtual 230, 3) := by decide +kernel
theorem dX8_willHear_69 : decode cX8_willHear 69 = .ok (.iinc 3 1, 3) := by decide +kernel
theorem dX8_willHear_72 : decode cX8_willHear 72 = .ok (.goto (-27), 3) := by decide +kernel
theorem dX8_willHear_75 : decode cX8_willHear 75 = .ok (.aload_n 0, 1) := by decide +kernel
theorem dX8_willHear_76 : decode cX8_willHear 76 = .ok (.iload_n 2, 1) := by decide +kernel
theorem dX8_willHear_77 : decode cX8_willHear 77 = .ok (.invokevirtual 260, 3) := by decide +kernel
theorem dX8_willHear_80 : decode cX8_willHear 80 = .ok (.ireturn, 1) := by decide +kernel
theorem dX8_dance_0 : decode cX8_dance 0 = .ok (.iload_n 1, 1) := by decide +kernel
theorem dX8_dance_1 : decode cX8_dance 1 = .ok (.ifCond .lt 19, 3) := by decide +kernel
theorem dX8_dance_4 : decode cX8_dance 4 = .ok (.iload_n 1, 1) := by decide +kernel
theorem dX8_dance_5 : decode cX8_dance 5 = .ok (.bipush 60, 2) := by decide +kernel
theorem dX8_dance_7 : decode cX8_dance 7 = .ok (.if_icmp .gt 13, 3) := by decide +kernel
theorem dX8_dance_10 : decode cX8_dance 10 = .ok (.iload_n 2, 1) := by decide +kernel
theorem dX8_dance_11 : decode cX8_dance 11 = .ok (.ifCond .lt 9, 3) := by decide +kernel
theorem dX8_dance_14 : decode cX8_dance 14 = .ok (.iload_n 2, 1) := by decide +kernel
theorem dX8_dance_15 : decode cX8_dance 15 = .ok (.bipush 100, 2) := by decide +kernel
theorem dX8_dance_17 : decode cX8_dance 17 = .ok (.if_icmp .le 6, 3) := by decide +kernel
theorem dX8_dance_20 : decode cX8_dance 20 = .ok (.ldc 65, 2) := by decide +kernel
theorem dX8_dance_22 : decode cX8_dance 22 = .ok (.ireturn, 1) := by decide +kernel
theorem dX8_dance_23 : decode cX8_dance 23 = .ok (.ldc2_w 263, 3) := by decide +kernel
theorem dX8_dance_26 : decode cX8_dance 26 = .ok (.lstore_n 3, 1) := by decide +kernel
theorem dX8_dance_27 : decode cX8_dance 27 = .ok (.iconst 0, 1) := by decide +kernel
theorem dX8_dance_28 : decode cX8_dance 28 = .ok (.istore 5, 2) := by decide +kernel
theorem dX8_dance_30 : decode cX8_dance 30 = .ok (.iload 5, 2) := by decide +kernel
theorem dX8_dance_32 : decode cX8_dance 32 = .ok (.iload_n 1, 1) := by decide +kernel
theorem dX8_dance_33 : decode cX8_dance 33 = .ok (.if_icmp .ge 21, 3) := by decide +kernel
theorem dX8_dance_36 : decode cX8_dance 36 = .ok (.lload_n 3, 1) := by decide +kernel
theorem dX8_dance_37 : decode cX8_dance 37 = .ok (.bipush 100, 2) := by decide +kernel
theorem dX8_dance_39 : decode cX8_dance 39 = .ok (.iload_n 2, 1) := by decide +kernel
theorem dX8_dance_40 : decode cX8_dance 40 = .ok (.isub, 1) := by decide +kernel
theorem dX8_dance_41 : decode cX8_dance 41 = .ok (.i2l, 1) := by decide +kernel
theorem dX8_dance_42 : decode cX8_dance 42 = .ok (.lmul, 1) := by decide +kernel
theorem dX8_dance_43 : decode cX8_dance 43 = .ok (.ldc2_w 265, 3) := by decide +kernel
theorem dX8_dance_46 : decode cX8_dance 46 = .ok (.ldiv, 1) := by decide +kernel
theorem dX8_dance_47 : decode cX8_dance 47 = .ok (.lstore_n 3, 1) := by decide +kernel
theorem dX8_dance_48 : decode cX8_dance 48 = .ok (.iinc 5 1, 3) := by decide +kernel
theorem dX8_dance_51 : decode cX8_dance 51 = .ok (.goto (-21), 3) := by decide +kernel
theorem dX8_dance_54 : decode cX8_dance 54 = .ok (.lload_n 3, 1) := by decide +kernel
theorem dX8_dance_55 : decode cX8_dance 55 = .ok (.l2i, 1) := by decide +kernel
theorem dX8_dance_56 : decode cX8_dance 56 = .ok (.ireturn, 1) := by decide +kernel
theorem dX8_fit_0 : decode cX8_fit 0 = .ok (.aload_n 0, 1) := by decide +kernel
theorem dX8_fit_1 : decode cX8_fit 1 = .ok (.getfield 26, 3) := by decide +kernel
theorem dX8_fit_4 : decode cX8_fit 4 = .ok (.getfield 143, 3) := by decide +kernel
theorem dX8_fit_7 : decode cX8_fit 7 = .ok (.invokevirtual 267, 3) := by decide +kernel
theorem dX8_fit_10 : decode cX8_fit 10 = .ok (.lstore_n 2, 1) := by decide +kernel
theorem dX8_fit_11 : decode cX8_fit 11 = .ok (.iload_n 1, 1) := by decide +kernel
theorem dX8_fit_12 : decode cX8_fit 12 = .ok (.iconst (-1), 1) := by decide +kernel
theorem dX8_fit_13 : decode cX8_fit 13 = .ok (.if_icmp .ne 8, 3) := by decide +kernel
theorem dX8_fit_16 : decode cX8_fit 16 = .ok (.lload_n 2, 1) := by decide +kernel
theorem dX8_fit_17 : decode cX8_fit 17 = .ok (.invokestatic 271, 3) := by decide +kernel
theorem dX8_fit_20 : decode cX8_fit 20 = .ok (.ireturn, 1) := by decide +kernel
theorem dX8_fit_21 : decode cX8_fit 21 = .ok (.iconst 0, 1) := by decide +kernel
theorem dX8_fit_22 : decode cX8_fit 22 = .ok (.istore 4, 2) := by decide +kernel
theorem dX8_fit_24 : decode cX8_fit 24 = .ok (.iconst 0, 1) := by decide +kernel
theorem dX8_fit_25 : decode cX8_fit 25 = .ok (.istore 5, 2) := by decide +kernel
theorem dX8_fit_27 : decode cX8_fit 27 = .ok (.iload 5, 2) := by decide +kernel
theorem dX8_fit_29 : decode cX8_fit 29 = .ok (.bipush 64, 2) := by decide +kernel
theorem dX8_fit_31 : decode cX8_fit 31 = .ok (.if_icmp .ge 32, 3) := by decide +kernel
theorem dX8_fit_34 : decode cX8_fit 34 = .ok (.lload_n 2, 1) := by decide +kernel
theorem dX8_fit_35 : decode cX8_fit 35 = .ok (.iload 5, 2) := by decide +kernel
theorem dX8_fit_37 : decode cX8_fit 37 = .ok (.lushr, 1) := by decide +kernel
theorem dX8_fit_38 : decode cX8_fit 38 = .ok (.lconst 1, 1) := by decide +kernel
theorem dX8_fit_39 : decode cX8_fit 39 = .ok (.land, 1) := by decide +kernel
theorem dX8_fit_40 : decode cX8_fit 40 = .ok (.lconst 1, 1) := by decide +kernel
theorem dX8_fit_41 : decode cX8_fit 41 = .ok (.lcmp, 1) := by decide +kernel
theorem dX8_fit_42 : decode cX8_fit 42 = .ok (.ifCond .ne 15, 3) := by decide +kernel
theorem dX8_fit_45 : decode cX8_fit 45 = .ok (.iload 4, 2) := by decide +kernel
theorem dX8_fit_47 : decode cX8_fit 47 = .ok (.iload_n 1, 1) := by decide +kernel
theorem dX8_fit_48 : decode cX8_fit 48 = .ok (.if_icmp .ne 6, 3) := by decide +kernel
theorem dX8_fit_51 : decode cX8_fit 51 = .ok (.iload 5, 2) := by decide +kernel
theorem dX8_fit_53 : decode cX8_fit 53 = .ok (.ireturn, 1) := by decide +kernel
theorem dX8_fit_54 : decode cX8_fit 54 = .ok (.iinc 4 1, 3) := by decide +kernel
theorem dX8_fit_57 : decode cX8_fit 57 = .ok (.iinc 5 1, 3) := by decide +kernel
theorem dX8_fit_60 : decode cX8_fit 60 = .ok (.goto (-33), 3) := by decide +kernel
theorem dX8_fit_63 : decode cX8_fit 63 = .ok (.iconst (-1), 1) := by decide +kernel
theorem dX8_fit_64 : decode cX8_fit 64 = .ok (.ireturn, 1) := by decide +kernel
theorem dX8_tells_0 : decode cX8_tells 0 = .ok (.aload_n 0, 1) := by decide +kernel
theorem dX8_tells_1 : decode cX8_tells 1 = .ok (.getfield 26, 3) := by decide +kernel
theorem dX8_tells_4 : decode cX8_tells 4 = .ok (.getfield 143, 3) := by decide +kernel
theorem dX8_tells_7 : decode cX8_tells 7 = .ok (.invokevirtual 267, 3) := by decide +kernel
theorem dX8_tells_10 : decode cX8_tells 10 = .ok (.lstore_n 1, 1) := by decide +kernel
theorem dX8_tells_11 : decode cX8_tells 11 = .ok (.lload_n 1, 1) := by decide +kernel
theorem dX8_tells_12 : decode cX8_tells 12 = .ok (.invokestatic 271, 3) := by decide +kernel
theorem dX8_tells_15 : decode cX8_tells 15 = .ok (.istore_n 3, 1) := by decide +kernel
theorem dX8_tells_16 : decode cX8_tells 16 = .ok (.iconst (-1), 1) := by decide +kernel
theorem dX8_tells_17 : decode cX8_tells 17 = .ok (.istore 4, 2) := by decide +kernel
theorem dX8_tells_19 : decode cX8_tells 19 = .ok (.iconst 0, 1) := by decide +kernel
theorem dX8_tells_20 : decode cX8_tells 20 = .ok (.istore 5, 2) := by decide +kernel
theorem dX8_tells_22 : decode cX8_tells 22 = .ok (.iload 5, 2) := by decide +kernel
theorem dX8_tells_24 : decode cX8_tells 24 = .ok (.aload_n 0, 1) := by decide +kernel
theorem dX8_tells_25 : decode cX8_tells 25 = .ok (.getfield 19, 3) := by decide +kernel
theorem dX8_tells_28 : decode cX8_tells 28 = .ok (.getfield 98, 3) := by decide +kernel
theorem dX8_tells_31 : decode cX8_tells 31 = .ok (.if_icmp .ge 59, 3) := by decide +kernel
theorem dX8_tells_34 : decode cX8_tells 34 = .ok (.aload_n 0, 1) := by decide +kernel
theorem dX8_tells_35 : decode cX8_tells 35 = .ok (.getfield 53, 3) := by decide +kernel
theorem dX8_tells_38 : decode cX8_tells 38 = .ok (.aload_n 0, 1) := by decide +kernel
theorem dX8_tells_39 : decode cX8_tells 39 = .ok (.getfield 26, 3) := by decide +kernel
theorem dX8_tells_42 : decode cX8_tells 42 = .ok (.getfield 113, 3) := by decide +kernel
theorem dX8_tells_45 : decode cX8_tells 45 = .ok (.invokevirtual 226, 3) := by decide +kernel
theorem dX8_tells_48 : decode cX8_tells 48 = .ok (.aload_n 0, 1) := by decide +kernel
theorem dX8_tells_49 : decode cX8_tells 49 = .ok (.getfield 53, 3) := by decide +kernel
theorem dX8_tells_52 : decode cX8_tells 52 = .ok (.dup, 1) := by decide +kernel
theorem dX8_tells_53 : decode cX8_tells 53 = .ok (.getfield 128, 3) := by decide +kernel
theorem dX8_tells_56 : decode cX8_tells 56 = .ok (.iconst 1, 1) := by decide +kernel
theorem dX8_tells_57 : decode cX8_tells 57 = .ok (.iload 5, 2) := by decide +kernel
theorem dX8_tells_59 : decode cX8_tells 59 = .ok (.ishl, 1) := by decide +kernel
theorem dX8_tells_60 : decode cX8_tells 60 = .ok (.ixor, 1) := by decide +kernel
theorem dX8_tells_61 : decode cX8_tells 61 = .ok (.putfield 128, 3) := by decide +kernel
theorem dX8_tells_64 : decode cX8_tells 64 = .ok (.aload_n 0, 1) := by decide +kernel
theorem dX8_tells_65 : decode cX8_tells 65 = .ok (.lload_n 1, 1) := by decide +kernel
theorem dX8_tells_66 : decode cX8_tells 66 = .ok (.invokevirtual 277, 3) := by decide +kernel
theorem dX8_tells_69 : decode cX8_tells 69 = .ok (.istore 6, 2) := by decide +kernel
theorem dX8_tells_71 : decode cX8_tells 71 = .ok (.iload 6, 2) := by decide +kernel
theorem dX8_tells_73 : decode cX8_tells 73 = .ok (.iload_n 3, 1) := by decide +kernel
theorem dX8_tells_74 : decode cX8_tells 74 = .ok (.if_icmp .ge 10, 3) := by decide +kernel
theorem dX8_tells_77 : decode cX8_tells 77 = .ok (.iload 6, 2) := by decide +kernel
theorem dX8_tells_79 : decode cX8_tells 79 = .ok (.istore_n 3, 1) := by decide +kernel
theorem dX8_tells_80 : decode cX8_tells 80 = .ok (.iload 5, 2) := by decide +kernel
theorem dX8_tells_82 : decode cX8_tells 82 = .ok (.istore 4, 2) := by decide +kernel
theorem dX8_tells_84 : decode cX8_tells 84 = .ok (.iinc 5 1, 3) := by decide +kernel
theorem dX8_tells_87 : decode cX8_tells 87 = .ok (.goto (-65), 3) := by decide +kernel
theorem dX8_tells_90 : decode cX8_tells 90 = .ok (.iload 4, 2) := by decide +kernel
theorem dX8_tells_92 : decode cX8_tells 92 = .ok (.ireturn, 1) := by decide +kernel
theorem dX8_teachFor_0 : decode cX8_teachFor 0 = .ok (.iload_n 1, 1) := by decide +kernel
theorem dX8_teachFor_1 : decode cX8_teachFor 1 = .ok (.ifCond .lt 18, 3) := by decide +kernel
theorem dX8_teachFor_4 : decode cX8_teachFor 4 = .ok (.iload_n 1, 1) := by decide +kernel
theorem dX8_teachFor_5 : decode cX8_teachFor 5 = .ok (.ldc_w 280, 3) := by decide +kernel
theorem dX8_teachFor_8 : decode cX8_teachFor 8 = .ok (.if_icmp .gt 11, 3) := by decide +kernel
theorem dX8_teachFor_11 : decode cX8_teachFor 11 = .ok (.aload_n 0, 1) := by decide +kernel
theorem dX8_teachFor_12 : decode cX8_teachFor 12 = .ok (.iload_n 1, 1) := by decide +kernel
theorem dX8_teachFor_13 : decode cX8_teachFor 13 = .ok (.invokevirtual 281, 3) := by decide +kernel
theorem dX8_teachFor_16 : decode cX8_teachFor 16 = .ok (.ifCond .ne 6, 3) := by decide +kernel
theorem dX8_teachFor_19 : decode cX8_teachFor 19 = .ok (.ldc 65, 2) := by decide +kernel
theorem dX8_teachFor_21 : decode cX8_teachFor 21 = .ok (.ireturn, 1) := by decide +kernel
theorem dX8_teachFor_22 : decode cX8_teachFor 22 = .ok (.aload_n 0, 1) := by decide +kernel
theorem dX8_teachFor_23 : decode cX8_teachFor 23 = .ok (.getfield 19, 3) := by decide +kernel
theorem dX8_teachFor_26 : decode cX8_teachFor 26 = .ok (.getfield 98, 3) := by decide +kernel
theorem dX8_teachFor_29 : decode cX8_teachFor 29 = .ok (.ifCond .ne 6, 3) := by decide +kernel
theorem dX8_teachFor_32 : decode cX8_teachFor 32 = .ok (.ldc 216, 2) := by decide +kernel
theorem dX8_teachFor_34 : decode cX8_teachFor 34 = .ok (.ireturn, 1) := by decide +kernel
theorem dX8_teachFor_35 : decode cX8_teachFor 35 = .ok (.iconst (-1), 1) := by decide +kernel
theorem dX8_teachFor_36 : decode cX8_teachFor 36 = .ok (.istore_n 2, 1) := by decide +kernel
theorem dX8_teachFor_37 : decode cX8_teachFor 37 = .ok (.iconst 0, 1) := by decide +kernel
theorem dX8_teachFor_38 : decode cX8_teachFor 38 = .ok (.istore_n 3, 1) := by decide +kernel
theorem dX8_teachFor_39 : decode cX8_teachFor 39 = .ok (.iconst 0, 1) := by decide +kernel
theorem dX8_teachFor_40 : decode cX8_teachFor 40 = .ok (.istore 4, 2) := by decide +kernel
theorem dX8_teachFor_42 : decode cX8_teachFor 42 = .ok (.iload 4, 2) := by decide +kernel
theorem dX8_teachFor_44 : decode cX8_teachFor 44 = .ok (.bipush 64, 2) := by decide +kernel
theorem dX8_teachFor_46 : decode cX8_teachFor 46 = .ok (.if_icmp .ge 53, 3) := by decide +kernel
theorem dX8_teachFor_49 : decode cX8_teachFor 49 = .ok (.iload 4, 2) := by decide +kernel
theorem dX8_teachFor_51 : decode cX8_teachFor 51 = .ok (.aload_n 0, 1) := by decide +kernel
theorem dX8_teachFor_52 : decode cX8_teachFor 52 = .ok (.getfield 26, 3) := by decide +kernel
theorem dX8_teachFor_55 : decode cX8_teachFor 55 = .ok (.getfield 113, 3) := by decide +kernel
theorem dX8_teachFor_58 : decode cX8_teachFor 58 = .ok (.getfield 116, 3) := by decide +kernel
theorem dX8_teachFor_61 : decode cX8_teachFor 61 = .ok (.invokestatic 284, 3) := by decide +kernel
theorem dX8_teachFor_64 : decode cX8_teachFor 64 = .ok (.istore 5, 2) := by decide +kernel
theorem dX8_teachFor_66 : decode cX8_teachFor 66 = .ok (.iload_n 2, 1) := by decide +kernel
theorem dX8_teachFor_67 : decode cX8_teachFor 67 = .ok (.iconst (-1), 1) := by decide +kernel
theorem dX8_teachFor_68 : decode cX8_teachFor 68 = .ok (.if_icmp .eq 9, 3) := by decide +kernel
theorem dX8_teachFor_71 : decode cX8_teachFor 71 = .ok (.iload 5, 2) := by decide +kernel
theorem dX8_teachFor_73 : decode cX8_teachFor 73 = .ok (.iload_n 3, 1) := by decide +kernel
theorem dX8_teachFor_74 : decode cX8_teachFor 74 = .ok (.if_icmp .ge 19, 3) := by decide +kernel
theorem dX8_teachFor_77 : decode cX8_teachFor 77 = .ok (.aload_n 0, 1) := by decide +kernel
theorem dX8_teachFor_78 : decode cX8_teachFor 78 = .ok (.iload 4, 2) := by decide +kernel
theorem dX8_teachFor_80 : decode cX8_teachFor 80 = .ok (.iload_n 1, 1) := by decide +kernel
theorem dX8_teachFor_81 : decode cX8_teachFor 81 = .ok (.invokevirtual 287, 3) := by decide +kernel
theorem dX8_teachFor_84 : decode cX8_teachFor 84 = .ok (.ifCond .eq 9, 3) := by decide +kernel
theorem dX8_teachFor_87 : decode cX8_teachFor 87 = .ok (.iload 4, 2) := by decide +kernel
theorem dX8_teachFor_89 : decode cX8_teachFor 89 = .ok (.istore_n 2, 1) := by decide +kernel
theorem dX8_teachFor_90 : decode cX8_teachFor 90 = .ok (.iload 5, 2) := by decide +kernel
theorem dX8_teachFor_92 : decode cX8_teachFor 92 = .ok (.istore_n 3, 1) := by decide +kernel
theorem dX8_teachFor_93 : decode cX8_teachFor 93 = .ok (.iinc 4 1, 3) := by decide +kernel
theorem dX8_teachFor_96 : decode cX8_teachFor 96 = .ok (.goto (-54), 3) := by decide +kernel
theorem dX8_teachFor_99 : decode cX8_teachFor 99 = .ok (.iload_n 2, 1) := by decide +kernel
theorem dX8_teachFor_100 : decode cX8_teachFor 100 = .ok (.ireturn, 1) := by decide +kernel
theorem dX8_otherwise_0 : decode cX8_otherwise 0 = .ok (.iload_n 1, 1) := by decide +kernel
theorem dX8_otherwise_1 : decode cX8_otherwise 1 = .ok (.invokestatic 217, 3) := by decide +kernel
theorem dX8_otherwise_4 : decode cX8_otherwise 4 = .ok (.ifCond .eq 6, 3) := by decide +kernel
theorem dX8_otherwise_7 : decode cX8_otherwise 7 = .ok (.ldc 155, 2) := by decide +kernel
theorem dX8_otherwise_9 : decode cX8_otherwise 9 = .ok (.ireturn, 1) := by decide +kernel
theorem dX8_otherwise_10 : decode cX8_otherwise 10 = .ok (.aload_n 0, 1) := by decide +kernel
theorem dX8_otherwise_11 : decode cX8_otherwise 11 = .ok (.getfield 19, 3) := by decide +kernel
theorem dX8_otherwise_14 : decode cX8_otherwise 14 = .ok (.getfield 98, 3) := by decide +kernel
theorem dX8_otherwise_17 : decode cX8_otherwise 17 = .ok (.ifCond .ne 6, 3) := by decide +kernel
theorem dX8_otherwise_20 : decode cX8_otherwise 20 = .ok (.ldc 216, 2) := by decide +kernel
theorem dX8_otherwise_22 : decode cX8_otherwise 22 = .ok (.ireturn, 1) := by decide +kernel
theorem dX8_otherwise_23 : decode cX8_otherwise 23 = .ok (.aload_n 0, 1) := by decide +kernel
theorem dX8_otherwise_24 : decode cX8_otherwise 24 = .ok (.getfield 53, 3) := by decide +kernel
theorem dX8_otherwise_27 : decode cX8_otherwise 27 = .ok (.aload_n 0, 1) := by decide +kernel
theorem dX8_otherwise_28 : decode cX8_otherwise 28 = .ok (.getfield 26, 3) := by decide +kernel
theorem dX8_otherwise_31 : decode cX8_otherwise 31 = .ok (.getfield 113, 3) := by decide +kernel
theorem dX8_otherwise_34 : decode cX8_otherwise 34 = .ok (.invokevirtual 226, 3) := by decide +kernel
theorem dX8_otherwise_37 : decode cX8_otherwise 37 = .ok (.aload_n 0, 1) := by decide +kernel
theorem dX8_otherwise_38 : decode cX8_otherwise 38 = .ok (.getfield 57, 3) := by decide +kernel
theorem dX8_otherwise_41 : decode cX8_otherwise 41 = .ok (.aload_n 0, 1) := by decide +kernel
theorem dX8_otherwise_42 : decode cX8_otherwise 42 = .ok (.getfield 26, 3) := by decide +kernel
theorem dX8_otherwise_45 : decode cX8_otherwise 45 = .ok (.getfield 113, 3) := by decide +kernel
theorem dX8_otherwise_48 : decode cX8_otherwise 48 = .ok (.invokevirtual 226, 3) := by decide +kernel
theorem dX8_otherwise_51 : decode cX8_otherwise 51 = .ok (.aload_n 0, 1) := by decide +kernel
theorem dX8_otherwise_52 : decode cX8_otherwise 52 = .ok (.getfield 57, 3) := by decide +kernel
theorem dX8_otherwise_55 : decode cX8_otherwise 55 = .ok (.iload_n 1, 1) := by decide +kernel
theorem dX8_otherwise_56 : decode cX8_otherwise 56 = .ok (.putfield 116, 3) := by decide +kernel
theorem dX8_otherwise_59 : decode cX8_otherwise 59 = .ok (.iconst 1, 1) := by decide +kernel
theorem dX8_otherwise_60 : decode cX8_otherwise 60 = .ok (.istore_n 2, 1) := by decide +kernel
theorem dX8_otherwise_61 : decode cX8_otherwise 61 = .ok (.iload_n 2, 1) := by decide +kernel
theorem dX8_otherwise_62 : decode cX8_otherwise 62 = .ok (.bipush 100, 2) := by decide +kernel
theorem dX8_otherwise_64 : decode cX8_otherwise 64 = .ok (.if_icmp .gt 42, 3) := by decide +kernel
theorem dX8_otherwise_67 : decode cX8_otherwise 67 = .ok (.aload_n 0, 1) := by decide +kernel
theorem dX8_otherwise_68 : decode cX8_otherwise 68 = .ok (.getfield 53, 3) := by decide +kernel
theorem dX8_otherwise_71 : decode cX8_otherwise 71 = .ok (.invokevirtual 230, 3) := by decide +kernel
theorem dX8_otherwise_74 : decode cX8_otherwise 74 = .ok (.aload_n 0, 1) := by decide +kernel
theorem dX8_otherwise_75 : decode cX8_otherwise 75 = .ok (.getfield 57, 3) := by decide +kernel
theorem dX8_otherwise_78 : decode cX8_otherwise 78 = .ok (.invokevirtual 230, 3) := by decide +kernel
end
section
theorem dX8_otherwise_81 : decode cX8_otherwise 81 = .ok (.aload_n 0, 1) := by decide +kernel
theorem dX8_otherwise_82 : decode cX8_otherwise 82 = .ok (.getfield 53, 3) := by decide +kernel
theorem dX8_otherwise_85 : decode cX8_otherwise 85 = .ok (.getfield 122, 3) := by decide +kernel
theorem dX8_otherwise_88 : decode cX8_otherwise 88 = .ok (.aload_n 0, 1) := by decide +kernel
theorem dX8_otherwise_89 : decode cX8_otherwise 89 = .ok (.getfield 57, 3) := by decide +kernel
theorem dX8_otherwise_92 : decode cX8_otherwise 92 = .ok (.getfield 122, 3) := by decide +kernel
theorem dX8_otherwise_95 : decode cX8_otherwise 95 = .ok (.if_icmp .eq 5, 3) := by decide +kernel
theorem dX8_otherwise_98 : decode cX8_otherwise 98 = .ok (.iload_n 2, 1) := by decide +kernel
theorem dX8_otherwise_99 : decode cX8_otherwise 99 = .ok (.ireturn, 1) := by decide +kernel
theorem dX8_otherwise_100 : decode cX8_otherwise 100 = .ok (.iinc 2 1, 3) := by decide +kernel
theorem dX8_otherwise_103 : decode cX8_otherwise 103 = .ok (.goto (-42), 3) := by decide +kernel
theorem dX8_otherwise_106 : decode cX8_otherwise 106 = .ok (.iconst (-1), 1) := by decide +kernel
theorem dX8_otherwise_107 : decode cX8_otherwise 107 = .ok (.ireturn, 1) := by decide +kernel
theorem dX8_write_0 : decode cX8_write 0 = .ok (.aload_n 0, 1) := by decide +kernel
theorem dX8_write_1 : decode cX8_write 1 = .ok (.iload_n 1, 1) := by decide +kernel
theorem dX8_write_2 : decode cX8_write 2 = .ok (.invokevirtual 151, 3) := by decide +kernel
theorem dX8_write_5 : decode cX8_write 5 = .ok (.ifCond .eq 6, 3) := by decide +kernel
theorem dX8_write_8 : decode cX8_write 8 = .ok (.ldc 155, 2) := by decide +kernel
theorem dX8_write_10 : decode cX8_write 10 = .ok (.ireturn, 1) := by decide +kernel
theorem dX8_write_11 : decode cX8_write 11 = .ok (.iload_n 2, 1) := by decide +kernel
theorem dX8_write_12 : decode cX8_write 12 = .ok (.ifCond .lt 10, 3) := by decide +kernel
theorem dX8_write_15 : decode cX8_write 15 = .ok (.iload_n 2, 1) := by decide +kernel
theorem dX8_write_16 : decode cX8_write 16 = .ok (.sipush 9999, 3) := by decide +kernel
theorem dX8_write_19 : decode cX8_write 19 = .ok (.if_icmp .le 6, 3) := by decide +kernel
theorem dX8_write_22 : decode cX8_write 22 = .ok (.ldc 65, 2) := by decide +kernel
theorem dX8_write_24 : decode cX8_write 24 = .ok (.ireturn, 1) := by decide +kernel
theorem dX8_write_25 : decode cX8_write 25 = .ok (.aload_n 0, 1) := by decide +kernel
theorem dX8_write_26 : decode cX8_write 26 = .ok (.getfield 46, 3) := by decide +kernel
theorem dX8_write_29 : decode cX8_write 29 = .ok (.getfield 91, 3) := by decide +kernel
theorem dX8_write_32 : decode cX8_write 32 = .ok (.bipush 15, 2) := by decide +kernel
theorem dX8_write_34 : decode cX8_write 34 = .ok (.if_icmp .lt 6, 3) := by decide +kernel
theorem dX8_write_37 : decode cX8_write 37 = .ok (.ldc 70, 2) := by decide +kernel
theorem dX8_write_39 : decode cX8_write 39 = .ok (.ireturn, 1) := by decide +kernel
theorem dX8_write_40 : decode cX8_write 40 = .ok (.aload_n 0, 1) := by decide +kernel
theorem dX8_write_41 : decode cX8_write 41 = .ok (.getfield 46, 3) := by decide +kernel
theorem dX8_write_44 : decode cX8_write 44 = .ok (.iload_n 1, 1) := by decide +kernel
theorem dX8_write_45 : decode cX8_write 45 = .ok (.iload_n 2, 1) := by decide +kernel
theorem dX8_write_46 : decode cX8_write 46 = .ok (.invokevirtual 290, 3) := by decide +kernel
theorem dX8_write_49 : decode cX8_write 49 = .ok (.aload_n 0, 1) := by decide +kernel
theorem dX8_write_50 : decode cX8_write 50 = .ok (.getfield 46, 3) := by decide +kernel
theorem dX8_write_53 : decode cX8_write 53 = .ok (.getfield 91, 3) := by decide +kernel
theorem dX8_write_56 : decode cX8_write 56 = .ok (.ireturn, 1) := by decide +kernel
theorem dX8_tear_0 : decode cX8_tear 0 = .ok (.aload_n 0, 1) := by decide +kernel
theorem dX8_tear_1 : decode cX8_tear 1 = .ok (.getfield 46, 3) := by decide +kernel
theorem dX8_tear_4 : decode cX8_tear 4 = .ok (.getfield 91, 3) := by decide +kernel
theorem dX8_tear_7 : decode cX8_tear 7 = .ok (.istore_n 1, 1) := by decide +kernel
theorem dX8_tear_8 : decode cX8_tear 8 = .ok (.aload_n 0, 1) := by decide +kernel
theorem dX8_tear_9 : decode cX8_tear 9 = .ok (.getfield 46, 3) := by decide +kernel
theorem dX8_tear_12 : decode cX8_tear 12 = .ok (.iconst 0, 1) := by decide +kernel
theorem dX8_tear_13 : decode cX8_tear 13 = .ok (.putfield 91, 3) := by decide +kernel
theorem dX8_tear_16 : decode cX8_tear 16 = .ok (.iload_n 1, 1) := by decide +kernel
theorem dX8_tear_17 : decode cX8_tear 17 = .ok (.ireturn, 1) := by decide +kernel
theorem dX8_judge_0 : decode cX8_judge 0 = .ok (.aload_n 0, 1) := by decide +kernel
theorem dX8_judge_1 : decode cX8_judge 1 = .ok (.getfield 46, 3) := by decide +kernel
theorem dX8_judge_4 : decode cX8_judge 4 = .ok (.aload_n 0, 1) := by decide +kernel
theorem dX8_judge_5 : decode cX8_judge 5 = .ok (.getfield 26, 3) := by decide +kernel
theorem dX8_judge_8 : decode cX8_judge 8 = .ok (.getfield 163, 3) := by decide +kernel
theorem dX8_judge_11 : decode cX8_judge 11 = .ok (.invokevirtual 293, 3) := by decide +kernel
theorem dX8_judge_14 : decode cX8_judge 14 = .ok (.ireturn, 1) := by decide +kernel
theorem dX8_seed_0 : decode cX8_seed 0 = .ok (.iload_n 1, 1) := by decide +kernel
theorem dX8_seed_1 : decode cX8_seed 1 = .ok (.ifCond .ge 6, 3) := by decide +kernel
theorem dX8_seed_4 : decode cX8_seed 4 = .ok (.ldc 65, 2) := by decide +kernel
theorem dX8_seed_6 : decode cX8_seed 6 = .ok (.ireturn, 1) := by decide +kernel
theorem dX8_seed_7 : decode cX8_seed 7 = .ok (.aload_n 0, 1) := by decide +kernel
theorem dX8_seed_8 : decode cX8_seed 8 = .ok (.getfield 297, 3) := by decide +kernel
theorem dX8_seed_11 : decode cX8_seed 11 = .ok (.istore_n 2, 1) := by decide +kernel
theorem dX8_seed_12 : decode cX8_seed 12 = .ok (.aload_n 0, 1) := by decide +kernel
theorem dX8_seed_13 : decode cX8_seed 13 = .ok (.iload_n 1, 1) := by decide +kernel
theorem dX8_seed_14 : decode cX8_seed 14 = .ok (.putfield 297, 3) := by decide +kernel
theorem dX8_seed_17 : decode cX8_seed 17 = .ok (.iload_n 2, 1) := by decide +kernel
theorem dX8_seed_18 : decode cX8_seed 18 = .ok (.ireturn, 1) := by decide +kernel
theorem dX8_keep_0 : decode cX8_keep 0 = .ok (.iload_n 1, 1) := by decide +kernel
theorem dX8_keep_1 : decode cX8_keep 1 = .ok (.ifCond .lt 8, 3) := by decide +kernel
theorem dX8_keep_4 : decode cX8_keep 4 = .ok (.iload_n 1, 1) := by decide +kernel
theorem dX8_keep_5 : decode cX8_keep 5 = .ok (.iconst 2, 1) := by decide +kernel
theorem dX8_keep_6 : decode cX8_keep 6 = .ok (.if_icmp .lt 6, 3) := by decide +kernel
theorem dX8_keep_9 : decode cX8_keep 9 = .ok (.ldc 155, 2) := by decide +kernel
theorem dX8_keep_11 : decode cX8_keep 11 = .ok (.ireturn, 1) := by decide +kernel
theorem dX8_keep_12 : decode cX8_keep 12 = .ok (.aload_n 0, 1) := by decide +kernel
theorem dX8_keep_13 : decode cX8_keep 13 = .ok (.getfield 39, 3) := by decide +kernel
theorem dX8_keep_16 : decode cX8_keep 16 = .ok (.iload_n 1, 1) := by decide +kernel
theorem dX8_keep_17 : decode cX8_keep 17 = .ok (.aaload, 1) := by decide +kernel
theorem dX8_keep_18 : decode cX8_keep 18 = .ok (.astore_n 2, 1) := by decide +kernel
theorem dX8_keep_19 : decode cX8_keep 19 = .ok (.aload_n 2, 1) := by decide +kernel
theorem dX8_keep_20 : decode cX8_keep 20 = .ok (.iconst 1, 1) := by decide +kernel
theorem dX8_keep_21 : decode cX8_keep 21 = .ok (.putfield 94, 3) := by decide +kernel
theorem dX8_keep_24 : decode cX8_keep 24 = .ok (.aload_n 2, 1) := by decide +kernel
theorem dX8_keep_25 : decode cX8_keep 25 = .ok (.aload_n 0, 1) := by decide +kernel
theorem dX8_keep_26 : decode cX8_keep 26 = .ok (.getfield 297, 3) := by decide +kernel
theorem dX8_keep_29 : decode cX8_keep 29 = .ok (.putfield 300, 3) := by decide +kernel
theorem dX8_keep_32 : decode cX8_keep 32 = .ok (.aload_n 2, 1) := by decide +kernel
theorem dX8_keep_33 : decode cX8_keep 33 = .ok (.getfield 303, 3) := by decide +kernel
theorem dX8_keep_36 : decode cX8_keep 36 = .ok (.aload_n 0, 1) := by decide +kernel
theorem dX8_keep_37 : decode cX8_keep 37 = .ok (.getfield 26, 3) := by decide +kernel
theorem dX8_keep_40 : decode cX8_keep 40 = .ok (.invokevirtual 306, 3) := by decide +kernel
theorem dX8_keep_43 : decode cX8_keep 43 = .ok (.aload_n 0, 1) := by decide +kernel
theorem dX8_keep_44 : decode cX8_keep 44 = .ok (.getfield 33, 3) := by decide +kernel
theorem dX8_keep_47 : decode cX8_keep 47 = .ok (.invokevirtual 88, 3) := by decide +kernel
theorem dX8_keep_50 : decode cX8_keep 50 = .ok (.iconst 1, 1) := by decide +kernel
theorem dX8_keep_51 : decode cX8_keep 51 = .ok (.ireturn, 1) := by decide +kernel
theorem dX8_goBack_0 : decode cX8_goBack 0 = .ok (.iload_n 1, 1) := by decide +kernel
theorem dX8_goBack_1 : decode cX8_goBack 1 = .ok (.ifCond .lt 8, 3) := by decide +kernel
theorem dX8_goBack_4 : decode cX8_goBack 4 = .ok (.iload_n 1, 1) := by decide +kernel
theorem dX8_goBack_5 : decode cX8_goBack 5 = .ok (.iconst 2, 1) := by decide +kernel
theorem dX8_goBack_6 : decode cX8_goBack 6 = .ok (.if_icmp .lt 6, 3) := by decide +kernel
theorem dX8_goBack_9 : decode cX8_goBack 9 = .ok (.ldc 155, 2) := by decide +kernel
theorem dX8_goBack_11 : decode cX8_goBack 11 = .ok (.ireturn, 1) := by decide +kernel
theorem dX8_goBack_12 : decode cX8_goBack 12 = .ok (.aload_n 0, 1) := by decide +kernel
theorem dX8_goBack_13 : decode cX8_goBack 13 = .ok (.getfield 39, 3) := by decide +kernel
theorem dX8_goBack_16 : decode cX8_goBack 16 = .ok (.iload_n 1, 1) := by decide +kernel
theorem dX8_goBack_17 : decode cX8_goBack 17 = .ok (.aaload, 1) := by decide +kernel
theorem dX8_goBack_18 : decode cX8_goBack 18 = .ok (.astore_n 2, 1) := by decide +kernel
theorem dX8_goBack_19 : decode cX8_goBack 19 = .ok (.aload_n 2, 1) := by decide +kernel
theorem dX8_goBack_20 : decode cX8_goBack 20 = .ok (.getfield 94, 3) := by decide +kernel
theorem dX8_goBack_23 : decode cX8_goBack 23 = .ok (.ifCond .ne 6, 3) := by decide +kernel
theorem dX8_goBack_26 : decode cX8_goBack 26 = .ok (.ldc 216, 2) := by decide +kernel
theorem dX8_goBack_28 : decode cX8_goBack 28 = .ok (.ireturn, 1) := by decide +kernel
theorem dX8_goBack_29 : decode cX8_goBack 29 = .ok (.aload_n 0, 1) := by decide +kernel
theorem dX8_goBack_30 : decode cX8_goBack 30 = .ok (.aload_n 2, 1) := by decide +kernel
theorem dX8_goBack_31 : decode cX8_goBack 31 = .ok (.getfield 300, 3) := by decide +kernel
theorem dX8_goBack_34 : decode cX8_goBack 34 = .ok (.putfield 297, 3) := by decide +kernel
theorem dX8_goBack_37 : decode cX8_goBack 37 = .ok (.aload_n 0, 1) := by decide +kernel
theorem dX8_goBack_38 : decode cX8_goBack 38 = .ok (.getfield 26, 3) := by decide +kernel
theorem dX8_goBack_41 : decode cX8_goBack 41 = .ok (.aload_n 2, 1) := by decide +kernel
theorem dX8_goBack_42 : decode cX8_goBack 42 = .ok (.getfield 303, 3) := by decide +kernel
theorem dX8_goBack_45 : decode cX8_goBack 45 = .ok (.invokevirtual 306, 3) := by decide +kernel
theorem dX8_goBack_48 : decode cX8_goBack 48 = .ok (.aload_n 0, 1) := by decide +kernel
theorem dX8_goBack_49 : decode cX8_goBack 49 = .ok (.getfield 33, 3) := by decide +kernel
theorem dX8_goBack_52 : decode cX8_goBack 52 = .ok (.invokevirtual 88, 3) := by decide +kernel
theorem dX8_goBack_55 : decode cX8_goBack 55 = .ok (.iconst 1, 1) := by decide +kernel
theorem dX8_goBack_56 : decode cX8_goBack 56 = .ok (.ireturn, 1) := by decide +kernel
theorem dX8_isNoRoom_0 : decode cX8_isNoRoom 0 = .ok (.iload_n 1, 1) := by decide +kernel
theorem dX8_isNoRoom_1 : decode cX8_isNoRoom 1 = .ok (.ifCond .lt 14, 3) := by decide +kernel
theorem dX8_isNoRoom_4 : decode cX8_isNoRoom 4 = .ok (.iload_n 1, 1) := by decide +kernel
theorem dX8_isNoRoom_5 : decode cX8_isNoRoom 5 = .ok (.aload_n 0, 1) := by decide +kernel
theorem dX8_isNoRoom_6 : decode cX8_isNoRoom 6 = .ok (.getfield 19, 3) := by decide +kernel
theorem dX8_isNoRoom_9 : decode cX8_isNoRoom 9 = .ok (.getfield 98, 3) := by decide +kernel
theorem dX8_isNoRoom_12 : decode cX8_isNoRoom 12 = .ok (.if_icmp .lt 7, 3) := by decide +kernel
theorem dX8_isNoRoom_15 : decode cX8_isNoRoom 15 = .ok (.iconst 1, 1) := by decide +kernel
theorem dX8_isNoRoom_16 : decode cX8_isNoRoom 16 = .ok (.goto 4, 3) := by decide +kernel
theorem dX8_isNoRoom_19 : decode cX8_isNoRoom 19 = .ok (.iconst 0, 1) := by decide +kernel
theorem dX8_isNoRoom_20 : decode cX8_isNoRoom 20 = .ok (.ireturn, 1) := by decide +kernel
theorem dX8_isNoPetition_0 : decode cX8_isNoPetition 0 = .ok (.iload_n 1, 1) := by decide +kernel
theorem dX8_isNoPetition_1 : decode cX8_isNoPetition 1 = .ok (.ifCond .lt 14, 3) := by decide +kernel
theorem dX8_isNoPetition_4 : decode cX8_isNoPetition 4 = .ok (.iload_n 1, 1) := by decide +kernel
theorem dX8_isNoPetition_5 : decode cX8_isNoPetition 5 = .ok (.aload_n 0, 1) := by decide +kernel
theorem dX8_isNoPetition_6 : decode cX8_isNoPetition 6 = .ok (.getfield 19, 3) := by decide +kernel
theorem dX8_isNoPetition_9 : decode cX8_isNoPetition 9 = .ok (.getfield 107, 3) := by decide +kernel
theorem dX8_isNoPetition_12 : decode cX8_isNoPetition 12 = .ok (.if_icmp .lt 7, 3) := by decide +kernel
theorem dX8_isNoPetition_15 : decode cX8_isNoPetition 15 = .ok (.iconst 1, 1) := by decide +kernel
theorem dX8_isNoPetition_16 : decode cX8_isNoPetition 16 = .ok (.goto 4, 3) := by decide +kernel
theorem dX8_isNoPetition_19 : decode cX8_isNoPetition 19 = .ok (.iconst 0, 1) := by decide +kernel
theorem dX8_isNoPetition_20 : decode cX8_isNoPetition 20 = .ok (.ireturn, 1) := by decide +kernel
theorem dX8_isNoRule_0 : decode cX8_isNoRule 0 = .ok (.iload_n 0, 1) := by decide +kernel
theorem dX8_isNoRule_1 : decode cX8_isNoRule 1 = .ok (.ifCond .lt 9, 3) := by decide +kernel
theorem dX8_isNoRule_4 : decode cX8_isNoRule 4 = .ok (.iload_n 0, 1) := by decide +kernel
theorem dX8_isNoRule_5 : decode cX8_isNoRule 5 = .ok (.bipush 64, 2) := by decide +kernel
theorem dX8_isNoRule_7 : decode cX8_isNoRule 7 = .ok (.if_icmp .lt 7, 3) := by decide +kernel
theorem dX8_isNoRule_10 : decode cX8_isNoRule 10 = .ok (.iconst 1, 1) := by decide +kernel
theorem dX8_isNoRule_11 : decode cX8_isNoRule 11 = .ok (.goto 4, 3) := by decide +kernel
theorem dX8_isNoRule_14 : decode cX8_isNoRule 14 = .ok (.iconst 0, 1) := by decide +kernel
theorem dX8_isNoRule_15 : decode cX8_isNoRule 15 = .ok (.ireturn, 1) := by decide +kernel
theorem dX8_refusalOfHours_0 : decode cX8_refusalOfHours 0 = .ok (.iload_n 1, 1) := by decide +kernel
theorem dX8_refusalOfHours_1 : decode cX8_refusalOfHours 1 = .ok (.iconst 1, 1) := by decide +kernel
theorem dX8_refusalOfHours_2 : decode cX8_refusalOfHours 2 = .ok (.if_icmp .lt 9, 3) := by decide +kernel
theorem dX8_refusalOfHours_5 : decode cX8_refusalOfHours 5 = .ok (.iload_n 1, 1) := by decide +kernel
theorem dX8_refusalOfHours_6 : decode cX8_refusalOfHours 6 = .ok (.bipush 60, 2) := by decide +kernel
theorem dX8_refusalOfHours_8 : decode cX8_refusalOfHours 8 = .ok (.if_icmp .le 6, 3) := by decide +kernel
theorem dX8_refusalOfHours_11 : decode cX8_refusalOfHours 11 = .ok (.ldc 65, 2) := by decide +kernel
theorem dX8_refusalOfHours_13 : decode cX8_refusalOfHours 13 = .ok (.ireturn, 1) := by decide +kernel
theorem dX8_refusalOfHours_14 : decode cX8_refusalOfHours 14 = .ok (.aload_n 0, 1) := by decide +kernel
theorem dX8_refusalOfHours_15 : decode cX8_refusalOfHours 15 = .ok (.getfield 19, 3) := by decide +kernel
theorem dX8_refusalOfHours_18 : decode cX8_refusalOfHours 18 = .ok (.getfield 98, 3) := by decide +kernel
theorem dX8_refusalOfHours_21 : decode cX8_refusalOfHours 21 = .ok (.ifCond .ne 6, 3) := by decide +kernel
theorem dX8_refusalOfHours_24 : decode cX8_refusalOfHours 24 = .ok (.ldc 216, 2) := by decide +kernel
theorem dX8_refusalOfHours_26 : decode cX8_refusalOfHours 26 = .ok (.ireturn, 1) := by decide +kernel
theorem dX8_refusalOfHours_27 : decode cX8_refusalOfHours 27 = .ok (.aload_n 0, 1) := by decide +kernel
theorem dX8_refusalOfHours_28 : decode cX8_refusalOfHours 28 = .ok (.getfield 26, 3) := by decide +kernel
theorem dX8_refusalOfHours_31 : decode cX8_refusalOfHours 31 = .ok (.getfield 119, 3) := by decide +kernel
theorem dX8_refusalOfHours_34 : decode cX8_refusalOfHours 34 = .ok (.sipush 9000, 3) := by decide +kernel
theorem dX8_refusalOfHours_37 : decode cX8_refusalOfHours 37 = .ok (.if_icmp .le 8, 3) := by decide +kernel
theorem dX8_refusalOfHours_40 : decode cX8_refusalOfHours 40 = .ok (.ldc 70, 2) := by decide +kernel
theorem dX8_refusalOfHours_42 : decode cX8_refusalOfHours 42 = .ok (.goto 4, 3) := by decide +kernel
theorem dX8_refusalOfHours_45 : decode cX8_refusalOfHours 45 = .ok (.iconst 0, 1) := by decide +kernel
theorem dX8_refusalOfHours_46 : decode cX8_refusalOfHours 46 = .ok (.ireturn, 1) := by decide +kernel
theorem dX8_draw_0 : decode cX8_draw 0 = .ok (.aload_n 0, 1) := by decide +kernel
theorem dX8_draw_1 : decode cX8_draw 1 = .ok (.aload_n 0, 1) := by decide +kernel
theorem dX8_draw_2 : decode cX8_draw 2 = .ok (.getfield 297, 3) := by decide +kernel
theorem dX8_draw_5 : decode cX8_draw 5 = .ok (.i2l, 1) := by decide +kernel
theorem dX8_draw_6 : decode cX8_draw 6 = .ok (.ldc2_w 308, 3) := by decide +kernel
theorem dX8_draw_9 : decode cX8_draw 9 = .ok (.lmul, 1) := by decide +kernel
theorem dX8_draw_10 : decode cX8_draw 10 = .ok (.ldc2_w 310, 3) := by decide +kernel
theorem dX8_draw_13 : decode cX8_draw 13 = .ok (.ladd, 1) := by decide +kernel
theorem dX8_draw_14 : decode cX8_draw 14 = .ok (.ldc2_w 312, 3) := by decide +kernel
theorem dX8_draw_17 : decode cX8_draw 17 = .ok (.land, 1) := by decide +kernel
theorem dX8_draw_18 : decode cX8_draw 18 = .ok (.l2i, 1) := by decide +kernel
theorem dX8_draw_19 : decode cX8_draw 19 = .ok (.putfield 297, 3) := by decide +kernel
theorem dX8_draw_22 : decode cX8_draw 22 = .ok (.iload_n 1, 1) := by decide +kernel
theorem dX8_draw_23 : decode cX8_draw 23 = .ok (.ifCond .le 16, 3) := by decide +kernel
theorem dX8_draw_26 : decode cX8_draw 26 = .ok (.aload_n 0, 1) := by decide +kernel
theorem dX8_draw_27 : decode cX8_draw 27 = .ok (.getfield 297, 3) := by decide +kernel
theorem dX8_draw_30 : decode cX8_draw 30 = .ok (.ldc_w 314, 3) := by decide +kernel
theorem dX8_draw_33 : decode cX8_draw 33 = .ok (.idiv, 1) := by decide +kernel
theorem dX8_draw_34 : decode cX8_draw 34 = .ok (.iload_n 1, 1) := by decide +kernel
theorem dX8_draw_35 : decode cX8_draw 35 = .ok (.irem, 1) := by decide +kernel
theorem dX8_draw_36 : decode cX8_draw 36 = .ok (.goto 4, 3) := by decide +kernel
theorem dX8_draw_39 : decode cX8_draw 39 = .ok (.iconst 0, 1) := by decide +kernel
theorem dX8_draw_40 : decode cX8_draw 40 = .ok (.ireturn, 1) := by decide +kernel
theorem dX8_changeByDraws_0 : decode cX8_changeByDraws 0 = .ok (.aload_n 0, 1) := by decide +kernel
theorem dX8_changeByDraws_1 : decode cX8_changeByDraws 1 = .ok (.getfield 26, 3) := by decide +kernel
theorem dX8_changeByDraws_4 : decode cX8_changeByDraws 4 = .ok (.getfield 113, 3) := by decide +kernel
theorem dX8_changeByDraws_7 : decode cX8_changeByDraws 7 = .ok (.astore_n 1, 1) := by decide +kernel
theorem dX8_changeByDraws_8 : decode cX8_changeByDraws 8 = .ok (.aload_n 0, 1) := by decide +kernel
theorem dX8_changeByDraws_9 : decode cX8_changeByDraws 9 = .ok (.aload_n 0, 1) := by decide +kernel
theorem dX8_changeByDraws_10 : decode cX8_changeByDraws 10 = .ok (.getfield 19, 3) := by decide +kernel
theorem dX8_changeByDraws_13 : decode cX8_changeByDraws 13 = .ok (.getfield 98, 3) := by decide +kernel
theorem dX8_changeByDraws_16 : decode cX8_changeByDraws 16 = .ok (.invokevirtual 315, 3) := by decide +kernel
theorem dX8_changeByDraws_19 : decode cX8_changeByDraws 19 = .ok (.istore_n 2, 1) := by decide +kernel
theorem dX8_changeByDraws_20 : decode cX8_changeByDraws 20 = .ok (.aload_n 0, 1) := by decide +kernel
theorem dX8_changeByDraws_21 : decode cX8_changeByDraws 21 = .ok (.iconst 5, 1) := by decide +kernel
theorem dX8_changeByDraws_22 : decode cX8_changeByDraws 22 = .ok (.invokevirtual 315, 3) := by decide +kernel
theorem dX8_changeByDraws_25 : decode cX8_changeByDraws 25 = .ok (.tableswitch 100 0 3 #[31, 47, 63, 84], 31) := by decide +kernel
theorem dX8_changeByDraws_56 : decode cX8_changeByDraws 56 = .ok (.aload_n 1, 1) := by decide +kernel
theorem dX8_changeByDraws_57 : decode cX8_changeByDraws 57 = .ok (.aload_n 1, 1) := by decide +kernel
theorem dX8_changeByDraws_58 : decode cX8_changeByDraws 58 = .ok (.getfield 128, 3) := by decide +kernel
theorem dX8_changeByDraws_61 : decode cX8_changeByDraws 61 = .ok (.iload_n 2, 1) := by decide +kernel
theorem dX8_changeByDraws_62 : decode cX8_changeByDraws 62 = .ok (.iconst 1, 1) := by decide +kernel
theorem dX8_changeByDraws_63 : decode cX8_changeByDraws 63 = .ok (.invokestatic 198, 3) := by decide +kernel
theorem dX8_changeByDraws_66 : decode cX8_changeByDraws 66 = .ok (.putfield 128, 3) := by decide +kernel
theorem dX8_changeByDraws_69 : decode cX8_changeByDraws 69 = .ok (.goto 69, 3) := by decide +kernel
theorem dX8_changeByDraws_72 : decode cX8_changeByDraws 72 = .ok (.aload_n 1, 1) := by decide +kernel
theorem dX8_changeByDraws_73 : decode cX8_changeByDraws 73 = .ok (.aload_n 1, 1) := by decide +kernel
theorem dX8_changeByDraws_74 : decode cX8_changeByDraws 74 = .ok (.getfield 128, 3) := by decide +kernel
theorem dX8_changeByDraws_77 : decode cX8_changeByDraws 77 = .ok (.iload_n 2, 1) := by decide +kernel
theorem dX8_changeByDraws_78 : decode cX8_changeByDraws 78 = .ok (.iconst 0, 1) := by decide +kernel
theorem dX8_changeByDraws_79 : decode cX8_changeByDraws 79 = .ok (.invokestatic 198, 3) := by decide +kernel
theorem dX8_changeByDraws_82 : decode cX8_changeByDraws 82 = .ok (.putfield 128, 3) := by decide +kernel
theorem dX8_changeByDraws_85 : decode cX8_changeByDraws 85 = .ok (.goto 53, 3) := by decide +kernel
theorem dX8_changeByDraws_88 : decode cX8_changeByDraws 88 = .ok (.aload_n 1, 1) := by decide +kernel
theorem dX8_changeByDraws_89 : decode cX8_changeByDraws 89 = .ok (.aload_n 1, 1) := by decide +kernel
theorem dX8_changeByDraws_90 : decode cX8_changeByDraws 90 = .ok (.getfield 156, 3) := by decide +kernel
theorem dX8_changeByDraws_93 : decode cX8_changeByDraws 93 = .ok (.iload_n 2, 1) := by decide +kernel
theorem dX8_changeByDraws_94 : decode cX8_changeByDraws 94 = .ok (.aload_n 0, 1) := by decide +kernel
theorem dX8_changeByDraws_95 : decode cX8_changeByDraws 95 = .ok (.bipush 10, 2) := by decide +kernel
theorem dX8_changeByDraws_97 : decode cX8_changeByDraws 97 = .ok (.invokevirtual 315, 3) := by decide +kernel
theorem dX8_changeByDraws_100 : decode cX8_changeByDraws 100 = .ok (.invokestatic 202, 3) := by decide +kernel
theorem dX8_changeByDraws_103 : decode cX8_changeByDraws 103 = .ok (.putfield 156, 3) := by decide +kernel
theorem dX8_changeByDraws_106 : decode cX8_changeByDraws 106 = .ok (.goto 32, 3) := by decide +kernel
theorem dX8_changeByDraws_109 : decode cX8_changeByDraws 109 = .ok (.aload_n 1, 1) := by decide +kernel
theorem dX8_changeByDraws_110 : decode cX8_changeByDraws 110 = .ok (.aload_n 1, 1) := by decide +kernel
theorem dX8_changeByDraws_111 : decode cX8_changeByDraws 111 = .ok (.getfield 131, 3) := by decide +kernel
theorem dX8_changeByDraws_114 : decode cX8_changeByDraws 114 = .ok (.iload_n 2, 1) := by decide +kernel
theorem dX8_changeByDraws_115 : decode cX8_changeByDraws 115 = .ok (.iconst 1, 1) := by decide +kernel
theorem dX8_changeByDraws_116 : decode cX8_changeByDraws 116 = .ok (.invokestatic 198, 3) := by decide +kernel
theorem dX8_changeByDraws_119 : decode cX8_changeByDraws 119 = .ok (.putfield 131, 3) := by decide +kernel
theorem dX8_changeByDraws_122 : decode cX8_changeByDraws 122 = .ok (.goto 16, 3) := by decide +kernel
theorem dX8_changeByDraws_125 : decode cX8_changeByDraws 125 = .ok (.aload_n 1, 1) := by decide +kernel
theorem dX8_changeByDraws_126 : decode cX8_changeByDraws 126 = .ok (.aload_n 1, 1) := by decide +kernel
theorem dX8_changeByDraws_127 : decode cX8_changeByDraws 127 = .ok (.getfield 131, 3) := by decide +kernel
theorem dX8_changeByDraws_130 : decode cX8_changeByDraws 130 = .ok (.iload_n 2, 1) := by decide +kernel
theorem dX8_changeByDraws_131 : decode cX8_changeByDraws 131 = .ok (.iconst 0, 1) := by decide +kernel
theorem dX8_changeByDraws_132 : decode cX8_changeByDraws 132 = .ok (.invokestatic 198, 3) := by decide +kernel
theorem dX8_changeByDraws_135 : decode cX8_changeByDraws 135 = .ok (.putfield 131, 3) := by decide +kernel
theorem dX8_changeByDraws_138 : decode cX8_changeByDraws 138 = .ok (.return_, 1) := by decide +kernel
theorem dX8_hoursUntil_0 : decode cX8_hoursUntil 0 = .ok (.iconst 0, 1) := by decide +kernel
theorem dX8_hoursUntil_1 : decode cX8_hoursUntil 1 = .ok (.istore_n 3, 1) := by decide +kernel
theorem dX8_hoursUntil_2 : decode cX8_hoursUntil 2 = .ok (.iload_n 3, 1) := by decide +kernel
theorem dX8_hoursUntil_3 : decode cX8_hoursUntil 3 = .ok (.iload_n 2, 1) := by decide +kernel
theorem dX8_hoursUntil_4 : decode cX8_hoursUntil 4 = .ok (.if_icmp .ge 29, 3) := by decide +kernel
theorem dX8_hoursUntil_7 : decode cX8_hoursUntil 7 = .ok (.aload_n 0, 1) := by decide +kernel
theorem dX8_hoursUntil_8 : decode cX8_hoursUntil 8 = .ok (.getfield 53, 3) := by decide +kernel
theorem dX8_hoursUntil_11 : decode cX8_hoursUntil 11 = .ok (.getfield 122, 3) := by decide +kernel
theorem dX8_hoursUntil_14 : decode cX8_hoursUntil 14 = .ok (.iload_n 1, 1) := by decide +kernel
theorem dX8_hoursUntil_15 : decode cX8_hoursUntil 15 = .ok (.if_icmp .ne 5, 3) := by decide +kernel
theorem dX8_hoursUntil_18 : decode cX8_hoursUntil 18 = .ok (.iload_n 3, 1) := by decide +kernel
theorem dX8_hoursUntil_19 : decode cX8_hoursUntil 19 = .ok (.ireturn, 1) := by decide +kernel
theorem dX8_hoursUntil_20 : decode cX8_hoursUntil 20 = .ok (.aload_n 0, 1) := by decide +kernel
theorem dX8_hoursUntil_21 : decode cX8_hoursUntil 21 = .ok (.getfield 53, 3) := by decide +kernel
theorem dX8_hoursUntil_24 : decode cX8_hoursUntil 24 = .ok (.invokevirtual 230, 3) := by decide +kernel
theorem dX8_hoursUntil_27 : decode cX8_hoursUntil 27 = .ok (.iinc 3 1, 3) := by decide +kernel
theorem dX8_hoursUntil_30 : decode cX8_hoursUntil 30 = .ok (.goto (-28), 3) := by decide +kernel
theorem dX8_hoursUntil_33 : decode cX8_hoursUntil 33 = .ok (.aload_n 0, 1) := by decide +kernel
theorem dX8_hoursUntil_34 : decode cX8_hoursUntil 34 = .ok (.getfield 53, 3) := by decide +kernel
theorem dX8_hoursUntil_37 : decode cX8_hoursUntil 37 = .ok (.getfield 122, 3) := by decide +kernel
theorem dX8_hoursUntil_40 : decode cX8_hoursUntil 40 = .ok (.iload_n 1, 1) := by decide +kernel
theorem dX8_hoursUntil_41 : decode cX8_hoursUntil 41 = .ok (.if_icmp .ne 7, 3) := by decide +kernel
theorem dX8_hoursUntil_44 : decode cX8_hoursUntil 44 = .ok (.iload_n 2, 1) := by decide +kernel
theorem dX8_hoursUntil_45 : decode cX8_hoursUntil 45 = .ok (.goto 4, 3) := by decide +kernel
theorem dX8_hoursUntil_48 : decode cX8_hoursUntil 48 = .ok (.iconst (-1), 1) := by decide +kernel
theorem dX8_hoursUntil_49 : decode cX8_hoursUntil 49 = .ok (.ireturn, 1) := by decide +kernel
theorem dX8_isBetterSet_0 : decode cX8_isBetterSet 0 = .ok (.iload_n 1, 1) := by decide +kernel
theorem dX8_isBetterSet_1 : decode cX8_isBetterSet 1 = .ok (.iconst (-1), 1) := by decide +kernel
theorem dX8_isBetterSet_2 : decode cX8_isBetterSet 2 = .ok (.if_icmp .ne 5, 3) := by decide +kernel
theorem dX8_isBetterSet_5 : decode cX8_isBetterSet 5 = .ok (.iconst 1, 1) := by decide +kernel
theorem dX8_isBetterSet_6 : decode cX8_isBetterSet 6 = .ok (.ireturn, 1) := by decide +kernel
theorem dX8_isBetterSet_7 : decode cX8_isBetterSet 7 = .ok (.iload_n 0, 1) := by decide +kernel
theorem dX8_isBetterSet_8 : decode cX8_isBetterSet 8 = .ok (.invokestatic 318, 3) := by decide +kernel
theorem dX8_isBetterSet_11 : decode cX8_isBetterSet 11 = .ok (.istore_n 2, 1) := by decide +kernel
theorem dX8_isBetterSet_12 : decode cX8_isBetterSet 12 = .ok (.iload_n 1, 1) := by decide +kernel
theorem dX8_isBetterSet_13 : decode cX8_isBetterSet 13 = .ok (.invokestatic 318, 3) := by decide +kernel
theorem dX8_isBetterSet_16 : decode cX8_isBetterSet 16 = .ok (.istore_n 3, 1) := by decide +kernel
theorem dX8_isBetterSet_17 : decode cX8_isBetterSet 17 = .ok (.iload_n 2, 1) := by decide +kernel
theorem dX8_isBetterSet_18 : decode cX8_isBetterSet 18 = .ok (.iload_n 3, 1) := by decide +kernel
theorem dX8_isBetterSet_19 : decode cX8_isBetterSet 19 = .ok (.if_icmp .lt 13, 3) := by decide +kernel
theorem dX8_isBetterSet_22 : decode cX8_isBetterSet 22 = .ok (.iload_n 2, 1) := by decide +kernel
theorem dX8_isBetterSet_23 : decode cX8_isBetterSet 23 = .ok (.iload_n 3, 1) := by decide +kernel
theorem dX8_isBetterSet_24 : decode cX8_isBetterSet 24 = .ok (.if_icmp .ne 12, 3) := by decide +kernel
theorem dX8_isBetterSet_27 : decode cX8_isBetterSet 27 = .ok (.iload_n 0, 1) := by decide +kernel
theorem dX8_isBetterSet_28 : decode cX8_isBetterSet 28 = .ok (.iload_n 1, 1) := by decide +kernel
theorem dX8_isBetterSet_29 : decode cX8_isBetterSet 29 = .ok (.if_icmp .ge 7, 3) := by decide +kernel
theorem dX8_isBetterSet_32 : decode cX8_isBetterSet 32 = .ok (.iconst 1, 1) := by decide +kernel
theorem dX8_isBetterSet_33 : decode cX8_isBetterSet 33 = .ok (.goto 4, 3) := by decide +kernel
theorem dX8_isBetterSet_36 : decode cX8_isBetterSet 36 = .ok (.iconst 0, 1) := by decide +kernel
theorem dX8_isBetterSet_37 : decode cX8_isBetterSet 37 = .ok (.ireturn, 1) := by decide +kernel
theorem dX8_comesByCarpets_0 : decode cX8_comesByCarpets 0 = .ok (.aload_n 0, 1) := by decide +kernel
theorem dX8_comesByCarpets_1 : decode cX8_comesByCarpets 1 = .ok (.getfield 53, 3) := by decide +kernel
theorem dX8_comesByCarpets_4 : decode cX8_comesByCarpets 4 = .ok (.aload_n 0, 1) := by decide +kernel
theorem dX8_comesByCarpets_5 : decode cX8_comesByCarpets 5 = .ok (.getfield 26, 3) := by decide +kernel
theorem dX8_comesByCarpets_8 : decode cX8_comesByCarpets 8 = .ok (.getfield 113, 3) := by decide +kernel
theorem dX8_comesByCarpets_11 : decode cX8_comesByCarpets 11 = .ok (.invokevirtual 226, 3) := by decide +kernel
theorem dX8_comesByCarpets_14 : decode cX8_comesByCarpets 14 = .ok (.aload_n 0, 1) := by decide +kernel
theorem dX8_comesByCarpets_15 : decode cX8_comesByCarpets 15 = .ok (.getfield 53, 3) := by decide +kernel
theorem dX8_comesByCarpets_18 : decode cX8_comesByCarpets 18 = .ok (.dup, 1) := by decide +kernel
theorem dX8_comesByCarpets_19 : decode cX8_comesByCarpets 19 = .ok (.getfield 128, 3) := by decide +kernel
theorem dX8_comesByCarpets_22 : decode cX8_comesByCarpets 22 = .ok (.iload_n 1, 1) := by decide +kernel
theorem dX8_comesByCarpets_23 : decode cX8_comesByCarpets 23 = .ok (.ixor, 1) := by decide +kernel
theorem dX8_comesByCarpets_24 : decode cX8_comesByCarpets 24 = .ok (.putfield 128, 3) := by decide +kernel
theorem dX8_comesByCarpets_27 : decode cX8_comesByCarpets 27 = .ok (.aload_n 0, 1) := by decide +kernel
theorem dX8_comesByCarpets_28 : decode cX8_comesByCarpets 28 = .ok (.iload_n 2, 1) := by decide +kernel
theorem dX8_comesByCarpets_29 : decode cX8_comesByCarpets 29 = .ok (.iload_n 3, 1) := by decide +kernel
theorem dX8_comesByCarpets_30 : decode cX8_comesByCarpets 30 = .ok (.invokevirtual 233, 3) := by decide +kernel
theorem dX8_comesByCarpets_33 : decode cX8_comesByCarpets 33 = .ok (.iconst (-1), 1) := by decide +kernel
theorem dX8_comesByCarpets_34 : decode cX8_comesByCarpets 34 = .ok (.if_icmp .eq 7, 3) := by decide +kernel
theorem dX8_comesByCarpets_37 : decode cX8_comesByCarpets 37 = .ok (.iconst 1, 1) := by decide +kernel
theorem dX8_comesByCarpets_38 : decode cX8_comesByCarpets 38 = .ok (.goto 4, 3) := by decide +kernel
theorem dX8_comesByCarpets_41 : decode cX8_comesByCarpets 41 = .ok (.iconst 0, 1) := by decide +kernel
theorem dX8_comesByCarpets_42 : decode cX8_comesByCarpets 42 = .ok (.ireturn, 1) := by decide +kernel
theorem dX8_doorsToPass_0 : decode cX8_doorsToPass 0 = .ok (.aload_n 0, 1) := by decide +kernel
theorem dX8_doorsToPass_1 : decode cX8_doorsToPass 1 = .ok (.getfield 26, 3) := by decide +kernel
theorem dX8_doorsToPass_4 : decode cX8_doorsToPass 4 = .ok (.getfield 113, 3) := by decide +kernel
theorem dX8_doorsToPass_7 : decode cX8_doorsToPass 7 = .ok (.getfield 131, 3) := by decide +kernel
theorem dX8_doorsToPass_10 : decode cX8_doorsToPass 10 = .ok (.iconst 1, 1) := by decide +kernel
theorem dX8_doorsToPass_11 : decode cX8_doorsToPass 11 = .ok (.aload_n 0, 1) := by decide +kernel
theorem dX8_doorsToPass_12 : decode cX8_doorsToPass 12 = .ok (.getfield 26, 3) := by decide +kernel
theorem dX8_doorsToPass_15 : decode cX8_doorsToPass 15 = .ok (.getfield 113, 3) := by decide +kernel
theorem dX8_doorsToPass_18 : decode cX8_doorsToPass 18 = .ok (.getfield 122, 3) := by decide +kernel
theorem dX8_doorsToPass_21 : decode cX8_doorsToPass 21 = .ok (.ishl, 1) := by decide +kernel
theorem dX8_doorsToPass_22 : decode cX8_doorsToPass 22 = .ok (.iconst (-1), 1) := by decide +kernel
theorem dX8_doorsToPass_23 : decode cX8_doorsToPass 23 = .ok (.ixor, 1) := by decide +kernel
theorem dX8_doorsToPass_24 : decode cX8_doorsToPass 24 = .ok (.iand, 1) := by decide +kernel
theorem dX8_doorsToPass_25 : decode cX8_doorsToPass 25 = .ok (.istore_n 1, 1) := by decide +kernel
theorem dX8_doorsToPass_26 : decode cX8_doorsToPass 26 = .ok (.iconst 0, 1) := by decide +kernel
theorem dX8_doorsToPass_27 : decode cX8_doorsToPass 27 = .ok (.istore_n 2, 1) := by decide +kernel
theorem dX8_doorsToPass_28 : decode cX8_doorsToPass 28 = .ok (.iconst 0, 1) := by decide +kernel
theorem dX8_doorsToPass_29 : decode cX8_doorsToPass 29 = .ok (.istore_n 3, 1) := by decide +kernel
theorem dX8_doorsToPass_30 : decode cX8_doorsToPass 30 = .ok (.iload_n 3, 1) := by decide +kernel
theorem dX8_doorsToPass_31 : decode cX8_doorsToPass 31 = .ok (.aload_n 0, 1) := by decide +kernel
theorem dX8_doorsToPass_32 : decode cX8_doorsToPass 32 = .ok (.getfield 19, 3) := by decide +kernel
theorem dX8_doorsToPass_35 : decode cX8_doorsToPass 35 = .ok (.getfield 104, 3) := by decide +kernel
theorem dX8_doorsToPass_38 : decode cX8_doorsToPass 38 = .ok (.if_icmp .ge 61, 3) := by decide +kernel
theorem dX8_doorsToPass_41 : decode cX8_doorsToPass 41 = .ok (.iconst 1, 1) := by decide +kernel
theorem dX8_doorsToPass_42 : decode cX8_doorsToPass 42 = .ok (.aload_n 0, 1) := by decide +kernel
theorem dX8_doorsToPass_43 : decode cX8_doorsToPass 43 = .ok (.getfield 19, 3) := by decide +kernel
theorem dX8_doorsToPass_46 : decode cX8_doorsToPass 46 = .ok (.getfield 206, 3) := by decide +kernel
theorem dX8_doorsToPass_49 : decode cX8_doorsToPass 49 = .ok (.iload_n 3, 1) := by decide +kernel
theorem dX8_doorsToPass_50 : decode cX8_doorsToPass 50 = .ok (.iaload, 1) := by decide +kernel
theorem dX8_doorsToPass_51 : decode cX8_doorsToPass 51 = .ok (.ishl, 1) := by decide +kernel
theorem dX8_doorsToPass_52 : decode cX8_doorsToPass 52 = .ok (.iconst 1, 1) := by decide +kernel
theorem dX8_doorsToPass_53 : decode cX8_doorsToPass 53 = .ok (.aload_n 0, 1) := by decide +kernel
theorem dX8_doorsToPass_54 : decode cX8_doorsToPass 54 = .ok (.getfield 19, 3) := by decide +kernel
theorem dX8_doorsToPass_57 : decode cX8_doorsToPass 57 = .ok (.getfield 209, 3) := by decide +kernel
theorem dX8_doorsToPass_60 : decode cX8_doorsToPass 60 = .ok (.iload_n 3, 1) := by decide +kernel
theorem dX8_doorsToPass_61 : decode cX8_doorsToPass 61 = .ok (.iaload, 1) := by decide +kernel
theorem dX8_doorsToPass_62 : decode cX8_doorsToPass 62 = .ok (.ishl, 1) := by decide +kernel
theorem dX8_doorsToPass_63 : decode cX8_doorsToPass 63 = .ok (.ior, 1) := by decide +kernel
theorem dX8_doorsToPass_64 : decode cX8_doorsToPass 64 = .ok (.istore 4, 2) := by decide +kernel
theorem dX8_doorsToPass_66 : decode cX8_doorsToPass 66 = .ok (.aload_n 0, 1) := by decide +kernel
theorem dX8_doorsToPass_67 : decode cX8_doorsToPass 67 = .ok (.getfield 26, 3) := by decide +kernel
theorem dX8_doorsToPass_70 : decode cX8_doorsToPass 70 = .ok (.getfield 134, 3) := by decide +kernel
theorem dX8_doorsToPass_73 : decode cX8_doorsToPass 73 = .ok (.iload_n 3, 1) := by decide +kernel
theorem dX8_doorsToPass_74 : decode cX8_doorsToPass 74 = .ok (.invokestatic 173, 3) := by decide +kernel
theorem dX8_doorsToPass_77 : decode cX8_doorsToPass 77 = .ok (.ifCond .ne 16, 3) := by decide +kernel
theorem dX8_doorsToPass_80 : decode cX8_doorsToPass 80 = .ok (.iload 4, 2) := by decide +kernel
theorem dX8_doorsToPass_82 : decode cX8_doorsToPass 82 = .ok (.iload_n 1, 1) := by decide +kernel
theorem dX8_doorsToPass_83 : decode cX8_doorsToPass 83 = .ok (.iand, 1) := by decide +kernel
theorem dX8_doorsToPass_84 : decode cX8_doorsToPass 84 = .ok (.ifCond .ne 9, 3) := by decide +kernel
theorem dX8_doorsToPass_87 : decode cX8_doorsToPass 87 = .ok (.iload_n 2, 1) := by decide +kernel
theorem dX8_doorsToPass_88 : decode cX8_doorsToPass 88 = .ok (.iconst 1, 1) := by decide +kernel
theorem dX8_doorsToPass_89 : decode cX8_doorsToPass 89 = .ok (.iload_n 3, 1) := by decide +kernel
theorem dX8_doorsToPass_90 : decode cX8_doorsToPass 90 = .ok (.ishl, 1) := by decide +kernel
theorem dX8_doorsToPass_91 : decode cX8_doorsToPass 91 = .ok (.ior, 1) := by decide +kernel
theorem dX8_doorsToPass_92 : decode cX8_doorsToPass 92 = .ok (.istore_n 2, 1) := by decide +kernel
theorem dX8_doorsToPass_93 : decode cX8_doorsToPass 93 = .ok (.iinc 3 1, 3) := by decide +kernel
theorem dX8_doorsToPass_96 : decode cX8_doorsToPass 96 = .ok (.goto (-66), 3) := by decide +kernel
theorem dX8_doorsToPass_99 : decode cX8_doorsToPass 99 = .ok (.iload_n 2, 1) := by decide +kernel
theorem dX8_doorsToPass_100 : decode cX8_doorsToPass 100 = .ok (.ireturn, 1) := by decide +kernel
theorem dX8_spreadNoise_0 : decode cX8_spreadNoise 0 = .ok (.aload_n 0, 1) := by decide +kernel
theorem dX8_spreadNoise_1 : decode cX8_spreadNoise 1 = .ok (.getfield 26, 3) := by decide +kernel
theorem dX8_spreadNoise_4 : decode cX8_spreadNoise 4 = .ok (.getfield 113, 3) := by decide +kernel
theorem dX8_spreadNoise_7 : decode cX8_spreadNoise 7 = .ok (.getfield 170, 3) := by decide +kernel
theorem dX8_spreadNoise_10 : decode cX8_spreadNoise 10 = .ok (.iload_n 2, 1) := by decide +kernel
theorem dX8_spreadNoise_11 : decode cX8_spreadNoise 11 = .ok (.iaload, 1) := by decide +kernel
theorem dX8_spreadNoise_12 : decode cX8_spreadNoise 12 = .ok (.aload_n 0, 1) := by decide +kernel
theorem dX8_spreadNoise_13 : decode cX8_spreadNoise 13 = .ok (.getfield 26, 3) := by decide +kernel
theorem dX8_spreadNoise_16 : decode cX8_spreadNoise 16 = .ok (.getfield 113, 3) := by decide +kernel
theorem dX8_spreadNoise_19 : decode cX8_spreadNoise 19 = .ok (.getfield 131, 3) := by decide +kernel
theorem dX8_spreadNoise_22 : decode cX8_spreadNoise 22 = .ok (.iconst (-1), 1) := by decide +kernel
theorem dX8_spreadNoise_23 : decode cX8_spreadNoise 23 = .ok (.ixor, 1) := by decide +kernel
theorem dX8_spreadNoise_24 : decode cX8_spreadNoise 24 = .ok (.iand, 1) := by decide +kernel
theorem dX8_spreadNoise_25 : decode cX8_spreadNoise 25 = .ok (.istore_n 3, 1) := by decide +kernel
theorem dX8_spreadNoise_26 : decode cX8_spreadNoise 26 = .ok (.iconst 0, 1) := by decide +kernel
theorem dX8_spreadNoise_27 : decode cX8_spreadNoise 27 = .ok (.istore 4, 2) := by decide +kernel
theorem dX8_spreadNoise_29 : decode cX8_spreadNoise 29 = .ok (.iload 4, 2) := by decide +kernel
theorem dX8_spreadNoise_31 : decode cX8_spreadNoise 31 = .ok (.aload_n 0, 1) := by decide +kernel
theorem dX8_spreadNoise_32 : decode cX8_spreadNoise 32 = .ok (.getfield 19, 3) := by decide +kernel
theorem dX8_spreadNoise_35 : decode cX8_spreadNoise 35 = .ok (.getfield 98, 3) := by decide +kernel
theorem dX8_spreadNoise_38 : decode cX8_spreadNoise 38 = .ok (.if_icmp .ge 63, 3) := by decide +kernel
theorem dX8_spreadNoise_41 : decode cX8_spreadNoise 41 = .ok (.aload_n 1, 1) := by decide +kernel
theorem dX8_spreadNoise_42 : decode cX8_spreadNoise 42 = .ok (.iload_n 2, 1) := by decide +kernel
theorem dX8_spreadNoise_43 : decode cX8_spreadNoise 43 = .ok (.iaload, 1) := by decide +kernel
theorem dX8_spreadNoise_44 : decode cX8_spreadNoise 44 = .ok (.aload_n 0, 1) := by decide +kernel
theorem dX8_spreadNoise_45 : decode cX8_spreadNoise 45 = .ok (.getfield 26, 3) := by decide +kernel
theorem dX8_spreadNoise_48 : decode cX8_spreadNoise 48 = .ok (.getfield 113, 3) := by decide +kernel
theorem dX8_spreadNoise_51 : decode cX8_spreadNoise 51 = .ok (.getfield 156, 3) := by decide +kernel
theorem dX8_spreadNoise_54 : decode cX8_spreadNoise 54 = .ok (.iload 4, 2) := by decide +kernel
theorem dX8_spreadNoise_56 : decode cX8_spreadNoise 56 = .ok (.invokestatic 159, 3) := by decide +kernel
theorem dX8_spreadNoise_59 : decode cX8_spreadNoise 59 = .ok (.iadd, 1) := by decide +kernel
theorem dX8_spreadNoise_60 : decode cX8_spreadNoise 60 = .ok (.istore 5, 2) := by decide +kernel
theorem dX8_spreadNoise_62 : decode cX8_spreadNoise 62 = .ok (.iload_n 3, 1) := by decide +kernel
theorem dX8_spreadNoise_63 : decode cX8_spreadNoise 63 = .ok (.iload 4, 2) := by decide +kernel
theorem dX8_spreadNoise_65 : decode cX8_spreadNoise 65 = .ok (.invokestatic 173, 3) := by decide +kernel
theorem dX8_spreadNoise_68 : decode cX8_spreadNoise 68 = .ok (.iconst 1, 1) := by decide +kernel
theorem dX8_spreadNoise_69 : decode cX8_spreadNoise 69 = .ok (.if_icmp .ne 26, 3) := by decide +kernel
theorem dX8_spreadNoise_72 : decode cX8_spreadNoise 72 = .ok (.aload_n 1, 1) := by decide +kernel
theorem dX8_spreadNoise_73 : decode cX8_spreadNoise 73 = .ok (.iload 4, 2) := by decide +kernel
theorem dX8_spreadNoise_75 : decode cX8_spreadNoise 75 = .ok (.iaload, 1) := by decide +kernel
theorem dX8_spreadNoise_76 : decode cX8_spreadNoise 76 = .ok (.iconst (-1), 1) := by decide +kernel
theorem dX8_spreadNoise_77 : decode cX8_spreadNoise 77 = .ok (.if_icmp .eq 12, 3) := by decide +kernel
theorem dX8_spreadNoise_80 : decode cX8_spreadNoise 80 = .ok (.iload 5, 2) := by decide +kernel
theorem dX8_spreadNoise_82 : decode cX8_spreadNoise 82 = .ok (.aload_n 1, 1) := by decide +kernel
theorem dX8_spreadNoise_83 : decode cX8_spreadNoise 83 = .ok (.iload 4, 2) := by decide +kernel
theorem dX8_spreadNoise_85 : decode cX8_spreadNoise 85 = .ok (.iaload, 1) := by decide +kernel
theorem dX8_spreadNoise_86 : decode cX8_spreadNoise 86 = .ok (.if_icmp .ge 9, 3) := by decide +kernel
theorem dX8_spreadNoise_89 : decode cX8_spreadNoise 89 = .ok (.aload_n 1, 1) := by decide +kernel
theorem dX8_spreadNoise_90 : decode cX8_spreadNoise 90 = .ok (.iload 4, 2) := by decide +kernel
theorem dX8_spreadNoise_92 : decode cX8_spreadNoise 92 = .ok (.iload 5, 2) := by decide +kernel
theorem dX8_spreadNoise_94 : decode cX8_spreadNoise 94 = .ok (.iastore, 1) := by decide +kernel
theorem dX8_spreadNoise_95 : decode cX8_spreadNoise 95 = .ok (.iinc 4 1, 3) := by decide +kernel
theorem dX8_spreadNoise_98 : decode cX8_spreadNoise 98 = .ok (.goto (-69), 3) := by decide +kernel
theorem dX8_spreadNoise_101 : decode cX8_spreadNoise 101 = .ok (.return_, 1) := by decide +kernel
theorem dX8_worthToHear_0 : decode cX8_worthToHear 0 = .ok (.iconst 0, 1) := by decide +kernel
theorem dX8_worthToHear_1 : decode cX8_worthToHear 1 = .ok (.istore_n 2, 1) := by decide +kernel
theorem dX8_worthToHear_2 : decode cX8_worthToHear 2 = .ok (.iconst 0, 1) := by decide +kernel
theorem dX8_worthToHear_3 : decode cX8_worthToHear 3 = .ok (.istore_n 3, 1) := by decide +kernel
theorem dX8_worthToHear_4 : decode cX8_worthToHear 4 = .ok (.iload_n 3, 1) := by decide +kernel
theorem dX8_worthToHear_5 : decode cX8_worthToHear 5 = .ok (.aload_n 0, 1) := by decide +kernel
theorem dX8_worthToHear_6 : decode cX8_worthToHear 6 = .ok (.getfield 19, 3) := by decide +kernel
theorem dX8_worthToHear_9 : decode cX8_worthToHear 9 = .ok (.getfield 107, 3) := by decide +kernel
theorem dX8_worthToHear_12 : decode cX8_worthToHear 12 = .ok (.if_icmp .ge 52, 3) := by decide +kernel
theorem dX8_worthToHear_15 : decode cX8_worthToHear 15 = .ok (.aload_n 0, 1) := by decide +kernel
theorem dX8_worthToHear_16 : decode cX8_worthToHear 16 = .ok (.getfield 26, 3) := by decide +kernel
theorem dX8_worthToHear_19 : decode cX8_worthToHear 19 = .ok (.getfield 137, 3) := by decide +kernel
theorem dX8_worthToHear_22 : decode cX8_worthToHear 22 = .ok (.iload_n 3, 1) := by decide +kernel
theorem dX8_worthToHear_23 : decode cX8_worthToHear 23 = .ok (.invokestatic 173, 3) := by decide +kernel
theorem dX8_worthToHear_26 : decode cX8_worthToHear 26 = .ok (.ifCond .ne 32, 3) := by decide +kernel
theorem dX8_worthToHear_29 : decode cX8_worthToHear 29 = .ok (.iload_n 1, 1) := by decide +kernel
theorem dX8_worthToHear_30 : decode cX8_worthToHear 30 = .ok (.aload_n 0, 1) := by decide +kernel
theorem dX8_worthToHear_31 : decode cX8_worthToHear 31 = .ok (.getfield 26, 3) := by decide +kernel
theorem dX8_worthToHear_34 : decode cX8_worthToHear 34 = .ok (.getfield 179, 3) := by decide +kernel
theorem dX8_worthToHear_37 : decode cX8_worthToHear 37 = .ok (.iload_n 3, 1) := by decide +kernel
theorem dX8_worthToHear_38 : decode cX8_worthToHear 38 = .ok (.iaload, 1) := by decide +kernel
theorem dX8_worthToHear_39 : decode cX8_worthToHear 39 = .ok (.invokestatic 173, 3) := by decide +kernel
theorem dX8_worthToHear_42 : decode cX8_worthToHear 42 = .ok (.iconst 1, 1) := by decide +kernel
theorem dX8_worthToHear_43 : decode cX8_worthToHear 43 = .ok (.if_icmp .ne 15, 3) := by decide +kernel
theorem dX8_worthToHear_46 : decode cX8_worthToHear 46 = .ok (.iload_n 2, 1) := by decide +kernel
theorem dX8_worthToHear_47 : decode cX8_worthToHear 47 = .ok (.aload_n 0, 1) := by decide +kernel
theorem dX8_worthToHear_48 : decode cX8_worthToHear 48 = .ok (.getfield 19, 3) := by decide +kernel
theorem dX8_worthToHear_51 : decode cX8_worthToHear 51 = .ok (.getfield 182, 3) := by decide +kernel
theorem dX8_worthToHear_54 : decode cX8_worthToHear 54 = .ok (.iload_n 3, 1) := by decide +kernel
theorem dX8_worthToHear_55 : decode cX8_worthToHear 55 = .ok (.iaload, 1) := by decide +kernel
theorem dX8_worthToHear_56 : decode cX8_worthToHear 56 = .ok (.iadd, 1) := by decide +kernel
theorem dX8_worthToHear_57 : decode cX8_worthToHear 57 = .ok (.istore_n 2, 1) := by decide +kernel
theorem dX8_worthToHear_58 : decode cX8_worthToHear 58 = .ok (.iinc 3 1, 3) := by decide +kernel
theorem dX8_worthToHear_61 : decode cX8_worthToHear 61 = .ok (.goto (-57), 3) := by decide +kernel
theorem dX8_worthToHear_64 : decode cX8_worthToHear 64 = .ok (.iload_n 2, 1) := by decide +kernel
theorem dX8_worthToHear_65 : decode cX8_worthToHear 65 = .ok (.ireturn, 1) := by decide +kernel
theorem dX8_greatestPart_0 : decode cX8_greatestPart 0 = .ok (.aload_n 0, 1) := by decide +kernel
theorem dX8_greatestPart_1 : decode cX8_greatestPart 1 = .ok (.getfield 60, 3) := by decide +kernel
theorem dX8_greatestPart_4 : decode cX8_greatestPart 4 = .ok (.astore_n 3, 1) := by decide +kernel
theorem dX8_greatestPart_5 : decode cX8_greatestPart 5 = .ok (.aload_n 3, 1) := by decide +kernel
theorem dX8_greatestPart_6 : decode cX8_greatestPart 6 = .ok (.iconst 0, 1) := by decide +kernel
theorem dX8_greatestPart_7 : decode cX8_greatestPart 7 = .ok (.invokestatic 251, 3) := by decide +kernel
theorem dX8_greatestPart_10 : decode cX8_greatestPart 10 = .ok (.iconst 0, 1) := by decide +kernel
theorem dX8_greatestPart_11 : decode cX8_greatestPart 11 = .ok (.istore 4, 2) := by decide +kernel
theorem dX8_greatestPart_13 : decode cX8_greatestPart 13 = .ok (.iconst 0, 1) := by decide +kernel
theorem dX8_greatestPart_14 : decode cX8_greatestPart 14 = .ok (.istore 5, 2) := by decide +kernel
theorem dX8_greatestPart_16 : decode cX8_greatestPart 16 = .ok (.iload 5, 2) := by decide +kernel
theorem dX8_greatestPart_18 : decode cX8_greatestPart 18 = .ok (.bipush 64, 2) := by decide +kernel
theorem dX8_greatestPart_20 : decode cX8_greatestPart 20 = .ok (.if_icmp .ge 50, 3) := by decide +kernel
theorem dX8_greatestPart_23 : decode cX8_greatestPart 23 = .ok (.lload_n 1, 1) := by decide +kernel
theorem dX8_greatestPart_24 : decode cX8_greatestPart 24 = .ok (.iload 5, 2) := by decide +kernel
theorem dX8_greatestPart_26 : decode cX8_greatestPart 26 = .ok (.lushr, 1) := by decide +kernel
theorem dX8_greatestPart_27 : decode cX8_greatestPart 27 = .ok (.lconst 1, 1) := by decide +kernel
theorem dX8_greatestPart_28 : decode cX8_greatestPart 28 = .ok (.land, 1) := by decide +kernel
theorem dX8_greatestPart_29 : decode cX8_greatestPart 29 = .ok (.lconst 1, 1) := by decide +kernel
theorem dX8_greatestPart_30 : decode cX8_greatestPart 30 = .ok (.lcmp, 1) := by decide +kernel
theorem dX8_greatestPart_31 : decode cX8_greatestPart 31 = .ok (.ifCond .ne 33, 3) := by decide +kernel
theorem dX8_greatestPart_34 : decode cX8_greatestPart 34 = .ok (.aload_n 0, 1) := by decide +kernel
theorem dX8_greatestPart_35 : decode cX8_greatestPart 35 = .ok (.getfield 53, 3) := by decide +kernel
theorem dX8_greatestPart_38 : decode cX8_greatestPart 38 = .ok (.iload 5, 2) := by decide +kernel
theorem dX8_greatestPart_40 : decode cX8_greatestPart 40 = .ok (.invokevirtual 322, 3) := by decide +kernel
theorem dX8_greatestPart_43 : decode cX8_greatestPart 43 = .ok (.istore 6, 2) := by decide +kernel
theorem dX8_greatestPart_45 : decode cX8_greatestPart 45 = .ok (.aload_n 3, 1) := by decide +kernel
theorem dX8_greatestPart_46 : decode cX8_greatestPart 46 = .ok (.iload 6, 2) := by decide +kernel
theorem dX8_greatestPart_48 : decode cX8_greatestPart 48 = .ok (.dup2, 1) := by decide +kernel
theorem dX8_greatestPart_49 : decode cX8_greatestPart 49 = .ok (.iaload, 1) := by decide +kernel
theorem dX8_greatestPart_50 : decode cX8_greatestPart 50 = .ok (.iconst 1, 1) := by decide +kernel
theorem dX8_greatestPart_51 : decode cX8_greatestPart 51 = .ok (.iadd, 1) := by decide +kernel
theorem dX8_greatestPart_52 : decode cX8_greatestPart 52 = .ok (.iastore, 1) := by decide +kernel
theorem dX8_greatestPart_53 : decode cX8_greatestPart 53 = .ok (.iload 4, 2) := by decide +kernel
theorem dX8_greatestPart_55 : decode cX8_greatestPart 55 = .ok (.aload_n 3, 1) := by decide +kernel
theorem dX8_greatestPart_56 : decode cX8_greatestPart 56 = .ok (.iload 6, 2) := by decide +kernel
theorem dX8_greatestPart_58 : decode cX8_greatestPart 58 = .ok (.iaload, 1) := by decide +kernel
theorem dX8_greatestPart_59 : decode cX8_greatestPart 59 = .ok (.invokestatic 325, 3) := by decide +kernel
theorem dX8_greatestPart_62 : decode cX8_greatestPart 62 = .ok (.istore 4, 2) := by decide +kernel
theorem dX8_greatestPart_64 : decode cX8_greatestPart 64 = .ok (.iinc 5 1, 3) := by decide +kernel
theorem dX8_greatestPart_67 : decode cX8_greatestPart 67 = .ok (.goto (-51), 3) := by decide +kernel
theorem dX8_greatestPart_70 : decode cX8_greatestPart 70 = .ok (.iload 4, 2) := by decide +kernel
theorem dX8_greatestPart_72 : decode cX8_greatestPart 72 = .ok (.ireturn, 1) := by decide +kernel
theorem dX8_isOfRooms_0 : decode cX8_isOfRooms 0 = .ok (.iload_n 1, 1) := by decide +kernel
theorem dX8_isOfRooms_1 : decode cX8_isOfRooms 1 = .ok (.istore_n 2, 1) := by decide +kernel
theorem dX8_isOfRooms_2 : decode cX8_isOfRooms 2 = .ok (.iload_n 2, 1) := by decide +kernel
theorem dX8_isOfRooms_3 : decode cX8_isOfRooms 3 = .ok (.ifCond .le 33, 3) := by decide +kernel
theorem dX8_isOfRooms_6 : decode cX8_isOfRooms 6 = .ok (.iload_n 2, 1) := by decide +kernel
theorem dX8_isOfRooms_7 : decode cX8_isOfRooms 7 = .ok (.bipush 10, 2) := by decide +kernel
theorem dX8_isOfRooms_9 : decode cX8_isOfRooms 9 = .ok (.irem, 1) := by decide +kernel
theorem dX8_isOfRooms_10 : decode cX8_isOfRooms 10 = .ok (.istore_n 3, 1) := by decide +kernel
theorem dX8_isOfRooms_11 : decode cX8_isOfRooms 11 = .ok (.iload_n 3, 1) := by decide +kernel
theorem dX8_isOfRooms_12 : decode cX8_isOfRooms 12 = .ok (.ifCond .eq 14, 3) := by decide +kernel
theorem dX8_isOfRooms_15 : decode cX8_isOfRooms 15 = .ok (.iload_n 3, 1) := by decide +kernel
theorem dX8_isOfRooms_16 : decode cX8_isOfRooms 16 = .ok (.aload_n 0, 1) := by decide +kernel
theorem dX8_isOfRooms_17 : decode cX8_isOfRooms 17 = .ok (.getfield 19, 3) := by decide +kernel
theorem dX8_isOfRooms_20 : decode cX8_isOfRooms 20 = .ok (.getfield 98, 3) := by decide +kernel
theorem dX8_isOfRooms_23 : decode cX8_isOfRooms 23 = .ok (.if_icmp .le 5, 3) := by decide +kernel
theorem dX8_isOfRooms_26 : decode cX8_isOfRooms 26 = .ok (.iconst 0, 1) := by decide +kernel
theorem dX8_isOfRooms_27 : decode cX8_isOfRooms 27 = .ok (.ireturn, 1) := by decide +kernel
theorem dX8_isOfRooms_28 : decode cX8_isOfRooms 28 = .ok (.iload_n 2, 1) := by decide +kernel
theorem dX8_isOfRooms_29 : decode cX8_isOfRooms 29 = .ok (.bipush 10, 2) := by decide +kernel
theorem dX8_isOfRooms_31 : decode cX8_isOfRooms 31 = .ok (.idiv, 1) := by decide +kernel
theorem dX8_isOfRooms_32 : decode cX8_isOfRooms 32 = .ok (.istore_n 2, 1) := by decide +kernel
theorem dX8_isOfRooms_33 : decode cX8_isOfRooms 33 = .ok (.goto (-31), 3) := by decide +kernel
theorem dX8_isOfRooms_36 : decode cX8_isOfRooms 36 = .ok (.iconst 1, 1) := by decide +kernel
theorem dX8_isOfRooms_37 : decode cX8_isOfRooms 37 = .ok (.ireturn, 1) := by decide +kernel
theorem dX8_goesSo_0 : decode cX8_goesSo 0 = .ok (.aload_n 0, 1) := by decide +kernel
theorem dX8_goesSo_1 : decode cX8_goesSo 1 = .ok (.getfield 53, 3) := by decide +kernel
theorem dX8_goesSo_4 : decode cX8_goesSo 4 = .ok (.aload_n 0, 1) := by decide +kernel
theorem dX8_goesSo_5 : decode cX8_goesSo 5 = .ok (.getfield 26, 3) := by decide +kernel
theorem dX8_goesSo_8 : decode cX8_goesSo 8 = .ok (.getfield 113, 3) := by decide +kernel
theorem dX8_goesSo_11 : decode cX8_goesSo 11 = .ok (.invokevirtual 226, 3) := by decide +kernel
theorem dX8_goesSo_14 : decode cX8_goesSo 14 = .ok (.aload_n 0, 1) := by decide +kernel
theorem dX8_goesSo_15 : decode cX8_goesSo 15 = .ok (.getfield 53, 3) := by decide +kernel
theorem dX8_goesSo_18 : decode cX8_goesSo 18 = .ok (.iload_n 1, 1) := by decide +kernel
theorem dX8_goesSo_19 : decode cX8_goesSo 19 = .ok (.putfield 116, 3) := by decide +kernel
theorem dX8_goesSo_22 : decode cX8_goesSo 22 = .ok (.ldc_w 330, 3) := by decide +kernel
theorem dX8_goesSo_25 : decode cX8_goesSo 25 = .ok (.istore_n 3, 1) := by decide +kernel
theorem dX8_goesSo_26 : decode cX8_goesSo 26 = .ok (.iload_n 3, 1) := by decide +kernel
theorem dX8_goesSo_27 : decode cX8_goesSo 27 = .ok (.ifCond .le 47, 3) := by decide +kernel
theorem dX8_goesSo_30 : decode cX8_goesSo 30 = .ok (.iload_n 2, 1) := by decide +kernel
theorem dX8_goesSo_31 : decode cX8_goesSo 31 = .ok (.iload_n 3, 1) := by decide +kernel
theorem dX8_goesSo_32 : decode cX8_goesSo 32 = .ok (.idiv, 1) := by decide +kernel
theorem dX8_goesSo_33 : decode cX8_goesSo 33 = .ok (.istore 4, 2) := by decide +kernel
theorem dX8_goesSo_35 : decode cX8_goesSo 35 = .ok (.iload 4, 2) := by decide +kernel
theorem dX8_goesSo_37 : decode cX8_goesSo 37 = .ok (.ifCond .le 29, 3) := by decide +kernel
theorem dX8_goesSo_40 : decode cX8_goesSo 40 = .ok (.aload_n 0, 1) := by decide +kernel
theorem dX8_goesSo_41 : decode cX8_goesSo 41 = .ok (.getfield 53, 3) := by decide +kernel
theorem dX8_goesSo_44 : decode cX8_goesSo 44 = .ok (.invokevirtual 230, 3) := by decide +kernel
theorem dX8_goesSo_47 : decode cX8_goesSo 47 = .ok (.aload_n 0, 1) := by decide +kernel
theorem dX8_goesSo_48 : decode cX8_goesSo 48 = .ok (.getfield 53, 3) := by decide +kernel
theorem dX8_goesSo_51 : decode cX8_goesSo 51 = .ok (.getfield 122, 3) := by decide +kernel
theorem dX8_goesSo_54 : decode cX8_goesSo 54 = .ok (.iconst 1, 1) := by decide +kernel
theorem dX8_goesSo_55 : decode cX8_goesSo 55 = .ok (.iadd, 1) := by decide +kernel
theorem dX8_goesSo_56 : decode cX8_goesSo 56 = .ok (.iload 4, 2) := by decide +kernel
theorem dX8_goesSo_58 : decode cX8_goesSo 58 = .ok (.bipush 10, 2) := by decide +kernel
theorem dX8_goesSo_60 : decode cX8_goesSo 60 = .ok (.irem, 1) := by decide +kernel
theorem dX8_goesSo_61 : decode cX8_goesSo 61 = .ok (.if_icmp .eq 5, 3) := by decide +kernel
theorem dX8_goesSo_64 : decode cX8_goesSo 64 = .ok (.iconst 0, 1) := by decide +kernel
theorem dX8_goesSo_65 : decode cX8_goesSo 65 = .ok (.ireturn, 1) := by decide +kernel
theorem dX8_goesSo_66 : decode cX8_goesSo 66 = .ok (.iload_n 3, 1) := by decide +kernel
theorem dX8_goesSo_67 : decode cX8_goesSo 67 = .ok (.bipush 10, 2) := by decide +kernel
theorem dX8_goesSo_69 : decode cX8_goesSo 69 = .ok (.idiv, 1) := by decide +kernel
theorem dX8_goesSo_70 : decode cX8_goesSo 70 = .ok (.istore_n 3, 1) := by decide +kernel
theorem dX8_goesSo_71 : decode cX8_goesSo 71 = .ok (.goto (-45), 3) := by decide +kernel
theorem dX8_goesSo_74 : decode cX8_goesSo 74 = .ok (.iconst 1, 1) := by decide +kernel
theorem dX8_goesSo_75 : decode cX8_goesSo 75 = .ok (.ireturn, 1) := by decide +kernel
theorem dX8_apart_0 : decode cX8_apart 0 = .ok (.iload_n 0, 1) := by decide +kernel
theorem dX8_apart_1 : decode cX8_apart 1 = .ok (.invokestatic 331, 3) := by decide +kernel
theorem dX8_apart_4 : decode cX8_apart 4 = .ok (.iload_n 1, 1) := by decide +kernel
theorem dX8_apart_5 : decode cX8_apart 5 = .ok (.invokestatic 331, 3) := by decide +kernel
theorem dX8_apart_8 : decode cX8_apart 8 = .ok (.isub, 1) := by decide +kernel
theorem dX8_apart_9 : decode cX8_apart 9 = .ok (.invokestatic 334, 3) := by decide +kernel
theorem dX8_apart_12 : decode cX8_apart 12 = .ok (.iload_n 0, 1) := by decide +kernel
theorem dX8_apart_13 : decode cX8_apart 13 = .ok (.invokestatic 337, 3) := by decide +kernel
theorem dX8_apart_16 : decode cX8_apart 16 = .ok (.iload_n 1, 1) := by decide +kernel
theorem dX8_apart_17 : decode cX8_apart 17 = .ok (.invokestatic 337, 3) := by decide +kernel
theorem dX8_apart_20 : decode cX8_apart 20 = .ok (.isub, 1) := by decide +kernel
theorem dX8_apart_21 : decode cX8_apart 21 = .ok (.invokestatic 334, 3) := by decide +kernel
theorem dX8_apart_24 : decode cX8_apart 24 = .ok (.iadd, 1) := by decide +kernel
theorem dX8_apart_25 : decode cX8_apart 25 = .ok (.iload_n 0, 1) := by decide +kernel
theorem dX8_apart_26 : decode cX8_apart 26 = .ok (.invokestatic 340, 3) := by decide +kernel
theorem dX8_apart_29 : decode cX8_apart 29 = .ok (.iload_n 1, 1) := by decide +kernel
theorem dX8_apart_30 : decode cX8_apart 30 = .ok (.invokestatic 340, 3) := by decide +kernel
theorem dX8_apart_33 : decode cX8_apart 33 = .ok (.isub, 1) := by decide +kernel
theorem dX8_apart_34 : decode cX8_apart 34 = .ok (.invokestatic 334, 3) := by decide +kernel
theorem dX8_apart_37 : decode cX8_apart 37 = .ok (.iadd, 1) := by decide +kernel
theorem dX8_apart_38 : decode cX8_apart 38 = .ok (.ireturn, 1) := by decide +kernel
theorem dX8_quietOf_0 : decode cX8_quietOf 0 = .ok (.iload_n 0, 1) := by decide +kernel
theorem dX8_quietOf_1 : decode cX8_quietOf 1 = .ok (.bipush 16, 2) := by decide +kernel
theorem dX8_quietOf_3 : decode cX8_quietOf 3 = .ok (.idiv, 1) := by decide +kernel
theorem dX8_quietOf_4 : decode cX8_quietOf 4 = .ok (.ireturn, 1) := by decide +kernel
theorem dX8_softOf_0 : decode cX8_softOf 0 = .ok (.iload_n 0, 1) := by decide +kernel
theorem dX8_softOf_1 : decode cX8_softOf 1 = .ok (.iconst 4, 1) := by decide +kernel
theorem dX8_softOf_2 : decode cX8_softOf 2 = .ok (.idiv, 1) := by decide +kernel
theorem dX8_softOf_3 : decode cX8_softOf 3 = .ok (.iconst 4, 1) := by decide +kernel
theorem dX8_softOf_4 : decode cX8_softOf 4 = .ok (.irem, 1) := by decide +kernel
theorem dX8_softOf_5 : decode cX8_softOf 5 = .ok (.ireturn, 1) := by decide +kernel
theorem dX8_newOf_0 : decode cX8_newOf 0 = .ok (.iload_n 0, 1) := by decide +kernel
theorem dX8_newOf_1 : decode cX8_newOf 1 = .ok (.iconst 4, 1) := by decide +kernel
theorem dX8_newOf_2 : decode cX8_newOf 2 = .ok (.irem, 1) := by decide +kernel
theorem dX8_newOf_3 : decode cX8_newOf 3 = .ok (.ireturn, 1) := by decide +kernel
theorem dX8_bit_0 : decode cX8_bit 0 = .ok (.iload_n 0, 1) := by decide +kernel
theorem dX8_bit_1 : decode cX8_bit 1 = .ok (.iload_n 1, 1) := by decide +kernel
theorem dX8_bit_2 : decode cX8_bit 2 = .ok (.ishr, 1) := by decide +kernel
theorem dX8_bit_3 : decode cX8_bit 3 = .ok (.iconst 1, 1) := by decide +kernel
theorem dX8_bit_4 : decode cX8_bit 4 = .ok (.iand, 1) := by decide +kernel
theorem dX8_bit_5 : decode cX8_bit 5 = .ok (.ireturn, 1) := by decide +kernel
theorem dX8_withBit_0 : decode cX8_withBit 0 = .ok (.iload_n 2, 1) := by decide +kernel
theorem dX8_withBit_1 : decode cX8_withBit 1 = .ok (.ifCond .eq 11, 3) := by decide +kernel
theorem dX8_withBit_4 : decode cX8_withBit 4 = .ok (.iload_n 0, 1) := by decide +kernel
theorem dX8_withBit_5 : decode cX8_withBit 5 = .ok (.iconst 1, 1) := by decide +kernel
theorem dX8_withBit_6 : decode cX8_withBit 6 = .ok (.iload_n 1, 1) := by decide +kernel
theorem dX8_withBit_7 : decode cX8_withBit 7 = .ok (.ishl, 1) := by decide +kernel
theorem dX8_withBit_8 : decode cX8_withBit 8 = .ok (.ior, 1) := by decide +kernel
theorem dX8_withBit_9 : decode cX8_withBit 9 = .ok (.goto 10, 3) := by decide +kernel
theorem dX8_withBit_12 : decode cX8_withBit 12 = .ok (.iload_n 0, 1) := by decide +kernel
theorem dX8_withBit_13 : decode cX8_withBit 13 = .ok (.iconst 1, 1) := by decide +kernel
theorem dX8_withBit_14 : decode cX8_withBit 14 = .ok (.iload_n 1, 1) := by decide +kernel
theorem dX8_withBit_15 : decode cX8_withBit 15 = .ok (.ishl, 1) := by decide +kernel
theorem dX8_withBit_16 : decode cX8_withBit 16 = .ok (.iconst (-1), 1) := by decide +kernel
theorem dX8_withBit_17 : decode cX8_withBit 17 = .ok (.ixor, 1) := by decide +kernel
theorem dX8_withBit_18 : decode cX8_withBit 18 = .ok (.iand, 1) := by decide +kernel
theorem dX8_withBit_19 : decode cX8_withBit 19 = .ok (.ireturn, 1) := by decide +kernel
theorem dX8_packedAt_0 : decode cX8_packedAt 0 = .ok (.iload_n 0, 1) := by decide +kernel
theorem dX8_packedAt_1 : decode cX8_packedAt 1 = .ok (.iconst 4, 1) := by decide +kernel
theorem dX8_packedAt_2 : decode cX8_packedAt 2 = .ok (.iload_n 1, 1) := by decide +kernel
theorem dX8_packedAt_3 : decode cX8_packedAt 3 = .ok (.imul, 1) := by decide +kernel
theorem dX8_packedAt_4 : decode cX8_packedAt 4 = .ok (.iushr, 1) := by decide +kernel
theorem dX8_packedAt_5 : decode cX8_packedAt 5 = .ok (.bipush 15, 2) := by decide +kernel
theorem dX8_packedAt_7 : decode cX8_packedAt 7 = .ok (.iand, 1) := by decide +kernel
theorem dX8_packedAt_8 : decode cX8_packedAt 8 = .ok (.ireturn, 1) := by decide +kernel
theorem dX8_withPacked_0 : decode cX8_withPacked 0 = .ok (.iload_n 0, 1) := by decide +kernel
theorem dX8_withPacked_1 : decode cX8_withPacked 1 = .ok (.bipush 15, 2) := by decide +kernel
theorem dX8_withPacked_3 : decode cX8_withPacked 3 = .ok (.iconst 4, 1) := by decide +kernel
theorem dX8_withPacked_4 : decode cX8_withPacked 4 = .ok (.iload_n 1, 1) := by decide +kernel
theorem dX8_withPacked_5 : decode cX8_withPacked 5 = .ok (.imul, 1) := by decide +kernel
theorem dX8_withPacked_6 : decode cX8_withPacked 6 = .ok (.ishl, 1) := by decide +kernel
theorem dX8_withPacked_7 : decode cX8_withPacked 7 = .ok (.iconst (-1), 1) := by decide +kernel
theorem dX8_withPacked_8 : decode cX8_withPacked 8 = .ok (.ixor, 1) := by decide +kernel
theorem dX8_withPacked_9 : decode cX8_withPacked 9 = .ok (.iand, 1) := by decide +kernel
theorem dX8_withPacked_10 : decode cX8_withPacked 10 = .ok (.iload_n 2, 1) := by decide +kernel
theorem dX8_withPacked_11 : decode cX8_withPacked 11 = .ok (.iconst 4, 1) := by decide +kernel
theorem dX8_withPacked_12 : decode cX8_withPacked 12 = .ok (.iload_n 1, 1) := by decide +kernel
theorem dX8_withPacked_13 : decode cX8_withPacked 13 = .ok (.imul, 1) := by decide +kernel
theorem dX8_withPacked_14 : decode cX8_withPacked 14 = .ok (.ishl, 1) := by decide +kernel
theorem dX8_withPacked_15 : decode cX8_withPacked 15 = .ok (.ior, 1) := by decide +kernel
theorem dX8_withPacked_16 : decode cX8_withPacked 16 = .ok (.ireturn, 1) := by decide +kernel
theorem dX9_in_0 : decode cX9_in 0 = .ok (.lload_n 0, 1) := by decide +kernel
theorem dX9_in_1 : decode cX9_in 1 = .ok (.lload_n 2, 1) := by decide +kernel
theorem dX9_in_2 : decode cX9_in 2 = .ok (.lcmp, 1) := by decide +kernel
theorem dX9_in_3 : decode cX9_in 3 = .ok (.ifCond .lt 14, 3) := by decide +kernel
theorem dX9_in_6 : decode cX9_in 6 = .ok (.lload_n 0, 1) := by decide +kernel
theorem dX9_in_7 : decode cX9_in 7 = .ok (.lload 4, 2) := by decide +kernel
theorem dX9_in_9 : decode cX9_in 9 = .ok (.lcmp, 1) := by decide +kernel
theorem dX9_in_10 : decode cX9_in 10 = .ok (.ifCond .gt 7, 3) := by decide +kernel
theorem dX9_in_13 : decode cX9_in 13 = .ok (.iconst 1, 1) := by decide +kernel
theorem dX9_in_14 : decode cX9_in 14 = .ok (.goto 4, 3) := by decide +kernel
theorem dX9_in_17 : decode cX9_in 17 = .ok (.iconst 0, 1) := by decide +kernel
theorem dX9_in_18 : decode cX9_in 18 = .ok (.ireturn, 1) := by decide +kernel
theorem dX9_init_0 : decode cX9_init 0 = .ok (.aload_n 0, 1) := by decide +kernel
theorem dX9_init_1 : decode cX9_init 1 = .ok (.invokespecial 1, 3) := by decide +kernel
theorem dX9_init_4 : decode cX9_init 4 = .ok (.aload_n 0, 1) := by decide +kernel
theorem dX9_init_5 : decode cX9_init 5 = .ok (.bipush 12, 2) := by decide +kernel
theorem dX9_init_7 : decode cX9_init 7 = .ok (.newarray .int, 2) := by decide +kernel
theorem dX9_init_9 : decode cX9_init 9 = .ok (.putfield 7, 3) := by decide +kernel
theorem dX9_init_12 : decode cX9_init 12 = .ok (.aload_n 0, 1) := by decide +kernel
theorem dX9_init_13 : decode cX9_init 13 = .ok (.bipush 12, 2) := by decide +kernel
theorem dX9_init_15 : decode cX9_init 15 = .ok (.newarray .int, 2) := by decide +kernel
theorem dX9_init_17 : decode cX9_init 17 = .ok (.putfield 13, 3) := by decide +kernel
theorem dX9_init_20 : decode cX9_init 20 = .ok (.aload_n 0, 1) := by decide +kernel
theorem dX9_init_21 : decode cX9_init 21 = .ok (.bipush 6, 2) := by decide +kernel
theorem dX9_init_23 : decode cX9_init 23 = .ok (.newarray .int, 2) := by decide +kernel
theorem dX9_init_25 : decode cX9_init 25 = .ok (.putfield 16, 3) := by decide +kernel
theorem dX9_init_28 : decode cX9_init 28 = .ok (.aload_n 0, 1) := by decide +kernel
theorem dX9_init_29 : decode cX9_init 29 = .ok (.bipush 80, 2) := by decide +kernel
theorem dX9_init_31 : decode cX9_init 31 = .ok (.newarray .long, 2) := by decide +kernel
theorem dX9_init_33 : decode cX9_init 33 = .ok (.putfield 19, 3) := by decide +kernel
theorem dX9_init_36 : decode cX9_init 36 = .ok (.aload_n 0, 1) := by decide +kernel
theorem dX9_init_37 : decode cX9_init 37 = .ok (.sipush 240, 3) := by decide +kernel
theorem dX9_init_40 : decode cX9_init 40 = .ok (.newarray .int, 2) := by decide +kernel
theorem dX9_init_42 : decode cX9_init 42 = .ok (.putfield 23, 3) := by decide +kernel
theorem dX9_init_45 : decode cX9_init 45 = .ok (.aload_n 0, 1) := by decide +kernel
theorem dX9_init_46 : decode cX9_init 46 = .ok (.bipush 56, 2) := by decide +kernel
theorem dX9_init_48 : decode cX9_init 48 = .ok (.newarray .int, 2) := by decide +kernel
theorem dX9_init_50 : decode cX9_init 50 = .ok (.putfield 26, 3) := by decide +kernel
theorem dX9_init_53 : decode cX9_init 53 = .ok (.aload_n 0, 1) := by decide +kernel
theorem dX9_init_54 : decode cX9_init 54 = .ok (.sipush 1280, 3) := by decide +kernel
theorem dX9_init_57 : decode cX9_init 57 = .ok (.newarray .long, 2) := by decide +kernel
theorem dX9_init_59 : decode cX9_init 59 = .ok (.putfield 29, 3) := by decide +kernel
theorem dX9_init_62 : decode cX9_init 62 = .ok (.aload_n 0, 1) := by decide +kernel
theorem dX9_init_63 : decode cX9_init 63 = .ok (.bipush 80, 2) := by decide +kernel
theorem dX9_init_65 : decode cX9_init 65 = .ok (.newarray .long, 2) := by decide +kernel
theorem dX9_init_67 : decode cX9_init 67 = .ok (.putfield 32, 3) := by decide +kernel
theorem dX9_init_70 : decode cX9_init 70 = .ok (.aload_n 0, 1) := by decide +kernel
theorem dX9_init_71 : decode cX9_init 71 = .ok (.bipush 8, 2) := by decide +kernel
theorem dX9_init_73 : decode cX9_init 73 = .ok (.newarray .int, 2) := by decide +kernel
theorem dX9_init_75 : decode cX9_init 75 = .ok (.putfield 35, 3) := by decide +kernel
theorem dX9_init_78 : decode cX9_init 78 = .ok (.aload_n 0, 1) := by decide +kernel
theorem dX9_init_79 : decode cX9_init 79 = .ok (.bipush 64, 2) := by decide +kernel
theorem dX9_init_81 : decode cX9_init 81 = .ok (.newarray .boolean, 2) := by decide +kernel
theorem dX9_init_83 : decode cX9_init 83 = .ok (.putfield 38, 3) := by decide +kernel
theorem dX9_init_86 : decode cX9_init 86 = .ok (.aload_n 0, 1) := by decide +kernel
theorem dX9_init_87 : decode cX9_init 87 = .ok (.bipush 8, 2) := by decide +kernel
theorem dX9_init_89 : decode cX9_init 89 = .ok (.newarray .int, 2) := by decide +kernel
theorem dX9_init_91 : decode cX9_init 91 = .ok (.putfield 42, 3) := by decide +kernel
theorem dX9_init_94 : decode cX9_init 94 = .ok (.aload_n 0, 1) := by decide +kernel
theorem dX9_init_95 : decode cX9_init 95 = .ok (.bipush 8, 2) := by decide +kernel
theorem dX9_init_97 : decode cX9_init 97 = .ok (.newarray .int, 2) := by decide +kernel
theorem dX9_init_99 : decode cX9_init 99 = .ok (.putfield 45, 3) := by decide +kernel
theorem dX9_init_102 : decode cX9_init 102 = .ok (.aload_n 0, 1) := by decide +kernel
theorem dX9_init_103 : decode cX9_init 103 = .ok (.bipush 101, 2) := by decide +kernel
theorem dX9_init_105 : decode cX9_init 105 = .ok (.newarray .int, 2) := by decide +kernel
theorem dX9_init_107 : decode cX9_init 107 = .ok (.putfield 48, 3) := by decide +kernel
theorem dX9_init_110 : decode cX9_init 110 = .ok (.aload_n 0, 1) := by decide +kernel
theorem dX9_init_111 : decode cX9_init 111 = .ok (.bipush 30, 2) := by decide +kernel
theorem dX9_init_113 : decode cX9_init 113 = .ok (.newarray .int, 2) := by decide +kernel
theorem dX9_init_115 : decode cX9_init 115 = .ok (.putfield 51, 3) := by decide +kernel
theorem dX9_init_118 : decode cX9_init 118 = .ok (.aload_n 0, 1) := by decide +kernel
theorem dX9_init_119 : decode cX9_init 119 = .ok (.sipush 162, 3) := by decide +kernel
theorem dX9_init_122 : decode cX9_init 122 = .ok (.newarray .long, 2) := by decide +kernel
theorem dX9_init_124 : decode cX9_init 124 = .ok (.putfield 54, 3) := by decide +kernel
theorem dX9_init_127 : decode cX9_init 127 = .ok (.aload_n 0, 1) := by decide +kernel
theorem dX9_init_128 : decode cX9_init 128 = .ok (.iconst 2, 1) := by decide +kernel
theorem dX9_init_129 : decode cX9_init 129 = .ok (.newarray .boolean, 2) := by decide +kernel
theorem dX9_init_131 : decode cX9_init 131 = .ok (.putfield 57, 3) := by decide +kernel
theorem dX9_init_134 : decode cX9_init 134 = .ok (.aload_n 0, 1) := by decide +kernel
theorem dX9_init_135 : decode cX9_init 135 = .ok (.iconst (-1), 1) := by decide +kernel
theorem dX9_init_136 : decode cX9_init 136 = .ok (.putfield 60, 3) := by decide +kernel
theorem dX9_init_139 : decode cX9_init 139 = .ok (.return_, 1) := by decide +kernel
theorem dX9_at_0 : decode cX9_at 0 = .ok (.aload_n 0, 1) := by decide +kernel
theorem dX9_at_1 : decode cX9_at 1 = .ok (.getfield 19, 3) := by decide +kernel
theorem dX9_at_4 : decode cX9_at 4 = .ok (.iload_n 1, 1) := by decide +kernel
theorem dX9_at_5 : decode cX9_at 5 = .ok (.laload, 1) := by decide +kernel
theorem dX9_at_6 : decode cX9_at 6 = .ok (.l2i, 1) := by decide +kernel
theorem dX9_at_7 : decode cX9_at 7 = .ok (.ireturn, 1) := by decide +kernel
theorem dX9_isRoom_0 : decode cX9_isRoom 0 = .ok (.iload_n 1, 1) := by decide +kernel
theorem dX9_isRoom_1 : decode cX9_isRoom 1 = .ok (.i2l, 1) := by decide +kernel
theorem dX9_isRoom_2 : decode cX9_isRoom 2 = .ok (.lconst 0, 1) := by decide +kernel
theorem dX9_isRoom_3 : decode cX9_isRoom 3 = .ok (.aload_n 0, 1) := by decide +kernel
theorem dX9_isRoom_4 : decode cX9_isRoom 4 = .ok (.getfield 64, 3) := by decide +kernel
theorem dX9_isRoom_7 : decode cX9_isRoom 7 = .ok (.iconst 1, 1) := by decide +kernel
theorem dX9_isRoom_8 : decode cX9_isRoom 8 = .ok (.isub, 1) := by decide +kernel
theorem dX9_isRoom_9 : decode cX9_isRoom 9 = .ok (.i2l, 1) := by decide +kernel
theorem dX9_isRoom_10 : decode cX9_isRoom 10 = .ok (.invokestatic 67, 3) := by decide +kernel
theorem dX9_isRoom_13 : decode cX9_isRoom 13 = .ok (.ireturn, 1) := by decide +kernel
theorem dX9_isDoor_0 : decode cX9_isDoor 0 = .ok (.iload_n 1, 1) := by decide +kernel
theorem dX9_isDoor_1 : decode cX9_isDoor 1 = .ok (.i2l, 1) := by decide +kernel
theorem dX9_isDoor_2 : decode cX9_isDoor 2 = .ok (.lconst 0, 1) := by decide +kernel
theorem dX9_isDoor_3 : decode cX9_isDoor 3 = .ok (.aload_n 0, 1) := by decide +kernel
theorem dX9_isDoor_4 : decode cX9_isDoor 4 = .ok (.getfield 71, 3) := by decide +kernel
theorem dX9_isDoor_7 : decode cX9_isDoor 7 = .ok (.iconst 1, 1) := by decide +kernel
theorem dX9_isDoor_8 : decode cX9_isDoor 8 = .ok (.isub, 1) := by decide +kernel
theorem dX9_isDoor_9 : decode cX9_isDoor 9 = .ok (.i2l, 1) := by decide +kernel
theorem dX9_isDoor_10 : decode cX9_isDoor 10 = .ok (.invokestatic 67, 3) := by decide +kernel
theorem dX9_isDoor_13 : decode cX9_isDoor 13 = .ok (.ireturn, 1) := by decide +kernel
theorem dX9_isPetition_0 : decode cX9_isPetition 0 = .ok (.iload_n 1, 1) := by decide +kernel
theorem dX9_isPetition_1 : decode cX9_isPetition 1 = .ok (.i2l, 1) := by decide +kernel
theorem dX9_isPetition_2 : decode cX9_isPetition 2 = .ok (.lconst 0, 1) := by decide +kernel
theorem dX9_isPetition_3 : decode cX9_isPetition 3 = .ok (.aload_n 0, 1) := by decide +kernel
theorem dX9_isPetition_4 : decode cX9_isPetition 4 = .ok (.getfield 74, 3) := by decide +kernel
theorem dX9_isPetition_7 : decode cX9_isPetition 7 = .ok (.iconst 1, 1) := by decide +kernel
theorem dX9_isPetition_8 : decode cX9_isPetition 8 = .ok (.isub, 1) := by decide +kernel
theorem dX9_isPetition_9 : decode cX9_isPetition 9 = .ok (.i2l, 1) := by decide +kernel
theorem dX9_isPetition_10 : decode cX9_isPetition 10 = .ok (.invokestatic 67, 3) := by decide +kernel
theorem dX9_isPetition_13 : decode cX9_isPetition 13 = .ok (.ireturn, 1) := by decide +kernel
theorem dX9_isRule_0 : decode cX9_isRule 0 = .ok (.iload_n 0, 1) := by decide +kernel
theorem dX9_isRule_1 : decode cX9_isRule 1 = .ok (.i2l, 1) := by decide +kernel
theorem dX9_isRule_2 : decode cX9_isRule 2 = .ok (.lconst 0, 1) := by decide +kernel
theorem dX9_isRule_3 : decode cX9_isRule 3 = .ok (.ldc2_w 77, 3) := by decide +kernel
theorem dX9_isRule_6 : decode cX9_isRule 6 = .ok (.invokestatic 67, 3) := by decide +kernel
theorem dX9_isRule_9 : decode cX9_isRule 9 = .ok (.ireturn, 1) := by decide +kernel
theorem dX9_doorBetween_0 : decode cX9_doorBetween 0 = .ok (.iconst (-1), 1) := by decide +kernel
theorem dX9_doorBetween_1 : decode cX9_doorBetween 1 = .ok (.istore_n 3, 1) := by decide +kernel
theorem dX9_doorBetween_2 : decode cX9_doorBetween 2 = .ok (.iconst 0, 1) := by decide +kernel
theorem dX9_doorBetween_3 : decode cX9_doorBetween 3 = .ok (.istore 4, 2) := by decide +kernel
theorem dX9_doorBetween_5 : decode cX9_doorBetween 5 = .ok (.iload 4, 2) := by decide +kernel
theorem dX9_doorBetween_7 : decode cX9_doorBetween 7 = .ok (.aload_n 0, 1) := by decide +kernel
theorem dX9_doorBetween_8 : decode cX9_doorBetween 8 = .ok (.getfield 71, 3) := by decide +kernel
theorem dX9_doorBetween_11 : decode cX9_doorBetween 11 = .ok (.if_icmp .ge 60, 3) := by decide +kernel
theorem dX9_doorBetween_14 : decode cX9_doorBetween 14 = .ok (.aload_n 0, 1) := by decide +kernel
theorem dX9_doorBetween_15 : decode cX9_doorBetween 15 = .ok (.getfield 7, 3) := by decide +kernel
theorem dX9_doorBetween_18 : decode cX9_doorBetween 18 = .ok (.iload 4, 2) := by decide +kernel
theorem dX9_doorBetween_20 : decode cX9_doorBetween 20 = .ok (.iaload, 1) := by decide +kernel
theorem dX9_doorBetween_21 : decode cX9_doorBetween 21 = .ok (.iload_n 1, 1) := by decide +kernel
theorem dX9_doorBetween_22 : decode cX9_doorBetween 22 = .ok (.if_icmp .ne 14, 3) := by decide +kernel
theorem dX9_doorBetween_25 : decode cX9_doorBetween 25 = .ok (.aload_n 0, 1) := by decide +kernel
theorem dX9_doorBetween_26 : decode cX9_doorBetween 26 = .ok (.getfield 13, 3) := by decide +kernel
theorem dX9_doorBetween_29 : decode cX9_doorBetween 29 = .ok (.iload 4, 2) := by decide +kernel
theorem dX9_doorBetween_31 : decode cX9_doorBetween 31 = .ok (.iaload, 1) := by decide +kernel
theorem dX9_doorBetween_32 : decode cX9_doorBetween 32 = .ok (.iload_n 2, 1) := by decide +kernel
theorem dX9_doorBetween_33 : decode cX9_doorBetween 33 = .ok (.if_icmp .eq 25, 3) := by decide +kernel
theorem dX9_doorBetween_36 : decode cX9_doorBetween 36 = .ok (.aload_n 0, 1) := by decide +kernel
theorem dX9_doorBetween_37 : decode cX9_doorBetween 37 = .ok (.getfield 7, 3) := by decide +kernel
theorem dX9_doorBetween_40 : decode cX9_doorBetween 40 = .ok (.iload 4, 2) := by decide +kernel
theorem dX9_doorBetween_42 : decode cX9_doorBetween 42 = .ok (.iaload, 1) := by decide +kernel
theorem dX9_doorBetween_43 : decode cX9_doorBetween 43 = .ok (.iload_n 2, 1) := by decide +kernel
theorem dX9_doorBetween_44 : decode cX9_doorBetween 44 = .ok (.if_icmp .ne 19, 3) := by decide +kernel
theorem dX9_doorBetween_47 : decode cX9_doorBetween 47 = .ok (.aload_n 0, 1) := by decide +kernel
theorem dX9_doorBetween_48 : decode cX9_doorBetween 48 = .ok (.getfield 13, 3) := by decide +kernel
theorem dX9_doorBetween_51 : decode cX9_doorBetween 51 = .ok (.iload 4, 2) := by decide +kernel
theorem dX9_doorBetween_53 : decode cX9_doorBetween 53 = .ok (.iaload, 1) := by decide +kernel
theorem dX9_doorBetween_54 : decode cX9_doorBetween 54 = .ok (.iload_n 1, 1) := by decide +kernel
theorem dX9_doorBetween_55 : decode cX9_doorBetween 55 = .ok (.if_icmp .ne 8, 3) := by decide +kernel
theorem dX9_doorBetween_58 : decode cX9_doorBetween 58 = .ok (.iload 4, 2) := by decide +kernel
theorem dX9_doorBetween_60 : decode cX9_doorBetween 60 = .ok (.goto 4, 3) := by decide +kernel
theorem dX9_doorBetween_63 : decode cX9_doorBetween 63 = .ok (.iload_n 3, 1) := by decide +kernel
theorem dX9_doorBetween_64 : decode cX9_doorBetween 64 = .ok (.istore_n 3, 1) := by decide +kernel
theorem dX9_doorBetween_65 : decode cX9_doorBetween 65 = .ok (.iinc 4 1, 3) := by decide +kernel
theorem dX9_doorBetween_68 : decode cX9_doorBetween 68 = .ok (.goto (-63), 3) := by decide +kernel
theorem dX9_doorBetween_71 : decode cX9_doorBetween 71 = .ok (.iload_n 3, 1) := by decide +kernel
theorem dX9_doorBetween_72 : decode cX9_doorBetween 72 = .ok (.ireturn, 1) := by decide +kernel
theorem dX9_pull_0 : decode cX9_pull 0 = .ok (.iload_n 0, 1) := by decide +kernel
theorem dX9_pull_1 : decode cX9_pull 1 = .ok (.bipush 16, 2) := by decide +kernel
theorem dX9_pull_3 : decode cX9_pull 3 = .ok (.idiv, 1) := by decide +kernel
theorem dX9_pull_4 : decode cX9_pull 4 = .ok (.istore 5, 2) := by decide +kernel
theorem dX9_pull_6 : decode cX9_pull 6 = .ok (.iload_n 0, 1) := by decide +kernel
theorem dX9_pull_7 : decode cX9_pull 7 = .ok (.iconst 4, 1) := by decide +kernel
theorem dX9_pull_8 : decode cX9_pull 8 = .ok (.idiv, 1) := by decide +kernel
theorem dX9_pull_9 : decode cX9_pull 9 = .ok (.iconst 4, 1) := by decide +kernel
theorem dX9_pull_10 : decode cX9_pull 10 = .ok (.irem, 1) := by decide +kernel
theorem dX9_pull_11 : decode cX9_pull 11 = .ok (.istore 6, 2) := by decide +kernel
theorem dX9_pull_13 : decode cX9_pull 13 = .ok (.iload_n 0, 1) := by decide +kernel
theorem dX9_pull_14 : decode cX9_pull 14 = .ok (.iconst 4, 1) := by decide +kernel
theorem dX9_pull_15 : decode cX9_pull 15 = .ok (.irem, 1) := by decide +kernel
theorem dX9_pull_16 : decode cX9_pull 16 = .ok (.istore 7, 2) := by decide +kernel
theorem dX9_pull_18 : decode cX9_pull 18 = .ok (.iload 5, 2) := by decide +kernel
theorem dX9_pull_20 : decode cX9_pull 20 = .ok (.iload_n 1, 1) := by decide +kernel
theorem dX9_pull_21 : decode cX9_pull 21 = .ok (.imul, 1) := by decide +kernel
theorem dX9_pull_22 : decode cX9_pull 22 = .ok (.iload 4, 2) := by decide +kernel
theorem dX9_pull_24 : decode cX9_pull 24 = .ok (.ifCond .eq 7, 3) := by decide +kernel
theorem dX9_pull_27 : decode cX9_pull 27 = .ok (.iconst 2, 1) := by decide +kernel
theorem dX9_pull_28 : decode cX9_pull 28 = .ok (.goto 4, 3) := by decide +kernel
theorem dX9_pull_31 : decode cX9_pull 31 = .ok (.iconst 1, 1) := by decide +kernel
theorem dX9_pull_32 : decode cX9_pull 32 = .ok (.imul, 1) := by decide +kernel
theorem dX9_pull_33 : decode cX9_pull 33 = .ok (.iload_n 2, 1) := by decide +kernel
theorem dX9_pull_34 : decode cX9_pull 34 = .ok (.ifCond .eq 7, 3) := by decide +kernel
theorem dX9_pull_37 : decode cX9_pull 37 = .ok (.iconst 0, 1) := by decide +kernel
theorem dX9_pull_38 : decode cX9_pull 38 = .ok (.goto 7, 3) := by decide +kernel
theorem dX9_pull_41 : decode cX9_pull 41 = .ok (.iload 6, 2) := by decide +kernel
theorem dX9_pull_43 : decode cX9_pull 43 = .ok (.iconst 3, 1) := by decide +kernel
theorem dX9_pull_44 : decode cX9_pull 44 = .ok (.imul, 1) := by decide +kernel
theorem dX9_pull_45 : decode cX9_pull 45 = .ok (.iadd, 1) := by decide +kernel
theorem dX9_pull_46 : decode cX9_pull 46 = .ok (.iload 7, 2) := by decide +kernel
theorem dX9_pull_48 : decode cX9_pull 48 = .ok (.iload_n 3, 1) := by decide +kernel
theorem dX9_pull_49 : decode cX9_pull 49 = .ok (.imul, 1) := by decide +kernel
theorem dX9_pull_50 : decode cX9_pull 50 = .ok (.iadd, 1) := by decide +kernel
theorem dX9_pull_51 : decode cX9_pull 51 = .ok (.ireturn, 1) := by decide +kernel
theorem dX9_noises_0 : decode cX9_noises 0 = .ok (.lconst 0, 1) := by decide +kernel
theorem dX9_noises_1 : decode cX9_noises 1 = .ok (.lstore_n 1, 1) := by decide +kernel
theorem dX9_noises_2 : decode cX9_noises 2 = .ok (.iconst 0, 1) := by decide +kernel
theorem dX9_noises_3 : decode cX9_noises 3 = .ok (.istore_n 3, 1) := by decide +kernel
theorem dX9_noises_4 : decode cX9_noises 4 = .ok (.iload_n 3, 1) := by decide +kernel
theorem dX9_noises_5 : decode cX9_noises 5 = .ok (.aload_n 0, 1) := by decide +kernel
theorem dX9_noises_6 : decode cX9_noises 6 = .ok (.getfield 64, 3) := by decide +kernel
theorem dX9_noises_9 : decode cX9_noises 9 = .ok (.if_icmp .ge 25, 3) := by decide +kernel
theorem dX9_noises_12 : decode cX9_noises 12 = .ok (.lload_n 1, 1) := by decide +kernel
theorem dX9_noises_13 : decode cX9_noises 13 = .ok (.aload_n 0, 1) := by decide +kernel
theorem dX9_noises_14 : decode cX9_noises 14 = .ok (.getfield 19, 3) := by decide +kernel
theorem dX9_noises_17 : decode cX9_noises 17 = .ok (.bipush 10, 2) := by decide +kernel
theorem dX9_noises_19 : decode cX9_noises 19 = .ok (.iload_n 3, 1) := by decide +kernel
theorem dX9_noises_20 : decode cX9_noises 20 = .ok (.iadd, 1) := by decide +kernel
theorem dX9_noises_21 : decode cX9_noises 21 = .ok (.laload, 1) := by decide +kernel
theorem dX9_noises_22 : decode cX9_noises 22 = .ok (.iconst 4, 1) := by decide +kernel
theorem dX9_noises_23 : decode cX9_noises 23 = .ok (.iload_n 3, 1) := by decide +kernel
theorem dX9_noises_24 : decode cX9_noises 24 = .ok (.imul, 1) := by decide +kernel
theorem dX9_noises_25 : decode cX9_noises 25 = .ok (.lshl, 1) := by decide +kernel
theorem dX9_noises_26 : decode cX9_noises 26 = .ok (.lor, 1) := by decide +kernel
theorem dX9_noises_27 : decode cX9_noises 27 = .ok (.lstore_n 1, 1) := by decide +kernel
theorem dX9_noises_28 : decode cX9_noises 28 = .ok (.iinc 3 1, 3) := by decide +kernel
theorem dX9_noises_31 : decode cX9_noises 31 = .ok (.goto (-27), 3) := by decide +kernel
theorem dX9_noises_34 : decode cX9_noises 34 = .ok (.lload_n 1, 1) := by decide +kernel
theorem dX9_noises_35 : decode cX9_noises 35 = .ok (.lreturn, 1) := by decide +kernel
theorem dX9_counts_0 : decode cX9_counts 0 = .ok (.lconst 0, 1) := by decide +kernel
theorem dX9_counts_1 : decode cX9_counts 1 = .ok (.lstore_n 1, 1) := by decide +kernel
theorem dX9_counts_2 : decode cX9_counts 2 = .ok (.iconst 0, 1) := by decide +kernel
theorem dX9_counts_3 : decode cX9_counts 3 = .ok (.istore_n 3, 1) := by decide +kernel
theorem dX9_counts_4 : decode cX9_counts 4 = .ok (.iload_n 3, 1) := by decide +kernel
theorem dX9_counts_5 : decode cX9_counts 5 = .ok (.aload_n 0, 1) := by decide +kernel
theorem dX9_counts_6 : decode cX9_counts 6 = .ok (.getfield 64, 3) := by decide +kernel
theorem dX9_counts_9 : decode cX9_counts 9 = .ok (.if_icmp .ge 47, 3) := by decide +kernel
theorem dX9_counts_12 : decode cX9_counts 12 = .ok (.lload_n 1, 1) := by decide +kernel
theorem dX9_counts_13 : decode cX9_counts 13 = .ok (.aload_n 0, 1) := by decide +kernel
theorem dX9_counts_14 : decode cX9_counts 14 = .ok (.getfield 19, 3) := by decide +kernel
theorem dX9_counts_17 : decode cX9_counts 17 = .ok (.bipush 18, 2) := by decide +kernel
theorem dX9_counts_19 : decode cX9_counts 19 = .ok (.iload_n 3, 1) := by decide +kernel
theorem dX9_counts_20 : decode cX9_counts 20 = .ok (.iadd, 1) := by decide +kernel
theorem dX9_counts_21 : decode cX9_counts 21 = .ok (.laload, 1) := by decide +kernel
theorem dX9_counts_22 : decode cX9_counts 22 = .ok (.ldc2_w 79, 3) := by decide +kernel
theorem dX9_counts_25 : decode cX9_counts 25 = .ok (.lcmp, 1) := by decide +kernel
theorem dX9_counts_26 : decode cX9_counts 26 = .ok (.ifCond .le 9, 3) := by decide +kernel
theorem dX9_counts_29 : decode cX9_counts 29 = .ok (.ldc2_w 79, 3) := by decide +kernel
theorem dX9_counts_32 : decode cX9_counts 32 = .ok (.goto 12, 3) := by decide +kernel
theorem dX9_counts_35 : decode cX9_counts 35 = .ok (.aload_n 0, 1) := by decide +kernel
theorem dX9_counts_36 : decode cX9_counts 36 = .ok (.getfield 19, 3) := by decide +kernel
theorem dX9_counts_39 : decode cX9_counts 39 = .ok (.bipush 18, 2) := by decide +kernel
theorem dX9_counts_41 : decode cX9_counts 41 = .ok (.iload_n 3, 1) := by decide +kernel
theorem dX9_counts_42 : decode cX9_counts 42 = .ok (.iadd, 1) := by decide +kernel
theorem dX9_counts_43 : decode cX9_counts 43 = .ok (.laload, 1) := by decide +kernel
theorem dX9_counts_44 : decode cX9_counts 44 = .ok (.iconst 4, 1) := by decide +kernel
theorem dX9_counts_45 : decode cX9_counts 45 = .ok (.iload_n 3, 1) := by decide +kernel
theorem dX9_counts_46 : decode cX9_counts 46 = .ok (.imul, 1) := by decide +kernel
theorem dX9_counts_47 : decode cX9_counts 47 = .ok (.lshl, 1) := by decide +kernel
theorem dX9_counts_48 : decode cX9_counts 48 = .ok (.lor, 1) := by decide +kernel
theorem dX9_counts_49 : decode cX9_counts 49 = .ok (.lstore_n 1, 1) := by decide +kernel
theorem dX9_counts_50 : decode cX9_counts 50 = .ok (.iinc 3 1, 3) := by decide +kernel
theorem dX9_counts_53 : decode cX9_counts 53 = .ok (.goto (-49), 3) := by decide +kernel
theorem dX9_counts_56 : decode cX9_counts 56 = .ok (.lload_n 1, 1) := by decide +kernel
theorem dX9_counts_57 : decode cX9_counts 57 = .ok (.lreturn, 1) := by decide +kernel
theorem dX9_has_0 : decode cX9_has 0 = .ok (.lload_n 0, 1) := by decide +kernel
theorem dX9_has_1 : decode cX9_has 1 = .ok (.iload_n 2, 1) := by decide +kernel
theorem dX9_has_2 : decode cX9_has 2 = .ok (.lshr, 1) := by decide +kernel
theorem dX9_has_3 : decode cX9_has 3 = .ok (.lconst 1, 1) := by decide +kernel
theorem dX9_has_4 : decode cX9_has 4 = .ok (.land, 1) := by decide +kernel
theorem dX9_has_5 : decode cX9_has 5 = .ok (.lconst 1, 1) := by decide +kernel
theorem dX9_has_6 : decode cX9_has 6 = .ok (.lcmp, 1) := by decide +kernel
theorem dX9_has_7 : decode cX9_has 7 = .ok (.ifCond .ne 7, 3) := by decide +kernel
theorem dX9_has_10 : decode cX9_has 10 = .ok (.iconst 1, 1) := by decide +kernel
theorem dX9_has_11 : decode cX9_has 11 = .ok (.goto 4, 3) := by decide +kernel
theorem dX9_has_14 : decode cX9_has 14 = .ok (.iconst 0, 1) := by decide +kernel
theorem dX9_has_15 : decode cX9_has 15 = .ok (.ireturn, 1) := by decide +kernel
theorem dX9_goesTo_0 : decode cX9_goesTo 0 = .ok (.iload_n 2, 1) := by decide +kernel
theorem dX9_goesTo_1 : decode cX9_goesTo 1 = .ok (.istore 14, 2) := by decide +kernel
theorem dX9_goesTo_3 : decode cX9_goesTo 3 = .ok (.iconst (-1), 1) := by decide +kernel
theorem dX9_goesTo_4 : decode cX9_goesTo 4 = .ok (.istore 15, 2) := by decide +kernel
theorem dX9_goesTo_6 : decode cX9_goesTo 6 = .ok (.iconst 0, 1) := by decide +kernel
theorem dX9_goesTo_7 : decode cX9_goesTo 7 = .ok (.istore 16, 2) := by decide +kernel
theorem dX9_goesTo_9 : decode cX9_goesTo 9 = .ok (.iload 16, 2) := by decide +kernel
theorem dX9_goesTo_11 : decode cX9_goesTo 11 = .ok (.aload_n 0, 1) := by decide +kernel
theorem dX9_goesTo_12 : decode cX9_goesTo 12 = .ok (.getfield 64, 3) := by decide +kernel
theorem dX9_goesTo_15 : decode cX9_goesTo 15 = .ok (.if_icmp .ge 126, 3) := by decide +kernel
theorem dX9_goesTo_18 : decode cX9_goesTo 18 = .ok (.aload_n 0, 1) := by decide +kernel
theorem dX9_goesTo_19 : decode cX9_goesTo 19 = .ok (.iload_n 2, 1) := by decide +kernel
theorem dX9_goesTo_20 : decode cX9_goesTo 20 = .ok (.iload 16, 2) := by decide +kernel
theorem dX9_goesTo_22 : decode cX9_goesTo 22 = .ok (.invokevirtual 81, 3) := by decide +kernel
theorem dX9_goesTo_25 : decode cX9_goesTo 25 = .ok (.istore 17, 2) := by decide +kernel
theorem dX9_goesTo_27 : decode cX9_goesTo 27 = .ok (.iload 17, 2) := by decide +kernel
theorem dX9_goesTo_29 : decode cX9_goesTo 29 = .ok (.iconst (-1), 1) := by decide +kernel
theorem dX9_goesTo_30 : decode cX9_goesTo 30 = .ok (.if_icmp .eq 105, 3) := by decide +kernel
theorem dX9_goesTo_33 : decode cX9_goesTo 33 = .ok (.lload 7, 2) := by decide +kernel
theorem dX9_goesTo_35 : decode cX9_goesTo 35 = .ok (.iload 17, 2) := by decide +kernel
theorem dX9_goesTo_37 : decode cX9_goesTo 37 = .ok (.invokestatic 85, 3) := by decide +kernel
theorem dX9_goesTo_40 : decode cX9_goesTo 40 = .ok (.ifCond .ne 95, 3) := by decide +kernel
theorem dX9_goesTo_43 : decode cX9_goesTo 43 = .ok (.lload 5, 2) := by decide +kernel
theorem dX9_goesTo_45 : decode cX9_goesTo 45 = .ok (.iload 16, 2) := by decide +kernel
theorem dX9_goesTo_47 : decode cX9_goesTo 47 = .ok (.invokestatic 85, 3) := by decide +kernel
theorem dX9_goesTo_50 : decode cX9_goesTo 50 = .ok (.ifCond .ne 85, 3) := by decide +kernel
theorem dX9_goesTo_53 : decode cX9_goesTo 53 = .ok (.iload_n 1, 1) := by decide +kernel
theorem dX9_goesTo_54 : decode cX9_goesTo 54 = .ok (.lload 9, 2) := by decide +kernel
theorem dX9_goesTo_56 : decode cX9_goesTo 56 = .ok (.iconst 4, 1) := by decide +kernel
theorem dX9_goesTo_57 : decode cX9_goesTo 57 = .ok (.iload 16, 2) := by decide +kernel
theorem dX9_goesTo_59 : decode cX9_goesTo 59 = .ok (.imul, 1) := by decide +kernel
theorem dX9_goesTo_60 : decode cX9_goesTo 60 = .ok (.lshr, 1) := by decide +kernel
theorem dX9_goesTo_61 : decode cX9_goesTo 61 = .ok (.ldc2_w 89, 3) := by decide +kernel
theorem dX9_goesTo_64 : decode cX9_goesTo 64 = .ok (.land, 1) := by decide +kernel
theorem dX9_goesTo_65 : decode cX9_goesTo 65 = .ok (.l2i, 1) := by decide +kernel
theorem dX9_goesTo_66 : decode cX9_goesTo 66 = .ok (.lload_n 3, 1) := by decide +kernel
theorem dX9_goesTo_67 : decode cX9_goesTo 67 = .ok (.iload 16, 2) := by decide +kernel
theorem dX9_goesTo_69 : decode cX9_goesTo 69 = .ok (.invokestatic 85, 3) := by decide +kernel
theorem dX9_goesTo_72 : decode cX9_goesTo 72 = .ok (.lload 11, 2) := by decide +kernel
theorem dX9_goesTo_74 : decode cX9_goesTo 74 = .ok (.iconst 4, 1) := by decide +kernel
theorem dX9_goesTo_75 : decode cX9_goesTo 75 = .ok (.iload 16, 2) := by decide +kernel
theorem dX9_goesTo_77 : decode cX9_goesTo 77 = .ok (.imul, 1) := by decide +kernel
theorem dX9_goesTo_78 : decode cX9_goesTo 78 = .ok (.lshr, 1) := by decide +kernel
theorem dX9_goesTo_79 : decode cX9_goesTo 79 = .ok (.ldc2_w 89, 3) := by decide +kernel
theorem dX9_goesTo_82 : decode cX9_goesTo 82 = .ok (.land, 1) := by decide +kernel
theorem dX9_goesTo_83 : decode cX9_goesTo 83 = .ok (.l2i, 1) := by decide +kernel
theorem dX9_goesTo_84 : decode cX9_goesTo 84 = .ok (.iload 13, 2) := by decide +kernel
theorem dX9_goesTo_86 : decode cX9_goesTo 86 = .ok (.invokestatic 91, 3) := by decide +kernel
theorem dX9_goesTo_89 : decode cX9_goesTo 89 = .ok (.istore 18, 2) := by decide +kernel
theorem dX9_goesTo_91 : decode cX9_goesTo 91 = .ok (.iload 15, 2) := by decide +kernel
theorem dX9_goesTo_93 : decode cX9_goesTo 93 = .ok (.iconst (-1), 1) := by decide +kernel
theorem dX9_goesTo_94 : decode cX9_goesTo 94 = .ok (.if_icmp .eq 10, 3) := by decide +kernel
theorem dX9_goesTo_97 : decode cX9_goesTo 97 = .ok (.iload 18, 2) := by decide +kernel
theorem dX9_goesTo_99 : decode cX9_goesTo 99 = .ok (.iload 15, 2) := by decide +kernel
theorem dX9_goesTo_101 : decode cX9_goesTo 101 = .ok (.if_icmp .ge 8, 3) := by decide +kernel
theorem dX9_goesTo_104 : decode cX9_goesTo 104 = .ok (.iload 16, 2) := by decide +kernel
theorem dX9_goesTo_106 : decode cX9_goesTo 106 = .ok (.goto 5, 3) := by decide +kernel
theorem dX9_goesTo_109 : decode cX9_goesTo 109 = .ok (.iload 14, 2) := by decide +kernel
theorem dX9_goesTo_111 : decode cX9_goesTo 111 = .ok (.istore 14, 2) := by decide +kernel
theorem dX9_goesTo_113 : decode cX9_goesTo 113 = .ok (.iload 15, 2) := by decide +kernel
theorem dX9_goesTo_115 : decode cX9_goesTo 115 = .ok (.iconst (-1), 1) := by decide +kernel
theorem dX9_goesTo_116 : decode cX9_goesTo 116 = .ok (.if_icmp .eq 10, 3) := by decide +kernel
theorem dX9_goesTo_119 : decode cX9_goesTo 119 = .ok (.iload 18, 2) := by decide +kernel
theorem dX9_goesTo_121 : decode cX9_goesTo 121 = .ok (.iload 15, 2) := by decide +kernel
theorem dX9_goesTo_123 : decode cX9_goesTo 123 = .ok (.if_icmp .ge 8, 3) := by decide +kernel
theorem dX9_goesTo_126 : decode cX9_goesTo 126 = .ok (.iload 18, 2) := by decide +kernel
theorem dX9_goesTo_128 : decode cX9_goesTo 128 = .ok (.goto 5, 3) := by decide +kernel
theorem dX9_goesTo_131 : decode cX9_goesTo 131 = .ok (.iload 15, 2) := by decide +kernel
theorem dX9_goesTo_133 : decode cX9_goesTo 133 = .ok (.istore 15, 2) := by decide +kernel
theorem dX9_goesTo_135 : decode cX9_goesTo 135 = .ok (.iinc 16 1, 3) := by decide +kernel
theorem dX9_goesTo_138 : decode cX9_goesTo 138 = .ok (.goto (-129), 3) := by decide +kernel
theorem dX9_goesTo_141 : decode cX9_goesTo 141 = .ok (.iload 14, 2) := by decide +kernel
theorem dX9_goesTo_143 : decode cX9_goesTo 143 = .ok (.ireturn, 1) := by decide +kernel
theorem dX9_isWorn_0 : decode cX9_isWorn 0 = .ok (.aload_n 0, 1) := by decide +kernel
theorem dX9_isWorn_1 : decode cX9_isWorn 1 = .ok (.getfield 19, 3) := by decide +kernel
theorem dX9_isWorn_4 : decode cX9_isWorn 4 = .ok (.iconst 3, 1) := by decide +kernel
theorem dX9_isWorn_5 : decode cX9_isWorn 5 = .ok (.laload, 1) := by decide +kernel
theorem dX9_isWorn_6 : decode cX9_isWorn 6 = .ok (.ldc2_w 95, 3) := by decide +kernel
theorem dX9_isWorn_9 : decode cX9_isWorn 9 = .ok (.lcmp, 1) := by decide +kernel
theorem dX9_isWorn_10 : decode cX9_isWorn 10 = .ok (.ifCond .lt 7, 3) := by decide +kernel
theorem dX9_isWorn_13 : decode cX9_isWorn 13 = .ok (.iconst 1, 1) := by decide +kernel
theorem dX9_isWorn_14 : decode cX9_isWorn 14 = .ok (.goto 4, 3) := by decide +kernel
theorem dX9_isWorn_17 : decode cX9_isWorn 17 = .ok (.iconst 0, 1) := by decide +kernel
theorem dX9_isWorn_18 : decode cX9_isWorn 18 = .ok (.ireturn, 1) := by decide +kernel
theorem dX9_goesNext_0 : decode cX9_goesNext 0 = .ok (.aload_n 0, 1) := by decide +kernel
theorem dX9_goesNext_1 : decode cX9_goesNext 1 = .ok (.iload_n 1, 1) := by decide +kernel
theorem dX9_goesNext_2 : decode cX9_goesNext 2 = .ok (.aload_n 0, 1) := by decide +kernel
theorem dX9_goesNext_3 : decode cX9_goesNext 3 = .ok (.iconst 2, 1) := by decide +kernel
theorem dX9_goesNext_4 : decode cX9_goesNext 4 = .ok (.invokevirtual 97, 3) := by decide +kernel
theorem dX9_goesNext_7 : decode cX9_goesNext 7 = .ok (.lload_n 2, 1) := by decide +kernel
theorem dX9_goesNext_8 : decode cX9_goesNext 8 = .ok (.aload_n 0, 1) := by decide +kernel
theorem dX9_goesNext_9 : decode cX9_goesNext 9 = .ok (.getfield 19, 3) := by decide +kernel
theorem dX9_goesNext_12 : decode cX9_goesNext 12 = .ok (.iconst 5, 1) := by decide +kernel
theorem dX9_goesNext_13 : decode cX9_goesNext 13 = .ok (.laload, 1) := by decide +kernel
theorem dX9_goesNext_14 : decode cX9_goesNext 14 = .ok (.aload_n 0, 1) := by decide +kernel
theorem dX9_goesNext_15 : decode cX9_goesNext 15 = .ok (.getfield 19, 3) := by decide +kernel
theorem dX9_goesNext_18 : decode cX9_goesNext 18 = .ok (.bipush 6, 2) := by decide +kernel
theorem dX9_goesNext_20 : decode cX9_goesNext 20 = .ok (.laload, 1) := by decide +kernel
theorem dX9_goesNext_21 : decode cX9_goesNext 21 = .ok (.aload_n 0, 1) := by decide +kernel
theorem dX9_goesNext_22 : decode cX9_goesNext 22 = .ok (.invokevirtual 101, 3) := by decide +kernel
theorem dX9_goesNext_25 : decode cX9_goesNext 25 = .ok (.aload_n 0, 1) := by decide +kernel
theorem dX9_goesNext_26 : decode cX9_goesNext 26 = .ok (.invokevirtual 105, 3) := by decide +kernel
theorem dX9_goesNext_29 : decode cX9_goesNext 29 = .ok (.aload_n 0, 1) := by decide +kernel
theorem dX9_goesNext_30 : decode cX9_goesNext 30 = .ok (.invokevirtual 108, 3) := by decide +kernel
theorem dX9_goesNext_33 : decode cX9_goesNext 33 = .ok (.invokevirtual 112, 3) := by decide +kernel
theorem dX9_goesNext_36 : decode cX9_goesNext 36 = .ok (.ireturn, 1) := by decide +kernel
theorem dX9_remembers_0 : decode cX9_remembers 0 = .ok (.aload_n 0, 1) := by decide +kernel
theorem dX9_remembers_1 : decode cX9_remembers 1 = .ok (.getfield 19, 3) := by decide +kernel
theorem dX9_remembers_4 : decode cX9_remembers 4 = .ok (.bipush 9, 2) := by decide +kernel
theorem dX9_remembers_6 : decode cX9_remembers 6 = .ok (.laload, 1) := by decide +kernel
theorem dX9_remembers_7 : decode cX9_remembers 7 = .ok (.ldc2_w 116, 3) := by decide +kernel
theorem dX9_remembers_10 : decode cX9_remembers 10 = .ok (.lcmp, 1) := by decide +kernel
theorem dX9_remembers_11 : decode cX9_remembers 11 = .ok (.ifCond .ne 47, 3) := by decide +kernel
theorem dX9_remembers_14 : decode cX9_remembers 14 = .ok (.iconst 3, 1) := by decide +kernel
theorem dX9_remembers_15 : decode cX9_remembers 15 = .ok (.istore_n 2, 1) := by decide +kernel
theorem dX9_remembers_16 : decode cX9_remembers 16 = .ok (.iload_n 2, 1) := by decide +kernel
theorem dX9_remembers_17 : decode cX9_remembers 17 = .ok (.bipush 48, 2) := by decide +kernel
theorem dX9_remembers_19 : decode cX9_remembers 19 = .ok (.if_icmp .ge 29, 3) := by decide +kernel
theorem dX9_remembers_22 : decode cX9_remembers 22 = .ok (.aload_n 0, 1) := by decide +kernel
theorem dX9_remembers_23 : decode cX9_remembers 23 = .ok (.getfield 19, 3) := by decide +kernel
theorem dX9_remembers_26 : decode cX9_remembers 26 = .ok (.bipush 32, 2) := by decide +kernel
theorem dX9_remembers_28 : decode cX9_remembers 28 = .ok (.iload_n 2, 1) := by decide +kernel
theorem dX9_remembers_29 : decode cX9_remembers 29 = .ok (.iadd, 1) := by decide +kernel
theorem dX9_remembers_30 : decode cX9_remembers 30 = .ok (.iconst 3, 1) := by decide +kernel
theorem dX9_remembers_31 : decode cX9_remembers 31 = .ok (.isub, 1) := by decide +kernel
theorem dX9_remembers_32 : decode cX9_remembers 32 = .ok (.aload_n 0, 1) := by decide +kernel
theorem dX9_remembers_33 : decode cX9_remembers 33 = .ok (.getfield 19, 3) := by decide +kernel
theorem dX9_remembers_36 : decode cX9_remembers 36 = .ok (.bipush 32, 2) := by decide +kernel
theorem dX9_remembers_38 : decode cX9_remembers 38 = .ok (.iload_n 2, 1) := by decide +kernel
theorem dX9_remembers_39 : decode cX9_remembers 39 = .ok (.iadd, 1) := by decide +kernel
theorem dX9_remembers_40 : decode cX9_remembers 40 = .ok (.laload, 1) := by decide +kernel
theorem dX9_remembers_41 : decode cX9_remembers 41 = .ok (.lastore, 1) := by decide +kernel
theorem dX9_remembers_42 : decode cX9_remembers 42 = .ok (.iinc 2 1, 3) := by decide +kernel
theorem dX9_remembers_45 : decode cX9_remembers 45 = .ok (.goto (-29), 3) := by decide +kernel
theorem dX9_remembers_48 : decode cX9_remembers 48 = .ok (.aload_n 0, 1) := by decide +kernel
theorem dX9_remembers_49 : decode cX9_remembers 49 = .ok (.getfield 19, 3) := by decide +kernel
theorem dX9_remembers_52 : decode cX9_remembers 52 = .ok (.bipush 9, 2) := by decide +kernel
theorem dX9_remembers_54 : decode cX9_remembers 54 = .ok (.ldc2_w 89, 3) := by decide +kernel
theorem dX9_remembers_57 : decode cX9_remembers 57 = .ok (.lastore, 1) := by decide +kernel
theorem dX9_remembers_58 : decode cX9_remembers 58 = .ok (.bipush 32, 2) := by decide +kernel
theorem dX9_remembers_60 : decode cX9_remembers 60 = .ok (.iconst 3, 1) := by decide +kernel
theorem dX9_remembers_61 : decode cX9_remembers 61 = .ok (.aload_n 0, 1) := by decide +kernel
theorem dX9_remembers_62 : decode cX9_remembers 62 = .ok (.bipush 9, 2) := by decide +kernel
theorem dX9_remembers_64 : decode cX9_remembers 64 = .ok (.invokevirtual 97, 3) := by decide +kernel
theorem dX9_remembers_67 : decode cX9_remembers 67 = .ok (.imul, 1) := by decide +kernel
theorem dX9_remembers_68 : decode cX9_remembers 68 = .ok (.iadd, 1) := by decide +kernel
theorem dX9_remembers_69 : decode cX9_remembers 69 = .ok (.istore_n 2, 1) := by decide +kernel
theorem dX9_remembers_70 : decode cX9_remembers 70 = .ok (.aload_n 0, 1) := by decide +kernel
theorem dX9_remembers_71 : decode cX9_remembers 71 = .ok (.getfield 19, 3) := by decide +kernel
theorem dX9_remembers_74 : decode cX9_remembers 74 = .ok (.iload_n 2, 1) := by decide +kernel
theorem dX9_remembers_75 : decode cX9_remembers 75 = .ok (.aload_n 0, 1) := by decide +kernel
theorem dX9_remembers_76 : decode cX9_remembers 76 = .ok (.getfield 19, 3) := by decide +kernel
theorem dX9_remembers_79 : decode cX9_remembers 79 = .ok (.iconst 2, 1) := by decide +kernel
theorem dX9_remembers_80 : decode cX9_remembers 80 = .ok (.laload, 1) := by decide +kernel
theorem dX9_remembers_81 : decode cX9_remembers 81 = .ok (.iload_n 1, 1) := by decide +kernel
theorem dX9_remembers_82 : decode cX9_remembers 82 = .ok (.i2l, 1) := by decide +kernel
theorem dX9_remembers_83 : decode cX9_remembers 83 = .ok (.iconst 3, 1) := by decide +kernel
theorem dX9_remembers_84 : decode cX9_remembers 84 = .ok (.lshl, 1) := by decide +kernel
theorem dX9_remembers_85 : decode cX9_remembers 85 = .ok (.lor, 1) := by decide +kernel
theorem dX9_remembers_86 : decode cX9_remembers 86 = .ok (.aload_n 0, 1) := by decide +kernel
theorem dX9_remembers_87 : decode cX9_remembers 87 = .ok (.getfield 19, 3) := by decide +kernel
theorem dX9_remembers_90 : decode cX9_remembers 90 = .ok (.iconst 4, 1) := by decide +kernel
theorem dX9_remembers_91 : decode cX9_remembers 91 = .ok (.laload, 1) := by decide +kernel
theorem dX9_remembers_92 : decode cX9_remembers 92 = .ok (.bipush 6, 2) := by decide +kernel
theorem dX9_remembers_94 : decode cX9_remembers 94 = .ok (.lshl, 1) := by decide +kernel
theorem dX9_remembers_95 : decode cX9_remembers 95 = .ok (.lor, 1) := by decide +kernel
theorem dX9_remembers_96 : decode cX9_remembers 96 = .ok (.aload_n 0, 1) := by decide +kernel
theorem dX9_remembers_97 : decode cX9_remembers 97 = .ok (.getfield 19, 3) := by decide +kernel
theorem dX9_remembers_100 : decode cX9_remembers 100 = .ok (.iconst 5, 1) := by decide +kernel
theorem dX9_remembers_101 : decode cX9_remembers 101 = .ok (.laload, 1) := by decide +kernel
theorem dX9_remembers_102 : decode cX9_remembers 102 = .ok (.bipush 14, 2) := by decide +kernel
theorem dX9_remembers_104 : decode cX9_remembers 104 = .ok (.lshl, 1) := by decide +kernel
theorem dX9_remembers_105 : decode cX9_remembers 105 = .ok (.lor, 1) := by decide +kernel
theorem dX9_remembers_106 : decode cX9_remembers 106 = .ok (.aload_n 0, 1) := by decide +kernel
theorem dX9_remembers_107 : decode cX9_remembers 107 = .ok (.getfield 19, 3) := by decide +kernel
theorem dX9_remembers_110 : decode cX9_remembers 110 = .ok (.bipush 6, 2) := by decide +kernel
theorem dX9_remembers_112 : decode cX9_remembers 112 = .ok (.laload, 1) := by decide +kernel
theorem dX9_remembers_113 : decode cX9_remembers 113 = .ok (.bipush 22, 2) := by decide +kernel
theorem dX9_remembers_115 : decode cX9_remembers 115 = .ok (.lshl, 1) := by decide +kernel
theorem dX9_remembers_116 : decode cX9_remembers 116 = .ok (.lor, 1) := by decide +kernel
theorem dX9_remembers_117 : decode cX9_remembers 117 = .ok (.aload_n 0, 1) := by decide +kernel
theorem dX9_remembers_118 : decode cX9_remembers 118 = .ok (.invokevirtual 108, 3) := by decide +kernel
theorem dX9_remembers_121 : decode cX9_remembers 121 = .ok (.ifCond .eq 9, 3) := by decide +kernel
theorem dX9_remembers_124 : decode cX9_remembers 124 = .ok (.ldc2_w 118, 3) := by decide +kernel
theorem dX9_remembers_127 : decode cX9_remembers 127 = .ok (.goto 4, 3) := by decide +kernel
theorem dX9_remembers_130 : decode cX9_remembers 130 = .ok (.lconst 0, 1) := by decide +kernel
theorem dX9_remembers_131 : decode cX9_remembers 131 = .ok (.lor, 1) := by decide +kernel
theorem dX9_remembers_132 : decode cX9_remembers 132 = .ok (.lastore, 1) := by decide +kernel
theorem dX9_remembers_133 : decode cX9_remembers 133 = .ok (.aload_n 0, 1) := by decide +kernel
theorem dX9_remembers_134 : decode cX9_remembers 134 = .ok (.getfield 19, 3) := by decide +kernel
theorem dX9_remembers_137 : decode cX9_remembers 137 = .ok (.iload_n 2, 1) := by decide +kernel
theorem dX9_remembers_138 : decode cX9_remembers 138 = .ok (.iconst 1, 1) := by decide +kernel
theorem dX9_remembers_139 : decode cX9_remembers 139 = .ok (.iadd, 1) := by decide +kernel
theorem dX9_remembers_140 : decode cX9_remembers 140 = .ok (.aload_n 0, 1) := by decide +kernel
theorem dX9_remembers_141 : decode cX9_remembers 141 = .ok (.invokevirtual 101, 3) := by decide +kernel
theorem dX9_remembers_144 : decode cX9_remembers 144 = .ok (.lastore, 1) := by decide +kernel
theorem dX9_remembers_145 : decode cX9_remembers 145 = .ok (.aload_n 0, 1) := by decide +kernel
theorem dX9_remembers_146 : decode cX9_remembers 146 = .ok (.getfield 19, 3) := by decide +kernel
theorem dX9_remembers_149 : decode cX9_remembers 149 = .ok (.iload_n 2, 1) := by decide +kernel
theorem dX9_remembers_150 : decode cX9_remembers 150 = .ok (.iconst 2, 1) := by decide +kernel
theorem dX9_remembers_151 : decode cX9_remembers 151 = .ok (.iadd, 1) := by decide +kernel
theorem dX9_remembers_152 : decode cX9_remembers 152 = .ok (.aload_n 0, 1) := by decide +kernel
theorem dX9_remembers_153 : decode cX9_remembers 153 = .ok (.invokevirtual 105, 3) := by decide +kernel
theorem dX9_remembers_156 : decode cX9_remembers 156 = .ok (.lastore, 1) := by decide +kernel
theorem dX9_remembers_157 : decode cX9_remembers 157 = .ok (.aload_n 0, 1) := by decide +kernel
theorem dX9_remembers_158 : decode cX9_remembers 158 = .ok (.getfield 19, 3) := by decide +kernel
theorem dX9_remembers_161 : decode cX9_remembers 161 = .ok (.bipush 9, 2) := by decide +kernel
theorem dX9_remembers_163 : decode cX9_remembers 163 = .ok (.dup2, 1) := by decide +kernel
theorem dX9_remembers_164 : decode cX9_remembers 164 = .ok (.laload, 1) := by decide +kernel
theorem dX9_remembers_165 : decode cX9_remembers 165 = .ok (.lconst 1, 1) := by decide +kernel
theorem dX9_remembers_166 : decode cX9_remembers 166 = .ok (.ladd, 1) := by decide +kernel
theorem dX9_remembers_167 : decode cX9_remembers 167 = .ok (.lastore, 1) := by decide +kernel
theorem dX9_remembers_168 : decode cX9_remembers 168 = .ok (.return_, 1) := by decide +kernel
theorem dX9_wayFrom_0 : decode cX9_wayFrom 0 = .ok (.aload_n 0, 1) := by decide +kernel
theorem dX9_wayFrom_1 : decode cX9_wayFrom 1 = .ok (.getfield 19, 3) := by decide +kernel
theorem dX9_wayFrom_4 : decode cX9_wayFrom 4 = .ok (.bipush 32, 2) := by decide +kernel
theorem dX9_wayFrom_6 : decode cX9_wayFrom 6 = .ok (.iconst 3, 1) := by decide +kernel
theorem dX9_wayFrom_7 : decode cX9_wayFrom 7 = .ok (.iload_n 1, 1) := by decide +kernel
theorem dX9_wayFrom_8 : decode cX9_wayFrom 8 = .ok (.imul, 1) := by decide +kernel
theorem dX9_wayFrom_9 : decode cX9_wayFrom 9 = .ok (.iadd, 1) := by decide +kernel
theorem dX9_wayFrom_10 : decode cX9_wayFrom 10 = .ok (.laload, 1) := by decide +kernel
theorem dX9_wayFrom_11 : decode cX9_wayFrom 11 = .ok (.ldc2_w 120, 3) := by decide +kernel
theorem dX9_wayFrom_14 : decode cX9_wayFrom 14 = .ok (.land, 1) := by decide +kernel
theorem dX9_wayFrom_15 : decode cX9_wayFrom 15 = .ok (.l2i, 1) := by decide +kernel
theorem dX9_wayFrom_16 : decode cX9_wayFrom 16 = .ok (.ireturn, 1) := by decide +kernel
theorem dX9_wayTo_0 : decode cX9_wayTo 0 = .ok (.aload_n 0, 1) := by decide +kernel
theorem dX9_wayTo_1 : decode cX9_wayTo 1 = .ok (.getfield 19, 3) := by decide +kernel
theorem dX9_wayTo_4 : decode cX9_wayTo 4 = .ok (.bipush 32, 2) := by decide +kernel
theorem dX9_wayTo_6 : decode cX9_wayTo 6 = .ok (.iconst 3, 1) := by decide +kernel
theorem dX9_wayTo_7 : decode cX9_wayTo 7 = .ok (.iload_n 1, 1) := by decide +kernel
theorem dX9_wayTo_8 : decode cX9_wayTo 8 = .ok (.imul, 1) := by decide +kernel
theorem dX9_wayTo_9 : decode cX9_wayTo 9 = .ok (.iadd, 1) := by decide +kernel
theorem dX9_wayTo_10 : decode cX9_wayTo 10 = .ok (.laload, 1) := by decide +kernel
theorem dX9_wayTo_11 : decode cX9_wayTo 11 = .ok (.iconst 3, 1) := by decide +kernel
theorem dX9_wayTo_12 : decode cX9_wayTo 12 = .ok (.lshr, 1) := by decide +kernel
theorem dX9_wayTo_13 : decode cX9_wayTo 13 = .ok (.ldc2_w 120, 3) := by decide +kernel
theorem dX9_wayTo_16 : decode cX9_wayTo 16 = .ok (.land, 1) := by decide +kernel
theorem dX9_wayTo_17 : decode cX9_wayTo 17 = .ok (.l2i, 1) := by decide +kernel
theorem dX9_wayTo_18 : decode cX9_wayTo 18 = .ok (.ireturn, 1) := by decide +kernel
theorem dX9_hears_0 : decode cX9_hears 0 = .ok (.iconst 0, 1) := by decide +kernel
theorem dX9_hears_1 : decode cX9_hears 1 = .ok (.istore_n 1, 1) := by decide +kernel
theorem dX9_hears_2 : decode cX9_hears 2 = .ok (.iload_n 1, 1) := by decide +kernel
theorem dX9_hears_3 : decode cX9_hears 3 = .ok (.aload_n 0, 1) := by decide +kernel
theorem dX9_hears_4 : decode cX9_hears 4 = .ok (.getfield 74, 3) := by decide +kernel
theorem dX9_hears_7 : decode cX9_hears 7 = .ok (.if_icmp .ge 106, 3) := by decide +kernel
theorem dX9_hears_10 : decode cX9_hears 10 = .ok (.aload_n 0, 1) := by decide +kernel
theorem dX9_hears_11 : decode cX9_hears 11 = .ok (.getfield 19, 3) := by decide +kernel
theorem dX9_hears_14 : decode cX9_hears 14 = .ok (.bipush 26, 2) := by decide +kernel
theorem dX9_hears_16 : decode cX9_hears 16 = .ok (.iload_n 1, 1) := by decide +kernel
theorem dX9_hears_17 : decode cX9_hears 17 = .ok (.iadd, 1) := by decide +kernel
theorem dX9_hears_18 : decode cX9_hears 18 = .ok (.laload, 1) := by decide +kernel
theorem dX9_hears_19 : decode cX9_hears 19 = .ok (.aload_n 0, 1) := by decide +kernel
theorem dX9_hears_20 : decode cX9_hears 20 = .ok (.getfield 19, 3) := by decide +kernel
theorem dX9_hears_23 : decode cX9_hears 23 = .ok (.iconst 2, 1) := by decide +kernel
theorem dX9_hears_24 : decode cX9_hears 24 = .ok (.laload, 1) := by decide +kernel
theorem dX9_hears_25 : decode cX9_hears 25 = .ok (.lcmp, 1) := by decide +kernel
theorem dX9_hears_26 : decode cX9_hears 26 = .ok (.ifCond .ne 81, 3) := by decide +kernel
theorem dX9_hears_29 : decode cX9_hears 29 = .ok (.aload_n 0, 1) := by decide +kernel
theorem dX9_hears_30 : decode cX9_hears 30 = .ok (.getfield 19, 3) := by decide +kernel
theorem dX9_hears_33 : decode cX9_hears 33 = .ok (.bipush 7, 2) := by decide +kernel
theorem dX9_hears_35 : decode cX9_hears 35 = .ok (.laload, 1) := by decide +kernel
theorem dX9_hears_36 : decode cX9_hears 36 = .ok (.iload_n 1, 1) := by decide +kernel
theorem dX9_hears_37 : decode cX9_hears 37 = .ok (.invokestatic 85, 3) := by decide +kernel
theorem dX9_hears_40 : decode cX9_hears 40 = .ok (.ifCond .ne 67, 3) := by decide +kernel
theorem dX9_hears_43 : decode cX9_hears 43 = .ok (.aload_n 0, 1) := by decide +kernel
theorem dX9_hears_44 : decode cX9_hears 44 = .ok (.getfield 19, 3) := by decide +kernel
theorem dX9_hears_47 : decode cX9_hears 47 = .ok (.bipush 7, 2) := by decide +kernel
theorem dX9_hears_49 : decode cX9_hears 49 = .ok (.dup2, 1) := by decide +kernel
theorem dX9_hears_50 : decode cX9_hears 50 = .ok (.laload, 1) := by decide +kernel
theorem dX9_hears_51 : decode cX9_hears 51 = .ok (.lconst 1, 1) := by decide +kernel
theorem dX9_hears_52 : decode cX9_hears 52 = .ok (.iload_n 1, 1) := by decide +kernel
theorem dX9_hears_53 : decode cX9_hears 53 = .ok (.lshl, 1) := by decide +kernel
theorem dX9_hears_54 : decode cX9_hears 54 = .ok (.lor, 1) := by decide +kernel
theorem dX9_hears_55 : decode cX9_hears 55 = .ok (.lastore, 1) := by decide +kernel
theorem dX9_hears_56 : decode cX9_hears 56 = .ok (.aload_n 0, 1) := by decide +kernel
theorem dX9_hears_57 : decode cX9_hears 57 = .ok (.getfield 19, 3) := by decide +kernel
theorem dX9_hears_60 : decode cX9_hears 60 = .ok (.bipush 8, 2) := by decide +kernel
theorem dX9_hears_62 : decode cX9_hears 62 = .ok (.dup2, 1) := by decide +kernel
theorem dX9_hears_63 : decode cX9_hears 63 = .ok (.laload, 1) := by decide +kernel
theorem dX9_hears_64 : decode cX9_hears 64 = .ok (.aload_n 0, 1) := by decide +kernel
theorem dX9_hears_65 : decode cX9_hears 65 = .ok (.getfield 16, 3) := by decide +kernel
theorem dX9_hears_68 : decode cX9_hears 68 = .ok (.iload_n 1, 1) := by decide +kernel
theorem dX9_hears_69 : decode cX9_hears 69 = .ok (.iaload, 1) := by decide +kernel
theorem dX9_hears_70 : decode cX9_hears 70 = .ok (.i2l, 1) := by decide +kernel
theorem dX9_hears_71 : decode cX9_hears 71 = .ok (.ladd, 1) := by decide +kernel
theorem dX9_hears_72 : decode cX9_hears 72 = .ok (.lastore, 1) := by decide +kernel
theorem dX9_hears_73 : decode cX9_hears 73 = .ok (.aload_n 0, 1) := by decide +kernel
theorem dX9_hears_74 : decode cX9_hears 74 = .ok (.getfield 19, 3) := by decide +kernel
theorem dX9_hears_77 : decode cX9_hears 77 = .ok (.bipush 8, 2) := by decide +kernel
theorem dX9_hears_79 : decode cX9_hears 79 = .ok (.aload_n 0, 1) := by decide +kernel
theorem dX9_hears_80 : decode cX9_hears 80 = .ok (.getfield 19, 3) := by decide +kernel
theorem dX9_hears_83 : decode cX9_hears 83 = .ok (.bipush 8, 2) := by decide +kernel
theorem dX9_hears_85 : decode cX9_hears 85 = .ok (.laload, 1) := by decide +kernel
theorem dX9_hears_86 : decode cX9_hears 86 = .ok (.ldc2_w 122, 3) := by decide +kernel
theorem dX9_hears_89 : decode cX9_hears 89 = .ok (.lcmp, 1) := by decide +kernel
theorem dX9_hears_90 : decode cX9_hears 90 = .ok (.ifCond .le 9, 3) := by decide +kernel
theorem dX9_hears_93 : decode cX9_hears 93 = .ok (.ldc2_w 122, 3) := by decide +kernel
theorem dX9_hears_96 : decode cX9_hears 96 = .ok (.goto 10, 3) := by decide +kernel
theorem dX9_hears_99 : decode cX9_hears 99 = .ok (.aload_n 0, 1) := by decide +kernel
theorem dX9_hears_100 : decode cX9_hears 100 = .ok (.getfield 19, 3) := by decide +kernel
theorem dX9_hears_103 : decode cX9_hears 103 = .ok (.bipush 8, 2) := by decide +kernel
theorem dX9_hears_105 : decode cX9_hears 105 = .ok (.laload, 1) := by decide +kernel
theorem dX9_hears_106 : decode cX9_hears 106 = .ok (.lastore, 1) := by decide +kernel
theorem dX9_hears_107 : decode cX9_hears 107 = .ok (.iinc 1 1, 3) := by decide +kernel
theorem dX9_hears_110 : decode cX9_hears 110 = .ok (.goto (-108), 3) := by decide +kernel
theorem dX9_hears_113 : decode cX9_hears 113 = .ok (.return_, 1) := by decide +kernel
theorem dX9_goesBy_0 : decode cX9_goesBy 0 = .ok (.aload_n 0, 1) := by decide +kernel
theorem dX9_goesBy_1 : decode cX9_goesBy 1 = .ok (.getfield 19, 3) := by decide +kernel
theorem dX9_goesBy_4 : decode cX9_goesBy 4 = .ok (.bipush 18, 2) := by decide +kernel
theorem dX9_goesBy_6 : decode cX9_goesBy 6 = .ok (.aload_n 0, 1) := by decide +kernel
theorem dX9_goesBy_7 : decode cX9_goesBy 7 = .ok (.iconst 2, 1) := by decide +kernel
theorem dX9_goesBy_8 : decode cX9_goesBy 8 = .ok (.invokevirtual 97, 3) := by decide +kernel
theorem dX9_goesBy_11 : decode cX9_goesBy 11 = .ok (.iadd, 1) := by decide +kernel
theorem dX9_goesBy_12 : decode cX9_goesBy 12 = .ok (.dup2, 1) := by decide +kernel
theorem dX9_goesBy_13 : decode cX9_goesBy 13 = .ok (.laload, 1) := by decide +kernel
theorem dX9_goesBy_14 : decode cX9_goesBy 14 = .ok (.lconst 1, 1) := by decide +kernel
theorem dX9_goesBy_15 : decode cX9_goesBy 15 = .ok (.ladd, 1) := by decide +kernel
theorem dX9_goesBy_16 : decode cX9_goesBy 16 = .ok (.lastore, 1) := by decide +kernel
theorem dX9_goesBy_17 : decode cX9_goesBy 17 = .ok (.aload_n 0, 1) := by decide +kernel
theorem dX9_goesBy_18 : decode cX9_goesBy 18 = .ok (.invokevirtual 124, 3) := by decide +kernel
theorem dX9_goesBy_21 : decode cX9_goesBy 21 = .ok (.aload_n 0, 1) := by decide +kernel
theorem dX9_goesBy_22 : decode cX9_goesBy 22 = .ok (.aload_n 0, 1) := by decide +kernel
theorem dX9_goesBy_23 : decode cX9_goesBy 23 = .ok (.iconst 0, 1) := by decide +kernel
theorem dX9_goesBy_24 : decode cX9_goesBy 24 = .ok (.invokevirtual 97, 3) := by decide +kernel
theorem dX9_goesBy_27 : decode cX9_goesBy 27 = .ok (.aload_n 0, 1) := by decide +kernel
theorem dX9_goesBy_28 : decode cX9_goesBy 28 = .ok (.getfield 19, 3) := by decide +kernel
theorem dX9_goesBy_31 : decode cX9_goesBy 31 = .ok (.iconst 4, 1) := by decide +kernel
theorem dX9_goesBy_32 : decode cX9_goesBy 32 = .ok (.laload, 1) := by decide +kernel
theorem dX9_goesBy_33 : decode cX9_goesBy 33 = .ok (.invokevirtual 127, 3) := by decide +kernel
theorem dX9_goesBy_36 : decode cX9_goesBy 36 = .ok (.istore_n 1, 1) := by decide +kernel
theorem dX9_goesBy_37 : decode cX9_goesBy 37 = .ok (.iload_n 1, 1) := by decide +kernel
theorem dX9_goesBy_38 : decode cX9_goesBy 38 = .ok (.aload_n 0, 1) := by decide +kernel
theorem dX9_goesBy_39 : decode cX9_goesBy 39 = .ok (.iconst 2, 1) := by decide +kernel
theorem dX9_goesBy_40 : decode cX9_goesBy 40 = .ok (.invokevirtual 97, 3) := by decide +kernel
theorem dX9_goesBy_43 : decode cX9_goesBy 43 = .ok (.if_icmp .eq 43, 3) := by decide +kernel
theorem dX9_goesBy_46 : decode cX9_goesBy 46 = .ok (.aload_n 0, 1) := by decide +kernel
theorem dX9_goesBy_47 : decode cX9_goesBy 47 = .ok (.iload_n 1, 1) := by decide +kernel
theorem dX9_goesBy_48 : decode cX9_goesBy 48 = .ok (.invokevirtual 131, 3) := by decide +kernel
theorem dX9_goesBy_51 : decode cX9_goesBy 51 = .ok (.aload_n 0, 1) := by decide +kernel
theorem dX9_goesBy_52 : decode cX9_goesBy 52 = .ok (.getfield 19, 3) := by decide +kernel
theorem dX9_goesBy_55 : decode cX9_goesBy 55 = .ok (.iconst 2, 1) := by decide +kernel
theorem dX9_goesBy_56 : decode cX9_goesBy 56 = .ok (.iload_n 1, 1) := by decide +kernel
theorem dX9_goesBy_57 : decode cX9_goesBy 57 = .ok (.i2l, 1) := by decide +kernel
theorem dX9_goesBy_58 : decode cX9_goesBy 58 = .ok (.lastore, 1) := by decide +kernel
theorem dX9_goesBy_59 : decode cX9_goesBy 59 = .ok (.aload_n 0, 1) := by decide +kernel
theorem dX9_goesBy_60 : decode cX9_goesBy 60 = .ok (.getfield 19, 3) := by decide +kernel
theorem dX9_goesBy_63 : decode cX9_goesBy 63 = .ok (.iconst 3, 1) := by decide +kernel
theorem dX9_goesBy_64 : decode cX9_goesBy 64 = .ok (.dup2, 1) := by decide +kernel
theorem dX9_goesBy_65 : decode cX9_goesBy 65 = .ok (.laload, 1) := by decide +kernel
theorem dX9_goesBy_66 : decode cX9_goesBy 66 = .ok (.aload_n 0, 1) := by decide +kernel
theorem dX9_goesBy_67 : decode cX9_goesBy 67 = .ok (.getfield 19, 3) := by decide +kernel
theorem dX9_goesBy_70 : decode cX9_goesBy 70 = .ok (.iconst 3, 1) := by decide +kernel
theorem dX9_goesBy_71 : decode cX9_goesBy 71 = .ok (.laload, 1) := by decide +kernel
theorem dX9_goesBy_72 : decode cX9_goesBy 72 = .ok (.ldc2_w 135, 3) := by decide +kernel
theorem dX9_goesBy_75 : decode cX9_goesBy 75 = .ok (.lcmp, 1) := by decide +kernel
theorem dX9_goesBy_76 : decode cX9_goesBy 76 = .ok (.ifCond .ge 7, 3) := by decide +kernel
theorem dX9_goesBy_79 : decode cX9_goesBy 79 = .ok (.lconst 1, 1) := by decide +kernel
theorem dX9_goesBy_80 : decode cX9_goesBy 80 = .ok (.goto 4, 3) := by decide +kernel
theorem dX9_goesBy_83 : decode cX9_goesBy 83 = .ok (.lconst 0, 1) := by decide +kernel
theorem dX9_goesBy_84 : decode cX9_goesBy 84 = .ok (.ladd, 1) := by decide +kernel
theorem dX9_goesBy_85 : decode cX9_goesBy 85 = .ok (.lastore, 1) := by decide +kernel
theorem dX9_goesBy_86 : decode cX9_goesBy 86 = .ok (.aload_n 0, 1) := by decide +kernel
theorem dX9_goesBy_87 : decode cX9_goesBy 87 = .ok (.getfield 19, 3) := by decide +kernel
theorem dX9_goesBy_90 : decode cX9_goesBy 90 = .ok (.iconst 1, 1) := by decide +kernel
theorem dX9_goesBy_91 : decode cX9_goesBy 91 = .ok (.dup2, 1) := by decide +kernel
theorem dX9_goesBy_92 : decode cX9_goesBy 92 = .ok (.laload, 1) := by decide +kernel
theorem dX9_goesBy_93 : decode cX9_goesBy 93 = .ok (.lconst 1, 1) := by decide +kernel
theorem dX9_goesBy_94 : decode cX9_goesBy 94 = .ok (.ladd, 1) := by decide +kernel
theorem dX9_goesBy_95 : decode cX9_goesBy 95 = .ok (.lastore, 1) := by decide +kernel
theorem dX9_goesBy_96 : decode cX9_goesBy 96 = .ok (.return_, 1) := by decide +kernel
theorem dX9_goesOn_0 : decode cX9_goesOn 0 = .ok (.iconst 0, 1) := by decide +kernel
theorem dX9_goesOn_1 : decode cX9_goesOn 1 = .ok (.istore_n 2, 1) := by decide +kernel
theorem dX9_goesOn_2 : decode cX9_goesOn 2 = .ok (.iload_n 2, 1) := by decide +kernel
theorem dX9_goesOn_3 : decode cX9_goesOn 3 = .ok (.iload_n 1, 1) := by decide +kernel
theorem dX9_goesOn_4 : decode cX9_goesOn 4 = .ok (.if_icmp .ge 13, 3) := by decide +kernel
theorem dX9_goesOn_7 : decode cX9_goesOn 7 = .ok (.aload_n 0, 1) := by decide +kernel
theorem dX9_goesOn_8 : decode cX9_goesOn 8 = .ok (.invokevirtual 137, 3) := by decide +kernel
theorem dX9_goesOn_11 : decode cX9_goesOn 11 = .ok (.iinc 2 1, 3) := by decide +kernel
theorem dX9_goesOn_14 : decode cX9_goesOn 14 = .ok (.goto (-12), 3) := by decide +kernel
theorem dX9_goesOn_17 : decode cX9_goesOn 17 = .ok (.return_, 1) := by decide +kernel
theorem dX9_feed_0 : decode cX9_feed 0 = .ok (.iload_n 1, 1) := by decide +kernel
theorem dX9_feed_1 : decode cX9_feed 1 = .ok (.i2l, 1) := by decide +kernel
theorem dX9_feed_2 : decode cX9_feed 2 = .ok (.lconst 0, 1) := by decide +kernel
theorem dX9_feed_3 : decode cX9_feed 3 = .ok (.ldc2_w 140, 3) := by decide +kernel
theorem dX9_feed_6 : decode cX9_feed 6 = .ok (.invokestatic 67, 3) := by decide +kernel
theorem dX9_feed_9 : decode cX9_feed 9 = .ok (.ifCond .ne 6, 3) := by decide +kernel
theorem dX9_feed_12 : decode cX9_feed 12 = .ok (.ldc 142, 2) := by decide +kernel
theorem dX9_feed_14 : decode cX9_feed 14 = .ok (.ireturn, 1) := by decide +kernel
theorem dX9_feed_15 : decode cX9_feed 15 = .ok (.aload_n 0, 1) := by decide +kernel
theorem dX9_feed_16 : decode cX9_feed 16 = .ok (.getfield 143, 3) := by decide +kernel
theorem dX9_feed_19 : decode cX9_feed 19 = .ok (.sipush 240, 3) := by decide +kernel
theorem dX9_feed_22 : decode cX9_feed 22 = .ok (.if_icmp .ne 6, 3) := by decide +kernel
theorem dX9_feed_25 : decode cX9_feed 25 = .ok (.ldc 146, 2) := by decide +kernel
theorem dX9_feed_27 : decode cX9_feed 27 = .ok (.ireturn, 1) := by decide +kernel
theorem dX9_feed_28 : decode cX9_feed 28 = .ok (.aload_n 0, 1) := by decide +kernel
theorem dX9_feed_29 : decode cX9_feed 29 = .ok (.getfield 23, 3) := by decide +kernel
theorem dX9_feed_32 : decode cX9_feed 32 = .ok (.aload_n 0, 1) := by decide +kernel
theorem dX9_feed_33 : decode cX9_feed 33 = .ok (.getfield 143, 3) := by decide +kernel
theorem dX9_feed_36 : decode cX9_feed 36 = .ok (.iload_n 1, 1) := by decide +kernel
theorem dX9_feed_37 : decode cX9_feed 37 = .ok (.iastore, 1) := by decide +kernel
theorem dX9_feed_38 : decode cX9_feed 38 = .ok (.aload_n 0, 1) := by decide +kernel
theorem dX9_feed_39 : decode cX9_feed 39 = .ok (.dup, 1) := by decide +kernel
theorem dX9_feed_40 : decode cX9_feed 40 = .ok (.getfield 143, 3) := by decide +kernel
theorem dX9_feed_43 : decode cX9_feed 43 = .ok (.iconst 1, 1) := by decide +kernel
theorem dX9_feed_44 : decode cX9_feed 44 = .ok (.iadd, 1) := by decide +kernel
theorem dX9_feed_45 : decode cX9_feed 45 = .ok (.putfield 143, 3) := by decide +kernel
theorem dX9_feed_48 : decode cX9_feed 48 = .ok (.aload_n 0, 1) := by decide +kernel
theorem dX9_feed_49 : decode cX9_feed 49 = .ok (.getfield 143, 3) := by decide +kernel
theorem dX9_feed_52 : decode cX9_feed 52 = .ok (.ireturn, 1) := by decide +kernel
theorem dX9_here_0 : decode cX9_here 0 = .ok (.aload_n 0, 1) := by decide +kernel
theorem dX9_here_1 : decode cX9_here 1 = .ok (.getfield 147, 3) := by decide +kernel
theorem dX9_here_4 : decode cX9_here 4 = .ok (.aload_n 0, 1) := by decide +kernel
theorem dX9_here_5 : decode cX9_here 5 = .ok (.getfield 143, 3) := by decide +kernel
theorem dX9_here_8 : decode cX9_here 8 = .ok (.if_icmp .ge 30, 3) := by decide +kernel
theorem dX9_here_11 : decode cX9_here 11 = .ok (.aload_n 0, 1) := by decide +kernel
theorem dX9_here_12 : decode cX9_here 12 = .ok (.getfield 23, 3) := by decide +kernel
theorem dX9_here_15 : decode cX9_here 15 = .ok (.aload_n 0, 1) := by decide +kernel
theorem dX9_here_16 : decode cX9_here 16 = .ok (.getfield 147, 3) := by decide +kernel
theorem dX9_here_19 : decode cX9_here 19 = .ok (.iaload, 1) := by decide +kernel
theorem dX9_here_20 : decode cX9_here 20 = .ok (.bipush 32, 2) := by decide +kernel
theorem dX9_here_22 : decode cX9_here 22 = .ok (.if_icmp .ne 16, 3) := by decide +kernel
theorem dX9_here_25 : decode cX9_here 25 = .ok (.aload_n 0, 1) := by decide +kernel
theorem dX9_here_26 : decode cX9_here 26 = .ok (.dup, 1) := by decide +kernel
theorem dX9_here_27 : decode cX9_here 27 = .ok (.getfield 147, 3) := by decide +kernel
theorem dX9_here_30 : decode cX9_here 30 = .ok (.iconst 1, 1) := by decide +kernel
theorem dX9_here_31 : decode cX9_here 31 = .ok (.iadd, 1) := by decide +kernel
theorem dX9_here_32 : decode cX9_here 32 = .ok (.putfield 147, 3) := by decide +kernel
theorem dX9_here_35 : decode cX9_here 35 = .ok (.goto (-35), 3) := by decide +kernel
theorem dX9_here_38 : decode cX9_here 38 = .ok (.aload_n 0, 1) := by decide +kernel
theorem dX9_here_39 : decode cX9_here 39 = .ok (.getfield 147, 3) := by decide +kernel
theorem dX9_here_42 : decode cX9_here 42 = .ok (.aload_n 0, 1) := by decide +kernel
theorem dX9_here_43 : decode cX9_here 43 = .ok (.getfield 143, 3) := by decide +kernel
theorem dX9_here_46 : decode cX9_here 46 = .ok (.if_icmp .ge 15, 3) := by decide +kernel
theorem dX9_here_49 : decode cX9_here 49 = .ok (.aload_n 0, 1) := by decide +kernel
theorem dX9_here_50 : decode cX9_here 50 = .ok (.getfield 23, 3) := by decide +kernel
theorem dX9_here_53 : decode cX9_here 53 = .ok (.aload_n 0, 1) := by decide +kernel
theorem dX9_here_54 : decode cX9_here 54 = .ok (.getfield 147, 3) := by decide +kernel
theorem dX9_here_57 : decode cX9_here 57 = .ok (.iaload, 1) := by decide +kernel
theorem dX9_here_58 : decode cX9_here 58 = .ok (.goto 4, 3) := by decide +kernel
theorem dX9_here_61 : decode cX9_here 61 = .ok (.iconst (-1), 1) := by decide +kernel
theorem dX9_here_62 : decode cX9_here 62 = .ok (.ireturn, 1) := by decide +kernel
theorem dX9_isFigure_0 : decode cX9_isFigure 0 = .ok (.iload_n 0, 1) := by decide +kernel
theorem dX9_isFigure_1 : decode cX9_isFigure 1 = .ok (.i2l, 1) := by decide +kernel
theorem dX9_isFigure_2 : decode cX9_isFigure 2 = .ok (.ldc2_w 150, 3) := by decide +kernel
theorem dX9_isFigure_5 : decode cX9_isFigure 5 = .ok (.ldc2_w 152, 3) := by decide +kernel
theorem dX9_isFigure_8 : decode cX9_isFigure 8 = .ok (.invokestatic 67, 3) := by decide +kernel
theorem dX9_isFigure_11 : decode cX9_isFigure 11 = .ok (.ireturn, 1) := by decide +kernel
theorem dX9_faults_0 : decode cX9_faults 0 = .ok (.aload_n 0, 1) := by decide +kernel
theorem dX9_faults_1 : decode cX9_faults 1 = .ok (.aload_n 0, 1) := by decide +kernel
theorem dX9_faults_2 : decode cX9_faults 2 = .ok (.getfield 154, 3) := by decide +kernel
theorem dX9_faults_5 : decode cX9_faults 5 = .ok (.ifCond .ne 7, 3) := by decide +kernel
theorem dX9_faults_8 : decode cX9_faults 8 = .ok (.iload_n 1, 1) := by decide +kernel
theorem dX9_faults_9 : decode cX9_faults 9 = .ok (.goto 7, 3) := by decide +kernel
theorem dX9_faults_12 : decode cX9_faults 12 = .ok (.aload_n 0, 1) := by decide +kernel
theorem dX9_faults_13 : decode cX9_faults 13 = .ok (.getfield 154, 3) := by decide +kernel
theorem dX9_faults_16 : decode cX9_faults 16 = .ok (.putfield 154, 3) := by decide +kernel
theorem dX9_faults_19 : decode cX9_faults 19 = .ok (.return_, 1) := by decide +kernel
theorem dX9_number_0 : decode cX9_number 0 = .ok (.aload_n 0, 1) := by decide +kernel
theorem dX9_number_1 : decode cX9_number 1 = .ok (.getfield 154, 3) := by decide +kernel
theorem dX9_number_4 : decode cX9_number 4 = .ok (.ifCond .le 5, 3) := by decide +kernel
theorem dX9_number_7 : decode cX9_number 7 = .ok (.iconst 0, 1) := by decide +kernel
theorem dX9_number_8 : decode cX9_number 8 = .ok (.ireturn, 1) := by decide +kernel
theorem dX9_number_9 : decode cX9_number 9 = .ok (.aload_n 0, 1) := by decide +kernel
theorem dX9_number_10 : decode cX9_number 10 = .ok (.invokevirtual 157, 3) := by decide +kernel
theorem dX9_number_13 : decode cX9_number 13 = .ok (.istore_n 2, 1) := by decide +kernel
theorem dX9_number_14 : decode cX9_number 14 = .ok (.iload_n 2, 1) := by decide +kernel
theorem dX9_number_15 : decode cX9_number 15 = .ok (.invokestatic 161, 3) := by decide +kernel
theorem dX9_number_18 : decode cX9_number 18 = .ok (.ifCond .ne 10, 3) := by decide +kernel
theorem dX9_number_21 : decode cX9_number 21 = .ok (.aload_n 0, 1) := by decide +kernel
theorem dX9_number_22 : decode cX9_number 22 = .ok (.iconst 1, 1) := by decide +kernel
theorem dX9_number_23 : decode cX9_number 23 = .ok (.invokevirtual 165, 3) := by decide +kernel
theorem dX9_number_26 : decode cX9_number 26 = .ok (.iconst 0, 1) := by decide +kernel
theorem dX9_number_27 : decode cX9_number 27 = .ok (.ireturn, 1) := by decide +kernel
theorem dX9_number_28 : decode cX9_number 28 = .ok (.aload_n 0, 1) := by decide +kernel
theorem dX9_number_29 : decode cX9_number 29 = .ok (.getfield 147, 3) := by decide +kernel
theorem dX9_number_32 : decode cX9_number 32 = .ok (.istore_n 3, 1) := by decide +kernel
theorem dX9_number_33 : decode cX9_number 33 = .ok (.iconst 0, 1) := by decide +kernel
theorem dX9_number_34 : decode cX9_number 34 = .ok (.istore 4, 2) := by decide +kernel
theorem dX9_number_36 : decode cX9_number 36 = .ok (.aload_n 0, 1) := by decide +kernel
theorem dX9_number_37 : decode cX9_number 37 = .ok (.getfield 147, 3) := by decide +kernel
theorem dX9_number_40 : decode cX9_number 40 = .ok (.aload_n 0, 1) := by decide +kernel
theorem dX9_number_41 : decode cX9_number 41 = .ok (.getfield 143, 3) := by decide +kernel
theorem dX9_number_44 : decode cX9_number 44 = .ok (.if_icmp .ge 66, 3) := by decide +kernel
theorem dX9_number_47 : decode cX9_number 47 = .ok (.aload_n 0, 1) := by decide +kernel
theorem dX9_number_48 : decode cX9_number 48 = .ok (.getfield 23, 3) := by decide +kernel
theorem dX9_number_51 : decode cX9_number 51 = .ok (.aload_n 0, 1) := by decide +kernel
theorem dX9_number_52 : decode cX9_number 52 = .ok (.getfield 147, 3) := by decide +kernel
theorem dX9_number_55 : decode cX9_number 55 = .ok (.iaload, 1) := by decide +kernel
theorem dX9_number_56 : decode cX9_number 56 = .ok (.invokestatic 161, 3) := by decide +kernel
theorem dX9_number_59 : decode cX9_number 59 = .ok (.ifCond .eq 51, 3) := by decide +kernel
theorem dX9_number_62 : decode cX9_number 62 = .ok (.aload_n 0, 1) := by decide +kernel
theorem dX9_number_63 : decode cX9_number 63 = .ok (.getfield 147, 3) := by decide +kernel
theorem dX9_number_66 : decode cX9_number 66 = .ok (.iload_n 3, 1) := by decide +kernel
theorem dX9_number_67 : decode cX9_number 67 = .ok (.isub, 1) := by decide +kernel
theorem dX9_number_68 : decode cX9_number 68 = .ok (.iconst 4, 1) := by decide +kernel
theorem dX9_number_69 : decode cX9_number 69 = .ok (.if_icmp .ge 24, 3) := by decide +kernel
theorem dX9_number_72 : decode cX9_number 72 = .ok (.bipush 10, 2) := by decide +kernel
theorem dX9_number_74 : decode cX9_number 74 = .ok (.iload 4, 2) := by decide +kernel
theorem dX9_number_76 : decode cX9_number 76 = .ok (.imul, 1) := by decide +kernel
theorem dX9_number_77 : decode cX9_number 77 = .ok (.aload_n 0, 1) := by decide +kernel
theorem dX9_number_78 : decode cX9_number 78 = .ok (.getfield 23, 3) := by decide +kernel
theorem dX9_number_81 : decode cX9_number 81 = .ok (.aload_n 0, 1) := by decide +kernel
theorem dX9_number_82 : decode cX9_number 82 = .ok (.getfield 147, 3) := by decide +kernel
theorem dX9_number_85 : decode cX9_number 85 = .ok (.iaload, 1) := by decide +kernel
theorem dX9_number_86 : decode cX9_number 86 = .ok (.iadd, 1) := by decide +kernel
theorem dX9_number_87 : decode cX9_number 87 = .ok (.bipush 48, 2) := by decide +kernel
theorem dX9_number_89 : decode cX9_number 89 = .ok (.isub, 1) := by decide +kernel
theorem dX9_number_90 : decode cX9_number 90 = .ok (.goto 5, 3) := by decide +kernel
theorem dX9_number_93 : decode cX9_number 93 = .ok (.iload 4, 2) := by decide +kernel
theorem dX9_number_95 : decode cX9_number 95 = .ok (.istore 4, 2) := by decide +kernel
theorem dX9_number_97 : decode cX9_number 97 = .ok (.aload_n 0, 1) := by decide +kernel
theorem dX9_number_98 : decode cX9_number 98 = .ok (.dup, 1) := by decide +kernel
theorem dX9_number_99 : decode cX9_number 99 = .ok (.getfield 147, 3) := by decide +kernel
theorem dX9_number_102 : decode cX9_number 102 = .ok (.iconst 1, 1) := by decide +kernel
theorem dX9_number_103 : decode cX9_number 103 = .ok (.iadd, 1) := by decide +kernel
theorem dX9_number_104 : decode cX9_number 104 = .ok (.putfield 147, 3) := by decide +kernel
theorem dX9_number_107 : decode cX9_number 107 = .ok (.goto (-71), 3) := by decide +kernel
theorem dX9_number_110 : decode cX9_number 110 = .ok (.aload_n 0, 1) := by decide +kernel
theorem dX9_number_111 : decode cX9_number 111 = .ok (.getfield 147, 3) := by decide +kernel
theorem dX9_number_114 : decode cX9_number 114 = .ok (.iload_n 3, 1) := by decide +kernel
theorem dX9_number_115 : decode cX9_number 115 = .ok (.isub, 1) := by decide +kernel
theorem dX9_number_116 : decode cX9_number 116 = .ok (.iconst 3, 1) := by decide +kernel
theorem dX9_number_117 : decode cX9_number 117 = .ok (.if_icmp .gt 9, 3) := by decide +kernel
theorem dX9_number_120 : decode cX9_number 120 = .ok (.iload 4, 2) := by decide +kernel
theorem dX9_number_122 : decode cX9_number 122 = .ok (.iload_n 1, 1) := by decide +kernel
theorem dX9_number_123 : decode cX9_number 123 = .ok (.if_icmp .le 13, 3) := by decide +kernel
theorem dX9_number_126 : decode cX9_number 126 = .ok (.aload_n 0, 1) := by decide +kernel
theorem dX9_number_127 : decode cX9_number 127 = .ok (.iconst 2, 1) := by decide +kernel
theorem dX9_number_128 : decode cX9_number 128 = .ok (.invokevirtual 165, 3) := by decide +kernel
theorem dX9_number_131 : decode cX9_number 131 = .ok (.aload_n 0, 1) := by decide +kernel
theorem dX9_number_132 : decode cX9_number 132 = .ok (.iload_n 3, 1) := by decide +kernel
theorem dX9_number_133 : decode cX9_number 133 = .ok (.putfield 147, 3) := by decide +kernel
theorem dX9_number_136 : decode cX9_number 136 = .ok (.iload 4, 2) := by decide +kernel
theorem dX9_number_138 : decode cX9_number 138 = .ok (.ireturn, 1) := by decide +kernel
theorem dX9_ends_0 : decode cX9_ends 0 = .ok (.aload_n 0, 1) := by decide +kernel
theorem dX9_ends_1 : decode cX9_ends 1 = .ok (.getfield 154, 3) := by decide +kernel
theorem dX9_ends_4 : decode cX9_ends 4 = .ok (.ifCond .ne 17, 3) := by decide +kernel
theorem dX9_ends_7 : decode cX9_ends 7 = .ok (.aload_n 0, 1) := by decide +kernel
theorem dX9_ends_8 : decode cX9_ends 8 = .ok (.invokevirtual 157, 3) := by decide +kernel
theorem dX9_ends_11 : decode cX9_ends 11 = .ok (.bipush 59, 2) := by decide +kernel
theorem dX9_ends_13 : decode cX9_ends 13 = .ok (.if_icmp .eq 8, 3) := by decide +kernel
theorem dX9_ends_16 : decode cX9_ends 16 = .ok (.aload_n 0, 1) := by decide +kernel
theorem dX9_ends_17 : decode cX9_ends 17 = .ok (.iconst 1, 1) := by decide +kernel
theorem dX9_ends_18 : decode cX9_ends 18 = .ok (.invokevirtual 165, 3) := by decide +kernel
theorem dX9_ends_21 : decode cX9_ends 21 = .ok (.aload_n 0, 1) := by decide +kernel
theorem dX9_ends_22 : decode cX9_ends 22 = .ok (.dup, 1) := by decide +kernel
theorem dX9_ends_23 : decode cX9_ends 23 = .ok (.getfield 147, 3) := by decide +kernel
theorem dX9_ends_26 : decode cX9_ends 26 = .ok (.aload_n 0, 1) := by decide +kernel
theorem dX9_ends_27 : decode cX9_ends 27 = .ok (.getfield 154, 3) := by decide +kernel
theorem dX9_ends_30 : decode cX9_ends 30 = .ok (.ifCond .ne 7, 3) := by decide +kernel
theorem dX9_ends_33 : decode cX9_ends 33 = .ok (.iconst 1, 1) := by decide +kernel
theorem dX9_ends_34 : decode cX9_ends 34 = .ok (.goto 4, 3) := by decide +kernel
theorem dX9_ends_37 : decode cX9_ends 37 = .ok (.iconst 0, 1) := by decide +kernel
theorem dX9_ends_38 : decode cX9_ends 38 = .ok (.iadd, 1) := by decide +kernel
theorem dX9_ends_39 : decode cX9_ends 39 = .ok (.putfield 147, 3) := by decide +kernel
theorem dX9_ends_42 : decode cX9_ends 42 = .ok (.return_, 1) := by decide +kernel
theorem dX9_readRule_0 : decode cX9_readRule 0 = .ok (.aload_n 0, 1) := by decide +kernel
theorem dX9_readRule_1 : decode cX9_readRule 1 = .ok (.getfield 26, 3) := by decide +kernel
theorem dX9_readRule_4 : decode cX9_readRule 4 = .ok (.iconst 0, 1) := by decide +kernel
theorem dX9_readRule_5 : decode cX9_readRule 5 = .ok (.iaload, 1) := by decide +kernel
theorem dX9_readRule_6 : decode cX9_readRule 6 = .ok (.iconst (-1), 1) := by decide +kernel
theorem dX9_readRule_7 : decode cX9_readRule 7 = .ok (.if_icmp .eq 9, 3) := by decide +kernel
theorem dX9_readRule_10 : decode cX9_readRule 10 = .ok (.aload_n 0, 1) := by decide +kernel
theorem dX9_readRule_11 : decode cX9_readRule 11 = .ok (.iconst 3, 1) := by decide +kernel
theorem dX9_readRule_12 : decode cX9_readRule 12 = .ok (.invokevirtual 165, 3) := by decide +kernel
theorem dX9_readRule_15 : decode cX9_readRule 15 = .ok (.return_, 1) := by decide +kernel
theorem dX9_readRule_16 : decode cX9_readRule 16 = .ok (.aload_n 0, 1) := by decide +kernel
theorem dX9_readRule_17 : decode cX9_readRule 17 = .ok (.dup, 1) := by decide +kernel
theorem dX9_readRule_18 : decode cX9_readRule 18 = .ok (.getfield 147, 3) := by decide +kernel
theorem dX9_readRule_21 : decode cX9_readRule 21 = .ok (.iconst 1, 1) := by decide +kernel
theorem dX9_readRule_22 : decode cX9_readRule 22 = .ok (.iadd, 1) := by decide +kernel
theorem dX9_readRule_23 : decode cX9_readRule 23 = .ok (.putfield 147, 3) := by decide +kernel
theorem dX9_readRule_26 : decode cX9_readRule 26 = .ok (.aload_n 0, 1) := by decide +kernel
theorem dX9_readRule_27 : decode cX9_readRule 27 = .ok (.bipush 63, 2) := by decide +kernel
theorem dX9_readRule_29 : decode cX9_readRule 29 = .ok (.invokevirtual 168, 3) := by decide +kernel
theorem dX9_readRule_32 : decode cX9_readRule 32 = .ok (.istore_n 1, 1) := by decide +kernel
theorem dX9_readRule_33 : decode cX9_readRule 33 = .ok (.aload_n 0, 1) := by decide +kernel
theorem dX9_readRule_34 : decode cX9_readRule 34 = .ok (.invokevirtual 171, 3) := by decide +kernel
theorem dX9_readRule_37 : decode cX9_readRule 37 = .ok (.aload_n 0, 1) := by decide +kernel
theorem dX9_readRule_38 : decode cX9_readRule 38 = .ok (.getfield 26, 3) := by decide +kernel
theorem dX9_readRule_41 : decode cX9_readRule 41 = .ok (.iconst 0, 1) := by decide +kernel
theorem dX9_readRule_42 : decode cX9_readRule 42 = .ok (.iload_n 1, 1) := by decide +kernel
theorem dX9_readRule_43 : decode cX9_readRule 43 = .ok (.iastore, 1) := by decide +kernel
theorem dX9_readRule_44 : decode cX9_readRule 44 = .ok (.return_, 1) := by decide +kernel
theorem dX9_readRoom_0 : decode cX9_readRoom 0 = .ok (.aload_n 0, 1) := by decide +kernel
theorem dX9_readRoom_1 : decode cX9_readRoom 1 = .ok (.getfield 26, 3) := by decide +kernel
theorem dX9_readRoom_4 : decode cX9_readRoom 4 = .ok (.iconst 1, 1) := by decide +kernel
theorem dX9_readRoom_5 : decode cX9_readRoom 5 = .ok (.iaload, 1) := by decide +kernel
theorem dX9_readRoom_6 : decode cX9_readRoom 6 = .ok (.bipush 8, 2) := by decide +kernel
theorem dX9_readRoom_8 : decode cX9_readRoom 8 = .ok (.if_icmp .ne 9, 3) := by decide +kernel
theorem dX9_readRoom_11 : decode cX9_readRoom 11 = .ok (.aload_n 0, 1) := by decide +kernel
theorem dX9_readRoom_12 : decode cX9_readRoom 12 = .ok (.iconst 3, 1) := by decide +kernel
theorem dX9_readRoom_13 : decode cX9_readRoom 13 = .ok (.invokevirtual 165, 3) := by decide +kernel
theorem dX9_readRoom_16 : decode cX9_readRoom 16 = .ok (.return_, 1) := by decide +kernel
theorem dX9_readRoom_17 : decode cX9_readRoom 17 = .ok (.aload_n 0, 1) := by decide +kernel
theorem dX9_readRoom_18 : decode cX9_readRoom 18 = .ok (.dup, 1) := by decide +kernel
theorem dX9_readRoom_19 : decode cX9_readRoom 19 = .ok (.getfield 147, 3) := by decide +kernel
theorem dX9_readRoom_22 : decode cX9_readRoom 22 = .ok (.iconst 1, 1) := by decide +kernel
theorem dX9_readRoom_23 : decode cX9_readRoom 23 = .ok (.iadd, 1) := by decide +kernel
theorem dX9_readRoom_24 : decode cX9_readRoom 24 = .ok (.putfield 147, 3) := by decide +kernel
theorem dX9_readRoom_27 : decode cX9_readRoom 27 = .ok (.aload_n 0, 1) := by decide +kernel
theorem dX9_readRoom_28 : decode cX9_readRoom 28 = .ok (.bipush 9, 2) := by decide +kernel
theorem dX9_readRoom_30 : decode cX9_readRoom 30 = .ok (.invokevirtual 168, 3) := by decide +kernel
theorem dX9_readRoom_33 : decode cX9_readRoom 33 = .ok (.istore_n 1, 1) := by decide +kernel
theorem dX9_readRoom_34 : decode cX9_readRoom 34 = .ok (.aload_n 0, 1) := by decide +kernel
theorem dX9_readRoom_35 : decode cX9_readRoom 35 = .ok (.iconst 1, 1) := by decide +kernel
theorem dX9_readRoom_36 : decode cX9_readRoom 36 = .ok (.invokevirtual 168, 3) := by decide +kernel
theorem dX9_readRoom_39 : decode cX9_readRoom 39 = .ok (.istore_n 2, 1) := by decide +kernel
theorem dX9_readRoom_40 : decode cX9_readRoom 40 = .ok (.aload_n 0, 1) := by decide +kernel
theorem dX9_readRoom_41 : decode cX9_readRoom 41 = .ok (.invokevirtual 171, 3) := by decide +kernel
theorem dX9_readRoom_44 : decode cX9_readRoom 44 = .ok (.aload_n 0, 1) := by decide +kernel
theorem dX9_readRoom_45 : decode cX9_readRoom 45 = .ok (.getfield 154, 3) := by decide +kernel
theorem dX9_readRoom_48 : decode cX9_readRoom 48 = .ok (.ifCond .ne 45, 3) := by decide +kernel
theorem dX9_readRoom_51 : decode cX9_readRoom 51 = .ok (.aload_n 0, 1) := by decide +kernel
theorem dX9_readRoom_52 : decode cX9_readRoom 52 = .ok (.getfield 26, 3) := by decide +kernel
theorem dX9_readRoom_55 : decode cX9_readRoom 55 = .ok (.iconst 4, 1) := by decide +kernel
theorem dX9_readRoom_56 : decode cX9_readRoom 56 = .ok (.iconst 2, 1) := by decide +kernel
theorem dX9_readRoom_57 : decode cX9_readRoom 57 = .ok (.aload_n 0, 1) := by decide +kernel
theorem dX9_readRoom_58 : decode cX9_readRoom 58 = .ok (.getfield 26, 3) := by decide +kernel
theorem dX9_readRoom_61 : decode cX9_readRoom 61 = .ok (.iconst 1, 1) := by decide +kernel
theorem dX9_readRoom_62 : decode cX9_readRoom 62 = .ok (.iaload, 1) := by decide +kernel
theorem dX9_readRoom_63 : decode cX9_readRoom 63 = .ok (.imul, 1) := by decide +kernel
theorem dX9_readRoom_64 : decode cX9_readRoom 64 = .ok (.iadd, 1) := by decide +kernel
theorem dX9_readRoom_65 : decode cX9_readRoom 65 = .ok (.iload_n 1, 1) := by decide +kernel
theorem dX9_readRoom_66 : decode cX9_readRoom 66 = .ok (.iastore, 1) := by decide +kernel
theorem dX9_readRoom_67 : decode cX9_readRoom 67 = .ok (.aload_n 0, 1) := by decide +kernel
theorem dX9_readRoom_68 : decode cX9_readRoom 68 = .ok (.getfield 26, 3) := by decide +kernel
theorem dX9_readRoom_71 : decode cX9_readRoom 71 = .ok (.iconst 5, 1) := by decide +kernel
theorem dX9_readRoom_72 : decode cX9_readRoom 72 = .ok (.iconst 2, 1) := by decide +kernel
theorem dX9_readRoom_73 : decode cX9_readRoom 73 = .ok (.aload_n 0, 1) := by decide +kernel
theorem dX9_readRoom_74 : decode cX9_readRoom 74 = .ok (.getfield 26, 3) := by decide +kernel
theorem dX9_readRoom_77 : decode cX9_readRoom 77 = .ok (.iconst 1, 1) := by decide +kernel
theorem dX9_readRoom_78 : decode cX9_readRoom 78 = .ok (.iaload, 1) := by decide +kernel
theorem dX9_readRoom_79 : decode cX9_readRoom 79 = .ok (.imul, 1) := by decide +kernel
theorem dX9_readRoom_80 : decode cX9_readRoom 80 = .ok (.iadd, 1) := by decide +kernel
theorem dX9_readRoom_81 : decode cX9_readRoom 81 = .ok (.iload_n 2, 1) := by decide +kernel
theorem dX9_readRoom_82 : decode cX9_readRoom 82 = .ok (.iastore, 1) := by decide +kernel
theorem dX9_readRoom_83 : decode cX9_readRoom 83 = .ok (.aload_n 0, 1) := by decide +kernel
theorem dX9_readRoom_84 : decode cX9_readRoom 84 = .ok (.getfield 26, 3) := by decide +kernel
theorem dX9_readRoom_87 : decode cX9_readRoom 87 = .ok (.iconst 1, 1) := by decide +kernel
theorem dX9_readRoom_88 : decode cX9_readRoom 88 = .ok (.dup2, 1) := by decide +kernel
theorem dX9_readRoom_89 : decode cX9_readRoom 89 = .ok (.iaload, 1) := by decide +kernel
theorem dX9_readRoom_90 : decode cX9_readRoom 90 = .ok (.iconst 1, 1) := by decide +kernel
theorem dX9_readRoom_91 : decode cX9_readRoom 91 = .ok (.iadd, 1) := by decide +kernel
theorem dX9_readRoom_92 : decode cX9_readRoom 92 = .ok (.iastore, 1) := by decide +kernel
theorem dX9_readRoom_93 : decode cX9_readRoom 93 = .ok (.return_, 1) := by decide +kernel
theorem dX9_readDoor_0 : decode cX9_readDoor 0 = .ok (.aload_n 0, 1) := by decide +kernel
theorem dX9_readDoor_1 : decode cX9_readDoor 1 = .ok (.getfield 26, 3) := by decide +kernel
theorem dX9_readDoor_4 : decode cX9_readDoor 4 = .ok (.iconst 2, 1) := by decide +kernel
theorem dX9_readDoor_5 : decode cX9_readDoor 5 = .ok (.iaload, 1) := by decide +kernel
theorem dX9_readDoor_6 : decode cX9_readDoor 6 = .ok (.bipush 12, 2) := by decide +kernel
theorem dX9_readDoor_8 : decode cX9_readDoor 8 = .ok (.if_icmp .ne 9, 3) := by decide +kernel
theorem dX9_readDoor_11 : decode cX9_readDoor 11 = .ok (.aload_n 0, 1) := by decide +kernel
theorem dX9_readDoor_12 : decode cX9_readDoor 12 = .ok (.iconst 3, 1) := by decide +kernel
theorem dX9_readDoor_13 : decode cX9_readDoor 13 = .ok (.invokevirtual 165, 3) := by decide +kernel
theorem dX9_readDoor_16 : decode cX9_readDoor 16 = .ok (.return_, 1) := by decide +kernel
theorem dX9_readDoor_17 : decode cX9_readDoor 17 = .ok (.aload_n 0, 1) := by decide +kernel
theorem dX9_readDoor_18 : decode cX9_readDoor 18 = .ok (.dup, 1) := by decide +kernel
theorem dX9_readDoor_19 : decode cX9_readDoor 19 = .ok (.getfield 147, 3) := by decide +kernel
theorem dX9_readDoor_22 : decode cX9_readDoor 22 = .ok (.iconst 1, 1) := by decide +kernel
theorem dX9_readDoor_23 : decode cX9_readDoor 23 = .ok (.iadd, 1) := by decide +kernel
theorem dX9_readDoor_24 : decode cX9_readDoor 24 = .ok (.putfield 147, 3) := by decide +kernel
theorem dX9_readDoor_27 : decode cX9_readDoor 27 = .ok (.aload_n 0, 1) := by decide +kernel
theorem dX9_readDoor_28 : decode cX9_readDoor 28 = .ok (.aload_n 0, 1) := by decide +kernel
theorem dX9_readDoor_29 : decode cX9_readDoor 29 = .ok (.getfield 26, 3) := by decide +kernel
theorem dX9_readDoor_32 : decode cX9_readDoor 32 = .ok (.iconst 1, 1) := by decide +kernel
theorem dX9_readDoor_33 : decode cX9_readDoor 33 = .ok (.iaload, 1) := by decide +kernel
theorem dX9_readDoor_34 : decode cX9_readDoor 34 = .ok (.iconst 1, 1) := by decide +kernel
theorem dX9_readDoor_35 : decode cX9_readDoor 35 = .ok (.isub, 1) := by decide +kernel
theorem dX9_readDoor_36 : decode cX9_readDoor 36 = .ok (.invokevirtual 168, 3) := by decide +kernel
theorem dX9_readDoor_39 : decode cX9_readDoor 39 = .ok (.istore_n 1, 1) := by decide +kernel
theorem dX9_readDoor_40 : decode cX9_readDoor 40 = .ok (.aload_n 0, 1) := by decide +kernel
theorem dX9_readDoor_41 : decode cX9_readDoor 41 = .ok (.invokevirtual 157, 3) := by decide +kernel
theorem dX9_readDoor_44 : decode cX9_readDoor 44 = .ok (.pop, 1) := by decide +kernel
theorem dX9_readDoor_45 : decode cX9_readDoor 45 = .ok (.aload_n 0, 1) := by decide +kernel
theorem dX9_readDoor_46 : decode cX9_readDoor 46 = .ok (.getfield 147, 3) := by decide +kernel
theorem dX9_readDoor_49 : decode cX9_readDoor 49 = .ok (.istore_n 2, 1) := by decide +kernel
theorem dX9_readDoor_50 : decode cX9_readDoor 50 = .ok (.aload_n 0, 1) := by decide +kernel
theorem dX9_readDoor_51 : decode cX9_readDoor 51 = .ok (.aload_n 0, 1) := by decide +kernel
theorem dX9_readDoor_52 : decode cX9_readDoor 52 = .ok (.getfield 26, 3) := by decide +kernel
theorem dX9_readDoor_55 : decode cX9_readDoor 55 = .ok (.iconst 1, 1) := by decide +kernel
theorem dX9_readDoor_56 : decode cX9_readDoor 56 = .ok (.iaload, 1) := by decide +kernel
theorem dX9_readDoor_57 : decode cX9_readDoor 57 = .ok (.iconst 1, 1) := by decide +kernel
theorem dX9_readDoor_58 : decode cX9_readDoor 58 = .ok (.isub, 1) := by decide +kernel
theorem dX9_readDoor_59 : decode cX9_readDoor 59 = .ok (.invokevirtual 168, 3) := by decide +kernel
theorem dX9_readDoor_62 : decode cX9_readDoor 62 = .ok (.istore_n 3, 1) := by decide +kernel
theorem dX9_readDoor_63 : decode cX9_readDoor 63 = .ok (.iload_n 1, 1) := by decide +kernel
theorem dX9_readDoor_64 : decode cX9_readDoor 64 = .ok (.iload_n 3, 1) := by decide +kernel
theorem dX9_readDoor_65 : decode cX9_readDoor 65 = .ok (.if_icmp .ne 7, 3) := by decide +kernel
theorem dX9_readDoor_68 : decode cX9_readDoor 68 = .ok (.iconst 1, 1) := by decide +kernel
theorem dX9_readDoor_69 : decode cX9_readDoor 69 = .ok (.goto 4, 3) := by decide +kernel
theorem dX9_readDoor_72 : decode cX9_readDoor 72 = .ok (.iconst 0, 1) := by decide +kernel
theorem dX9_readDoor_73 : decode cX9_readDoor 73 = .ok (.istore 4, 2) := by decide +kernel
theorem dX9_readDoor_75 : decode cX9_readDoor 75 = .ok (.iconst 0, 1) := by decide +kernel
theorem dX9_readDoor_76 : decode cX9_readDoor 76 = .ok (.istore 5, 2) := by decide +kernel
theorem dX9_readDoor_78 : decode cX9_readDoor 78 = .ok (.iload 5, 2) := by decide +kernel
theorem dX9_readDoor_80 : decode cX9_readDoor 80 = .ok (.aload_n 0, 1) := by decide +kernel
theorem dX9_readDoor_81 : decode cX9_readDoor 81 = .ok (.getfield 26, 3) := by decide +kernel
theorem dX9_readDoor_84 : decode cX9_readDoor 84 = .ok (.iconst 2, 1) := by decide +kernel
theorem dX9_readDoor_85 : decode cX9_readDoor 85 = .ok (.iaload, 1) := by decide +kernel
theorem dX9_readDoor_86 : decode cX9_readDoor 86 = .ok (.if_icmp .ge 73, 3) := by decide +kernel
theorem dX9_readDoor_89 : decode cX9_readDoor 89 = .ok (.aload_n 0, 1) := by decide +kernel
theorem dX9_readDoor_90 : decode cX9_readDoor 90 = .ok (.getfield 26, 3) := by decide +kernel
theorem dX9_readDoor_93 : decode cX9_readDoor 93 = .ok (.bipush 20, 2) := by decide +kernel
theorem dX9_readDoor_95 : decode cX9_readDoor 95 = .ok (.iconst 2, 1) := by decide +kernel
theorem dX9_readDoor_96 : decode cX9_readDoor 96 = .ok (.iload 5, 2) := by decide +kernel
theorem dX9_readDoor_98 : decode cX9_readDoor 98 = .ok (.imul, 1) := by decide +kernel
theorem dX9_readDoor_99 : decode cX9_readDoor 99 = .ok (.iadd, 1) := by decide +kernel
theorem dX9_readDoor_100 : decode cX9_readDoor 100 = .ok (.iaload, 1) := by decide +kernel
theorem dX9_readDoor_101 : decode cX9_readDoor 101 = .ok (.istore 6, 2) := by decide +kernel
theorem dX9_readDoor_103 : decode cX9_readDoor 103 = .ok (.aload_n 0, 1) := by decide +kernel
theorem dX9_readDoor_104 : decode cX9_readDoor 104 = .ok (.getfield 26, 3) := by decide +kernel
theorem dX9_readDoor_107 : decode cX9_readDoor 107 = .ok (.bipush 21, 2) := by decide +kernel
theorem dX9_readDoor_109 : decode cX9_readDoor 109 = .ok (.iconst 2, 1) := by decide +kernel
theorem dX9_readDoor_110 : decode cX9_readDoor 110 = .ok (.iload 5, 2) := by decide +kernel
theorem dX9_readDoor_112 : decode cX9_readDoor 112 = .ok (.imul, 1) := by decide +kernel
theorem dX9_readDoor_113 : decode cX9_readDoor 113 = .ok (.iadd, 1) := by decide +kernel
theorem dX9_readDoor_114 : decode cX9_readDoor 114 = .ok (.iaload, 1) := by decide +kernel
theorem dX9_readDoor_115 : decode cX9_readDoor 115 = .ok (.istore 7, 2) := by decide +kernel
theorem dX9_readDoor_117 : decode cX9_readDoor 117 = .ok (.iload 4, 2) := by decide +kernel
theorem dX9_readDoor_119 : decode cX9_readDoor 119 = .ok (.ifCond .ne 27, 3) := by decide +kernel
theorem dX9_readDoor_122 : decode cX9_readDoor 122 = .ok (.iload 6, 2) := by decide +kernel
theorem dX9_readDoor_124 : decode cX9_readDoor 124 = .ok (.iload_n 1, 1) := by decide +kernel
theorem dX9_readDoor_125 : decode cX9_readDoor 125 = .ok (.if_icmp .ne 9, 3) := by decide +kernel
theorem dX9_readDoor_128 : decode cX9_readDoor 128 = .ok (.iload 7, 2) := by decide +kernel
theorem dX9_readDoor_130 : decode cX9_readDoor 130 = .ok (.iload_n 3, 1) := by decide +kernel
theorem dX9_readDoor_131 : decode cX9_readDoor 131 = .ok (.if_icmp .eq 15, 3) := by decide +kernel
theorem dX9_readDoor_134 : decode cX9_readDoor 134 = .ok (.iload 6, 2) := by decide +kernel
theorem dX9_readDoor_136 : decode cX9_readDoor 136 = .ok (.iload_n 3, 1) := by decide +kernel
theorem dX9_readDoor_137 : decode cX9_readDoor 137 = .ok (.if_icmp .ne 13, 3) := by decide +kernel
theorem dX9_readDoor_140 : decode cX9_readDoor 140 = .ok (.iload 7, 2) := by decide +kernel
theorem dX9_readDoor_142 : decode cX9_readDoor 142 = .ok (.iload_n 1, 1) := by decide +kernel
theorem dX9_readDoor_143 : decode cX9_readDoor 143 = .ok (.if_icmp .ne 7, 3) := by decide +kernel
theorem dX9_readDoor_146 : decode cX9_readDoor 146 = .ok (.iconst 1, 1) := by decide +kernel
theorem dX9_readDoor_147 : decode cX9_readDoor 147 = .ok (.goto 4, 3) := by decide +kernel
theorem dX9_readDoor_150 : decode cX9_readDoor 150 = .ok (.iconst 0, 1) := by decide +kernel
theorem dX9_readDoor_151 : decode cX9_readDoor 151 = .ok (.istore 4, 2) := by decide +kernel
theorem dX9_readDoor_153 : decode cX9_readDoor 153 = .ok (.iinc 5 1, 3) := by decide +kernel
theorem dX9_readDoor_156 : decode cX9_readDoor 156 = .ok (.goto (-78), 3) := by decide +kernel
theorem dX9_readDoor_159 : decode cX9_readDoor 159 = .ok (.aload_n 0, 1) := by decide +kernel
theorem dX9_readDoor_160 : decode cX9_readDoor 160 = .ok (.getfield 154, 3) := by decide +kernel
theorem dX9_readDoor_163 : decode cX9_readDoor 163 = .ok (.ifCond .ne 18, 3) := by decide +kernel
theorem dX9_readDoor_166 : decode cX9_readDoor 166 = .ok (.iload 4, 2) := by decide +kernel
theorem dX9_readDoor_168 : decode cX9_readDoor 168 = .ok (.ifCond .eq 13, 3) := by decide +kernel
theorem dX9_readDoor_171 : decode cX9_readDoor 171 = .ok (.aload_n 0, 1) := by decide +kernel
theorem dX9_readDoor_172 : decode cX9_readDoor 172 = .ok (.iconst 4, 1) := by decide +kernel
theorem dX9_readDoor_173 : decode cX9_readDoor 173 = .ok (.invokevirtual 165, 3) := by decide +kernel
theorem dX9_readDoor_176 : decode cX9_readDoor 176 = .ok (.aload_n 0, 1) := by decide +kernel
theorem dX9_readDoor_177 : decode cX9_readDoor 177 = .ok (.iload_n 2, 1) := by decide +kernel
theorem dX9_readDoor_178 : decode cX9_readDoor 178 = .ok (.putfield 147, 3) := by decide +kernel
theorem dX9_readDoor_181 : decode cX9_readDoor 181 = .ok (.aload_n 0, 1) := by decide +kernel
theorem dX9_readDoor_182 : decode cX9_readDoor 182 = .ok (.invokevirtual 171, 3) := by decide +kernel
theorem dX9_readDoor_185 : decode cX9_readDoor 185 = .ok (.aload_n 0, 1) := by decide +kernel
theorem dX9_readDoor_186 : decode cX9_readDoor 186 = .ok (.getfield 154, 3) := by decide +kernel
theorem dX9_readDoor_189 : decode cX9_readDoor 189 = .ok (.ifCond .ne 47, 3) := by decide +kernel
theorem dX9_readDoor_192 : decode cX9_readDoor 192 = .ok (.aload_n 0, 1) := by decide +kernel
theorem dX9_readDoor_193 : decode cX9_readDoor 193 = .ok (.getfield 26, 3) := by decide +kernel
theorem dX9_readDoor_196 : decode cX9_readDoor 196 = .ok (.bipush 20, 2) := by decide +kernel
theorem dX9_readDoor_198 : decode cX9_readDoor 198 = .ok (.iconst 2, 1) := by decide +kernel
theorem dX9_readDoor_199 : decode cX9_readDoor 199 = .ok (.aload_n 0, 1) := by decide +kernel
theorem dX9_readDoor_200 : decode cX9_readDoor 200 = .ok (.getfield 26, 3) := by decide +kernel
theorem dX9_readDoor_203 : decode cX9_readDoor 203 = .ok (.iconst 2, 1) := by decide +kernel
theorem dX9_readDoor_204 : decode cX9_readDoor 204 = .ok (.iaload, 1) := by decide +kernel
theorem dX9_readDoor_205 : decode cX9_readDoor 205 = .ok (.imul, 1) := by decide +kernel
theorem dX9_readDoor_206 : decode cX9_readDoor 206 = .ok (.iadd, 1) := by decide +kernel
theorem dX9_readDoor_207 : decode cX9_readDoor 207 = .ok (.iload_n 1, 1) := by decide +kernel
theorem dX9_readDoor_208 : decode cX9_readDoor 208 = .ok (.iastore, 1) := by decide +kernel
theorem dX9_readDoor_209 : decode cX9_readDoor 209 = .ok (.aload_n 0, 1) := by decide +kernel
theorem dX9_readDoor_210 : decode cX9_readDoor 210 = .ok (.getfield 26, 3) := by decide +kernel
theorem dX9_readDoor_213 : decode cX9_readDoor 213 = .ok (.bipush 21, 2) := by decide +kernel
theorem dX9_readDoor_215 : decode cX9_readDoor 215 = .ok (.iconst 2, 1) := by decide +kernel
theorem dX9_readDoor_216 : decode cX9_readDoor 216 = .ok (.aload_n 0, 1) := by decide +kernel
theorem dX9_readDoor_217 : decode cX9_readDoor 217 = .ok (.getfield 26, 3) := by decide +kernel
theorem dX9_readDoor_220 : decode cX9_readDoor 220 = .ok (.iconst 2, 1) := by decide +kernel
theorem dX9_readDoor_221 : decode cX9_readDoor 221 = .ok (.iaload, 1) := by decide +kernel
theorem dX9_readDoor_222 : decode cX9_readDoor 222 = .ok (.imul, 1) := by decide +kernel
theorem dX9_readDoor_223 : decode cX9_readDoor 223 = .ok (.iadd, 1) := by decide +kernel
theorem dX9_readDoor_224 : decode cX9_readDoor 224 = .ok (.iload_n 3, 1) := by decide +kernel
theorem dX9_readDoor_225 : decode cX9_readDoor 225 = .ok (.iastore, 1) := by decide +kernel
theorem dX9_readDoor_226 : decode cX9_readDoor 226 = .ok (.aload_n 0, 1) := by decide +kernel
theorem dX9_readDoor_227 : decode cX9_readDoor 227 = .ok (.getfield 26, 3) := by decide +kernel
theorem dX9_readDoor_230 : decode cX9_readDoor 230 = .ok (.iconst 2, 1) := by decide +kernel
theorem dX9_readDoor_231 : decode cX9_readDoor 231 = .ok (.dup2, 1) := by decide +kernel
theorem dX9_readDoor_232 : decode cX9_readDoor 232 = .ok (.iaload, 1) := by decide +kernel
theorem dX9_readDoor_233 : decode cX9_readDoor 233 = .ok (.iconst 1, 1) := by decide +kernel
theorem dX9_readDoor_234 : decode cX9_readDoor 234 = .ok (.iadd, 1) := by decide +kernel
theorem dX9_readDoor_235 : decode cX9_readDoor 235 = .ok (.iastore, 1) := by decide +kernel
theorem dX9_readDoor_236 : decode cX9_readDoor 236 = .ok (.return_, 1) := by decide +kernel
theorem dX9_readPetition_0 : decode cX9_readPetition 0 = .ok (.aload_n 0, 1) := by decide +kernel
theorem dX9_readPetition_1 : decode cX9_readPetition 1 = .ok (.getfield 26, 3) := by decide +kernel
theorem dX9_readPetition_4 : decode cX9_readPetition 4 = .ok (.iconst 3, 1) := by decide +kernel
theorem dX9_readPetition_5 : decode cX9_readPetition 5 = .ok (.iaload, 1) := by decide +kernel
theorem dX9_readPetition_6 : decode cX9_readPetition 6 = .ok (.bipush 6, 2) := by decide +kernel
theorem dX9_readPetition_8 : decode cX9_readPetition 8 = .ok (.if_icmp .ne 9, 3) := by decide +kernel
theorem dX9_readPetition_11 : decode cX9_readPetition 11 = .ok (.aload_n 0, 1) := by decide +kernel
theorem dX9_readPetition_12 : decode cX9_readPetition 12 = .ok (.iconst 3, 1) := by decide +kernel
theorem dX9_readPetition_13 : decode cX9_readPetition 13 = .ok (.invokevirtual 165, 3) := by decide +kernel
theorem dX9_readPetition_16 : decode cX9_readPetition 16 = .ok (.return_, 1) := by decide +kernel
theorem dX9_readPetition_17 : decode cX9_readPetition 17 = .ok (.aload_n 0, 1) := by decide +kernel
theorem dX9_readPetition_18 : decode cX9_readPetition 18 = .ok (.dup, 1) := by decide +kernel
theorem dX9_readPetition_19 : decode cX9_readPetition 19 = .ok (.getfield 147, 3) := by decide +kernel
theorem dX9_readPetition_22 : decode cX9_readPetition 22 = .ok (.iconst 1, 1) := by decide +kernel
theorem dX9_readPetition_23 : decode cX9_readPetition 23 = .ok (.iadd, 1) := by decide +kernel
theorem dX9_readPetition_24 : decode cX9_readPetition 24 = .ok (.putfield 147, 3) := by decide +kernel
theorem dX9_readPetition_27 : decode cX9_readPetition 27 = .ok (.aload_n 0, 1) := by decide +kernel
theorem dX9_readPetition_28 : decode cX9_readPetition 28 = .ok (.aload_n 0, 1) := by decide +kernel
theorem dX9_readPetition_29 : decode cX9_readPetition 29 = .ok (.getfield 26, 3) := by decide +kernel
theorem dX9_readPetition_32 : decode cX9_readPetition 32 = .ok (.iconst 1, 1) := by decide +kernel
theorem dX9_readPetition_33 : decode cX9_readPetition 33 = .ok (.iaload, 1) := by decide +kernel
theorem dX9_readPetition_34 : decode cX9_readPetition 34 = .ok (.iconst 1, 1) := by decide +kernel
theorem dX9_readPetition_35 : decode cX9_readPetition 35 = .ok (.isub, 1) := by decide +kernel
theorem dX9_readPetition_36 : decode cX9_readPetition 36 = .ok (.invokevirtual 168, 3) := by decide +kernel
theorem dX9_readPetition_39 : decode cX9_readPetition 39 = .ok (.istore_n 1, 1) := by decide +kernel
theorem dX9_readPetition_40 : decode cX9_readPetition 40 = .ok (.aload_n 0, 1) := by decide +kernel
theorem dX9_readPetition_41 : decode cX9_readPetition 41 = .ok (.bipush 99, 2) := by decide +kernel
theorem dX9_readPetition_43 : decode cX9_readPetition 43 = .ok (.invokevirtual 168, 3) := by decide +kernel
theorem dX9_readPetition_46 : decode cX9_readPetition 46 = .ok (.istore_n 2, 1) := by decide +kernel
theorem dX9_readPetition_47 : decode cX9_readPetition 47 = .ok (.aload_n 0, 1) := by decide +kernel
theorem dX9_readPetition_48 : decode cX9_readPetition 48 = .ok (.invokevirtual 171, 3) := by decide +kernel
theorem dX9_readPetition_51 : decode cX9_readPetition 51 = .ok (.aload_n 0, 1) := by decide +kernel
theorem dX9_readPetition_52 : decode cX9_readPetition 52 = .ok (.getfield 154, 3) := by decide +kernel
theorem dX9_readPetition_55 : decode cX9_readPetition 55 = .ok (.ifCond .ne 47, 3) := by decide +kernel
theorem dX9_readPetition_58 : decode cX9_readPetition 58 = .ok (.aload_n 0, 1) := by decide +kernel
theorem dX9_readPetition_59 : decode cX9_readPetition 59 = .ok (.getfield 26, 3) := by decide +kernel
theorem dX9_readPetition_62 : decode cX9_readPetition 62 = .ok (.bipush 44, 2) := by decide +kernel
theorem dX9_readPetition_64 : decode cX9_readPetition 64 = .ok (.iconst 2, 1) := by decide +kernel
theorem dX9_readPetition_65 : decode cX9_readPetition 65 = .ok (.aload_n 0, 1) := by decide +kernel
theorem dX9_readPetition_66 : decode cX9_readPetition 66 = .ok (.getfield 26, 3) := by decide +kernel
theorem dX9_readPetition_69 : decode cX9_readPetition 69 = .ok (.iconst 3, 1) := by decide +kernel
theorem dX9_readPetition_70 : decode cX9_readPetition 70 = .ok (.iaload, 1) := by decide +kernel
theorem dX9_readPetition_71 : decode cX9_readPetition 71 = .ok (.imul, 1) := by decide +kernel
theorem dX9_readPetition_72 : decode cX9_readPetition 72 = .ok (.iadd, 1) := by decide +kernel
theorem dX9_readPetition_73 : decode cX9_readPetition 73 = .ok (.iload_n 1, 1) := by decide +kernel
theorem dX9_readPetition_74 : decode cX9_readPetition 74 = .ok (.iastore, 1) := by decide +kernel
theorem dX9_readPetition_75 : decode cX9_readPetition 75 = .ok (.aload_n 0, 1) := by decide +kernel
theorem dX9_readPetition_76 : decode cX9_readPetition 76 = .ok (.getfield 26, 3) := by decide +kernel
theorem dX9_readPetition_79 : decode cX9_readPetition 79 = .ok (.bipush 45, 2) := by decide +kernel
theorem dX9_readPetition_81 : decode cX9_readPetition 81 = .ok (.iconst 2, 1) := by decide +kernel
theorem dX9_readPetition_82 : decode cX9_readPetition 82 = .ok (.aload_n 0, 1) := by decide +kernel
theorem dX9_readPetition_83 : decode cX9_readPetition 83 = .ok (.getfield 26, 3) := by decide +kernel
theorem dX9_readPetition_86 : decode cX9_readPetition 86 = .ok (.iconst 3, 1) := by decide +kernel
theorem dX9_readPetition_87 : decode cX9_readPetition 87 = .ok (.iaload, 1) := by decide +kernel
theorem dX9_readPetition_88 : decode cX9_readPetition 88 = .ok (.imul, 1) := by decide +kernel
theorem dX9_readPetition_89 : decode cX9_readPetition 89 = .ok (.iadd, 1) := by decide +kernel
theorem dX9_readPetition_90 : decode cX9_readPetition 90 = .ok (.iload_n 2, 1) := by decide +kernel
theorem dX9_readPetition_91 : decode cX9_readPetition 91 = .ok (.iastore, 1) := by decide +kernel
theorem dX9_readPetition_92 : decode cX9_readPetition 92 = .ok (.aload_n 0, 1) := by decide +kernel
theorem dX9_readPetition_93 : decode cX9_readPetition 93 = .ok (.getfield 26, 3) := by decide +kernel
theorem dX9_readPetition_96 : decode cX9_readPetition 96 = .ok (.iconst 3, 1) := by decide +kernel
theorem dX9_readPetition_97 : decode cX9_readPetition 97 = .ok (.dup2, 1) := by decide +kernel
theorem dX9_readPetition_98 : decode cX9_readPetition 98 = .ok (.iaload, 1) := by decide +kernel
theorem dX9_readPetition_99 : decode cX9_readPetition 99 = .ok (.iconst 1, 1) := by decide +kernel
theorem dX9_readPetition_100 : decode cX9_readPetition 100 = .ok (.iadd, 1) := by decide +kernel
theorem dX9_readPetition_101 : decode cX9_readPetition 101 = .ok (.iastore, 1) := by decide +kernel
theorem dX9_readPetition_102 : decode cX9_readPetition 102 = .ok (.return_, 1) := by decide +kernel
theorem dX9_readClause_0 : decode cX9_readClause 0 = .ok (.aload_n 0, 1) := by decide +kernel
theorem dX9_readClause_1 : decode cX9_readClause 1 = .ok (.invokevirtual 157, 3) := by decide +kernel
theorem dX9_readClause_4 : decode cX9_readClause 4 = .ok (.istore_n 1, 1) := by decide +kernel
theorem dX9_readClause_5 : decode cX9_readClause 5 = .ok (.iload_n 1, 1) := by decide +kernel
theorem dX9_readClause_6 : decode cX9_readClause 6 = .ok (.bipush 115, 2) := by decide +kernel
theorem dX9_readClause_8 : decode cX9_readClause 8 = .ok (.if_icmp .ne 10, 3) := by decide +kernel
theorem dX9_readClause_11 : decode cX9_readClause 11 = .ok (.aload_n 0, 1) := by decide +kernel
theorem dX9_readClause_12 : decode cX9_readClause 12 = .ok (.invokevirtual 174, 3) := by decide +kernel
theorem dX9_readClause_15 : decode cX9_readClause 15 = .ok (.goto 69, 3) := by decide +kernel
theorem dX9_readClause_18 : decode cX9_readClause 18 = .ok (.aload_n 0, 1) := by decide +kernel
theorem dX9_readClause_19 : decode cX9_readClause 19 = .ok (.getfield 26, 3) := by decide +kernel
theorem dX9_readClause_22 : decode cX9_readClause 22 = .ok (.iconst 0, 1) := by decide +kernel
theorem dX9_readClause_23 : decode cX9_readClause 23 = .ok (.iaload, 1) := by decide +kernel
theorem dX9_readClause_24 : decode cX9_readClause 24 = .ok (.iconst (-1), 1) := by decide +kernel
theorem dX9_readClause_25 : decode cX9_readClause 25 = .ok (.if_icmp .eq 21, 3) := by decide +kernel
theorem dX9_readClause_28 : decode cX9_readClause 28 = .ok (.iload_n 1, 1) := by decide +kernel
theorem dX9_readClause_29 : decode cX9_readClause 29 = .ok (.bipush 114, 2) := by decide +kernel
theorem dX9_readClause_31 : decode cX9_readClause 31 = .ok (.if_icmp .eq 23, 3) := by decide +kernel
theorem dX9_readClause_34 : decode cX9_readClause 34 = .ok (.iload_n 1, 1) := by decide +kernel
theorem dX9_readClause_35 : decode cX9_readClause 35 = .ok (.bipush 100, 2) := by decide +kernel
theorem dX9_readClause_37 : decode cX9_readClause 37 = .ok (.if_icmp .eq 17, 3) := by decide +kernel
theorem dX9_readClause_40 : decode cX9_readClause 40 = .ok (.iload_n 1, 1) := by decide +kernel
theorem dX9_readClause_41 : decode cX9_readClause 41 = .ok (.bipush 112, 2) := by decide +kernel
theorem dX9_readClause_43 : decode cX9_readClause 43 = .ok (.if_icmp .eq 11, 3) := by decide +kernel
theorem dX9_readClause_46 : decode cX9_readClause 46 = .ok (.aload_n 0, 1) := by decide +kernel
theorem dX9_readClause_47 : decode cX9_readClause 47 = .ok (.iconst 1, 1) := by decide +kernel
theorem dX9_readClause_48 : decode cX9_readClause 48 = .ok (.invokevirtual 165, 3) := by decide +kernel
theorem dX9_readClause_51 : decode cX9_readClause 51 = .ok (.goto 33, 3) := by decide +kernel
theorem dX9_readClause_54 : decode cX9_readClause 54 = .ok (.iload_n 1, 1) := by decide +kernel
theorem dX9_readClause_55 : decode cX9_readClause 55 = .ok (.bipush 114, 2) := by decide +kernel
theorem dX9_readClause_57 : decode cX9_readClause 57 = .ok (.if_icmp .ne 10, 3) := by decide +kernel
theorem dX9_readClause_60 : decode cX9_readClause 60 = .ok (.aload_n 0, 1) := by decide +kernel
theorem dX9_readClause_61 : decode cX9_readClause 61 = .ok (.invokevirtual 177, 3) := by decide +kernel
theorem dX9_readClause_64 : decode cX9_readClause 64 = .ok (.goto 20, 3) := by decide +kernel
theorem dX9_readClause_67 : decode cX9_readClause 67 = .ok (.iload_n 1, 1) := by decide +kernel
theorem dX9_readClause_68 : decode cX9_readClause 68 = .ok (.bipush 100, 2) := by decide +kernel
theorem dX9_readClause_70 : decode cX9_readClause 70 = .ok (.if_icmp .ne 10, 3) := by decide +kernel
theorem dX9_readClause_73 : decode cX9_readClause 73 = .ok (.aload_n 0, 1) := by decide +kernel
theorem dX9_readClause_74 : decode cX9_readClause 74 = .ok (.invokevirtual 180, 3) := by decide +kernel
theorem dX9_readClause_77 : decode cX9_readClause 77 = .ok (.goto 7, 3) := by decide +kernel
theorem dX9_readClause_80 : decode cX9_readClause 80 = .ok (.aload_n 0, 1) := by decide +kernel
theorem dX9_readClause_81 : decode cX9_readClause 81 = .ok (.invokevirtual 183, 3) := by decide +kernel
theorem dX9_readClause_84 : decode cX9_readClause 84 = .ok (.return_, 1) := by decide +kernel
theorem dX9_becomes_0 : decode cX9_becomes 0 = .ok (.iconst 0, 1) := by decide +kernel
theorem dX9_becomes_1 : decode cX9_becomes 1 = .ok (.istore_n 1, 1) := by decide +kernel
theorem dX9_becomes_2 : decode cX9_becomes 2 = .ok (.iload_n 1, 1) := by decide +kernel
theorem dX9_becomes_3 : decode cX9_becomes 3 = .ok (.bipush 80, 2) := by decide +kernel
theorem dX9_becomes_5 : decode cX9_becomes 5 = .ok (.if_icmp .ge 16, 3) := by decide +kernel
theorem dX9_becomes_8 : decode cX9_becomes 8 = .ok (.aload_n 0, 1) := by decide +kernel
theorem dX9_becomes_9 : decode cX9_becomes 9 = .ok (.getfield 19, 3) := by decide +kernel
theorem dX9_becomes_12 : decode cX9_becomes 12 = .ok (.iload_n 1, 1) := by decide +kernel
theorem dX9_becomes_13 : decode cX9_becomes 13 = .ok (.lconst 0, 1) := by decide +kernel
theorem dX9_becomes_14 : decode cX9_becomes 14 = .ok (.lastore, 1) := by decide +kernel
theorem dX9_becomes_15 : decode cX9_becomes 15 = .ok (.iinc 1 1, 3) := by decide +kernel
theorem dX9_becomes_18 : decode cX9_becomes 18 = .ok (.goto (-16), 3) := by decide +kernel
theorem dX9_becomes_21 : decode cX9_becomes 21 = .ok (.aload_n 0, 1) := by decide +kernel
theorem dX9_becomes_22 : decode cX9_becomes 22 = .ok (.aload_n 0, 1) := by decide +kernel
theorem dX9_becomes_23 : decode cX9_becomes 23 = .ok (.getfield 26, 3) := by decide +kernel
theorem dX9_becomes_26 : decode cX9_becomes 26 = .ok (.iconst 0, 1) := by decide +kernel
theorem dX9_becomes_27 : decode cX9_becomes 27 = .ok (.iaload, 1) := by decide +kernel
theorem dX9_becomes_28 : decode cX9_becomes 28 = .ok (.iconst (-1), 1) := by decide +kernel
theorem dX9_becomes_29 : decode cX9_becomes 29 = .ok (.if_icmp .eq 7, 3) := by decide +kernel
theorem dX9_becomes_32 : decode cX9_becomes 32 = .ok (.iconst 1, 1) := by decide +kernel
theorem dX9_becomes_33 : decode cX9_becomes 33 = .ok (.goto 4, 3) := by decide +kernel
theorem dX9_becomes_36 : decode cX9_becomes 36 = .ok (.iconst 0, 1) := by decide +kernel
theorem dX9_becomes_37 : decode cX9_becomes 37 = .ok (.putfield 186, 3) := by decide +kernel
theorem dX9_becomes_40 : decode cX9_becomes 40 = .ok (.aload_n 0, 1) := by decide +kernel
theorem dX9_becomes_41 : decode cX9_becomes 41 = .ok (.aload_n 0, 1) := by decide +kernel
theorem dX9_becomes_42 : decode cX9_becomes 42 = .ok (.getfield 26, 3) := by decide +kernel
theorem dX9_becomes_45 : decode cX9_becomes 45 = .ok (.iconst 1, 1) := by decide +kernel
theorem dX9_becomes_46 : decode cX9_becomes 46 = .ok (.iaload, 1) := by decide +kernel
theorem dX9_becomes_47 : decode cX9_becomes 47 = .ok (.putfield 64, 3) := by decide +kernel
theorem dX9_becomes_50 : decode cX9_becomes 50 = .ok (.aload_n 0, 1) := by decide +kernel
theorem dX9_becomes_51 : decode cX9_becomes 51 = .ok (.aload_n 0, 1) := by decide +kernel
theorem dX9_becomes_52 : decode cX9_becomes 52 = .ok (.getfield 26, 3) := by decide +kernel
theorem dX9_becomes_55 : decode cX9_becomes 55 = .ok (.iconst 2, 1) := by decide +kernel
theorem dX9_becomes_56 : decode cX9_becomes 56 = .ok (.iaload, 1) := by decide +kernel
theorem dX9_becomes_57 : decode cX9_becomes 57 = .ok (.putfield 71, 3) := by decide +kernel
theorem dX9_becomes_60 : decode cX9_becomes 60 = .ok (.aload_n 0, 1) := by decide +kernel
theorem dX9_becomes_61 : decode cX9_becomes 61 = .ok (.aload_n 0, 1) := by decide +kernel
theorem dX9_becomes_62 : decode cX9_becomes 62 = .ok (.getfield 26, 3) := by decide +kernel
theorem dX9_becomes_65 : decode cX9_becomes 65 = .ok (.iconst 3, 1) := by decide +kernel
theorem dX9_becomes_66 : decode cX9_becomes 66 = .ok (.iaload, 1) := by decide +kernel
theorem dX9_becomes_67 : decode cX9_becomes 67 = .ok (.putfield 74, 3) := by decide +kernel
theorem dX9_becomes_70 : decode cX9_becomes 70 = .ok (.aload_n 0, 1) := by decide +kernel
theorem dX9_becomes_71 : decode cX9_becomes 71 = .ok (.getfield 19, 3) := by decide +kernel
theorem dX9_becomes_74 : decode cX9_becomes 74 = .ok (.iconst 0, 1) := by decide +kernel
theorem dX9_becomes_75 : decode cX9_becomes 75 = .ok (.aload_n 0, 1) := by decide +kernel
theorem dX9_becomes_76 : decode cX9_becomes 76 = .ok (.getfield 186, 3) := by decide +kernel
theorem dX9_becomes_79 : decode cX9_becomes 79 = .ok (.ifCond .eq 13, 3) := by decide +kernel
theorem dX9_becomes_82 : decode cX9_becomes 82 = .ok (.aload_n 0, 1) := by decide +kernel
theorem dX9_becomes_83 : decode cX9_becomes 83 = .ok (.getfield 26, 3) := by decide +kernel
theorem dX9_becomes_86 : decode cX9_becomes 86 = .ok (.iconst 0, 1) := by decide +kernel
theorem dX9_becomes_87 : decode cX9_becomes 87 = .ok (.iaload, 1) := by decide +kernel
theorem dX9_becomes_88 : decode cX9_becomes 88 = .ok (.i2l, 1) := by decide +kernel
theorem dX9_becomes_89 : decode cX9_becomes 89 = .ok (.goto 4, 3) := by decide +kernel
theorem dX9_becomes_92 : decode cX9_becomes 92 = .ok (.lconst 0, 1) := by decide +kernel
theorem dX9_becomes_93 : decode cX9_becomes 93 = .ok (.lastore, 1) := by decide +kernel
theorem dX9_becomes_94 : decode cX9_becomes 94 = .ok (.iconst 0, 1) := by decide +kernel
theorem dX9_becomes_95 : decode cX9_becomes 95 = .ok (.istore_n 1, 1) := by decide +kernel
theorem dX9_becomes_96 : decode cX9_becomes 96 = .ok (.iload_n 1, 1) := by decide +kernel
theorem dX9_becomes_97 : decode cX9_becomes 97 = .ok (.aload_n 0, 1) := by decide +kernel
theorem dX9_becomes_98 : decode cX9_becomes 98 = .ok (.getfield 64, 3) := by decide +kernel
theorem dX9_becomes_101 : decode cX9_becomes 101 = .ok (.if_icmp .ge 51, 3) := by decide +kernel
theorem dX9_becomes_104 : decode cX9_becomes 104 = .ok (.aload_n 0, 1) := by decide +kernel
theorem dX9_becomes_105 : decode cX9_becomes 105 = .ok (.getfield 19, 3) := by decide +kernel
theorem dX9_becomes_108 : decode cX9_becomes 108 = .ok (.bipush 10, 2) := by decide +kernel
theorem dX9_becomes_110 : decode cX9_becomes 110 = .ok (.iload_n 1, 1) := by decide +kernel
theorem dX9_becomes_111 : decode cX9_becomes 111 = .ok (.iadd, 1) := by decide +kernel
theorem dX9_becomes_112 : decode cX9_becomes 112 = .ok (.aload_n 0, 1) := by decide +kernel
theorem dX9_becomes_113 : decode cX9_becomes 113 = .ok (.getfield 26, 3) := by decide +kernel
theorem dX9_becomes_116 : decode cX9_becomes 116 = .ok (.iconst 4, 1) := by decide +kernel
theorem dX9_becomes_117 : decode cX9_becomes 117 = .ok (.iconst 2, 1) := by decide +kernel
theorem dX9_becomes_118 : decode cX9_becomes 118 = .ok (.iload_n 1, 1) := by decide +kernel
theorem dX9_becomes_119 : decode cX9_becomes 119 = .ok (.imul, 1) := by decide +kernel
theorem dX9_becomes_120 : decode cX9_becomes 120 = .ok (.iadd, 1) := by decide +kernel
theorem dX9_becomes_121 : decode cX9_becomes 121 = .ok (.iaload, 1) := by decide +kernel
theorem dX9_becomes_122 : decode cX9_becomes 122 = .ok (.i2l, 1) := by decide +kernel
theorem dX9_becomes_123 : decode cX9_becomes 123 = .ok (.lastore, 1) := by decide +kernel
theorem dX9_becomes_124 : decode cX9_becomes 124 = .ok (.aload_n 0, 1) := by decide +kernel
theorem dX9_becomes_125 : decode cX9_becomes 125 = .ok (.getfield 19, 3) := by decide +kernel
theorem dX9_becomes_128 : decode cX9_becomes 128 = .ok (.iconst 4, 1) := by decide +kernel
theorem dX9_becomes_129 : decode cX9_becomes 129 = .ok (.dup2, 1) := by decide +kernel
theorem dX9_becomes_130 : decode cX9_becomes 130 = .ok (.laload, 1) := by decide +kernel
theorem dX9_becomes_131 : decode cX9_becomes 131 = .ok (.aload_n 0, 1) := by decide +kernel
theorem dX9_becomes_132 : decode cX9_becomes 132 = .ok (.getfield 26, 3) := by decide +kernel
theorem dX9_becomes_135 : decode cX9_becomes 135 = .ok (.iconst 5, 1) := by decide +kernel
theorem dX9_becomes_136 : decode cX9_becomes 136 = .ok (.iconst 2, 1) := by decide +kernel
theorem dX9_becomes_137 : decode cX9_becomes 137 = .ok (.iload_n 1, 1) := by decide +kernel
theorem dX9_becomes_138 : decode cX9_becomes 138 = .ok (.imul, 1) := by decide +kernel
theorem dX9_becomes_139 : decode cX9_becomes 139 = .ok (.iadd, 1) := by decide +kernel
theorem dX9_becomes_140 : decode cX9_becomes 140 = .ok (.iaload, 1) := by decide +kernel
theorem dX9_becomes_141 : decode cX9_becomes 141 = .ok (.i2l, 1) := by decide +kernel
theorem dX9_becomes_142 : decode cX9_becomes 142 = .ok (.iload_n 1, 1) := by decide +kernel
theorem dX9_becomes_143 : decode cX9_becomes 143 = .ok (.lshl, 1) := by decide +kernel
theorem dX9_becomes_144 : decode cX9_becomes 144 = .ok (.lor, 1) := by decide +kernel
theorem dX9_becomes_145 : decode cX9_becomes 145 = .ok (.lastore, 1) := by decide +kernel
theorem dX9_becomes_146 : decode cX9_becomes 146 = .ok (.iinc 1 1, 3) := by decide +kernel
theorem dX9_becomes_149 : decode cX9_becomes 149 = .ok (.goto (-53), 3) := by decide +kernel
theorem dX9_becomes_152 : decode cX9_becomes 152 = .ok (.iconst 0, 1) := by decide +kernel
theorem dX9_becomes_153 : decode cX9_becomes 153 = .ok (.istore_n 1, 1) := by decide +kernel
theorem dX9_becomes_154 : decode cX9_becomes 154 = .ok (.iload_n 1, 1) := by decide +kernel
theorem dX9_becomes_155 : decode cX9_becomes 155 = .ok (.aload_n 0, 1) := by decide +kernel
theorem dX9_becomes_156 : decode cX9_becomes 156 = .ok (.getfield 71, 3) := by decide +kernel
theorem dX9_becomes_159 : decode cX9_becomes 159 = .ok (.if_icmp .ge 43, 3) := by decide +kernel
theorem dX9_becomes_162 : decode cX9_becomes 162 = .ok (.aload_n 0, 1) := by decide +kernel
theorem dX9_becomes_163 : decode cX9_becomes 163 = .ok (.getfield 7, 3) := by decide +kernel
theorem dX9_becomes_166 : decode cX9_becomes 166 = .ok (.iload_n 1, 1) := by decide +kernel
theorem dX9_becomes_167 : decode cX9_becomes 167 = .ok (.aload_n 0, 1) := by decide +kernel
theorem dX9_becomes_168 : decode cX9_becomes 168 = .ok (.getfield 26, 3) := by decide +kernel
theorem dX9_becomes_171 : decode cX9_becomes 171 = .ok (.bipush 20, 2) := by decide +kernel
theorem dX9_becomes_173 : decode cX9_becomes 173 = .ok (.iconst 2, 1) := by decide +kernel
theorem dX9_becomes_174 : decode cX9_becomes 174 = .ok (.iload_n 1, 1) := by decide +kernel
theorem dX9_becomes_175 : decode cX9_becomes 175 = .ok (.imul, 1) := by decide +kernel
theorem dX9_becomes_176 : decode cX9_becomes 176 = .ok (.iadd, 1) := by decide +kernel
theorem dX9_becomes_177 : decode cX9_becomes 177 = .ok (.iaload, 1) := by decide +kernel
theorem dX9_becomes_178 : decode cX9_becomes 178 = .ok (.iastore, 1) := by decide +kernel
theorem dX9_becomes_179 : decode cX9_becomes 179 = .ok (.aload_n 0, 1) := by decide +kernel
theorem dX9_becomes_180 : decode cX9_becomes 180 = .ok (.getfield 13, 3) := by decide +kernel
theorem dX9_becomes_183 : decode cX9_becomes 183 = .ok (.iload_n 1, 1) := by decide +kernel
theorem dX9_becomes_184 : decode cX9_becomes 184 = .ok (.aload_n 0, 1) := by decide +kernel
theorem dX9_becomes_185 : decode cX9_becomes 185 = .ok (.getfield 26, 3) := by decide +kernel
theorem dX9_becomes_188 : decode cX9_becomes 188 = .ok (.bipush 21, 2) := by decide +kernel
theorem dX9_becomes_190 : decode cX9_becomes 190 = .ok (.iconst 2, 1) := by decide +kernel
theorem dX9_becomes_191 : decode cX9_becomes 191 = .ok (.iload_n 1, 1) := by decide +kernel
theorem dX9_becomes_192 : decode cX9_becomes 192 = .ok (.imul, 1) := by decide +kernel
theorem dX9_becomes_193 : decode cX9_becomes 193 = .ok (.iadd, 1) := by decide +kernel
theorem dX9_becomes_194 : decode cX9_becomes 194 = .ok (.iaload, 1) := by decide +kernel
theorem dX9_becomes_195 : decode cX9_becomes 195 = .ok (.iastore, 1) := by decide +kernel
theorem dX9_becomes_196 : decode cX9_becomes 196 = .ok (.iinc 1 1, 3) := by decide +kernel
theorem dX9_becomes_199 : decode cX9_becomes 199 = .ok (.goto (-45), 3) := by decide +kernel
theorem dX9_becomes_202 : decode cX9_becomes 202 = .ok (.iconst 0, 1) := by decide +kernel
theorem dX9_becomes_203 : decode cX9_becomes 203 = .ok (.istore_n 1, 1) := by decide +kernel
theorem dX9_becomes_204 : decode cX9_becomes 204 = .ok (.iload_n 1, 1) := by decide +kernel
theorem dX9_becomes_205 : decode cX9_becomes 205 = .ok (.aload_n 0, 1) := by decide +kernel
theorem dX9_becomes_206 : decode cX9_becomes 206 = .ok (.getfield 74, 3) := by decide +kernel
theorem dX9_becomes_209 : decode cX9_becomes 209 = .ok (.if_icmp .ge 47, 3) := by decide +kernel
theorem dX9_becomes_212 : decode cX9_becomes 212 = .ok (.aload_n 0, 1) := by decide +kernel
theorem dX9_becomes_213 : decode cX9_becomes 213 = .ok (.getfield 19, 3) := by decide +kernel
theorem dX9_becomes_216 : decode cX9_becomes 216 = .ok (.bipush 26, 2) := by decide +kernel
theorem dX9_becomes_218 : decode cX9_becomes 218 = .ok (.iload_n 1, 1) := by decide +kernel
theorem dX9_becomes_219 : decode cX9_becomes 219 = .ok (.iadd, 1) := by decide +kernel
theorem dX9_becomes_220 : decode cX9_becomes 220 = .ok (.aload_n 0, 1) := by decide +kernel
theorem dX9_becomes_221 : decode cX9_becomes 221 = .ok (.getfield 26, 3) := by decide +kernel
theorem dX9_becomes_224 : decode cX9_becomes 224 = .ok (.bipush 44, 2) := by decide +kernel
theorem dX9_becomes_226 : decode cX9_becomes 226 = .ok (.iconst 2, 1) := by decide +kernel
theorem dX9_becomes_227 : decode cX9_becomes 227 = .ok (.iload_n 1, 1) := by decide +kernel
theorem dX9_becomes_228 : decode cX9_becomes 228 = .ok (.imul, 1) := by decide +kernel
theorem dX9_becomes_229 : decode cX9_becomes 229 = .ok (.iadd, 1) := by decide +kernel
theorem dX9_becomes_230 : decode cX9_becomes 230 = .ok (.iaload, 1) := by decide +kernel
theorem dX9_becomes_231 : decode cX9_becomes 231 = .ok (.i2l, 1) := by decide +kernel
theorem dX9_becomes_232 : decode cX9_becomes 232 = .ok (.lastore, 1) := by decide +kernel
theorem dX9_becomes_233 : decode cX9_becomes 233 = .ok (.aload_n 0, 1) := by decide +kernel
theorem dX9_becomes_234 : decode cX9_becomes 234 = .ok (.getfield 16, 3) := by decide +kernel
theorem dX9_becomes_237 : decode cX9_becomes 237 = .ok (.iload_n 1, 1) := by decide +kernel
theorem dX9_becomes_238 : decode cX9_becomes 238 = .ok (.aload_n 0, 1) := by decide +kernel
theorem dX9_becomes_239 : decode cX9_becomes 239 = .ok (.getfield 26, 3) := by decide +kernel
theorem dX9_becomes_242 : decode cX9_becomes 242 = .ok (.bipush 45, 2) := by decide +kernel
theorem dX9_becomes_244 : decode cX9_becomes 244 = .ok (.iconst 2, 1) := by decide +kernel
theorem dX9_becomes_245 : decode cX9_becomes 245 = .ok (.iload_n 1, 1) := by decide +kernel
theorem dX9_becomes_246 : decode cX9_becomes 246 = .ok (.imul, 1) := by decide +kernel
theorem dX9_becomes_247 : decode cX9_becomes 247 = .ok (.iadd, 1) := by decide +kernel
theorem dX9_becomes_248 : decode cX9_becomes 248 = .ok (.iaload, 1) := by decide +kernel
theorem dX9_becomes_249 : decode cX9_becomes 249 = .ok (.iastore, 1) := by decide +kernel
theorem dX9_becomes_250 : decode cX9_becomes 250 = .ok (.iinc 1 1, 3) := by decide +kernel
theorem dX9_becomes_253 : decode cX9_becomes 253 = .ok (.goto (-49), 3) := by decide +kernel
theorem dX9_becomes_256 : decode cX9_becomes 256 = .ok (.aload_n 0, 1) := by decide +kernel
theorem dX9_becomes_257 : decode cX9_becomes 257 = .ok (.iconst 0, 1) := by decide +kernel
theorem dX9_becomes_258 : decode cX9_becomes 258 = .ok (.putfield 190, 3) := by decide +kernel
theorem dX9_becomes_261 : decode cX9_becomes 261 = .ok (.aload_n 0, 1) := by decide +kernel
theorem dX9_becomes_262 : decode cX9_becomes 262 = .ok (.iconst 0, 1) := by decide +kernel
theorem dX9_becomes_263 : decode cX9_becomes 263 = .ok (.putfield 193, 3) := by decide +kernel
theorem dX9_becomes_266 : decode cX9_becomes 266 = .ok (.aload_n 0, 1) := by decide +kernel
theorem dX9_becomes_267 : decode cX9_becomes 267 = .ok (.getfield 57, 3) := by decide +kernel
theorem dX9_becomes_270 : decode cX9_becomes 270 = .ok (.iconst 0, 1) := by decide +kernel
theorem dX9_becomes_271 : decode cX9_becomes 271 = .ok (.iconst 0, 1) := by decide +kernel
theorem dX9_becomes_272 : decode cX9_becomes 272 = .ok (.bastore, 1) := by decide +kernel
theorem dX9_becomes_273 : decode cX9_becomes 273 = .ok (.aload_n 0, 1) := by decide +kernel
theorem dX9_becomes_274 : decode cX9_becomes 274 = .ok (.getfield 57, 3) := by decide +kernel
theorem dX9_becomes_277 : decode cX9_becomes 277 = .ok (.iconst 1, 1) := by decide +kernel
theorem dX9_becomes_278 : decode cX9_becomes 278 = .ok (.iconst 0, 1) := by decide +kernel
theorem dX9_becomes_279 : decode cX9_becomes 279 = .ok (.bastore, 1) := by decide +kernel
theorem dX9_becomes_280 : decode cX9_becomes 280 = .ok (.return_, 1) := by decide +kernel
theorem dX9_palace_0 : decode cX9_palace 0 = .ok (.aload_n 0, 1) := by decide +kernel
theorem dX9_palace_1 : decode cX9_palace 1 = .ok (.iconst 0, 1) := by decide +kernel
theorem dX9_palace_2 : decode cX9_palace 2 = .ok (.putfield 147, 3) := by decide +kernel
theorem dX9_palace_5 : decode cX9_palace 5 = .ok (.aload_n 0, 1) := by decide +kernel
theorem dX9_palace_6 : decode cX9_palace 6 = .ok (.iconst 0, 1) := by decide +kernel
theorem dX9_palace_7 : decode cX9_palace 7 = .ok (.putfield 154, 3) := by decide +kernel
theorem dX9_palace_10 : decode cX9_palace 10 = .ok (.aload_n 0, 1) := by decide +kernel
theorem dX9_palace_11 : decode cX9_palace 11 = .ok (.getfield 26, 3) := by decide +kernel
theorem dX9_palace_14 : decode cX9_palace 14 = .ok (.iconst 0, 1) := by decide +kernel
theorem dX9_palace_15 : decode cX9_palace 15 = .ok (.iconst (-1), 1) := by decide +kernel
theorem dX9_palace_16 : decode cX9_palace 16 = .ok (.iastore, 1) := by decide +kernel
theorem dX9_palace_17 : decode cX9_palace 17 = .ok (.iconst 1, 1) := by decide +kernel
theorem dX9_palace_18 : decode cX9_palace 18 = .ok (.istore_n 1, 1) := by decide +kernel
theorem dX9_palace_19 : decode cX9_palace 19 = .ok (.iload_n 1, 1) := by decide +kernel
theorem dX9_palace_20 : decode cX9_palace 20 = .ok (.iconst 4, 1) := by decide +kernel
theorem dX9_palace_21 : decode cX9_palace 21 = .ok (.if_icmp .ge 16, 3) := by decide +kernel
theorem dX9_palace_24 : decode cX9_palace 24 = .ok (.aload_n 0, 1) := by decide +kernel
theorem dX9_palace_25 : decode cX9_palace 25 = .ok (.getfield 26, 3) := by decide +kernel
theorem dX9_palace_28 : decode cX9_palace 28 = .ok (.iload_n 1, 1) := by decide +kernel
theorem dX9_palace_29 : decode cX9_palace 29 = .ok (.iconst 0, 1) := by decide +kernel
theorem dX9_palace_30 : decode cX9_palace 30 = .ok (.iastore, 1) := by decide +kernel
theorem dX9_palace_31 : decode cX9_palace 31 = .ok (.iinc 1 1, 3) := by decide +kernel
theorem dX9_palace_34 : decode cX9_palace 34 = .ok (.goto (-15), 3) := by decide +kernel
theorem dX9_palace_37 : decode cX9_palace 37 = .ok (.aload_n 0, 1) := by decide +kernel
theorem dX9_palace_38 : decode cX9_palace 38 = .ok (.invokevirtual 157, 3) := by decide +kernel
theorem dX9_palace_41 : decode cX9_palace 41 = .ok (.iconst (-1), 1) := by decide +kernel
theorem dX9_palace_42 : decode cX9_palace 42 = .ok (.if_icmp .eq 7, 3) := by decide +kernel
theorem dX9_palace_45 : decode cX9_palace 45 = .ok (.iconst 1, 1) := by decide +kernel
theorem dX9_palace_46 : decode cX9_palace 46 = .ok (.goto 4, 3) := by decide +kernel
theorem dX9_palace_49 : decode cX9_palace 49 = .ok (.iconst 0, 1) := by decide +kernel
theorem dX9_palace_50 : decode cX9_palace 50 = .ok (.istore_n 1, 1) := by decide +kernel
theorem dX9_palace_51 : decode cX9_palace 51 = .ok (.iload_n 1, 1) := by decide +kernel
theorem dX9_palace_52 : decode cX9_palace 52 = .ok (.ifCond .eq 31, 3) := by decide +kernel
theorem dX9_palace_55 : decode cX9_palace 55 = .ok (.aload_n 0, 1) := by decide +kernel
theorem dX9_palace_56 : decode cX9_palace 56 = .ok (.invokevirtual 196, 3) := by decide +kernel
theorem dX9_palace_59 : decode cX9_palace 59 = .ok (.aload_n 0, 1) := by decide +kernel
theorem dX9_palace_60 : decode cX9_palace 60 = .ok (.getfield 154, 3) := by decide +kernel
theorem dX9_palace_63 : decode cX9_palace 63 = .ok (.ifCond .ne 15, 3) := by decide +kernel
theorem dX9_palace_66 : decode cX9_palace 66 = .ok (.aload_n 0, 1) := by decide +kernel
theorem dX9_palace_67 : decode cX9_palace 67 = .ok (.invokevirtual 157, 3) := by decide +kernel
theorem dX9_palace_70 : decode cX9_palace 70 = .ok (.iconst (-1), 1) := by decide +kernel
theorem dX9_palace_71 : decode cX9_palace 71 = .ok (.if_icmp .eq 7, 3) := by decide +kernel
theorem dX9_palace_74 : decode cX9_palace 74 = .ok (.iconst 1, 1) := by decide +kernel
theorem dX9_palace_75 : decode cX9_palace 75 = .ok (.goto 4, 3) := by decide +kernel
theorem dX9_palace_78 : decode cX9_palace 78 = .ok (.iconst 0, 1) := by decide +kernel
theorem dX9_palace_79 : decode cX9_palace 79 = .ok (.istore_n 1, 1) := by decide +kernel
theorem dX9_palace_80 : decode cX9_palace 80 = .ok (.goto (-29), 3) := by decide +kernel
theorem dX9_palace_83 : decode cX9_palace 83 = .ok (.aload_n 0, 1) := by decide +kernel
theorem dX9_palace_84 : decode cX9_palace 84 = .ok (.iconst 0, 1) := by decide +kernel
theorem dX9_palace_85 : decode cX9_palace 85 = .ok (.putfield 143, 3) := by decide +kernel
theorem dX9_palace_88 : decode cX9_palace 88 = .ok (.aload_n 0, 1) := by decide +kernel
theorem dX9_palace_89 : decode cX9_palace 89 = .ok (.aload_n 0, 1) := by decide +kernel
theorem dX9_palace_90 : decode cX9_palace 90 = .ok (.getfield 154, 3) := by decide +kernel
theorem dX9_palace_93 : decode cX9_palace 93 = .ok (.ifCond .ne 7, 3) := by decide +kernel
theorem dX9_palace_96 : decode cX9_palace 96 = .ok (.iconst (-1), 1) := by decide +kernel
theorem dX9_palace_97 : decode cX9_palace 97 = .ok (.goto 7, 3) := by decide +kernel
theorem dX9_palace_100 : decode cX9_palace 100 = .ok (.aload_n 0, 1) := by decide +kernel
theorem dX9_palace_101 : decode cX9_palace 101 = .ok (.getfield 147, 3) := by decide +kernel
theorem dX9_palace_104 : decode cX9_palace 104 = .ok (.putfield 60, 3) := by decide +kernel
theorem dX9_palace_107 : decode cX9_palace 107 = .ok (.aload_n 0, 1) := by decide +kernel
theorem dX9_palace_108 : decode cX9_palace 108 = .ok (.getfield 154, 3) := by decide +kernel
theorem dX9_palace_111 : decode cX9_palace 111 = .ok (.ifCond .le 11, 3) := by decide +kernel
theorem dX9_palace_114 : decode cX9_palace 114 = .ok (.bipush (-10), 2) := by decide +kernel
theorem dX9_palace_116 : decode cX9_palace 116 = .ok (.aload_n 0, 1) := by decide +kernel
theorem dX9_palace_117 : decode cX9_palace 117 = .ok (.getfield 154, 3) := by decide +kernel
theorem dX9_palace_120 : decode cX9_palace 120 = .ok (.isub, 1) := by decide +kernel
theorem dX9_palace_121 : decode cX9_palace 121 = .ok (.ireturn, 1) := by decide +kernel
theorem dX9_palace_122 : decode cX9_palace 122 = .ok (.aload_n 0, 1) := by decide +kernel
theorem dX9_palace_123 : decode cX9_palace 123 = .ok (.invokevirtual 199, 3) := by decide +kernel
theorem dX9_palace_126 : decode cX9_palace 126 = .ok (.aload_n 0, 1) := by decide +kernel
theorem dX9_palace_127 : decode cX9_palace 127 = .ok (.getfield 64, 3) := by decide +kernel
theorem dX9_palace_130 : decode cX9_palace 130 = .ok (.ireturn, 1) := by decide +kernel
theorem dX9_fault_0 : decode cX9_fault 0 = .ok (.aload_n 0, 1) := by decide +kernel
theorem dX9_fault_1 : decode cX9_fault 1 = .ok (.getfield 60, 3) := by decide +kernel
theorem dX9_fault_4 : decode cX9_fault 4 = .ok (.ireturn, 1) := by decide +kernel
theorem dX9_told_0 : decode cX9_told 0 = .ok (.iload_n 1, 1) := by decide +kernel
theorem dX9_told_1 : decode cX9_told 1 = .ok (.tableswitch 195 0 15 #[79, 84, 89, 94, 99, 116, 122, 139, 145, 151, 157, 164, 171, 178, 185, 190], 79) := by decide +kernel
theorem dX9_told_80 : decode cX9_told 80 = .ok (.aload_n 0, 1) := by decide +kernel
theorem dX9_told_81 : decode cX9_told 81 = .ok (.getfield 64, 3) := by decide +kernel
theorem dX9_told_84 : decode cX9_told 84 = .ok (.ireturn, 1) := by decide +kernel
theorem dX9_told_85 : decode cX9_told 85 = .ok (.aload_n 0, 1) := by decide +kernel
theorem dX9_told_86 : decode cX9_told 86 = .ok (.getfield 71, 3) := by decide +kernel
theorem dX9_told_89 : decode cX9_told 89 = .ok (.ireturn, 1) := by decide +kernel
theorem dX9_told_90 : decode cX9_told 90 = .ok (.aload_n 0, 1) := by decide +kernel
theorem dX9_told_91 : decode cX9_told 91 = .ok (.getfield 74, 3) := by decide +kernel
theorem dX9_told_94 : decode cX9_told 94 = .ok (.ireturn, 1) := by decide +kernel
theorem dX9_told_95 : decode cX9_told 95 = .ok (.aload_n 0, 1) := by decide +kernel
theorem dX9_told_96 : decode cX9_told 96 = .ok (.getfield 143, 3) := by decide +kernel
theorem dX9_told_99 : decode cX9_told 99 = .ok (.ireturn, 1) := by decide +kernel
theorem dX9_told_100 : decode cX9_told 100 = .ok (.aload_n 0, 1) := by decide +kernel
theorem dX9_told_101 : decode cX9_told 101 = .ok (.getfield 186, 3) := by decide +kernel
theorem dX9_told_104 : decode cX9_told 104 = .ok (.ifCond .eq 11, 3) := by decide +kernel
theorem dX9_told_107 : decode cX9_told 107 = .ok (.aload_n 0, 1) := by decide +kernel
theorem dX9_told_108 : decode cX9_told 108 = .ok (.iconst 0, 1) := by decide +kernel
theorem dX9_told_109 : decode cX9_told 109 = .ok (.invokevirtual 97, 3) := by decide +kernel
theorem dX9_told_112 : decode cX9_told 112 = .ok (.goto 4, 3) := by decide +kernel
theorem dX9_told_115 : decode cX9_told 115 = .ok (.iconst (-1), 1) := by decide +kernel
theorem dX9_told_116 : decode cX9_told 116 = .ok (.ireturn, 1) := by decide +kernel
theorem dX9_told_117 : decode cX9_told 117 = .ok (.aload_n 0, 1) := by decide +kernel
theorem dX9_told_118 : decode cX9_told 118 = .ok (.iconst 1, 1) := by decide +kernel
theorem dX9_told_119 : decode cX9_told 119 = .ok (.invokevirtual 97, 3) := by decide +kernel
theorem dX9_told_122 : decode cX9_told 122 = .ok (.ireturn, 1) := by decide +kernel
theorem dX9_told_123 : decode cX9_told 123 = .ok (.aload_n 0, 1) := by decide +kernel
theorem dX9_told_124 : decode cX9_told 124 = .ok (.getfield 64, 3) := by decide +kernel
theorem dX9_told_127 : decode cX9_told 127 = .ok (.ifCond .ne 7, 3) := by decide +kernel
theorem dX9_told_130 : decode cX9_told 130 = .ok (.iconst (-1), 1) := by decide +kernel
theorem dX9_told_131 : decode cX9_told 131 = .ok (.goto 8, 3) := by decide +kernel
theorem dX9_told_134 : decode cX9_told 134 = .ok (.aload_n 0, 1) := by decide +kernel
theorem dX9_told_135 : decode cX9_told 135 = .ok (.iconst 2, 1) := by decide +kernel
theorem dX9_told_136 : decode cX9_told 136 = .ok (.invokevirtual 97, 3) := by decide +kernel
theorem dX9_told_139 : decode cX9_told 139 = .ok (.ireturn, 1) := by decide +kernel
theorem dX9_told_140 : decode cX9_told 140 = .ok (.aload_n 0, 1) := by decide +kernel
theorem dX9_told_141 : decode cX9_told 141 = .ok (.iconst 3, 1) := by decide +kernel
theorem dX9_told_142 : decode cX9_told 142 = .ok (.invokevirtual 97, 3) := by decide +kernel
theorem dX9_told_145 : decode cX9_told 145 = .ok (.ireturn, 1) := by decide +kernel
theorem dX9_told_146 : decode cX9_told 146 = .ok (.aload_n 0, 1) := by decide +kernel
theorem dX9_told_147 : decode cX9_told 147 = .ok (.iconst 4, 1) := by decide +kernel
theorem dX9_told_148 : decode cX9_told 148 = .ok (.invokevirtual 97, 3) := by decide +kernel
theorem dX9_told_151 : decode cX9_told 151 = .ok (.ireturn, 1) := by decide +kernel
theorem dX9_told_152 : decode cX9_told 152 = .ok (.aload_n 0, 1) := by decide +kernel
theorem dX9_told_153 : decode cX9_told 153 = .ok (.iconst 5, 1) := by decide +kernel
theorem dX9_told_154 : decode cX9_told 154 = .ok (.invokevirtual 97, 3) := by decide +kernel
theorem dX9_told_157 : decode cX9_told 157 = .ok (.ireturn, 1) := by decide +kernel
theorem dX9_told_158 : decode cX9_told 158 = .ok (.aload_n 0, 1) := by decide +kernel
theorem dX9_told_159 : decode cX9_told 159 = .ok (.bipush 6, 2) := by decide +kernel
theorem dX9_told_161 : decode cX9_told 161 = .ok (.invokevirtual 97, 3) := by decide +kernel
theorem dX9_told_164 : decode cX9_told 164 = .ok (.ireturn, 1) := by decide +kernel
theorem dX9_told_165 : decode cX9_told 165 = .ok (.aload_n 0, 1) := by decide +kernel
theorem dX9_told_166 : decode cX9_told 166 = .ok (.bipush 7, 2) := by decide +kernel
theorem dX9_told_168 : decode cX9_told 168 = .ok (.invokevirtual 97, 3) := by decide +kernel
theorem dX9_told_171 : decode cX9_told 171 = .ok (.ireturn, 1) := by decide +kernel
theorem dX9_told_172 : decode cX9_told 172 = .ok (.aload_n 0, 1) := by decide +kernel
theorem dX9_told_173 : decode cX9_told 173 = .ok (.bipush 8, 2) := by decide +kernel
theorem dX9_told_175 : decode cX9_told 175 = .ok (.invokevirtual 97, 3) := by decide +kernel
theorem dX9_told_178 : decode cX9_told 178 = .ok (.ireturn, 1) := by decide +kernel
theorem dX9_told_179 : decode cX9_told 179 = .ok (.aload_n 0, 1) := by decide +kernel
theorem dX9_told_180 : decode cX9_told 180 = .ok (.bipush 9, 2) := by decide +kernel
theorem dX9_told_182 : decode cX9_told 182 = .ok (.invokevirtual 97, 3) := by decide +kernel
theorem dX9_told_185 : decode cX9_told 185 = .ok (.ireturn, 1) := by decide +kernel
theorem dX9_told_186 : decode cX9_told 186 = .ok (.aload_n 0, 1) := by decide +kernel
theorem dX9_told_187 : decode cX9_told 187 = .ok (.getfield 190, 3) := by decide +kernel
theorem dX9_told_190 : decode cX9_told 190 = .ok (.ireturn, 1) := by decide +kernel
theorem dX9_told_191 : decode cX9_told 191 = .ok (.aload_n 0, 1) := by decide +kernel
theorem dX9_told_192 : decode cX9_told 192 = .ok (.getfield 193, 3) := by decide +kernel
theorem dX9_told_195 : decode cX9_told 195 = .ok (.ireturn, 1) := by decide +kernel
theorem dX9_told_196 : decode cX9_told 196 = .ok (.ldc 142, 2) := by decide +kernel
theorem dX9_told_198 : decode cX9_told 198 = .ok (.ireturn, 1) := by decide +kernel
theorem dX9_beside_0 : decode cX9_beside 0 = .ok (.iconst 0, 1) := by decide +kernel
theorem dX9_beside_1 : decode cX9_beside 1 = .ok (.istore_n 2, 1) := by decide +kernel
theorem dX9_beside_2 : decode cX9_beside 2 = .ok (.iconst 0, 1) := by decide +kernel
theorem dX9_beside_3 : decode cX9_beside 3 = .ok (.istore_n 3, 1) := by decide +kernel
theorem dX9_beside_4 : decode cX9_beside 4 = .ok (.iload_n 3, 1) := by decide +kernel
theorem dX9_beside_5 : decode cX9_beside 5 = .ok (.aload_n 0, 1) := by decide +kernel
theorem dX9_beside_6 : decode cX9_beside 6 = .ok (.getfield 64, 3) := by decide +kernel
theorem dX9_beside_9 : decode cX9_beside 9 = .ok (.if_icmp .ge 48, 3) := by decide +kernel
theorem dX9_beside_12 : decode cX9_beside 12 = .ok (.aload_n 0, 1) := by decide +kernel
theorem dX9_beside_13 : decode cX9_beside 13 = .ok (.iload_n 1, 1) := by decide +kernel
theorem dX9_beside_14 : decode cX9_beside 14 = .ok (.iload_n 3, 1) := by decide +kernel
theorem dX9_beside_15 : decode cX9_beside 15 = .ok (.invokevirtual 81, 3) := by decide +kernel
theorem dX9_beside_18 : decode cX9_beside 18 = .ok (.istore 4, 2) := by decide +kernel
theorem dX9_beside_20 : decode cX9_beside 20 = .ok (.iload_n 2, 1) := by decide +kernel
theorem dX9_beside_21 : decode cX9_beside 21 = .ok (.iload 4, 2) := by decide +kernel
theorem dX9_beside_23 : decode cX9_beside 23 = .ok (.iconst (-1), 1) := by decide +kernel
theorem dX9_beside_24 : decode cX9_beside 24 = .ok (.if_icmp .eq 24, 3) := by decide +kernel
theorem dX9_beside_27 : decode cX9_beside 27 = .ok (.aload_n 0, 1) := by decide +kernel
theorem dX9_beside_28 : decode cX9_beside 28 = .ok (.getfield 19, 3) := by decide +kernel
theorem dX9_beside_31 : decode cX9_beside 31 = .ok (.bipush 6, 2) := by decide +kernel
theorem dX9_beside_33 : decode cX9_beside 33 = .ok (.laload, 1) := by decide +kernel
theorem dX9_beside_34 : decode cX9_beside 34 = .ok (.iload 4, 2) := by decide +kernel
theorem dX9_beside_36 : decode cX9_beside 36 = .ok (.invokestatic 85, 3) := by decide +kernel
theorem dX9_beside_39 : decode cX9_beside 39 = .ok (.ifCond .ne 9, 3) := by decide +kernel
theorem dX9_beside_42 : decode cX9_beside 42 = .ok (.iconst 1, 1) := by decide +kernel
theorem dX9_beside_43 : decode cX9_beside 43 = .ok (.iload_n 3, 1) := by decide +kernel
theorem dX9_beside_44 : decode cX9_beside 44 = .ok (.ishl, 1) := by decide +kernel
theorem dX9_beside_45 : decode cX9_beside 45 = .ok (.goto 4, 3) := by decide +kernel
theorem dX9_beside_48 : decode cX9_beside 48 = .ok (.iconst 0, 1) := by decide +kernel
theorem dX9_beside_49 : decode cX9_beside 49 = .ok (.ior, 1) := by decide +kernel
theorem dX9_beside_50 : decode cX9_beside 50 = .ok (.istore_n 2, 1) := by decide +kernel
theorem dX9_beside_51 : decode cX9_beside 51 = .ok (.iinc 3 1, 3) := by decide +kernel
theorem dX9_beside_54 : decode cX9_beside 54 = .ok (.goto (-50), 3) := by decide +kernel
theorem dX9_beside_57 : decode cX9_beside 57 = .ok (.iload_n 2, 1) := by decide +kernel
theorem dX9_beside_58 : decode cX9_beside 58 = .ok (.ireturn, 1) := by decide +kernel
theorem dX9_room_0 : decode cX9_room 0 = .ok (.aload_n 0, 1) := by decide +kernel
theorem dX9_room_1 : decode cX9_room 1 = .ok (.iload_n 1, 1) := by decide +kernel
theorem dX9_room_2 : decode cX9_room 2 = .ok (.invokevirtual 202, 3) := by decide +kernel
theorem dX9_room_5 : decode cX9_room 5 = .ok (.ifCond .ne 6, 3) := by decide +kernel
theorem dX9_room_8 : decode cX9_room 8 = .ok (.ldc 205, 2) := by decide +kernel
theorem dX9_room_10 : decode cX9_room 10 = .ok (.ireturn, 1) := by decide +kernel
theorem dX9_room_11 : decode cX9_room 11 = .ok (.iload_n 2, 1) := by decide +kernel
theorem dX9_room_12 : decode cX9_room 12 = .ok (.tableswitch 123 0 4 #[36, 45, 54, 98, 104], 36) := by decide +kernel
theorem dX9_room_48 : decode cX9_room 48 = .ok (.aload_n 0, 1) := by decide +kernel
theorem dX9_room_49 : decode cX9_room 49 = .ok (.bipush 10, 2) := by decide +kernel
theorem dX9_room_51 : decode cX9_room 51 = .ok (.iload_n 1, 1) := by decide +kernel
theorem dX9_room_52 : decode cX9_room 52 = .ok (.iadd, 1) := by decide +kernel
theorem dX9_room_53 : decode cX9_room 53 = .ok (.invokevirtual 97, 3) := by decide +kernel
theorem dX9_room_56 : decode cX9_room 56 = .ok (.ireturn, 1) := by decide +kernel
theorem dX9_room_57 : decode cX9_room 57 = .ok (.aload_n 0, 1) := by decide +kernel
theorem dX9_room_58 : decode cX9_room 58 = .ok (.bipush 18, 2) := by decide +kernel
theorem dX9_room_60 : decode cX9_room 60 = .ok (.iload_n 1, 1) := by decide +kernel
theorem dX9_room_61 : decode cX9_room 61 = .ok (.iadd, 1) := by decide +kernel
theorem dX9_room_62 : decode cX9_room 62 = .ok (.invokevirtual 97, 3) := by decide +kernel
theorem dX9_room_65 : decode cX9_room 65 = .ok (.ireturn, 1) := by decide +kernel
theorem dX9_room_66 : decode cX9_room 66 = .ok (.aload_n 0, 1) := by decide +kernel
theorem dX9_room_67 : decode cX9_room 67 = .ok (.iconst 0, 1) := by decide +kernel
theorem dX9_room_68 : decode cX9_room 68 = .ok (.invokevirtual 97, 3) := by decide +kernel
theorem dX9_room_71 : decode cX9_room 71 = .ok (.aload_n 0, 1) := by decide +kernel
theorem dX9_room_72 : decode cX9_room 72 = .ok (.bipush 10, 2) := by decide +kernel
theorem dX9_room_74 : decode cX9_room 74 = .ok (.iload_n 1, 1) := by decide +kernel
theorem dX9_room_75 : decode cX9_room 75 = .ok (.iadd, 1) := by decide +kernel
theorem dX9_room_76 : decode cX9_room 76 = .ok (.invokevirtual 97, 3) := by decide +kernel
theorem dX9_room_79 : decode cX9_room 79 = .ok (.aload_n 0, 1) := by decide +kernel
theorem dX9_room_80 : decode cX9_room 80 = .ok (.getfield 19, 3) := by decide +kernel
theorem dX9_room_83 : decode cX9_room 83 = .ok (.iconst 4, 1) := by decide +kernel
theorem dX9_room_84 : decode cX9_room 84 = .ok (.laload, 1) := by decide +kernel
theorem dX9_room_85 : decode cX9_room 85 = .ok (.iload_n 1, 1) := by decide +kernel
theorem dX9_room_86 : decode cX9_room 86 = .ok (.invokestatic 85, 3) := by decide +kernel
theorem dX9_room_89 : decode cX9_room 89 = .ok (.aload_n 0, 1) := by decide +kernel
theorem dX9_room_90 : decode cX9_room 90 = .ok (.invokevirtual 105, 3) := by decide +kernel
theorem dX9_room_93 : decode cX9_room 93 = .ok (.iconst 4, 1) := by decide +kernel
theorem dX9_room_94 : decode cX9_room 94 = .ok (.iload_n 1, 1) := by decide +kernel
theorem dX9_room_95 : decode cX9_room 95 = .ok (.imul, 1) := by decide +kernel
theorem dX9_room_96 : decode cX9_room 96 = .ok (.lshr, 1) := by decide +kernel
theorem dX9_room_97 : decode cX9_room 97 = .ok (.ldc2_w 89, 3) := by decide +kernel
theorem dX9_room_100 : decode cX9_room 100 = .ok (.land, 1) := by decide +kernel
theorem dX9_room_101 : decode cX9_room 101 = .ok (.l2i, 1) := by decide +kernel
theorem dX9_room_102 : decode cX9_room 102 = .ok (.aload_n 0, 1) := by decide +kernel
theorem dX9_room_103 : decode cX9_room 103 = .ok (.invokevirtual 108, 3) := by decide +kernel
theorem dX9_room_106 : decode cX9_room 106 = .ok (.invokestatic 91, 3) := by decide +kernel
theorem dX9_room_109 : decode cX9_room 109 = .ok (.ireturn, 1) := by decide +kernel
theorem dX9_room_110 : decode cX9_room 110 = .ok (.aload_n 0, 1) := by decide +kernel
theorem dX9_room_111 : decode cX9_room 111 = .ok (.iload_n 1, 1) := by decide +kernel
theorem dX9_room_112 : decode cX9_room 112 = .ok (.invokevirtual 206, 3) := by decide +kernel
theorem dX9_room_115 : decode cX9_room 115 = .ok (.ireturn, 1) := by decide +kernel
theorem dX9_room_116 : decode cX9_room 116 = .ok (.aload_n 0, 1) := by decide +kernel
theorem dX9_room_117 : decode cX9_room 117 = .ok (.getfield 19, 3) := by decide +kernel
theorem dX9_room_120 : decode cX9_room 120 = .ok (.iconst 5, 1) := by decide +kernel
theorem dX9_room_121 : decode cX9_room 121 = .ok (.laload, 1) := by decide +kernel
theorem dX9_room_122 : decode cX9_room 122 = .ok (.iload_n 1, 1) := by decide +kernel
theorem dX9_room_123 : decode cX9_room 123 = .ok (.invokestatic 85, 3) := by decide +kernel
theorem dX9_room_126 : decode cX9_room 126 = .ok (.ifCond .eq 7, 3) := by decide +kernel
theorem dX9_room_129 : decode cX9_room 129 = .ok (.iconst 1, 1) := by decide +kernel
theorem dX9_room_130 : decode cX9_room 130 = .ok (.goto 4, 3) := by decide +kernel
theorem dX9_room_133 : decode cX9_room 133 = .ok (.iconst 0, 1) := by decide +kernel
theorem dX9_room_134 : decode cX9_room 134 = .ok (.ireturn, 1) := by decide +kernel
theorem dX9_room_135 : decode cX9_room 135 = .ok (.ldc 142, 2) := by decide +kernel
theorem dX9_room_137 : decode cX9_room 137 = .ok (.ireturn, 1) := by decide +kernel
theorem dX9_petition_0 : decode cX9_petition 0 = .ok (.aload_n 0, 1) := by decide +kernel
theorem dX9_petition_1 : decode cX9_petition 1 = .ok (.iload_n 1, 1) := by decide +kernel
theorem dX9_petition_2 : decode cX9_petition 2 = .ok (.invokevirtual 209, 3) := by decide +kernel
theorem dX9_petition_5 : decode cX9_petition 5 = .ok (.ifCond .ne 6, 3) := by decide +kernel
theorem dX9_petition_8 : decode cX9_petition 8 = .ok (.ldc 205, 2) := by decide +kernel
theorem dX9_petition_10 : decode cX9_petition 10 = .ok (.ireturn, 1) := by decide +kernel
theorem dX9_petition_11 : decode cX9_petition 11 = .ok (.iload_n 2, 1) := by decide +kernel
theorem dX9_petition_12 : decode cX9_petition 12 = .ok (.ifCond .ne 14, 3) := by decide +kernel
theorem dX9_petition_15 : decode cX9_petition 15 = .ok (.aload_n 0, 1) := by decide +kernel
theorem dX9_petition_16 : decode cX9_petition 16 = .ok (.bipush 26, 2) := by decide +kernel
theorem dX9_petition_18 : decode cX9_petition 18 = .ok (.iload_n 1, 1) := by decide +kernel
theorem dX9_petition_19 : decode cX9_petition 19 = .ok (.iadd, 1) := by decide +kernel
theorem dX9_petition_20 : decode cX9_petition 20 = .ok (.invokevirtual 97, 3) := by decide +kernel
theorem dX9_petition_23 : decode cX9_petition 23 = .ok (.goto 46, 3) := by decide +kernel
theorem dX9_petition_26 : decode cX9_petition 26 = .ok (.iload_n 2, 1) := by decide +kernel
theorem dX9_petition_27 : decode cX9_petition 27 = .ok (.iconst 1, 1) := by decide +kernel
theorem dX9_petition_28 : decode cX9_petition 28 = .ok (.if_icmp .ne 12, 3) := by decide +kernel
theorem dX9_petition_31 : decode cX9_petition 31 = .ok (.aload_n 0, 1) := by decide +kernel
theorem dX9_petition_32 : decode cX9_petition 32 = .ok (.getfield 16, 3) := by decide +kernel
theorem dX9_petition_35 : decode cX9_petition 35 = .ok (.iload_n 1, 1) := by decide +kernel
theorem dX9_petition_36 : decode cX9_petition 36 = .ok (.iaload, 1) := by decide +kernel
theorem dX9_petition_37 : decode cX9_petition 37 = .ok (.goto 32, 3) := by decide +kernel
theorem dX9_petition_40 : decode cX9_petition 40 = .ok (.iload_n 2, 1) := by decide +kernel
theorem dX9_petition_41 : decode cX9_petition 41 = .ok (.iconst 2, 1) := by decide +kernel
theorem dX9_petition_42 : decode cX9_petition 42 = .ok (.if_icmp .ne 25, 3) := by decide +kernel
theorem dX9_petition_45 : decode cX9_petition 45 = .ok (.aload_n 0, 1) := by decide +kernel
theorem dX9_petition_46 : decode cX9_petition 46 = .ok (.getfield 19, 3) := by decide +kernel
theorem dX9_petition_49 : decode cX9_petition 49 = .ok (.bipush 7, 2) := by decide +kernel
theorem dX9_petition_51 : decode cX9_petition 51 = .ok (.laload, 1) := by decide +kernel
theorem dX9_petition_52 : decode cX9_petition 52 = .ok (.iload_n 1, 1) := by decide +kernel
theorem dX9_petition_53 : decode cX9_petition 53 = .ok (.invokestatic 85, 3) := by decide +kernel
theorem dX9_petition_56 : decode cX9_petition 56 = .ok (.ifCond .eq 7, 3) := by decide +kernel
theorem dX9_petition_59 : decode cX9_petition 59 = .ok (.iconst 1, 1) := by decide +kernel
theorem dX9_petition_60 : decode cX9_petition 60 = .ok (.goto 9, 3) := by decide +kernel
theorem dX9_petition_63 : decode cX9_petition 63 = .ok (.iconst 0, 1) := by decide +kernel
theorem dX9_petition_64 : decode cX9_petition 64 = .ok (.goto 5, 3) := by decide +kernel
theorem dX9_petition_67 : decode cX9_petition 67 = .ok (.ldc 142, 2) := by decide +kernel
theorem dX9_petition_69 : decode cX9_petition 69 = .ok (.ireturn, 1) := by decide +kernel
theorem dX9_went_0 : decode cX9_went 0 = .ok (.iload_n 1, 1) := by decide +kernel
theorem dX9_went_1 : decode cX9_went 1 = .ok (.i2l, 1) := by decide +kernel
theorem dX9_went_2 : decode cX9_went 2 = .ok (.lconst 0, 1) := by decide +kernel
theorem dX9_went_3 : decode cX9_went 3 = .ok (.aload_n 0, 1) := by decide +kernel
theorem dX9_went_4 : decode cX9_went 4 = .ok (.getfield 19, 3) := by decide +kernel
theorem dX9_went_7 : decode cX9_went 7 = .ok (.bipush 9, 2) := by decide +kernel
theorem dX9_went_9 : decode cX9_went 9 = .ok (.laload, 1) := by decide +kernel
theorem dX9_went_10 : decode cX9_went 10 = .ok (.lconst 1, 1) := by decide +kernel
theorem dX9_went_11 : decode cX9_went 11 = .ok (.lsub, 1) := by decide +kernel
theorem dX9_went_12 : decode cX9_went 12 = .ok (.invokestatic 67, 3) := by decide +kernel
theorem dX9_went_15 : decode cX9_went 15 = .ok (.ifCond .ne 5, 3) := by decide +kernel
theorem dX9_went_18 : decode cX9_went 18 = .ok (.iconst (-1), 1) := by decide +kernel
theorem dX9_went_19 : decode cX9_went 19 = .ok (.ireturn, 1) := by decide +kernel
theorem dX9_went_20 : decode cX9_went 20 = .ok (.aload_n 0, 1) := by decide +kernel
theorem dX9_went_21 : decode cX9_went 21 = .ok (.bipush 9, 2) := by decide +kernel
theorem dX9_went_23 : decode cX9_went 23 = .ok (.invokevirtual 97, 3) := by decide +kernel
theorem dX9_went_26 : decode cX9_went 26 = .ok (.iconst 1, 1) := by decide +kernel
theorem dX9_went_27 : decode cX9_went 27 = .ok (.isub, 1) := by decide +kernel
theorem dX9_went_28 : decode cX9_went 28 = .ok (.iload_n 1, 1) := by decide +kernel
theorem dX9_went_29 : decode cX9_went 29 = .ok (.isub, 1) := by decide +kernel
theorem dX9_went_30 : decode cX9_went 30 = .ok (.istore_n 2, 1) := by decide +kernel
theorem dX9_went_31 : decode cX9_went 31 = .ok (.bipush 10, 2) := by decide +kernel
theorem dX9_went_33 : decode cX9_went 33 = .ok (.aload_n 0, 1) := by decide +kernel
theorem dX9_went_34 : decode cX9_went 34 = .ok (.iload_n 2, 1) := by decide +kernel
theorem dX9_went_35 : decode cX9_went 35 = .ok (.invokevirtual 212, 3) := by decide +kernel
theorem dX9_went_38 : decode cX9_went 38 = .ok (.imul, 1) := by decide +kernel
theorem dX9_went_39 : decode cX9_went 39 = .ok (.aload_n 0, 1) := by decide +kernel
theorem dX9_went_40 : decode cX9_went 40 = .ok (.iload_n 2, 1) := by decide +kernel
theorem dX9_went_41 : decode cX9_went 41 = .ok (.invokevirtual 215, 3) := by decide +kernel
theorem dX9_went_44 : decode cX9_went 44 = .ok (.iadd, 1) := by decide +kernel
theorem dX9_went_45 : decode cX9_went 45 = .ok (.ireturn, 1) := by decide +kernel
theorem dX9_notes_0 : decode cX9_notes 0 = .ok (.aload_n 0, 1) := by decide +kernel
theorem dX9_notes_1 : decode cX9_notes 1 = .ok (.getfield 193, 3) := by decide +kernel
theorem dX9_notes_4 : decode cX9_notes 4 = .ok (.bipush 16, 2) := by decide +kernel
theorem dX9_notes_6 : decode cX9_notes 6 = .ok (.if_icmp .ne 40, 3) := by decide +kernel
theorem dX9_notes_9 : decode cX9_notes 9 = .ok (.bipush 80, 2) := by decide +kernel
theorem dX9_notes_11 : decode cX9_notes 11 = .ok (.istore_n 1, 1) := by decide +kernel
theorem dX9_notes_12 : decode cX9_notes 12 = .ok (.iload_n 1, 1) := by decide +kernel
theorem dX9_notes_13 : decode cX9_notes 13 = .ok (.sipush 1280, 3) := by decide +kernel
theorem dX9_notes_16 : decode cX9_notes 16 = .ok (.if_icmp .ge 24, 3) := by decide +kernel
theorem dX9_notes_19 : decode cX9_notes 19 = .ok (.aload_n 0, 1) := by decide +kernel
theorem dX9_notes_20 : decode cX9_notes 20 = .ok (.getfield 29, 3) := by decide +kernel
theorem dX9_notes_23 : decode cX9_notes 23 = .ok (.iload_n 1, 1) := by decide +kernel
theorem dX9_notes_24 : decode cX9_notes 24 = .ok (.bipush 80, 2) := by decide +kernel
theorem dX9_notes_26 : decode cX9_notes 26 = .ok (.isub, 1) := by decide +kernel
theorem dX9_notes_27 : decode cX9_notes 27 = .ok (.aload_n 0, 1) := by decide +kernel
theorem dX9_notes_28 : decode cX9_notes 28 = .ok (.getfield 29, 3) := by decide +kernel
theorem dX9_notes_31 : decode cX9_notes 31 = .ok (.iload_n 1, 1) := by decide +kernel
theorem dX9_notes_32 : decode cX9_notes 32 = .ok (.laload, 1) := by decide +kernel
theorem dX9_notes_33 : decode cX9_notes 33 = .ok (.lastore, 1) := by decide +kernel
theorem dX9_notes_34 : decode cX9_notes 34 = .ok (.iinc 1 1, 3) := by decide +kernel
theorem dX9_notes_37 : decode cX9_notes 37 = .ok (.goto (-25), 3) := by decide +kernel
theorem dX9_notes_40 : decode cX9_notes 40 = .ok (.aload_n 0, 1) := by decide +kernel
theorem dX9_notes_41 : decode cX9_notes 41 = .ok (.bipush 15, 2) := by decide +kernel
theorem dX9_notes_43 : decode cX9_notes 43 = .ok (.putfield 193, 3) := by decide +kernel
theorem dX9_notes_46 : decode cX9_notes 46 = .ok (.iconst 0, 1) := by decide +kernel
theorem dX9_notes_47 : decode cX9_notes 47 = .ok (.istore_n 1, 1) := by decide +kernel
theorem dX9_notes_48 : decode cX9_notes 48 = .ok (.iload_n 1, 1) := by decide +kernel
theorem dX9_notes_49 : decode cX9_notes 49 = .ok (.bipush 80, 2) := by decide +kernel
theorem dX9_notes_51 : decode cX9_notes 51 = .ok (.if_icmp .ge 29, 3) := by decide +kernel
theorem dX9_notes_54 : decode cX9_notes 54 = .ok (.aload_n 0, 1) := by decide +kernel
theorem dX9_notes_55 : decode cX9_notes 55 = .ok (.getfield 29, 3) := by decide +kernel
theorem dX9_notes_58 : decode cX9_notes 58 = .ok (.bipush 80, 2) := by decide +kernel
theorem dX9_notes_60 : decode cX9_notes 60 = .ok (.aload_n 0, 1) := by decide +kernel
theorem dX9_notes_61 : decode cX9_notes 61 = .ok (.getfield 193, 3) := by decide +kernel
theorem dX9_notes_64 : decode cX9_notes 64 = .ok (.imul, 1) := by decide +kernel
theorem dX9_notes_65 : decode cX9_notes 65 = .ok (.iload_n 1, 1) := by decide +kernel
theorem dX9_notes_66 : decode cX9_notes 66 = .ok (.iadd, 1) := by decide +kernel
theorem dX9_notes_67 : decode cX9_notes 67 = .ok (.aload_n 0, 1) := by decide +kernel
theorem dX9_notes_68 : decode cX9_notes 68 = .ok (.getfield 19, 3) := by decide +kernel
theorem dX9_notes_71 : decode cX9_notes 71 = .ok (.iload_n 1, 1) := by decide +kernel
theorem dX9_notes_72 : decode cX9_notes 72 = .ok (.laload, 1) := by decide +kernel
theorem dX9_notes_73 : decode cX9_notes 73 = .ok (.lastore, 1) := by decide +kernel
theorem dX9_notes_74 : decode cX9_notes 74 = .ok (.iinc 1 1, 3) := by decide +kernel
theorem dX9_notes_77 : decode cX9_notes 77 = .ok (.goto (-29), 3) := by decide +kernel
theorem dX9_notes_80 : decode cX9_notes 80 = .ok (.aload_n 0, 1) := by decide +kernel
theorem dX9_notes_81 : decode cX9_notes 81 = .ok (.dup, 1) := by decide +kernel
theorem dX9_notes_82 : decode cX9_notes 82 = .ok (.getfield 193, 3) := by decide +kernel
theorem dX9_notes_85 : decode cX9_notes 85 = .ok (.iconst 1, 1) := by decide +kernel
theorem dX9_notes_86 : decode cX9_notes 86 = .ok (.iadd, 1) := by decide +kernel
theorem dX9_notes_87 : decode cX9_notes 87 = .ok (.putfield 193, 3) := by decide +kernel
theorem dX9_notes_90 : decode cX9_notes 90 = .ok (.return_, 1) := by decide +kernel
theorem dX9_hour_0 : decode cX9_hour 0 = .ok (.iload_n 1, 1) := by decide +kernel
theorem dX9_hour_1 : decode cX9_hour 1 = .ok (.i2l, 1) := by decide +kernel
theorem dX9_hour_2 : decode cX9_hour 2 = .ok (.lconst 1, 1) := by decide +kernel
theorem dX9_hour_3 : decode cX9_hour 3 = .ok (.ldc2_w 218, 3) := by decide +kernel
theorem dX9_hour_6 : decode cX9_hour 6 = .ok (.invokestatic 67, 3) := by decide +kernel
theorem dX9_hour_9 : decode cX9_hour 9 = .ok (.ifCond .ne 6, 3) := by decide +kernel
theorem dX9_hour_12 : decode cX9_hour 12 = .ok (.ldc 142, 2) := by decide +kernel
theorem dX9_hour_14 : decode cX9_hour 14 = .ok (.ireturn, 1) := by decide +kernel
theorem dX9_hour_15 : decode cX9_hour 15 = .ok (.aload_n 0, 1) := by decide +kernel
theorem dX9_hour_16 : decode cX9_hour 16 = .ok (.getfield 64, 3) := by decide +kernel
theorem dX9_hour_19 : decode cX9_hour 19 = .ok (.ifCond .ne 6, 3) := by decide +kernel
theorem dX9_hour_22 : decode cX9_hour 22 = .ok (.ldc 220, 2) := by decide +kernel
theorem dX9_hour_24 : decode cX9_hour 24 = .ok (.ireturn, 1) := by decide +kernel
theorem dX9_hour_25 : decode cX9_hour 25 = .ok (.aload_n 0, 1) := by decide +kernel
theorem dX9_hour_26 : decode cX9_hour 26 = .ok (.getfield 19, 3) := by decide +kernel
theorem dX9_hour_29 : decode cX9_hour 29 = .ok (.iconst 1, 1) := by decide +kernel
theorem dX9_hour_30 : decode cX9_hour 30 = .ok (.laload, 1) := by decide +kernel
theorem dX9_hour_31 : decode cX9_hour 31 = .ok (.ldc2_w 221, 3) := by decide +kernel
theorem dX9_hour_34 : decode cX9_hour 34 = .ok (.lcmp, 1) := by decide +kernel
theorem dX9_hour_35 : decode cX9_hour 35 = .ok (.ifCond .le 6, 3) := by decide +kernel
theorem dX9_hour_38 : decode cX9_hour 38 = .ok (.ldc 146, 2) := by decide +kernel
theorem dX9_hour_40 : decode cX9_hour 40 = .ok (.ireturn, 1) := by decide +kernel
theorem dX9_hour_41 : decode cX9_hour 41 = .ok (.aload_n 0, 1) := by decide +kernel
theorem dX9_hour_42 : decode cX9_hour 42 = .ok (.invokevirtual 223, 3) := by decide +kernel
theorem dX9_hour_45 : decode cX9_hour 45 = .ok (.aload_n 0, 1) := by decide +kernel
theorem dX9_hour_46 : decode cX9_hour 46 = .ok (.iload_n 1, 1) := by decide +kernel
theorem dX9_hour_47 : decode cX9_hour 47 = .ok (.invokevirtual 226, 3) := by decide +kernel
theorem dX9_hour_50 : decode cX9_hour 50 = .ok (.aload_n 0, 1) := by decide +kernel
theorem dX9_hour_51 : decode cX9_hour 51 = .ok (.iconst 2, 1) := by decide +kernel
theorem dX9_hour_52 : decode cX9_hour 52 = .ok (.invokevirtual 97, 3) := by decide +kernel
theorem dX9_hour_55 : decode cX9_hour 55 = .ok (.ireturn, 1) := by decide +kernel
theorem dX9_turns_0 : decode cX9_turns 0 = .ok (.aload_n 0, 1) := by decide +kernel
theorem dX9_turns_1 : decode cX9_turns 1 = .ok (.invokevirtual 223, 3) := by decide +kernel
theorem dX9_turns_4 : decode cX9_turns 4 = .ok (.aload_n 0, 1) := by decide +kernel
theorem dX9_turns_5 : decode cX9_turns 5 = .ok (.getfield 19, 3) := by decide +kernel
theorem dX9_turns_8 : decode cX9_turns 8 = .ok (.iload_n 1, 1) := by decide +kernel
theorem dX9_turns_9 : decode cX9_turns 9 = .ok (.laload, 1) := by decide +kernel
theorem dX9_turns_10 : decode cX9_turns 10 = .ok (.iload_n 2, 1) := by decide +kernel
theorem dX9_turns_11 : decode cX9_turns 11 = .ok (.invokestatic 85, 3) := by decide +kernel
theorem dX9_turns_14 : decode cX9_turns 14 = .ok (.ifCond .eq 7, 3) := by decide +kernel
theorem dX9_turns_17 : decode cX9_turns 17 = .ok (.iconst 1, 1) := by decide +kernel
theorem dX9_turns_18 : decode cX9_turns 18 = .ok (.goto 4, 3) := by decide +kernel
theorem dX9_turns_21 : decode cX9_turns 21 = .ok (.iconst 0, 1) := by decide +kernel
theorem dX9_turns_22 : decode cX9_turns 22 = .ok (.istore 4, 2) := by decide +kernel
theorem dX9_turns_24 : decode cX9_turns 24 = .ok (.aload_n 0, 1) := by decide +kernel
theorem dX9_turns_25 : decode cX9_turns 25 = .ok (.getfield 19, 3) := by decide +kernel
theorem dX9_turns_28 : decode cX9_turns 28 = .ok (.iload_n 1, 1) := by decide +kernel
theorem dX9_turns_29 : decode cX9_turns 29 = .ok (.iload_n 3, 1) := by decide +kernel
theorem dX9_turns_30 : decode cX9_turns 30 = .ok (.ifCond .eq 16, 3) := by decide +kernel
theorem dX9_turns_33 : decode cX9_turns 33 = .ok (.aload_n 0, 1) := by decide +kernel
theorem dX9_turns_34 : decode cX9_turns 34 = .ok (.getfield 19, 3) := by decide +kernel
theorem dX9_turns_37 : decode cX9_turns 37 = .ok (.iload_n 1, 1) := by decide +kernel
theorem dX9_turns_38 : decode cX9_turns 38 = .ok (.laload, 1) := by decide +kernel
theorem dX9_turns_39 : decode cX9_turns 39 = .ok (.lconst 1, 1) := by decide +kernel
theorem dX9_turns_40 : decode cX9_turns 40 = .ok (.iload_n 2, 1) := by decide +kernel
theorem dX9_turns_41 : decode cX9_turns 41 = .ok (.lshl, 1) := by decide +kernel
theorem dX9_turns_42 : decode cX9_turns 42 = .ok (.lor, 1) := by decide +kernel
theorem dX9_turns_43 : decode cX9_turns 43 = .ok (.goto 17, 3) := by decide +kernel
theorem dX9_turns_46 : decode cX9_turns 46 = .ok (.aload_n 0, 1) := by decide +kernel
theorem dX9_turns_47 : decode cX9_turns 47 = .ok (.getfield 19, 3) := by decide +kernel
theorem dX9_turns_50 : decode cX9_turns 50 = .ok (.iload_n 1, 1) := by decide +kernel
theorem dX9_turns_51 : decode cX9_turns 51 = .ok (.laload, 1) := by decide +kernel
theorem dX9_turns_52 : decode cX9_turns 52 = .ok (.lconst 1, 1) := by decide +kernel
theorem dX9_turns_53 : decode cX9_turns 53 = .ok (.iload_n 2, 1) := by decide +kernel
theorem dX9_turns_54 : decode cX9_turns 54 = .ok (.lshl, 1) := by decide +kernel
theorem dX9_turns_55 : decode cX9_turns 55 = .ok (.ldc2_w 229, 3) := by decide +kernel
theorem dX9_turns_58 : decode cX9_turns 58 = .ok (.lxor, 1) := by decide +kernel
theorem dX9_turns_59 : decode cX9_turns 59 = .ok (.land, 1) := by decide +kernel
theorem dX9_turns_60 : decode cX9_turns 60 = .ok (.lastore, 1) := by decide +kernel
theorem dX9_turns_61 : decode cX9_turns 61 = .ok (.iload 4, 2) := by decide +kernel
theorem dX9_turns_63 : decode cX9_turns 63 = .ok (.ireturn, 1) := by decide +kernel
theorem dX9_carpet_0 : decode cX9_carpet 0 = .ok (.aload_n 0, 1) := by decide +kernel
theorem dX9_carpet_1 : decode cX9_carpet 1 = .ok (.iload_n 1, 1) := by decide +kernel
theorem dX9_carpet_2 : decode cX9_carpet 2 = .ok (.invokevirtual 202, 3) := by decide +kernel
theorem dX9_carpet_5 : decode cX9_carpet 5 = .ok (.ifCond .eq 13, 3) := by decide +kernel
theorem dX9_carpet_8 : decode cX9_carpet 8 = .ok (.aload_n 0, 1) := by decide +kernel
theorem dX9_carpet_9 : decode cX9_carpet 9 = .ok (.iconst 4, 1) := by decide +kernel
theorem dX9_carpet_10 : decode cX9_carpet 10 = .ok (.iload_n 1, 1) := by decide +kernel
theorem dX9_carpet_11 : decode cX9_carpet 11 = .ok (.iload_n 2, 1) := by decide +kernel
theorem dX9_carpet_12 : decode cX9_carpet 12 = .ok (.invokevirtual 231, 3) := by decide +kernel
theorem dX9_carpet_15 : decode cX9_carpet 15 = .ok (.goto 5, 3) := by decide +kernel
theorem dX9_carpet_18 : decode cX9_carpet 18 = .ok (.ldc 205, 2) := by decide +kernel
theorem dX9_carpet_20 : decode cX9_carpet 20 = .ok (.ireturn, 1) := by decide +kernel
theorem dX9_noise_0 : decode cX9_noise 0 = .ok (.aload_n 0, 1) := by decide +kernel
theorem dX9_noise_1 : decode cX9_noise 1 = .ok (.iload_n 1, 1) := by decide +kernel
theorem dX9_noise_2 : decode cX9_noise 2 = .ok (.invokevirtual 202, 3) := by decide +kernel
theorem dX9_noise_5 : decode cX9_noise 5 = .ok (.ifCond .ne 6, 3) := by decide +kernel
theorem dX9_noise_8 : decode cX9_noise 8 = .ok (.ldc 205, 2) := by decide +kernel
theorem dX9_noise_10 : decode cX9_noise 10 = .ok (.ireturn, 1) := by decide +kernel
theorem dX9_noise_11 : decode cX9_noise 11 = .ok (.iload_n 2, 1) := by decide +kernel
theorem dX9_noise_12 : decode cX9_noise 12 = .ok (.i2l, 1) := by decide +kernel
theorem dX9_noise_13 : decode cX9_noise 13 = .ok (.lconst 0, 1) := by decide +kernel
theorem dX9_noise_14 : decode cX9_noise 14 = .ok (.ldc2_w 79, 3) := by decide +kernel
theorem dX9_noise_17 : decode cX9_noise 17 = .ok (.invokestatic 67, 3) := by decide +kernel
theorem dX9_noise_20 : decode cX9_noise 20 = .ok (.ifCond .ne 6, 3) := by decide +kernel
theorem dX9_noise_23 : decode cX9_noise 23 = .ok (.ldc 142, 2) := by decide +kernel
theorem dX9_noise_25 : decode cX9_noise 25 = .ok (.ireturn, 1) := by decide +kernel
theorem dX9_noise_26 : decode cX9_noise 26 = .ok (.aload_n 0, 1) := by decide +kernel
theorem dX9_noise_27 : decode cX9_noise 27 = .ok (.invokevirtual 223, 3) := by decide +kernel
theorem dX9_noise_30 : decode cX9_noise 30 = .ok (.aload_n 0, 1) := by decide +kernel
theorem dX9_noise_31 : decode cX9_noise 31 = .ok (.bipush 10, 2) := by decide +kernel
theorem dX9_noise_33 : decode cX9_noise 33 = .ok (.iload_n 1, 1) := by decide +kernel
theorem dX9_noise_34 : decode cX9_noise 34 = .ok (.iadd, 1) := by decide +kernel
theorem dX9_noise_35 : decode cX9_noise 35 = .ok (.invokevirtual 97, 3) := by decide +kernel
theorem dX9_noise_38 : decode cX9_noise 38 = .ok (.istore_n 3, 1) := by decide +kernel
theorem dX9_noise_39 : decode cX9_noise 39 = .ok (.aload_n 0, 1) := by decide +kernel
theorem dX9_noise_40 : decode cX9_noise 40 = .ok (.getfield 19, 3) := by decide +kernel
theorem dX9_noise_43 : decode cX9_noise 43 = .ok (.bipush 10, 2) := by decide +kernel
theorem dX9_noise_45 : decode cX9_noise 45 = .ok (.iload_n 1, 1) := by decide +kernel
theorem dX9_noise_46 : decode cX9_noise 46 = .ok (.iadd, 1) := by decide +kernel
theorem dX9_noise_47 : decode cX9_noise 47 = .ok (.iload_n 2, 1) := by decide +kernel
theorem dX9_noise_48 : decode cX9_noise 48 = .ok (.i2l, 1) := by decide +kernel
theorem dX9_noise_49 : decode cX9_noise 49 = .ok (.lastore, 1) := by decide +kernel
theorem dX9_noise_50 : decode cX9_noise 50 = .ok (.iload_n 3, 1) := by decide +kernel
theorem dX9_noise_51 : decode cX9_noise 51 = .ok (.ireturn, 1) := by decide +kernel
theorem dX9_nail_0 : decode cX9_nail 0 = .ok (.aload_n 0, 1) := by decide +kernel
theorem dX9_nail_1 : decode cX9_nail 1 = .ok (.iload_n 1, 1) := by decide +kernel
theorem dX9_nail_2 : decode cX9_nail 2 = .ok (.invokevirtual 202, 3) := by decide +kernel
theorem dX9_nail_5 : decode cX9_nail 5 = .ok (.ifCond .eq 13, 3) := by decide +kernel
theorem dX9_nail_8 : decode cX9_nail 8 = .ok (.aload_n 0, 1) := by decide +kernel
theorem dX9_nail_9 : decode cX9_nail 9 = .ok (.iconst 5, 1) := by decide +kernel
theorem dX9_nail_10 : decode cX9_nail 10 = .ok (.iload_n 1, 1) := by decide +kernel
theorem dX9_nail_11 : decode cX9_nail 11 = .ok (.iload_n 2, 1) := by decide +kernel
theorem dX9_nail_12 : decode cX9_nail 12 = .ok (.invokevirtual 231, 3) := by decide +kernel
theorem dX9_nail_15 : decode cX9_nail 15 = .ok (.goto 5, 3) := by decide +kernel
theorem dX9_nail_18 : decode cX9_nail 18 = .ok (.ldc 205, 2) := by decide +kernel
theorem dX9_nail_20 : decode cX9_nail 20 = .ok (.ireturn, 1) := by decide +kernel
theorem dX9_brick_0 : decode cX9_brick 0 = .ok (.aload_n 0, 1) := by decide +kernel
theorem dX9_brick_1 : decode cX9_brick 1 = .ok (.iload_n 1, 1) := by decide +kernel
theorem dX9_brick_2 : decode cX9_brick 2 = .ok (.invokevirtual 235, 3) := by decide +kernel
theorem dX9_brick_5 : decode cX9_brick 5 = .ok (.ifCond .eq 14, 3) := by decide +kernel
theorem dX9_brick_8 : decode cX9_brick 8 = .ok (.aload_n 0, 1) := by decide +kernel
theorem dX9_brick_9 : decode cX9_brick 9 = .ok (.bipush 6, 2) := by decide +kernel
theorem dX9_brick_11 : decode cX9_brick 11 = .ok (.iload_n 1, 1) := by decide +kernel
theorem dX9_brick_12 : decode cX9_brick 12 = .ok (.iload_n 2, 1) := by decide +kernel
theorem dX9_brick_13 : decode cX9_brick 13 = .ok (.invokevirtual 231, 3) := by decide +kernel
theorem dX9_brick_16 : decode cX9_brick 16 = .ok (.goto 5, 3) := by decide +kernel
theorem dX9_brick_19 : decode cX9_brick 19 = .ok (.ldc 205, 2) := by decide +kernel
theorem dX9_brick_21 : decode cX9_brick 21 = .ok (.ireturn, 1) := by decide +kernel
theorem dX9_chalk_0 : decode cX9_chalk 0 = .ok (.aload_n 0, 1) := by decide +kernel
theorem dX9_chalk_1 : decode cX9_chalk 1 = .ok (.iload_n 1, 1) := by decide +kernel
theorem dX9_chalk_2 : decode cX9_chalk 2 = .ok (.invokevirtual 209, 3) := by decide +kernel
theorem dX9_chalk_5 : decode cX9_chalk 5 = .ok (.ifCond .eq 11, 3) := by decide +kernel
theorem dX9_chalk_8 : decode cX9_chalk 8 = .ok (.aload_n 0, 1) := by decide +kernel
theorem dX9_chalk_9 : decode cX9_chalk 9 = .ok (.iload_n 2, 1) := by decide +kernel
theorem dX9_chalk_10 : decode cX9_chalk 10 = .ok (.invokevirtual 202, 3) := by decide +kernel
theorem dX9_chalk_13 : decode cX9_chalk 13 = .ok (.ifCond .ne 6, 3) := by decide +kernel
theorem dX9_chalk_16 : decode cX9_chalk 16 = .ok (.ldc 205, 2) := by decide +kernel
theorem dX9_chalk_18 : decode cX9_chalk 18 = .ok (.ireturn, 1) := by decide +kernel
theorem dX9_chalk_19 : decode cX9_chalk 19 = .ok (.aload_n 0, 1) := by decide +kernel
theorem dX9_chalk_20 : decode cX9_chalk 20 = .ok (.invokevirtual 223, 3) := by decide +kernel
theorem dX9_chalk_23 : decode cX9_chalk 23 = .ok (.aload_n 0, 1) := by decide +kernel
theorem dX9_chalk_24 : decode cX9_chalk 24 = .ok (.bipush 26, 2) := by decide +kernel
theorem dX9_chalk_26 : decode cX9_chalk 26 = .ok (.iload_n 1, 1) := by decide +kernel
theorem dX9_chalk_27 : decode cX9_chalk 27 = .ok (.iadd, 1) := by decide +kernel
theorem dX9_chalk_28 : decode cX9_chalk 28 = .ok (.invokevirtual 97, 3) := by decide +kernel
theorem dX9_chalk_31 : decode cX9_chalk 31 = .ok (.istore_n 3, 1) := by decide +kernel
theorem dX9_chalk_32 : decode cX9_chalk 32 = .ok (.aload_n 0, 1) := by decide +kernel
theorem dX9_chalk_33 : decode cX9_chalk 33 = .ok (.getfield 19, 3) := by decide +kernel
theorem dX9_chalk_36 : decode cX9_chalk 36 = .ok (.bipush 26, 2) := by decide +kernel
theorem dX9_chalk_38 : decode cX9_chalk 38 = .ok (.iload_n 1, 1) := by decide +kernel
theorem dX9_chalk_39 : decode cX9_chalk 39 = .ok (.iadd, 1) := by decide +kernel
theorem dX9_chalk_40 : decode cX9_chalk 40 = .ok (.iload_n 2, 1) := by decide +kernel
theorem dX9_chalk_41 : decode cX9_chalk 41 = .ok (.i2l, 1) := by decide +kernel
theorem dX9_chalk_42 : decode cX9_chalk 42 = .ok (.lastore, 1) := by decide +kernel
theorem dX9_chalk_43 : decode cX9_chalk 43 = .ok (.aload_n 0, 1) := by decide +kernel
theorem dX9_chalk_44 : decode cX9_chalk 44 = .ok (.getfield 19, 3) := by decide +kernel
theorem dX9_chalk_47 : decode cX9_chalk 47 = .ok (.bipush 7, 2) := by decide +kernel
theorem dX9_chalk_49 : decode cX9_chalk 49 = .ok (.dup2, 1) := by decide +kernel
theorem dX9_chalk_50 : decode cX9_chalk 50 = .ok (.laload, 1) := by decide +kernel
theorem dX9_chalk_51 : decode cX9_chalk 51 = .ok (.lconst 1, 1) := by decide +kernel
theorem dX9_chalk_52 : decode cX9_chalk 52 = .ok (.iload_n 1, 1) := by decide +kernel
theorem dX9_chalk_53 : decode cX9_chalk 53 = .ok (.lshl, 1) := by decide +kernel
theorem dX9_chalk_54 : decode cX9_chalk 54 = .ok (.ldc2_w 229, 3) := by decide +kernel
theorem dX9_chalk_57 : decode cX9_chalk 57 = .ok (.lxor, 1) := by decide +kernel
theorem dX9_chalk_58 : decode cX9_chalk 58 = .ok (.land, 1) := by decide +kernel
theorem dX9_chalk_59 : decode cX9_chalk 59 = .ok (.lastore, 1) := by decide +kernel
theorem dX9_chalk_60 : decode cX9_chalk 60 = .ok (.iload_n 3, 1) := by decide +kernel
theorem dX9_chalk_61 : decode cX9_chalk 61 = .ok (.ireturn, 1) := by decide +kernel
theorem dX9_sole_0 : decode cX9_sole 0 = .ok (.aload_n 0, 1) := by decide +kernel
theorem dX9_sole_1 : decode cX9_sole 1 = .ok (.getfield 186, 3) := by decide +kernel
theorem dX9_sole_4 : decode cX9_sole 4 = .ok (.ifCond .ne 6, 3) := by decide +kernel
theorem dX9_sole_7 : decode cX9_sole 7 = .ok (.ldc 220, 2) := by decide +kernel
theorem dX9_sole_9 : decode cX9_sole 9 = .ok (.ireturn, 1) := by decide +kernel
theorem dX9_sole_10 : decode cX9_sole 10 = .ok (.aload_n 0, 1) := by decide +kernel
theorem dX9_sole_11 : decode cX9_sole 11 = .ok (.invokevirtual 223, 3) := by decide +kernel
theorem dX9_sole_14 : decode cX9_sole 14 = .ok (.aload_n 0, 1) := by decide +kernel
theorem dX9_sole_15 : decode cX9_sole 15 = .ok (.iconst 3, 1) := by decide +kernel
theorem dX9_sole_16 : decode cX9_sole 16 = .ok (.invokevirtual 97, 3) := by decide +kernel
theorem dX9_sole_19 : decode cX9_sole 19 = .ok (.istore_n 1, 1) := by decide +kernel
theorem dX9_sole_20 : decode cX9_sole 20 = .ok (.aload_n 0, 1) := by decide +kernel
theorem dX9_sole_21 : decode cX9_sole 21 = .ok (.getfield 19, 3) := by decide +kernel
theorem dX9_sole_24 : decode cX9_sole 24 = .ok (.iconst 3, 1) := by decide +kernel
theorem dX9_sole_25 : decode cX9_sole 25 = .ok (.lconst 0, 1) := by decide +kernel
theorem dX9_sole_26 : decode cX9_sole 26 = .ok (.lastore, 1) := by decide +kernel
theorem dX9_sole_27 : decode cX9_sole 27 = .ok (.iload_n 1, 1) := by decide +kernel
theorem dX9_sole_28 : decode cX9_sole 28 = .ok (.ireturn, 1) := by decide +kernel
theorem dX9_teach_0 : decode cX9_teach 0 = .ok (.iload_n 1, 1) := by decide +kernel
theorem dX9_teach_1 : decode cX9_teach 1 = .ok (.invokestatic 238, 3) := by decide +kernel
theorem dX9_teach_4 : decode cX9_teach 4 = .ok (.ifCond .ne 6, 3) := by decide +kernel
theorem dX9_teach_7 : decode cX9_teach 7 = .ok (.ldc 205, 2) := by decide +kernel
theorem dX9_teach_9 : decode cX9_teach 9 = .ok (.ireturn, 1) := by decide +kernel
theorem dX9_teach_10 : decode cX9_teach 10 = .ok (.aload_n 0, 1) := by decide +kernel
theorem dX9_teach_11 : decode cX9_teach 11 = .ok (.getfield 186, 3) := by decide +kernel
theorem dX9_teach_14 : decode cX9_teach 14 = .ok (.ifCond .ne 6, 3) := by decide +kernel
theorem dX9_teach_17 : decode cX9_teach 17 = .ok (.ldc 220, 2) := by decide +kernel
theorem dX9_teach_19 : decode cX9_teach 19 = .ok (.ireturn, 1) := by decide +kernel
theorem dX9_teach_20 : decode cX9_teach 20 = .ok (.aload_n 0, 1) := by decide +kernel
end
section
theorem dX9_teach_21 : decode cX9_teach 21 = .ok (.invokevirtual 223, 3) := by decide +kernel
theorem dX9_teach_24 : decode cX9_teach 24 = .ok (.aload_n 0, 1) := by decide +kernel
theorem dX9_teach_25 : decode cX9_teach 25 = .ok (.iconst 0, 1) := by decide +kernel
theorem dX9_teach_26 : decode cX9_teach 26 = .ok (.invokevirtual 97, 3) := by decide +kernel
theorem dX9_teach_29 : decode cX9_teach 29 = .ok (.istore_n 2, 1) := by decide +kernel
theorem dX9_teach_30 : decode cX9_teach 30 = .ok (.aload_n 0, 1) := by decide +kernel
theorem dX9_teach_31 : decode cX9_teach 31 = .ok (.getfield 19, 3) := by decide +kernel
theorem dX9_teach_34 : decode cX9_teach 34 = .ok (.iconst 0, 1) := by decide +kernel
theorem dX9_teach_35 : decode cX9_teach 35 = .ok (.iload_n 1, 1) := by decide +kernel
theorem dX9_teach_36 : decode cX9_teach 36 = .ok (.i2l, 1) := by decide +kernel
theorem dX9_teach_37 : decode cX9_teach 37 = .ok (.lastore, 1) := by decide +kernel
theorem dX9_teach_38 : decode cX9_teach 38 = .ok (.iload_n 2, 1) := by decide +kernel
theorem dX9_teach_39 : decode cX9_teach 39 = .ok (.ireturn, 1) := by decide +kernel
theorem dX9_drawn_0 : decode cX9_drawn 0 = .ok (.aload_n 0, 1) := by decide +kernel
theorem dX9_drawn_1 : decode cX9_drawn 1 = .ok (.aload_n 0, 1) := by decide +kernel
theorem dX9_drawn_2 : decode cX9_drawn 2 = .ok (.getfield 241, 3) := by decide +kernel
theorem dX9_drawn_5 : decode cX9_drawn 5 = .ok (.ldc2_w 245, 3) := by decide +kernel
theorem dX9_drawn_8 : decode cX9_drawn 8 = .ok (.lmul, 1) := by decide +kernel
theorem dX9_drawn_9 : decode cX9_drawn 9 = .ok (.ldc2_w 247, 3) := by decide +kernel
theorem dX9_drawn_12 : decode cX9_drawn 12 = .ok (.ladd, 1) := by decide +kernel
theorem dX9_drawn_13 : decode cX9_drawn 13 = .ok (.ldc2_w 249, 3) := by decide +kernel
theorem dX9_drawn_16 : decode cX9_drawn 16 = .ok (.land, 1) := by decide +kernel
theorem dX9_drawn_17 : decode cX9_drawn 17 = .ok (.putfield 241, 3) := by decide +kernel
theorem dX9_drawn_20 : decode cX9_drawn 20 = .ok (.aload_n 0, 1) := by decide +kernel
theorem dX9_drawn_21 : decode cX9_drawn 21 = .ok (.getfield 241, 3) := by decide +kernel
theorem dX9_drawn_24 : decode cX9_drawn 24 = .ok (.ldc2_w 251, 3) := by decide +kernel
theorem dX9_drawn_27 : decode cX9_drawn 27 = .ok (.ldiv, 1) := by decide +kernel
theorem dX9_drawn_28 : decode cX9_drawn 28 = .ok (.iload_n 1, 1) := by decide +kernel
theorem dX9_drawn_29 : decode cX9_drawn 29 = .ok (.i2l, 1) := by decide +kernel
theorem dX9_drawn_30 : decode cX9_drawn 30 = .ok (.lrem, 1) := by decide +kernel
theorem dX9_drawn_31 : decode cX9_drawn 31 = .ok (.l2i, 1) := by decide +kernel
theorem dX9_drawn_32 : decode cX9_drawn 32 = .ok (.ireturn, 1) := by decide +kernel
theorem dX9_stirs_0 : decode cX9_stirs 0 = .ok (.aload_n 0, 1) := by decide +kernel
theorem dX9_stirs_1 : decode cX9_stirs 1 = .ok (.aload_n 0, 1) := by decide +kernel
theorem dX9_stirs_2 : decode cX9_stirs 2 = .ok (.getfield 64, 3) := by decide +kernel
theorem dX9_stirs_5 : decode cX9_stirs 5 = .ok (.invokevirtual 253, 3) := by decide +kernel
theorem dX9_stirs_8 : decode cX9_stirs 8 = .ok (.istore_n 1, 1) := by decide +kernel
theorem dX9_stirs_9 : decode cX9_stirs 9 = .ok (.aload_n 0, 1) := by decide +kernel
theorem dX9_stirs_10 : decode cX9_stirs 10 = .ok (.iconst 5, 1) := by decide +kernel
theorem dX9_stirs_11 : decode cX9_stirs 11 = .ok (.invokevirtual 253, 3) := by decide +kernel
theorem dX9_stirs_14 : decode cX9_stirs 14 = .ok (.istore_n 2, 1) := by decide +kernel
theorem dX9_stirs_15 : decode cX9_stirs 15 = .ok (.lconst 1, 1) := by decide +kernel
theorem dX9_stirs_16 : decode cX9_stirs 16 = .ok (.iload_n 1, 1) := by decide +kernel
theorem dX9_stirs_17 : decode cX9_stirs 17 = .ok (.lshl, 1) := by decide +kernel
theorem dX9_stirs_18 : decode cX9_stirs 18 = .ok (.lstore_n 3, 1) := by decide +kernel
theorem dX9_stirs_19 : decode cX9_stirs 19 = .ok (.iload_n 2, 1) := by decide +kernel
theorem dX9_stirs_20 : decode cX9_stirs 20 = .ok (.iconst 2, 1) := by decide +kernel
theorem dX9_stirs_21 : decode cX9_stirs 21 = .ok (.if_icmp .ne 22, 3) := by decide +kernel
theorem dX9_stirs_24 : decode cX9_stirs 24 = .ok (.aload_n 0, 1) := by decide +kernel
theorem dX9_stirs_25 : decode cX9_stirs 25 = .ok (.getfield 19, 3) := by decide +kernel
theorem dX9_stirs_28 : decode cX9_stirs 28 = .ok (.bipush 10, 2) := by decide +kernel
theorem dX9_stirs_30 : decode cX9_stirs 30 = .ok (.iload_n 1, 1) := by decide +kernel
theorem dX9_stirs_31 : decode cX9_stirs 31 = .ok (.iadd, 1) := by decide +kernel
theorem dX9_stirs_32 : decode cX9_stirs 32 = .ok (.aload_n 0, 1) := by decide +kernel
theorem dX9_stirs_33 : decode cX9_stirs 33 = .ok (.bipush 10, 2) := by decide +kernel
theorem dX9_stirs_35 : decode cX9_stirs 35 = .ok (.invokevirtual 253, 3) := by decide +kernel
theorem dX9_stirs_38 : decode cX9_stirs 38 = .ok (.i2l, 1) := by decide +kernel
theorem dX9_stirs_39 : decode cX9_stirs 39 = .ok (.lastore, 1) := by decide +kernel
theorem dX9_stirs_40 : decode cX9_stirs 40 = .ok (.goto 78, 3) := by decide +kernel
theorem dX9_stirs_43 : decode cX9_stirs 43 = .ok (.iload_n 2, 1) := by decide +kernel
theorem dX9_stirs_44 : decode cX9_stirs 44 = .ok (.iconst 2, 1) := by decide +kernel
theorem dX9_stirs_45 : decode cX9_stirs 45 = .ok (.if_icmp .ge 39, 3) := by decide +kernel
theorem dX9_stirs_48 : decode cX9_stirs 48 = .ok (.aload_n 0, 1) := by decide +kernel
theorem dX9_stirs_49 : decode cX9_stirs 49 = .ok (.getfield 19, 3) := by decide +kernel
theorem dX9_stirs_52 : decode cX9_stirs 52 = .ok (.iconst 4, 1) := by decide +kernel
theorem dX9_stirs_53 : decode cX9_stirs 53 = .ok (.iload_n 2, 1) := by decide +kernel
theorem dX9_stirs_54 : decode cX9_stirs 54 = .ok (.ifCond .ne 14, 3) := by decide +kernel
theorem dX9_stirs_57 : decode cX9_stirs 57 = .ok (.aload_n 0, 1) := by decide +kernel
theorem dX9_stirs_58 : decode cX9_stirs 58 = .ok (.getfield 19, 3) := by decide +kernel
theorem dX9_stirs_61 : decode cX9_stirs 61 = .ok (.iconst 4, 1) := by decide +kernel
theorem dX9_stirs_62 : decode cX9_stirs 62 = .ok (.laload, 1) := by decide +kernel
theorem dX9_stirs_63 : decode cX9_stirs 63 = .ok (.lload_n 3, 1) := by decide +kernel
theorem dX9_stirs_64 : decode cX9_stirs 64 = .ok (.lor, 1) := by decide +kernel
theorem dX9_stirs_65 : decode cX9_stirs 65 = .ok (.goto 15, 3) := by decide +kernel
theorem dX9_stirs_68 : decode cX9_stirs 68 = .ok (.aload_n 0, 1) := by decide +kernel
theorem dX9_stirs_69 : decode cX9_stirs 69 = .ok (.getfield 19, 3) := by decide +kernel
theorem dX9_stirs_72 : decode cX9_stirs 72 = .ok (.iconst 4, 1) := by decide +kernel
theorem dX9_stirs_73 : decode cX9_stirs 73 = .ok (.laload, 1) := by decide +kernel
theorem dX9_stirs_74 : decode cX9_stirs 74 = .ok (.lload_n 3, 1) := by decide +kernel
theorem dX9_stirs_75 : decode cX9_stirs 75 = .ok (.ldc2_w 229, 3) := by decide +kernel
theorem dX9_stirs_78 : decode cX9_stirs 78 = .ok (.lxor, 1) := by decide +kernel
theorem dX9_stirs_79 : decode cX9_stirs 79 = .ok (.land, 1) := by decide +kernel
theorem dX9_stirs_80 : decode cX9_stirs 80 = .ok (.lastore, 1) := by decide +kernel
theorem dX9_stirs_81 : decode cX9_stirs 81 = .ok (.goto 37, 3) := by decide +kernel
theorem dX9_stirs_84 : decode cX9_stirs 84 = .ok (.aload_n 0, 1) := by decide +kernel
theorem dX9_stirs_85 : decode cX9_stirs 85 = .ok (.getfield 19, 3) := by decide +kernel
theorem dX9_stirs_88 : decode cX9_stirs 88 = .ok (.iconst 5, 1) := by decide +kernel
theorem dX9_stirs_89 : decode cX9_stirs 89 = .ok (.iload_n 2, 1) := by decide +kernel
theorem dX9_stirs_90 : decode cX9_stirs 90 = .ok (.iconst 3, 1) := by decide +kernel
theorem dX9_stirs_91 : decode cX9_stirs 91 = .ok (.if_icmp .ne 14, 3) := by decide +kernel
theorem dX9_stirs_94 : decode cX9_stirs 94 = .ok (.aload_n 0, 1) := by decide +kernel
theorem dX9_stirs_95 : decode cX9_stirs 95 = .ok (.getfield 19, 3) := by decide +kernel
theorem dX9_stirs_98 : decode cX9_stirs 98 = .ok (.iconst 5, 1) := by decide +kernel
theorem dX9_stirs_99 : decode cX9_stirs 99 = .ok (.laload, 1) := by decide +kernel
theorem dX9_stirs_100 : decode cX9_stirs 100 = .ok (.lload_n 3, 1) := by decide +kernel
theorem dX9_stirs_101 : decode cX9_stirs 101 = .ok (.lor, 1) := by decide +kernel
theorem dX9_stirs_102 : decode cX9_stirs 102 = .ok (.goto 15, 3) := by decide +kernel
theorem dX9_stirs_105 : decode cX9_stirs 105 = .ok (.aload_n 0, 1) := by decide +kernel
theorem dX9_stirs_106 : decode cX9_stirs 106 = .ok (.getfield 19, 3) := by decide +kernel
theorem dX9_stirs_109 : decode cX9_stirs 109 = .ok (.iconst 5, 1) := by decide +kernel
theorem dX9_stirs_110 : decode cX9_stirs 110 = .ok (.laload, 1) := by decide +kernel
theorem dX9_stirs_111 : decode cX9_stirs 111 = .ok (.lload_n 3, 1) := by decide +kernel
theorem dX9_stirs_112 : decode cX9_stirs 112 = .ok (.ldc2_w 229, 3) := by decide +kernel
theorem dX9_stirs_115 : decode cX9_stirs 115 = .ok (.lxor, 1) := by decide +kernel
theorem dX9_stirs_116 : decode cX9_stirs 116 = .ok (.land, 1) := by decide +kernel
theorem dX9_stirs_117 : decode cX9_stirs 117 = .ok (.lastore, 1) := by decide +kernel
theorem dX9_stirs_118 : decode cX9_stirs 118 = .ok (.return_, 1) := by decide +kernel
theorem dX9_drift_0 : decode cX9_drift 0 = .ok (.iload_n 1, 1) := by decide +kernel
theorem dX9_drift_1 : decode cX9_drift 1 = .ok (.i2l, 1) := by decide +kernel
theorem dX9_drift_2 : decode cX9_drift 2 = .ok (.lconst 1, 1) := by decide +kernel
theorem dX9_drift_3 : decode cX9_drift 3 = .ok (.ldc2_w 218, 3) := by decide +kernel
theorem dX9_drift_6 : decode cX9_drift 6 = .ok (.invokestatic 67, 3) := by decide +kernel
theorem dX9_drift_9 : decode cX9_drift 9 = .ok (.ifCond .ne 6, 3) := by decide +kernel
theorem dX9_drift_12 : decode cX9_drift 12 = .ok (.ldc 142, 2) := by decide +kernel
theorem dX9_drift_14 : decode cX9_drift 14 = .ok (.ireturn, 1) := by decide +kernel
theorem dX9_drift_15 : decode cX9_drift 15 = .ok (.aload_n 0, 1) := by decide +kernel
theorem dX9_drift_16 : decode cX9_drift 16 = .ok (.getfield 64, 3) := by decide +kernel
theorem dX9_drift_19 : decode cX9_drift 19 = .ok (.ifCond .ne 6, 3) := by decide +kernel
theorem dX9_drift_22 : decode cX9_drift 22 = .ok (.ldc 220, 2) := by decide +kernel
theorem dX9_drift_24 : decode cX9_drift 24 = .ok (.ireturn, 1) := by decide +kernel
theorem dX9_drift_25 : decode cX9_drift 25 = .ok (.aload_n 0, 1) := by decide +kernel
theorem dX9_drift_26 : decode cX9_drift 26 = .ok (.getfield 19, 3) := by decide +kernel
theorem dX9_drift_29 : decode cX9_drift 29 = .ok (.iconst 1, 1) := by decide +kernel
theorem dX9_drift_30 : decode cX9_drift 30 = .ok (.laload, 1) := by decide +kernel
theorem dX9_drift_31 : decode cX9_drift 31 = .ok (.ldc2_w 221, 3) := by decide +kernel
theorem dX9_drift_34 : decode cX9_drift 34 = .ok (.lcmp, 1) := by decide +kernel
theorem dX9_drift_35 : decode cX9_drift 35 = .ok (.ifCond .le 6, 3) := by decide +kernel
theorem dX9_drift_38 : decode cX9_drift 38 = .ok (.ldc 146, 2) := by decide +kernel
theorem dX9_drift_40 : decode cX9_drift 40 = .ok (.ireturn, 1) := by decide +kernel
theorem dX9_drift_41 : decode cX9_drift 41 = .ok (.aload_n 0, 1) := by decide +kernel
theorem dX9_drift_42 : decode cX9_drift 42 = .ok (.invokevirtual 223, 3) := by decide +kernel
theorem dX9_drift_45 : decode cX9_drift 45 = .ok (.iconst 0, 1) := by decide +kernel
theorem dX9_drift_46 : decode cX9_drift 46 = .ok (.istore_n 2, 1) := by decide +kernel
theorem dX9_drift_47 : decode cX9_drift 47 = .ok (.iload_n 2, 1) := by decide +kernel
theorem dX9_drift_48 : decode cX9_drift 48 = .ok (.iload_n 1, 1) := by decide +kernel
theorem dX9_drift_49 : decode cX9_drift 49 = .ok (.if_icmp .ge 17, 3) := by decide +kernel
theorem dX9_drift_52 : decode cX9_drift 52 = .ok (.aload_n 0, 1) := by decide +kernel
theorem dX9_drift_53 : decode cX9_drift 53 = .ok (.invokevirtual 256, 3) := by decide +kernel
theorem dX9_drift_56 : decode cX9_drift 56 = .ok (.aload_n 0, 1) := by decide +kernel
theorem dX9_drift_57 : decode cX9_drift 57 = .ok (.invokevirtual 137, 3) := by decide +kernel
theorem dX9_drift_60 : decode cX9_drift 60 = .ok (.iinc 2 1, 3) := by decide +kernel
theorem dX9_drift_63 : decode cX9_drift 63 = .ok (.goto (-16), 3) := by decide +kernel
theorem dX9_drift_66 : decode cX9_drift 66 = .ok (.aload_n 0, 1) := by decide +kernel
theorem dX9_drift_67 : decode cX9_drift 67 = .ok (.iconst 2, 1) := by decide +kernel
theorem dX9_drift_68 : decode cX9_drift 68 = .ok (.invokevirtual 97, 3) := by decide +kernel
theorem dX9_drift_71 : decode cX9_drift 71 = .ok (.ireturn, 1) := by decide +kernel
theorem dX9_undo_0 : decode cX9_undo 0 = .ok (.aload_n 0, 1) := by decide +kernel
theorem dX9_undo_1 : decode cX9_undo 1 = .ok (.getfield 193, 3) := by decide +kernel
theorem dX9_undo_4 : decode cX9_undo 4 = .ok (.ifCond .ne 6, 3) := by decide +kernel
theorem dX9_undo_7 : decode cX9_undo 7 = .ok (.ldc 220, 2) := by decide +kernel
theorem dX9_undo_9 : decode cX9_undo 9 = .ok (.ireturn, 1) := by decide +kernel
theorem dX9_undo_10 : decode cX9_undo 10 = .ok (.aload_n 0, 1) := by decide +kernel
theorem dX9_undo_11 : decode cX9_undo 11 = .ok (.dup, 1) := by decide +kernel
theorem dX9_undo_12 : decode cX9_undo 12 = .ok (.getfield 193, 3) := by decide +kernel
theorem dX9_undo_15 : decode cX9_undo 15 = .ok (.iconst 1, 1) := by decide +kernel
theorem dX9_undo_16 : decode cX9_undo 16 = .ok (.isub, 1) := by decide +kernel
theorem dX9_undo_17 : decode cX9_undo 17 = .ok (.putfield 193, 3) := by decide +kernel
theorem dX9_undo_20 : decode cX9_undo 20 = .ok (.iconst 0, 1) := by decide +kernel
theorem dX9_undo_21 : decode cX9_undo 21 = .ok (.istore_n 1, 1) := by decide +kernel
theorem dX9_undo_22 : decode cX9_undo 22 = .ok (.iload_n 1, 1) := by decide +kernel
theorem dX9_undo_23 : decode cX9_undo 23 = .ok (.bipush 80, 2) := by decide +kernel
theorem dX9_undo_25 : decode cX9_undo 25 = .ok (.if_icmp .ge 29, 3) := by decide +kernel
theorem dX9_undo_28 : decode cX9_undo 28 = .ok (.aload_n 0, 1) := by decide +kernel
theorem dX9_undo_29 : decode cX9_undo 29 = .ok (.getfield 19, 3) := by decide +kernel
theorem dX9_undo_32 : decode cX9_undo 32 = .ok (.iload_n 1, 1) := by decide +kernel
theorem dX9_undo_33 : decode cX9_undo 33 = .ok (.aload_n 0, 1) := by decide +kernel
theorem dX9_undo_34 : decode cX9_undo 34 = .ok (.getfield 29, 3) := by decide +kernel
theorem dX9_undo_37 : decode cX9_undo 37 = .ok (.bipush 80, 2) := by decide +kernel
theorem dX9_undo_39 : decode cX9_undo 39 = .ok (.aload_n 0, 1) := by decide +kernel
theorem dX9_undo_40 : decode cX9_undo 40 = .ok (.getfield 193, 3) := by decide +kernel
theorem dX9_undo_43 : decode cX9_undo 43 = .ok (.imul, 1) := by decide +kernel
theorem dX9_undo_44 : decode cX9_undo 44 = .ok (.iload_n 1, 1) := by decide +kernel
theorem dX9_undo_45 : decode cX9_undo 45 = .ok (.iadd, 1) := by decide +kernel
theorem dX9_undo_46 : decode cX9_undo 46 = .ok (.laload, 1) := by decide +kernel
theorem dX9_undo_47 : decode cX9_undo 47 = .ok (.lastore, 1) := by decide +kernel
theorem dX9_undo_48 : decode cX9_undo 48 = .ok (.iinc 1 1, 3) := by decide +kernel
theorem dX9_undo_51 : decode cX9_undo 51 = .ok (.goto (-29), 3) := by decide +kernel
theorem dX9_undo_54 : decode cX9_undo 54 = .ok (.aload_n 0, 1) := by decide +kernel
theorem dX9_undo_55 : decode cX9_undo 55 = .ok (.getfield 193, 3) := by decide +kernel
theorem dX9_undo_58 : decode cX9_undo 58 = .ok (.ireturn, 1) := by decide +kernel
theorem dX9_asides_0 : decode cX9_asides 0 = .ok (.iconst 0, 1) := by decide +kernel
theorem dX9_asides_1 : decode cX9_asides 1 = .ok (.istore_n 1, 1) := by decide +kernel
theorem dX9_asides_2 : decode cX9_asides 2 = .ok (.iload_n 1, 1) := by decide +kernel
theorem dX9_asides_3 : decode cX9_asides 3 = .ok (.bipush 80, 2) := by decide +kernel
theorem dX9_asides_5 : decode cX9_asides 5 = .ok (.if_icmp .ge 21, 3) := by decide +kernel
theorem dX9_asides_8 : decode cX9_asides 8 = .ok (.aload_n 0, 1) := by decide +kernel
theorem dX9_asides_9 : decode cX9_asides 9 = .ok (.getfield 32, 3) := by decide +kernel
theorem dX9_asides_12 : decode cX9_asides 12 = .ok (.iload_n 1, 1) := by decide +kernel
theorem dX9_asides_13 : decode cX9_asides 13 = .ok (.aload_n 0, 1) := by decide +kernel
theorem dX9_asides_14 : decode cX9_asides 14 = .ok (.getfield 19, 3) := by decide +kernel
theorem dX9_asides_17 : decode cX9_asides 17 = .ok (.iload_n 1, 1) := by decide +kernel
theorem dX9_asides_18 : decode cX9_asides 18 = .ok (.laload, 1) := by decide +kernel
theorem dX9_asides_19 : decode cX9_asides 19 = .ok (.lastore, 1) := by decide +kernel
theorem dX9_asides_20 : decode cX9_asides 20 = .ok (.iinc 1 1, 3) := by decide +kernel
theorem dX9_asides_23 : decode cX9_asides 23 = .ok (.goto (-21), 3) := by decide +kernel
theorem dX9_asides_26 : decode cX9_asides 26 = .ok (.return_, 1) := by decide +kernel
theorem dX9_backs_0 : decode cX9_backs 0 = .ok (.iconst 0, 1) := by decide +kernel
theorem dX9_backs_1 : decode cX9_backs 1 = .ok (.istore_n 1, 1) := by decide +kernel
theorem dX9_backs_2 : decode cX9_backs 2 = .ok (.iload_n 1, 1) := by decide +kernel
theorem dX9_backs_3 : decode cX9_backs 3 = .ok (.bipush 80, 2) := by decide +kernel
theorem dX9_backs_5 : decode cX9_backs 5 = .ok (.if_icmp .ge 21, 3) := by decide +kernel
theorem dX9_backs_8 : decode cX9_backs 8 = .ok (.aload_n 0, 1) := by decide +kernel
theorem dX9_backs_9 : decode cX9_backs 9 = .ok (.getfield 19, 3) := by decide +kernel
theorem dX9_backs_12 : decode cX9_backs 12 = .ok (.iload_n 1, 1) := by decide +kernel
theorem dX9_backs_13 : decode cX9_backs 13 = .ok (.aload_n 0, 1) := by decide +kernel
theorem dX9_backs_14 : decode cX9_backs 14 = .ok (.getfield 32, 3) := by decide +kernel
theorem dX9_backs_17 : decode cX9_backs 17 = .ok (.iload_n 1, 1) := by decide +kernel
theorem dX9_backs_18 : decode cX9_backs 18 = .ok (.laload, 1) := by decide +kernel
theorem dX9_backs_19 : decode cX9_backs 19 = .ok (.lastore, 1) := by decide +kernel
theorem dX9_backs_20 : decode cX9_backs 20 = .ok (.iinc 1 1, 3) := by decide +kernel
theorem dX9_backs_23 : decode cX9_backs 23 = .ok (.goto (-21), 3) := by decide +kernel
theorem dX9_backs_26 : decode cX9_backs 26 = .ok (.return_, 1) := by decide +kernel
theorem dX9_where_0 : decode cX9_where 0 = .ok (.iload_n 1, 1) := by decide +kernel
theorem dX9_where_1 : decode cX9_where 1 = .ok (.i2l, 1) := by decide +kernel
theorem dX9_where_2 : decode cX9_where 2 = .ok (.lconst 0, 1) := by decide +kernel
theorem dX9_where_3 : decode cX9_where 3 = .ok (.ldc2_w 259, 3) := by decide +kernel
theorem dX9_where_6 : decode cX9_where 6 = .ok (.invokestatic 67, 3) := by decide +kernel
theorem dX9_where_9 : decode cX9_where 9 = .ok (.ifCond .ne 6, 3) := by decide +kernel
theorem dX9_where_12 : decode cX9_where 12 = .ok (.ldc 142, 2) := by decide +kernel
theorem dX9_where_14 : decode cX9_where 14 = .ok (.ireturn, 1) := by decide +kernel
theorem dX9_where_15 : decode cX9_where 15 = .ok (.aload_n 0, 1) := by decide +kernel
theorem dX9_where_16 : decode cX9_where 16 = .ok (.getfield 64, 3) := by decide +kernel
theorem dX9_where_19 : decode cX9_where 19 = .ok (.ifCond .ne 6, 3) := by decide +kernel
theorem dX9_where_22 : decode cX9_where 22 = .ok (.ldc 220, 2) := by decide +kernel
theorem dX9_where_24 : decode cX9_where 24 = .ok (.ireturn, 1) := by decide +kernel
theorem dX9_where_25 : decode cX9_where 25 = .ok (.aload_n 0, 1) := by decide +kernel
theorem dX9_where_26 : decode cX9_where 26 = .ok (.invokevirtual 261, 3) := by decide +kernel
theorem dX9_where_29 : decode cX9_where 29 = .ok (.aload_n 0, 1) := by decide +kernel
theorem dX9_where_30 : decode cX9_where 30 = .ok (.iload_n 1, 1) := by decide +kernel
theorem dX9_where_31 : decode cX9_where 31 = .ok (.invokevirtual 226, 3) := by decide +kernel
theorem dX9_where_34 : decode cX9_where 34 = .ok (.aload_n 0, 1) := by decide +kernel
theorem dX9_where_35 : decode cX9_where 35 = .ok (.iconst 2, 1) := by decide +kernel
theorem dX9_where_36 : decode cX9_where 36 = .ok (.invokevirtual 97, 3) := by decide +kernel
theorem dX9_where_39 : decode cX9_where 39 = .ok (.istore_n 2, 1) := by decide +kernel
theorem dX9_where_40 : decode cX9_where 40 = .ok (.aload_n 0, 1) := by decide +kernel
theorem dX9_where_41 : decode cX9_where 41 = .ok (.invokevirtual 264, 3) := by decide +kernel
theorem dX9_where_44 : decode cX9_where 44 = .ok (.iload_n 2, 1) := by decide +kernel
theorem dX9_where_45 : decode cX9_where 45 = .ok (.ireturn, 1) := by decide +kernel
theorem dX9_whenIn_0 : decode cX9_whenIn 0 = .ok (.iconst 0, 1) := by decide +kernel
theorem dX9_whenIn_1 : decode cX9_whenIn 1 = .ok (.istore_n 3, 1) := by decide +kernel
theorem dX9_whenIn_2 : decode cX9_whenIn 2 = .ok (.iload_n 3, 1) := by decide +kernel
theorem dX9_whenIn_3 : decode cX9_whenIn 3 = .ok (.iload_n 2, 1) := by decide +kernel
theorem dX9_whenIn_4 : decode cX9_whenIn 4 = .ok (.if_icmp .gt 22, 3) := by decide +kernel
theorem dX9_whenIn_7 : decode cX9_whenIn 7 = .ok (.aload_n 0, 1) := by decide +kernel
theorem dX9_whenIn_8 : decode cX9_whenIn 8 = .ok (.iconst 2, 1) := by decide +kernel
theorem dX9_whenIn_9 : decode cX9_whenIn 9 = .ok (.invokevirtual 97, 3) := by decide +kernel
theorem dX9_whenIn_12 : decode cX9_whenIn 12 = .ok (.iload_n 1, 1) := by decide +kernel
theorem dX9_whenIn_13 : decode cX9_whenIn 13 = .ok (.if_icmp .eq 13, 3) := by decide +kernel
theorem dX9_whenIn_16 : decode cX9_whenIn 16 = .ok (.aload_n 0, 1) := by decide +kernel
theorem dX9_whenIn_17 : decode cX9_whenIn 17 = .ok (.invokevirtual 137, 3) := by decide +kernel
theorem dX9_whenIn_20 : decode cX9_whenIn 20 = .ok (.iinc 3 1, 3) := by decide +kernel
theorem dX9_whenIn_23 : decode cX9_whenIn 23 = .ok (.goto (-21), 3) := by decide +kernel
theorem dX9_whenIn_26 : decode cX9_whenIn 26 = .ok (.aload_n 0, 1) := by decide +kernel
theorem dX9_whenIn_27 : decode cX9_whenIn 27 = .ok (.invokevirtual 264, 3) := by decide +kernel
theorem dX9_whenIn_30 : decode cX9_whenIn 30 = .ok (.iload_n 3, 1) := by decide +kernel
theorem dX9_whenIn_31 : decode cX9_whenIn 31 = .ok (.ireturn, 1) := by decide +kernel
theorem dX9_when_0 : decode cX9_when 0 = .ok (.aload_n 0, 1) := by decide +kernel
theorem dX9_when_1 : decode cX9_when 1 = .ok (.iload_n 1, 1) := by decide +kernel
theorem dX9_when_2 : decode cX9_when 2 = .ok (.invokevirtual 202, 3) := by decide +kernel
theorem dX9_when_5 : decode cX9_when 5 = .ok (.ifCond .ne 6, 3) := by decide +kernel
theorem dX9_when_8 : decode cX9_when 8 = .ok (.ldc 205, 2) := by decide +kernel
theorem dX9_when_10 : decode cX9_when 10 = .ok (.ireturn, 1) := by decide +kernel
theorem dX9_when_11 : decode cX9_when 11 = .ok (.aload_n 0, 1) := by decide +kernel
theorem dX9_when_12 : decode cX9_when 12 = .ok (.invokevirtual 261, 3) := by decide +kernel
theorem dX9_when_15 : decode cX9_when 15 = .ok (.aload_n 0, 1) := by decide +kernel
theorem dX9_when_16 : decode cX9_when 16 = .ok (.iload_n 1, 1) := by decide +kernel
theorem dX9_when_17 : decode cX9_when 17 = .ok (.bipush 100, 2) := by decide +kernel
theorem dX9_when_19 : decode cX9_when 19 = .ok (.invokevirtual 267, 3) := by decide +kernel
theorem dX9_when_22 : decode cX9_when 22 = .ok (.istore_n 2, 1) := by decide +kernel
theorem dX9_when_23 : decode cX9_when 23 = .ok (.iload_n 2, 1) := by decide +kernel
theorem dX9_when_24 : decode cX9_when 24 = .ok (.bipush 100, 2) := by decide +kernel
theorem dX9_when_26 : decode cX9_when 26 = .ok (.if_icmp .le 7, 3) := by decide +kernel
theorem dX9_when_29 : decode cX9_when 29 = .ok (.iconst (-1), 1) := by decide +kernel
theorem dX9_when_30 : decode cX9_when 30 = .ok (.goto 4, 3) := by decide +kernel
theorem dX9_when_33 : decode cX9_when 33 = .ok (.iload_n 2, 1) := by decide +kernel
theorem dX9_when_34 : decode cX9_when 34 = .ok (.ireturn, 1) := by decide +kernel
theorem dX9_governed_0 : decode cX9_governed 0 = .ok (.aload_n 0, 1) := by decide +kernel
theorem dX9_governed_1 : decode cX9_governed 1 = .ok (.iload_n 1, 1) := by decide +kernel
theorem dX9_governed_2 : decode cX9_governed 2 = .ok (.invokevirtual 202, 3) := by decide +kernel
theorem dX9_governed_5 : decode cX9_governed 5 = .ok (.ifCond .ne 6, 3) := by decide +kernel
theorem dX9_governed_8 : decode cX9_governed 8 = .ok (.ldc 205, 2) := by decide +kernel
theorem dX9_governed_10 : decode cX9_governed 10 = .ok (.ireturn, 1) := by decide +kernel
theorem dX9_governed_11 : decode cX9_governed 11 = .ok (.iload_n 2, 1) := by decide +kernel
theorem dX9_governed_12 : decode cX9_governed 12 = .ok (.i2l, 1) := by decide +kernel
theorem dX9_governed_13 : decode cX9_governed 13 = .ok (.lconst 1, 1) := by decide +kernel
theorem dX9_governed_14 : decode cX9_governed 14 = .ok (.ldc2_w 259, 3) := by decide +kernel
theorem dX9_governed_17 : decode cX9_governed 17 = .ok (.invokestatic 67, 3) := by decide +kernel
theorem dX9_governed_20 : decode cX9_governed 20 = .ok (.ifCond .ne 6, 3) := by decide +kernel
theorem dX9_governed_23 : decode cX9_governed 23 = .ok (.ldc 142, 2) := by decide +kernel
theorem dX9_governed_25 : decode cX9_governed 25 = .ok (.ireturn, 1) := by decide +kernel
theorem dX9_governed_26 : decode cX9_governed 26 = .ok (.aload_n 0, 1) := by decide +kernel
theorem dX9_governed_27 : decode cX9_governed 27 = .ok (.invokevirtual 261, 3) := by decide +kernel
theorem dX9_governed_30 : decode cX9_governed 30 = .ok (.aload_n 0, 1) := by decide +kernel
theorem dX9_governed_31 : decode cX9_governed 31 = .ok (.iload_n 2, 1) := by decide +kernel
theorem dX9_governed_32 : decode cX9_governed 32 = .ok (.invokevirtual 226, 3) := by decide +kernel
theorem dX9_governed_35 : decode cX9_governed 35 = .ok (.aload_n 0, 1) := by decide +kernel
theorem dX9_governed_36 : decode cX9_governed 36 = .ok (.getfield 19, 3) := by decide +kernel
theorem dX9_governed_39 : decode cX9_governed 39 = .ok (.bipush 18, 2) := by decide +kernel
theorem dX9_governed_41 : decode cX9_governed 41 = .ok (.iload_n 1, 1) := by decide +kernel
theorem dX9_governed_42 : decode cX9_governed 42 = .ok (.iadd, 1) := by decide +kernel
theorem dX9_governed_43 : decode cX9_governed 43 = .ok (.laload, 1) := by decide +kernel
theorem dX9_governed_44 : decode cX9_governed 44 = .ok (.aload_n 0, 1) := by decide +kernel
theorem dX9_governed_45 : decode cX9_governed 45 = .ok (.getfield 32, 3) := by decide +kernel
theorem dX9_governed_48 : decode cX9_governed 48 = .ok (.bipush 18, 2) := by decide +kernel
theorem dX9_governed_50 : decode cX9_governed 50 = .ok (.iload_n 1, 1) := by decide +kernel
theorem dX9_governed_51 : decode cX9_governed 51 = .ok (.iadd, 1) := by decide +kernel
theorem dX9_governed_52 : decode cX9_governed 52 = .ok (.laload, 1) := by decide +kernel
theorem dX9_governed_53 : decode cX9_governed 53 = .ok (.lsub, 1) := by decide +kernel
theorem dX9_governed_54 : decode cX9_governed 54 = .ok (.l2i, 1) := by decide +kernel
theorem dX9_governed_55 : decode cX9_governed 55 = .ok (.istore_n 3, 1) := by decide +kernel
theorem dX9_governed_56 : decode cX9_governed 56 = .ok (.aload_n 0, 1) := by decide +kernel
theorem dX9_governed_57 : decode cX9_governed 57 = .ok (.invokevirtual 264, 3) := by decide +kernel
theorem dX9_governed_60 : decode cX9_governed 60 = .ok (.iload_n 3, 1) := by decide +kernel
theorem dX9_governed_61 : decode cX9_governed 61 = .ok (.ireturn, 1) := by decide +kernel
theorem dX9_ring_0 : decode cX9_ring 0 = .ok (.aload_n 0, 1) := by decide +kernel
theorem dX9_ring_1 : decode cX9_ring 1 = .ok (.getfield 64, 3) := by decide +kernel
theorem dX9_ring_4 : decode cX9_ring 4 = .ok (.ifCond .ne 6, 3) := by decide +kernel
theorem dX9_ring_7 : decode cX9_ring 7 = .ok (.ldc 220, 2) := by decide +kernel
theorem dX9_ring_9 : decode cX9_ring 9 = .ok (.ireturn, 1) := by decide +kernel
theorem dX9_ring_10 : decode cX9_ring 10 = .ok (.aload_n 0, 1) := by decide +kernel
theorem dX9_ring_11 : decode cX9_ring 11 = .ok (.invokevirtual 261, 3) := by decide +kernel
theorem dX9_ring_14 : decode cX9_ring 14 = .ok (.iconst 0, 1) := by decide +kernel
theorem dX9_ring_15 : decode cX9_ring 15 = .ok (.istore_n 1, 1) := by decide +kernel
theorem dX9_ring_16 : decode cX9_ring 16 = .ok (.iconst 0, 1) := by decide +kernel
theorem dX9_ring_17 : decode cX9_ring 17 = .ok (.istore_n 2, 1) := by decide +kernel
theorem dX9_ring_18 : decode cX9_ring 18 = .ok (.iconst 0, 1) := by decide +kernel
theorem dX9_ring_19 : decode cX9_ring 19 = .ok (.istore_n 3, 1) := by decide +kernel
theorem dX9_ring_20 : decode cX9_ring 20 = .ok (.iload_n 1, 1) := by decide +kernel
theorem dX9_ring_21 : decode cX9_ring 21 = .ok (.bipush 100, 2) := by decide +kernel
theorem dX9_ring_23 : decode cX9_ring 23 = .ok (.if_icmp .ge 69, 3) := by decide +kernel
theorem dX9_ring_26 : decode cX9_ring 26 = .ok (.iload_n 3, 1) := by decide +kernel
theorem dX9_ring_27 : decode cX9_ring 27 = .ok (.ifCond .ne 65, 3) := by decide +kernel
theorem dX9_ring_30 : decode cX9_ring 30 = .ok (.aload_n 0, 1) := by decide +kernel
theorem dX9_ring_31 : decode cX9_ring 31 = .ok (.invokevirtual 137, 3) := by decide +kernel
theorem dX9_ring_34 : decode cX9_ring 34 = .ok (.iinc 1 1, 3) := by decide +kernel
theorem dX9_ring_37 : decode cX9_ring 37 = .ok (.iload_n 2, 1) := by decide +kernel
theorem dX9_ring_38 : decode cX9_ring 38 = .ok (.ifCond .eq 23, 3) := by decide +kernel
theorem dX9_ring_41 : decode cX9_ring 41 = .ok (.aload_n 0, 1) := by decide +kernel
theorem dX9_ring_42 : decode cX9_ring 42 = .ok (.getfield 19, 3) := by decide +kernel
theorem dX9_ring_45 : decode cX9_ring 45 = .ok (.iconst 2, 1) := by decide +kernel
theorem dX9_ring_46 : decode cX9_ring 46 = .ok (.laload, 1) := by decide +kernel
theorem dX9_ring_47 : decode cX9_ring 47 = .ok (.aload_n 0, 1) := by decide +kernel
theorem dX9_ring_48 : decode cX9_ring 48 = .ok (.getfield 32, 3) := by decide +kernel
theorem dX9_ring_51 : decode cX9_ring 51 = .ok (.iconst 2, 1) := by decide +kernel
theorem dX9_ring_52 : decode cX9_ring 52 = .ok (.laload, 1) := by decide +kernel
theorem dX9_ring_53 : decode cX9_ring 53 = .ok (.lcmp, 1) := by decide +kernel
theorem dX9_ring_54 : decode cX9_ring 54 = .ok (.ifCond .ne 7, 3) := by decide +kernel
theorem dX9_ring_57 : decode cX9_ring 57 = .ok (.iconst 1, 1) := by decide +kernel
theorem dX9_ring_58 : decode cX9_ring 58 = .ok (.goto 4, 3) := by decide +kernel
theorem dX9_ring_61 : decode cX9_ring 61 = .ok (.iconst 0, 1) := by decide +kernel
theorem dX9_ring_62 : decode cX9_ring 62 = .ok (.istore_n 3, 1) := by decide +kernel
theorem dX9_ring_63 : decode cX9_ring 63 = .ok (.iload_n 2, 1) := by decide +kernel
theorem dX9_ring_64 : decode cX9_ring 64 = .ok (.ifCond .ne 19, 3) := by decide +kernel
theorem dX9_ring_67 : decode cX9_ring 67 = .ok (.aload_n 0, 1) := by decide +kernel
theorem dX9_ring_68 : decode cX9_ring 68 = .ok (.getfield 19, 3) := by decide +kernel
theorem dX9_ring_71 : decode cX9_ring 71 = .ok (.iconst 2, 1) := by decide +kernel
theorem dX9_ring_72 : decode cX9_ring 72 = .ok (.laload, 1) := by decide +kernel
theorem dX9_ring_73 : decode cX9_ring 73 = .ok (.aload_n 0, 1) := by decide +kernel
theorem dX9_ring_74 : decode cX9_ring 74 = .ok (.getfield 32, 3) := by decide +kernel
theorem dX9_ring_77 : decode cX9_ring 77 = .ok (.iconst 2, 1) := by decide +kernel
theorem dX9_ring_78 : decode cX9_ring 78 = .ok (.laload, 1) := by decide +kernel
theorem dX9_ring_79 : decode cX9_ring 79 = .ok (.lcmp, 1) := by decide +kernel
theorem dX9_ring_80 : decode cX9_ring 80 = .ok (.ifCond .eq 7, 3) := by decide +kernel
theorem dX9_ring_83 : decode cX9_ring 83 = .ok (.iconst 1, 1) := by decide +kernel
theorem dX9_ring_84 : decode cX9_ring 84 = .ok (.goto 4, 3) := by decide +kernel
theorem dX9_ring_87 : decode cX9_ring 87 = .ok (.iconst 0, 1) := by decide +kernel
theorem dX9_ring_88 : decode cX9_ring 88 = .ok (.istore_n 2, 1) := by decide +kernel
theorem dX9_ring_89 : decode cX9_ring 89 = .ok (.goto (-69), 3) := by decide +kernel
theorem dX9_ring_92 : decode cX9_ring 92 = .ok (.aload_n 0, 1) := by decide +kernel
theorem dX9_ring_93 : decode cX9_ring 93 = .ok (.invokevirtual 264, 3) := by decide +kernel
theorem dX9_ring_96 : decode cX9_ring 96 = .ok (.iload_n 3, 1) := by decide +kernel
theorem dX9_ring_97 : decode cX9_ring 97 = .ok (.ifCond .eq 7, 3) := by decide +kernel
theorem dX9_ring_100 : decode cX9_ring 100 = .ok (.iload_n 1, 1) := by decide +kernel
theorem dX9_ring_101 : decode cX9_ring 101 = .ok (.goto 4, 3) := by decide +kernel
theorem dX9_ring_104 : decode cX9_ring 104 = .ok (.iconst (-1), 1) := by decide +kernel
theorem dX9_ring_105 : decode cX9_ring 105 = .ok (.ireturn, 1) := by decide +kernel
theorem dX9_many_0 : decode cX9_many 0 = .ok (.iconst 0, 1) := by decide +kernel
theorem dX9_many_1 : decode cX9_many 1 = .ok (.istore_n 1, 1) := by decide +kernel
theorem dX9_many_2 : decode cX9_many 2 = .ok (.iload_n 0, 1) := by decide +kernel
theorem dX9_many_3 : decode cX9_many 3 = .ok (.istore_n 2, 1) := by decide +kernel
theorem dX9_many_4 : decode cX9_many 4 = .ok (.iload_n 2, 1) := by decide +kernel
theorem dX9_many_5 : decode cX9_many 5 = .ok (.ifCond .eq 15, 3) := by decide +kernel
theorem dX9_many_8 : decode cX9_many 8 = .ok (.iinc 1 1, 3) := by decide +kernel
theorem dX9_many_11 : decode cX9_many 11 = .ok (.iload_n 2, 1) := by decide +kernel
theorem dX9_many_12 : decode cX9_many 12 = .ok (.iload_n 2, 1) := by decide +kernel
theorem dX9_many_13 : decode cX9_many 13 = .ok (.iconst 1, 1) := by decide +kernel
theorem dX9_many_14 : decode cX9_many 14 = .ok (.isub, 1) := by decide +kernel
theorem dX9_many_15 : decode cX9_many 15 = .ok (.iand, 1) := by decide +kernel
theorem dX9_many_16 : decode cX9_many 16 = .ok (.istore_n 2, 1) := by decide +kernel
theorem dX9_many_17 : decode cX9_many 17 = .ok (.goto (-13), 3) := by decide +kernel
theorem dX9_many_20 : decode cX9_many 20 = .ok (.iload_n 1, 1) := by decide +kernel
theorem dX9_many_21 : decode cX9_many 21 = .ok (.ireturn, 1) := by decide +kernel
theorem dX9_carpets_0 : decode cX9_carpets 0 = .ok (.aload_n 0, 1) := by decide +kernel
theorem dX9_carpets_1 : decode cX9_carpets 1 = .ok (.iload_n 1, 1) := by decide +kernel
theorem dX9_carpets_2 : decode cX9_carpets 2 = .ok (.invokevirtual 202, 3) := by decide +kernel
theorem dX9_carpets_5 : decode cX9_carpets 5 = .ok (.ifCond .ne 6, 3) := by decide +kernel
theorem dX9_carpets_8 : decode cX9_carpets 8 = .ok (.ldc 205, 2) := by decide +kernel
theorem dX9_carpets_10 : decode cX9_carpets 10 = .ok (.ireturn, 1) := by decide +kernel
theorem dX9_carpets_11 : decode cX9_carpets 11 = .ok (.iload_n 2, 1) := by decide +kernel
theorem dX9_carpets_12 : decode cX9_carpets 12 = .ok (.i2l, 1) := by decide +kernel
theorem dX9_carpets_13 : decode cX9_carpets 13 = .ok (.lconst 0, 1) := by decide +kernel
theorem dX9_carpets_14 : decode cX9_carpets 14 = .ok (.ldc2_w 270, 3) := by decide +kernel
theorem dX9_carpets_17 : decode cX9_carpets 17 = .ok (.invokestatic 67, 3) := by decide +kernel
theorem dX9_carpets_20 : decode cX9_carpets 20 = .ok (.ifCond .ne 6, 3) := by decide +kernel
theorem dX9_carpets_23 : decode cX9_carpets 23 = .ok (.ldc 142, 2) := by decide +kernel
theorem dX9_carpets_25 : decode cX9_carpets 25 = .ok (.ireturn, 1) := by decide +kernel
theorem dX9_carpets_26 : decode cX9_carpets 26 = .ok (.iconst (-1), 1) := by decide +kernel
theorem dX9_carpets_27 : decode cX9_carpets 27 = .ok (.istore_n 3, 1) := by decide +kernel
theorem dX9_carpets_28 : decode cX9_carpets 28 = .ok (.aload_n 0, 1) := by decide +kernel
theorem dX9_carpets_29 : decode cX9_carpets 29 = .ok (.invokevirtual 261, 3) := by decide +kernel
theorem dX9_carpets_32 : decode cX9_carpets 32 = .ok (.iconst 0, 1) := by decide +kernel
theorem dX9_carpets_33 : decode cX9_carpets 33 = .ok (.istore 4, 2) := by decide +kernel
theorem dX9_carpets_35 : decode cX9_carpets 35 = .ok (.iload 4, 2) := by decide +kernel
theorem dX9_carpets_37 : decode cX9_carpets 37 = .ok (.iconst 1, 1) := by decide +kernel
theorem dX9_carpets_38 : decode cX9_carpets 38 = .ok (.aload_n 0, 1) := by decide +kernel
theorem dX9_carpets_39 : decode cX9_carpets 39 = .ok (.getfield 64, 3) := by decide +kernel
theorem dX9_carpets_42 : decode cX9_carpets 42 = .ok (.ishl, 1) := by decide +kernel
theorem dX9_carpets_43 : decode cX9_carpets 43 = .ok (.if_icmp .ge 55, 3) := by decide +kernel
theorem dX9_carpets_46 : decode cX9_carpets 46 = .ok (.iload_n 3, 1) := by decide +kernel
theorem dX9_carpets_47 : decode cX9_carpets 47 = .ok (.iconst (-1), 1) := by decide +kernel
theorem dX9_carpets_48 : decode cX9_carpets 48 = .ok (.if_icmp .eq 15, 3) := by decide +kernel
theorem dX9_carpets_51 : decode cX9_carpets 51 = .ok (.iload 4, 2) := by decide +kernel
theorem dX9_carpets_53 : decode cX9_carpets 53 = .ok (.invokestatic 272, 3) := by decide +kernel
theorem dX9_carpets_56 : decode cX9_carpets 56 = .ok (.iload_n 3, 1) := by decide +kernel
theorem dX9_carpets_57 : decode cX9_carpets 57 = .ok (.invokestatic 272, 3) := by decide +kernel
theorem dX9_carpets_60 : decode cX9_carpets 60 = .ok (.if_icmp .ge 32, 3) := by decide +kernel
theorem dX9_carpets_63 : decode cX9_carpets 63 = .ok (.aload_n 0, 1) := by decide +kernel
theorem dX9_carpets_64 : decode cX9_carpets 64 = .ok (.getfield 19, 3) := by decide +kernel
theorem dX9_carpets_67 : decode cX9_carpets 67 = .ok (.iconst 4, 1) := by decide +kernel
theorem dX9_carpets_68 : decode cX9_carpets 68 = .ok (.dup2, 1) := by decide +kernel
theorem dX9_carpets_69 : decode cX9_carpets 69 = .ok (.laload, 1) := by decide +kernel
theorem dX9_carpets_70 : decode cX9_carpets 70 = .ok (.iload 4, 2) := by decide +kernel
theorem dX9_carpets_72 : decode cX9_carpets 72 = .ok (.i2l, 1) := by decide +kernel
theorem dX9_carpets_73 : decode cX9_carpets 73 = .ok (.lxor, 1) := by decide +kernel
theorem dX9_carpets_74 : decode cX9_carpets 74 = .ok (.lastore, 1) := by decide +kernel
theorem dX9_carpets_75 : decode cX9_carpets 75 = .ok (.aload_n 0, 1) := by decide +kernel
theorem dX9_carpets_76 : decode cX9_carpets 76 = .ok (.iload_n 1, 1) := by decide +kernel
theorem dX9_carpets_77 : decode cX9_carpets 77 = .ok (.iload_n 2, 1) := by decide +kernel
theorem dX9_carpets_78 : decode cX9_carpets 78 = .ok (.invokevirtual 267, 3) := by decide +kernel
theorem dX9_carpets_81 : decode cX9_carpets 81 = .ok (.iload_n 2, 1) := by decide +kernel
theorem dX9_carpets_82 : decode cX9_carpets 82 = .ok (.if_icmp .gt 8, 3) := by decide +kernel
theorem dX9_carpets_85 : decode cX9_carpets 85 = .ok (.iload 4, 2) := by decide +kernel
theorem dX9_carpets_87 : decode cX9_carpets 87 = .ok (.goto 4, 3) := by decide +kernel
theorem dX9_carpets_90 : decode cX9_carpets 90 = .ok (.iload_n 3, 1) := by decide +kernel
theorem dX9_carpets_91 : decode cX9_carpets 91 = .ok (.istore_n 3, 1) := by decide +kernel
theorem dX9_carpets_92 : decode cX9_carpets 92 = .ok (.iinc 4 1, 3) := by decide +kernel
theorem dX9_carpets_95 : decode cX9_carpets 95 = .ok (.goto (-60), 3) := by decide +kernel
theorem dX9_carpets_98 : decode cX9_carpets 98 = .ok (.iload_n 3, 1) := by decide +kernel
theorem dX9_carpets_99 : decode cX9_carpets 99 = .ok (.ireturn, 1) := by decide +kernel
theorem dX9_reached_0 : decode cX9_reached 0 = .ok (.iconst 1, 1) := by decide +kernel
theorem dX9_reached_1 : decode cX9_reached 1 = .ok (.aload_n 0, 1) := by decide +kernel
theorem dX9_reached_2 : decode cX9_reached 2 = .ok (.iconst 2, 1) := by decide +kernel
theorem dX9_reached_3 : decode cX9_reached 3 = .ok (.invokevirtual 97, 3) := by decide +kernel
theorem dX9_reached_6 : decode cX9_reached 6 = .ok (.ishl, 1) := by decide +kernel
theorem dX9_reached_7 : decode cX9_reached 7 = .ok (.istore_n 2, 1) := by decide +kernel
theorem dX9_reached_8 : decode cX9_reached 8 = .ok (.iconst 0, 1) := by decide +kernel
theorem dX9_reached_9 : decode cX9_reached 9 = .ok (.istore_n 3, 1) := by decide +kernel
theorem dX9_reached_10 : decode cX9_reached 10 = .ok (.iload_n 3, 1) := by decide +kernel
theorem dX9_reached_11 : decode cX9_reached 11 = .ok (.aload_n 0, 1) := by decide +kernel
theorem dX9_reached_12 : decode cX9_reached 12 = .ok (.getfield 64, 3) := by decide +kernel
theorem dX9_reached_15 : decode cX9_reached 15 = .ok (.if_icmp .ge 154, 3) := by decide +kernel
theorem dX9_reached_18 : decode cX9_reached 18 = .ok (.iconst 0, 1) := by decide +kernel
theorem dX9_reached_19 : decode cX9_reached 19 = .ok (.istore 4, 2) := by decide +kernel
theorem dX9_reached_21 : decode cX9_reached 21 = .ok (.iload 4, 2) := by decide +kernel
theorem dX9_reached_23 : decode cX9_reached 23 = .ok (.aload_n 0, 1) := by decide +kernel
theorem dX9_reached_24 : decode cX9_reached 24 = .ok (.getfield 71, 3) := by decide +kernel
theorem dX9_reached_27 : decode cX9_reached 27 = .ok (.if_icmp .ge 136, 3) := by decide +kernel
theorem dX9_reached_30 : decode cX9_reached 30 = .ok (.iconst 1, 1) := by decide +kernel
theorem dX9_reached_31 : decode cX9_reached 31 = .ok (.aload_n 0, 1) := by decide +kernel
theorem dX9_reached_32 : decode cX9_reached 32 = .ok (.getfield 7, 3) := by decide +kernel
theorem dX9_reached_35 : decode cX9_reached 35 = .ok (.iload 4, 2) := by decide +kernel
theorem dX9_reached_37 : decode cX9_reached 37 = .ok (.iaload, 1) := by decide +kernel
theorem dX9_reached_38 : decode cX9_reached 38 = .ok (.ishl, 1) := by decide +kernel
theorem dX9_reached_39 : decode cX9_reached 39 = .ok (.istore 5, 2) := by decide +kernel
theorem dX9_reached_41 : decode cX9_reached 41 = .ok (.iconst 1, 1) := by decide +kernel
theorem dX9_reached_42 : decode cX9_reached 42 = .ok (.aload_n 0, 1) := by decide +kernel
theorem dX9_reached_43 : decode cX9_reached 43 = .ok (.getfield 13, 3) := by decide +kernel
theorem dX9_reached_46 : decode cX9_reached 46 = .ok (.iload 4, 2) := by decide +kernel
theorem dX9_reached_48 : decode cX9_reached 48 = .ok (.iaload, 1) := by decide +kernel
theorem dX9_reached_49 : decode cX9_reached 49 = .ok (.ishl, 1) := by decide +kernel
theorem dX9_reached_50 : decode cX9_reached 50 = .ok (.istore 6, 2) := by decide +kernel
theorem dX9_reached_52 : decode cX9_reached 52 = .ok (.aload_n 0, 1) := by decide +kernel
theorem dX9_reached_53 : decode cX9_reached 53 = .ok (.getfield 19, 3) := by decide +kernel
theorem dX9_reached_56 : decode cX9_reached 56 = .ok (.bipush 6, 2) := by decide +kernel
theorem dX9_reached_58 : decode cX9_reached 58 = .ok (.laload, 1) := by decide +kernel
theorem dX9_reached_59 : decode cX9_reached 59 = .ok (.iload_n 1, 1) := by decide +kernel
theorem dX9_reached_60 : decode cX9_reached 60 = .ok (.i2l, 1) := by decide +kernel
theorem dX9_reached_61 : decode cX9_reached 61 = .ok (.lor, 1) := by decide +kernel
theorem dX9_reached_62 : decode cX9_reached 62 = .ok (.iload 4, 2) := by decide +kernel
theorem dX9_reached_64 : decode cX9_reached 64 = .ok (.invokestatic 85, 3) := by decide +kernel
theorem dX9_reached_67 : decode cX9_reached 67 = .ok (.ifCond .ne 7, 3) := by decide +kernel
theorem dX9_reached_70 : decode cX9_reached 70 = .ok (.iconst 1, 1) := by decide +kernel
theorem dX9_reached_71 : decode cX9_reached 71 = .ok (.goto 4, 3) := by decide +kernel
theorem dX9_reached_74 : decode cX9_reached 74 = .ok (.iconst 0, 1) := by decide +kernel
theorem dX9_reached_75 : decode cX9_reached 75 = .ok (.istore 7, 2) := by decide +kernel
theorem dX9_reached_77 : decode cX9_reached 77 = .ok (.iload_n 2, 1) := by decide +kernel
theorem dX9_reached_78 : decode cX9_reached 78 = .ok (.iload 7, 2) := by decide +kernel
theorem dX9_reached_80 : decode cX9_reached 80 = .ok (.ifCond .eq 34, 3) := by decide +kernel
theorem dX9_reached_83 : decode cX9_reached 83 = .ok (.iload_n 2, 1) := by decide +kernel
theorem dX9_reached_84 : decode cX9_reached 84 = .ok (.iload 5, 2) := by decide +kernel
theorem dX9_reached_86 : decode cX9_reached 86 = .ok (.iand, 1) := by decide +kernel
theorem dX9_reached_87 : decode cX9_reached 87 = .ok (.ifCond .eq 27, 3) := by decide +kernel
theorem dX9_reached_90 : decode cX9_reached 90 = .ok (.aload_n 0, 1) := by decide +kernel
theorem dX9_reached_91 : decode cX9_reached 91 = .ok (.getfield 19, 3) := by decide +kernel
theorem dX9_reached_94 : decode cX9_reached 94 = .ok (.iconst 5, 1) := by decide +kernel
theorem dX9_reached_95 : decode cX9_reached 95 = .ok (.laload, 1) := by decide +kernel
theorem dX9_reached_96 : decode cX9_reached 96 = .ok (.aload_n 0, 1) := by decide +kernel
theorem dX9_reached_97 : decode cX9_reached 97 = .ok (.getfield 13, 3) := by decide +kernel
theorem dX9_reached_100 : decode cX9_reached 100 = .ok (.iload 4, 2) := by decide +kernel
theorem dX9_reached_102 : decode cX9_reached 102 = .ok (.iaload, 1) := by decide +kernel
theorem dX9_reached_103 : decode cX9_reached 103 = .ok (.invokestatic 85, 3) := by decide +kernel
theorem dX9_reached_106 : decode cX9_reached 106 = .ok (.ifCond .ne 8, 3) := by decide +kernel
theorem dX9_reached_109 : decode cX9_reached 109 = .ok (.iload 6, 2) := by decide +kernel
theorem dX9_reached_111 : decode cX9_reached 111 = .ok (.goto 4, 3) := by decide +kernel
theorem dX9_reached_114 : decode cX9_reached 114 = .ok (.iconst 0, 1) := by decide +kernel
theorem dX9_reached_115 : decode cX9_reached 115 = .ok (.ior, 1) := by decide +kernel
theorem dX9_reached_116 : decode cX9_reached 116 = .ok (.istore_n 2, 1) := by decide +kernel
theorem dX9_reached_117 : decode cX9_reached 117 = .ok (.iload_n 2, 1) := by decide +kernel
theorem dX9_reached_118 : decode cX9_reached 118 = .ok (.iload 7, 2) := by decide +kernel
theorem dX9_reached_120 : decode cX9_reached 120 = .ok (.ifCond .eq 34, 3) := by decide +kernel
theorem dX9_reached_123 : decode cX9_reached 123 = .ok (.iload_n 2, 1) := by decide +kernel
theorem dX9_reached_124 : decode cX9_reached 124 = .ok (.iload 6, 2) := by decide +kernel
theorem dX9_reached_126 : decode cX9_reached 126 = .ok (.iand, 1) := by decide +kernel
theorem dX9_reached_127 : decode cX9_reached 127 = .ok (.ifCond .eq 27, 3) := by decide +kernel
theorem dX9_reached_130 : decode cX9_reached 130 = .ok (.aload_n 0, 1) := by decide +kernel
theorem dX9_reached_131 : decode cX9_reached 131 = .ok (.getfield 19, 3) := by decide +kernel
theorem dX9_reached_134 : decode cX9_reached 134 = .ok (.iconst 5, 1) := by decide +kernel
theorem dX9_reached_135 : decode cX9_reached 135 = .ok (.laload, 1) := by decide +kernel
theorem dX9_reached_136 : decode cX9_reached 136 = .ok (.aload_n 0, 1) := by decide +kernel
theorem dX9_reached_137 : decode cX9_reached 137 = .ok (.getfield 7, 3) := by decide +kernel
theorem dX9_reached_140 : decode cX9_reached 140 = .ok (.iload 4, 2) := by decide +kernel
theorem dX9_reached_142 : decode cX9_reached 142 = .ok (.iaload, 1) := by decide +kernel
theorem dX9_reached_143 : decode cX9_reached 143 = .ok (.invokestatic 85, 3) := by decide +kernel
theorem dX9_reached_146 : decode cX9_reached 146 = .ok (.ifCond .ne 8, 3) := by decide +kernel
theorem dX9_reached_149 : decode cX9_reached 149 = .ok (.iload 5, 2) := by decide +kernel
theorem dX9_reached_151 : decode cX9_reached 151 = .ok (.goto 4, 3) := by decide +kernel
theorem dX9_reached_154 : decode cX9_reached 154 = .ok (.iconst 0, 1) := by decide +kernel
theorem dX9_reached_155 : decode cX9_reached 155 = .ok (.ior, 1) := by decide +kernel
theorem dX9_reached_156 : decode cX9_reached 156 = .ok (.istore_n 2, 1) := by decide +kernel
theorem dX9_reached_157 : decode cX9_reached 157 = .ok (.iinc 4 1, 3) := by decide +kernel
theorem dX9_reached_160 : decode cX9_reached 160 = .ok (.goto (-139), 3) := by decide +kernel
theorem dX9_reached_163 : decode cX9_reached 163 = .ok (.iinc 3 1, 3) := by decide +kernel
theorem dX9_reached_166 : decode cX9_reached 166 = .ok (.goto (-156), 3) := by decide +kernel
theorem dX9_reached_169 : decode cX9_reached 169 = .ok (.iload_n 2, 1) := by decide +kernel
theorem dX9_reached_170 : decode cX9_reached 170 = .ok (.ireturn, 1) := by decide +kernel
theorem dX9_bricks_0 : decode cX9_bricks 0 = .ok (.aload_n 0, 1) := by decide +kernel
theorem dX9_bricks_1 : decode cX9_bricks 1 = .ok (.iload_n 1, 1) := by decide +kernel
theorem dX9_bricks_2 : decode cX9_bricks 2 = .ok (.invokevirtual 202, 3) := by decide +kernel
theorem dX9_bricks_5 : decode cX9_bricks 5 = .ok (.ifCond .ne 6, 3) := by decide +kernel
theorem dX9_bricks_8 : decode cX9_bricks 8 = .ok (.ldc 205, 2) := by decide +kernel
theorem dX9_bricks_10 : decode cX9_bricks 10 = .ok (.ireturn, 1) := by decide +kernel
theorem dX9_bricks_11 : decode cX9_bricks 11 = .ok (.aload_n 0, 1) := by decide +kernel
theorem dX9_bricks_12 : decode cX9_bricks 12 = .ok (.iconst 2, 1) := by decide +kernel
theorem dX9_bricks_13 : decode cX9_bricks 13 = .ok (.invokevirtual 97, 3) := by decide +kernel
theorem dX9_bricks_16 : decode cX9_bricks 16 = .ok (.iload_n 1, 1) := by decide +kernel
theorem dX9_bricks_17 : decode cX9_bricks 17 = .ok (.if_icmp .ne 5, 3) := by decide +kernel
theorem dX9_bricks_20 : decode cX9_bricks 20 = .ok (.iconst (-1), 1) := by decide +kernel
theorem dX9_bricks_21 : decode cX9_bricks 21 = .ok (.ireturn, 1) := by decide +kernel
theorem dX9_bricks_22 : decode cX9_bricks 22 = .ok (.iconst (-1), 1) := by decide +kernel
theorem dX9_bricks_23 : decode cX9_bricks 23 = .ok (.istore_n 2, 1) := by decide +kernel
theorem dX9_bricks_24 : decode cX9_bricks 24 = .ok (.iconst 0, 1) := by decide +kernel
theorem dX9_bricks_25 : decode cX9_bricks 25 = .ok (.istore_n 3, 1) := by decide +kernel
theorem dX9_bricks_26 : decode cX9_bricks 26 = .ok (.iload_n 3, 1) := by decide +kernel
theorem dX9_bricks_27 : decode cX9_bricks 27 = .ok (.iconst 1, 1) := by decide +kernel
theorem dX9_bricks_28 : decode cX9_bricks 28 = .ok (.aload_n 0, 1) := by decide +kernel
theorem dX9_bricks_29 : decode cX9_bricks 29 = .ok (.getfield 71, 3) := by decide +kernel
theorem dX9_bricks_32 : decode cX9_bricks 32 = .ok (.ishl, 1) := by decide +kernel
theorem dX9_bricks_33 : decode cX9_bricks 33 = .ok (.if_icmp .ge 66, 3) := by decide +kernel
theorem dX9_bricks_36 : decode cX9_bricks 36 = .ok (.iload_n 3, 1) := by decide +kernel
theorem dX9_bricks_37 : decode cX9_bricks 37 = .ok (.aload_n 0, 1) := by decide +kernel
theorem dX9_bricks_38 : decode cX9_bricks 38 = .ok (.bipush 6, 2) := by decide +kernel
theorem dX9_bricks_40 : decode cX9_bricks 40 = .ok (.invokevirtual 97, 3) := by decide +kernel
theorem dX9_bricks_43 : decode cX9_bricks 43 = .ok (.iand, 1) := by decide +kernel
theorem dX9_bricks_44 : decode cX9_bricks 44 = .ok (.ifCond .ne 23, 3) := by decide +kernel
theorem dX9_bricks_47 : decode cX9_bricks 47 = .ok (.iload_n 2, 1) := by decide +kernel
theorem dX9_bricks_48 : decode cX9_bricks 48 = .ok (.iconst (-1), 1) := by decide +kernel
theorem dX9_bricks_49 : decode cX9_bricks 49 = .ok (.if_icmp .eq 14, 3) := by decide +kernel
theorem dX9_bricks_52 : decode cX9_bricks 52 = .ok (.iload_n 3, 1) := by decide +kernel
theorem dX9_bricks_53 : decode cX9_bricks 53 = .ok (.invokestatic 272, 3) := by decide +kernel
theorem dX9_bricks_56 : decode cX9_bricks 56 = .ok (.iload_n 2, 1) := by decide +kernel
theorem dX9_bricks_57 : decode cX9_bricks 57 = .ok (.invokestatic 272, 3) := by decide +kernel
theorem dX9_bricks_60 : decode cX9_bricks 60 = .ok (.if_icmp .ge 7, 3) := by decide +kernel
theorem dX9_bricks_63 : decode cX9_bricks 63 = .ok (.iconst 1, 1) := by decide +kernel
theorem dX9_bricks_64 : decode cX9_bricks 64 = .ok (.goto 4, 3) := by decide +kernel
theorem dX9_bricks_67 : decode cX9_bricks 67 = .ok (.iconst 0, 1) := by decide +kernel
theorem dX9_bricks_68 : decode cX9_bricks 68 = .ok (.istore 4, 2) := by decide +kernel
theorem dX9_bricks_70 : decode cX9_bricks 70 = .ok (.iload 4, 2) := by decide +kernel
theorem dX9_bricks_72 : decode cX9_bricks 72 = .ok (.ifCond .eq 19, 3) := by decide +kernel
theorem dX9_bricks_75 : decode cX9_bricks 75 = .ok (.aload_n 0, 1) := by decide +kernel
theorem dX9_bricks_76 : decode cX9_bricks 76 = .ok (.iload_n 3, 1) := by decide +kernel
theorem dX9_bricks_77 : decode cX9_bricks 77 = .ok (.invokevirtual 275, 3) := by decide +kernel
theorem dX9_bricks_80 : decode cX9_bricks 80 = .ok (.iload_n 1, 1) := by decide +kernel
theorem dX9_bricks_81 : decode cX9_bricks 81 = .ok (.ishr, 1) := by decide +kernel
theorem dX9_bricks_82 : decode cX9_bricks 82 = .ok (.iconst 1, 1) := by decide +kernel
theorem dX9_bricks_83 : decode cX9_bricks 83 = .ok (.iand, 1) := by decide +kernel
theorem dX9_bricks_84 : decode cX9_bricks 84 = .ok (.ifCond .ne 7, 3) := by decide +kernel
theorem dX9_bricks_87 : decode cX9_bricks 87 = .ok (.iload_n 3, 1) := by decide +kernel
theorem dX9_bricks_88 : decode cX9_bricks 88 = .ok (.goto 4, 3) := by decide +kernel
theorem dX9_bricks_91 : decode cX9_bricks 91 = .ok (.iload_n 2, 1) := by decide +kernel
theorem dX9_bricks_92 : decode cX9_bricks 92 = .ok (.istore_n 2, 1) := by decide +kernel
theorem dX9_bricks_93 : decode cX9_bricks 93 = .ok (.iinc 3 1, 3) := by decide +kernel
theorem dX9_bricks_96 : decode cX9_bricks 96 = .ok (.goto (-70), 3) := by decide +kernel
theorem dX9_bricks_99 : decode cX9_bricks 99 = .ok (.iload_n 2, 1) := by decide +kernel
theorem dX9_bricks_100 : decode cX9_bricks 100 = .ok (.ireturn, 1) := by decide +kernel
theorem dX9_enters_0 : decode cX9_enters 0 = .ok (.aload_n 0, 1) := by decide +kernel
theorem dX9_enters_1 : decode cX9_enters 1 = .ok (.getfield 35, 3) := by decide +kernel
theorem dX9_enters_4 : decode cX9_enters 4 = .ok (.iload_n 1, 1) := by decide +kernel
theorem dX9_enters_5 : decode cX9_enters 5 = .ok (.iaload, 1) := by decide +kernel
theorem dX9_enters_6 : decode cX9_enters 6 = .ok (.ifCond .lt 84, 3) := by decide +kernel
theorem dX9_enters_9 : decode cX9_enters 9 = .ok (.aload_n 0, 1) := by decide +kernel
theorem dX9_enters_10 : decode cX9_enters 10 = .ok (.getfield 19, 3) := by decide +kernel
theorem dX9_enters_13 : decode cX9_enters 13 = .ok (.bipush 6, 2) := by decide +kernel
theorem dX9_enters_15 : decode cX9_enters 15 = .ok (.laload, 1) := by decide +kernel
theorem dX9_enters_16 : decode cX9_enters 16 = .ok (.iload_n 3, 1) := by decide +kernel
theorem dX9_enters_17 : decode cX9_enters 17 = .ok (.invokestatic 85, 3) := by decide +kernel
theorem dX9_enters_20 : decode cX9_enters 20 = .ok (.ifCond .ne 70, 3) := by decide +kernel
theorem dX9_enters_23 : decode cX9_enters 23 = .ok (.aload_n 0, 1) := by decide +kernel
theorem dX9_enters_24 : decode cX9_enters 24 = .ok (.getfield 19, 3) := by decide +kernel
theorem dX9_enters_27 : decode cX9_enters 27 = .ok (.iconst 5, 1) := by decide +kernel
theorem dX9_enters_28 : decode cX9_enters 28 = .ok (.laload, 1) := by decide +kernel
theorem dX9_enters_29 : decode cX9_enters 29 = .ok (.iload_n 2, 1) := by decide +kernel
theorem dX9_enters_30 : decode cX9_enters 30 = .ok (.invokestatic 85, 3) := by decide +kernel
theorem dX9_enters_33 : decode cX9_enters 33 = .ok (.ifCond .ne 57, 3) := by decide +kernel
theorem dX9_enters_36 : decode cX9_enters 36 = .ok (.aload_n 0, 1) := by decide +kernel
theorem dX9_enters_37 : decode cX9_enters 37 = .ok (.getfield 35, 3) := by decide +kernel
theorem dX9_enters_40 : decode cX9_enters 40 = .ok (.iload_n 1, 1) := by decide +kernel
theorem dX9_enters_41 : decode cX9_enters 41 = .ok (.iaload, 1) := by decide +kernel
theorem dX9_enters_42 : decode cX9_enters 42 = .ok (.aload_n 0, 1) := by decide +kernel
theorem dX9_enters_43 : decode cX9_enters 43 = .ok (.bipush 10, 2) := by decide +kernel
theorem dX9_enters_45 : decode cX9_enters 45 = .ok (.iload_n 2, 1) := by decide +kernel
theorem dX9_enters_46 : decode cX9_enters 46 = .ok (.iadd, 1) := by decide +kernel
theorem dX9_enters_47 : decode cX9_enters 47 = .ok (.invokevirtual 97, 3) := by decide +kernel
theorem dX9_enters_50 : decode cX9_enters 50 = .ok (.iadd, 1) := by decide +kernel
theorem dX9_enters_51 : decode cX9_enters 51 = .ok (.istore 4, 2) := by decide +kernel
theorem dX9_enters_53 : decode cX9_enters 53 = .ok (.aload_n 0, 1) := by decide +kernel
theorem dX9_enters_54 : decode cX9_enters 54 = .ok (.getfield 35, 3) := by decide +kernel
theorem dX9_enters_57 : decode cX9_enters 57 = .ok (.iload_n 2, 1) := by decide +kernel
theorem dX9_enters_58 : decode cX9_enters 58 = .ok (.aload_n 0, 1) := by decide +kernel
theorem dX9_enters_59 : decode cX9_enters 59 = .ok (.getfield 35, 3) := by decide +kernel
theorem dX9_enters_62 : decode cX9_enters 62 = .ok (.iload_n 2, 1) := by decide +kernel
theorem dX9_enters_63 : decode cX9_enters 63 = .ok (.iaload, 1) := by decide +kernel
theorem dX9_enters_64 : decode cX9_enters 64 = .ok (.ifCond .lt 14, 3) := by decide +kernel
theorem dX9_enters_67 : decode cX9_enters 67 = .ok (.iload 4, 2) := by decide +kernel
theorem dX9_enters_69 : decode cX9_enters 69 = .ok (.aload_n 0, 1) := by decide +kernel
theorem dX9_enters_70 : decode cX9_enters 70 = .ok (.getfield 35, 3) := by decide +kernel
theorem dX9_enters_73 : decode cX9_enters 73 = .ok (.iload_n 2, 1) := by decide +kernel
theorem dX9_enters_74 : decode cX9_enters 74 = .ok (.iaload, 1) := by decide +kernel
theorem dX9_enters_75 : decode cX9_enters 75 = .ok (.if_icmp .ge 8, 3) := by decide +kernel
theorem dX9_enters_78 : decode cX9_enters 78 = .ok (.iload 4, 2) := by decide +kernel
theorem dX9_enters_80 : decode cX9_enters 80 = .ok (.goto 9, 3) := by decide +kernel
theorem dX9_enters_83 : decode cX9_enters 83 = .ok (.aload_n 0, 1) := by decide +kernel
theorem dX9_enters_84 : decode cX9_enters 84 = .ok (.getfield 35, 3) := by decide +kernel
theorem dX9_enters_87 : decode cX9_enters 87 = .ok (.iload_n 2, 1) := by decide +kernel
theorem dX9_enters_88 : decode cX9_enters 88 = .ok (.iaload, 1) := by decide +kernel
theorem dX9_enters_89 : decode cX9_enters 89 = .ok (.iastore, 1) := by decide +kernel
theorem dX9_enters_90 : decode cX9_enters 90 = .ok (.return_, 1) := by decide +kernel
theorem dX9_quietest_0 : decode cX9_quietest 0 = .ok (.aload_n 0, 1) := by decide +kernel
theorem dX9_quietest_1 : decode cX9_quietest 1 = .ok (.iload_n 1, 1) := by decide +kernel
theorem dX9_quietest_2 : decode cX9_quietest 2 = .ok (.invokevirtual 202, 3) := by decide +kernel
theorem dX9_quietest_5 : decode cX9_quietest 5 = .ok (.ifCond .ne 6, 3) := by decide +kernel
theorem dX9_quietest_8 : decode cX9_quietest 8 = .ok (.ldc 205, 2) := by decide +kernel
theorem dX9_quietest_10 : decode cX9_quietest 10 = .ok (.ireturn, 1) := by decide +kernel
theorem dX9_quietest_11 : decode cX9_quietest 11 = .ok (.iconst 0, 1) := by decide +kernel
theorem dX9_quietest_12 : decode cX9_quietest 12 = .ok (.istore_n 2, 1) := by decide +kernel
theorem dX9_quietest_13 : decode cX9_quietest 13 = .ok (.iload_n 2, 1) := by decide +kernel
theorem dX9_quietest_14 : decode cX9_quietest 14 = .ok (.bipush 8, 2) := by decide +kernel
theorem dX9_quietest_16 : decode cX9_quietest 16 = .ok (.if_icmp .ge 29, 3) := by decide +kernel
theorem dX9_quietest_19 : decode cX9_quietest 19 = .ok (.aload_n 0, 1) := by decide +kernel
theorem dX9_quietest_20 : decode cX9_quietest 20 = .ok (.getfield 35, 3) := by decide +kernel
theorem dX9_quietest_23 : decode cX9_quietest 23 = .ok (.iload_n 2, 1) := by decide +kernel
theorem dX9_quietest_24 : decode cX9_quietest 24 = .ok (.iload_n 2, 1) := by decide +kernel
theorem dX9_quietest_25 : decode cX9_quietest 25 = .ok (.aload_n 0, 1) := by decide +kernel
theorem dX9_quietest_26 : decode cX9_quietest 26 = .ok (.iconst 2, 1) := by decide +kernel
theorem dX9_quietest_27 : decode cX9_quietest 27 = .ok (.invokevirtual 97, 3) := by decide +kernel
theorem dX9_quietest_30 : decode cX9_quietest 30 = .ok (.if_icmp .ne 7, 3) := by decide +kernel
theorem dX9_quietest_33 : decode cX9_quietest 33 = .ok (.iconst 0, 1) := by decide +kernel
theorem dX9_quietest_34 : decode cX9_quietest 34 = .ok (.goto 4, 3) := by decide +kernel
theorem dX9_quietest_37 : decode cX9_quietest 37 = .ok (.iconst (-1), 1) := by decide +kernel
theorem dX9_quietest_38 : decode cX9_quietest 38 = .ok (.iastore, 1) := by decide +kernel
theorem dX9_quietest_39 : decode cX9_quietest 39 = .ok (.iinc 2 1, 3) := by decide +kernel
theorem dX9_quietest_42 : decode cX9_quietest 42 = .ok (.goto (-29), 3) := by decide +kernel
theorem dX9_quietest_45 : decode cX9_quietest 45 = .ok (.iconst 0, 1) := by decide +kernel
theorem dX9_quietest_46 : decode cX9_quietest 46 = .ok (.istore_n 2, 1) := by decide +kernel
theorem dX9_quietest_47 : decode cX9_quietest 47 = .ok (.iload_n 2, 1) := by decide +kernel
theorem dX9_quietest_48 : decode cX9_quietest 48 = .ok (.aload_n 0, 1) := by decide +kernel
theorem dX9_quietest_49 : decode cX9_quietest 49 = .ok (.getfield 64, 3) := by decide +kernel
theorem dX9_quietest_52 : decode cX9_quietest 52 = .ok (.if_icmp .ge 59, 3) := by decide +kernel
theorem dX9_quietest_55 : decode cX9_quietest 55 = .ok (.iconst 0, 1) := by decide +kernel
theorem dX9_quietest_56 : decode cX9_quietest 56 = .ok (.istore_n 3, 1) := by decide +kernel
theorem dX9_quietest_57 : decode cX9_quietest 57 = .ok (.iload_n 3, 1) := by decide +kernel
theorem dX9_quietest_58 : decode cX9_quietest 58 = .ok (.aload_n 0, 1) := by decide +kernel
theorem dX9_quietest_59 : decode cX9_quietest 59 = .ok (.getfield 71, 3) := by decide +kernel
theorem dX9_quietest_62 : decode cX9_quietest 62 = .ok (.if_icmp .ge 43, 3) := by decide +kernel
theorem dX9_quietest_65 : decode cX9_quietest 65 = .ok (.aload_n 0, 1) := by decide +kernel
theorem dX9_quietest_66 : decode cX9_quietest 66 = .ok (.aload_n 0, 1) := by decide +kernel
theorem dX9_quietest_67 : decode cX9_quietest 67 = .ok (.getfield 7, 3) := by decide +kernel
theorem dX9_quietest_70 : decode cX9_quietest 70 = .ok (.iload_n 3, 1) := by decide +kernel
theorem dX9_quietest_71 : decode cX9_quietest 71 = .ok (.iaload, 1) := by decide +kernel
theorem dX9_quietest_72 : decode cX9_quietest 72 = .ok (.aload_n 0, 1) := by decide +kernel
theorem dX9_quietest_73 : decode cX9_quietest 73 = .ok (.getfield 13, 3) := by decide +kernel
theorem dX9_quietest_76 : decode cX9_quietest 76 = .ok (.iload_n 3, 1) := by decide +kernel
theorem dX9_quietest_77 : decode cX9_quietest 77 = .ok (.iaload, 1) := by decide +kernel
theorem dX9_quietest_78 : decode cX9_quietest 78 = .ok (.iload_n 3, 1) := by decide +kernel
theorem dX9_quietest_79 : decode cX9_quietest 79 = .ok (.invokevirtual 278, 3) := by decide +kernel
theorem dX9_quietest_82 : decode cX9_quietest 82 = .ok (.aload_n 0, 1) := by decide +kernel
theorem dX9_quietest_83 : decode cX9_quietest 83 = .ok (.aload_n 0, 1) := by decide +kernel
theorem dX9_quietest_84 : decode cX9_quietest 84 = .ok (.getfield 13, 3) := by decide +kernel
theorem dX9_quietest_87 : decode cX9_quietest 87 = .ok (.iload_n 3, 1) := by decide +kernel
theorem dX9_quietest_88 : decode cX9_quietest 88 = .ok (.iaload, 1) := by decide +kernel
theorem dX9_quietest_89 : decode cX9_quietest 89 = .ok (.aload_n 0, 1) := by decide +kernel
theorem dX9_quietest_90 : decode cX9_quietest 90 = .ok (.getfield 7, 3) := by decide +kernel
theorem dX9_quietest_93 : decode cX9_quietest 93 = .ok (.iload_n 3, 1) := by decide +kernel
theorem dX9_quietest_94 : decode cX9_quietest 94 = .ok (.iaload, 1) := by decide +kernel
theorem dX9_quietest_95 : decode cX9_quietest 95 = .ok (.iload_n 3, 1) := by decide +kernel
theorem dX9_quietest_96 : decode cX9_quietest 96 = .ok (.invokevirtual 278, 3) := by decide +kernel
theorem dX9_quietest_99 : decode cX9_quietest 99 = .ok (.iinc 3 1, 3) := by decide +kernel
theorem dX9_quietest_102 : decode cX9_quietest 102 = .ok (.goto (-45), 3) := by decide +kernel
theorem dX9_quietest_105 : decode cX9_quietest 105 = .ok (.iinc 2 1, 3) := by decide +kernel
theorem dX9_quietest_108 : decode cX9_quietest 108 = .ok (.goto (-61), 3) := by decide +kernel
theorem dX9_quietest_111 : decode cX9_quietest 111 = .ok (.aload_n 0, 1) := by decide +kernel
theorem dX9_quietest_112 : decode cX9_quietest 112 = .ok (.getfield 35, 3) := by decide +kernel
theorem dX9_quietest_115 : decode cX9_quietest 115 = .ok (.iload_n 1, 1) := by decide +kernel
theorem dX9_quietest_116 : decode cX9_quietest 116 = .ok (.iaload, 1) := by decide +kernel
theorem dX9_quietest_117 : decode cX9_quietest 117 = .ok (.ireturn, 1) := by decide +kernel
theorem dX9_stand_0 : decode cX9_stand 0 = .ok (.aload_n 0, 1) := by decide +kernel
theorem dX9_stand_1 : decode cX9_stand 1 = .ok (.getfield 64, 3) := by decide +kernel
theorem dX9_stand_4 : decode cX9_stand 4 = .ok (.ifCond .ne 6, 3) := by decide +kernel
theorem dX9_stand_7 : decode cX9_stand 7 = .ok (.ldc 220, 2) := by decide +kernel
theorem dX9_stand_9 : decode cX9_stand 9 = .ok (.ireturn, 1) := by decide +kernel
theorem dX9_stand_10 : decode cX9_stand 10 = .ok (.aload_n 0, 1) := by decide +kernel
theorem dX9_stand_11 : decode cX9_stand 11 = .ok (.invokevirtual 261, 3) := by decide +kernel
theorem dX9_stand_14 : decode cX9_stand 14 = .ok (.iconst (-1), 1) := by decide +kernel
theorem dX9_stand_15 : decode cX9_stand 15 = .ok (.istore_n 1, 1) := by decide +kernel
theorem dX9_stand_16 : decode cX9_stand 16 = .ok (.iconst 1, 1) := by decide +kernel
theorem dX9_stand_17 : decode cX9_stand 17 = .ok (.istore_n 2, 1) := by decide +kernel
theorem dX9_stand_18 : decode cX9_stand 18 = .ok (.iload_n 2, 1) := by decide +kernel
theorem dX9_stand_19 : decode cX9_stand 19 = .ok (.bipush 100, 2) := by decide +kernel
theorem dX9_stand_21 : decode cX9_stand 21 = .ok (.if_icmp .ge 44, 3) := by decide +kernel
theorem dX9_stand_24 : decode cX9_stand 24 = .ok (.iload_n 1, 1) := by decide +kernel
theorem dX9_stand_25 : decode cX9_stand 25 = .ok (.iconst (-1), 1) := by decide +kernel
theorem dX9_stand_26 : decode cX9_stand 26 = .ok (.if_icmp .ne 39, 3) := by decide +kernel
theorem dX9_stand_29 : decode cX9_stand 29 = .ok (.aload_n 0, 1) := by decide +kernel
theorem dX9_stand_30 : decode cX9_stand 30 = .ok (.invokevirtual 137, 3) := by decide +kernel
theorem dX9_stand_33 : decode cX9_stand 33 = .ok (.aload_n 0, 1) := by decide +kernel
theorem dX9_stand_34 : decode cX9_stand 34 = .ok (.getfield 19, 3) := by decide +kernel
theorem dX9_stand_37 : decode cX9_stand 37 = .ok (.iconst 2, 1) := by decide +kernel
theorem dX9_stand_38 : decode cX9_stand 38 = .ok (.laload, 1) := by decide +kernel
theorem dX9_stand_39 : decode cX9_stand 39 = .ok (.aload_n 0, 1) := by decide +kernel
theorem dX9_stand_40 : decode cX9_stand 40 = .ok (.getfield 32, 3) := by decide +kernel
theorem dX9_stand_43 : decode cX9_stand 43 = .ok (.iconst 2, 1) := by decide +kernel
theorem dX9_stand_44 : decode cX9_stand 44 = .ok (.laload, 1) := by decide +kernel
theorem dX9_stand_45 : decode cX9_stand 45 = .ok (.lcmp, 1) := by decide +kernel
theorem dX9_stand_46 : decode cX9_stand 46 = .ok (.ifCond .ne 7, 3) := by decide +kernel
theorem dX9_stand_49 : decode cX9_stand 49 = .ok (.iconst (-1), 1) := by decide +kernel
theorem dX9_stand_50 : decode cX9_stand 50 = .ok (.goto 8, 3) := by decide +kernel
theorem dX9_stand_53 : decode cX9_stand 53 = .ok (.aload_n 0, 1) := by decide +kernel
theorem dX9_stand_54 : decode cX9_stand 54 = .ok (.iconst 2, 1) := by decide +kernel
theorem dX9_stand_55 : decode cX9_stand 55 = .ok (.invokevirtual 97, 3) := by decide +kernel
theorem dX9_stand_58 : decode cX9_stand 58 = .ok (.istore_n 1, 1) := by decide +kernel
theorem dX9_stand_59 : decode cX9_stand 59 = .ok (.iinc 2 1, 3) := by decide +kernel
theorem dX9_stand_62 : decode cX9_stand 62 = .ok (.goto (-44), 3) := by decide +kernel
theorem dX9_stand_65 : decode cX9_stand 65 = .ok (.aload_n 0, 1) := by decide +kernel
theorem dX9_stand_66 : decode cX9_stand 66 = .ok (.invokevirtual 264, 3) := by decide +kernel
theorem dX9_stand_69 : decode cX9_stand 69 = .ok (.iload_n 1, 1) := by decide +kernel
theorem dX9_stand_70 : decode cX9_stand 70 = .ok (.ireturn, 1) := by decide +kernel
theorem dX9_willHear_0 : decode cX9_willHear 0 = .ok (.iload_n 1, 1) := by decide +kernel
theorem dX9_willHear_1 : decode cX9_willHear 1 = .ok (.i2l, 1) := by decide +kernel
theorem dX9_willHear_2 : decode cX9_willHear 2 = .ok (.lconst 1, 1) := by decide +kernel
theorem dX9_willHear_3 : decode cX9_willHear 3 = .ok (.ldc2_w 259, 3) := by decide +kernel
theorem dX9_willHear_6 : decode cX9_willHear 6 = .ok (.invokestatic 67, 3) := by decide +kernel
theorem dX9_willHear_9 : decode cX9_willHear 9 = .ok (.ifCond .ne 6, 3) := by decide +kernel
theorem dX9_willHear_12 : decode cX9_willHear 12 = .ok (.ldc 142, 2) := by decide +kernel
theorem dX9_willHear_14 : decode cX9_willHear 14 = .ok (.ireturn, 1) := by decide +kernel
theorem dX9_willHear_15 : decode cX9_willHear 15 = .ok (.aload_n 0, 1) := by decide +kernel
theorem dX9_willHear_16 : decode cX9_willHear 16 = .ok (.getfield 64, 3) := by decide +kernel
theorem dX9_willHear_19 : decode cX9_willHear 19 = .ok (.ifCond .ne 6, 3) := by decide +kernel
theorem dX9_willHear_22 : decode cX9_willHear 22 = .ok (.ldc 220, 2) := by decide +kernel
theorem dX9_willHear_24 : decode cX9_willHear 24 = .ok (.ireturn, 1) := by decide +kernel
theorem dX9_willHear_25 : decode cX9_willHear 25 = .ok (.aload_n 0, 1) := by decide +kernel
theorem dX9_willHear_26 : decode cX9_willHear 26 = .ok (.invokevirtual 261, 3) := by decide +kernel
theorem dX9_willHear_29 : decode cX9_willHear 29 = .ok (.aload_n 0, 1) := by decide +kernel
theorem dX9_willHear_30 : decode cX9_willHear 30 = .ok (.iload_n 1, 1) := by decide +kernel
theorem dX9_willHear_31 : decode cX9_willHear 31 = .ok (.invokevirtual 226, 3) := by decide +kernel
theorem dX9_willHear_34 : decode cX9_willHear 34 = .ok (.iconst 0, 1) := by decide +kernel
theorem dX9_willHear_35 : decode cX9_willHear 35 = .ok (.istore_n 2, 1) := by decide +kernel
theorem dX9_willHear_36 : decode cX9_willHear 36 = .ok (.iconst 0, 1) := by decide +kernel
theorem dX9_willHear_37 : decode cX9_willHear 37 = .ok (.istore_n 3, 1) := by decide +kernel
theorem dX9_willHear_38 : decode cX9_willHear 38 = .ok (.iload_n 3, 1) := by decide +kernel
theorem dX9_willHear_39 : decode cX9_willHear 39 = .ok (.aload_n 0, 1) := by decide +kernel
theorem dX9_willHear_40 : decode cX9_willHear 40 = .ok (.getfield 74, 3) := by decide +kernel
theorem dX9_willHear_43 : decode cX9_willHear 43 = .ok (.if_icmp .ge 50, 3) := by decide +kernel
theorem dX9_willHear_46 : decode cX9_willHear 46 = .ok (.iload_n 2, 1) := by decide +kernel
theorem dX9_willHear_47 : decode cX9_willHear 47 = .ok (.aload_n 0, 1) := by decide +kernel
theorem dX9_willHear_48 : decode cX9_willHear 48 = .ok (.getfield 19, 3) := by decide +kernel
theorem dX9_willHear_51 : decode cX9_willHear 51 = .ok (.bipush 7, 2) := by decide +kernel
theorem dX9_willHear_53 : decode cX9_willHear 53 = .ok (.laload, 1) := by decide +kernel
theorem dX9_willHear_54 : decode cX9_willHear 54 = .ok (.iload_n 3, 1) := by decide +kernel
theorem dX9_willHear_55 : decode cX9_willHear 55 = .ok (.invokestatic 85, 3) := by decide +kernel
theorem dX9_willHear_58 : decode cX9_willHear 58 = .ok (.ifCond .eq 26, 3) := by decide +kernel
theorem dX9_willHear_61 : decode cX9_willHear 61 = .ok (.aload_n 0, 1) := by decide +kernel
theorem dX9_willHear_62 : decode cX9_willHear 62 = .ok (.getfield 32, 3) := by decide +kernel
theorem dX9_willHear_65 : decode cX9_willHear 65 = .ok (.bipush 7, 2) := by decide +kernel
theorem dX9_willHear_67 : decode cX9_willHear 67 = .ok (.laload, 1) := by decide +kernel
theorem dX9_willHear_68 : decode cX9_willHear 68 = .ok (.iload_n 3, 1) := by decide +kernel
theorem dX9_willHear_69 : decode cX9_willHear 69 = .ok (.invokestatic 85, 3) := by decide +kernel
theorem dX9_willHear_72 : decode cX9_willHear 72 = .ok (.ifCond .ne 12, 3) := by decide +kernel
theorem dX9_willHear_75 : decode cX9_willHear 75 = .ok (.aload_n 0, 1) := by decide +kernel
theorem dX9_willHear_76 : decode cX9_willHear 76 = .ok (.getfield 16, 3) := by decide +kernel
theorem dX9_willHear_79 : decode cX9_willHear 79 = .ok (.iload_n 3, 1) := by decide +kernel
theorem dX9_willHear_80 : decode cX9_willHear 80 = .ok (.iaload, 1) := by decide +kernel
theorem dX9_willHear_81 : decode cX9_willHear 81 = .ok (.goto 4, 3) := by decide +kernel
theorem dX9_willHear_84 : decode cX9_willHear 84 = .ok (.iconst 0, 1) := by decide +kernel
theorem dX9_willHear_85 : decode cX9_willHear 85 = .ok (.iadd, 1) := by decide +kernel
theorem dX9_willHear_86 : decode cX9_willHear 86 = .ok (.istore_n 2, 1) := by decide +kernel
theorem dX9_willHear_87 : decode cX9_willHear 87 = .ok (.iinc 3 1, 3) := by decide +kernel
theorem dX9_willHear_90 : decode cX9_willHear 90 = .ok (.goto (-52), 3) := by decide +kernel
theorem dX9_willHear_93 : decode cX9_willHear 93 = .ok (.aload_n 0, 1) := by decide +kernel
theorem dX9_willHear_94 : decode cX9_willHear 94 = .ok (.invokevirtual 264, 3) := by decide +kernel
theorem dX9_willHear_97 : decode cX9_willHear 97 = .ok (.iload_n 2, 1) := by decide +kernel
theorem dX9_willHear_98 : decode cX9_willHear 98 = .ok (.ireturn, 1) := by decide +kernel
theorem dX9_dance_0 : decode cX9_dance 0 = .ok (.iload_n 1, 1) := by decide +kernel
theorem dX9_dance_1 : decode cX9_dance 1 = .ok (.i2l, 1) := by decide +kernel
theorem dX9_dance_2 : decode cX9_dance 2 = .ok (.lconst 0, 1) := by decide +kernel
theorem dX9_dance_3 : decode cX9_dance 3 = .ok (.ldc2_w 218, 3) := by decide +kernel
theorem dX9_dance_6 : decode cX9_dance 6 = .ok (.invokestatic 67, 3) := by decide +kernel
theorem dX9_dance_9 : decode cX9_dance 9 = .ok (.ifCond .eq 15, 3) := by decide +kernel
theorem dX9_dance_12 : decode cX9_dance 12 = .ok (.iload_n 2, 1) := by decide +kernel
theorem dX9_dance_13 : decode cX9_dance 13 = .ok (.i2l, 1) := by decide +kernel
theorem dX9_dance_14 : decode cX9_dance 14 = .ok (.lconst 0, 1) := by decide +kernel
theorem dX9_dance_15 : decode cX9_dance 15 = .ok (.ldc2_w 259, 3) := by decide +kernel
theorem dX9_dance_18 : decode cX9_dance 18 = .ok (.invokestatic 67, 3) := by decide +kernel
theorem dX9_dance_21 : decode cX9_dance 21 = .ok (.ifCond .ne 6, 3) := by decide +kernel
theorem dX9_dance_24 : decode cX9_dance 24 = .ok (.ldc 142, 2) := by decide +kernel
theorem dX9_dance_26 : decode cX9_dance 26 = .ok (.ireturn, 1) := by decide +kernel
theorem dX9_dance_27 : decode cX9_dance 27 = .ok (.ldc2_w 282, 3) := by decide +kernel
theorem dX9_dance_30 : decode cX9_dance 30 = .ok (.lstore_n 3, 1) := by decide +kernel
theorem dX9_dance_31 : decode cX9_dance 31 = .ok (.iconst 0, 1) := by decide +kernel
theorem dX9_dance_32 : decode cX9_dance 32 = .ok (.istore 5, 2) := by decide +kernel
theorem dX9_dance_34 : decode cX9_dance 34 = .ok (.iload 5, 2) := by decide +kernel
theorem dX9_dance_36 : decode cX9_dance 36 = .ok (.iload_n 1, 1) := by decide +kernel
theorem dX9_dance_37 : decode cX9_dance 37 = .ok (.if_icmp .ge 21, 3) := by decide +kernel
theorem dX9_dance_40 : decode cX9_dance 40 = .ok (.lload_n 3, 1) := by decide +kernel
theorem dX9_dance_41 : decode cX9_dance 41 = .ok (.bipush 100, 2) := by decide +kernel
theorem dX9_dance_43 : decode cX9_dance 43 = .ok (.iload_n 2, 1) := by decide +kernel
theorem dX9_dance_44 : decode cX9_dance 44 = .ok (.isub, 1) := by decide +kernel
theorem dX9_dance_45 : decode cX9_dance 45 = .ok (.i2l, 1) := by decide +kernel
theorem dX9_dance_46 : decode cX9_dance 46 = .ok (.lmul, 1) := by decide +kernel
theorem dX9_dance_47 : decode cX9_dance 47 = .ok (.ldc2_w 259, 3) := by decide +kernel
theorem dX9_dance_50 : decode cX9_dance 50 = .ok (.ldiv, 1) := by decide +kernel
theorem dX9_dance_51 : decode cX9_dance 51 = .ok (.lstore_n 3, 1) := by decide +kernel
theorem dX9_dance_52 : decode cX9_dance 52 = .ok (.iinc 5 1, 3) := by decide +kernel
theorem dX9_dance_55 : decode cX9_dance 55 = .ok (.goto (-21), 3) := by decide +kernel
theorem dX9_dance_58 : decode cX9_dance 58 = .ok (.lload_n 3, 1) := by decide +kernel
theorem dX9_dance_59 : decode cX9_dance 59 = .ok (.l2i, 1) := by decide +kernel
theorem dX9_dance_60 : decode cX9_dance 60 = .ok (.ireturn, 1) := by decide +kernel
theorem dX9_isFit_0 : decode cX9_isFit 0 = .ok (.iconst 1, 1) := by decide +kernel
theorem dX9_isFit_1 : decode cX9_isFit 1 = .ok (.istore_n 2, 1) := by decide +kernel
theorem dX9_isFit_2 : decode cX9_isFit 2 = .ok (.iconst 0, 1) := by decide +kernel
theorem dX9_isFit_3 : decode cX9_isFit 3 = .ok (.istore_n 3, 1) := by decide +kernel
theorem dX9_isFit_4 : decode cX9_isFit 4 = .ok (.iload_n 3, 1) := by decide +kernel
theorem dX9_isFit_5 : decode cX9_isFit 5 = .ok (.aload_n 0, 1) := by decide +kernel
theorem dX9_isFit_6 : decode cX9_isFit 6 = .ok (.bipush 9, 2) := by decide +kernel
theorem dX9_isFit_8 : decode cX9_isFit 8 = .ok (.invokevirtual 97, 3) := by decide +kernel
theorem dX9_isFit_11 : decode cX9_isFit 11 = .ok (.if_icmp .ge 110, 3) := by decide +kernel
theorem dX9_isFit_14 : decode cX9_isFit 14 = .ok (.iload_n 2, 1) := by decide +kernel
theorem dX9_isFit_15 : decode cX9_isFit 15 = .ok (.ifCond .eq 106, 3) := by decide +kernel
theorem dX9_isFit_18 : decode cX9_isFit 18 = .ok (.aload_n 0, 1) := by decide +kernel
theorem dX9_isFit_19 : decode cX9_isFit 19 = .ok (.getfield 19, 3) := by decide +kernel
theorem dX9_isFit_22 : decode cX9_isFit 22 = .ok (.bipush 32, 2) := by decide +kernel
theorem dX9_isFit_24 : decode cX9_isFit 24 = .ok (.iconst 3, 1) := by decide +kernel
theorem dX9_isFit_25 : decode cX9_isFit 25 = .ok (.iload_n 3, 1) := by decide +kernel
theorem dX9_isFit_26 : decode cX9_isFit 26 = .ok (.imul, 1) := by decide +kernel
theorem dX9_isFit_27 : decode cX9_isFit 27 = .ok (.iadd, 1) := by decide +kernel
theorem dX9_isFit_28 : decode cX9_isFit 28 = .ok (.laload, 1) := by decide +kernel
theorem dX9_isFit_29 : decode cX9_isFit 29 = .ok (.lstore 4, 2) := by decide +kernel
theorem dX9_isFit_31 : decode cX9_isFit 31 = .ok (.aload_n 0, 1) := by decide +kernel
theorem dX9_isFit_32 : decode cX9_isFit 32 = .ok (.iload_n 1, 1) := by decide +kernel
theorem dX9_isFit_33 : decode cX9_isFit 33 = .ok (.aload_n 0, 1) := by decide +kernel
theorem dX9_isFit_34 : decode cX9_isFit 34 = .ok (.iload_n 3, 1) := by decide +kernel
theorem dX9_isFit_35 : decode cX9_isFit 35 = .ok (.invokevirtual 212, 3) := by decide +kernel
theorem dX9_isFit_38 : decode cX9_isFit 38 = .ok (.lload 4, 2) := by decide +kernel
theorem dX9_isFit_40 : decode cX9_isFit 40 = .ok (.bipush 6, 2) := by decide +kernel
theorem dX9_isFit_42 : decode cX9_isFit 42 = .ok (.lshr, 1) := by decide +kernel
theorem dX9_isFit_43 : decode cX9_isFit 43 = .ok (.ldc2_w 140, 3) := by decide +kernel
theorem dX9_isFit_46 : decode cX9_isFit 46 = .ok (.land, 1) := by decide +kernel
theorem dX9_isFit_47 : decode cX9_isFit 47 = .ok (.lload 4, 2) := by decide +kernel
theorem dX9_isFit_49 : decode cX9_isFit 49 = .ok (.bipush 14, 2) := by decide +kernel
theorem dX9_isFit_51 : decode cX9_isFit 51 = .ok (.lshr, 1) := by decide +kernel
theorem dX9_isFit_52 : decode cX9_isFit 52 = .ok (.ldc2_w 140, 3) := by decide +kernel
theorem dX9_isFit_55 : decode cX9_isFit 55 = .ok (.land, 1) := by decide +kernel
theorem dX9_isFit_56 : decode cX9_isFit 56 = .ok (.lload 4, 2) := by decide +kernel
theorem dX9_isFit_58 : decode cX9_isFit 58 = .ok (.bipush 22, 2) := by decide +kernel
theorem dX9_isFit_60 : decode cX9_isFit 60 = .ok (.lshr, 1) := by decide +kernel
theorem dX9_isFit_61 : decode cX9_isFit 61 = .ok (.ldc2_w 284, 3) := by decide +kernel
theorem dX9_isFit_64 : decode cX9_isFit 64 = .ok (.land, 1) := by decide +kernel
theorem dX9_isFit_65 : decode cX9_isFit 65 = .ok (.aload_n 0, 1) := by decide +kernel
theorem dX9_isFit_66 : decode cX9_isFit 66 = .ok (.getfield 19, 3) := by decide +kernel
theorem dX9_isFit_69 : decode cX9_isFit 69 = .ok (.bipush 32, 2) := by decide +kernel
theorem dX9_isFit_71 : decode cX9_isFit 71 = .ok (.iconst 3, 1) := by decide +kernel
theorem dX9_isFit_72 : decode cX9_isFit 72 = .ok (.iload_n 3, 1) := by decide +kernel
theorem dX9_isFit_73 : decode cX9_isFit 73 = .ok (.imul, 1) := by decide +kernel
theorem dX9_isFit_74 : decode cX9_isFit 74 = .ok (.iadd, 1) := by decide +kernel
theorem dX9_isFit_75 : decode cX9_isFit 75 = .ok (.iconst 1, 1) := by decide +kernel
theorem dX9_isFit_76 : decode cX9_isFit 76 = .ok (.iadd, 1) := by decide +kernel
theorem dX9_isFit_77 : decode cX9_isFit 77 = .ok (.laload, 1) := by decide +kernel
theorem dX9_isFit_78 : decode cX9_isFit 78 = .ok (.aload_n 0, 1) := by decide +kernel
theorem dX9_isFit_79 : decode cX9_isFit 79 = .ok (.getfield 19, 3) := by decide +kernel
theorem dX9_isFit_82 : decode cX9_isFit 82 = .ok (.bipush 32, 2) := by decide +kernel
theorem dX9_isFit_84 : decode cX9_isFit 84 = .ok (.iconst 3, 1) := by decide +kernel
theorem dX9_isFit_85 : decode cX9_isFit 85 = .ok (.iload_n 3, 1) := by decide +kernel
theorem dX9_isFit_86 : decode cX9_isFit 86 = .ok (.imul, 1) := by decide +kernel
theorem dX9_isFit_87 : decode cX9_isFit 87 = .ok (.iadd, 1) := by decide +kernel
theorem dX9_isFit_88 : decode cX9_isFit 88 = .ok (.iconst 2, 1) := by decide +kernel
theorem dX9_isFit_89 : decode cX9_isFit 89 = .ok (.iadd, 1) := by decide +kernel
theorem dX9_isFit_90 : decode cX9_isFit 90 = .ok (.laload, 1) := by decide +kernel
theorem dX9_isFit_91 : decode cX9_isFit 91 = .ok (.lload 4, 2) := by decide +kernel
theorem dX9_isFit_93 : decode cX9_isFit 93 = .ok (.bipush 34, 2) := by decide +kernel
theorem dX9_isFit_95 : decode cX9_isFit 95 = .ok (.invokestatic 85, 3) := by decide +kernel
theorem dX9_isFit_98 : decode cX9_isFit 98 = .ok (.invokevirtual 112, 3) := by decide +kernel
theorem dX9_isFit_101 : decode cX9_isFit 101 = .ok (.aload_n 0, 1) := by decide +kernel
theorem dX9_isFit_102 : decode cX9_isFit 102 = .ok (.iload_n 3, 1) := by decide +kernel
theorem dX9_isFit_103 : decode cX9_isFit 103 = .ok (.invokevirtual 215, 3) := by decide +kernel
theorem dX9_isFit_106 : decode cX9_isFit 106 = .ok (.if_icmp .ne 7, 3) := by decide +kernel
theorem dX9_isFit_109 : decode cX9_isFit 109 = .ok (.iconst 1, 1) := by decide +kernel
theorem dX9_isFit_110 : decode cX9_isFit 110 = .ok (.goto 4, 3) := by decide +kernel
theorem dX9_isFit_113 : decode cX9_isFit 113 = .ok (.iconst 0, 1) := by decide +kernel
theorem dX9_isFit_114 : decode cX9_isFit 114 = .ok (.istore_n 2, 1) := by decide +kernel
theorem dX9_isFit_115 : decode cX9_isFit 115 = .ok (.iinc 3 1, 3) := by decide +kernel
theorem dX9_isFit_118 : decode cX9_isFit 118 = .ok (.goto (-114), 3) := by decide +kernel
theorem dX9_isFit_121 : decode cX9_isFit 121 = .ok (.iload_n 2, 1) := by decide +kernel
theorem dX9_isFit_122 : decode cX9_isFit 122 = .ok (.ireturn, 1) := by decide +kernel
theorem dX9_fit_0 : decode cX9_fit 0 = .ok (.iconst 0, 1) := by decide +kernel
theorem dX9_fit_1 : decode cX9_fit 1 = .ok (.istore_n 2, 1) := by decide +kernel
theorem dX9_fit_2 : decode cX9_fit 2 = .ok (.iconst (-1), 1) := by decide +kernel
theorem dX9_fit_3 : decode cX9_fit 3 = .ok (.istore_n 3, 1) := by decide +kernel
theorem dX9_fit_4 : decode cX9_fit 4 = .ok (.iconst 0, 1) := by decide +kernel
theorem dX9_fit_5 : decode cX9_fit 5 = .ok (.istore 4, 2) := by decide +kernel
theorem dX9_fit_7 : decode cX9_fit 7 = .ok (.iload 4, 2) := by decide +kernel
theorem dX9_fit_9 : decode cX9_fit 9 = .ok (.bipush 64, 2) := by decide +kernel
theorem dX9_fit_11 : decode cX9_fit 11 = .ok (.if_icmp .ge 33, 3) := by decide +kernel
theorem dX9_fit_14 : decode cX9_fit 14 = .ok (.aload_n 0, 1) := by decide +kernel
theorem dX9_fit_15 : decode cX9_fit 15 = .ok (.iload 4, 2) := by decide +kernel
theorem dX9_fit_17 : decode cX9_fit 17 = .ok (.invokevirtual 286, 3) := by decide +kernel
theorem dX9_fit_20 : decode cX9_fit 20 = .ok (.ifCond .eq 18, 3) := by decide +kernel
theorem dX9_fit_23 : decode cX9_fit 23 = .ok (.iload_n 2, 1) := by decide +kernel
theorem dX9_fit_24 : decode cX9_fit 24 = .ok (.iload_n 1, 1) := by decide +kernel
theorem dX9_fit_25 : decode cX9_fit 25 = .ok (.if_icmp .ne 8, 3) := by decide +kernel
theorem dX9_fit_28 : decode cX9_fit 28 = .ok (.iload 4, 2) := by decide +kernel
theorem dX9_fit_30 : decode cX9_fit 30 = .ok (.goto 4, 3) := by decide +kernel
theorem dX9_fit_33 : decode cX9_fit 33 = .ok (.iload_n 3, 1) := by decide +kernel
theorem dX9_fit_34 : decode cX9_fit 34 = .ok (.istore_n 3, 1) := by decide +kernel
theorem dX9_fit_35 : decode cX9_fit 35 = .ok (.iinc 2 1, 3) := by decide +kernel
theorem dX9_fit_38 : decode cX9_fit 38 = .ok (.iinc 4 1, 3) := by decide +kernel
theorem dX9_fit_41 : decode cX9_fit 41 = .ok (.goto (-34), 3) := by decide +kernel
theorem dX9_fit_44 : decode cX9_fit 44 = .ok (.iload_n 1, 1) := by decide +kernel
theorem dX9_fit_45 : decode cX9_fit 45 = .ok (.iconst (-1), 1) := by decide +kernel
theorem dX9_fit_46 : decode cX9_fit 46 = .ok (.if_icmp .ne 7, 3) := by decide +kernel
theorem dX9_fit_49 : decode cX9_fit 49 = .ok (.iload_n 2, 1) := by decide +kernel
theorem dX9_fit_50 : decode cX9_fit 50 = .ok (.goto 4, 3) := by decide +kernel
theorem dX9_fit_53 : decode cX9_fit 53 = .ok (.iload_n 3, 1) := by decide +kernel
theorem dX9_fit_54 : decode cX9_fit 54 = .ok (.ireturn, 1) := by decide +kernel
theorem dX9_tells_0 : decode cX9_tells 0 = .ok (.iconst 0, 1) := by decide +kernel
theorem dX9_tells_1 : decode cX9_tells 1 = .ok (.istore_n 1, 1) := by decide +kernel
theorem dX9_tells_2 : decode cX9_tells 2 = .ok (.iconst 0, 1) := by decide +kernel
theorem dX9_tells_3 : decode cX9_tells 3 = .ok (.istore_n 2, 1) := by decide +kernel
theorem dX9_tells_4 : decode cX9_tells 4 = .ok (.iload_n 2, 1) := by decide +kernel
theorem dX9_tells_5 : decode cX9_tells 5 = .ok (.bipush 64, 2) := by decide +kernel
theorem dX9_tells_7 : decode cX9_tells 7 = .ok (.if_icmp .ge 37, 3) := by decide +kernel
theorem dX9_tells_10 : decode cX9_tells 10 = .ok (.aload_n 0, 1) := by decide +kernel
theorem dX9_tells_11 : decode cX9_tells 11 = .ok (.getfield 38, 3) := by decide +kernel
theorem dX9_tells_14 : decode cX9_tells 14 = .ok (.iload_n 2, 1) := by decide +kernel
theorem dX9_tells_15 : decode cX9_tells 15 = .ok (.aload_n 0, 1) := by decide +kernel
theorem dX9_tells_16 : decode cX9_tells 16 = .ok (.iload_n 2, 1) := by decide +kernel
theorem dX9_tells_17 : decode cX9_tells 17 = .ok (.invokevirtual 286, 3) := by decide +kernel
theorem dX9_tells_20 : decode cX9_tells 20 = .ok (.bastore, 1) := by decide +kernel
theorem dX9_tells_21 : decode cX9_tells 21 = .ok (.iload_n 1, 1) := by decide +kernel
theorem dX9_tells_22 : decode cX9_tells 22 = .ok (.aload_n 0, 1) := by decide +kernel
theorem dX9_tells_23 : decode cX9_tells 23 = .ok (.getfield 38, 3) := by decide +kernel
theorem dX9_tells_26 : decode cX9_tells 26 = .ok (.iload_n 2, 1) := by decide +kernel
theorem dX9_tells_27 : decode cX9_tells 27 = .ok (.baload, 1) := by decide +kernel
theorem dX9_tells_28 : decode cX9_tells 28 = .ok (.ifCond .eq 7, 3) := by decide +kernel
theorem dX9_tells_31 : decode cX9_tells 31 = .ok (.iconst 1, 1) := by decide +kernel
theorem dX9_tells_32 : decode cX9_tells 32 = .ok (.goto 4, 3) := by decide +kernel
theorem dX9_tells_35 : decode cX9_tells 35 = .ok (.iconst 0, 1) := by decide +kernel
theorem dX9_tells_36 : decode cX9_tells 36 = .ok (.iadd, 1) := by decide +kernel
theorem dX9_tells_37 : decode cX9_tells 37 = .ok (.istore_n 1, 1) := by decide +kernel
theorem dX9_tells_38 : decode cX9_tells 38 = .ok (.iinc 2 1, 3) := by decide +kernel
theorem dX9_tells_41 : decode cX9_tells 41 = .ok (.goto (-37), 3) := by decide +kernel
theorem dX9_tells_44 : decode cX9_tells 44 = .ok (.iconst (-1), 1) := by decide +kernel
theorem dX9_tells_45 : decode cX9_tells 45 = .ok (.istore_n 2, 1) := by decide +kernel
theorem dX9_tells_46 : decode cX9_tells 46 = .ok (.iload_n 1, 1) := by decide +kernel
theorem dX9_tells_47 : decode cX9_tells 47 = .ok (.istore_n 3, 1) := by decide +kernel
theorem dX9_tells_48 : decode cX9_tells 48 = .ok (.iconst 0, 1) := by decide +kernel
theorem dX9_tells_49 : decode cX9_tells 49 = .ok (.istore 4, 2) := by decide +kernel
theorem dX9_tells_51 : decode cX9_tells 51 = .ok (.iload 4, 2) := by decide +kernel
theorem dX9_tells_53 : decode cX9_tells 53 = .ok (.aload_n 0, 1) := by decide +kernel
theorem dX9_tells_54 : decode cX9_tells 54 = .ok (.getfield 64, 3) := by decide +kernel
theorem dX9_tells_57 : decode cX9_tells 57 = .ok (.if_icmp .ge 144, 3) := by decide +kernel
theorem dX9_tells_60 : decode cX9_tells 60 = .ok (.iconst 0, 1) := by decide +kernel
theorem dX9_tells_61 : decode cX9_tells 61 = .ok (.istore 5, 2) := by decide +kernel
theorem dX9_tells_63 : decode cX9_tells 63 = .ok (.iload 5, 2) := by decide +kernel
theorem dX9_tells_65 : decode cX9_tells 65 = .ok (.bipush 8, 2) := by decide +kernel
theorem dX9_tells_67 : decode cX9_tells 67 = .ok (.if_icmp .ge 17, 3) := by decide +kernel
theorem dX9_tells_70 : decode cX9_tells 70 = .ok (.aload_n 0, 1) := by decide +kernel
theorem dX9_tells_71 : decode cX9_tells 71 = .ok (.getfield 42, 3) := by decide +kernel
theorem dX9_tells_74 : decode cX9_tells 74 = .ok (.iload 5, 2) := by decide +kernel
theorem dX9_tells_76 : decode cX9_tells 76 = .ok (.iconst 0, 1) := by decide +kernel
theorem dX9_tells_77 : decode cX9_tells 77 = .ok (.iastore, 1) := by decide +kernel
theorem dX9_tells_78 : decode cX9_tells 78 = .ok (.iinc 5 1, 3) := by decide +kernel
theorem dX9_tells_81 : decode cX9_tells 81 = .ok (.goto (-18), 3) := by decide +kernel
theorem dX9_tells_84 : decode cX9_tells 84 = .ok (.iconst 0, 1) := by decide +kernel
theorem dX9_tells_85 : decode cX9_tells 85 = .ok (.istore 5, 2) := by decide +kernel
theorem dX9_tells_87 : decode cX9_tells 87 = .ok (.iconst 0, 1) := by decide +kernel
theorem dX9_tells_88 : decode cX9_tells 88 = .ok (.istore 6, 2) := by decide +kernel
theorem dX9_tells_90 : decode cX9_tells 90 = .ok (.iload 6, 2) := by decide +kernel
theorem dX9_tells_92 : decode cX9_tells 92 = .ok (.bipush 64, 2) := by decide +kernel
theorem dX9_tells_94 : decode cX9_tells 94 = .ok (.if_icmp .ge 75, 3) := by decide +kernel
theorem dX9_tells_97 : decode cX9_tells 97 = .ok (.aload_n 0, 1) := by decide +kernel
theorem dX9_tells_98 : decode cX9_tells 98 = .ok (.getfield 38, 3) := by decide +kernel
theorem dX9_tells_101 : decode cX9_tells 101 = .ok (.iload 6, 2) := by decide +kernel
theorem dX9_tells_103 : decode cX9_tells 103 = .ok (.baload, 1) := by decide +kernel
theorem dX9_tells_104 : decode cX9_tells 104 = .ok (.ifCond .eq 59, 3) := by decide +kernel
theorem dX9_tells_107 : decode cX9_tells 107 = .ok (.aload_n 0, 1) := by decide +kernel
theorem dX9_tells_108 : decode cX9_tells 108 = .ok (.iload 6, 2) := by decide +kernel
theorem dX9_tells_110 : decode cX9_tells 110 = .ok (.aload_n 0, 1) := by decide +kernel
theorem dX9_tells_111 : decode cX9_tells 111 = .ok (.getfield 19, 3) := by decide +kernel
theorem dX9_tells_114 : decode cX9_tells 114 = .ok (.iconst 4, 1) := by decide +kernel
theorem dX9_tells_115 : decode cX9_tells 115 = .ok (.laload, 1) := by decide +kernel
theorem dX9_tells_116 : decode cX9_tells 116 = .ok (.lconst 1, 1) := by decide +kernel
theorem dX9_tells_117 : decode cX9_tells 117 = .ok (.iload 4, 2) := by decide +kernel
theorem dX9_tells_119 : decode cX9_tells 119 = .ok (.lshl, 1) := by decide +kernel
theorem dX9_tells_120 : decode cX9_tells 120 = .ok (.lxor, 1) := by decide +kernel
theorem dX9_tells_121 : decode cX9_tells 121 = .ok (.invokevirtual 127, 3) := by decide +kernel
theorem dX9_tells_124 : decode cX9_tells 124 = .ok (.istore 7, 2) := by decide +kernel
theorem dX9_tells_126 : decode cX9_tells 126 = .ok (.aload_n 0, 1) := by decide +kernel
theorem dX9_tells_127 : decode cX9_tells 127 = .ok (.getfield 42, 3) := by decide +kernel
theorem dX9_tells_130 : decode cX9_tells 130 = .ok (.iload 7, 2) := by decide +kernel
theorem dX9_tells_132 : decode cX9_tells 132 = .ok (.dup2, 1) := by decide +kernel
theorem dX9_tells_133 : decode cX9_tells 133 = .ok (.iaload, 1) := by decide +kernel
theorem dX9_tells_134 : decode cX9_tells 134 = .ok (.iconst 1, 1) := by decide +kernel
theorem dX9_tells_135 : decode cX9_tells 135 = .ok (.iadd, 1) := by decide +kernel
theorem dX9_tells_136 : decode cX9_tells 136 = .ok (.iastore, 1) := by decide +kernel
theorem dX9_tells_137 : decode cX9_tells 137 = .ok (.aload_n 0, 1) := by decide +kernel
theorem dX9_tells_138 : decode cX9_tells 138 = .ok (.getfield 42, 3) := by decide +kernel
theorem dX9_tells_141 : decode cX9_tells 141 = .ok (.iload 7, 2) := by decide +kernel
theorem dX9_tells_143 : decode cX9_tells 143 = .ok (.iaload, 1) := by decide +kernel
theorem dX9_tells_144 : decode cX9_tells 144 = .ok (.iload 5, 2) := by decide +kernel
theorem dX9_tells_146 : decode cX9_tells 146 = .ok (.if_icmp .le 13, 3) := by decide +kernel
theorem dX9_tells_149 : decode cX9_tells 149 = .ok (.aload_n 0, 1) := by decide +kernel
theorem dX9_tells_150 : decode cX9_tells 150 = .ok (.getfield 42, 3) := by decide +kernel
theorem dX9_tells_153 : decode cX9_tells 153 = .ok (.iload 7, 2) := by decide +kernel
theorem dX9_tells_155 : decode cX9_tells 155 = .ok (.iaload, 1) := by decide +kernel
theorem dX9_tells_156 : decode cX9_tells 156 = .ok (.goto 5, 3) := by decide +kernel
theorem dX9_tells_159 : decode cX9_tells 159 = .ok (.iload 5, 2) := by decide +kernel
theorem dX9_tells_161 : decode cX9_tells 161 = .ok (.istore 5, 2) := by decide +kernel
theorem dX9_tells_163 : decode cX9_tells 163 = .ok (.iinc 6 1, 3) := by decide +kernel
theorem dX9_tells_166 : decode cX9_tells 166 = .ok (.goto (-76), 3) := by decide +kernel
theorem dX9_tells_169 : decode cX9_tells 169 = .ok (.iload 5, 2) := by decide +kernel
theorem dX9_tells_171 : decode cX9_tells 171 = .ok (.iload_n 3, 1) := by decide +kernel
theorem dX9_tells_172 : decode cX9_tells 172 = .ok (.if_icmp .ge 8, 3) := by decide +kernel
theorem dX9_tells_175 : decode cX9_tells 175 = .ok (.iload 4, 2) := by decide +kernel
theorem dX9_tells_177 : decode cX9_tells 177 = .ok (.goto 4, 3) := by decide +kernel
theorem dX9_tells_180 : decode cX9_tells 180 = .ok (.iload_n 2, 1) := by decide +kernel
theorem dX9_tells_181 : decode cX9_tells 181 = .ok (.istore_n 2, 1) := by decide +kernel
theorem dX9_tells_182 : decode cX9_tells 182 = .ok (.iload 5, 2) := by decide +kernel
theorem dX9_tells_184 : decode cX9_tells 184 = .ok (.iload_n 3, 1) := by decide +kernel
theorem dX9_tells_185 : decode cX9_tells 185 = .ok (.if_icmp .ge 8, 3) := by decide +kernel
theorem dX9_tells_188 : decode cX9_tells 188 = .ok (.iload 5, 2) := by decide +kernel
theorem dX9_tells_190 : decode cX9_tells 190 = .ok (.goto 4, 3) := by decide +kernel
theorem dX9_tells_193 : decode cX9_tells 193 = .ok (.iload_n 3, 1) := by decide +kernel
theorem dX9_tells_194 : decode cX9_tells 194 = .ok (.istore_n 3, 1) := by decide +kernel
theorem dX9_tells_195 : decode cX9_tells 195 = .ok (.iinc 4 1, 3) := by decide +kernel
theorem dX9_tells_198 : decode cX9_tells 198 = .ok (.goto (-147), 3) := by decide +kernel
theorem dX9_tells_201 : decode cX9_tells 201 = .ok (.iload_n 2, 1) := by decide +kernel
theorem dX9_tells_202 : decode cX9_tells 202 = .ok (.ireturn, 1) := by decide +kernel
theorem dX9_goesSo_0 : decode cX9_goesSo 0 = .ok (.aload_n 0, 1) := by decide +kernel
theorem dX9_goesSo_1 : decode cX9_goesSo 1 = .ok (.getfield 19, 3) := by decide +kernel
theorem dX9_goesSo_4 : decode cX9_goesSo 4 = .ok (.iconst 0, 1) := by decide +kernel
theorem dX9_goesSo_5 : decode cX9_goesSo 5 = .ok (.iload_n 1, 1) := by decide +kernel
theorem dX9_goesSo_6 : decode cX9_goesSo 6 = .ok (.i2l, 1) := by decide +kernel
theorem dX9_goesSo_7 : decode cX9_goesSo 7 = .ok (.lastore, 1) := by decide +kernel
theorem dX9_goesSo_8 : decode cX9_goesSo 8 = .ok (.iconst 1, 1) := by decide +kernel
theorem dX9_goesSo_9 : decode cX9_goesSo 9 = .ok (.istore_n 3, 1) := by decide +kernel
theorem dX9_goesSo_10 : decode cX9_goesSo 10 = .ok (.iconst 0, 1) := by decide +kernel
theorem dX9_goesSo_11 : decode cX9_goesSo 11 = .ok (.istore 4, 2) := by decide +kernel
theorem dX9_goesSo_13 : decode cX9_goesSo 13 = .ok (.iload 4, 2) := by decide +kernel
theorem dX9_goesSo_15 : decode cX9_goesSo 15 = .ok (.iload_n 2, 1) := by decide +kernel
theorem dX9_goesSo_16 : decode cX9_goesSo 16 = .ok (.if_icmp .ge 38, 3) := by decide +kernel
theorem dX9_goesSo_19 : decode cX9_goesSo 19 = .ok (.iload_n 3, 1) := by decide +kernel
theorem dX9_goesSo_20 : decode cX9_goesSo 20 = .ok (.ifCond .eq 34, 3) := by decide +kernel
theorem dX9_goesSo_23 : decode cX9_goesSo 23 = .ok (.aload_n 0, 1) := by decide +kernel
theorem dX9_goesSo_24 : decode cX9_goesSo 24 = .ok (.invokevirtual 137, 3) := by decide +kernel
theorem dX9_goesSo_27 : decode cX9_goesSo 27 = .ok (.aload_n 0, 1) := by decide +kernel
theorem dX9_goesSo_28 : decode cX9_goesSo 28 = .ok (.iconst 2, 1) := by decide +kernel
theorem dX9_goesSo_29 : decode cX9_goesSo 29 = .ok (.invokevirtual 97, 3) := by decide +kernel
theorem dX9_goesSo_32 : decode cX9_goesSo 32 = .ok (.aload_n 0, 1) := by decide +kernel
theorem dX9_goesSo_33 : decode cX9_goesSo 33 = .ok (.getfield 45, 3) := by decide +kernel
theorem dX9_goesSo_36 : decode cX9_goesSo 36 = .ok (.iload 4, 2) := by decide +kernel
theorem dX9_goesSo_38 : decode cX9_goesSo 38 = .ok (.iaload, 1) := by decide +kernel
theorem dX9_goesSo_39 : decode cX9_goesSo 39 = .ok (.if_icmp .ne 7, 3) := by decide +kernel
theorem dX9_goesSo_42 : decode cX9_goesSo 42 = .ok (.iconst 1, 1) := by decide +kernel
theorem dX9_goesSo_43 : decode cX9_goesSo 43 = .ok (.goto 4, 3) := by decide +kernel
theorem dX9_goesSo_46 : decode cX9_goesSo 46 = .ok (.iconst 0, 1) := by decide +kernel
theorem dX9_goesSo_47 : decode cX9_goesSo 47 = .ok (.istore_n 3, 1) := by decide +kernel
theorem dX9_goesSo_48 : decode cX9_goesSo 48 = .ok (.iinc 4 1, 3) := by decide +kernel
theorem dX9_goesSo_51 : decode cX9_goesSo 51 = .ok (.goto (-38), 3) := by decide +kernel
theorem dX9_goesSo_54 : decode cX9_goesSo 54 = .ok (.aload_n 0, 1) := by decide +kernel
theorem dX9_goesSo_55 : decode cX9_goesSo 55 = .ok (.invokevirtual 264, 3) := by decide +kernel
theorem dX9_goesSo_58 : decode cX9_goesSo 58 = .ok (.iload_n 3, 1) := by decide +kernel
theorem dX9_goesSo_59 : decode cX9_goesSo 59 = .ok (.ireturn, 1) := by decide +kernel
theorem dX9_apart_0 : decode cX9_apart 0 = .ok (.iload_n 0, 1) := by decide +kernel
theorem dX9_apart_1 : decode cX9_apart 1 = .ok (.iload_n 1, 1) := by decide +kernel
theorem dX9_apart_2 : decode cX9_apart 2 = .ok (.if_icmp .ge 9, 3) := by decide +kernel
theorem dX9_apart_5 : decode cX9_apart 5 = .ok (.iload_n 1, 1) := by decide +kernel
theorem dX9_apart_6 : decode cX9_apart 6 = .ok (.iload_n 0, 1) := by decide +kernel
theorem dX9_apart_7 : decode cX9_apart 7 = .ok (.isub, 1) := by decide +kernel
theorem dX9_apart_8 : decode cX9_apart 8 = .ok (.goto 6, 3) := by decide +kernel
theorem dX9_apart_11 : decode cX9_apart 11 = .ok (.iload_n 0, 1) := by decide +kernel
theorem dX9_apart_12 : decode cX9_apart 12 = .ok (.iload_n 1, 1) := by decide +kernel
theorem dX9_apart_13 : decode cX9_apart 13 = .ok (.isub, 1) := by decide +kernel
theorem dX9_apart_14 : decode cX9_apart 14 = .ok (.ireturn, 1) := by decide +kernel
theorem dX9_differ_0 : decode cX9_differ 0 = .ok (.iload_n 0, 1) := by decide +kernel
theorem dX9_differ_1 : decode cX9_differ 1 = .ok (.bipush 16, 2) := by decide +kernel
theorem dX9_differ_3 : decode cX9_differ 3 = .ok (.idiv, 1) := by decide +kernel
theorem dX9_differ_4 : decode cX9_differ 4 = .ok (.iload_n 1, 1) := by decide +kernel
theorem dX9_differ_5 : decode cX9_differ 5 = .ok (.bipush 16, 2) := by decide +kernel
theorem dX9_differ_7 : decode cX9_differ 7 = .ok (.idiv, 1) := by decide +kernel
theorem dX9_differ_8 : decode cX9_differ 8 = .ok (.invokestatic 289, 3) := by decide +kernel
theorem dX9_differ_11 : decode cX9_differ 11 = .ok (.iload_n 0, 1) := by decide +kernel
theorem dX9_differ_12 : decode cX9_differ 12 = .ok (.iconst 4, 1) := by decide +kernel
theorem dX9_differ_13 : decode cX9_differ 13 = .ok (.idiv, 1) := by decide +kernel
theorem dX9_differ_14 : decode cX9_differ 14 = .ok (.iconst 4, 1) := by decide +kernel
theorem dX9_differ_15 : decode cX9_differ 15 = .ok (.irem, 1) := by decide +kernel
theorem dX9_differ_16 : decode cX9_differ 16 = .ok (.iload_n 1, 1) := by decide +kernel
theorem dX9_differ_17 : decode cX9_differ 17 = .ok (.iconst 4, 1) := by decide +kernel
theorem dX9_differ_18 : decode cX9_differ 18 = .ok (.idiv, 1) := by decide +kernel
theorem dX9_differ_19 : decode cX9_differ 19 = .ok (.iconst 4, 1) := by decide +kernel
theorem dX9_differ_20 : decode cX9_differ 20 = .ok (.irem, 1) := by decide +kernel
theorem dX9_differ_21 : decode cX9_differ 21 = .ok (.invokestatic 289, 3) := by decide +kernel
theorem dX9_differ_24 : decode cX9_differ 24 = .ok (.iadd, 1) := by decide +kernel
theorem dX9_differ_25 : decode cX9_differ 25 = .ok (.iload_n 0, 1) := by decide +kernel
theorem dX9_differ_26 : decode cX9_differ 26 = .ok (.iconst 4, 1) := by decide +kernel
theorem dX9_differ_27 : decode cX9_differ 27 = .ok (.irem, 1) := by decide +kernel
theorem dX9_differ_28 : decode cX9_differ 28 = .ok (.iload_n 1, 1) := by decide +kernel
theorem dX9_differ_29 : decode cX9_differ 29 = .ok (.iconst 4, 1) := by decide +kernel
theorem dX9_differ_30 : decode cX9_differ 30 = .ok (.irem, 1) := by decide +kernel
theorem dX9_differ_31 : decode cX9_differ 31 = .ok (.invokestatic 289, 3) := by decide +kernel
theorem dX9_differ_34 : decode cX9_differ 34 = .ok (.iadd, 1) := by decide +kernel
theorem dX9_differ_35 : decode cX9_differ 35 = .ok (.ireturn, 1) := by decide +kernel
theorem dX9_teachFor_0 : decode cX9_teachFor 0 = .ok (.iload_n 1, 1) := by decide +kernel
theorem dX9_teachFor_1 : decode cX9_teachFor 1 = .ok (.i2l, 1) := by decide +kernel
theorem dX9_teachFor_2 : decode cX9_teachFor 2 = .ok (.lconst 0, 1) := by decide +kernel
theorem dX9_teachFor_3 : decode cX9_teachFor 3 = .ok (.ldc2_w 292, 3) := by decide +kernel
theorem dX9_teachFor_6 : decode cX9_teachFor 6 = .ok (.invokestatic 67, 3) := by decide +kernel
theorem dX9_teachFor_9 : decode cX9_teachFor 9 = .ok (.ifCond .ne 6, 3) := by decide +kernel
theorem dX9_teachFor_12 : decode cX9_teachFor 12 = .ok (.ldc 142, 2) := by decide +kernel
theorem dX9_teachFor_14 : decode cX9_teachFor 14 = .ok (.ireturn, 1) := by decide +kernel
theorem dX9_teachFor_15 : decode cX9_teachFor 15 = .ok (.iload_n 1, 1) := by decide +kernel
theorem dX9_teachFor_16 : decode cX9_teachFor 16 = .ok (.ifCond .ne 21, 3) := by decide +kernel
theorem dX9_teachFor_19 : decode cX9_teachFor 19 = .ok (.aload_n 0, 1) := by decide +kernel
theorem dX9_teachFor_20 : decode cX9_teachFor 20 = .ok (.getfield 64, 3) := by decide +kernel
theorem dX9_teachFor_23 : decode cX9_teachFor 23 = .ok (.ifCond .ne 8, 3) := by decide +kernel
theorem dX9_teachFor_26 : decode cX9_teachFor 26 = .ok (.ldc 220, 2) := by decide +kernel
theorem dX9_teachFor_28 : decode cX9_teachFor 28 = .ok (.goto 8, 3) := by decide +kernel
theorem dX9_teachFor_31 : decode cX9_teachFor 31 = .ok (.aload_n 0, 1) := by decide +kernel
theorem dX9_teachFor_32 : decode cX9_teachFor 32 = .ok (.iconst 0, 1) := by decide +kernel
theorem dX9_teachFor_33 : decode cX9_teachFor 33 = .ok (.invokevirtual 97, 3) := by decide +kernel
theorem dX9_teachFor_36 : decode cX9_teachFor 36 = .ok (.ireturn, 1) := by decide +kernel
theorem dX9_teachFor_37 : decode cX9_teachFor 37 = .ok (.iconst 0, 1) := by decide +kernel
theorem dX9_teachFor_38 : decode cX9_teachFor 38 = .ok (.istore_n 2, 1) := by decide +kernel
theorem dX9_teachFor_39 : decode cX9_teachFor 39 = .ok (.iconst 1, 1) := by decide +kernel
theorem dX9_teachFor_40 : decode cX9_teachFor 40 = .ok (.istore_n 3, 1) := by decide +kernel
theorem dX9_teachFor_41 : decode cX9_teachFor 41 = .ok (.iload_n 1, 1) := by decide +kernel
theorem dX9_teachFor_42 : decode cX9_teachFor 42 = .ok (.iload_n 3, 1) := by decide +kernel
theorem dX9_teachFor_43 : decode cX9_teachFor 43 = .ok (.idiv, 1) := by decide +kernel
theorem dX9_teachFor_44 : decode cX9_teachFor 44 = .ok (.bipush 9, 2) := by decide +kernel
theorem dX9_teachFor_46 : decode cX9_teachFor 46 = .ok (.if_icmp .le 11, 3) := by decide +kernel
theorem dX9_teachFor_49 : decode cX9_teachFor 49 = .ok (.iload_n 3, 1) := by decide +kernel
theorem dX9_teachFor_50 : decode cX9_teachFor 50 = .ok (.bipush 10, 2) := by decide +kernel
theorem dX9_teachFor_52 : decode cX9_teachFor 52 = .ok (.imul, 1) := by decide +kernel
theorem dX9_teachFor_53 : decode cX9_teachFor 53 = .ok (.istore_n 3, 1) := by decide +kernel
theorem dX9_teachFor_54 : decode cX9_teachFor 54 = .ok (.goto (-13), 3) := by decide +kernel
theorem dX9_teachFor_57 : decode cX9_teachFor 57 = .ok (.iload_n 3, 1) := by decide +kernel
theorem dX9_teachFor_58 : decode cX9_teachFor 58 = .ok (.ifCond .le 44, 3) := by decide +kernel
theorem dX9_teachFor_61 : decode cX9_teachFor 61 = .ok (.iload_n 1, 1) := by decide +kernel
theorem dX9_teachFor_62 : decode cX9_teachFor 62 = .ok (.iload_n 3, 1) := by decide +kernel
theorem dX9_teachFor_63 : decode cX9_teachFor 63 = .ok (.idiv, 1) := by decide +kernel
theorem dX9_teachFor_64 : decode cX9_teachFor 64 = .ok (.bipush 10, 2) := by decide +kernel
theorem dX9_teachFor_66 : decode cX9_teachFor 66 = .ok (.irem, 1) := by decide +kernel
theorem dX9_teachFor_67 : decode cX9_teachFor 67 = .ok (.iconst 1, 1) := by decide +kernel
theorem dX9_teachFor_68 : decode cX9_teachFor 68 = .ok (.isub, 1) := by decide +kernel
theorem dX9_teachFor_69 : decode cX9_teachFor 69 = .ok (.istore 4, 2) := by decide +kernel
theorem dX9_teachFor_71 : decode cX9_teachFor 71 = .ok (.aload_n 0, 1) := by decide +kernel
theorem dX9_teachFor_72 : decode cX9_teachFor 72 = .ok (.iload 4, 2) := by decide +kernel
theorem dX9_teachFor_74 : decode cX9_teachFor 74 = .ok (.invokevirtual 202, 3) := by decide +kernel
theorem dX9_teachFor_77 : decode cX9_teachFor 77 = .ok (.ifCond .ne 6, 3) := by decide +kernel
theorem dX9_teachFor_80 : decode cX9_teachFor 80 = .ok (.ldc 142, 2) := by decide +kernel
theorem dX9_teachFor_82 : decode cX9_teachFor 82 = .ok (.ireturn, 1) := by decide +kernel
theorem dX9_teachFor_83 : decode cX9_teachFor 83 = .ok (.aload_n 0, 1) := by decide +kernel
theorem dX9_teachFor_84 : decode cX9_teachFor 84 = .ok (.getfield 45, 3) := by decide +kernel
theorem dX9_teachFor_87 : decode cX9_teachFor 87 = .ok (.iload_n 2, 1) := by decide +kernel
theorem dX9_teachFor_88 : decode cX9_teachFor 88 = .ok (.iload 4, 2) := by decide +kernel
theorem dX9_teachFor_90 : decode cX9_teachFor 90 = .ok (.iastore, 1) := by decide +kernel
theorem dX9_teachFor_91 : decode cX9_teachFor 91 = .ok (.iinc 2 1, 3) := by decide +kernel
theorem dX9_teachFor_94 : decode cX9_teachFor 94 = .ok (.iload_n 3, 1) := by decide +kernel
theorem dX9_teachFor_95 : decode cX9_teachFor 95 = .ok (.bipush 10, 2) := by decide +kernel
theorem dX9_teachFor_97 : decode cX9_teachFor 97 = .ok (.idiv, 1) := by decide +kernel
theorem dX9_teachFor_98 : decode cX9_teachFor 98 = .ok (.istore_n 3, 1) := by decide +kernel
theorem dX9_teachFor_99 : decode cX9_teachFor 99 = .ok (.goto (-42), 3) := by decide +kernel
theorem dX9_teachFor_102 : decode cX9_teachFor 102 = .ok (.iconst (-1), 1) := by decide +kernel
theorem dX9_teachFor_103 : decode cX9_teachFor 103 = .ok (.istore 4, 2) := by decide +kernel
theorem dX9_teachFor_105 : decode cX9_teachFor 105 = .ok (.aload_n 0, 1) := by decide +kernel
theorem dX9_teachFor_106 : decode cX9_teachFor 106 = .ok (.invokevirtual 261, 3) := by decide +kernel
theorem dX9_teachFor_109 : decode cX9_teachFor 109 = .ok (.iconst 0, 1) := by decide +kernel
theorem dX9_teachFor_110 : decode cX9_teachFor 110 = .ok (.istore 5, 2) := by decide +kernel
theorem dX9_teachFor_112 : decode cX9_teachFor 112 = .ok (.iload 5, 2) := by decide +kernel
theorem dX9_teachFor_114 : decode cX9_teachFor 114 = .ok (.bipush 64, 2) := by decide +kernel
theorem dX9_teachFor_116 : decode cX9_teachFor 116 = .ok (.if_icmp .ge 69, 3) := by decide +kernel
theorem dX9_teachFor_119 : decode cX9_teachFor 119 = .ok (.iload 4, 2) := by decide +kernel
theorem dX9_teachFor_121 : decode cX9_teachFor 121 = .ok (.iconst (-1), 1) := by decide +kernel
theorem dX9_teachFor_122 : decode cX9_teachFor 122 = .ok (.if_icmp .eq 26, 3) := by decide +kernel
theorem dX9_teachFor_125 : decode cX9_teachFor 125 = .ok (.iload 5, 2) := by decide +kernel
theorem dX9_teachFor_127 : decode cX9_teachFor 127 = .ok (.aload_n 0, 1) := by decide +kernel
theorem dX9_teachFor_128 : decode cX9_teachFor 128 = .ok (.iconst 0, 1) := by decide +kernel
theorem dX9_teachFor_129 : decode cX9_teachFor 129 = .ok (.invokevirtual 97, 3) := by decide +kernel
theorem dX9_teachFor_132 : decode cX9_teachFor 132 = .ok (.invokestatic 294, 3) := by decide +kernel
theorem dX9_teachFor_135 : decode cX9_teachFor 135 = .ok (.iload 4, 2) := by decide +kernel
theorem dX9_teachFor_137 : decode cX9_teachFor 137 = .ok (.aload_n 0, 1) := by decide +kernel
theorem dX9_teachFor_138 : decode cX9_teachFor 138 = .ok (.iconst 0, 1) := by decide +kernel
theorem dX9_teachFor_139 : decode cX9_teachFor 139 = .ok (.invokevirtual 97, 3) := by decide +kernel
theorem dX9_teachFor_142 : decode cX9_teachFor 142 = .ok (.invokestatic 294, 3) := by decide +kernel
theorem dX9_teachFor_145 : decode cX9_teachFor 145 = .ok (.if_icmp .ge 7, 3) := by decide +kernel
theorem dX9_teachFor_148 : decode cX9_teachFor 148 = .ok (.iconst 1, 1) := by decide +kernel
theorem dX9_teachFor_149 : decode cX9_teachFor 149 = .ok (.goto 4, 3) := by decide +kernel
theorem dX9_teachFor_152 : decode cX9_teachFor 152 = .ok (.iconst 0, 1) := by decide +kernel
theorem dX9_teachFor_153 : decode cX9_teachFor 153 = .ok (.istore 6, 2) := by decide +kernel
theorem dX9_teachFor_155 : decode cX9_teachFor 155 = .ok (.iload 6, 2) := by decide +kernel
theorem dX9_teachFor_157 : decode cX9_teachFor 157 = .ok (.ifCond .eq 18, 3) := by decide +kernel
theorem dX9_teachFor_160 : decode cX9_teachFor 160 = .ok (.aload_n 0, 1) := by decide +kernel
theorem dX9_teachFor_161 : decode cX9_teachFor 161 = .ok (.iload 5, 2) := by decide +kernel
theorem dX9_teachFor_163 : decode cX9_teachFor 163 = .ok (.iload_n 2, 1) := by decide +kernel
theorem dX9_teachFor_164 : decode cX9_teachFor 164 = .ok (.invokevirtual 297, 3) := by decide +kernel
theorem dX9_teachFor_167 : decode cX9_teachFor 167 = .ok (.ifCond .eq 8, 3) := by decide +kernel
theorem dX9_teachFor_170 : decode cX9_teachFor 170 = .ok (.iload 5, 2) := by decide +kernel
theorem dX9_teachFor_172 : decode cX9_teachFor 172 = .ok (.goto 5, 3) := by decide +kernel
theorem dX9_teachFor_175 : decode cX9_teachFor 175 = .ok (.iload 4, 2) := by decide +kernel
theorem dX9_teachFor_177 : decode cX9_teachFor 177 = .ok (.istore 4, 2) := by decide +kernel
theorem dX9_teachFor_179 : decode cX9_teachFor 179 = .ok (.iinc 5 1, 3) := by decide +kernel
theorem dX9_teachFor_182 : decode cX9_teachFor 182 = .ok (.goto (-70), 3) := by decide +kernel
theorem dX9_teachFor_185 : decode cX9_teachFor 185 = .ok (.iload 4, 2) := by decide +kernel
theorem dX9_teachFor_187 : decode cX9_teachFor 187 = .ok (.ireturn, 1) := by decide +kernel
theorem dX9_otherwise_0 : decode cX9_otherwise 0 = .ok (.iload_n 1, 1) := by decide +kernel
theorem dX9_otherwise_1 : decode cX9_otherwise 1 = .ok (.invokestatic 238, 3) := by decide +kernel
theorem dX9_otherwise_4 : decode cX9_otherwise 4 = .ok (.ifCond .ne 6, 3) := by decide +kernel
theorem dX9_otherwise_7 : decode cX9_otherwise 7 = .ok (.ldc 205, 2) := by decide +kernel
theorem dX9_otherwise_9 : decode cX9_otherwise 9 = .ok (.ireturn, 1) := by decide +kernel
theorem dX9_otherwise_10 : decode cX9_otherwise 10 = .ok (.aload_n 0, 1) := by decide +kernel
theorem dX9_otherwise_11 : decode cX9_otherwise 11 = .ok (.getfield 64, 3) := by decide +kernel
theorem dX9_otherwise_14 : decode cX9_otherwise 14 = .ok (.ifCond .ne 6, 3) := by decide +kernel
theorem dX9_otherwise_17 : decode cX9_otherwise 17 = .ok (.ldc 220, 2) := by decide +kernel
theorem dX9_otherwise_19 : decode cX9_otherwise 19 = .ok (.ireturn, 1) := by decide +kernel
theorem dX9_otherwise_20 : decode cX9_otherwise 20 = .ok (.aload_n 0, 1) := by decide +kernel
theorem dX9_otherwise_21 : decode cX9_otherwise 21 = .ok (.invokevirtual 261, 3) := by decide +kernel
theorem dX9_otherwise_24 : decode cX9_otherwise 24 = .ok (.iconst 1, 1) := by decide +kernel
theorem dX9_otherwise_25 : decode cX9_otherwise 25 = .ok (.istore_n 2, 1) := by decide +kernel
theorem dX9_otherwise_26 : decode cX9_otherwise 26 = .ok (.iload_n 2, 1) := by decide +kernel
theorem dX9_otherwise_27 : decode cX9_otherwise 27 = .ok (.bipush 101, 2) := by decide +kernel
theorem dX9_otherwise_29 : decode cX9_otherwise 29 = .ok (.if_icmp .ge 24, 3) := by decide +kernel
theorem dX9_otherwise_32 : decode cX9_otherwise 32 = .ok (.aload_n 0, 1) := by decide +kernel
theorem dX9_otherwise_33 : decode cX9_otherwise 33 = .ok (.invokevirtual 137, 3) := by decide +kernel
theorem dX9_otherwise_36 : decode cX9_otherwise 36 = .ok (.aload_n 0, 1) := by decide +kernel
theorem dX9_otherwise_37 : decode cX9_otherwise 37 = .ok (.getfield 48, 3) := by decide +kernel
theorem dX9_otherwise_40 : decode cX9_otherwise 40 = .ok (.iload_n 2, 1) := by decide +kernel
theorem dX9_otherwise_41 : decode cX9_otherwise 41 = .ok (.aload_n 0, 1) := by decide +kernel
theorem dX9_otherwise_42 : decode cX9_otherwise 42 = .ok (.iconst 2, 1) := by decide +kernel
theorem dX9_otherwise_43 : decode cX9_otherwise 43 = .ok (.invokevirtual 97, 3) := by decide +kernel
theorem dX9_otherwise_46 : decode cX9_otherwise 46 = .ok (.iastore, 1) := by decide +kernel
theorem dX9_otherwise_47 : decode cX9_otherwise 47 = .ok (.iinc 2 1, 3) := by decide +kernel
theorem dX9_otherwise_50 : decode cX9_otherwise 50 = .ok (.goto (-24), 3) := by decide +kernel
theorem dX9_otherwise_53 : decode cX9_otherwise 53 = .ok (.aload_n 0, 1) := by decide +kernel
theorem dX9_otherwise_54 : decode cX9_otherwise 54 = .ok (.invokevirtual 264, 3) := by decide +kernel
theorem dX9_otherwise_57 : decode cX9_otherwise 57 = .ok (.aload_n 0, 1) := by decide +kernel
theorem dX9_otherwise_58 : decode cX9_otherwise 58 = .ok (.getfield 19, 3) := by decide +kernel
theorem dX9_otherwise_61 : decode cX9_otherwise 61 = .ok (.iconst 0, 1) := by decide +kernel
theorem dX9_otherwise_62 : decode cX9_otherwise 62 = .ok (.iload_n 1, 1) := by decide +kernel
theorem dX9_otherwise_63 : decode cX9_otherwise 63 = .ok (.i2l, 1) := by decide +kernel
theorem dX9_otherwise_64 : decode cX9_otherwise 64 = .ok (.lastore, 1) := by decide +kernel
theorem dX9_otherwise_65 : decode cX9_otherwise 65 = .ok (.iconst (-1), 1) := by decide +kernel
theorem dX9_otherwise_66 : decode cX9_otherwise 66 = .ok (.istore_n 2, 1) := by decide +kernel
theorem dX9_otherwise_67 : decode cX9_otherwise 67 = .ok (.iconst 1, 1) := by decide +kernel
theorem dX9_otherwise_68 : decode cX9_otherwise 68 = .ok (.istore_n 3, 1) := by decide +kernel
theorem dX9_otherwise_69 : decode cX9_otherwise 69 = .ok (.iload_n 3, 1) := by decide +kernel
theorem dX9_otherwise_70 : decode cX9_otherwise 70 = .ok (.bipush 101, 2) := by decide +kernel
theorem dX9_otherwise_72 : decode cX9_otherwise 72 = .ok (.if_icmp .ge 38, 3) := by decide +kernel
theorem dX9_otherwise_75 : decode cX9_otherwise 75 = .ok (.iload_n 2, 1) := by decide +kernel
theorem dX9_otherwise_76 : decode cX9_otherwise 76 = .ok (.iconst (-1), 1) := by decide +kernel
theorem dX9_otherwise_77 : decode cX9_otherwise 77 = .ok (.if_icmp .ne 33, 3) := by decide +kernel
theorem dX9_otherwise_80 : decode cX9_otherwise 80 = .ok (.aload_n 0, 1) := by decide +kernel
theorem dX9_otherwise_81 : decode cX9_otherwise 81 = .ok (.invokevirtual 137, 3) := by decide +kernel
theorem dX9_otherwise_84 : decode cX9_otherwise 84 = .ok (.aload_n 0, 1) := by decide +kernel
theorem dX9_otherwise_85 : decode cX9_otherwise 85 = .ok (.iconst 2, 1) := by decide +kernel
theorem dX9_otherwise_86 : decode cX9_otherwise 86 = .ok (.invokevirtual 97, 3) := by decide +kernel
theorem dX9_otherwise_89 : decode cX9_otherwise 89 = .ok (.aload_n 0, 1) := by decide +kernel
theorem dX9_otherwise_90 : decode cX9_otherwise 90 = .ok (.getfield 48, 3) := by decide +kernel
theorem dX9_otherwise_93 : decode cX9_otherwise 93 = .ok (.iload_n 3, 1) := by decide +kernel
theorem dX9_otherwise_94 : decode cX9_otherwise 94 = .ok (.iaload, 1) := by decide +kernel
theorem dX9_otherwise_95 : decode cX9_otherwise 95 = .ok (.if_icmp .ne 7, 3) := by decide +kernel
theorem dX9_otherwise_98 : decode cX9_otherwise 98 = .ok (.iconst (-1), 1) := by decide +kernel
theorem dX9_otherwise_99 : decode cX9_otherwise 99 = .ok (.goto 4, 3) := by decide +kernel
theorem dX9_otherwise_102 : decode cX9_otherwise 102 = .ok (.iload_n 3, 1) := by decide +kernel
theorem dX9_otherwise_103 : decode cX9_otherwise 103 = .ok (.istore_n 2, 1) := by decide +kernel
theorem dX9_otherwise_104 : decode cX9_otherwise 104 = .ok (.iinc 3 1, 3) := by decide +kernel
theorem dX9_otherwise_107 : decode cX9_otherwise 107 = .ok (.goto (-38), 3) := by decide +kernel
theorem dX9_otherwise_110 : decode cX9_otherwise 110 = .ok (.aload_n 0, 1) := by decide +kernel
theorem dX9_otherwise_111 : decode cX9_otherwise 111 = .ok (.invokevirtual 264, 3) := by decide +kernel
theorem dX9_otherwise_114 : decode cX9_otherwise 114 = .ok (.iload_n 2, 1) := by decide +kernel
theorem dX9_otherwise_115 : decode cX9_otherwise 115 = .ok (.ireturn, 1) := by decide +kernel
theorem dX9_write_0 : decode cX9_write 0 = .ok (.aload_n 0, 1) := by decide +kernel
theorem dX9_write_1 : decode cX9_write 1 = .ok (.iload_n 1, 1) := by decide +kernel
theorem dX9_write_2 : decode cX9_write 2 = .ok (.invokevirtual 202, 3) := by decide +kernel
theorem dX9_write_5 : decode cX9_write 5 = .ok (.ifCond .ne 6, 3) := by decide +kernel
theorem dX9_write_8 : decode cX9_write 8 = .ok (.ldc 205, 2) := by decide +kernel
theorem dX9_write_10 : decode cX9_write 10 = .ok (.ireturn, 1) := by decide +kernel
theorem dX9_write_11 : decode cX9_write 11 = .ok (.iload_n 2, 1) := by decide +kernel
theorem dX9_write_12 : decode cX9_write 12 = .ok (.i2l, 1) := by decide +kernel
theorem dX9_write_13 : decode cX9_write 13 = .ok (.lconst 0, 1) := by decide +kernel
theorem dX9_write_14 : decode cX9_write 14 = .ok (.ldc2_w 301, 3) := by decide +kernel
theorem dX9_write_17 : decode cX9_write 17 = .ok (.invokestatic 67, 3) := by decide +kernel
theorem dX9_write_20 : decode cX9_write 20 = .ok (.ifCond .ne 6, 3) := by decide +kernel
theorem dX9_write_23 : decode cX9_write 23 = .ok (.ldc 142, 2) := by decide +kernel
theorem dX9_write_25 : decode cX9_write 25 = .ok (.ireturn, 1) := by decide +kernel
theorem dX9_write_26 : decode cX9_write 26 = .ok (.aload_n 0, 1) := by decide +kernel
theorem dX9_write_27 : decode cX9_write 27 = .ok (.getfield 190, 3) := by decide +kernel
theorem dX9_write_30 : decode cX9_write 30 = .ok (.bipush 15, 2) := by decide +kernel
theorem dX9_write_32 : decode cX9_write 32 = .ok (.if_icmp .ne 6, 3) := by decide +kernel
theorem dX9_write_35 : decode cX9_write 35 = .ok (.ldc 146, 2) := by decide +kernel
theorem dX9_write_37 : decode cX9_write 37 = .ok (.ireturn, 1) := by decide +kernel
theorem dX9_write_38 : decode cX9_write 38 = .ok (.aload_n 0, 1) := by decide +kernel
theorem dX9_write_39 : decode cX9_write 39 = .ok (.getfield 51, 3) := by decide +kernel
theorem dX9_write_42 : decode cX9_write 42 = .ok (.iconst 2, 1) := by decide +kernel
theorem dX9_write_43 : decode cX9_write 43 = .ok (.aload_n 0, 1) := by decide +kernel
theorem dX9_write_44 : decode cX9_write 44 = .ok (.getfield 190, 3) := by decide +kernel
theorem dX9_write_47 : decode cX9_write 47 = .ok (.imul, 1) := by decide +kernel
theorem dX9_write_48 : decode cX9_write 48 = .ok (.iload_n 1, 1) := by decide +kernel
theorem dX9_write_49 : decode cX9_write 49 = .ok (.iastore, 1) := by decide +kernel
theorem dX9_write_50 : decode cX9_write 50 = .ok (.aload_n 0, 1) := by decide +kernel
theorem dX9_write_51 : decode cX9_write 51 = .ok (.getfield 51, 3) := by decide +kernel
theorem dX9_write_54 : decode cX9_write 54 = .ok (.iconst 2, 1) := by decide +kernel
theorem dX9_write_55 : decode cX9_write 55 = .ok (.aload_n 0, 1) := by decide +kernel
theorem dX9_write_56 : decode cX9_write 56 = .ok (.getfield 190, 3) := by decide +kernel
theorem dX9_write_59 : decode cX9_write 59 = .ok (.imul, 1) := by decide +kernel
theorem dX9_write_60 : decode cX9_write 60 = .ok (.iconst 1, 1) := by decide +kernel
theorem dX9_write_61 : decode cX9_write 61 = .ok (.iadd, 1) := by decide +kernel
theorem dX9_write_62 : decode cX9_write 62 = .ok (.iload_n 2, 1) := by decide +kernel
theorem dX9_write_63 : decode cX9_write 63 = .ok (.iastore, 1) := by decide +kernel
theorem dX9_write_64 : decode cX9_write 64 = .ok (.aload_n 0, 1) := by decide +kernel
theorem dX9_write_65 : decode cX9_write 65 = .ok (.dup, 1) := by decide +kernel
theorem dX9_write_66 : decode cX9_write 66 = .ok (.getfield 190, 3) := by decide +kernel
theorem dX9_write_69 : decode cX9_write 69 = .ok (.iconst 1, 1) := by decide +kernel
theorem dX9_write_70 : decode cX9_write 70 = .ok (.iadd, 1) := by decide +kernel
theorem dX9_write_71 : decode cX9_write 71 = .ok (.putfield 190, 3) := by decide +kernel
theorem dX9_write_74 : decode cX9_write 74 = .ok (.aload_n 0, 1) := by decide +kernel
theorem dX9_write_75 : decode cX9_write 75 = .ok (.getfield 190, 3) := by decide +kernel
theorem dX9_write_78 : decode cX9_write 78 = .ok (.ireturn, 1) := by decide +kernel
theorem dX9_tear_0 : decode cX9_tear 0 = .ok (.aload_n 0, 1) := by decide +kernel
theorem dX9_tear_1 : decode cX9_tear 1 = .ok (.getfield 190, 3) := by decide +kernel
theorem dX9_tear_4 : decode cX9_tear 4 = .ok (.istore_n 1, 1) := by decide +kernel
theorem dX9_tear_5 : decode cX9_tear 5 = .ok (.aload_n 0, 1) := by decide +kernel
theorem dX9_tear_6 : decode cX9_tear 6 = .ok (.iconst 0, 1) := by decide +kernel
theorem dX9_tear_7 : decode cX9_tear 7 = .ok (.putfield 190, 3) := by decide +kernel
theorem dX9_tear_10 : decode cX9_tear 10 = .ok (.iload_n 1, 1) := by decide +kernel
theorem dX9_tear_11 : decode cX9_tear 11 = .ok (.ireturn, 1) := by decide +kernel
theorem dX9_judge_0 : decode cX9_judge 0 = .ok (.iconst (-1), 1) := by decide +kernel
theorem dX9_judge_1 : decode cX9_judge 1 = .ok (.istore_n 1, 1) := by decide +kernel
theorem dX9_judge_2 : decode cX9_judge 2 = .ok (.aload_n 0, 1) := by decide +kernel
theorem dX9_judge_3 : decode cX9_judge 3 = .ok (.getfield 190, 3) := by decide +kernel
theorem dX9_judge_6 : decode cX9_judge 6 = .ok (.iconst 1, 1) := by decide +kernel
theorem dX9_judge_7 : decode cX9_judge 7 = .ok (.isub, 1) := by decide +kernel
theorem dX9_judge_8 : decode cX9_judge 8 = .ok (.istore_n 2, 1) := by decide +kernel
theorem dX9_judge_9 : decode cX9_judge 9 = .ok (.iload_n 2, 1) := by decide +kernel
theorem dX9_judge_10 : decode cX9_judge 10 = .ok (.ifCond .lt 46, 3) := by decide +kernel
theorem dX9_judge_13 : decode cX9_judge 13 = .ok (.aload_n 0, 1) := by decide +kernel
theorem dX9_judge_14 : decode cX9_judge 14 = .ok (.getfield 19, 3) := by decide +kernel
theorem dX9_judge_17 : decode cX9_judge 17 = .ok (.bipush 18, 2) := by decide +kernel
theorem dX9_judge_19 : decode cX9_judge 19 = .ok (.aload_n 0, 1) := by decide +kernel
theorem dX9_judge_20 : decode cX9_judge 20 = .ok (.getfield 51, 3) := by decide +kernel
theorem dX9_judge_23 : decode cX9_judge 23 = .ok (.iconst 2, 1) := by decide +kernel
theorem dX9_judge_24 : decode cX9_judge 24 = .ok (.iload_n 2, 1) := by decide +kernel
theorem dX9_judge_25 : decode cX9_judge 25 = .ok (.imul, 1) := by decide +kernel
theorem dX9_judge_26 : decode cX9_judge 26 = .ok (.iaload, 1) := by decide +kernel
theorem dX9_judge_27 : decode cX9_judge 27 = .ok (.iadd, 1) := by decide +kernel
theorem dX9_judge_28 : decode cX9_judge 28 = .ok (.laload, 1) := by decide +kernel
theorem dX9_judge_29 : decode cX9_judge 29 = .ok (.aload_n 0, 1) := by decide +kernel
theorem dX9_judge_30 : decode cX9_judge 30 = .ok (.getfield 51, 3) := by decide +kernel
theorem dX9_judge_33 : decode cX9_judge 33 = .ok (.iconst 2, 1) := by decide +kernel
theorem dX9_judge_34 : decode cX9_judge 34 = .ok (.iload_n 2, 1) := by decide +kernel
theorem dX9_judge_35 : decode cX9_judge 35 = .ok (.imul, 1) := by decide +kernel
theorem dX9_judge_36 : decode cX9_judge 36 = .ok (.iconst 1, 1) := by decide +kernel
theorem dX9_judge_37 : decode cX9_judge 37 = .ok (.iadd, 1) := by decide +kernel
theorem dX9_judge_38 : decode cX9_judge 38 = .ok (.iaload, 1) := by decide +kernel
theorem dX9_judge_39 : decode cX9_judge 39 = .ok (.i2l, 1) := by decide +kernel
theorem dX9_judge_40 : decode cX9_judge 40 = .ok (.lcmp, 1) := by decide +kernel
theorem dX9_judge_41 : decode cX9_judge 41 = .ok (.ifCond .ne 7, 3) := by decide +kernel
theorem dX9_judge_44 : decode cX9_judge 44 = .ok (.iload_n 1, 1) := by decide +kernel
theorem dX9_judge_45 : decode cX9_judge 45 = .ok (.goto 4, 3) := by decide +kernel
theorem dX9_judge_48 : decode cX9_judge 48 = .ok (.iload_n 2, 1) := by decide +kernel
theorem dX9_judge_49 : decode cX9_judge 49 = .ok (.istore_n 1, 1) := by decide +kernel
theorem dX9_judge_50 : decode cX9_judge 50 = .ok (.iinc 2 (-1), 3) := by decide +kernel
theorem dX9_judge_53 : decode cX9_judge 53 = .ok (.goto (-44), 3) := by decide +kernel
theorem dX9_judge_56 : decode cX9_judge 56 = .ok (.iload_n 1, 1) := by decide +kernel
theorem dX9_judge_57 : decode cX9_judge 57 = .ok (.ireturn, 1) := by decide +kernel
theorem dX9_seed_0 : decode cX9_seed 0 = .ok (.iload_n 1, 1) := by decide +kernel
theorem dX9_seed_1 : decode cX9_seed 1 = .ok (.ifCond .ge 6, 3) := by decide +kernel
theorem dX9_seed_4 : decode cX9_seed 4 = .ok (.ldc 142, 2) := by decide +kernel
theorem dX9_seed_6 : decode cX9_seed 6 = .ok (.ireturn, 1) := by decide +kernel
theorem dX9_seed_7 : decode cX9_seed 7 = .ok (.aload_n 0, 1) := by decide +kernel
theorem dX9_seed_8 : decode cX9_seed 8 = .ok (.getfield 241, 3) := by decide +kernel
theorem dX9_seed_11 : decode cX9_seed 11 = .ok (.l2i, 1) := by decide +kernel
theorem dX9_seed_12 : decode cX9_seed 12 = .ok (.istore_n 2, 1) := by decide +kernel
theorem dX9_seed_13 : decode cX9_seed 13 = .ok (.aload_n 0, 1) := by decide +kernel
theorem dX9_seed_14 : decode cX9_seed 14 = .ok (.iload_n 1, 1) := by decide +kernel
theorem dX9_seed_15 : decode cX9_seed 15 = .ok (.i2l, 1) := by decide +kernel
theorem dX9_seed_16 : decode cX9_seed 16 = .ok (.putfield 241, 3) := by decide +kernel
theorem dX9_seed_19 : decode cX9_seed 19 = .ok (.iload_n 2, 1) := by decide +kernel
theorem dX9_seed_20 : decode cX9_seed 20 = .ok (.ireturn, 1) := by decide +kernel
theorem dX9_keep_0 : decode cX9_keep 0 = .ok (.iload_n 1, 1) := by decide +kernel
theorem dX9_keep_1 : decode cX9_keep 1 = .ok (.i2l, 1) := by decide +kernel
theorem dX9_keep_2 : decode cX9_keep 2 = .ok (.lconst 0, 1) := by decide +kernel
theorem dX9_keep_3 : decode cX9_keep 3 = .ok (.lconst 1, 1) := by decide +kernel
theorem dX9_keep_4 : decode cX9_keep 4 = .ok (.invokestatic 67, 3) := by decide +kernel
theorem dX9_keep_7 : decode cX9_keep 7 = .ok (.ifCond .ne 6, 3) := by decide +kernel
theorem dX9_keep_10 : decode cX9_keep 10 = .ok (.ldc 205, 2) := by decide +kernel
theorem dX9_keep_12 : decode cX9_keep 12 = .ok (.ireturn, 1) := by decide +kernel
theorem dX9_keep_13 : decode cX9_keep 13 = .ok (.iconst 0, 1) := by decide +kernel
theorem dX9_keep_14 : decode cX9_keep 14 = .ok (.istore_n 2, 1) := by decide +kernel
theorem dX9_keep_15 : decode cX9_keep 15 = .ok (.iload_n 2, 1) := by decide +kernel
theorem dX9_keep_16 : decode cX9_keep 16 = .ok (.bipush 80, 2) := by decide +kernel
theorem dX9_keep_18 : decode cX9_keep 18 = .ok (.if_icmp .ge 26, 3) := by decide +kernel
theorem dX9_keep_21 : decode cX9_keep 21 = .ok (.aload_n 0, 1) := by decide +kernel
theorem dX9_keep_22 : decode cX9_keep 22 = .ok (.getfield 54, 3) := by decide +kernel
theorem dX9_keep_25 : decode cX9_keep 25 = .ok (.bipush 81, 2) := by decide +kernel
theorem dX9_keep_27 : decode cX9_keep 27 = .ok (.iload_n 1, 1) := by decide +kernel
theorem dX9_keep_28 : decode cX9_keep 28 = .ok (.imul, 1) := by decide +kernel
theorem dX9_keep_29 : decode cX9_keep 29 = .ok (.iload_n 2, 1) := by decide +kernel
theorem dX9_keep_30 : decode cX9_keep 30 = .ok (.iadd, 1) := by decide +kernel
theorem dX9_keep_31 : decode cX9_keep 31 = .ok (.aload_n 0, 1) := by decide +kernel
theorem dX9_keep_32 : decode cX9_keep 32 = .ok (.getfield 19, 3) := by decide +kernel
theorem dX9_keep_35 : decode cX9_keep 35 = .ok (.iload_n 2, 1) := by decide +kernel
theorem dX9_keep_36 : decode cX9_keep 36 = .ok (.laload, 1) := by decide +kernel
theorem dX9_keep_37 : decode cX9_keep 37 = .ok (.lastore, 1) := by decide +kernel
theorem dX9_keep_38 : decode cX9_keep 38 = .ok (.iinc 2 1, 3) := by decide +kernel
theorem dX9_keep_41 : decode cX9_keep 41 = .ok (.goto (-26), 3) := by decide +kernel
theorem dX9_keep_44 : decode cX9_keep 44 = .ok (.aload_n 0, 1) := by decide +kernel
theorem dX9_keep_45 : decode cX9_keep 45 = .ok (.getfield 54, 3) := by decide +kernel
theorem dX9_keep_48 : decode cX9_keep 48 = .ok (.bipush 81, 2) := by decide +kernel
theorem dX9_keep_50 : decode cX9_keep 50 = .ok (.iload_n 1, 1) := by decide +kernel
theorem dX9_keep_51 : decode cX9_keep 51 = .ok (.imul, 1) := by decide +kernel
theorem dX9_keep_52 : decode cX9_keep 52 = .ok (.bipush 80, 2) := by decide +kernel
theorem dX9_keep_54 : decode cX9_keep 54 = .ok (.iadd, 1) := by decide +kernel
theorem dX9_keep_55 : decode cX9_keep 55 = .ok (.aload_n 0, 1) := by decide +kernel
theorem dX9_keep_56 : decode cX9_keep 56 = .ok (.getfield 241, 3) := by decide +kernel
theorem dX9_keep_59 : decode cX9_keep 59 = .ok (.lastore, 1) := by decide +kernel
theorem dX9_keep_60 : decode cX9_keep 60 = .ok (.aload_n 0, 1) := by decide +kernel
theorem dX9_keep_61 : decode cX9_keep 61 = .ok (.getfield 57, 3) := by decide +kernel
theorem dX9_keep_64 : decode cX9_keep 64 = .ok (.iload_n 1, 1) := by decide +kernel
theorem dX9_keep_65 : decode cX9_keep 65 = .ok (.iconst 1, 1) := by decide +kernel
theorem dX9_keep_66 : decode cX9_keep 66 = .ok (.bastore, 1) := by decide +kernel
theorem dX9_keep_67 : decode cX9_keep 67 = .ok (.aload_n 0, 1) := by decide +kernel
theorem dX9_keep_68 : decode cX9_keep 68 = .ok (.iconst 0, 1) := by decide +kernel
theorem dX9_keep_69 : decode cX9_keep 69 = .ok (.putfield 193, 3) := by decide +kernel
theorem dX9_keep_72 : decode cX9_keep 72 = .ok (.iconst 1, 1) := by decide +kernel
theorem dX9_keep_73 : decode cX9_keep 73 = .ok (.ireturn, 1) := by decide +kernel
theorem dX9_goBack_0 : decode cX9_goBack 0 = .ok (.iload_n 1, 1) := by decide +kernel
theorem dX9_goBack_1 : decode cX9_goBack 1 = .ok (.i2l, 1) := by decide +kernel
theorem dX9_goBack_2 : decode cX9_goBack 2 = .ok (.lconst 0, 1) := by decide +kernel
theorem dX9_goBack_3 : decode cX9_goBack 3 = .ok (.lconst 1, 1) := by decide +kernel
theorem dX9_goBack_4 : decode cX9_goBack 4 = .ok (.invokestatic 67, 3) := by decide +kernel
theorem dX9_goBack_7 : decode cX9_goBack 7 = .ok (.ifCond .ne 6, 3) := by decide +kernel
theorem dX9_goBack_10 : decode cX9_goBack 10 = .ok (.ldc 205, 2) := by decide +kernel
theorem dX9_goBack_12 : decode cX9_goBack 12 = .ok (.ireturn, 1) := by decide +kernel
theorem dX9_goBack_13 : decode cX9_goBack 13 = .ok (.aload_n 0, 1) := by decide +kernel
theorem dX9_goBack_14 : decode cX9_goBack 14 = .ok (.getfield 57, 3) := by decide +kernel
theorem dX9_goBack_17 : decode cX9_goBack 17 = .ok (.iload_n 1, 1) := by decide +kernel
theorem dX9_goBack_18 : decode cX9_goBack 18 = .ok (.baload, 1) := by decide +kernel
theorem dX9_goBack_19 : decode cX9_goBack 19 = .ok (.ifCond .ne 6, 3) := by decide +kernel
theorem dX9_goBack_22 : decode cX9_goBack 22 = .ok (.ldc 220, 2) := by decide +kernel
theorem dX9_goBack_24 : decode cX9_goBack 24 = .ok (.ireturn, 1) := by decide +kernel
theorem dX9_goBack_25 : decode cX9_goBack 25 = .ok (.iconst 0, 1) := by decide +kernel
theorem dX9_goBack_26 : decode cX9_goBack 26 = .ok (.istore_n 2, 1) := by decide +kernel
theorem dX9_goBack_27 : decode cX9_goBack 27 = .ok (.iload_n 2, 1) := by decide +kernel
theorem dX9_goBack_28 : decode cX9_goBack 28 = .ok (.bipush 80, 2) := by decide +kernel
theorem dX9_goBack_30 : decode cX9_goBack 30 = .ok (.if_icmp .ge 26, 3) := by decide +kernel
theorem dX9_goBack_33 : decode cX9_goBack 33 = .ok (.aload_n 0, 1) := by decide +kernel
theorem dX9_goBack_34 : decode cX9_goBack 34 = .ok (.getfield 19, 3) := by decide +kernel
theorem dX9_goBack_37 : decode cX9_goBack 37 = .ok (.iload_n 2, 1) := by decide +kernel
theorem dX9_goBack_38 : decode cX9_goBack 38 = .ok (.aload_n 0, 1) := by decide +kernel
theorem dX9_goBack_39 : decode cX9_goBack 39 = .ok (.getfield 54, 3) := by decide +kernel
theorem dX9_goBack_42 : decode cX9_goBack 42 = .ok (.bipush 81, 2) := by decide +kernel
theorem dX9_goBack_44 : decode cX9_goBack 44 = .ok (.iload_n 1, 1) := by decide +kernel
theorem dX9_goBack_45 : decode cX9_goBack 45 = .ok (.imul, 1) := by decide +kernel
theorem dX9_goBack_46 : decode cX9_goBack 46 = .ok (.iload_n 2, 1) := by decide +kernel
theorem dX9_goBack_47 : decode cX9_goBack 47 = .ok (.iadd, 1) := by decide +kernel
theorem dX9_goBack_48 : decode cX9_goBack 48 = .ok (.laload, 1) := by decide +kernel
theorem dX9_goBack_49 : decode cX9_goBack 49 = .ok (.lastore, 1) := by decide +kernel
theorem dX9_goBack_50 : decode cX9_goBack 50 = .ok (.iinc 2 1, 3) := by decide +kernel
theorem dX9_goBack_53 : decode cX9_goBack 53 = .ok (.goto (-26), 3) := by decide +kernel
theorem dX9_goBack_56 : decode cX9_goBack 56 = .ok (.aload_n 0, 1) := by decide +kernel
theorem dX9_goBack_57 : decode cX9_goBack 57 = .ok (.aload_n 0, 1) := by decide +kernel
theorem dX9_goBack_58 : decode cX9_goBack 58 = .ok (.getfield 54, 3) := by decide +kernel
theorem dX9_goBack_61 : decode cX9_goBack 61 = .ok (.bipush 81, 2) := by decide +kernel
theorem dX9_goBack_63 : decode cX9_goBack 63 = .ok (.iload_n 1, 1) := by decide +kernel
theorem dX9_goBack_64 : decode cX9_goBack 64 = .ok (.imul, 1) := by decide +kernel
theorem dX9_goBack_65 : decode cX9_goBack 65 = .ok (.bipush 80, 2) := by decide +kernel
theorem dX9_goBack_67 : decode cX9_goBack 67 = .ok (.iadd, 1) := by decide +kernel
theorem dX9_goBack_68 : decode cX9_goBack 68 = .ok (.laload, 1) := by decide +kernel
theorem dX9_goBack_69 : decode cX9_goBack 69 = .ok (.putfield 241, 3) := by decide +kernel
theorem dX9_goBack_72 : decode cX9_goBack 72 = .ok (.aload_n 0, 1) := by decide +kernel
theorem dX9_goBack_73 : decode cX9_goBack 73 = .ok (.iconst 0, 1) := by decide +kernel
theorem dX9_goBack_74 : decode cX9_goBack 74 = .ok (.putfield 193, 3) := by decide +kernel
theorem dX9_goBack_77 : decode cX9_goBack 77 = .ok (.iconst 1, 1) := by decide +kernel
theorem dX9_goBack_78 : decode cX9_goBack 78 = .ok (.ireturn, 1) := by decide +kernel
theorem dJ6_bitCount_0f7a4_0 : decode cJ6_bitCount_0f7a4 0 = .ok (.iload_n 0, 1) := by decide +kernel
theorem dJ6_bitCount_0f7a4_1 : decode cJ6_bitCount_0f7a4 1 = .ok (.iload_n 0, 1) := by decide +kernel
theorem dJ6_bitCount_0f7a4_2 : decode cJ6_bitCount_0f7a4 2 = .ok (.iconst 1, 1) := by decide +kernel
theorem dJ6_bitCount_0f7a4_3 : decode cJ6_bitCount_0f7a4 3 = .ok (.iushr, 1) := by decide +kernel
theorem dJ6_bitCount_0f7a4_4 : decode cJ6_bitCount_0f7a4 4 = .ok (.ldc_w 265, 3) := by decide +kernel
theorem dJ6_bitCount_0f7a4_7 : decode cJ6_bitCount_0f7a4 7 = .ok (.iand, 1) := by decide +kernel
theorem dJ6_bitCount_0f7a4_8 : decode cJ6_bitCount_0f7a4 8 = .ok (.isub, 1) := by decide +kernel
theorem dJ6_bitCount_0f7a4_9 : decode cJ6_bitCount_0f7a4 9 = .ok (.istore_n 0, 1) := by decide +kernel
theorem dJ6_bitCount_0f7a4_10 : decode cJ6_bitCount_0f7a4 10 = .ok (.iload_n 0, 1) := by decide +kernel
theorem dJ6_bitCount_0f7a4_11 : decode cJ6_bitCount_0f7a4 11 = .ok (.ldc_w 266, 3) := by decide +kernel
theorem dJ6_bitCount_0f7a4_14 : decode cJ6_bitCount_0f7a4 14 = .ok (.iand, 1) := by decide +kernel
theorem dJ6_bitCount_0f7a4_15 : decode cJ6_bitCount_0f7a4 15 = .ok (.iload_n 0, 1) := by decide +kernel
theorem dJ6_bitCount_0f7a4_16 : decode cJ6_bitCount_0f7a4 16 = .ok (.iconst 2, 1) := by decide +kernel
theorem dJ6_bitCount_0f7a4_17 : decode cJ6_bitCount_0f7a4 17 = .ok (.iushr, 1) := by decide +kernel
theorem dJ6_bitCount_0f7a4_18 : decode cJ6_bitCount_0f7a4 18 = .ok (.ldc_w 266, 3) := by decide +kernel
theorem dJ6_bitCount_0f7a4_21 : decode cJ6_bitCount_0f7a4 21 = .ok (.iand, 1) := by decide +kernel
theorem dJ6_bitCount_0f7a4_22 : decode cJ6_bitCount_0f7a4 22 = .ok (.iadd, 1) := by decide +kernel
theorem dJ6_bitCount_0f7a4_23 : decode cJ6_bitCount_0f7a4 23 = .ok (.istore_n 0, 1) := by decide +kernel
theorem dJ6_bitCount_0f7a4_24 : decode cJ6_bitCount_0f7a4 24 = .ok (.iload_n 0, 1) := by decide +kernel
theorem dJ6_bitCount_0f7a4_25 : decode cJ6_bitCount_0f7a4 25 = .ok (.iload_n 0, 1) := by decide +kernel
theorem dJ6_bitCount_0f7a4_26 : decode cJ6_bitCount_0f7a4 26 = .ok (.iconst 4, 1) := by decide +kernel
theorem dJ6_bitCount_0f7a4_27 : decode cJ6_bitCount_0f7a4 27 = .ok (.iushr, 1) := by decide +kernel
theorem dJ6_bitCount_0f7a4_28 : decode cJ6_bitCount_0f7a4 28 = .ok (.iadd, 1) := by decide +kernel
theorem dJ6_bitCount_0f7a4_29 : decode cJ6_bitCount_0f7a4 29 = .ok (.ldc_w 267, 3) := by decide +kernel
theorem dJ6_bitCount_0f7a4_32 : decode cJ6_bitCount_0f7a4 32 = .ok (.iand, 1) := by decide +kernel
theorem dJ6_bitCount_0f7a4_33 : decode cJ6_bitCount_0f7a4 33 = .ok (.istore_n 0, 1) := by decide +kernel
theorem dJ6_bitCount_0f7a4_34 : decode cJ6_bitCount_0f7a4 34 = .ok (.iload_n 0, 1) := by decide +kernel
theorem dJ6_bitCount_0f7a4_35 : decode cJ6_bitCount_0f7a4 35 = .ok (.iload_n 0, 1) := by decide +kernel
theorem dJ6_bitCount_0f7a4_36 : decode cJ6_bitCount_0f7a4 36 = .ok (.bipush 8, 2) := by decide +kernel
theorem dJ6_bitCount_0f7a4_38 : decode cJ6_bitCount_0f7a4 38 = .ok (.iushr, 1) := by decide +kernel
theorem dJ6_bitCount_0f7a4_39 : decode cJ6_bitCount_0f7a4 39 = .ok (.iadd, 1) := by decide +kernel
theorem dJ6_bitCount_0f7a4_40 : decode cJ6_bitCount_0f7a4 40 = .ok (.istore_n 0, 1) := by decide +kernel
theorem dJ6_bitCount_0f7a4_41 : decode cJ6_bitCount_0f7a4 41 = .ok (.iload_n 0, 1) := by decide +kernel
theorem dJ6_bitCount_0f7a4_42 : decode cJ6_bitCount_0f7a4 42 = .ok (.iload_n 0, 1) := by decide +kernel
theorem dJ6_bitCount_0f7a4_43 : decode cJ6_bitCount_0f7a4 43 = .ok (.bipush 16, 2) := by decide +kernel
theorem dJ6_bitCount_0f7a4_45 : decode cJ6_bitCount_0f7a4 45 = .ok (.iushr, 1) := by decide +kernel
theorem dJ6_bitCount_0f7a4_46 : decode cJ6_bitCount_0f7a4 46 = .ok (.iadd, 1) := by decide +kernel
theorem dJ6_bitCount_0f7a4_47 : decode cJ6_bitCount_0f7a4 47 = .ok (.istore_n 0, 1) := by decide +kernel
theorem dJ6_bitCount_0f7a4_48 : decode cJ6_bitCount_0f7a4 48 = .ok (.iload_n 0, 1) := by decide +kernel
theorem dJ6_bitCount_0f7a4_49 : decode cJ6_bitCount_0f7a4 49 = .ok (.bipush 63, 2) := by decide +kernel
theorem dJ6_bitCount_0f7a4_51 : decode cJ6_bitCount_0f7a4 51 = .ok (.iand, 1) := by decide +kernel
theorem dJ6_bitCount_0f7a4_52 : decode cJ6_bitCount_0f7a4 52 = .ok (.ireturn, 1) := by decide +kernel
theorem dJ13_bitCount_95d88_0 : decode cJ13_bitCount_95d88 0 = .ok (.lload_n 0, 1) := by decide +kernel
theorem dJ13_bitCount_95d88_1 : decode cJ13_bitCount_95d88 1 = .ok (.lload_n 0, 1) := by decide +kernel
theorem dJ13_bitCount_95d88_2 : decode cJ13_bitCount_95d88 2 = .ok (.iconst 1, 1) := by decide +kernel
theorem dJ13_bitCount_95d88_3 : decode cJ13_bitCount_95d88 3 = .ok (.lushr, 1) := by decide +kernel
theorem dJ13_bitCount_95d88_4 : decode cJ13_bitCount_95d88 4 = .ok (.ldc2_w 314, 3) := by decide +kernel
theorem dJ13_bitCount_95d88_7 : decode cJ13_bitCount_95d88 7 = .ok (.land, 1) := by decide +kernel
theorem dJ13_bitCount_95d88_8 : decode cJ13_bitCount_95d88 8 = .ok (.lsub, 1) := by decide +kernel
theorem dJ13_bitCount_95d88_9 : decode cJ13_bitCount_95d88 9 = .ok (.lstore_n 0, 1) := by decide +kernel
theorem dJ13_bitCount_95d88_10 : decode cJ13_bitCount_95d88 10 = .ok (.lload_n 0, 1) := by decide +kernel
theorem dJ13_bitCount_95d88_11 : decode cJ13_bitCount_95d88 11 = .ok (.ldc2_w 316, 3) := by decide +kernel
theorem dJ13_bitCount_95d88_14 : decode cJ13_bitCount_95d88 14 = .ok (.land, 1) := by decide +kernel
theorem dJ13_bitCount_95d88_15 : decode cJ13_bitCount_95d88 15 = .ok (.lload_n 0, 1) := by decide +kernel
theorem dJ13_bitCount_95d88_16 : decode cJ13_bitCount_95d88 16 = .ok (.iconst 2, 1) := by decide +kernel
theorem dJ13_bitCount_95d88_17 : decode cJ13_bitCount_95d88 17 = .ok (.lushr, 1) := by decide +kernel
theorem dJ13_bitCount_95d88_18 : decode cJ13_bitCount_95d88 18 = .ok (.ldc2_w 316, 3) := by decide +kernel
theorem dJ13_bitCount_95d88_21 : decode cJ13_bitCount_95d88 21 = .ok (.land, 1) := by decide +kernel
theorem dJ13_bitCount_95d88_22 : decode cJ13_bitCount_95d88 22 = .ok (.ladd, 1) := by decide +kernel
theorem dJ13_bitCount_95d88_23 : decode cJ13_bitCount_95d88 23 = .ok (.lstore_n 0, 1) := by decide +kernel
theorem dJ13_bitCount_95d88_24 : decode cJ13_bitCount_95d88 24 = .ok (.lload_n 0, 1) := by decide +kernel
theorem dJ13_bitCount_95d88_25 : decode cJ13_bitCount_95d88 25 = .ok (.lload_n 0, 1) := by decide +kernel
theorem dJ13_bitCount_95d88_26 : decode cJ13_bitCount_95d88 26 = .ok (.iconst 4, 1) := by decide +kernel
theorem dJ13_bitCount_95d88_27 : decode cJ13_bitCount_95d88 27 = .ok (.lushr, 1) := by decide +kernel
theorem dJ13_bitCount_95d88_28 : decode cJ13_bitCount_95d88 28 = .ok (.ladd, 1) := by decide +kernel
theorem dJ13_bitCount_95d88_29 : decode cJ13_bitCount_95d88 29 = .ok (.ldc2_w 318, 3) := by decide +kernel
theorem dJ13_bitCount_95d88_32 : decode cJ13_bitCount_95d88 32 = .ok (.land, 1) := by decide +kernel
theorem dJ13_bitCount_95d88_33 : decode cJ13_bitCount_95d88 33 = .ok (.lstore_n 0, 1) := by decide +kernel
theorem dJ13_bitCount_95d88_34 : decode cJ13_bitCount_95d88 34 = .ok (.lload_n 0, 1) := by decide +kernel
theorem dJ13_bitCount_95d88_35 : decode cJ13_bitCount_95d88 35 = .ok (.lload_n 0, 1) := by decide +kernel
theorem dJ13_bitCount_95d88_36 : decode cJ13_bitCount_95d88 36 = .ok (.bipush 8, 2) := by decide +kernel
theorem dJ13_bitCount_95d88_38 : decode cJ13_bitCount_95d88 38 = .ok (.lushr, 1) := by decide +kernel
theorem dJ13_bitCount_95d88_39 : decode cJ13_bitCount_95d88 39 = .ok (.ladd, 1) := by decide +kernel
theorem dJ13_bitCount_95d88_40 : decode cJ13_bitCount_95d88 40 = .ok (.lstore_n 0, 1) := by decide +kernel
theorem dJ13_bitCount_95d88_41 : decode cJ13_bitCount_95d88 41 = .ok (.lload_n 0, 1) := by decide +kernel
theorem dJ13_bitCount_95d88_42 : decode cJ13_bitCount_95d88 42 = .ok (.lload_n 0, 1) := by decide +kernel
theorem dJ13_bitCount_95d88_43 : decode cJ13_bitCount_95d88 43 = .ok (.bipush 16, 2) := by decide +kernel
theorem dJ13_bitCount_95d88_45 : decode cJ13_bitCount_95d88 45 = .ok (.lushr, 1) := by decide +kernel
theorem dJ13_bitCount_95d88_46 : decode cJ13_bitCount_95d88 46 = .ok (.ladd, 1) := by decide +kernel
theorem dJ13_bitCount_95d88_47 : decode cJ13_bitCount_95d88 47 = .ok (.lstore_n 0, 1) := by decide +kernel
theorem dJ13_bitCount_95d88_48 : decode cJ13_bitCount_95d88 48 = .ok (.lload_n 0, 1) := by decide +kernel
theorem dJ13_bitCount_95d88_49 : decode cJ13_bitCount_95d88 49 = .ok (.lload_n 0, 1) := by decide +kernel
theorem dJ13_bitCount_95d88_50 : decode cJ13_bitCount_95d88 50 = .ok (.bipush 32, 2) := by decide +kernel
theorem dJ13_bitCount_95d88_52 : decode cJ13_bitCount_95d88 52 = .ok (.lushr, 1) := by decide +kernel
theorem dJ13_bitCount_95d88_53 : decode cJ13_bitCount_95d88 53 = .ok (.ladd, 1) := by decide +kernel
theorem dJ13_bitCount_95d88_54 : decode cJ13_bitCount_95d88 54 = .ok (.lstore_n 0, 1) := by decide +kernel
theorem dJ13_bitCount_95d88_55 : decode cJ13_bitCount_95d88 55 = .ok (.lload_n 0, 1) := by decide +kernel
theorem dJ13_bitCount_95d88_56 : decode cJ13_bitCount_95d88 56 = .ok (.l2i, 1) := by decide +kernel
theorem dJ13_bitCount_95d88_57 : decode cJ13_bitCount_95d88 57 = .ok (.bipush 127, 2) := by decide +kernel
theorem dJ13_bitCount_95d88_59 : decode cJ13_bitCount_95d88 59 = .ok (.iand, 1) := by decide +kernel
theorem dJ13_bitCount_95d88_60 : decode cJ13_bitCount_95d88 60 = .ok (.ireturn, 1) := by decide +kernel
theorem dJ9_abs_0f7a4_0 : decode cJ9_abs_0f7a4 0 = .ok (.iload_n 0, 1) := by decide +kernel
theorem dJ9_abs_0f7a4_1 : decode cJ9_abs_0f7a4 1 = .ok (.ifCond .ge 8, 3) := by decide +kernel
theorem dJ9_abs_0f7a4_4 : decode cJ9_abs_0f7a4 4 = .ok (.iload_n 0, 1) := by decide +kernel
theorem dJ9_abs_0f7a4_5 : decode cJ9_abs_0f7a4 5 = .ok (.ineg, 1) := by decide +kernel
theorem dJ9_abs_0f7a4_6 : decode cJ9_abs_0f7a4 6 = .ok (.goto 4, 3) := by decide +kernel
theorem dJ9_abs_0f7a4_9 : decode cJ9_abs_0f7a4 9 = .ok (.iload_n 0, 1) := by decide +kernel
theorem dJ9_abs_0f7a4_10 : decode cJ9_abs_0f7a4 10 = .ok (.ireturn, 1) := by decide +kernel
theorem dJ9_max_7cf53_0 : decode cJ9_max_7cf53 0 = .ok (.iload_n 0, 1) := by decide +kernel
theorem dJ9_max_7cf53_1 : decode cJ9_max_7cf53 1 = .ok (.iload_n 1, 1) := by decide +kernel
theorem dJ9_max_7cf53_2 : decode cJ9_max_7cf53 2 = .ok (.if_icmp .lt 7, 3) := by decide +kernel
theorem dJ9_max_7cf53_5 : decode cJ9_max_7cf53 5 = .ok (.iload_n 0, 1) := by decide +kernel
theorem dJ9_max_7cf53_6 : decode cJ9_max_7cf53 6 = .ok (.goto 4, 3) := by decide +kernel
theorem dJ9_max_7cf53_9 : decode cJ9_max_7cf53 9 = .ok (.iload_n 1, 1) := by decide +kernel
theorem dJ9_max_7cf53_10 : decode cJ9_max_7cf53 10 = .ok (.ireturn, 1) := by decide +kernel
theorem dJ9_min_7cf53_0 : decode cJ9_min_7cf53 0 = .ok (.iload_n 0, 1) := by decide +kernel
theorem dJ9_min_7cf53_1 : decode cJ9_min_7cf53 1 = .ok (.iload_n 1, 1) := by decide +kernel
theorem dJ9_min_7cf53_2 : decode cJ9_min_7cf53 2 = .ok (.if_icmp .gt 7, 3) := by decide +kernel
theorem dJ9_min_7cf53_5 : decode cJ9_min_7cf53 5 = .ok (.iload_n 0, 1) := by decide +kernel
theorem dJ9_min_7cf53_6 : decode cJ9_min_7cf53 6 = .ok (.goto 4, 3) := by decide +kernel
theorem dJ9_min_7cf53_9 : decode cJ9_min_7cf53 9 = .ok (.iload_n 1, 1) := by decide +kernel
theorem dJ9_min_7cf53_10 : decode cJ9_min_7cf53 10 = .ok (.ireturn, 1) := by decide +kernel
theorem dJ7_fill_53178_0 : decode cJ7_fill_53178 0 = .ok (.iconst 0, 1) := by decide +kernel
theorem dJ7_fill_53178_1 : decode cJ7_fill_53178 1 = .ok (.istore_n 2, 1) := by decide +kernel
theorem dJ7_fill_53178_2 : decode cJ7_fill_53178 2 = .ok (.aload_n 0, 1) := by decide +kernel
theorem dJ7_fill_53178_3 : decode cJ7_fill_53178 3 = .ok (.arraylength, 1) := by decide +kernel
theorem dJ7_fill_53178_4 : decode cJ7_fill_53178 4 = .ok (.istore_n 3, 1) := by decide +kernel
theorem dJ7_fill_53178_5 : decode cJ7_fill_53178 5 = .ok (.iload_n 2, 1) := by decide +kernel
theorem dJ7_fill_53178_6 : decode cJ7_fill_53178 6 = .ok (.iload_n 3, 1) := by decide +kernel
theorem dJ7_fill_53178_7 : decode cJ7_fill_53178 7 = .ok (.if_icmp .ge 13, 3) := by decide +kernel
theorem dJ7_fill_53178_10 : decode cJ7_fill_53178 10 = .ok (.aload_n 0, 1) := by decide +kernel
theorem dJ7_fill_53178_11 : decode cJ7_fill_53178 11 = .ok (.iload_n 2, 1) := by decide +kernel
theorem dJ7_fill_53178_12 : decode cJ7_fill_53178 12 = .ok (.iload_n 1, 1) := by decide +kernel
theorem dJ7_fill_53178_13 : decode cJ7_fill_53178 13 = .ok (.iastore, 1) := by decide +kernel
theorem dJ7_fill_53178_14 : decode cJ7_fill_53178 14 = .ok (.iinc 2 1, 3) := by decide +kernel
theorem dJ7_fill_53178_17 : decode cJ7_fill_53178 17 = .ok (.goto (-12), 3) := by decide +kernel
theorem dJ7_fill_53178_20 : decode cJ7_fill_53178 20 = .ok (.return_, 1) := by decide +kernel
theorem dL_law_0 : decode cL_law 0 = .ok (.new 7, 3) := by decide +kernel
theorem dL_law_3 : decode cL_law 3 = .ok (.dup, 1) := by decide +kernel
theorem dL_law_4 : decode cL_law 4 = .ok (.invokespecial 9, 3) := by decide +kernel
theorem dL_law_7 : decode cL_law 7 = .ok (.astore_n 1, 1) := by decide +kernel
theorem dL_law_8 : decode cL_law 8 = .ok (.new 10, 3) := by decide +kernel
theorem dL_law_11 : decode cL_law 11 = .ok (.dup, 1) := by decide +kernel
theorem dL_law_12 : decode cL_law 12 = .ok (.invokespecial 12, 3) := by decide +kernel
theorem dL_law_15 : decode cL_law 15 = .ok (.astore_n 2, 1) := by decide +kernel
theorem dL_law_16 : decode cL_law 16 = .ok (.iconst 0, 1) := by decide +kernel
theorem dL_law_17 : decode cL_law 17 = .ok (.istore_n 3, 1) := by decide +kernel
theorem dL_law_18 : decode cL_law 18 = .ok (.iload_n 3, 1) := by decide +kernel
theorem dL_law_19 : decode cL_law 19 = .ok (.aload_n 0, 1) := by decide +kernel
theorem dL_law_20 : decode cL_law 20 = .ok (.arraylength, 1) := by decide +kernel
theorem dL_law_21 : decode cL_law 21 = .ok (.iconst 3, 1) := by decide +kernel
theorem dL_law_22 : decode cL_law 22 = .ok (.isub, 1) := by decide +kernel
theorem dL_law_23 : decode cL_law 23 = .ok (.if_icmp .gt 1098, 3) := by decide +kernel
theorem dL_law_26 : decode cL_law 26 = .ok (.aload_n 0, 1) := by decide +kernel
theorem dL_law_27 : decode cL_law 27 = .ok (.iload_n 3, 1) := by decide +kernel
theorem dL_law_28 : decode cL_law 28 = .ok (.iaload, 1) := by decide +kernel
theorem dL_law_29 : decode cL_law 29 = .ok (.bipush 63, 2) := by decide +kernel
theorem dL_law_31 : decode cL_law 31 = .ok (.iand, 1) := by decide +kernel
theorem dL_law_32 : decode cL_law 32 = .ok (.tableswitch 1083 0 36 #[164, 187, 200, 213, 236, 269, 302, 325, 348, 397, 430, 479, 528, 561, 574, 597, 620, 633, 656, 679, 712, 725, 758, 781, 804, 817, 840, 873, 896, 909, 932, 955, 988, 1001, 1014, 1037, 1060], 164) := by decide +kernel
theorem dL_law_196 : decode cL_law 196 = .ok (.aload_n 1, 1) := by decide +kernel
theorem dL_law_197 : decode cL_law 197 = .ok (.aload_n 0, 1) := by decide +kernel
theorem dL_law_198 : decode cL_law 198 = .ok (.iload_n 3, 1) := by decide +kernel
theorem dL_law_199 : decode cL_law 199 = .ok (.iconst 1, 1) := by decide +kernel
theorem dL_law_200 : decode cL_law 200 = .ok (.iadd, 1) := by decide +kernel
theorem dL_law_201 : decode cL_law 201 = .ok (.iaload, 1) := by decide +kernel
theorem dL_law_202 : decode cL_law 202 = .ok (.invokevirtual 13, 3) := by decide +kernel
theorem dL_law_205 : decode cL_law 205 = .ok (.aload_n 2, 1) := by decide +kernel
theorem dL_law_206 : decode cL_law 206 = .ok (.aload_n 0, 1) := by decide +kernel
theorem dL_law_207 : decode cL_law 207 = .ok (.iload_n 3, 1) := by decide +kernel
theorem dL_law_208 : decode cL_law 208 = .ok (.iconst 1, 1) := by decide +kernel
theorem dL_law_209 : decode cL_law 209 = .ok (.iadd, 1) := by decide +kernel
theorem dL_law_210 : decode cL_law 210 = .ok (.iaload, 1) := by decide +kernel
theorem dL_law_211 : decode cL_law 211 = .ok (.invokevirtual 17, 3) := by decide +kernel
theorem dL_law_214 : decode cL_law 214 = .ok (.if_icmp .eq 901, 3) := by decide +kernel
theorem dL_law_217 : decode cL_law 217 = .ok (.iconst 0, 1) := by decide +kernel
theorem dL_law_218 : decode cL_law 218 = .ok (.ireturn, 1) := by decide +kernel
theorem dL_law_219 : decode cL_law 219 = .ok (.aload_n 1, 1) := by decide +kernel
theorem dL_law_220 : decode cL_law 220 = .ok (.invokevirtual 18, 3) := by decide +kernel
theorem dL_law_223 : decode cL_law 223 = .ok (.aload_n 2, 1) := by decide +kernel
theorem dL_law_224 : decode cL_law 224 = .ok (.invokevirtual 22, 3) := by decide +kernel
theorem dL_law_227 : decode cL_law 227 = .ok (.if_icmp .eq 888, 3) := by decide +kernel
theorem dL_law_230 : decode cL_law 230 = .ok (.iconst 0, 1) := by decide +kernel
theorem dL_law_231 : decode cL_law 231 = .ok (.ireturn, 1) := by decide +kernel
theorem dL_law_232 : decode cL_law 232 = .ok (.aload_n 1, 1) := by decide +kernel
theorem dL_law_233 : decode cL_law 233 = .ok (.invokevirtual 23, 3) := by decide +kernel
theorem dL_law_236 : decode cL_law 236 = .ok (.aload_n 2, 1) := by decide +kernel
theorem dL_law_237 : decode cL_law 237 = .ok (.invokevirtual 26, 3) := by decide +kernel
theorem dL_law_240 : decode cL_law 240 = .ok (.if_icmp .eq 875, 3) := by decide +kernel
theorem dL_law_243 : decode cL_law 243 = .ok (.iconst 0, 1) := by decide +kernel
theorem dL_law_244 : decode cL_law 244 = .ok (.ireturn, 1) := by decide +kernel
theorem dL_law_245 : decode cL_law 245 = .ok (.aload_n 1, 1) := by decide +kernel
theorem dL_law_246 : decode cL_law 246 = .ok (.aload_n 0, 1) := by decide +kernel
theorem dL_law_247 : decode cL_law 247 = .ok (.iload_n 3, 1) := by decide +kernel
theorem dL_law_248 : decode cL_law 248 = .ok (.iconst 1, 1) := by decide +kernel
theorem dL_law_249 : decode cL_law 249 = .ok (.iadd, 1) := by decide +kernel
theorem dL_law_250 : decode cL_law 250 = .ok (.iaload, 1) := by decide +kernel
theorem dL_law_251 : decode cL_law 251 = .ok (.invokevirtual 27, 3) := by decide +kernel
theorem dL_law_254 : decode cL_law 254 = .ok (.aload_n 2, 1) := by decide +kernel
theorem dL_law_255 : decode cL_law 255 = .ok (.aload_n 0, 1) := by decide +kernel
theorem dL_law_256 : decode cL_law 256 = .ok (.iload_n 3, 1) := by decide +kernel
theorem dL_law_257 : decode cL_law 257 = .ok (.iconst 1, 1) := by decide +kernel
theorem dL_law_258 : decode cL_law 258 = .ok (.iadd, 1) := by decide +kernel
theorem dL_law_259 : decode cL_law 259 = .ok (.iaload, 1) := by decide +kernel
theorem dL_law_260 : decode cL_law 260 = .ok (.invokevirtual 30, 3) := by decide +kernel
theorem dL_law_263 : decode cL_law 263 = .ok (.if_icmp .eq 852, 3) := by decide +kernel
theorem dL_law_266 : decode cL_law 266 = .ok (.iconst 0, 1) := by decide +kernel
theorem dL_law_267 : decode cL_law 267 = .ok (.ireturn, 1) := by decide +kernel
theorem dL_law_268 : decode cL_law 268 = .ok (.aload_n 1, 1) := by decide +kernel
theorem dL_law_269 : decode cL_law 269 = .ok (.aload_n 0, 1) := by decide +kernel
theorem dL_law_270 : decode cL_law 270 = .ok (.iload_n 3, 1) := by decide +kernel
theorem dL_law_271 : decode cL_law 271 = .ok (.iconst 1, 1) := by decide +kernel
theorem dL_law_272 : decode cL_law 272 = .ok (.iadd, 1) := by decide +kernel
theorem dL_law_273 : decode cL_law 273 = .ok (.iaload, 1) := by decide +kernel
theorem dL_law_274 : decode cL_law 274 = .ok (.aload_n 0, 1) := by decide +kernel
theorem dL_law_275 : decode cL_law 275 = .ok (.iload_n 3, 1) := by decide +kernel
theorem dL_law_276 : decode cL_law 276 = .ok (.iconst 2, 1) := by decide +kernel
theorem dL_law_277 : decode cL_law 277 = .ok (.iadd, 1) := by decide +kernel
theorem dL_law_278 : decode cL_law 278 = .ok (.iaload, 1) := by decide +kernel
theorem dL_law_279 : decode cL_law 279 = .ok (.invokevirtual 31, 3) := by decide +kernel
theorem dL_law_282 : decode cL_law 282 = .ok (.aload_n 2, 1) := by decide +kernel
theorem dL_law_283 : decode cL_law 283 = .ok (.aload_n 0, 1) := by decide +kernel
theorem dL_law_284 : decode cL_law 284 = .ok (.iload_n 3, 1) := by decide +kernel
theorem dL_law_285 : decode cL_law 285 = .ok (.iconst 1, 1) := by decide +kernel
theorem dL_law_286 : decode cL_law 286 = .ok (.iadd, 1) := by decide +kernel
theorem dL_law_287 : decode cL_law 287 = .ok (.iaload, 1) := by decide +kernel
theorem dL_law_288 : decode cL_law 288 = .ok (.aload_n 0, 1) := by decide +kernel
theorem dL_law_289 : decode cL_law 289 = .ok (.iload_n 3, 1) := by decide +kernel
theorem dL_law_290 : decode cL_law 290 = .ok (.iconst 2, 1) := by decide +kernel
theorem dL_law_291 : decode cL_law 291 = .ok (.iadd, 1) := by decide +kernel
theorem dL_law_292 : decode cL_law 292 = .ok (.iaload, 1) := by decide +kernel
theorem dL_law_293 : decode cL_law 293 = .ok (.invokevirtual 35, 3) := by decide +kernel
theorem dL_law_296 : decode cL_law 296 = .ok (.if_icmp .eq 819, 3) := by decide +kernel
theorem dL_law_299 : decode cL_law 299 = .ok (.iconst 0, 1) := by decide +kernel
theorem dL_law_300 : decode cL_law 300 = .ok (.ireturn, 1) := by decide +kernel
theorem dL_law_301 : decode cL_law 301 = .ok (.aload_n 1, 1) := by decide +kernel
theorem dL_law_302 : decode cL_law 302 = .ok (.aload_n 0, 1) := by decide +kernel
theorem dL_law_303 : decode cL_law 303 = .ok (.iload_n 3, 1) := by decide +kernel
theorem dL_law_304 : decode cL_law 304 = .ok (.iconst 1, 1) := by decide +kernel
theorem dL_law_305 : decode cL_law 305 = .ok (.iadd, 1) := by decide +kernel
theorem dL_law_306 : decode cL_law 306 = .ok (.iaload, 1) := by decide +kernel
theorem dL_law_307 : decode cL_law 307 = .ok (.aload_n 0, 1) := by decide +kernel
theorem dL_law_308 : decode cL_law 308 = .ok (.iload_n 3, 1) := by decide +kernel
theorem dL_law_309 : decode cL_law 309 = .ok (.iconst 2, 1) := by decide +kernel
theorem dL_law_310 : decode cL_law 310 = .ok (.iadd, 1) := by decide +kernel
theorem dL_law_311 : decode cL_law 311 = .ok (.iaload, 1) := by decide +kernel
theorem dL_law_312 : decode cL_law 312 = .ok (.invokevirtual 36, 3) := by decide +kernel
theorem dL_law_315 : decode cL_law 315 = .ok (.aload_n 2, 1) := by decide +kernel
theorem dL_law_316 : decode cL_law 316 = .ok (.aload_n 0, 1) := by decide +kernel
theorem dL_law_317 : decode cL_law 317 = .ok (.iload_n 3, 1) := by decide +kernel
theorem dL_law_318 : decode cL_law 318 = .ok (.iconst 1, 1) := by decide +kernel
theorem dL_law_319 : decode cL_law 319 = .ok (.iadd, 1) := by decide +kernel
theorem dL_law_320 : decode cL_law 320 = .ok (.iaload, 1) := by decide +kernel
theorem dL_law_321 : decode cL_law 321 = .ok (.aload_n 0, 1) := by decide +kernel
theorem dL_law_322 : decode cL_law 322 = .ok (.iload_n 3, 1) := by decide +kernel
theorem dL_law_323 : decode cL_law 323 = .ok (.iconst 2, 1) := by decide +kernel
theorem dL_law_324 : decode cL_law 324 = .ok (.iadd, 1) := by decide +kernel
theorem dL_law_325 : decode cL_law 325 = .ok (.iaload, 1) := by decide +kernel
theorem dL_law_326 : decode cL_law 326 = .ok (.invokevirtual 39, 3) := by decide +kernel
theorem dL_law_329 : decode cL_law 329 = .ok (.if_icmp .eq 786, 3) := by decide +kernel
theorem dL_law_332 : decode cL_law 332 = .ok (.iconst 0, 1) := by decide +kernel
theorem dL_law_333 : decode cL_law 333 = .ok (.ireturn, 1) := by decide +kernel
theorem dL_law_334 : decode cL_law 334 = .ok (.aload_n 1, 1) := by decide +kernel
theorem dL_law_335 : decode cL_law 335 = .ok (.aload_n 0, 1) := by decide +kernel
theorem dL_law_336 : decode cL_law 336 = .ok (.iload_n 3, 1) := by decide +kernel
theorem dL_law_337 : decode cL_law 337 = .ok (.iconst 1, 1) := by decide +kernel
theorem dL_law_338 : decode cL_law 338 = .ok (.iadd, 1) := by decide +kernel
theorem dL_law_339 : decode cL_law 339 = .ok (.iaload, 1) := by decide +kernel
theorem dL_law_340 : decode cL_law 340 = .ok (.invokevirtual 40, 3) := by decide +kernel
theorem dL_law_343 : decode cL_law 343 = .ok (.aload_n 2, 1) := by decide +kernel
theorem dL_law_344 : decode cL_law 344 = .ok (.aload_n 0, 1) := by decide +kernel
theorem dL_law_345 : decode cL_law 345 = .ok (.iload_n 3, 1) := by decide +kernel
theorem dL_law_346 : decode cL_law 346 = .ok (.iconst 1, 1) := by decide +kernel
theorem dL_law_347 : decode cL_law 347 = .ok (.iadd, 1) := by decide +kernel
theorem dL_law_348 : decode cL_law 348 = .ok (.iaload, 1) := by decide +kernel
theorem dL_law_349 : decode cL_law 349 = .ok (.invokevirtual 43, 3) := by decide +kernel
theorem dL_law_352 : decode cL_law 352 = .ok (.if_icmp .eq 763, 3) := by decide +kernel
theorem dL_law_355 : decode cL_law 355 = .ok (.iconst 0, 1) := by decide +kernel
theorem dL_law_356 : decode cL_law 356 = .ok (.ireturn, 1) := by decide +kernel
theorem dL_law_357 : decode cL_law 357 = .ok (.aload_n 1, 1) := by decide +kernel
theorem dL_law_358 : decode cL_law 358 = .ok (.aload_n 0, 1) := by decide +kernel
theorem dL_law_359 : decode cL_law 359 = .ok (.iload_n 3, 1) := by decide +kernel
theorem dL_law_360 : decode cL_law 360 = .ok (.iconst 1, 1) := by decide +kernel
theorem dL_law_361 : decode cL_law 361 = .ok (.iadd, 1) := by decide +kernel
theorem dL_law_362 : decode cL_law 362 = .ok (.iaload, 1) := by decide +kernel
theorem dL_law_363 : decode cL_law 363 = .ok (.invokevirtual 44, 3) := by decide +kernel
theorem dL_law_366 : decode cL_law 366 = .ok (.aload_n 2, 1) := by decide +kernel
theorem dL_law_367 : decode cL_law 367 = .ok (.aload_n 0, 1) := by decide +kernel
theorem dL_law_368 : decode cL_law 368 = .ok (.iload_n 3, 1) := by decide +kernel
theorem dL_law_369 : decode cL_law 369 = .ok (.iconst 1, 1) := by decide +kernel
theorem dL_law_370 : decode cL_law 370 = .ok (.iadd, 1) := by decide +kernel
theorem dL_law_371 : decode cL_law 371 = .ok (.iaload, 1) := by decide +kernel
theorem dL_law_372 : decode cL_law 372 = .ok (.invokevirtual 47, 3) := by decide +kernel
theorem dL_law_375 : decode cL_law 375 = .ok (.if_icmp .eq 740, 3) := by decide +kernel
theorem dL_law_378 : decode cL_law 378 = .ok (.iconst 0, 1) := by decide +kernel
theorem dL_law_379 : decode cL_law 379 = .ok (.ireturn, 1) := by decide +kernel
theorem dL_law_380 : decode cL_law 380 = .ok (.aload_n 1, 1) := by decide +kernel
theorem dL_law_381 : decode cL_law 381 = .ok (.aload_n 0, 1) := by decide +kernel
theorem dL_law_382 : decode cL_law 382 = .ok (.iload_n 3, 1) := by decide +kernel
theorem dL_law_383 : decode cL_law 383 = .ok (.iconst 1, 1) := by decide +kernel
theorem dL_law_384 : decode cL_law 384 = .ok (.iadd, 1) := by decide +kernel
theorem dL_law_385 : decode cL_law 385 = .ok (.iaload, 1) := by decide +kernel
theorem dL_law_386 : decode cL_law 386 = .ok (.aload_n 0, 1) := by decide +kernel
theorem dL_law_387 : decode cL_law 387 = .ok (.iload_n 3, 1) := by decide +kernel
theorem dL_law_388 : decode cL_law 388 = .ok (.iconst 2, 1) := by decide +kernel
theorem dL_law_389 : decode cL_law 389 = .ok (.iadd, 1) := by decide +kernel
theorem dL_law_390 : decode cL_law 390 = .ok (.iaload, 1) := by decide +kernel
theorem dL_law_391 : decode cL_law 391 = .ok (.ifCond .eq 7, 3) := by decide +kernel
theorem dL_law_394 : decode cL_law 394 = .ok (.iconst 1, 1) := by decide +kernel
theorem dL_law_395 : decode cL_law 395 = .ok (.goto 4, 3) := by decide +kernel
theorem dL_law_398 : decode cL_law 398 = .ok (.iconst 0, 1) := by decide +kernel
theorem dL_law_399 : decode cL_law 399 = .ok (.invokevirtual 48, 3) := by decide +kernel
theorem dL_law_402 : decode cL_law 402 = .ok (.aload_n 2, 1) := by decide +kernel
theorem dL_law_403 : decode cL_law 403 = .ok (.aload_n 0, 1) := by decide +kernel
theorem dL_law_404 : decode cL_law 404 = .ok (.iload_n 3, 1) := by decide +kernel
theorem dL_law_405 : decode cL_law 405 = .ok (.iconst 1, 1) := by decide +kernel
theorem dL_law_406 : decode cL_law 406 = .ok (.iadd, 1) := by decide +kernel
theorem dL_law_407 : decode cL_law 407 = .ok (.iaload, 1) := by decide +kernel
theorem dL_law_408 : decode cL_law 408 = .ok (.aload_n 0, 1) := by decide +kernel
theorem dL_law_409 : decode cL_law 409 = .ok (.iload_n 3, 1) := by decide +kernel
theorem dL_law_410 : decode cL_law 410 = .ok (.iconst 2, 1) := by decide +kernel
theorem dL_law_411 : decode cL_law 411 = .ok (.iadd, 1) := by decide +kernel
theorem dL_law_412 : decode cL_law 412 = .ok (.iaload, 1) := by decide +kernel
theorem dL_law_413 : decode cL_law 413 = .ok (.ifCond .eq 7, 3) := by decide +kernel
theorem dL_law_416 : decode cL_law 416 = .ok (.iconst 1, 1) := by decide +kernel
theorem dL_law_417 : decode cL_law 417 = .ok (.goto 4, 3) := by decide +kernel
theorem dL_law_420 : decode cL_law 420 = .ok (.iconst 0, 1) := by decide +kernel
theorem dL_law_421 : decode cL_law 421 = .ok (.invokevirtual 52, 3) := by decide +kernel
theorem dL_law_424 : decode cL_law 424 = .ok (.if_icmp .eq 691, 3) := by decide +kernel
theorem dL_law_427 : decode cL_law 427 = .ok (.iconst 0, 1) := by decide +kernel
theorem dL_law_428 : decode cL_law 428 = .ok (.ireturn, 1) := by decide +kernel
theorem dL_law_429 : decode cL_law 429 = .ok (.aload_n 1, 1) := by decide +kernel
theorem dL_law_430 : decode cL_law 430 = .ok (.aload_n 0, 1) := by decide +kernel
theorem dL_law_431 : decode cL_law 431 = .ok (.iload_n 3, 1) := by decide +kernel
theorem dL_law_432 : decode cL_law 432 = .ok (.iconst 1, 1) := by decide +kernel
theorem dL_law_433 : decode cL_law 433 = .ok (.iadd, 1) := by decide +kernel
theorem dL_law_434 : decode cL_law 434 = .ok (.iaload, 1) := by decide +kernel
theorem dL_law_435 : decode cL_law 435 = .ok (.aload_n 0, 1) := by decide +kernel
theorem dL_law_436 : decode cL_law 436 = .ok (.iload_n 3, 1) := by decide +kernel
theorem dL_law_437 : decode cL_law 437 = .ok (.iconst 2, 1) := by decide +kernel
theorem dL_law_438 : decode cL_law 438 = .ok (.iadd, 1) := by decide +kernel
theorem dL_law_439 : decode cL_law 439 = .ok (.iaload, 1) := by decide +kernel
theorem dL_law_440 : decode cL_law 440 = .ok (.invokevirtual 53, 3) := by decide +kernel
theorem dL_law_443 : decode cL_law 443 = .ok (.aload_n 2, 1) := by decide +kernel
theorem dL_law_444 : decode cL_law 444 = .ok (.aload_n 0, 1) := by decide +kernel
theorem dL_law_445 : decode cL_law 445 = .ok (.iload_n 3, 1) := by decide +kernel
theorem dL_law_446 : decode cL_law 446 = .ok (.iconst 1, 1) := by decide +kernel
theorem dL_law_447 : decode cL_law 447 = .ok (.iadd, 1) := by decide +kernel
theorem dL_law_448 : decode cL_law 448 = .ok (.iaload, 1) := by decide +kernel
theorem dL_law_449 : decode cL_law 449 = .ok (.aload_n 0, 1) := by decide +kernel
theorem dL_law_450 : decode cL_law 450 = .ok (.iload_n 3, 1) := by decide +kernel
theorem dL_law_451 : decode cL_law 451 = .ok (.iconst 2, 1) := by decide +kernel
theorem dL_law_452 : decode cL_law 452 = .ok (.iadd, 1) := by decide +kernel
theorem dL_law_453 : decode cL_law 453 = .ok (.iaload, 1) := by decide +kernel
theorem dL_law_454 : decode cL_law 454 = .ok (.invokevirtual 56, 3) := by decide +kernel
theorem dL_law_457 : decode cL_law 457 = .ok (.if_icmp .eq 658, 3) := by decide +kernel
theorem dL_law_460 : decode cL_law 460 = .ok (.iconst 0, 1) := by decide +kernel
theorem dL_law_461 : decode cL_law 461 = .ok (.ireturn, 1) := by decide +kernel
theorem dL_law_462 : decode cL_law 462 = .ok (.aload_n 1, 1) := by decide +kernel
theorem dL_law_463 : decode cL_law 463 = .ok (.aload_n 0, 1) := by decide +kernel
theorem dL_law_464 : decode cL_law 464 = .ok (.iload_n 3, 1) := by decide +kernel
theorem dL_law_465 : decode cL_law 465 = .ok (.iconst 1, 1) := by decide +kernel
theorem dL_law_466 : decode cL_law 466 = .ok (.iadd, 1) := by decide +kernel
theorem dL_law_467 : decode cL_law 467 = .ok (.iaload, 1) := by decide +kernel
theorem dL_law_468 : decode cL_law 468 = .ok (.aload_n 0, 1) := by decide +kernel
theorem dL_law_469 : decode cL_law 469 = .ok (.iload_n 3, 1) := by decide +kernel
theorem dL_law_470 : decode cL_law 470 = .ok (.iconst 2, 1) := by decide +kernel
theorem dL_law_471 : decode cL_law 471 = .ok (.iadd, 1) := by decide +kernel
theorem dL_law_472 : decode cL_law 472 = .ok (.iaload, 1) := by decide +kernel
theorem dL_law_473 : decode cL_law 473 = .ok (.ifCond .eq 7, 3) := by decide +kernel
theorem dL_law_476 : decode cL_law 476 = .ok (.iconst 1, 1) := by decide +kernel
theorem dL_law_477 : decode cL_law 477 = .ok (.goto 4, 3) := by decide +kernel
theorem dL_law_480 : decode cL_law 480 = .ok (.iconst 0, 1) := by decide +kernel
theorem dL_law_481 : decode cL_law 481 = .ok (.invokevirtual 57, 3) := by decide +kernel
theorem dL_law_484 : decode cL_law 484 = .ok (.aload_n 2, 1) := by decide +kernel
theorem dL_law_485 : decode cL_law 485 = .ok (.aload_n 0, 1) := by decide +kernel
theorem dL_law_486 : decode cL_law 486 = .ok (.iload_n 3, 1) := by decide +kernel
theorem dL_law_487 : decode cL_law 487 = .ok (.iconst 1, 1) := by decide +kernel
theorem dL_law_488 : decode cL_law 488 = .ok (.iadd, 1) := by decide +kernel
theorem dL_law_489 : decode cL_law 489 = .ok (.iaload, 1) := by decide +kernel
theorem dL_law_490 : decode cL_law 490 = .ok (.aload_n 0, 1) := by decide +kernel
theorem dL_law_491 : decode cL_law 491 = .ok (.iload_n 3, 1) := by decide +kernel
theorem dL_law_492 : decode cL_law 492 = .ok (.iconst 2, 1) := by decide +kernel
theorem dL_law_493 : decode cL_law 493 = .ok (.iadd, 1) := by decide +kernel
theorem dL_law_494 : decode cL_law 494 = .ok (.iaload, 1) := by decide +kernel
theorem dL_law_495 : decode cL_law 495 = .ok (.ifCond .eq 7, 3) := by decide +kernel
theorem dL_law_498 : decode cL_law 498 = .ok (.iconst 1, 1) := by decide +kernel
theorem dL_law_499 : decode cL_law 499 = .ok (.goto 4, 3) := by decide +kernel
theorem dL_law_502 : decode cL_law 502 = .ok (.iconst 0, 1) := by decide +kernel
theorem dL_law_503 : decode cL_law 503 = .ok (.invokevirtual 60, 3) := by decide +kernel
theorem dL_law_506 : decode cL_law 506 = .ok (.if_icmp .eq 609, 3) := by decide +kernel
theorem dL_law_509 : decode cL_law 509 = .ok (.iconst 0, 1) := by decide +kernel
theorem dL_law_510 : decode cL_law 510 = .ok (.ireturn, 1) := by decide +kernel
theorem dL_law_511 : decode cL_law 511 = .ok (.aload_n 1, 1) := by decide +kernel
theorem dL_law_512 : decode cL_law 512 = .ok (.aload_n 0, 1) := by decide +kernel
theorem dL_law_513 : decode cL_law 513 = .ok (.iload_n 3, 1) := by decide +kernel
theorem dL_law_514 : decode cL_law 514 = .ok (.iconst 1, 1) := by decide +kernel
theorem dL_law_515 : decode cL_law 515 = .ok (.iadd, 1) := by decide +kernel
theorem dL_law_516 : decode cL_law 516 = .ok (.iaload, 1) := by decide +kernel
theorem dL_law_517 : decode cL_law 517 = .ok (.aload_n 0, 1) := by decide +kernel
theorem dL_law_518 : decode cL_law 518 = .ok (.iload_n 3, 1) := by decide +kernel
theorem dL_law_519 : decode cL_law 519 = .ok (.iconst 2, 1) := by decide +kernel
theorem dL_law_520 : decode cL_law 520 = .ok (.iadd, 1) := by decide +kernel
theorem dL_law_521 : decode cL_law 521 = .ok (.iaload, 1) := by decide +kernel
theorem dL_law_522 : decode cL_law 522 = .ok (.ifCond .eq 7, 3) := by decide +kernel
theorem dL_law_525 : decode cL_law 525 = .ok (.iconst 1, 1) := by decide +kernel
theorem dL_law_526 : decode cL_law 526 = .ok (.goto 4, 3) := by decide +kernel
theorem dL_law_529 : decode cL_law 529 = .ok (.iconst 0, 1) := by decide +kernel
theorem dL_law_530 : decode cL_law 530 = .ok (.invokevirtual 61, 3) := by decide +kernel
theorem dL_law_533 : decode cL_law 533 = .ok (.aload_n 2, 1) := by decide +kernel
theorem dL_law_534 : decode cL_law 534 = .ok (.aload_n 0, 1) := by decide +kernel
theorem dL_law_535 : decode cL_law 535 = .ok (.iload_n 3, 1) := by decide +kernel
theorem dL_law_536 : decode cL_law 536 = .ok (.iconst 1, 1) := by decide +kernel
theorem dL_law_537 : decode cL_law 537 = .ok (.iadd, 1) := by decide +kernel
theorem dL_law_538 : decode cL_law 538 = .ok (.iaload, 1) := by decide +kernel
theorem dL_law_539 : decode cL_law 539 = .ok (.aload_n 0, 1) := by decide +kernel
theorem dL_law_540 : decode cL_law 540 = .ok (.iload_n 3, 1) := by decide +kernel
theorem dL_law_541 : decode cL_law 541 = .ok (.iconst 2, 1) := by decide +kernel
theorem dL_law_542 : decode cL_law 542 = .ok (.iadd, 1) := by decide +kernel
theorem dL_law_543 : decode cL_law 543 = .ok (.iaload, 1) := by decide +kernel
theorem dL_law_544 : decode cL_law 544 = .ok (.ifCond .eq 7, 3) := by decide +kernel
theorem dL_law_547 : decode cL_law 547 = .ok (.iconst 1, 1) := by decide +kernel
theorem dL_law_548 : decode cL_law 548 = .ok (.goto 4, 3) := by decide +kernel
theorem dL_law_551 : decode cL_law 551 = .ok (.iconst 0, 1) := by decide +kernel
theorem dL_law_552 : decode cL_law 552 = .ok (.invokevirtual 64, 3) := by decide +kernel
theorem dL_law_555 : decode cL_law 555 = .ok (.if_icmp .eq 560, 3) := by decide +kernel
theorem dL_law_558 : decode cL_law 558 = .ok (.iconst 0, 1) := by decide +kernel
theorem dL_law_559 : decode cL_law 559 = .ok (.ireturn, 1) := by decide +kernel
theorem dL_law_560 : decode cL_law 560 = .ok (.aload_n 1, 1) := by decide +kernel
theorem dL_law_561 : decode cL_law 561 = .ok (.aload_n 0, 1) := by decide +kernel
theorem dL_law_562 : decode cL_law 562 = .ok (.iload_n 3, 1) := by decide +kernel
theorem dL_law_563 : decode cL_law 563 = .ok (.iconst 1, 1) := by decide +kernel
theorem dL_law_564 : decode cL_law 564 = .ok (.iadd, 1) := by decide +kernel
theorem dL_law_565 : decode cL_law 565 = .ok (.iaload, 1) := by decide +kernel
theorem dL_law_566 : decode cL_law 566 = .ok (.aload_n 0, 1) := by decide +kernel
theorem dL_law_567 : decode cL_law 567 = .ok (.iload_n 3, 1) := by decide +kernel
theorem dL_law_568 : decode cL_law 568 = .ok (.iconst 2, 1) := by decide +kernel
theorem dL_law_569 : decode cL_law 569 = .ok (.iadd, 1) := by decide +kernel
theorem dL_law_570 : decode cL_law 570 = .ok (.iaload, 1) := by decide +kernel
theorem dL_law_571 : decode cL_law 571 = .ok (.invokevirtual 65, 3) := by decide +kernel
theorem dL_law_574 : decode cL_law 574 = .ok (.aload_n 2, 1) := by decide +kernel
theorem dL_law_575 : decode cL_law 575 = .ok (.aload_n 0, 1) := by decide +kernel
theorem dL_law_576 : decode cL_law 576 = .ok (.iload_n 3, 1) := by decide +kernel
theorem dL_law_577 : decode cL_law 577 = .ok (.iconst 1, 1) := by decide +kernel
theorem dL_law_578 : decode cL_law 578 = .ok (.iadd, 1) := by decide +kernel
theorem dL_law_579 : decode cL_law 579 = .ok (.iaload, 1) := by decide +kernel
theorem dL_law_580 : decode cL_law 580 = .ok (.aload_n 0, 1) := by decide +kernel
theorem dL_law_581 : decode cL_law 581 = .ok (.iload_n 3, 1) := by decide +kernel
theorem dL_law_582 : decode cL_law 582 = .ok (.iconst 2, 1) := by decide +kernel
theorem dL_law_583 : decode cL_law 583 = .ok (.iadd, 1) := by decide +kernel
theorem dL_law_584 : decode cL_law 584 = .ok (.iaload, 1) := by decide +kernel
theorem dL_law_585 : decode cL_law 585 = .ok (.invokevirtual 68, 3) := by decide +kernel
theorem dL_law_588 : decode cL_law 588 = .ok (.if_icmp .eq 527, 3) := by decide +kernel
theorem dL_law_591 : decode cL_law 591 = .ok (.iconst 0, 1) := by decide +kernel
theorem dL_law_592 : decode cL_law 592 = .ok (.ireturn, 1) := by decide +kernel
theorem dL_law_593 : decode cL_law 593 = .ok (.aload_n 1, 1) := by decide +kernel
theorem dL_law_594 : decode cL_law 594 = .ok (.invokevirtual 69, 3) := by decide +kernel
theorem dL_law_597 : decode cL_law 597 = .ok (.aload_n 2, 1) := by decide +kernel
theorem dL_law_598 : decode cL_law 598 = .ok (.invokevirtual 72, 3) := by decide +kernel
theorem dL_law_601 : decode cL_law 601 = .ok (.if_icmp .eq 514, 3) := by decide +kernel
theorem dL_law_604 : decode cL_law 604 = .ok (.iconst 0, 1) := by decide +kernel
theorem dL_law_605 : decode cL_law 605 = .ok (.ireturn, 1) := by decide +kernel
theorem dL_law_606 : decode cL_law 606 = .ok (.aload_n 1, 1) := by decide +kernel
theorem dL_law_607 : decode cL_law 607 = .ok (.aload_n 0, 1) := by decide +kernel
theorem dL_law_608 : decode cL_law 608 = .ok (.iload_n 3, 1) := by decide +kernel
theorem dL_law_609 : decode cL_law 609 = .ok (.iconst 1, 1) := by decide +kernel
theorem dL_law_610 : decode cL_law 610 = .ok (.iadd, 1) := by decide +kernel
theorem dL_law_611 : decode cL_law 611 = .ok (.iaload, 1) := by decide +kernel
theorem dL_law_612 : decode cL_law 612 = .ok (.invokevirtual 73, 3) := by decide +kernel
theorem dL_law_615 : decode cL_law 615 = .ok (.aload_n 2, 1) := by decide +kernel
theorem dL_law_616 : decode cL_law 616 = .ok (.aload_n 0, 1) := by decide +kernel
theorem dL_law_617 : decode cL_law 617 = .ok (.iload_n 3, 1) := by decide +kernel
theorem dL_law_618 : decode cL_law 618 = .ok (.iconst 1, 1) := by decide +kernel
theorem dL_law_619 : decode cL_law 619 = .ok (.iadd, 1) := by decide +kernel
theorem dL_law_620 : decode cL_law 620 = .ok (.iaload, 1) := by decide +kernel
theorem dL_law_621 : decode cL_law 621 = .ok (.invokevirtual 76, 3) := by decide +kernel
theorem dL_law_624 : decode cL_law 624 = .ok (.if_icmp .eq 491, 3) := by decide +kernel
theorem dL_law_627 : decode cL_law 627 = .ok (.iconst 0, 1) := by decide +kernel
theorem dL_law_628 : decode cL_law 628 = .ok (.ireturn, 1) := by decide +kernel
theorem dL_law_629 : decode cL_law 629 = .ok (.aload_n 1, 1) := by decide +kernel
theorem dL_law_630 : decode cL_law 630 = .ok (.aload_n 0, 1) := by decide +kernel
theorem dL_law_631 : decode cL_law 631 = .ok (.iload_n 3, 1) := by decide +kernel
theorem dL_law_632 : decode cL_law 632 = .ok (.iconst 1, 1) := by decide +kernel
theorem dL_law_633 : decode cL_law 633 = .ok (.iadd, 1) := by decide +kernel
theorem dL_law_634 : decode cL_law 634 = .ok (.iaload, 1) := by decide +kernel
theorem dL_law_635 : decode cL_law 635 = .ok (.invokevirtual 77, 3) := by decide +kernel
theorem dL_law_638 : decode cL_law 638 = .ok (.aload_n 2, 1) := by decide +kernel
theorem dL_law_639 : decode cL_law 639 = .ok (.aload_n 0, 1) := by decide +kernel
theorem dL_law_640 : decode cL_law 640 = .ok (.iload_n 3, 1) := by decide +kernel
theorem dL_law_641 : decode cL_law 641 = .ok (.iconst 1, 1) := by decide +kernel
theorem dL_law_642 : decode cL_law 642 = .ok (.iadd, 1) := by decide +kernel
theorem dL_law_643 : decode cL_law 643 = .ok (.iaload, 1) := by decide +kernel
theorem dL_law_644 : decode cL_law 644 = .ok (.invokevirtual 80, 3) := by decide +kernel
theorem dL_law_647 : decode cL_law 647 = .ok (.if_icmp .eq 468, 3) := by decide +kernel
theorem dL_law_650 : decode cL_law 650 = .ok (.iconst 0, 1) := by decide +kernel
theorem dL_law_651 : decode cL_law 651 = .ok (.ireturn, 1) := by decide +kernel
theorem dL_law_652 : decode cL_law 652 = .ok (.aload_n 1, 1) := by decide +kernel
theorem dL_law_653 : decode cL_law 653 = .ok (.invokevirtual 81, 3) := by decide +kernel
theorem dL_law_656 : decode cL_law 656 = .ok (.aload_n 2, 1) := by decide +kernel
theorem dL_law_657 : decode cL_law 657 = .ok (.invokevirtual 84, 3) := by decide +kernel
theorem dL_law_660 : decode cL_law 660 = .ok (.if_icmp .eq 455, 3) := by decide +kernel
theorem dL_law_663 : decode cL_law 663 = .ok (.iconst 0, 1) := by decide +kernel
theorem dL_law_664 : decode cL_law 664 = .ok (.ireturn, 1) := by decide +kernel
theorem dL_law_665 : decode cL_law 665 = .ok (.aload_n 1, 1) := by decide +kernel
theorem dL_law_666 : decode cL_law 666 = .ok (.aload_n 0, 1) := by decide +kernel
theorem dL_law_667 : decode cL_law 667 = .ok (.iload_n 3, 1) := by decide +kernel
theorem dL_law_668 : decode cL_law 668 = .ok (.iconst 1, 1) := by decide +kernel
theorem dL_law_669 : decode cL_law 669 = .ok (.iadd, 1) := by decide +kernel
theorem dL_law_670 : decode cL_law 670 = .ok (.iaload, 1) := by decide +kernel
theorem dL_law_671 : decode cL_law 671 = .ok (.invokevirtual 85, 3) := by decide +kernel
theorem dL_law_674 : decode cL_law 674 = .ok (.aload_n 2, 1) := by decide +kernel
theorem dL_law_675 : decode cL_law 675 = .ok (.aload_n 0, 1) := by decide +kernel
theorem dL_law_676 : decode cL_law 676 = .ok (.iload_n 3, 1) := by decide +kernel
theorem dL_law_677 : decode cL_law 677 = .ok (.iconst 1, 1) := by decide +kernel
theorem dL_law_678 : decode cL_law 678 = .ok (.iadd, 1) := by decide +kernel
theorem dL_law_679 : decode cL_law 679 = .ok (.iaload, 1) := by decide +kernel
theorem dL_law_680 : decode cL_law 680 = .ok (.invokevirtual 88, 3) := by decide +kernel
theorem dL_law_683 : decode cL_law 683 = .ok (.if_icmp .eq 432, 3) := by decide +kernel
theorem dL_law_686 : decode cL_law 686 = .ok (.iconst 0, 1) := by decide +kernel
theorem dL_law_687 : decode cL_law 687 = .ok (.ireturn, 1) := by decide +kernel
theorem dL_law_688 : decode cL_law 688 = .ok (.aload_n 1, 1) := by decide +kernel
theorem dL_law_689 : decode cL_law 689 = .ok (.aload_n 0, 1) := by decide +kernel
theorem dL_law_690 : decode cL_law 690 = .ok (.iload_n 3, 1) := by decide +kernel
theorem dL_law_691 : decode cL_law 691 = .ok (.iconst 1, 1) := by decide +kernel
theorem dL_law_692 : decode cL_law 692 = .ok (.iadd, 1) := by decide +kernel
theorem dL_law_693 : decode cL_law 693 = .ok (.iaload, 1) := by decide +kernel
theorem dL_law_694 : decode cL_law 694 = .ok (.invokevirtual 89, 3) := by decide +kernel
theorem dL_law_697 : decode cL_law 697 = .ok (.aload_n 2, 1) := by decide +kernel
theorem dL_law_698 : decode cL_law 698 = .ok (.aload_n 0, 1) := by decide +kernel
theorem dL_law_699 : decode cL_law 699 = .ok (.iload_n 3, 1) := by decide +kernel
theorem dL_law_700 : decode cL_law 700 = .ok (.iconst 1, 1) := by decide +kernel
theorem dL_law_701 : decode cL_law 701 = .ok (.iadd, 1) := by decide +kernel
theorem dL_law_702 : decode cL_law 702 = .ok (.iaload, 1) := by decide +kernel
theorem dL_law_703 : decode cL_law 703 = .ok (.invokevirtual 92, 3) := by decide +kernel
theorem dL_law_706 : decode cL_law 706 = .ok (.if_icmp .eq 409, 3) := by decide +kernel
theorem dL_law_709 : decode cL_law 709 = .ok (.iconst 0, 1) := by decide +kernel
theorem dL_law_710 : decode cL_law 710 = .ok (.ireturn, 1) := by decide +kernel
theorem dL_law_711 : decode cL_law 711 = .ok (.aload_n 1, 1) := by decide +kernel
theorem dL_law_712 : decode cL_law 712 = .ok (.aload_n 0, 1) := by decide +kernel
theorem dL_law_713 : decode cL_law 713 = .ok (.iload_n 3, 1) := by decide +kernel
theorem dL_law_714 : decode cL_law 714 = .ok (.iconst 1, 1) := by decide +kernel
theorem dL_law_715 : decode cL_law 715 = .ok (.iadd, 1) := by decide +kernel
theorem dL_law_716 : decode cL_law 716 = .ok (.iaload, 1) := by decide +kernel
theorem dL_law_717 : decode cL_law 717 = .ok (.aload_n 0, 1) := by decide +kernel
theorem dL_law_718 : decode cL_law 718 = .ok (.iload_n 3, 1) := by decide +kernel
theorem dL_law_719 : decode cL_law 719 = .ok (.iconst 2, 1) := by decide +kernel
theorem dL_law_720 : decode cL_law 720 = .ok (.iadd, 1) := by decide +kernel
theorem dL_law_721 : decode cL_law 721 = .ok (.iaload, 1) := by decide +kernel
theorem dL_law_722 : decode cL_law 722 = .ok (.invokevirtual 93, 3) := by decide +kernel
theorem dL_law_725 : decode cL_law 725 = .ok (.aload_n 2, 1) := by decide +kernel
theorem dL_law_726 : decode cL_law 726 = .ok (.aload_n 0, 1) := by decide +kernel
theorem dL_law_727 : decode cL_law 727 = .ok (.iload_n 3, 1) := by decide +kernel
theorem dL_law_728 : decode cL_law 728 = .ok (.iconst 1, 1) := by decide +kernel
theorem dL_law_729 : decode cL_law 729 = .ok (.iadd, 1) := by decide +kernel
theorem dL_law_730 : decode cL_law 730 = .ok (.iaload, 1) := by decide +kernel
theorem dL_law_731 : decode cL_law 731 = .ok (.aload_n 0, 1) := by decide +kernel
theorem dL_law_732 : decode cL_law 732 = .ok (.iload_n 3, 1) := by decide +kernel
theorem dL_law_733 : decode cL_law 733 = .ok (.iconst 2, 1) := by decide +kernel
theorem dL_law_734 : decode cL_law 734 = .ok (.iadd, 1) := by decide +kernel
theorem dL_law_735 : decode cL_law 735 = .ok (.iaload, 1) := by decide +kernel
theorem dL_law_736 : decode cL_law 736 = .ok (.invokevirtual 96, 3) := by decide +kernel
theorem dL_law_739 : decode cL_law 739 = .ok (.if_icmp .eq 376, 3) := by decide +kernel
theorem dL_law_742 : decode cL_law 742 = .ok (.iconst 0, 1) := by decide +kernel
theorem dL_law_743 : decode cL_law 743 = .ok (.ireturn, 1) := by decide +kernel
theorem dL_law_744 : decode cL_law 744 = .ok (.aload_n 1, 1) := by decide +kernel
theorem dL_law_745 : decode cL_law 745 = .ok (.invokevirtual 97, 3) := by decide +kernel
theorem dL_law_748 : decode cL_law 748 = .ok (.aload_n 2, 1) := by decide +kernel
theorem dL_law_749 : decode cL_law 749 = .ok (.invokevirtual 100, 3) := by decide +kernel
theorem dL_law_752 : decode cL_law 752 = .ok (.if_icmp .eq 363, 3) := by decide +kernel
theorem dL_law_755 : decode cL_law 755 = .ok (.iconst 0, 1) := by decide +kernel
theorem dL_law_756 : decode cL_law 756 = .ok (.ireturn, 1) := by decide +kernel
theorem dL_law_757 : decode cL_law 757 = .ok (.aload_n 1, 1) := by decide +kernel
theorem dL_law_758 : decode cL_law 758 = .ok (.aload_n 0, 1) := by decide +kernel
theorem dL_law_759 : decode cL_law 759 = .ok (.iload_n 3, 1) := by decide +kernel
theorem dL_law_760 : decode cL_law 760 = .ok (.iconst 1, 1) := by decide +kernel
theorem dL_law_761 : decode cL_law 761 = .ok (.iadd, 1) := by decide +kernel
theorem dL_law_762 : decode cL_law 762 = .ok (.iaload, 1) := by decide +kernel
theorem dL_law_763 : decode cL_law 763 = .ok (.aload_n 0, 1) := by decide +kernel
theorem dL_law_764 : decode cL_law 764 = .ok (.iload_n 3, 1) := by decide +kernel
theorem dL_law_765 : decode cL_law 765 = .ok (.iconst 2, 1) := by decide +kernel
theorem dL_law_766 : decode cL_law 766 = .ok (.iadd, 1) := by decide +kernel
theorem dL_law_767 : decode cL_law 767 = .ok (.iaload, 1) := by decide +kernel
theorem dL_law_768 : decode cL_law 768 = .ok (.invokevirtual 101, 3) := by decide +kernel
theorem dL_law_771 : decode cL_law 771 = .ok (.aload_n 2, 1) := by decide +kernel
theorem dL_law_772 : decode cL_law 772 = .ok (.aload_n 0, 1) := by decide +kernel
theorem dL_law_773 : decode cL_law 773 = .ok (.iload_n 3, 1) := by decide +kernel
theorem dL_law_774 : decode cL_law 774 = .ok (.iconst 1, 1) := by decide +kernel
theorem dL_law_775 : decode cL_law 775 = .ok (.iadd, 1) := by decide +kernel
theorem dL_law_776 : decode cL_law 776 = .ok (.iaload, 1) := by decide +kernel
theorem dL_law_777 : decode cL_law 777 = .ok (.aload_n 0, 1) := by decide +kernel
theorem dL_law_778 : decode cL_law 778 = .ok (.iload_n 3, 1) := by decide +kernel
theorem dL_law_779 : decode cL_law 779 = .ok (.iconst 2, 1) := by decide +kernel
theorem dL_law_780 : decode cL_law 780 = .ok (.iadd, 1) := by decide +kernel
theorem dL_law_781 : decode cL_law 781 = .ok (.iaload, 1) := by decide +kernel
theorem dL_law_782 : decode cL_law 782 = .ok (.invokevirtual 104, 3) := by decide +kernel
theorem dL_law_785 : decode cL_law 785 = .ok (.if_icmp .eq 330, 3) := by decide +kernel
theorem dL_law_788 : decode cL_law 788 = .ok (.iconst 0, 1) := by decide +kernel
theorem dL_law_789 : decode cL_law 789 = .ok (.ireturn, 1) := by decide +kernel
theorem dL_law_790 : decode cL_law 790 = .ok (.aload_n 1, 1) := by decide +kernel
theorem dL_law_791 : decode cL_law 791 = .ok (.aload_n 0, 1) := by decide +kernel
theorem dL_law_792 : decode cL_law 792 = .ok (.iload_n 3, 1) := by decide +kernel
theorem dL_law_793 : decode cL_law 793 = .ok (.iconst 1, 1) := by decide +kernel
theorem dL_law_794 : decode cL_law 794 = .ok (.iadd, 1) := by decide +kernel
theorem dL_law_795 : decode cL_law 795 = .ok (.iaload, 1) := by decide +kernel
theorem dL_law_796 : decode cL_law 796 = .ok (.invokevirtual 105, 3) := by decide +kernel
theorem dL_law_799 : decode cL_law 799 = .ok (.aload_n 2, 1) := by decide +kernel
theorem dL_law_800 : decode cL_law 800 = .ok (.aload_n 0, 1) := by decide +kernel
theorem dL_law_801 : decode cL_law 801 = .ok (.iload_n 3, 1) := by decide +kernel
theorem dL_law_802 : decode cL_law 802 = .ok (.iconst 1, 1) := by decide +kernel
theorem dL_law_803 : decode cL_law 803 = .ok (.iadd, 1) := by decide +kernel
theorem dL_law_804 : decode cL_law 804 = .ok (.iaload, 1) := by decide +kernel
theorem dL_law_805 : decode cL_law 805 = .ok (.invokevirtual 108, 3) := by decide +kernel
theorem dL_law_808 : decode cL_law 808 = .ok (.if_icmp .eq 307, 3) := by decide +kernel
theorem dL_law_811 : decode cL_law 811 = .ok (.iconst 0, 1) := by decide +kernel
theorem dL_law_812 : decode cL_law 812 = .ok (.ireturn, 1) := by decide +kernel
theorem dL_law_813 : decode cL_law 813 = .ok (.aload_n 1, 1) := by decide +kernel
theorem dL_law_814 : decode cL_law 814 = .ok (.aload_n 0, 1) := by decide +kernel
theorem dL_law_815 : decode cL_law 815 = .ok (.iload_n 3, 1) := by decide +kernel
theorem dL_law_816 : decode cL_law 816 = .ok (.iconst 1, 1) := by decide +kernel
theorem dL_law_817 : decode cL_law 817 = .ok (.iadd, 1) := by decide +kernel
theorem dL_law_818 : decode cL_law 818 = .ok (.iaload, 1) := by decide +kernel
theorem dL_law_819 : decode cL_law 819 = .ok (.invokevirtual 109, 3) := by decide +kernel
theorem dL_law_822 : decode cL_law 822 = .ok (.aload_n 2, 1) := by decide +kernel
theorem dL_law_823 : decode cL_law 823 = .ok (.aload_n 0, 1) := by decide +kernel
theorem dL_law_824 : decode cL_law 824 = .ok (.iload_n 3, 1) := by decide +kernel
theorem dL_law_825 : decode cL_law 825 = .ok (.iconst 1, 1) := by decide +kernel
theorem dL_law_826 : decode cL_law 826 = .ok (.iadd, 1) := by decide +kernel
theorem dL_law_827 : decode cL_law 827 = .ok (.iaload, 1) := by decide +kernel
theorem dL_law_828 : decode cL_law 828 = .ok (.invokevirtual 112, 3) := by decide +kernel
theorem dL_law_831 : decode cL_law 831 = .ok (.if_icmp .eq 284, 3) := by decide +kernel
theorem dL_law_834 : decode cL_law 834 = .ok (.iconst 0, 1) := by decide +kernel
theorem dL_law_835 : decode cL_law 835 = .ok (.ireturn, 1) := by decide +kernel
theorem dL_law_836 : decode cL_law 836 = .ok (.aload_n 1, 1) := by decide +kernel
theorem dL_law_837 : decode cL_law 837 = .ok (.invokevirtual 113, 3) := by decide +kernel
theorem dL_law_840 : decode cL_law 840 = .ok (.aload_n 2, 1) := by decide +kernel
theorem dL_law_841 : decode cL_law 841 = .ok (.invokevirtual 116, 3) := by decide +kernel
theorem dL_law_844 : decode cL_law 844 = .ok (.if_icmp .eq 271, 3) := by decide +kernel
theorem dL_law_847 : decode cL_law 847 = .ok (.iconst 0, 1) := by decide +kernel
theorem dL_law_848 : decode cL_law 848 = .ok (.ireturn, 1) := by decide +kernel
theorem dL_law_849 : decode cL_law 849 = .ok (.aload_n 1, 1) := by decide +kernel
theorem dL_law_850 : decode cL_law 850 = .ok (.aload_n 0, 1) := by decide +kernel
theorem dL_law_851 : decode cL_law 851 = .ok (.iload_n 3, 1) := by decide +kernel
theorem dL_law_852 : decode cL_law 852 = .ok (.iconst 1, 1) := by decide +kernel
theorem dL_law_853 : decode cL_law 853 = .ok (.iadd, 1) := by decide +kernel
theorem dL_law_854 : decode cL_law 854 = .ok (.iaload, 1) := by decide +kernel
theorem dL_law_855 : decode cL_law 855 = .ok (.invokevirtual 117, 3) := by decide +kernel
theorem dL_law_858 : decode cL_law 858 = .ok (.aload_n 2, 1) := by decide +kernel
theorem dL_law_859 : decode cL_law 859 = .ok (.aload_n 0, 1) := by decide +kernel
theorem dL_law_860 : decode cL_law 860 = .ok (.iload_n 3, 1) := by decide +kernel
theorem dL_law_861 : decode cL_law 861 = .ok (.iconst 1, 1) := by decide +kernel
theorem dL_law_862 : decode cL_law 862 = .ok (.iadd, 1) := by decide +kernel
theorem dL_law_863 : decode cL_law 863 = .ok (.iaload, 1) := by decide +kernel
theorem dL_law_864 : decode cL_law 864 = .ok (.invokevirtual 120, 3) := by decide +kernel
theorem dL_law_867 : decode cL_law 867 = .ok (.if_icmp .eq 248, 3) := by decide +kernel
theorem dL_law_870 : decode cL_law 870 = .ok (.iconst 0, 1) := by decide +kernel
theorem dL_law_871 : decode cL_law 871 = .ok (.ireturn, 1) := by decide +kernel
theorem dL_law_872 : decode cL_law 872 = .ok (.aload_n 1, 1) := by decide +kernel
theorem dL_law_873 : decode cL_law 873 = .ok (.aload_n 0, 1) := by decide +kernel
theorem dL_law_874 : decode cL_law 874 = .ok (.iload_n 3, 1) := by decide +kernel
theorem dL_law_875 : decode cL_law 875 = .ok (.iconst 1, 1) := by decide +kernel
theorem dL_law_876 : decode cL_law 876 = .ok (.iadd, 1) := by decide +kernel
theorem dL_law_877 : decode cL_law 877 = .ok (.iaload, 1) := by decide +kernel
theorem dL_law_878 : decode cL_law 878 = .ok (.aload_n 0, 1) := by decide +kernel
theorem dL_law_879 : decode cL_law 879 = .ok (.iload_n 3, 1) := by decide +kernel
theorem dL_law_880 : decode cL_law 880 = .ok (.iconst 2, 1) := by decide +kernel
theorem dL_law_881 : decode cL_law 881 = .ok (.iadd, 1) := by decide +kernel
theorem dL_law_882 : decode cL_law 882 = .ok (.iaload, 1) := by decide +kernel
theorem dL_law_883 : decode cL_law 883 = .ok (.invokevirtual 121, 3) := by decide +kernel
theorem dL_law_886 : decode cL_law 886 = .ok (.aload_n 2, 1) := by decide +kernel
theorem dL_law_887 : decode cL_law 887 = .ok (.aload_n 0, 1) := by decide +kernel
theorem dL_law_888 : decode cL_law 888 = .ok (.iload_n 3, 1) := by decide +kernel
theorem dL_law_889 : decode cL_law 889 = .ok (.iconst 1, 1) := by decide +kernel
theorem dL_law_890 : decode cL_law 890 = .ok (.iadd, 1) := by decide +kernel
theorem dL_law_891 : decode cL_law 891 = .ok (.iaload, 1) := by decide +kernel
theorem dL_law_892 : decode cL_law 892 = .ok (.aload_n 0, 1) := by decide +kernel
theorem dL_law_893 : decode cL_law 893 = .ok (.iload_n 3, 1) := by decide +kernel
theorem dL_law_894 : decode cL_law 894 = .ok (.iconst 2, 1) := by decide +kernel
theorem dL_law_895 : decode cL_law 895 = .ok (.iadd, 1) := by decide +kernel
theorem dL_law_896 : decode cL_law 896 = .ok (.iaload, 1) := by decide +kernel
theorem dL_law_897 : decode cL_law 897 = .ok (.invokevirtual 124, 3) := by decide +kernel
theorem dL_law_900 : decode cL_law 900 = .ok (.if_icmp .eq 215, 3) := by decide +kernel
theorem dL_law_903 : decode cL_law 903 = .ok (.iconst 0, 1) := by decide +kernel
theorem dL_law_904 : decode cL_law 904 = .ok (.ireturn, 1) := by decide +kernel
theorem dL_law_905 : decode cL_law 905 = .ok (.aload_n 1, 1) := by decide +kernel
theorem dL_law_906 : decode cL_law 906 = .ok (.aload_n 0, 1) := by decide +kernel
theorem dL_law_907 : decode cL_law 907 = .ok (.iload_n 3, 1) := by decide +kernel
theorem dL_law_908 : decode cL_law 908 = .ok (.iconst 1, 1) := by decide +kernel
theorem dL_law_909 : decode cL_law 909 = .ok (.iadd, 1) := by decide +kernel
theorem dL_law_910 : decode cL_law 910 = .ok (.iaload, 1) := by decide +kernel
theorem dL_law_911 : decode cL_law 911 = .ok (.invokevirtual 125, 3) := by decide +kernel
theorem dL_law_914 : decode cL_law 914 = .ok (.aload_n 2, 1) := by decide +kernel
theorem dL_law_915 : decode cL_law 915 = .ok (.aload_n 0, 1) := by decide +kernel
theorem dL_law_916 : decode cL_law 916 = .ok (.iload_n 3, 1) := by decide +kernel
theorem dL_law_917 : decode cL_law 917 = .ok (.iconst 1, 1) := by decide +kernel
theorem dL_law_918 : decode cL_law 918 = .ok (.iadd, 1) := by decide +kernel
theorem dL_law_919 : decode cL_law 919 = .ok (.iaload, 1) := by decide +kernel
theorem dL_law_920 : decode cL_law 920 = .ok (.invokevirtual 128, 3) := by decide +kernel
theorem dL_law_923 : decode cL_law 923 = .ok (.if_icmp .eq 192, 3) := by decide +kernel
theorem dL_law_926 : decode cL_law 926 = .ok (.iconst 0, 1) := by decide +kernel
theorem dL_law_927 : decode cL_law 927 = .ok (.ireturn, 1) := by decide +kernel
theorem dL_law_928 : decode cL_law 928 = .ok (.aload_n 1, 1) := by decide +kernel
theorem dL_law_929 : decode cL_law 929 = .ok (.invokevirtual 129, 3) := by decide +kernel
theorem dL_law_932 : decode cL_law 932 = .ok (.aload_n 2, 1) := by decide +kernel
theorem dL_law_933 : decode cL_law 933 = .ok (.invokevirtual 132, 3) := by decide +kernel
theorem dL_law_936 : decode cL_law 936 = .ok (.if_icmp .eq 179, 3) := by decide +kernel
theorem dL_law_939 : decode cL_law 939 = .ok (.iconst 0, 1) := by decide +kernel
theorem dL_law_940 : decode cL_law 940 = .ok (.ireturn, 1) := by decide +kernel
theorem dL_law_941 : decode cL_law 941 = .ok (.aload_n 1, 1) := by decide +kernel
theorem dL_law_942 : decode cL_law 942 = .ok (.aload_n 0, 1) := by decide +kernel
theorem dL_law_943 : decode cL_law 943 = .ok (.iload_n 3, 1) := by decide +kernel
theorem dL_law_944 : decode cL_law 944 = .ok (.iconst 1, 1) := by decide +kernel
theorem dL_law_945 : decode cL_law 945 = .ok (.iadd, 1) := by decide +kernel
theorem dL_law_946 : decode cL_law 946 = .ok (.iaload, 1) := by decide +kernel
theorem dL_law_947 : decode cL_law 947 = .ok (.invokevirtual 133, 3) := by decide +kernel
theorem dL_law_950 : decode cL_law 950 = .ok (.aload_n 2, 1) := by decide +kernel
theorem dL_law_951 : decode cL_law 951 = .ok (.aload_n 0, 1) := by decide +kernel
theorem dL_law_952 : decode cL_law 952 = .ok (.iload_n 3, 1) := by decide +kernel
theorem dL_law_953 : decode cL_law 953 = .ok (.iconst 1, 1) := by decide +kernel
theorem dL_law_954 : decode cL_law 954 = .ok (.iadd, 1) := by decide +kernel
theorem dL_law_955 : decode cL_law 955 = .ok (.iaload, 1) := by decide +kernel
theorem dL_law_956 : decode cL_law 956 = .ok (.invokevirtual 136, 3) := by decide +kernel
theorem dL_law_959 : decode cL_law 959 = .ok (.if_icmp .eq 156, 3) := by decide +kernel
theorem dL_law_962 : decode cL_law 962 = .ok (.iconst 0, 1) := by decide +kernel
theorem dL_law_963 : decode cL_law 963 = .ok (.ireturn, 1) := by decide +kernel
theorem dL_law_964 : decode cL_law 964 = .ok (.aload_n 1, 1) := by decide +kernel
theorem dL_law_965 : decode cL_law 965 = .ok (.aload_n 0, 1) := by decide +kernel
theorem dL_law_966 : decode cL_law 966 = .ok (.iload_n 3, 1) := by decide +kernel
theorem dL_law_967 : decode cL_law 967 = .ok (.iconst 1, 1) := by decide +kernel
theorem dL_law_968 : decode cL_law 968 = .ok (.iadd, 1) := by decide +kernel
theorem dL_law_969 : decode cL_law 969 = .ok (.iaload, 1) := by decide +kernel
theorem dL_law_970 : decode cL_law 970 = .ok (.invokevirtual 137, 3) := by decide +kernel
theorem dL_law_973 : decode cL_law 973 = .ok (.aload_n 2, 1) := by decide +kernel
theorem dL_law_974 : decode cL_law 974 = .ok (.aload_n 0, 1) := by decide +kernel
theorem dL_law_975 : decode cL_law 975 = .ok (.iload_n 3, 1) := by decide +kernel
theorem dL_law_976 : decode cL_law 976 = .ok (.iconst 1, 1) := by decide +kernel
theorem dL_law_977 : decode cL_law 977 = .ok (.iadd, 1) := by decide +kernel
theorem dL_law_978 : decode cL_law 978 = .ok (.iaload, 1) := by decide +kernel
theorem dL_law_979 : decode cL_law 979 = .ok (.invokevirtual 140, 3) := by decide +kernel
theorem dL_law_982 : decode cL_law 982 = .ok (.if_icmp .eq 133, 3) := by decide +kernel
theorem dL_law_985 : decode cL_law 985 = .ok (.iconst 0, 1) := by decide +kernel
theorem dL_law_986 : decode cL_law 986 = .ok (.ireturn, 1) := by decide +kernel
theorem dL_law_987 : decode cL_law 987 = .ok (.aload_n 1, 1) := by decide +kernel
theorem dL_law_988 : decode cL_law 988 = .ok (.aload_n 0, 1) := by decide +kernel
theorem dL_law_989 : decode cL_law 989 = .ok (.iload_n 3, 1) := by decide +kernel
theorem dL_law_990 : decode cL_law 990 = .ok (.iconst 1, 1) := by decide +kernel
theorem dL_law_991 : decode cL_law 991 = .ok (.iadd, 1) := by decide +kernel
theorem dL_law_992 : decode cL_law 992 = .ok (.iaload, 1) := by decide +kernel
theorem dL_law_993 : decode cL_law 993 = .ok (.aload_n 0, 1) := by decide +kernel
theorem dL_law_994 : decode cL_law 994 = .ok (.iload_n 3, 1) := by decide +kernel
theorem dL_law_995 : decode cL_law 995 = .ok (.iconst 2, 1) := by decide +kernel
theorem dL_law_996 : decode cL_law 996 = .ok (.iadd, 1) := by decide +kernel
theorem dL_law_997 : decode cL_law 997 = .ok (.iaload, 1) := by decide +kernel
theorem dL_law_998 : decode cL_law 998 = .ok (.invokevirtual 141, 3) := by decide +kernel
theorem dL_law_1001 : decode cL_law 1001 = .ok (.aload_n 2, 1) := by decide +kernel
theorem dL_law_1002 : decode cL_law 1002 = .ok (.aload_n 0, 1) := by decide +kernel
theorem dL_law_1003 : decode cL_law 1003 = .ok (.iload_n 3, 1) := by decide +kernel
theorem dL_law_1004 : decode cL_law 1004 = .ok (.iconst 1, 1) := by decide +kernel
theorem dL_law_1005 : decode cL_law 1005 = .ok (.iadd, 1) := by decide +kernel
theorem dL_law_1006 : decode cL_law 1006 = .ok (.iaload, 1) := by decide +kernel
theorem dL_law_1007 : decode cL_law 1007 = .ok (.aload_n 0, 1) := by decide +kernel
theorem dL_law_1008 : decode cL_law 1008 = .ok (.iload_n 3, 1) := by decide +kernel
theorem dL_law_1009 : decode cL_law 1009 = .ok (.iconst 2, 1) := by decide +kernel
theorem dL_law_1010 : decode cL_law 1010 = .ok (.iadd, 1) := by decide +kernel
theorem dL_law_1011 : decode cL_law 1011 = .ok (.iaload, 1) := by decide +kernel
theorem dL_law_1012 : decode cL_law 1012 = .ok (.invokevirtual 144, 3) := by decide +kernel
theorem dL_law_1015 : decode cL_law 1015 = .ok (.if_icmp .eq 100, 3) := by decide +kernel
theorem dL_law_1018 : decode cL_law 1018 = .ok (.iconst 0, 1) := by decide +kernel
theorem dL_law_1019 : decode cL_law 1019 = .ok (.ireturn, 1) := by decide +kernel
theorem dL_law_1020 : decode cL_law 1020 = .ok (.aload_n 1, 1) := by decide +kernel
theorem dL_law_1021 : decode cL_law 1021 = .ok (.invokevirtual 145, 3) := by decide +kernel
theorem dL_law_1024 : decode cL_law 1024 = .ok (.aload_n 2, 1) := by decide +kernel
theorem dL_law_1025 : decode cL_law 1025 = .ok (.invokevirtual 148, 3) := by decide +kernel
theorem dL_law_1028 : decode cL_law 1028 = .ok (.if_icmp .eq 87, 3) := by decide +kernel
theorem dL_law_1031 : decode cL_law 1031 = .ok (.iconst 0, 1) := by decide +kernel
theorem dL_law_1032 : decode cL_law 1032 = .ok (.ireturn, 1) := by decide +kernel
theorem dL_law_1033 : decode cL_law 1033 = .ok (.aload_n 1, 1) := by decide +kernel
theorem dL_law_1034 : decode cL_law 1034 = .ok (.invokevirtual 149, 3) := by decide +kernel
theorem dL_law_1037 : decode cL_law 1037 = .ok (.aload_n 2, 1) := by decide +kernel
theorem dL_law_1038 : decode cL_law 1038 = .ok (.invokevirtual 152, 3) := by decide +kernel
theorem dL_law_1041 : decode cL_law 1041 = .ok (.if_icmp .eq 74, 3) := by decide +kernel
theorem dL_law_1044 : decode cL_law 1044 = .ok (.iconst 0, 1) := by decide +kernel
theorem dL_law_1045 : decode cL_law 1045 = .ok (.ireturn, 1) := by decide +kernel
theorem dL_law_1046 : decode cL_law 1046 = .ok (.aload_n 1, 1) := by decide +kernel
theorem dL_law_1047 : decode cL_law 1047 = .ok (.aload_n 0, 1) := by decide +kernel
theorem dL_law_1048 : decode cL_law 1048 = .ok (.iload_n 3, 1) := by decide +kernel
theorem dL_law_1049 : decode cL_law 1049 = .ok (.iconst 1, 1) := by decide +kernel
theorem dL_law_1050 : decode cL_law 1050 = .ok (.iadd, 1) := by decide +kernel
theorem dL_law_1051 : decode cL_law 1051 = .ok (.iaload, 1) := by decide +kernel
theorem dL_law_1052 : decode cL_law 1052 = .ok (.invokevirtual 153, 3) := by decide +kernel
theorem dL_law_1055 : decode cL_law 1055 = .ok (.aload_n 2, 1) := by decide +kernel
theorem dL_law_1056 : decode cL_law 1056 = .ok (.aload_n 0, 1) := by decide +kernel
theorem dL_law_1057 : decode cL_law 1057 = .ok (.iload_n 3, 1) := by decide +kernel
theorem dL_law_1058 : decode cL_law 1058 = .ok (.iconst 1, 1) := by decide +kernel
theorem dL_law_1059 : decode cL_law 1059 = .ok (.iadd, 1) := by decide +kernel
theorem dL_law_1060 : decode cL_law 1060 = .ok (.iaload, 1) := by decide +kernel
theorem dL_law_1061 : decode cL_law 1061 = .ok (.invokevirtual 156, 3) := by decide +kernel
theorem dL_law_1064 : decode cL_law 1064 = .ok (.if_icmp .eq 51, 3) := by decide +kernel
theorem dL_law_1067 : decode cL_law 1067 = .ok (.iconst 0, 1) := by decide +kernel
theorem dL_law_1068 : decode cL_law 1068 = .ok (.ireturn, 1) := by decide +kernel
theorem dL_law_1069 : decode cL_law 1069 = .ok (.aload_n 1, 1) := by decide +kernel
theorem dL_law_1070 : decode cL_law 1070 = .ok (.aload_n 0, 1) := by decide +kernel
theorem dL_law_1071 : decode cL_law 1071 = .ok (.iload_n 3, 1) := by decide +kernel
theorem dL_law_1072 : decode cL_law 1072 = .ok (.iconst 1, 1) := by decide +kernel
theorem dL_law_1073 : decode cL_law 1073 = .ok (.iadd, 1) := by decide +kernel
theorem dL_law_1074 : decode cL_law 1074 = .ok (.iaload, 1) := by decide +kernel
theorem dL_law_1075 : decode cL_law 1075 = .ok (.invokevirtual 157, 3) := by decide +kernel
theorem dL_law_1078 : decode cL_law 1078 = .ok (.aload_n 2, 1) := by decide +kernel
theorem dL_law_1079 : decode cL_law 1079 = .ok (.aload_n 0, 1) := by decide +kernel
theorem dL_law_1080 : decode cL_law 1080 = .ok (.iload_n 3, 1) := by decide +kernel
theorem dL_law_1081 : decode cL_law 1081 = .ok (.iconst 1, 1) := by decide +kernel
theorem dL_law_1082 : decode cL_law 1082 = .ok (.iadd, 1) := by decide +kernel
theorem dL_law_1083 : decode cL_law 1083 = .ok (.iaload, 1) := by decide +kernel
theorem dL_law_1084 : decode cL_law 1084 = .ok (.invokevirtual 160, 3) := by decide +kernel
theorem dL_law_1087 : decode cL_law 1087 = .ok (.if_icmp .eq 28, 3) := by decide +kernel
theorem dL_law_1090 : decode cL_law 1090 = .ok (.iconst 0, 1) := by decide +kernel
theorem dL_law_1091 : decode cL_law 1091 = .ok (.ireturn, 1) := by decide +kernel
theorem dL_law_1092 : decode cL_law 1092 = .ok (.aload_n 1, 1) := by decide +kernel
theorem dL_law_1093 : decode cL_law 1093 = .ok (.aload_n 0, 1) := by decide +kernel
theorem dL_law_1094 : decode cL_law 1094 = .ok (.iload_n 3, 1) := by decide +kernel
theorem dL_law_1095 : decode cL_law 1095 = .ok (.iconst 1, 1) := by decide +kernel
theorem dL_law_1096 : decode cL_law 1096 = .ok (.iadd, 1) := by decide +kernel
theorem dL_law_1097 : decode cL_law 1097 = .ok (.iaload, 1) := by decide +kernel
theorem dL_law_1098 : decode cL_law 1098 = .ok (.invokevirtual 161, 3) := by decide +kernel
theorem dL_law_1101 : decode cL_law 1101 = .ok (.aload_n 2, 1) := by decide +kernel
theorem dL_law_1102 : decode cL_law 1102 = .ok (.aload_n 0, 1) := by decide +kernel
theorem dL_law_1103 : decode cL_law 1103 = .ok (.iload_n 3, 1) := by decide +kernel
theorem dL_law_1104 : decode cL_law 1104 = .ok (.iconst 1, 1) := by decide +kernel
theorem dL_law_1105 : decode cL_law 1105 = .ok (.iadd, 1) := by decide +kernel
theorem dL_law_1106 : decode cL_law 1106 = .ok (.iaload, 1) := by decide +kernel
theorem dL_law_1107 : decode cL_law 1107 = .ok (.invokevirtual 164, 3) := by decide +kernel
theorem dL_law_1110 : decode cL_law 1110 = .ok (.if_icmp .eq 5, 3) := by decide +kernel
theorem dL_law_1113 : decode cL_law 1113 = .ok (.iconst 0, 1) := by decide +kernel
theorem dL_law_1114 : decode cL_law 1114 = .ok (.ireturn, 1) := by decide +kernel
theorem dL_law_1115 : decode cL_law 1115 = .ok (.iinc 3 3, 3) := by decide +kernel
theorem dL_law_1118 : decode cL_law 1118 = .ok (.goto (-1100), 3) := by decide +kernel
theorem dL_law_1121 : decode cL_law 1121 = .ok (.iconst 1, 1) := by decide +kernel
theorem dL_law_1122 : decode cL_law 1122 = .ok (.ireturn, 1) := by decide +kernel
end
section
/-! memory: how many cells there are; ints, longs and references by cell and place. A reference is a cell's number; the cell of number a lies at b0 + a -/
abbrev Mem : Type := Nat × (Nat → Nat → Int32) × (Nat → Nat → Int64) × (Nat → Nat → Option Nat)
def GL : List (Nat × Nat) := [(8, 0), (6, 0), (2, 0), (10, 12), (10, 12), (10, 6), (10, 6), (10, 240), (2, 0), (10, 12), (10, 12), (10, 6), (10, 6), (5, 0), (4, 0), (10, 8), (7, 0), (10, 16), (10, 16), (10, 16), (10, 16), (10, 8), (10, 6), (3, 0), (14, 16), (5, 0), (4, 0), (10, 8), (7, 0), (10, 16), (10, 16), (10, 16), (10, 16), (10, 8), (10, 6), (5, 0), (4, 0), (10, 8), (7, 0), (10, 16), (10, 16), (10, 16), (10, 16), (10, 8), (10, 6), (5, 0), (4, 0), (10, 8), (7, 0), (10, 16), (10, 16), (10, 16), (10, 16), (10, 8), (10, 6), (5, 0), (4, 0), (10, 8), (7, 0), (10, 16), (10, 16), (10, 16), (10, 16), (10, 8), (10, 6), (5, 0), (4, 0), (10, 8), (7, 0), (10, 16), (10, 16), (10, 16), (10, 16), (10, 8), (10, 6), (5, 0), (4, 0), (10, 8), (7, 0), (10, 16), (10, 16), (10, 16), (10, 16), (10, 8), (10, 6), (5, 0), (4, 0), (10, 8), (7, 0), (10, 16), (10, 16), (10, 16), (10, 16), (10, 8), (10, 6), (5, 0), (4, 0), (10, 8), (7, 0), (10, 16), (10, 16), (10, 16), (10, 16), (10, 8), (10, 6), (5, 0), (4, 0), (10, 8), (7, 0), (10, 16), (10, 16), (10, 16), (10, 16), (10, 8), (10, 6), (5, 0), (4, 0), (10, 8), (7, 0), (10, 16), (10, 16), (10, 16), (10, 16), (10, 8), (10, 6), (5, 0), (4, 0), (10, 8), (7, 0), (10, 16), (10, 16), (10, 16), (10, 16), (10, 8), (10, 6), (5, 0), (4, 0), (10, 8), (7, 0), (10, 16), (10, 16), (10, 16), (10, 16), (10, 8), (10, 6), (5, 0), (4, 0), (10, 8), (7, 0), (10, 16), (10, 16), (10, 16), (10, 16), (10, 8), (10, 6), (5, 0), (4, 0), (10, 8), (7, 0), (10, 16), (10, 16), (10, 16), (10, 16), (10, 8), (10, 6), (5, 0), (4, 0), (10, 8), (7, 0), (10, 16), (10, 16), (10, 16), (10, 16), (10, 8), (10, 6), (5, 0), (4, 0), (10, 8), (7, 0), (10, 16), (10, 16), (10, 16), (10, 16), (10, 8), (10, 6), (13, 2), (0, 0), (10, 15), (10, 15), (4, 0), (10, 8), (4, 0), (10, 8), (10, 8), (1, 0), (5, 0), (4, 0), (10, 8), (7, 0), (10, 16), (10, 16), (10, 16), (10, 16), (10, 8), (10, 6), (1, 0), (5, 0), (4, 0), (10, 8), (7, 0), (10, 16), (10, 16), (10, 16), (10, 16), (10, 8), (10, 6), (9, 0), (10, 12), (10, 12), (10, 6), (11, 80), (10, 240), (10, 56), (11, 1280), (11, 80), (10, 8), (12, 64), (10, 8), (10, 8), (10, 101), (10, 30), (11, 162), (12, 2)]
def kd (a : Nat) : Nat := (GL.getD a (99, 0)).1
def ln (a : Nat) : Nat := (GL.getD a (99, 0)).2
def ft : Nat → List Nat := fun ci => match ci with | 0 => [0, 2, 2] | 1 => [0, 0, 2] | 2 => [0, 0, 0, 0, 0, 0, 0, 2, 2, 2, 2] | 3 => [0, 0, 2] | 4 => [0, 0, 0, 0, 0, 0, 0, 2] | 5 => [2, 2, 0, 0, 0, 0, 2, 2] | 6 => [0, 0, 0, 2, 2, 0, 0] | 7 => [0, 0, 2, 2, 2, 2] | 8 => [2, 2, 2, 2, 2, 2, 0, 2, 2, 2] | 9 => [0, 0, 0, 0, 2, 2, 2, 2, 1, 2, 0, 0, 0, 0, 2, 2, 0, 2, 2, 2, 2, 2, 2, 2, 0, 2, 2] | _ => []
def fval (b0 : Nat) (S : Mem) (a t k : Nat) : Value := if t = 0 then .int (S.2.1 a k) else if t = 1 then .long (S.2.2.1 a k) else va_rf ((S.2.2.2 a k).map (fun z => b0 + z))
def flds (b0 : Nat) (S : Mem) (a ci : Nat) : List Value := (List.range (ft ci).length).map (fun k => fval b0 S a ((ft ci).getD k 0) k)
def rfs (b0 : Nat) (S : Mem) (a : Nat) : Nat → Option Nat := fun k => (S.2.2.2 a k).map (fun z => b0 + z)
def cel (b0 : Nat) (cy : Nat → ClassId) (S : Mem) (a : Nat) : va_E :=
  if kd a < 10 then .inr (kd a, flds b0 S a (kd a))
  else if kd a = 10 then .inl (cy 0, ln a, .inl (S.2.1 a))
  else if kd a = 11 then .inl (cy 1, ln a, .inr (.inl (S.2.2.1 a)))
  else if kd a = 12 then .inl (cy 2, ln a, .inl (S.2.1 a))
  else if kd a = 13 then .inl (cy 3, ln a, .inr (.inr (.inr (.inr (rfs b0 S a)))))
  else .inl (cy 4, ln a, .inr (.inr (.inr (.inr (rfs b0 S a)))))
def wl (b0 : Nat) (cy : Nat → ClassId) (S : Mem) : va_W := (List.range S.1).map (fun a => (b0 + a, cel b0 cy S a))
def tyl (cy : Nat → ClassId) : List (ClassId × FieldType) := [(cy 0, .int), (cy 1, .long), (cy 2, .boolean), (cy 3, .object "SlipperDuke$Image"), (cy 4, .object "SlipperDuke$State")]
/-! operations; what can't be done is none -/
def ck (ci : Nat) (S : Mem) (a : Nat) : Option Unit := if a < S.1 ∧ kd a = ci then some () else none
def gI (ci k : Nat) (S : Mem) (a : Nat) : Option Int32 := if a < S.1 ∧ kd a = ci then some (S.2.1 a k) else none
def gJ (ci k : Nat) (S : Mem) (a : Nat) : Option Int64 := if a < S.1 ∧ kd a = ci then some (S.2.2.1 a k) else none
def gR (ci k : Nat) (S : Mem) (a : Nat) : Option Nat := if a < S.1 ∧ kd a = ci then S.2.2.2 a k else none
def rowI (S : Mem) (a : Nat) (f : Nat → Int32) : Mem := (S.1, (fun x => if x = a then f else S.2.1 x), S.2.2.1, S.2.2.2)
def rowJ (S : Mem) (a : Nat) (f : Nat → Int64) : Mem := (S.1, S.2.1, (fun x => if x = a then f else S.2.2.1 x), S.2.2.2)
def rowR (S : Mem) (a : Nat) (f : Nat → Option Nat) : Mem := (S.1, S.2.1, S.2.2.1, (fun x => if x = a then f else S.2.2.2 x))
def pI (ci k : Nat) (S : Mem) (a : Nat) (v : Int32) : Option Mem := if a < S.1 ∧ kd a = ci then some (rowI S a (upd (S.2.1 a) k v)) else none
def pJ (ci k : Nat) (S : Mem) (a : Nat) (v : Int64) : Option Mem := if a < S.1 ∧ kd a = ci then some (rowJ S a (vp_updL (S.2.2.1 a) k v)) else none
def pR (ci k : Nat) (S : Mem) (a : Nat) (v : Nat) : Option Mem := if a < S.1 ∧ kd a = ci then some (rowR S a (va_up (S.2.2.2 a) k (some v))) else none
def pZ (ci k : Nat) (S : Mem) (a : Nat) (v : Int32) : Option Mem := if (a < S.1 ∧ kd a = ci) ∧ (v = 0 ∨ v = 1) then some (rowI S a (upd (S.2.1 a) k v)) else none
def ldI (S : Mem) (a : Nat) (i : Int32) : Option Int32 := if (a < S.1 ∧ kd a = 10) ∧ ¬ i < 0 ∧ i.toNatClampNeg < ln a then some (S.2.1 a i.toNatClampNeg) else none
def ldJ (S : Mem) (a : Nat) (i : Int32) : Option Int64 := if (a < S.1 ∧ kd a = 11) ∧ ¬ i < 0 ∧ i.toNatClampNeg < ln a then some (S.2.2.1 a i.toNatClampNeg) else none
def ldZ (S : Mem) (a : Nat) (i : Int32) : Option Int32 := if (a < S.1 ∧ kd a = 12) ∧ ¬ i < 0 ∧ i.toNatClampNeg < ln a then some (S.2.1 a i.toNatClampNeg) else none
def ldR (q : Nat) (S : Mem) (a : Nat) (i : Int32) : Option Nat := if (a < S.1 ∧ kd a = q) ∧ ¬ i < 0 ∧ i.toNatClampNeg < ln a then S.2.2.2 a i.toNatClampNeg else none
def stI (S : Mem) (a : Nat) (i v : Int32) : Option Mem := if (a < S.1 ∧ kd a = 10) ∧ ¬ i < 0 ∧ i.toNatClampNeg < ln a then some (rowI S a (upd (S.2.1 a) i.toNatClampNeg v)) else none
def stJ (S : Mem) (a : Nat) (i : Int32) (v : Int64) : Option Mem := if (a < S.1 ∧ kd a = 11) ∧ ¬ i < 0 ∧ i.toNatClampNeg < ln a then some (rowJ S a (vp_updL (S.2.2.1 a) i.toNatClampNeg v)) else none
def stZ (S : Mem) (a : Nat) (i v : Int32) : Option Mem := if ((a < S.1 ∧ kd a = 12) ∧ ¬ i < 0 ∧ i.toNatClampNeg < ln a) ∧ (v = 0 ∨ v = 1) then some (rowI S a (upd (S.2.1 a) i.toNatClampNeg v)) else none
def stR (q ci : Nat) (S : Mem) (a : Nat) (i : Int32) (v : Nat) : Option Mem := if ((a < S.1 ∧ kd a = q) ∧ ¬ i < 0 ∧ i.toNatClampNeg < ln a) ∧ (v < S.1 ∧ kd v = ci) then some (rowR S a (va_up (S.2.2.2 a) i.toNatClampNeg (some v))) else none
def newC (S : Mem) : Mem := (S.1 + 1, (fun x => if x = S.1 then (fun _ => 0) else S.2.1 x), (fun x => if x = S.1 then (fun _ => 0) else S.2.2.1 x), (fun x => if x = S.1 then (fun _ => none) else S.2.2.2 x))
def newO (ci : Nat) (S : Mem) : Option Mem := if kd S.1 = ci then some (newC S) else none
def newA (q : Nat) (n : Int32) (S : Mem) : Option Mem := if kd S.1 = q ∧ ¬ n < 0 ∧ n.toNatClampNeg = ln S.1 then some (newC S) else none
def cpI (S : Mem) (a : Nat) (i : Int32) (b : Nat) (j n : Int32) : Option Mem := if ((a < S.1 ∧ kd a = 10) ∧ (b < S.1 ∧ kd b = 10)) ∧ (¬ i < 0 ∧ ¬ j < 0 ∧ ¬ n < 0) ∧ (i.toNatClampNeg + n.toNatClampNeg ≤ ln a ∧ j.toNatClampNeg + n.toNatClampNeg ≤ ln b) then some (rowI S b (va_cpy (S.2.1 a) (S.2.1 b) i.toNatClampNeg j.toNatClampNeg n.toNatClampNeg)) else none
def lnI (S : Mem) (a : Nat) : Option Int32 := if a < S.1 ∧ kd a = 10 then some (Int32.ofNat (ln a)) else none
def zok (v : Int32) : Option Int32 := if v = 0 ∨ v = 1 then some v else none
def dvI (x y : Int32) : Option Int32 := if y = 0 then none else some (x / y)
def rmI (x y : Int32) : Option Int32 := if y = 0 then none else some (x - x / y * y)
def dvJ (x y : Int64) : Option Int64 := if y = 0 then none else some (x / y)
def rmJ (x y : Int64) : Option Int64 := if y = 0 then none else some (x - x / y * y)
def FU : Nat := 5000
/-! the list of the cells -/
theorem wl_get {b0 : Nat} {cy : Nat → ClassId} {S : Mem} {a : Nat} (h : a < S.1) : (wl b0 cy S)[a]? = some (b0 + a, cel b0 cy S a) := by
  simp [wl, h]
theorem wl_inv {b0 : Nat} {cy : Nat → ClassId} {S : Mem} {k : Nat} {q : Nat × va_E} (h : (wl b0 cy S)[k]? = some q) : k < S.1 ∧ q = (b0 + k, cel b0 cy S k) := by
  by_cases hk : k < S.1
  · rw [wl_get hk] at h
    exact ⟨hk, (Option.some.inj h).symm⟩
  · simp [wl, hk] at h
theorem wl_D {b0 : Nat} {cy : Nat → ClassId} {S : Mem} : va_D (fun q => b0 ≤ q) (wl b0 cy S) := by
  refine ⟨fun i j p q hi hj e => ?_, fun k q hk => ?_⟩
  · obtain ⟨-, rfl⟩ := wl_inv hi
    obtain ⟨-, rfl⟩ := wl_inv hj
    dsimp only at e
    omega
  · obtain ⟨-, rfl⟩ := wl_inv hk
    exact Nat.le_add_right _ _
theorem wl_set {b0 : Nat} {cy : Nat → ClassId} {S S' : Mem} {a : Nat} {e : va_E} (ha : a < S.1) (hN : S'.1 = S.1) (hne : ∀ x, x ≠ a → cel b0 cy S' x = cel b0 cy S x) (he : cel b0 cy S' a = e) : (wl b0 cy S).set a (b0 + a, e) = wl b0 cy S' := by
  apply List.ext_getElem?
  intro k
  by_cases hk : k < S.1
  · rw [wl_get (hN ▸ hk : k < S'.1)]
    by_cases hka : a = k
    · subst hka
      rw [List.getElem?_set_self (by simp [wl]; exact ha), he]
    · rw [List.getElem?_set_ne hka, wl_get hk, hne k (fun h => hka h.symm)]
  · have h1 : (wl b0 cy S').length ≤ k := by simp [wl, hN]; omega
    have h2 : ((wl b0 cy S).set a (b0 + a, e)).length ≤ k := by simp [wl]; omega
    rw [List.getElem?_eq_none h1, List.getElem?_eq_none h2]
theorem cel_congr {b0 : Nat} {cy : Nat → ClassId} {S S' : Mem} {x : Nat} (h1 : S'.2.1 x = S.2.1 x) (h2 : S'.2.2.1 x = S.2.2.1 x) (h3 : S'.2.2.2 x = S.2.2.2 x) : cel b0 cy S' x = cel b0 cy S x := by
  have e1 : rfs b0 S' x = rfs b0 S x := by funext k; simp only [rfs, h3]
  have e2 : flds b0 S' x (kd x) = flds b0 S x (kd x) := by simp only [flds, fval, h1, h2, h3]
  unfold cel
  rw [e1, e2, h1, h2]
theorem wl_new {b0 : Nat} {cy : Nat → ClassId} {S : Mem} {e : va_E} (he : cel b0 cy (newC S) S.1 = e) : wl b0 cy S ++ [(b0 + S.1, e)] = wl b0 cy (newC S) := by
  have h1 : ∀ x, x ∈ List.range S.1 → (b0 + x, cel b0 cy S x) = (b0 + x, cel b0 cy (newC S) x) := by
    intro x hx
    have hx' : x ≠ S.1 := Nat.ne_of_lt (List.mem_range.mp hx)
    rw [cel_congr (S := S) (S' := newC S) (by simp [newC, hx']) (by simp [newC, hx']) (by simp [newC, hx'])]
  show (List.range S.1).map _ ++ _ = (List.range (S.1 + 1)).map _
  rw [List.range_succ, List.map_append, List.map_congr_left h1, ← he]
  rfl
theorem cel_O {b0 : Nat} {cy : Nat → ClassId} {S : Mem} {a ci : Nat} (h : kd a = ci) (hc : ci < 10) : cel b0 cy S a = .inr (ci, flds b0 S a ci) := by
  simp [cel, h, hc]
theorem cel_I {b0 : Nat} {cy : Nat → ClassId} {S : Mem} {a : Nat} (h : kd a = 10) : cel b0 cy S a = .inl (cy 0, ln a, .inl (S.2.1 a)) := by
  simp [cel, h]
theorem cel_J {b0 : Nat} {cy : Nat → ClassId} {S : Mem} {a : Nat} (h : kd a = 11) : cel b0 cy S a = .inl (cy 1, ln a, .inr (.inl (S.2.2.1 a))) := by
  simp [cel, h]
theorem cel_Z {b0 : Nat} {cy : Nat → ClassId} {S : Mem} {a : Nat} (h : kd a = 12) : cel b0 cy S a = .inl (cy 2, ln a, .inl (S.2.1 a)) := by
  simp [cel, h]
theorem cel_13 {b0 : Nat} {cy : Nat → ClassId} {S : Mem} {a : Nat} (h : kd a = 13) : cel b0 cy S a = .inl (cy 3, ln a, .inr (.inr (.inr (.inr (rfs b0 S a))))) := by
  simp [cel, h]
theorem cel_14 {b0 : Nat} {cy : Nat → ClassId} {S : Mem} {a : Nat} (h : kd a = 14) : cel b0 cy S a = .inl (cy 4, ln a, .inr (.inr (.inr (.inr (rfs b0 S a))))) := by
  simp [cel, h]
theorem cel_rowI {b0 : Nat} {cy : Nat → ClassId} {S : Mem} {a : Nat} {f : Nat → Int32} : ∀ x, x ≠ a → cel b0 cy (rowI S a f) x = cel b0 cy S x := by
  intro x hx
  exact cel_congr (by simp [rowI, hx]) (by simp [rowI, hx]) (by simp [rowI, hx])
theorem cel_rowJ {b0 : Nat} {cy : Nat → ClassId} {S : Mem} {a : Nat} {f : Nat → Int64} : ∀ x, x ≠ a → cel b0 cy (rowJ S a f) x = cel b0 cy S x := by
  intro x hx
  exact cel_congr (by simp [rowJ, hx]) (by simp [rowJ, hx]) (by simp [rowJ, hx])
theorem cel_rowR {b0 : Nat} {cy : Nat → ClassId} {S : Mem} {a : Nat} {f : Nat → Option Nat} : ∀ x, x ≠ a → cel b0 cy (rowR S a f) x = cel b0 cy S x := by
  intro x hx
  exact cel_congr (by simp [rowR, hx]) (by simp [rowR, hx]) (by simp [rowR, hx])
theorem ft_lt {ci k t : Nat} (hf : (ft ci).getD k 9 = t) (ht : t ≠ 9) : k < (ft ci).length ∧ (ft ci).getD k 0 = t := by
  rw [List.getD_eq_getElem?_getD] at hf
  cases h : (ft ci)[k]? with
  | none => rw [h] at hf; exact absurd hf.symm ht
  | some v =>
    rw [h] at hf
    refine ⟨(List.getElem?_eq_some_iff.mp h).1, ?_⟩
    rw [List.getD_eq_getElem?_getD, h]
    exact hf
theorem flds_get {b0 : Nat} {S : Mem} {a ci k : Nat} (h : k < (ft ci).length) : (flds b0 S a ci)[k]? = some (fval b0 S a ((ft ci).getD k 0) k) := by
  simp [flds, h]
theorem flds_len {b0 : Nat} {S : Mem} {a ci : Nat} : (flds b0 S a ci).length = (ft ci).length := by
  simp [flds]
theorem flds_set {b0 : Nat} {S S' : Mem} {a ci k : Nat} {v : Value} (hk : k < (ft ci).length) (h1 : fval b0 S' a ((ft ci).getD k 0) k = v) (h2 : ∀ j, j ≠ k → fval b0 S' a ((ft ci).getD j 0) j = fval b0 S a ((ft ci).getD j 0) j) : (flds b0 S a ci).set k v = flds b0 S' a ci := by
  apply List.ext_getElem?
  intro j
  by_cases hj : j < (ft ci).length
  · rw [flds_get hj]
    by_cases hjk : k = j
    · subst hjk
      rw [List.getElem?_set_self (by rw [flds_len]; exact hk), h1]
    · rw [List.getElem?_set_ne hjk, flds_get hj, h2 j (fun h => hjk h.symm)]
  · have e1 : ((flds b0 S a ci).set k v).length ≤ j := by rw [List.length_set, flds_len]; omega
    have e2 : (flds b0 S' a ci).length ≤ j := by rw [flds_len]; omega
    rw [List.getElem?_eq_none e1, List.getElem?_eq_none e2]
theorem flds_setI {b0 : Nat} {S : Mem} {a ci k : Nat} {v : Int32} (hf : (ft ci).getD k 9 = 0) : (flds b0 S a ci).set k (.int v) = flds b0 (rowI S a (upd (S.2.1 a) k v)) a ci := by
  obtain ⟨hk, h0⟩ := ft_lt hf (by decide)
  refine flds_set hk ?_ (fun j hj => ?_)
  · rw [h0]; simp [fval, rowI, upd]
  · simp [fval, rowI, upd, hj]
theorem flds_setJ {b0 : Nat} {S : Mem} {a ci k : Nat} {v : Int64} (hf : (ft ci).getD k 9 = 1) : (flds b0 S a ci).set k (.long v) = flds b0 (rowJ S a (vp_updL (S.2.2.1 a) k v)) a ci := by
  obtain ⟨hk, h0⟩ := ft_lt hf (by decide)
  refine flds_set hk ?_ (fun j hj => ?_)
  · rw [h0]; simp [fval, rowJ, vp_updL]
  · simp [fval, rowJ, vp_updL, hj]
theorem flds_setR {b0 : Nat} {S : Mem} {a ci k : Nat} {v : Nat} (hf : (ft ci).getD k 9 = 2) : (flds b0 S a ci).set k (.ref (b0 + v)) = flds b0 (rowR S a (va_up (S.2.2.2 a) k (some v))) a ci := by
  obtain ⟨hk, h0⟩ := ft_lt hf (by decide)
  refine flds_set hk ?_ (fun j hj => ?_)
  · rw [h0]; simp [fval, rowR, va_up, va_rf]
  · simp [fval, rowR, va_up, hj]
end
section
/-! the tables' words, at every state of the run -/
def okw : Cond → Bool
  | .methodLinkNest _ _ _ _ => true
  | .arrayOver (.object _) => true
  | w => goodWord w
def tb : List Cond := lw_tbl.filter okw
theorem tb_ok : ∀ w ∈ tb, okw w = true := fun w h => (List.mem_filter.mp h).2
theorem tb_in {w : Cond} {i : Nat} (h : lw_tbl[i]? = some w) (hk : okw w = true) : w ∈ tb := List.mem_filter.mpr ⟨List.mem_of_getElem? h, hk⟩
def TB (U : State) : Prop := ∀ w ∈ tb, ∀ a : Array Value, w.before a U = true
theorem okw_warm {w : Cond} (hk : okw w = true) {s U : State} (hW : s.WarmedH U.vm) (h : ∀ a : Array Value, w.before a s = true) (a : Array Value) : w.before a U = true := by
  unfold okw at hk
  split at hk
  · exact va_Nw.use rfl (va_Nw.warmM hW (h #[]))
  · exact va_AO.use (va_AO.moved hW.alike (va_AO.of (h #[])))
  · exact word_at hW (good_of_word hk) (h #[])
theorem TB.warm {s U : State} (hW : s.WarmedH U.vm) (h : TB s) : TB U := fun w hw a => okw_warm (tb_ok w hw) hW (h w hw) a
/-! a method's context; its world; its start and end -/
def Cx (p : Program) (m : MethodId) (c : Code) (cc : ByteArray) (nL : Nat) (s : State) (args : Array Value) (own : String) (D : va_G) (cy : Nat → ClassId) : Prop :=
  CallFix p m c cc nL s args tb own ∧ va_K D vwCl (tyl cy) s ∧ TB s
def Wd (b0 : Nat) (D : va_G) (cy : Nat → ClassId) (S : Mem) (H0 H : Heap) (locs : List Loc) : Prop :=
  va_P D vwCl (wl b0 cy S) H ∧ va_S (fun q => b0 ≤ q) H0 H locs
def Pr (b0 : Nat) (D : va_G) (cy : Nat → ClassId) (S : Mem) (av : List Value) : Array Value → State → Prop :=
  va_Pc av (fun U => va_P D vwCl (wl b0 cy S) U.heap ∧ va_K D vwCl (tyl cy) U ∧ TB U)
def Qp (b0 : Nat) (D : va_G) (cy : Nat → ClassId) (v : Option Value) (S : Mem) : Array Value → State → Outcome → State → Prop :=
  fun _ st oc t => (oc = .returned v ∧ va_P D vwCl (wl b0 cy S) t.heap) ∧ va_F (fun q => b0 ≤ q) st t
/-- the same for what makes cells: where the heap ends -/
def PrN (b0 : Nat) (D : va_G) (cy : Nat → ClassId) (S : Mem) (av : List Value) : Array Value → State → Prop :=
  va_Pc av (fun U => U.heap.size = b0 + S.1 ∧ va_P D vwCl (wl b0 cy S) U.heap ∧ va_K D vwCl (tyl cy) U ∧ TB U)
theorem Pr_blind {b0 : Nat} {D : va_G} {cy : Nat → ClassId} {S : Mem} {av : List Value} : FrameBlind (Pr b0 D cy S av) :=
  fun a U g mk q => ⟨q.1, q.2.1, va_K.moved (u := U) (U := U.calling g mk a) (Vm.Alike.refl U.vm) q.2.2.1, TB.warm (s := U) (U := U.calling g mk a) (State.WarmedH.refl U) q.2.2.2⟩
theorem PrN_blind {b0 : Nat} {D : va_G} {cy : Nat → ClassId} {S : Mem} {av : List Value} : FrameBlind (PrN b0 D cy S av) :=
  fun a U g mk q => ⟨q.1, q.2.1, q.2.2.1, va_K.moved (u := U) (U := U.calling g mk a) (Vm.Alike.refl U.vm) q.2.2.2.1, TB.warm (s := U) (U := U.calling g mk a) (State.WarmedH.refl U) q.2.2.2.2⟩
section QR
variable {p : Program} {l : Launch} {e : Env} {R : Room} {s : State} {m : MethodId} {args : Array Value} {below : List Frame} {meth : Method} {c : Code} {H : Heap} {locs : List Loc} {cells slots : Nat} {Q : State → Prop}
variable {cc : ByteArray} {nL pc : Nat} {ls : Array Slot} {rest : List Value} {b0 : Nat} {D : va_G} {cy : Nat → ClassId} {S : Mem} {own : String}
theorem Cx.hx (C0 : Cx p m c cc nL s args own D cy) : p.tables.exec = Jvm.exec := C0.1.1
theorem Cx.hb (C0 : Cx p m c cc nL s args own D cy) : c.code = cc := C0.1.2.1
theorem Cx.ho (C0 : Cx p m c cc nL s args own D cy) : s.vm.findClass own = some m.cls := C0.1.2.2.2.1
theorem Cx.w (C0 : Cx p m c cc nL s args own D cy) {w : Cond} (h : w ∈ tb) : w.before args s = true := C0.2.2 w h args
theorem W_size {g : JFrame} (k : H.size ≤ s.heap.size + cells → W p l e R s m args below meth c H locs cells slots Q g) : W p l e R s m args below meth c H locs cells slots Q g :=
  fun T hT X => k (by rw [← hT]; exact X.heapSize) T hT X
theorem q_getI {C : String} {T : u_T} {N ci index k a : Nat} {x : Int32} (C0 : Cx p m c cc nL s args own D cy) (hw : Wd b0 D cy S s.heap H locs) (h : gI ci k S a = some x) (hc : vwCl[ci]? = some (C, T, N)) (hin : ∀ w ∈ u_ws C T N, w ∈ tb) (hf : ci < 10 ∧ k < N ∧ (ft ci).getD k 9 = 0) (hl : Cond.fieldLink own index (T k).1 (T k).2.1 (T k).2.2.1 ∈ tb) (hdg : decode cc pc = .ok (.getfield index, 3))
    (kk : W p l e R s m args below meth c H locs cells slots Q (F0 m (pc + 3) ls (.int x :: rest))) : W p l e R s m args below meth c H locs cells slots Q (F0 m pc ls (.ref (b0 + a) :: rest)) := by
  unfold gI at h
  split at h
  case isTrue hh =>
    obtain ⟨h1, h2⟩ := ft_lt hf.2.2 (by decide)
    refine va_get (fs := flds b0 S a ci) C0.hx C0.hb (fun w hw => C0.w hw) hin C0.ho C0.2.1 hw.1 a (by rw [wl_get hh.1, cel_O hh.2 hf.1]) hc k hf.2.1 (C0.w hl) (fun _ h => h) (v := .int x) ?_ hdg kk
    rw [flds_get h1, h2, ← Option.some.inj h]
    rfl
  case isFalse => cases h
theorem q_getJ {C : String} {T : u_T} {N ci index k a : Nat} {x : Int64} (C0 : Cx p m c cc nL s args own D cy) (hw : Wd b0 D cy S s.heap H locs) (h : gJ ci k S a = some x) (hc : vwCl[ci]? = some (C, T, N)) (hin : ∀ w ∈ u_ws C T N, w ∈ tb) (hf : ci < 10 ∧ k < N ∧ (ft ci).getD k 9 = 1) (hl : Cond.fieldLink own index (T k).1 (T k).2.1 (T k).2.2.1 ∈ tb) (hdg : decode cc pc = .ok (.getfield index, 3))
    (kk : W p l e R s m args below meth c H locs cells slots Q (F0 m (pc + 3) ls (.long x :: rest))) : W p l e R s m args below meth c H locs cells slots Q (F0 m pc ls (.ref (b0 + a) :: rest)) := by
  unfold gJ at h
  split at h
  case isTrue hh =>
    obtain ⟨h1, h2⟩ := ft_lt hf.2.2 (by decide)
    refine va_get (fs := flds b0 S a ci) C0.hx C0.hb (fun w hw => C0.w hw) hin C0.ho C0.2.1 hw.1 a (by rw [wl_get hh.1, cel_O hh.2 hf.1]) hc k hf.2.1 (C0.w hl) (fun _ h => h) (v := .long x) ?_ hdg kk
    rw [flds_get h1, h2, ← Option.some.inj h]
    rfl
  case isFalse => cases h
theorem q_getR {C : String} {T : u_T} {N ci index k a : Nat} {x : Nat} (C0 : Cx p m c cc nL s args own D cy) (hw : Wd b0 D cy S s.heap H locs) (h : gR ci k S a = some x) (hc : vwCl[ci]? = some (C, T, N)) (hin : ∀ w ∈ u_ws C T N, w ∈ tb) (hf : ci < 10 ∧ k < N ∧ (ft ci).getD k 9 = 2) (hl : Cond.fieldLink own index (T k).1 (T k).2.1 (T k).2.2.1 ∈ tb) (hdg : decode cc pc = .ok (.getfield index, 3))
    (kk : W p l e R s m args below meth c H locs cells slots Q (F0 m (pc + 3) ls (.ref (b0 + x) :: rest))) : W p l e R s m args below meth c H locs cells slots Q (F0 m pc ls (.ref (b0 + a) :: rest)) := by
  unfold gR at h
  split at h
  case isTrue hh =>
    obtain ⟨h1, h2⟩ := ft_lt hf.2.2 (by decide)
    refine va_get (fs := flds b0 S a ci) C0.hx C0.hb (fun w hw => C0.w hw) hin C0.ho C0.2.1 hw.1 a (by rw [wl_get hh.1, cel_O hh.2 hf.1]) hc k hf.2.1 (C0.w hl) (fun _ h => h) (v := .ref (b0 + x)) ?_ hdg kk
    rw [flds_get h1, h2]
    simp [fval, h, va_rf]
  case isFalse => cases h
theorem Wd.row {S' : Mem} {a : Nat} {e' : va_E} {H1 : Heap} {locs1 : List Loc} (ha : a < S.1) (hN : S'.1 = S.1) (hne : ∀ x, x ≠ a → cel b0 cy S' x = cel b0 cy S x) (he : cel b0 cy S' a = e') (hP : va_P D vwCl ((wl b0 cy S).set a (b0 + a, e')) H1) (hS : va_S (fun q => b0 ≤ q) s.heap H1 locs1) : Wd b0 D cy S' s.heap H1 locs1 :=
  ⟨by rw [← wl_set ha hN hne he]; exact hP, hS⟩
theorem q_putI {C : String} {T : u_T} {N ci index k a : Nat} {x : Int32} {S1 : Mem} {ty0 : Nat → FieldType} (C0 : Cx p m c cc nL s args own D cy) (hw : Wd b0 D cy S s.heap H locs) (h : pI ci k S a x = some S1) (hc : vwCl[ci]? = some (C, T, N)) (hin : ∀ w ∈ u_ws C T N, w ∈ tb) (hty : ∀ k, k < N → parseFieldDescriptor (T k).2.2.1 = some (ty0 k)) (hnm : ∀ a, a < N → ∀ b, b < N → a ≠ b → (T a).2.1 ≠ (T b).2.1) (hf : ci < 10 ∧ k < N ∧ (ft ci).getD k 9 = 0 ∧ (T k).2.2.2 = false) (hd : ty0 k = .int) (hl : Cond.fieldLink own index (T k).1 (T k).2.1 (T k).2.2.1 ∈ tb) (hdg : decode cc pc = .ok (.putfield index, 3))
    (kk : ∀ (H : Heap) (locs : List Loc), Wd b0 D cy S1 s.heap H locs → W p l e R s m args below meth c H locs cells slots Q (F0 m (pc + 3) ls rest)) : W p l e R s m args below meth c H locs cells slots Q (F0 m pc ls (.int x :: .ref (b0 + a) :: rest)) := by
  unfold pI at h
  split at h
  case isTrue hh =>
    obtain rfl := Option.some.inj h
    obtain ⟨h1, h2⟩ := ft_lt hf.2.2.1 (by decide)
    refine va_put (fs := flds b0 S a ci) (ty := .int) C0.hx C0.hb (fun w hw => C0.w hw) hin ty0 hty hnm C0.ho C0.2.1 hw.1 wl_D hw.2 a (by rw [wl_get hh.1, cel_O hh.2 hf.1]) hc k hf.2.1 (C0.w hl) (fun _ h => h) hf.2.2.2 (by rw [hty k hf.2.1, hd]) rfl rfl (by rw [flds_len]; exact h1) hdg (fun H1 locs1 hP _ hS => kk H1 locs1 ?_)
    refine Wd.row hh.1 rfl cel_rowI ?_ hP hS
    rw [cel_O hh.2 hf.1, flds_setI hf.2.2.1]
  case isFalse => cases h
theorem q_putZ {C : String} {T : u_T} {N ci index k a : Nat} {x : Int32} {S1 : Mem} {ty0 : Nat → FieldType} (C0 : Cx p m c cc nL s args own D cy) (hw : Wd b0 D cy S s.heap H locs) (h : pZ ci k S a x = some S1) (hc : vwCl[ci]? = some (C, T, N)) (hin : ∀ w ∈ u_ws C T N, w ∈ tb) (hty : ∀ k, k < N → parseFieldDescriptor (T k).2.2.1 = some (ty0 k)) (hnm : ∀ a, a < N → ∀ b, b < N → a ≠ b → (T a).2.1 ≠ (T b).2.1) (hf : ci < 10 ∧ k < N ∧ (ft ci).getD k 9 = 0 ∧ (T k).2.2.2 = false) (hd : ty0 k = .boolean) (hl : Cond.fieldLink own index (T k).1 (T k).2.1 (T k).2.2.1 ∈ tb) (hdg : decode cc pc = .ok (.putfield index, 3))
    (kk : ∀ (H : Heap) (locs : List Loc), Wd b0 D cy S1 s.heap H locs → W p l e R s m args below meth c H locs cells slots Q (F0 m (pc + 3) ls rest)) : W p l e R s m args below meth c H locs cells slots Q (F0 m pc ls (.int x :: .ref (b0 + a) :: rest)) := by
  unfold pZ at h
  split at h
  case isTrue hh =>
    obtain ⟨hh, hx⟩ := hh
    obtain rfl := Option.some.inj h
    obtain ⟨h1, h2⟩ := ft_lt hf.2.2.1 (by decide)
    refine va_put (fs := flds b0 S a ci) (ty := .boolean) C0.hx C0.hb (fun w hw => C0.w hw) hin ty0 hty hnm C0.ho C0.2.1 hw.1 wl_D hw.2 a (by rw [wl_get hh.1, cel_O hh.2 hf.1]) hc k hf.2.1 (C0.w hl) (fun _ h => h) hf.2.2.2 (by rw [hty k hf.2.1, hd]) (by rcases hx with rfl | rfl <;> rfl) (by rcases hx with rfl | rfl <;> rfl) (by rw [flds_len]; exact h1) hdg (fun H1 locs1 hP _ hS => kk H1 locs1 ?_)
    refine Wd.row hh.1 rfl cel_rowI ?_ hP hS
    rw [cel_O hh.2 hf.1, flds_setI hf.2.2.1]
  case isFalse => cases h
theorem q_putJ {C : String} {T : u_T} {N ci index k a : Nat} {x : Int64} {S1 : Mem} {ty0 : Nat → FieldType} (C0 : Cx p m c cc nL s args own D cy) (hw : Wd b0 D cy S s.heap H locs) (h : pJ ci k S a x = some S1) (hc : vwCl[ci]? = some (C, T, N)) (hin : ∀ w ∈ u_ws C T N, w ∈ tb) (hty : ∀ k, k < N → parseFieldDescriptor (T k).2.2.1 = some (ty0 k)) (hnm : ∀ a, a < N → ∀ b, b < N → a ≠ b → (T a).2.1 ≠ (T b).2.1) (hf : ci < 10 ∧ k < N ∧ (ft ci).getD k 9 = 1 ∧ (T k).2.2.2 = false) (hd : ty0 k = .long) (hl : Cond.fieldLink own index (T k).1 (T k).2.1 (T k).2.2.1 ∈ tb) (hdg : decode cc pc = .ok (.putfield index, 3))
    (kk : ∀ (H : Heap) (locs : List Loc), Wd b0 D cy S1 s.heap H locs → W p l e R s m args below meth c H locs cells slots Q (F0 m (pc + 3) ls rest)) : W p l e R s m args below meth c H locs cells slots Q (F0 m pc ls (.long x :: .ref (b0 + a) :: rest)) := by
  unfold pJ at h
  split at h
  case isTrue hh =>
    obtain rfl := Option.some.inj h
    obtain ⟨h1, h2⟩ := ft_lt hf.2.2.1 (by decide)
    refine va_put (fs := flds b0 S a ci) (ty := .long) C0.hx C0.hb (fun w hw => C0.w hw) hin ty0 hty hnm C0.ho C0.2.1 hw.1 wl_D hw.2 a (by rw [wl_get hh.1, cel_O hh.2 hf.1]) hc k hf.2.1 (C0.w hl) (fun _ h => h) hf.2.2.2 (by rw [hty k hf.2.1, hd]) rfl rfl (by rw [flds_len]; exact h1) hdg (fun H1 locs1 hP _ hS => kk H1 locs1 ?_)
    refine Wd.row hh.1 rfl cel_rowJ ?_ hP hS
    rw [cel_O hh.2 hf.1, flds_setJ hf.2.2.1]
  case isFalse => cases h
theorem q_putR {C : String} {T : u_T} {N ci index k a v : Nat} {S1 : Mem} {ty0 : Nat → FieldType} (C0 : Cx p m c cc nL s args own D cy) (hw : Wd b0 D cy S s.heap H locs) (h : pR ci k S a v = some S1) (hc : vwCl[ci]? = some (C, T, N)) (hin : ∀ w ∈ u_ws C T N, w ∈ tb) (hty : ∀ k, k < N → parseFieldDescriptor (T k).2.2.1 = some (ty0 k)) (hnm : ∀ a, a < N → ∀ b, b < N → a ≠ b → (T a).2.1 ≠ (T b).2.1) (hf : ci < 10 ∧ k < N ∧ (ft ci).getD k 9 = 2 ∧ (T k).2.2.2 = false) (hd : ∀ x : Nat, narrow (ty0 k) (.ref x) = .ref x ∧ fits (ty0 k) (.ref x) = true) (hl : Cond.fieldLink own index (T k).1 (T k).2.1 (T k).2.2.1 ∈ tb) (hdg : decode cc pc = .ok (.putfield index, 3))
    (kk : ∀ (H : Heap) (locs : List Loc), Wd b0 D cy S1 s.heap H locs → W p l e R s m args below meth c H locs cells slots Q (F0 m (pc + 3) ls rest)) : W p l e R s m args below meth c H locs cells slots Q (F0 m pc ls (.ref (b0 + v) :: .ref (b0 + a) :: rest)) := by
  unfold pR at h
  split at h
  case isTrue hh =>
    obtain rfl := Option.some.inj h
    obtain ⟨h1, h2⟩ := ft_lt hf.2.2.1 (by decide)
    refine va_put (fs := flds b0 S a ci) (ty := ty0 k) C0.hx C0.hb (fun w hw => C0.w hw) hin ty0 hty hnm C0.ho C0.2.1 hw.1 wl_D hw.2 a (by rw [wl_get hh.1, cel_O hh.2 hf.1]) hc k hf.2.1 (C0.w hl) (fun _ h => h) hf.2.2.2 (hty k hf.2.1) (hd _).1 (hd _).2 (by rw [flds_len]; exact h1) hdg (fun H1 locs1 hP _ hS => kk H1 locs1 ?_)
    refine Wd.row hh.1 rfl cel_rowR ?_ hP hS
    rw [cel_O hh.2 hf.1, flds_setR hf.2.2.1]
  case isFalse => cases h
theorem q_putF {C : String} {T : u_T} {N ci index k a v : Nat} {S1 : Mem} {ty0 : Nat → FieldType} (C0 : Cx p m c cc nL s args own D cy) (hw : Wd b0 D cy S s.heap H locs) (hmn : meth.name = "<init>") (h : pR ci k S a v = some S1) (hc : vwCl[ci]? = some (C, T, N)) (hin : ∀ w ∈ u_ws C T N, w ∈ tb) (hty : ∀ k, k < N → parseFieldDescriptor (T k).2.2.1 = some (ty0 k)) (hnm : ∀ a, a < N → ∀ b, b < N → a ≠ b → (T a).2.1 ≠ (T b).2.1) (hf : ci < 10 ∧ k < N ∧ (ft ci).getD k 9 = 2 ∧ (T k).2.2.2 = true ∧ (T k).1 = own) (hd : ∀ x : Nat, narrow (ty0 k) (.ref x) = .ref x ∧ fits (ty0 k) (.ref x) = true) (hl : Cond.fieldLink own index (T k).1 (T k).2.1 (T k).2.2.1 ∈ tb) (hdg : decode cc pc = .ok (.putfield index, 3))
    (kk : ∀ (H : Heap) (locs : List Loc), Wd b0 D cy S1 s.heap H locs → W p l e R s m args below meth c H locs cells slots Q (F0 m (pc + 3) ls rest)) : W p l e R s m args below meth c H locs cells slots Q (F0 m pc ls (.ref (b0 + v) :: .ref (b0 + a) :: rest)) := by
  unfold pR at h
  split at h
  case isTrue hh =>
    obtain rfl := Option.some.inj h
    obtain ⟨h1, h2⟩ := ft_lt hf.2.2.1 (by decide)
    refine va_putF (fs := flds b0 S a ci) (ty := ty0 k) C0.hx C0.hb (fun w hw => C0.w hw) hin ty0 hty hnm C0.ho C0.2.1 hw.1 wl_D hw.2 a (by rw [wl_get hh.1, cel_O hh.2 hf.1]) hc k hf.2.1 (C0.w hl) (fun _ h => h) hf.2.2.2.1 hmn hf.2.2.2.2 (hty k hf.2.1) (hd _).1 (hd _).2 (by rw [flds_len]; exact h1) hdg (fun H1 locs1 hP _ hS => kk H1 locs1 ?_)
    refine Wd.row hh.1 rfl cel_rowR ?_ hP hS
    rw [cel_O hh.2 hf.1, flds_setR hf.2.2.1]
  case isFalse => cases h
/-! arrays -/
theorem vin {i : Int32} {n : Nat} (h : ¬ i < 0 ∧ i.toNatClampNeg < n) : vp_in i n := fun q => q.elim h.1 (fun q => absurd h.2 (Nat.not_lt.mpr q))
theorem q_ldI {a : Nat} {i x : Int32} (C0 : Cx p m c cc nL s args own D cy) (hw : Wd b0 D cy S s.heap H locs) (h : ldI S a i = some x) (hdg : decode cc pc = .ok (.iaload, 1))
    (kk : W p l e R s m args below meth c H locs cells slots Q (F0 m (pc + 1) ls (.int x :: rest))) : W p l e R s m args below meth c H locs cells slots Q (F0 m pc ls (.int i :: .ref (b0 + a) :: rest)) := by
  unfold ldI at h
  split at h
  case isTrue hh =>
    obtain rfl := Option.some.inj h
    exact va_iald C0.hx C0.hb C0.2.1 hw.1 a 0 (by rw [wl_get hh.1.1, cel_I hh.1.2]) rfl (vin hh.2) hdg kk
  case isFalse => cases h
theorem q_ldZ {a : Nat} {i x : Int32} (C0 : Cx p m c cc nL s args own D cy) (hw : Wd b0 D cy S s.heap H locs) (h : ldZ S a i = some x) (hdg : decode cc pc = .ok (.baload, 1))
    (kk : W p l e R s m args below meth c H locs cells slots Q (F0 m (pc + 1) ls (.int x :: rest))) : W p l e R s m args below meth c H locs cells slots Q (F0 m pc ls (.int i :: .ref (b0 + a) :: rest)) := by
  unfold ldZ at h
  split at h
  case isTrue hh =>
    obtain rfl := Option.some.inj h
    exact va_zald C0.hx C0.hb C0.2.1 hw.1 a 2 (by rw [wl_get hh.1.1, cel_Z hh.1.2]) rfl (vin hh.2) hdg kk
  case isFalse => cases h
theorem q_ldJ {a : Nat} {i : Int32} {x : Int64} (C0 : Cx p m c cc nL s args own D cy) (hw : Wd b0 D cy S s.heap H locs) (h : ldJ S a i = some x) (hdg : decode cc pc = .ok (.laload, 1))
    (kk : W p l e R s m args below meth c H locs cells slots Q (F0 m (pc + 1) ls (.long x :: rest))) : W p l e R s m args below meth c H locs cells slots Q (F0 m pc ls (.int i :: .ref (b0 + a) :: rest)) := by
  unfold ldJ at h
  split at h
  case isTrue hh =>
    obtain rfl := Option.some.inj h
    exact va_lald C0.hx C0.hb C0.2.1 hw.1 a 1 (by rw [wl_get hh.1.1, cel_J hh.1.2]) rfl (vin hh.2) hdg kk
  case isFalse => cases h
theorem q_ldR13 {a x : Nat} {i : Int32} (C0 : Cx p m c cc nL s args own D cy) (hw : Wd b0 D cy S s.heap H locs) (h : ldR 13 S a i = some x) (hdg : decode cc pc = .ok (.aaload, 1))
    (kk : W p l e R s m args below meth c H locs cells slots Q (F0 m (pc + 1) ls (.ref (b0 + x) :: rest))) : W p l e R s m args below meth c H locs cells slots Q (F0 m pc ls (.int i :: .ref (b0 + a) :: rest)) := by
  unfold ldR at h
  split at h
  case isTrue hh =>
    refine va_aldq C0.hx C0.hb C0.2.1 hw.1 a 3 (by rw [wl_get hh.1.1, cel_13 hh.1.2]) rfl (vin hh.2) hdg ?_
    rw [show va_rf (rfs b0 S a i.toNatClampNeg) = .ref (b0 + x) by simp [rfs, h, va_rf]]
    exact kk
  case isFalse => cases h
theorem q_ldR14 {a x : Nat} {i : Int32} (C0 : Cx p m c cc nL s args own D cy) (hw : Wd b0 D cy S s.heap H locs) (h : ldR 14 S a i = some x) (hdg : decode cc pc = .ok (.aaload, 1))
    (kk : W p l e R s m args below meth c H locs cells slots Q (F0 m (pc + 1) ls (.ref (b0 + x) :: rest))) : W p l e R s m args below meth c H locs cells slots Q (F0 m pc ls (.int i :: .ref (b0 + a) :: rest)) := by
  unfold ldR at h
  split at h
  case isTrue hh =>
    refine va_aldq C0.hx C0.hb C0.2.1 hw.1 a 4 (by rw [wl_get hh.1.1, cel_14 hh.1.2]) rfl (vin hh.2) hdg ?_
    rw [show va_rf (rfs b0 S a i.toNatClampNeg) = .ref (b0 + x) by simp [rfs, h, va_rf]]
    exact kk
  case isFalse => cases h
theorem q_stI {a : Nat} {i x : Int32} {S1 : Mem} (C0 : Cx p m c cc nL s args own D cy) (hw : Wd b0 D cy S s.heap H locs) (h : stI S a i x = some S1) (hdg : decode cc pc = .ok (.iastore, 1))
    (kk : ∀ (H : Heap) (locs : List Loc), Wd b0 D cy S1 s.heap H locs → W p l e R s m args below meth c H locs cells slots Q (F0 m (pc + 1) ls rest)) : W p l e R s m args below meth c H locs cells slots Q (F0 m pc ls (.int x :: .int i :: .ref (b0 + a) :: rest)) := by
  unfold stI at h
  split at h
  case isTrue hh =>
    obtain rfl := Option.some.inj h
    refine va_iast C0.hx C0.hb C0.2.1 hw.1 wl_D hw.2 a 0 (by rw [wl_get hh.1.1, cel_I hh.1.2]) rfl (vin hh.2) hdg (fun H1 locs1 hP _ hS => kk H1 locs1 ?_)
    refine Wd.row hh.1.1 rfl cel_rowI ?_ hP hS
    rw [cel_I hh.1.2]
    simp [rowI]
  case isFalse => cases h
theorem vnarZ {x : Int32} (h : x = 0 ∨ x = 1) : vp_nar .boolean x = x := by rcases h with rfl | rfl <;> rfl
theorem q_stZ {a : Nat} {i x : Int32} {S1 : Mem} (C0 : Cx p m c cc nL s args own D cy) (hw : Wd b0 D cy S s.heap H locs) (h : stZ S a i x = some S1) (hdg : decode cc pc = .ok (.bastore, 1))
    (kk : ∀ (H : Heap) (locs : List Loc), Wd b0 D cy S1 s.heap H locs → W p l e R s m args below meth c H locs cells slots Q (F0 m (pc + 1) ls rest)) : W p l e R s m args below meth c H locs cells slots Q (F0 m pc ls (.int x :: .int i :: .ref (b0 + a) :: rest)) := by
  unfold stZ at h
  split at h
  case isTrue hh =>
    obtain ⟨hh, hx⟩ := hh
    obtain rfl := Option.some.inj h
    refine va_zast C0.hx C0.hb C0.2.1 hw.1 wl_D hw.2 a 2 (by rw [wl_get hh.1.1, cel_Z hh.1.2]) rfl (vin hh.2) hdg (fun H1 locs1 hP _ hS => kk H1 locs1 ?_)
    rw [vnarZ hx] at hP
    refine Wd.row hh.1.1 rfl cel_rowI ?_ hP hS
    rw [cel_Z hh.1.2]
    simp [rowI]
  case isFalse => cases h
theorem q_stJ {a : Nat} {i : Int32} {x : Int64} {S1 : Mem} (C0 : Cx p m c cc nL s args own D cy) (hw : Wd b0 D cy S s.heap H locs) (h : stJ S a i x = some S1) (hdg : decode cc pc = .ok (.lastore, 1))
    (kk : ∀ (H : Heap) (locs : List Loc), Wd b0 D cy S1 s.heap H locs → W p l e R s m args below meth c H locs cells slots Q (F0 m (pc + 1) ls rest)) : W p l e R s m args below meth c H locs cells slots Q (F0 m pc ls (.long x :: .int i :: .ref (b0 + a) :: rest)) := by
  unfold stJ at h
  split at h
  case isTrue hh =>
    obtain rfl := Option.some.inj h
    refine va_last C0.hx C0.hb C0.2.1 hw.1 wl_D hw.2 a 1 (by rw [wl_get hh.1.1, cel_J hh.1.2]) rfl (vin hh.2) hdg (fun H1 locs1 hP _ hS => kk H1 locs1 ?_)
    refine Wd.row hh.1.1 rfl cel_rowJ ?_ hP hS
    rw [cel_J hh.1.2]
    simp [rowJ]
  case isFalse => cases h
theorem rfs_row {a k v : Nat} : rfs b0 (rowR S a (va_up (S.2.2.2 a) k (some v))) a = va_up (rfs b0 S a) k (some (b0 + v)) := by
  funext j
  by_cases hj : j = k
  · subst hj; simp [rfs, rowR, va_up]
  · simp [rfs, rowR, va_up, hj]
theorem q_stR13 {a v : Nat} {i : Int32} {S1 : Mem} (C0 : Cx p m c cc nL s args own D cy) (hw : Wd b0 D cy S s.heap H locs) (h : stR 13 1 S a i v = some S1) (hdg : decode cc pc = .ok (.aastore, 1))
    (kk : ∀ (H : Heap) (locs : List Loc), Wd b0 D cy S1 s.heap H locs → W p l e R s m args below meth c H locs cells slots Q (F0 m (pc + 1) ls rest)) : W p l e R s m args below meth c H locs cells slots Q (F0 m pc ls (.ref (b0 + v) :: .int i :: .ref (b0 + a) :: rest)) := by
  unfold stR at h
  split at h
  case isTrue hh =>
    obtain ⟨hh, hx⟩ := hh
    obtain rfl := Option.some.inj h
    refine va_astq (r := (RX1, TX1, 3)) C0.hx C0.hb C0.2.1 hw.1 wl_D hw.2 a 3 v 1 (by rw [wl_get hh.1.1, cel_13 hh.1.2]) rfl (by rw [wl_get hx.1, cel_O hx.2 (by decide)]) rfl (vin hh.2) hdg (fun H1 locs1 hP _ hS => kk H1 locs1 ?_)
    refine Wd.row hh.1.1 rfl cel_rowR ?_ hP hS
    rw [cel_13 hh.1.2, rfs_row]
  case isFalse => cases h
theorem q_stR14 {a v : Nat} {i : Int32} {S1 : Mem} (C0 : Cx p m c cc nL s args own D cy) (hw : Wd b0 D cy S s.heap H locs) (h : stR 14 5 S a i v = some S1) (hdg : decode cc pc = .ok (.aastore, 1))
    (kk : ∀ (H : Heap) (locs : List Loc), Wd b0 D cy S1 s.heap H locs → W p l e R s m args below meth c H locs cells slots Q (F0 m (pc + 1) ls rest)) : W p l e R s m args below meth c H locs cells slots Q (F0 m pc ls (.ref (b0 + v) :: .int i :: .ref (b0 + a) :: rest)) := by
  unfold stR at h
  split at h
  case isTrue hh =>
    obtain ⟨hh, hx⟩ := hh
    obtain rfl := Option.some.inj h
    refine va_astq (r := (RX5, TX5, 8)) C0.hx C0.hb C0.2.1 hw.1 wl_D hw.2 a 4 v 5 (by rw [wl_get hh.1.1, cel_14 hh.1.2]) rfl (by rw [wl_get hx.1, cel_O hx.2 (by decide)]) rfl (vin hh.2) hdg (fun H1 locs1 hP _ hS => kk H1 locs1 ?_)
    refine Wd.row hh.1.1 rfl cel_rowR ?_ hP hS
    rw [cel_14 hh.1.2, rfs_row]
  case isFalse => cases h
theorem q_len {a : Nat} {v : Int32} (C0 : Cx p m c cc nL s args own D cy) (hw : Wd b0 D cy S s.heap H locs) (h : lnI S a = some v) (hdg : decode cc pc = .ok (.arraylength, 1))
    (kk : W p l e R s m args below meth c H locs cells slots Q (F0 m (pc + 1) ls (.int v :: rest))) : W p l e R s m args below meth c H locs cells slots Q (F0 m pc ls (.ref (b0 + a) :: rest)) := by
  unfold lnI at h
  split at h
  case isTrue hh =>
    obtain rfl := Option.some.inj h
    exact va_alen C0.hx C0.hb C0.2.1 hw.1 a 0 (by rw [wl_get hh.1, cel_I hh.2]) (ty := .int) rfl rfl hdg kk
  case isFalse => cases h
theorem q_cp {a b index : Nat} {i j n : Int32} {S1 : Mem} (C0 : Cx p m c cc nL s args own D cy) (hw : Wd b0 D cy S s.heap H locs) (h : cpI S a i b j n = some S1) (hl : Cond.methodLink own index arraycopyName ∈ tb) (hnat : Cond.native arraycopyName ∈ tb) (hst : Cond.static arraycopyName ∈ tb) (hini : Cond.initialized "java/lang/System" ∈ tb) (hsz : ls.size = nL)
    (hframes : 1 ≤ R.frames) (hlocals : (rest.map fun v => v.category).sum + (nativeFrameWords "java/lang/System" "arraycopy" 5 + 11) ≤ R.locals) (hdg : decode cc pc = .ok (.invokestatic index, 3))
    (kk : ∀ (H : Heap) (locs : List Loc), Wd b0 D cy S1 s.heap H locs → W p l e R s m args below meth c H locs cells slots Q (F0 m (pc + 3) ls rest)) : W p l e R s m args below meth c H locs cells slots Q (F0 m pc ls (.int n :: .int j :: .ref (b0 + b) :: .int i :: .ref (b0 + a) :: rest)) := by
  unfold cpI at h
  split at h
  case isTrue hh =>
    obtain ⟨⟨ha, hb⟩, hz, hn⟩ := hh
    obtain rfl := Option.some.inj h
    refine va_copyi (ty := .int) C0.hx C0.hb (by rw [C0.1.2.2.1, hsz]) C0.ho (C0.w hl) (C0.w hnat) (C0.w hst) (C0.w hini) C0.2.1 hw.1 wl_D hw.2 a b 0 0 (by rw [wl_get ha.1, cel_I ha.2]) (by rw [wl_get hb.1, cel_I hb.2]) rfl rfl rfl hz.1 hz.2.1 hz.2.2 hn.1 hn.2 (fun _ _ => rfl) hframes hlocals hdg (fun H1 locs1 hP _ hS => kk H1 locs1 ?_)
    refine Wd.row hb.1 rfl cel_rowI ?_ hP hS
    rw [cel_I hb.2]
    simp [rowI]
  case isFalse => cases h
/-! names for numbers; divisions -/
theorem q_nmI {x y : Int32} (h : some x = some y) (kk : W p l e R s m args below meth c H locs cells slots Q (F0 m pc ls (.int y :: rest))) : W p l e R s m args below meth c H locs cells slots Q (F0 m pc ls (.int x :: rest)) := by
  obtain rfl := Option.some.inj h
  exact kk
theorem q_nmJ {x y : Int64} (h : some x = some y) (kk : W p l e R s m args below meth c H locs cells slots Q (F0 m pc ls (.long y :: rest))) : W p l e R s m args below meth c H locs cells slots Q (F0 m pc ls (.long x :: rest)) := by
  obtain rfl := Option.some.inj h
  exact kk
theorem q_dvI {x y z : Int32} (C0 : Cx p m c cc nL s args own D cy) (h : dvI x y = some z) (hdg : decode cc pc = .ok (.idiv, 1)) (kk : W p l e R s m args below meth c H locs cells slots Q (F0 m (pc + 1) ls (.int z :: rest))) : W p l e R s m args below meth c H locs cells slots Q (F0 m pc ls (.int y :: .int x :: rest)) := by
  unfold dvI at h
  split at h
  case isTrue => cases h
  case isFalse hh =>
    obtain rfl := Option.some.inj h
    exact lv_idiv C0.hx C0.hb hdg hh kk
theorem q_rmI {x y z : Int32} (C0 : Cx p m c cc nL s args own D cy) (h : rmI x y = some z) (hdg : decode cc pc = .ok (.irem, 1)) (kk : W p l e R s m args below meth c H locs cells slots Q (F0 m (pc + 1) ls (.int z :: rest))) : W p l e R s m args below meth c H locs cells slots Q (F0 m pc ls (.int y :: .int x :: rest)) := by
  unfold rmI at h
  split at h
  case isTrue => cases h
  case isFalse hh =>
    obtain rfl := Option.some.inj h
    exact lv_irem C0.hx C0.hb hdg hh kk
theorem q_dvJ {x y z : Int64} (C0 : Cx p m c cc nL s args own D cy) (h : dvJ x y = some z) (hdg : decode cc pc = .ok (.ldiv, 1)) (kk : W p l e R s m args below meth c H locs cells slots Q (F0 m (pc + 1) ls (.long z :: rest))) : W p l e R s m args below meth c H locs cells slots Q (F0 m pc ls (.long y :: .long x :: rest)) := by
  unfold dvJ at h
  split at h
  case isTrue => cases h
  case isFalse hh =>
    obtain rfl := Option.some.inj h
    exact lv_ldiv C0.hx C0.hb hdg hh kk
theorem q_rmJ {x y z : Int64} (C0 : Cx p m c cc nL s args own D cy) (h : rmJ x y = some z) (hdg : decode cc pc = .ok (.lrem, 1)) (kk : W p l e R s m args below meth c H locs cells slots Q (F0 m (pc + 1) ls (.long z :: rest))) : W p l e R s m args below meth c H locs cells slots Q (F0 m pc ls (.long y :: .long x :: rest)) := by
  unfold rmJ at h
  split at h
  case isTrue => cases h
  case isFalse hh =>
    obtain rfl := Option.some.inj h
    exact lv_lrem C0.hx C0.hb hdg hh kk
/-! calls -/
theorem q_call {v : Option Value} {S1 : Mem} {a : Array Value} {st0 st1 : List Value} {mc ms : Nat} (hr : va_Run p l e R s m args below meth c H locs cells slots mc ms (F0 m pc ls st0) rest (Qp b0 D cy v S1 a) (fun q => b0 ≤ q)) (hw : Wd b0 D cy S s.heap H locs) (h1 : v.toList ++ rest = st1)
    (kk : ∀ (H : Heap) (locs : List Loc), Wd b0 D cy S1 s.heap H locs → W p l e R s m args below meth c H locs (cells + mc) (slots + ms) Q (F0 m (pc + 3) ls st1)) : W p l e R s m args below meth c H locs cells slots Q (F0 m pc ls st0) := by
  intro T hT X
  obtain ⟨v', st₀, t, T', L, h0, X', hL, e1, e2, ⟨⟨hv, hP⟩, hz, hk⟩, st⟩ := hr T hT X
  cases hv
  subst h1
  rw [h0] at hz hk
  have hS := hw.2
  obtain ⟨t2, a1, b1⟩ := kk T'.heap (locs ++ L) ⟨by rw [e1]; exact hP, Nat.le_trans hS.1 (by rw [e1]; exact hz), fun q h1 h2 => by rw [e1, hk q (Nat.lt_of_lt_of_le h1 hS.1) h2]; exact hS.2.1 q h1 h2, fun q hq => by
      rcases List.mem_append.mp hq with h | h
      · exact hS.2.2 q h
      · exact hL q h⟩ T' rfl X'
  exact ⟨t2, st t2 a1, b1⟩
theorem ck_cell {ci a : Nat} {u : Unit} (h : ck ci S a = some u) : a < S.1 ∧ kd a = ci := by
  unfold ck at h
  split at h
  case isTrue hh => exact hh
  case isFalse => cases h
theorem q_pre {av : List Value} (C0 : Cx p m c cc nL s args own D cy) (hw : Wd b0 D cy S s.heap H locs) : PreS s H (Pr b0 D cy S av) av :=
  ⟨Pr_blind, fun U hU hW => ⟨rfl, by rw [hU]; exact hw.1, va_K.moved hW.alike C0.2.1, TB.warm hW C0.2.2⟩⟩
theorem q_preV {ci a : Nat} {u : Unit} {av : List Value} {C : String} {T : u_T} {N : Nat} (C0 : Cx p m c cc nL s args own D cy) (hw : Wd b0 D cy S s.heap H locs) (hk : ck ci S a = some u) (hc : vwCl[ci]? = some (C, T, N)) (hci : ci < 10) : PreV s H C (b0 + a) (Pr b0 D cy S (.ref (b0 + a) :: av)) av :=
  ⟨Pr_blind, va_recv (q := (C, T, N)) C0.2.1 hw.1 hc (q0 := a) (by rw [wl_get (ck_cell hk).1, cel_O (ck_cell hk).2 hci]), (q_pre C0 hw).2⟩
theorem goodV {index : Nat} {C : String} {y : MethodName} {bytes : ByteArray} {maxL : Nat} {ret : Option FieldType} (h1 : Cond.methodLink own index y ∈ tb) (h2 : Cond.instanceMethod y ∈ tb) (h3 : Cond.selects C y y ∈ tb) (h4 : Cond.initialized C ∈ tb) (h5 : Cond.code y bytes maxL ret ∈ tb) : GoodIn tb (wsV own index C y [.code y bytes maxL ret]) := by
  intro w hw
  simp only [wsV, List.cons_append, List.nil_append, List.mem_cons, List.not_mem_nil, or_false] at hw
  rcases hw with rfl | rfl | rfl | rfl | rfl
  · exact ⟨h1, Or.inl rfl⟩
  · exact ⟨h2, Or.inl rfl⟩
  · exact ⟨h3, Or.inl rfl⟩
  · exact ⟨h4, Or.inl rfl⟩
  · exact ⟨h5, Or.inl rfl⟩
theorem goodS {index : Nat} {y : MethodName} {bytes : ByteArray} {maxL : Nat} {ret : Option FieldType} (h1 : Cond.methodLink own index y ∈ tb) (h2 : Cond.static y ∈ tb) (h4 : Cond.initialized y.cls ∈ tb) (h5 : Cond.code y bytes maxL ret ∈ tb) : GoodIn tb (va_wsS own index y [.code y bytes maxL ret]) := by
  intro w hw
  simp only [va_wsS, List.cons_append, List.nil_append, List.mem_cons, List.not_mem_nil, or_false] at hw
  rcases hw with rfl | rfl | rfl | rfl
  · exact ⟨h1, Or.inl rfl⟩
  · exact ⟨h2, Or.inl rfl⟩
  · exact ⟨h4, Or.inl rfl⟩
  · exact ⟨h5, Or.inl rfl⟩
theorem good1 {y : MethodName} {bytes : ByteArray} {maxL : Nat} {ret : Option FieldType} (h5 : Cond.code y bytes maxL ret ∈ tb) : GoodIn tb [.code y bytes maxL ret] := by
  intro w hw
  simp only [List.mem_cons, List.not_mem_nil, or_false] at hw
  subst hw
  exact ⟨h5, Or.inl rfl⟩
theorem q_callV {v : Option Value} {S1 : Mem} {st0 st1 av : List Value} {index n ci a N maxL : Nat} {u : Unit} {C : String} {T : u_T} {y : MethodName} {bytes : ByteArray} {ret : Option FieldType} {rm : Room} (C0 : Cx p m c cc nL s args own D cy) (hw : Wd b0 D cy S s.heap H locs)
    (hM : Met l y [.code y bytes maxL ret] rm (Pr b0 D cy S (.ref (b0 + a) :: av)) (Qp b0 D cy v S1) 0 0 (fun q => b0 ≤ q)) (hk : ck ci S a = some u) (hc : vwCl[ci]? = some (C, T, N)) (hci : ci < 10) (hG : GoodIn tb (wsV own index C y [.code y bytes maxL ret])) (hrm : rm.cells = 0 ∧ rm.slots = 0)
    (hd : y.cls = C ∧ y.cls ≠ "java/lang/invoke/MethodHandle" ∧ y.cls ≠ "java/lang/invoke/VarHandle" ∧ (parseMethodDescriptor y.desc).map (fun d => d.parameters.length) = some n) (hR : rm.frames + 1 ≤ R.frames ∧ 8 + (maxL + 11) + rm.locals ≤ R.locals) (hn : av.length = n) (hsz : ls.size = nL) (hst : st0 = av.reverse ++ .ref (b0 + a) :: rest) (hro : (rest.map fun v => v.category).sum ≤ 8) (hdg : decode cc pc = .ok (.invokevirtual index, 3)) (hf : cells ≤ R.cells ∧ slots ≤ R.slots) (h1 : v.toList ++ rest = st1)
    (kk : ∀ (H : Heap) (locs : List Loc), Wd b0 D cy S1 s.heap H locs → W p l e R s m args below meth c H locs cells slots Q (F0 m (pc + 3) ls st1)) : W p l e R s m args below meth c H locs cells slots Q (F0 m pc ls st0) := by
  subst hst
  exact q_call (mc := 0) (ms := 0) (va_runV (As := av) (rest := rest) C0.1 hM (cwV n C0.1.2.2.2.2 hG rfl hrm.1 hrm.2 hd hR) (q_preV C0 hw hk hc hci) rfl hn hsz rfl (lv_room hro) hdg hf) hw h1 kk
theorem q_callS {v : Option Value} {S1 : Mem} {st0 st1 av : List Value} {index n maxL : Nat} {y : MethodName} {bytes : ByteArray} {ret : Option FieldType} {rm : Room} (C0 : Cx p m c cc nL s args own D cy) (hw : Wd b0 D cy S s.heap H locs)
    (hM : Met l y [.code y bytes maxL ret] rm (Pr b0 D cy S av) (Qp b0 D cy v S1) 0 0 (fun q => b0 ≤ q)) (hG : GoodIn tb (va_wsS own index y [.code y bytes maxL ret])) (hrm : rm.cells = 0 ∧ rm.slots = 0)
    (hd : y.cls ≠ "java/lang/invoke/MethodHandle" ∧ y.cls ≠ "java/lang/invoke/VarHandle" ∧ (parseMethodDescriptor y.desc).map (fun d => d.parameters.length) = some n) (hR : rm.frames + 1 ≤ R.frames ∧ 8 + (maxL + 11) + rm.locals ≤ R.locals) (hn : av.length = n) (hsz : ls.size = nL) (hst : st0 = av.reverse ++ rest) (hro : (rest.map fun v => v.category).sum ≤ 8) (hdg : decode cc pc = .ok (.invokestatic index, 3)) (hf : cells ≤ R.cells ∧ slots ≤ R.slots) (h1 : v.toList ++ rest = st1)
    (kk : ∀ (H : Heap) (locs : List Loc), Wd b0 D cy S1 s.heap H locs → W p l e R s m args below meth c H locs cells slots Q (F0 m (pc + 3) ls st1)) : W p l e R s m args below meth c H locs cells slots Q (F0 m pc ls st0) := by
  subst hst
  exact q_call (mc := 0) (ms := 0) (va_runS (As := av) (rest := rest) C0.1 hM (va_cwS n C0.1.2.2.2.2 hG rfl hrm.1 hrm.2 hd hR) (q_pre C0 hw) rfl hn hsz rfl (lv_room hro) hdg hf) hw h1 kk
theorem q_callSN {v : Option Value} {S1 : Mem} {st0 st1 av : List Value} {index n maxL : Nat} {host : String} {y : MethodName} {bytes : ByteArray} {ret : Option FieldType} {rm : Room} (C0 : Cx p m c cc nL s args own D cy) (hw : Wd b0 D cy S s.heap H locs)
    (hM : Met l y [.code y bytes maxL ret] rm (Pr b0 D cy S av) (Qp b0 D cy v S1) 0 0 (fun q => b0 ≤ q)) (hl : Cond.methodLinkNest own index y host ∈ tb) (hs : Cond.static y ∈ tb) (hi : Cond.initialized y.cls ∈ tb) (hcd : Cond.code y bytes maxL ret ∈ tb) (hrm : rm.cells = 0 ∧ rm.slots = 0)
    (hd : y.cls ≠ "java/lang/invoke/MethodHandle" ∧ y.cls ≠ "java/lang/invoke/VarHandle" ∧ (parseMethodDescriptor y.desc).map (fun d => d.parameters.length) = some n) (hR : rm.frames + 1 ≤ R.frames ∧ 8 + (maxL + 11) + rm.locals ≤ R.locals) (hn : av.length = n) (hsz : ls.size = nL) (hst : st0 = av.reverse ++ rest) (hro : (rest.map fun v => v.category).sum ≤ 8) (hdg : decode cc pc = .ok (.invokestatic index, 3)) (hf : cells ≤ R.cells ∧ slots ≤ R.slots) (h1 : v.toList ++ rest = st1)
    (kk : ∀ (H : Heap) (locs : List Loc), Wd b0 D cy S1 s.heap H locs → W p l e R s m args below meth c H locs cells slots Q (F0 m (pc + 3) ls st1)) : W p l e R s m args below meth c H locs cells slots Q (F0 m pc ls st0) := by
  subst hst
  exact q_call (mc := 0) (ms := 0) (va_runSN (As := av) (rest := rest) C0.1 hM ⟨va_cnB n C0.1.2.2.2.2 (good1 hcd) rfl hrm.1 hrm.2 (C0.2.2 _ hl #[]) (C0.w hi) hd hR, C0.w hs, trivial⟩ (q_pre C0 hw) rfl hn hsz rfl (lv_room hro) hdg hf) hw h1 kk
/-! returns -/
theorem q_reti {x : Int32} (C0 : Cx p m c cc nL s args own D cy) (hw : Wd b0 D cy S s.heap H locs) (hr : meth.sig.returnType = some .int) (hlocks : meth.locks = false) (hdg : decode cc pc = .ok (.ireturn, 1)) : W p l e R s m args below meth c H locs cells slots (MQ below (Qp b0 D cy (some (.int x)) S) args s cells slots (fun q => b0 ≤ q)) (F0 m pc ls [.int x]) :=
  W.iret C0.hx C0.hb hr (fun t ht hW => ⟨⟨rfl, by rw [ht]; exact hw.1⟩, hw.2.F ht⟩) hw.2.2.2 hdg hlocks
theorem q_retz {x : Int32} (C0 : Cx p m c cc nL s args own D cy) (hw : Wd b0 D cy S s.heap H locs) (hz : x = 0 ∨ x = 1) (hr : meth.sig.returnType = some .boolean) (hlocks : meth.locks = false) (hdg : decode cc pc = .ok (.ireturn, 1)) : W p l e R s m args below meth c H locs cells slots (MQ below (Qp b0 D cy (some (.int x)) S) args s cells slots (fun q => b0 ≤ q)) (F0 m pc ls [.int x]) :=
  W.zret C0.hx C0.hb hr (by rcases hz with rfl | rfl <;> rfl) (fun t ht hW => ⟨⟨rfl, by rw [ht]; exact hw.1⟩, hw.2.F ht⟩) hw.2.2.2 hdg hlocks
theorem q_retl {x : Int64} (C0 : Cx p m c cc nL s args own D cy) (hw : Wd b0 D cy S s.heap H locs) (hr : meth.sig.returnType = some .long) (hlocks : meth.locks = false) (hdg : decode cc pc = .ok (.lreturn, 1)) : W p l e R s m args below meth c H locs cells slots (MQ below (Qp b0 D cy (some (.long x)) S) args s cells slots (fun q => b0 ≤ q)) (F0 m pc ls [.long x]) :=
  W.lret C0.hx C0.hb hr (fun t ht hW => ⟨⟨rfl, by rw [ht]; exact hw.1⟩, hw.2.F ht⟩) hw.2.2.2 hdg hlocks
theorem q_retv (C0 : Cx p m c cc nL s args own D cy) (hw : Wd b0 D cy S s.heap H locs) (hr : meth.sig.returnType = none) (hlocks : meth.locks = false) (hdg : decode cc pc = .ok (.return_, 1)) : W p l e R s m args below meth c H locs cells slots (MQ below (Qp b0 D cy none S) args s cells slots (fun q => b0 ≤ q)) (F0 m pc ls []) :=
  W.vret C0.hx C0.hb hr (fun t ht hW => ⟨⟨rfl, by rw [ht]; exact hw.1⟩, hw.2.F ht⟩) hw.2.2.2 hdg hlocks
theorem zok_inv {x y : Int32} (h : zok x = some y) : x = y ∧ (x = 0 ∨ x = 1) := by
  unfold zok at h
  split at h
  case isTrue hh => exact ⟨Option.some.inj h, hh⟩
  case isFalse => cases h
end QR
end
