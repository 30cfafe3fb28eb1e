section
-- ===== PART A: goes FIRST, ahead of the names: the tables' words, and 'selects' of the private methods out of them =====
/-- a private method of a class that the tables say can be made, by its rows of tables_1 -/
def lw_okq (q : MethodName × Nat) : Prop := (q.1.cls ≠ "java/lang/invoke/MethodHandle" ∧ q.1.cls ≠ "java/lang/invoke/VarHandle") ∧ Cond.instantiable q.1.cls q.2 ∈ tables_1 ∧ Cond.privateMethod q.1 ∈ tables_1 ∧ Cond.instanceMethod q.1 ∈ tables_1
theorem lw_p0 : lw_okq (⟨"FogNets$Reader", "nextLetter", "()I"⟩, 8) := ⟨⟨by decide +kernel, by decide +kernel⟩, List.mem_of_getElem? (i := 22) (by decide +kernel), List.mem_of_getElem? (i := 329) (by decide +kernel), List.mem_of_getElem? (i := 330) (by decide +kernel)⟩
theorem lw_p1 : lw_okq (⟨"FogNets$Reader", "letterAt", "(I)I"⟩, 8) := ⟨⟨by decide +kernel, by decide +kernel⟩, List.mem_of_getElem? (i := 22) (by decide +kernel), List.mem_of_getElem? (i := 333) (by decide +kernel), List.mem_of_getElem? (i := 334) (by decide +kernel)⟩
theorem lw_p2 : lw_okq (⟨"FogNets$Reader", "readClause", "(LFogNets$Coast;I)V"⟩, 8) := ⟨⟨by decide +kernel, by decide +kernel⟩, List.mem_of_getElem? (i := 22) (by decide +kernel), List.mem_of_getElem? (i := 337) (by decide +kernel), List.mem_of_getElem? (i := 338) (by decide +kernel)⟩
theorem lw_p3 : lw_okq (⟨"FogNets$Reader", "faultOfWord", "(LFogNets$Coast;I)I"⟩, 8) := ⟨⟨by decide +kernel, by decide +kernel⟩, List.mem_of_getElem? (i := 22) (by decide +kernel), List.mem_of_getElem? (i := 341) (by decide +kernel), List.mem_of_getElem? (i := 342) (by decide +kernel)⟩
theorem lw_p4 : lw_okq (⟨"FogNets$Reader", "fail", "(II)V"⟩, 8) := ⟨⟨by decide +kernel, by decide +kernel⟩, List.mem_of_getElem? (i := 22) (by decide +kernel), List.mem_of_getElem? (i := 345) (by decide +kernel), List.mem_of_getElem? (i := 346) (by decide +kernel)⟩
theorem lw_p5 : lw_okq (⟨"FogNets$Reader", "readCells", "(LFogNets$Coast;)V"⟩, 8) := ⟨⟨by decide +kernel, by decide +kernel⟩, List.mem_of_getElem? (i := 22) (by decide +kernel), List.mem_of_getElem? (i := 349) (by decide +kernel), List.mem_of_getElem? (i := 350) (by decide +kernel)⟩
theorem lw_p6 : lw_okq (⟨"FogNets$Reader", "readNumber", "(II)I"⟩, 8) := ⟨⟨by decide +kernel, by decide +kernel⟩, List.mem_of_getElem? (i := 22) (by decide +kernel), List.mem_of_getElem? (i := 353) (by decide +kernel), List.mem_of_getElem? (i := 354) (by decide +kernel)⟩
theorem lw_p7 : lw_okq (⟨"FogNets$Reader", "readEnd", "()V"⟩, 8) := ⟨⟨by decide +kernel, by decide +kernel⟩, List.mem_of_getElem? (i := 22) (by decide +kernel), List.mem_of_getElem? (i := 358) (by decide +kernel), List.mem_of_getElem? (i := 359) (by decide +kernel)⟩
theorem lw_p8 : lw_okq (⟨"FogNets$Reader", "readHour", "(LFogNets$Coast;)V"⟩, 8) := ⟨⟨by decide +kernel, by decide +kernel⟩, List.mem_of_getElem? (i := 22) (by decide +kernel), List.mem_of_getElem? (i := 362) (by decide +kernel), List.mem_of_getElem? (i := 363) (by decide +kernel)⟩
theorem lw_p9 : lw_okq (⟨"FogNets$Reader", "readPost", "(LFogNets$Coast;)V"⟩, 8) := ⟨⟨by decide +kernel, by decide +kernel⟩, List.mem_of_getElem? (i := 22) (by decide +kernel), List.mem_of_getElem? (i := 366) (by decide +kernel), List.mem_of_getElem? (i := 367) (by decide +kernel)⟩
theorem lw_p10 : lw_okq (⟨"FogNets$Reader", "readPair", "([II)V"⟩, 8) := ⟨⟨by decide +kernel, by decide +kernel⟩, List.mem_of_getElem? (i := 22) (by decide +kernel), List.mem_of_getElem? (i := 374) (by decide +kernel), List.mem_of_getElem? (i := 375) (by decide +kernel)⟩
theorem lw_p11 : lw_okq (⟨"FogNets$Reader", "readGoat", "(LFogNets$Coast;)V"⟩, 8) := ⟨⟨by decide +kernel, by decide +kernel⟩, List.mem_of_getElem? (i := 22) (by decide +kernel), List.mem_of_getElem? (i := 378) (by decide +kernel), List.mem_of_getElem? (i := 379) (by decide +kernel)⟩
theorem lw_p12 : lw_okq (⟨"FogNets", "isPost", "(I)Z"⟩, 14) := ⟨⟨by decide +kernel, by decide +kernel⟩, List.mem_of_getElem? (i := 14) (by decide +kernel), List.mem_of_getElem? (i := 422) (by decide +kernel), List.mem_of_getElem? (i := 423) (by decide +kernel)⟩
theorem lw_p13 : lw_okq (⟨"FogNets", "isBare", "()Z"⟩, 14) := ⟨⟨by decide +kernel, by decide +kernel⟩, List.mem_of_getElem? (i := 14) (by decide +kernel), List.mem_of_getElem? (i := 432) (by decide +kernel), List.mem_of_getElem? (i := 433) (by decide +kernel)⟩
theorem lw_p14 : lw_okq (⟨"FogNets", "isGoat", "(I)Z"⟩, 14) := ⟨⟨by decide +kernel, by decide +kernel⟩, List.mem_of_getElem? (i := 14) (by decide +kernel), List.mem_of_getElem? (i := 457) (by decide +kernel), List.mem_of_getElem? (i := 458) (by decide +kernel)⟩
theorem lw_p15 : lw_okq (⟨"FogNets$Past", "stateAt", "(I)LFogNets$State;"⟩, 3) := ⟨⟨by decide +kernel, by decide +kernel⟩, List.mem_of_getElem? (i := 212) (by decide +kernel), List.mem_of_getElem? (i := 469) (by decide +kernel), List.mem_of_getElem? (i := 470) (by decide +kernel)⟩
def lw_privs_1 : List (MethodName × Nat) := [(⟨"FogNets$Reader", "nextLetter", "()I"⟩, 8), (⟨"FogNets$Reader", "letterAt", "(I)I"⟩, 8), (⟨"FogNets$Reader", "readClause", "(LFogNets$Coast;I)V"⟩, 8), (⟨"FogNets$Reader", "faultOfWord", "(LFogNets$Coast;I)I"⟩, 8), (⟨"FogNets$Reader", "fail", "(II)V"⟩, 8), (⟨"FogNets$Reader", "readCells", "(LFogNets$Coast;)V"⟩, 8), (⟨"FogNets$Reader", "readNumber", "(II)I"⟩, 8), (⟨"FogNets$Reader", "readEnd", "()V"⟩, 8), (⟨"FogNets$Reader", "readHour", "(LFogNets$Coast;)V"⟩, 8), (⟨"FogNets$Reader", "readPost", "(LFogNets$Coast;)V"⟩, 8), (⟨"FogNets$Reader", "readPair", "([II)V"⟩, 8), (⟨"FogNets$Reader", "readGoat", "(LFogNets$Coast;)V"⟩, 8), (⟨"FogNets", "isPost", "(I)Z"⟩, 14), (⟨"FogNets", "isBare", "()Z"⟩, 14), (⟨"FogNets", "isGoat", "(I)Z"⟩, 14), (⟨"FogNets$Past", "stateAt", "(I)LFogNets$State;"⟩, 3)]
theorem lw_r1 : ∀ q ∈ lw_privs_1, lw_okq q := List.forall_mem_cons.mpr ⟨lw_p0, List.forall_mem_cons.mpr ⟨lw_p1, List.forall_mem_cons.mpr ⟨lw_p2, List.forall_mem_cons.mpr ⟨lw_p3, List.forall_mem_cons.mpr ⟨lw_p4, List.forall_mem_cons.mpr ⟨lw_p5, List.forall_mem_cons.mpr ⟨lw_p6, List.forall_mem_cons.mpr ⟨lw_p7, List.forall_mem_cons.mpr ⟨lw_p8, List.forall_mem_cons.mpr ⟨lw_p9, List.forall_mem_cons.mpr ⟨lw_p10, List.forall_mem_cons.mpr ⟨lw_p11, List.forall_mem_cons.mpr ⟨lw_p12, List.forall_mem_cons.mpr ⟨lw_p13, List.forall_mem_cons.mpr ⟨lw_p14, List.forall_mem_cons.mpr ⟨lw_p15, fun _ h => absurd h List.not_mem_nil⟩⟩⟩⟩⟩⟩⟩⟩⟩⟩⟩⟩⟩⟩⟩⟩
theorem lw_p16 : lw_okq (⟨"FogNets$Wind", "lineUp", "(LFogNets$State;III)V"⟩, 3) := ⟨⟨by decide +kernel, by decide +kernel⟩, List.mem_of_getElem? (i := 193) (by decide +kernel), List.mem_of_getElem? (i := 494) (by decide +kernel), List.mem_of_getElem? (i := 495) (by decide +kernel)⟩
theorem lw_p17 : lw_okq (⟨"FogNets$State", "endDay", "(LFogNets$Coast;Z)V"⟩, 10) := ⟨⟨by decide +kernel, by decide +kernel⟩, List.mem_of_getElem? (i := 144) (by decide +kernel), List.mem_of_getElem? (i := 507) (by decide +kernel), List.mem_of_getElem? (i := 508) (by decide +kernel)⟩
theorem lw_p18 : lw_okq (⟨"FogNets", "isCell", "(I)Z"⟩, 14) := ⟨⟨by decide +kernel, by decide +kernel⟩, List.mem_of_getElem? (i := 14) (by decide +kernel), List.mem_of_getElem? (i := 545) (by decide +kernel), List.mem_of_getElem? (i := 546) (by decide +kernel)⟩
theorem lw_p19 : lw_okq (⟨"FogNets", "draw", "(I)I"⟩, 14) := ⟨⟨by decide +kernel, by decide +kernel⟩, List.mem_of_getElem? (i := 14) (by decide +kernel), List.mem_of_getElem? (i := 558) (by decide +kernel), List.mem_of_getElem? (i := 559) (by decide +kernel)⟩
theorem lw_p20 : lw_okq (⟨"FogNets", "lickByDraws", "()V"⟩, 14) := ⟨⟨by decide +kernel, by decide +kernel⟩, List.mem_of_getElem? (i := 14) (by decide +kernel), List.mem_of_getElem? (i := 566) (by decide +kernel), List.mem_of_getElem? (i := 567) (by decide +kernel)⟩
theorem lw_p21 : lw_okq (⟨"FogNets", "tryHours", "(I)I"⟩, 14) := ⟨⟨by decide +kernel, by decide +kernel⟩, List.mem_of_getElem? (i := 14) (by decide +kernel), List.mem_of_getElem? (i := 583) (by decide +kernel), List.mem_of_getElem? (i := 584) (by decide +kernel)⟩
theorem lw_p22 : lw_okq (⟨"FogNets", "blowNext", "(I)V"⟩, 14) := ⟨⟨by decide +kernel, by decide +kernel⟩, List.mem_of_getElem? (i := 14) (by decide +kernel), List.mem_of_getElem? (i := 595) (by decide +kernel), List.mem_of_getElem? (i := 596) (by decide +kernel)⟩
theorem lw_p23 : lw_okq (⟨"FogNets", "isOpenTo", "(III)Z"⟩, 14) := ⟨⟨by decide +kernel, by decide +kernel⟩, List.mem_of_getElem? (i := 14) (by decide +kernel), List.mem_of_getElem? (i := 613) (by decide +kernel), List.mem_of_getElem? (i := 614) (by decide +kernel)⟩
theorem lw_p24 : lw_okq (⟨"FogNets", "lesserHaul", "(IIII)I"⟩, 14) := ⟨⟨by decide +kernel, by decide +kernel⟩, List.mem_of_getElem? (i := 14) (by decide +kernel), List.mem_of_getElem? (i := 621) (by decide +kernel), List.mem_of_getElem? (i := 622) (by decide +kernel)⟩
theorem lw_p25 : lw_okq (⟨"FogNets", "fitting", "()J"⟩, 14) := ⟨⟨by decide +kernel, by decide +kernel⟩, List.mem_of_getElem? (i := 14) (by decide +kernel), List.mem_of_getElem? (i := 692) (by decide +kernel), List.mem_of_getElem? (i := 693) (by decide +kernel)⟩
theorem lw_p26 : lw_okq (⟨"FogNets", "fitsAll", "(I)Z"⟩, 14) := ⟨⟨by decide +kernel, by decide +kernel⟩, List.mem_of_getElem? (i := 14) (by decide +kernel), List.mem_of_getElem? (i := 696) (by decide +kernel), List.mem_of_getElem? (i := 697) (by decide +kernel)⟩
theorem lw_p27 : lw_okq (⟨"FogNets", "takenOf", "(III)I"⟩, 14) := ⟨⟨by decide +kernel, by decide +kernel⟩, List.mem_of_getElem? (i := 14) (by decide +kernel), List.mem_of_getElem? (i := 700) (by decide +kernel), List.mem_of_getElem? (i := 701) (by decide +kernel)⟩
theorem lw_p28 : lw_okq (⟨"FogNets", "greatestPart", "(JII)I"⟩, 14) := ⟨⟨by decide +kernel, by decide +kernel⟩, List.mem_of_getElem? (i := 14) (by decide +kernel), List.mem_of_getElem? (i := 714) (by decide +kernel), List.mem_of_getElem? (i := 715) (by decide +kernel)⟩
theorem lw_p29 : lw_okq (⟨"FogNets", "imageOf", "(I)LFogNets$State;"⟩, 14) := ⟨⟨by decide +kernel, by decide +kernel⟩, List.mem_of_getElem? (i := 14) (by decide +kernel), List.mem_of_getElem? (i := 743) (by decide +kernel), List.mem_of_getElem? (i := 744) (by decide +kernel)⟩
theorem lw_p30 : lw_okq (⟨"FogNetsModel", "reads", "()Z"⟩, 44) := ⟨⟨by decide +kernel, by decide +kernel⟩, List.mem_of_getElem? (i := 751) (by decide +kernel), List.mem_of_getElem? (i := 909) (by decide +kernel), List.mem_of_getElem? (i := 910) (by decide +kernel)⟩
theorem lw_p31 : lw_okq (⟨"FogNetsModel", "blanks", "()V"⟩, 44) := ⟨⟨by decide +kernel, by decide +kernel⟩, List.mem_of_getElem? (i := 751) (by decide +kernel), List.mem_of_getElem? (i := 913) (by decide +kernel), List.mem_of_getElem? (i := 914) (by decide +kernel)⟩
def lw_privs_2 : List (MethodName × Nat) := [(⟨"FogNets$Wind", "lineUp", "(LFogNets$State;III)V"⟩, 3), (⟨"FogNets$State", "endDay", "(LFogNets$Coast;Z)V"⟩, 10), (⟨"FogNets", "isCell", "(I)Z"⟩, 14), (⟨"FogNets", "draw", "(I)I"⟩, 14), (⟨"FogNets", "lickByDraws", "()V"⟩, 14), (⟨"FogNets", "tryHours", "(I)I"⟩, 14), (⟨"FogNets", "blowNext", "(I)V"⟩, 14), (⟨"FogNets", "isOpenTo", "(III)Z"⟩, 14), (⟨"FogNets", "lesserHaul", "(IIII)I"⟩, 14), (⟨"FogNets", "fitting", "()J"⟩, 14), (⟨"FogNets", "fitsAll", "(I)Z"⟩, 14), (⟨"FogNets", "takenOf", "(III)I"⟩, 14), (⟨"FogNets", "greatestPart", "(JII)I"⟩, 14), (⟨"FogNets", "imageOf", "(I)LFogNets$State;"⟩, 14), (⟨"FogNetsModel", "reads", "()Z"⟩, 44), (⟨"FogNetsModel", "blanks", "()V"⟩, 44)]
theorem lw_r2 : ∀ q ∈ lw_privs_2, lw_okq q := List.forall_mem_cons.mpr ⟨lw_p16, List.forall_mem_cons.mpr ⟨lw_p17, List.forall_mem_cons.mpr ⟨lw_p18, List.forall_mem_cons.mpr ⟨lw_p19, List.forall_mem_cons.mpr ⟨lw_p20, List.forall_mem_cons.mpr ⟨lw_p21, List.forall_mem_cons.mpr ⟨lw_p22, List.forall_mem_cons.mpr ⟨lw_p23, List.forall_mem_cons.mpr ⟨lw_p24, List.forall_mem_cons.mpr ⟨lw_p25, List.forall_mem_cons.mpr ⟨lw_p26, List.forall_mem_cons.mpr ⟨lw_p27, List.forall_mem_cons.mpr ⟨lw_p28, List.forall_mem_cons.mpr ⟨lw_p29, List.forall_mem_cons.mpr ⟨lw_p30, List.forall_mem_cons.mpr ⟨lw_p31, fun _ h => absurd h List.not_mem_nil⟩⟩⟩⟩⟩⟩⟩⟩⟩⟩⟩⟩⟩⟩⟩⟩
theorem lw_p32 : lw_okq (⟨"FogNetsModel", "letterAt", "(I)I"⟩, 44) := ⟨⟨by decide +kernel, by decide +kernel⟩, List.mem_of_getElem? (i := 751) (by decide +kernel), List.mem_of_getElem? (i := 917) (by decide +kernel), List.mem_of_getElem? (i := 918) (by decide +kernel)⟩
theorem lw_p33 : lw_okq (⟨"FogNetsModel", "readsClause", "(Z)Z"⟩, 44) := ⟨⟨by decide +kernel, by decide +kernel⟩, List.mem_of_getElem? (i := 751) (by decide +kernel), List.mem_of_getElem? (i := 921) (by decide +kernel), List.mem_of_getElem? (i := 922) (by decide +kernel)⟩
theorem lw_p34 : lw_okq (⟨"FogNetsModel", "readsHead", "()Z"⟩, 44) := ⟨⟨by decide +kernel, by decide +kernel⟩, List.mem_of_getElem? (i := 751) (by decide +kernel), List.mem_of_getElem? (i := 925) (by decide +kernel), List.mem_of_getElem? (i := 926) (by decide +kernel)⟩
theorem lw_p35 : lw_okq (⟨"FogNetsModel", "reads2", "([IIIIII)Z"⟩, 44) := ⟨⟨by decide +kernel, by decide +kernel⟩, List.mem_of_getElem? (i := 751) (by decide +kernel), List.mem_of_getElem? (i := 929) (by decide +kernel), List.mem_of_getElem? (i := 930) (by decide +kernel)⟩
theorem lw_p36 : lw_okq (⟨"FogNetsModel", "number", "(II)I"⟩, 44) := ⟨⟨by decide +kernel, by decide +kernel⟩, List.mem_of_getElem? (i := 751) (by decide +kernel), List.mem_of_getElem? (i := 933) (by decide +kernel), List.mem_of_getElem? (i := 934) (by decide +kernel)⟩
theorem lw_p37 : lw_okq (⟨"FogNetsModel", "fails", "(I)Z"⟩, 44) := ⟨⟨by decide +kernel, by decide +kernel⟩, List.mem_of_getElem? (i := 751) (by decide +kernel), List.mem_of_getElem? (i := 937) (by decide +kernel), List.mem_of_getElem? (i := 938) (by decide +kernel)⟩
theorem lw_p38 : lw_okq (⟨"FogNetsModel", "ends", "()Z"⟩, 44) := ⟨⟨by decide +kernel, by decide +kernel⟩, List.mem_of_getElem? (i := 751) (by decide +kernel), List.mem_of_getElem? (i := 941) (by decide +kernel), List.mem_of_getElem? (i := 942) (by decide +kernel)⟩
theorem lw_p39 : lw_okq (⟨"FogNetsModel", "readsHour", "()Z"⟩, 44) := ⟨⟨by decide +kernel, by decide +kernel⟩, List.mem_of_getElem? (i := 751) (by decide +kernel), List.mem_of_getElem? (i := 945) (by decide +kernel), List.mem_of_getElem? (i := 946) (by decide +kernel)⟩
theorem lw_p40 : lw_okq (⟨"FogNetsModel", "readsPost", "()Z"⟩, 44) := ⟨⟨by decide +kernel, by decide +kernel⟩, List.mem_of_getElem? (i := 751) (by decide +kernel), List.mem_of_getElem? (i := 949) (by decide +kernel), List.mem_of_getElem? (i := 950) (by decide +kernel)⟩
theorem lw_p41 : lw_okq (⟨"FogNetsModel", "isTaken", "(I)Z"⟩, 44) := ⟨⟨by decide +kernel, by decide +kernel⟩, List.mem_of_getElem? (i := 751) (by decide +kernel), List.mem_of_getElem? (i := 953) (by decide +kernel), List.mem_of_getElem? (i := 954) (by decide +kernel)⟩
theorem lw_p42 : lw_okq (⟨"FogNetsModel", "readsDays", "()Z"⟩, 44) := ⟨⟨by decide +kernel, by decide +kernel⟩, List.mem_of_getElem? (i := 751) (by decide +kernel), List.mem_of_getElem? (i := 957) (by decide +kernel), List.mem_of_getElem? (i := 958) (by decide +kernel)⟩
theorem lw_p43 : lw_okq (⟨"FogNetsModel", "readsUse", "()Z"⟩, 44) := ⟨⟨by decide +kernel, by decide +kernel⟩, List.mem_of_getElem? (i := 751) (by decide +kernel), List.mem_of_getElem? (i := 961) (by decide +kernel), List.mem_of_getElem? (i := 962) (by decide +kernel)⟩
theorem lw_p44 : lw_okq (⟨"FogNetsModel", "readsGoat", "()Z"⟩, 44) := ⟨⟨by decide +kernel, by decide +kernel⟩, List.mem_of_getElem? (i := 751) (by decide +kernel), List.mem_of_getElem? (i := 965) (by decide +kernel), List.mem_of_getElem? (i := 966) (by decide +kernel)⟩
theorem lw_p45 : lw_okq (⟨"FogNetsModel", "dayLong", "()I"⟩, 44) := ⟨⟨by decide +kernel, by decide +kernel⟩, List.mem_of_getElem? (i := 751) (by decide +kernel), List.mem_of_getElem? (i := 973) (by decide +kernel), List.mem_of_getElem? (i := 974) (by decide +kernel)⟩
theorem lw_p46 : lw_okq (⟨"FogNetsModel", "hanging", "([I)I"⟩, 44) := ⟨⟨by decide +kernel, by decide +kernel⟩, List.mem_of_getElem? (i := 751) (by decide +kernel), List.mem_of_getElem? (i := 977) (by decide +kernel), List.mem_of_getElem? (i := 978) (by decide +kernel)⟩
theorem lw_p47 : lw_okq (⟨"FogNetsModel", "isHanging", "([II)Z"⟩, 44) := ⟨⟨by decide +kernel, by decide +kernel⟩, List.mem_of_getElem? (i := 751) (by decide +kernel), List.mem_of_getElem? (i := 981) (by decide +kernel), List.mem_of_getElem? (i := 982) (by decide +kernel)⟩
def lw_privs_3 : List (MethodName × Nat) := [(⟨"FogNetsModel", "letterAt", "(I)I"⟩, 44), (⟨"FogNetsModel", "readsClause", "(Z)Z"⟩, 44), (⟨"FogNetsModel", "readsHead", "()Z"⟩, 44), (⟨"FogNetsModel", "reads2", "([IIIIII)Z"⟩, 44), (⟨"FogNetsModel", "number", "(II)I"⟩, 44), (⟨"FogNetsModel", "fails", "(I)Z"⟩, 44), (⟨"FogNetsModel", "ends", "()Z"⟩, 44), (⟨"FogNetsModel", "readsHour", "()Z"⟩, 44), (⟨"FogNetsModel", "readsPost", "()Z"⟩, 44), (⟨"FogNetsModel", "isTaken", "(I)Z"⟩, 44), (⟨"FogNetsModel", "readsDays", "()Z"⟩, 44), (⟨"FogNetsModel", "readsUse", "()Z"⟩, 44), (⟨"FogNetsModel", "readsGoat", "()Z"⟩, 44), (⟨"FogNetsModel", "dayLong", "()I"⟩, 44), (⟨"FogNetsModel", "hanging", "([I)I"⟩, 44), (⟨"FogNetsModel", "isHanging", "([II)Z"⟩, 44)]
theorem lw_r3 : ∀ q ∈ lw_privs_3, lw_okq q := List.forall_mem_cons.mpr ⟨lw_p32, List.forall_mem_cons.mpr ⟨lw_p33, List.forall_mem_cons.mpr ⟨lw_p34, List.forall_mem_cons.mpr ⟨lw_p35, List.forall_mem_cons.mpr ⟨lw_p36, List.forall_mem_cons.mpr ⟨lw_p37, List.forall_mem_cons.mpr ⟨lw_p38, List.forall_mem_cons.mpr ⟨lw_p39, List.forall_mem_cons.mpr ⟨lw_p40, List.forall_mem_cons.mpr ⟨lw_p41, List.forall_mem_cons.mpr ⟨lw_p42, List.forall_mem_cons.mpr ⟨lw_p43, List.forall_mem_cons.mpr ⟨lw_p44, List.forall_mem_cons.mpr ⟨lw_p45, List.forall_mem_cons.mpr ⟨lw_p46, List.forall_mem_cons.mpr ⟨lw_p47, fun _ h => absurd h List.not_mem_nil⟩⟩⟩⟩⟩⟩⟩⟩⟩⟩⟩⟩⟩⟩⟩⟩
theorem lw_p48 : lw_okq (⟨"FogNetsModel", "jars", "([I)I"⟩, 44) := ⟨⟨by decide +kernel, by decide +kernel⟩, List.mem_of_getElem? (i := 751) (by decide +kernel), List.mem_of_getElem? (i := 988) (by decide +kernel), List.mem_of_getElem? (i := 989) (by decide +kernel)⟩
theorem lw_p49 : lw_okq (⟨"FogNetsModel", "isPost", "(I)Z"⟩, 44) := ⟨⟨by decide +kernel, by decide +kernel⟩, List.mem_of_getElem? (i := 751) (by decide +kernel), List.mem_of_getElem? (i := 996) (by decide +kernel), List.mem_of_getElem? (i := 997) (by decide +kernel)⟩
theorem lw_p50 : lw_okq (⟨"FogNetsModel", "sideOf", "([I)I"⟩, 44) := ⟨⟨by decide +kernel, by decide +kernel⟩, List.mem_of_getElem? (i := 751) (by decide +kernel), List.mem_of_getElem? (i := 1006) (by decide +kernel), List.mem_of_getElem? (i := 1007) (by decide +kernel)⟩
theorem lw_p51 : lw_okq (⟨"FogNetsModel", "fogOf", "([I)I"⟩, 44) := ⟨⟨by decide +kernel, by decide +kernel⟩, List.mem_of_getElem? (i := 751) (by decide +kernel), List.mem_of_getElem? (i := 1010) (by decide +kernel), List.mem_of_getElem? (i := 1011) (by decide +kernel)⟩
theorem lw_p52 : lw_okq (⟨"FogNetsModel", "postsOf", "(I)I"⟩, 44) := ⟨⟨by decide +kernel, by decide +kernel⟩, List.mem_of_getElem? (i := 751) (by decide +kernel), List.mem_of_getElem? (i := 1021) (by decide +kernel), List.mem_of_getElem? (i := 1022) (by decide +kernel)⟩
theorem lw_p53 : lw_okq (⟨"FogNetsModel", "need", "(Z)I"⟩, 44) := ⟨⟨by decide +kernel, by decide +kernel⟩, List.mem_of_getElem? (i := 751) (by decide +kernel), List.mem_of_getElem? (i := 1033) (by decide +kernel), List.mem_of_getElem? (i := 1034) (by decide +kernel)⟩
theorem lw_p54 : lw_okq (⟨"FogNetsModel", "remember", "()V"⟩, 44) := ⟨⟨by decide +kernel, by decide +kernel⟩, List.mem_of_getElem? (i := 751) (by decide +kernel), List.mem_of_getElem? (i := 1037) (by decide +kernel), List.mem_of_getElem? (i := 1038) (by decide +kernel)⟩
theorem lw_p55 : lw_okq (⟨"FogNetsModel", "passesOn", "([I)I"⟩, 44) := ⟨⟨by decide +kernel, by decide +kernel⟩, List.mem_of_getElem? (i := 751) (by decide +kernel), List.mem_of_getElem? (i := 1041) (by decide +kernel), List.mem_of_getElem? (i := 1042) (by decide +kernel)⟩
theorem lw_p56 : lw_okq (⟨"FogNetsModel", "passes", "([IIIZ)I"⟩, 44) := ⟨⟨by decide +kernel, by decide +kernel⟩, List.mem_of_getElem? (i := 751) (by decide +kernel), List.mem_of_getElem? (i := 1045) (by decide +kernel), List.mem_of_getElem? (i := 1046) (by decide +kernel)⟩
theorem lw_p57 : lw_okq (⟨"FogNetsModel", "leads", "([IIII)I"⟩, 44) := ⟨⟨by decide +kernel, by decide +kernel⟩, List.mem_of_getElem? (i := 751) (by decide +kernel), List.mem_of_getElem? (i := 1052) (by decide +kernel), List.mem_of_getElem? (i := 1053) (by decide +kernel)⟩
theorem lw_p58 : lw_okq (⟨"FogNetsModel", "postIn", "([II)I"⟩, 44) := ⟨⟨by decide +kernel, by decide +kernel⟩, List.mem_of_getElem? (i := 751) (by decide +kernel), List.mem_of_getElem? (i := 1056) (by decide +kernel), List.mem_of_getElem? (i := 1057) (by decide +kernel)⟩
theorem lw_p59 : lw_okq (⟨"FogNetsModel", "carries", "([II)I"⟩, 44) := ⟨⟨by decide +kernel, by decide +kernel⟩, List.mem_of_getElem? (i := 751) (by decide +kernel), List.mem_of_getElem? (i := 1067) (by decide +kernel), List.mem_of_getElem? (i := 1068) (by decide +kernel)⟩
theorem lw_p60 : lw_okq (⟨"FogNetsModel", "drinks", "([I)V"⟩, 44) := ⟨⟨by decide +kernel, by decide +kernel⟩, List.mem_of_getElem? (i := 751) (by decide +kernel), List.mem_of_getElem? (i := 1072) (by decide +kernel), List.mem_of_getElem? (i := 1073) (by decide +kernel)⟩
theorem lw_p61 : lw_okq (⟨"FogNetsModel", "usesUp", "([I)V"⟩, 44) := ⟨⟨by decide +kernel, by decide +kernel⟩, List.mem_of_getElem? (i := 751) (by decide +kernel), List.mem_of_getElem? (i := 1076) (by decide +kernel), List.mem_of_getElem? (i := 1077) (by decide +kernel)⟩
theorem lw_p62 : lw_okq (⟨"FogNetsModel", "allTook", "()I"⟩, 44) := ⟨⟨by decide +kernel, by decide +kernel⟩, List.mem_of_getElem? (i := 751) (by decide +kernel), List.mem_of_getElem? (i := 1080) (by decide +kernel), List.mem_of_getElem? (i := 1081) (by decide +kernel)⟩
theorem lw_p63 : lw_okq (⟨"FogNetsModel", "licks", "(II)V"⟩, 44) := ⟨⟨by decide +kernel, by decide +kernel⟩, List.mem_of_getElem? (i := 751) (by decide +kernel), List.mem_of_getElem? (i := 1092) (by decide +kernel), List.mem_of_getElem? (i := 1093) (by decide +kernel)⟩
def lw_privs_4 : List (MethodName × Nat) := [(⟨"FogNetsModel", "jars", "([I)I"⟩, 44), (⟨"FogNetsModel", "isPost", "(I)Z"⟩, 44), (⟨"FogNetsModel", "sideOf", "([I)I"⟩, 44), (⟨"FogNetsModel", "fogOf", "([I)I"⟩, 44), (⟨"FogNetsModel", "postsOf", "(I)I"⟩, 44), (⟨"FogNetsModel", "need", "(Z)I"⟩, 44), (⟨"FogNetsModel", "remember", "()V"⟩, 44), (⟨"FogNetsModel", "passesOn", "([I)I"⟩, 44), (⟨"FogNetsModel", "passes", "([IIIZ)I"⟩, 44), (⟨"FogNetsModel", "leads", "([IIII)I"⟩, 44), (⟨"FogNetsModel", "postIn", "([II)I"⟩, 44), (⟨"FogNetsModel", "carries", "([II)I"⟩, 44), (⟨"FogNetsModel", "drinks", "([I)V"⟩, 44), (⟨"FogNetsModel", "usesUp", "([I)V"⟩, 44), (⟨"FogNetsModel", "allTook", "()I"⟩, 44), (⟨"FogNetsModel", "licks", "(II)V"⟩, 44)]
theorem lw_r4 : ∀ q ∈ lw_privs_4, lw_okq q := List.forall_mem_cons.mpr ⟨lw_p48, List.forall_mem_cons.mpr ⟨lw_p49, List.forall_mem_cons.mpr ⟨lw_p50, List.forall_mem_cons.mpr ⟨lw_p51, List.forall_mem_cons.mpr ⟨lw_p52, List.forall_mem_cons.mpr ⟨lw_p53, List.forall_mem_cons.mpr ⟨lw_p54, List.forall_mem_cons.mpr ⟨lw_p55, List.forall_mem_cons.mpr ⟨lw_p56, List.forall_mem_cons.mpr ⟨lw_p57, List.forall_mem_cons.mpr ⟨lw_p58, List.forall_mem_cons.mpr ⟨lw_p59, List.forall_mem_cons.mpr ⟨lw_p60, List.forall_mem_cons.mpr ⟨lw_p61, List.forall_mem_cons.mpr ⟨lw_p62, List.forall_mem_cons.mpr ⟨lw_p63, fun _ h => absurd h List.not_mem_nil⟩⟩⟩⟩⟩⟩⟩⟩⟩⟩⟩⟩⟩⟩⟩⟩
theorem lw_p64 : lw_okq (⟨"FogNetsModel", "isCell", "(I)Z"⟩, 44) := ⟨⟨by decide +kernel, by decide +kernel⟩, List.mem_of_getElem? (i := 751) (by decide +kernel), List.mem_of_getElem? (i := 1104) (by decide +kernel), List.mem_of_getElem? (i := 1105) (by decide +kernel)⟩
theorem lw_p65 : lw_okq (⟨"FogNetsModel", "draw", "(I)I"⟩, 44) := ⟨⟨by decide +kernel, by decide +kernel⟩, List.mem_of_getElem? (i := 751) (by decide +kernel), List.mem_of_getElem? (i := 1116) (by decide +kernel), List.mem_of_getElem? (i := 1117) (by decide +kernel)⟩
theorem lw_p66 : lw_okq (⟨"FogNetsModel", "copyNow", "()V"⟩, 44) := ⟨⟨by decide +kernel, by decide +kernel⟩, List.mem_of_getElem? (i := 751) (by decide +kernel), List.mem_of_getElem? (i := 1132) (by decide +kernel), List.mem_of_getElem? (i := 1133) (by decide +kernel)⟩
theorem lw_p67 : lw_okq (⟨"FogNetsModel", "goesOn", "(I)V"⟩, 44) := ⟨⟨by decide +kernel, by decide +kernel⟩, List.mem_of_getElem? (i := 751) (by decide +kernel), List.mem_of_getElem? (i := 1136) (by decide +kernel), List.mem_of_getElem? (i := 1137) (by decide +kernel)⟩
theorem lw_p68 : lw_okq (⟨"FogNetsModel", "isFor", "(III)Z"⟩, 44) := ⟨⟨by decide +kernel, by decide +kernel⟩, List.mem_of_getElem? (i := 751) (by decide +kernel), List.mem_of_getElem? (i := 1164) (by decide +kernel), List.mem_of_getElem? (i := 1165) (by decide +kernel)⟩
theorem lw_p69 : lw_okq (⟨"FogNetsModel", "sumOf", "(I)I"⟩, 44) := ⟨⟨by decide +kernel, by decide +kernel⟩, List.mem_of_getElem? (i := 751) (by decide +kernel), List.mem_of_getElem? (i := 1168) (by decide +kernel), List.mem_of_getElem? (i := 1169) (by decide +kernel)⟩
theorem lw_p70 : lw_okq (⟨"FogNetsModel", "tookWith", "(II)I"⟩, 44) := ⟨⟨by decide +kernel, by decide +kernel⟩, List.mem_of_getElem? (i := 751) (by decide +kernel), List.mem_of_getElem? (i := 1176) (by decide +kernel), List.mem_of_getElem? (i := 1177) (by decide +kernel)⟩
theorem lw_p71 : lw_okq (⟨"FogNetsModel", "ownedBy", "(I)I"⟩, 44) := ⟨⟨by decide +kernel, by decide +kernel⟩, List.mem_of_getElem? (i := 751) (by decide +kernel), List.mem_of_getElem? (i := 1200) (by decide +kernel), List.mem_of_getElem? (i := 1201) (by decide +kernel)⟩
theorem lw_p72 : lw_okq (⟨"FogNetsModel", "isSo", "(I)Z"⟩, 44) := ⟨⟨by decide +kernel, by decide +kernel⟩, List.mem_of_getElem? (i := 751) (by decide +kernel), List.mem_of_getElem? (i := 1230) (by decide +kernel), List.mem_of_getElem? (i := 1231) (by decide +kernel)⟩
theorem lw_p73 : lw_okq (⟨"FogNetsModel", "tookOf", "(III)I"⟩, 44) := ⟨⟨by decide +kernel, by decide +kernel⟩, List.mem_of_getElem? (i := 751) (by decide +kernel), List.mem_of_getElem? (i := 1234) (by decide +kernel), List.mem_of_getElem? (i := 1235) (by decide +kernel)⟩
theorem lw_p74 : lw_okq (⟨"FogNetsModel", "greatest", "(II)I"⟩, 44) := ⟨⟨by decide +kernel, by decide +kernel⟩, List.mem_of_getElem? (i := 751) (by decide +kernel), List.mem_of_getElem? (i := 1243) (by decide +kernel), List.mem_of_getElem? (i := 1244) (by decide +kernel)⟩
def lw_privs_5 : List (MethodName × Nat) := [(⟨"FogNetsModel", "isCell", "(I)Z"⟩, 44), (⟨"FogNetsModel", "draw", "(I)I"⟩, 44), (⟨"FogNetsModel", "copyNow", "()V"⟩, 44), (⟨"FogNetsModel", "goesOn", "(I)V"⟩, 44), (⟨"FogNetsModel", "isFor", "(III)Z"⟩, 44), (⟨"FogNetsModel", "sumOf", "(I)I"⟩, 44), (⟨"FogNetsModel", "tookWith", "(II)I"⟩, 44), (⟨"FogNetsModel", "ownedBy", "(I)I"⟩, 44), (⟨"FogNetsModel", "isSo", "(I)Z"⟩, 44), (⟨"FogNetsModel", "tookOf", "(III)I"⟩, 44), (⟨"FogNetsModel", "greatest", "(II)I"⟩, 44)]
theorem lw_r5 : ∀ q ∈ lw_privs_5, lw_okq q := List.forall_mem_cons.mpr ⟨lw_p64, List.forall_mem_cons.mpr ⟨lw_p65, List.forall_mem_cons.mpr ⟨lw_p66, List.forall_mem_cons.mpr ⟨lw_p67, List.forall_mem_cons.mpr ⟨lw_p68, List.forall_mem_cons.mpr ⟨lw_p69, List.forall_mem_cons.mpr ⟨lw_p70, List.forall_mem_cons.mpr ⟨lw_p71, List.forall_mem_cons.mpr ⟨lw_p72, List.forall_mem_cons.mpr ⟨lw_p73, List.forall_mem_cons.mpr ⟨lw_p74, fun _ h => absurd h List.not_mem_nil⟩⟩⟩⟩⟩⟩⟩⟩⟩⟩⟩
def lw_privs : List (MethodName × Nat) := lw_privs_1 ++ (lw_privs_2 ++ (lw_privs_3 ++ (lw_privs_4 ++ (lw_privs_5))))
def lw_tbl : List Cond := k2_sels lw_privs ++ tables_1
theorem lw_privs_ok : ∀ q ∈ lw_privs, lw_okq q := by
  show ∀ q ∈ lw_privs_1 ++ (lw_privs_2 ++ (lw_privs_3 ++ (lw_privs_4 ++ (lw_privs_5)))), lw_okq q
  exact List.forall_mem_append.mpr ⟨lw_r1, List.forall_mem_append.mpr ⟨lw_r2, List.forall_mem_append.mpr ⟨lw_r3, List.forall_mem_append.mpr ⟨lw_r4, lw_r5⟩⟩⟩⟩
/-! THE CLAIM OUT OF ONE WALK OF THE LAW'S BODY. Your part is whole_start (and what it stands on); all else here is the same for every law, but numbers. -/
def R_law : String := "FogNetsLaw"
def lw_P (b : Addr) (xs : List Int32) (args : Array Value) (s : State) : Prop := args = #[.ref b] ∧ s.IntsAt b xs ∧ xs.length ≤ 2048 ∧ (Jvm.Cond.and given_1 narrow_1).before args s = true
def lw_Q (_ : Array Value) (s : State) (o : Outcome) (t : State) : Prop := o = .returned (some (.int 1)) ∧ Framed s o t [] 600000 7302250
def lw_Z (below : List Frame) (a : Array Value) (s : State) : State → Prop := fun t => ∃ o, t.status = .running ∧ Ended t below o ∧ lw_Q a s o t
/-- the law's own end, with 1 on the stack, nothing written that was there before, its room as the claim has it -/
theorem lw_ret {p : Program} {l : Launch} {e : Env} {s : State} {m : MethodId} {below : List Frame} {meth : Method} {c : Code} {b : Nat} (hx : p.tables.exec = Jvm.exec) (hb : c.code = code) (hr : meth.sig.returnType = ret) (hlocks : meth.locks = false) {pc : Nat} {H : Heap} {ls : Array Slot} (hdg : decode code pc = .ok (.ireturn, 1)) : W p l e room_1 s m #[Value.ref b] below meth c H [] 600000 7302250 (lw_Z below #[Value.ref b] s) (F0 m pc ls [.int 1]) := by
  intro T hT X
  obtain ⟨fs, hret, hrun, hended, hW, hframe⟩ := X.leave (v := some (.int 1)) (hlocks := hlocks) (fun h => by rw [hr] at h; cases h)
  have hmeth' : T.vm.method? m = some meth := X.method'
  refine ⟨T.setFrames fs, ?_, .returned (some (.int 1)), hrun, hended, rfl, ⟨_, rfl⟩, hW, hframe⟩
  jvm_step X.here [X.here.top, hx, hb, hdg, hmeth', hr, ret, narrow_b1]
  (try refine ⟨rfl, ?_⟩); (try refine ⟨rfl, ?_⟩)
  first | (intro acts; rw [hret _ acts rfl rfl rfl]) | rw [hret _ _ rfl rfl rfl]
  exact Steps.refl _
/-- what holds at the law's entry: the machine, the code, the tables' words (any of lw_tbl by 'hts w (by decide +kernel)'), the script of L ints xs at the cell b, what the Statement gives of the start (any of its parts by flat_of_before) -/
def lw_At (p : Program) (s : State) (m : MethodId) (meth : Method) (c : Code) (b L : Nat) (xs : Nat → Int32) : Prop :=
  p.tables.exec = Jvm.exec ∧ c.code = code ∧ meth.sig.returnType = ret ∧ c.maxLocals = 4 ∧ s.vm.findClass R_law = some m.cls ∧ (∀ w ∈ lw_tbl, w.before #[Value.ref b] s = true) ∧ va_X b L xs s s.heap ∧ b < s.heap.size ∧ meth.locks = false ∧ (Jvm.Cond.and given_1 narrow_1).before #[Value.ref b] s = true
end
section
/-! ===== BEGIN words of one list among another's, by their places ===== -/
theorem goodIn_r {big : List Cond} (ws : List Cond) (ps : List Nat) (hp : ws = ps.filterMap (fun i => big[i]?)) (h : ws.all goodWord = true) : GoodIn big ws := by
  intro w hw
  have h1 := List.all_eq_true.mp h w hw
  rw [hp] at hw
  obtain ⟨i, -, hi⟩ := List.mem_filterMap.mp hw
  have hm : w ∈ big := by first | exact List.mem_of_getElem? hi | exact List.getElem?_mem hi
  exact ⟨hm, good_of_word h1⟩
theorem goodIn_app {big a b : List Cond} (ha : GoodIn big a) (hb : GoodIn big b) : GoodIn big (a ++ b) := fun w h => (List.mem_append.mp h).elim (ha w) (hb w)
theorem goodIn_ca {big a b : List Cond} {c : Cond} (ha : GoodIn big (c :: a)) (hb : GoodIn big b) : GoodIn big (c :: (a ++ b)) := fun w h => (List.mem_cons.mp h).elim (fun e => ha w (List.mem_cons.mpr (Or.inl e))) (fun h => (List.mem_append.mp h).elim (fun h => ha w (List.mem_cons.mpr (Or.inr h))) (hb w))
theorem goodIn_sub {big ws : List Cond} (hm : ∀ w ∈ ws, w ∈ big) (h : ws.all goodWord = true) : GoodIn big ws := fun w hw => ⟨hm w hw, good_of_word (List.all_eq_true.mp h w hw)⟩
/-! ===== END ===== -/

/-! ===== BEGIN printed: names, fields, word lists, decode rows ===== -/
def RX0 : String := "FogNets$Coast"
def TX0 : u_T := fun k => match k with
  | 0 => ("FogNets$Coast", "cells", "I", false)
  | 1 => ("FogNets$Coast", "burns", "I", false)
  | 2 => ("FogNets$Coast", "hours", "I", false)
  | 3 => ("FogNets$Coast", "posts", "I", false)
  | 4 => ("FogNets$Coast", "goats", "I", false)
  | 5 => ("FogNets$Coast", "side", "[I", true)
  | 6 => ("FogNets$Coast", "thickness", "[I", true)
  | 7 => ("FogNets$Coast", "firstCell", "[I", true)
  | 8 => ("FogNets$Coast", "firstMesh", "[I", true)
  | 9 => ("FogNets$Coast", "jarSize", "[I", true)
  | 10 => ("FogNets$Coast", "owner", "[I", true)
  | 11 => ("FogNets$Coast", "hangDays", "[I", true)
  | 12 => ("FogNets$Coast", "uses", "[I", true)
  | 13 => ("FogNets$Coast", "goatCell", "[I", true)
  | _ => ("FogNets$Coast", "goatDrinks", "[I", true)
def tyX0 : Nat → FieldType := fun k => match k with
  | 0 => .int
  | 1 => .int
  | 2 => .int
  | 3 => .int
  | 4 => .int
  | 5 => .array .int
  | 6 => .array .int
  | 7 => .array .int
  | 8 => .array .int
  | 9 => .array .int
  | 10 => .array .int
  | 11 => .array .int
  | 12 => .array .int
  | 13 => .array .int
  | _ => .array .int
abbrev wsX00 : List Cond := u_ws RX0 TX0 15
theorem nmX0 : ∀ a, a < 15 → ∀ b, b < 15 → a ≠ b → (TX0 a).2.1 ≠ (TX0 b).2.1 := by decide +kernel
theorem tyX0_ok : ∀ k, k < 15 → parseFieldDescriptor (TX0 k).2.2.1 = some (tyX0 k) := by decide +kernel
abbrev cX0_init : ByteArray := prog_2_method_1_code
def yX0_init : MethodName := ⟨RX0, "<init>", "()V"⟩
abbrev cX0_wipe : ByteArray := prog_2_method_2_code
def yX0_wipe : MethodName := ⟨RX0, "wipe", "()V"⟩
abbrev cX0_hoursOfDay : ByteArray := prog_2_method_3_code
def yX0_hoursOfDay : MethodName := ⟨RX0, "hoursOfDay", "()I"⟩
abbrev cX0_sideAt : ByteArray := prog_2_method_4_code
def yX0_sideAt : MethodName := ⟨RX0, "sideAt", "(I)I"⟩
abbrev cX0_fogAt : ByteArray := prog_2_method_5_code
def yX0_fogAt : MethodName := ⟨RX0, "fogAt", "(I)I"⟩
abbrev cX0_hangsOn : ByteArray := prog_2_method_6_code
def yX0_hangsOn : MethodName := ⟨RX0, "hangsOn", "(II)Z"⟩
abbrev cX0_postsOf : ByteArray := prog_2_method_7_code
def yX0_postsOf : MethodName := ⟨RX0, "postsOf", "(I)I"⟩
abbrev cX0_hasPostIn : ByteArray := prog_2_method_8_code
def yX0_hasPostIn : MethodName := ⟨RX0, "hasPostIn", "(I)Z"⟩
def RX1 : String := "FogNets$Notes"
def TX1 : u_T := fun k => match k with
  | 0 => ("FogNets$Notes", "posts", "[I", true)
  | 1 => ("FogNets$Notes", "sides", "[I", true)
  | 2 => ("FogNets$Notes", "amounts", "[I", true)
  | _ => ("FogNets$Notes", "many", "I", false)
def tyX1 : Nat → FieldType := fun k => match k with
  | 0 => .array .int
  | 1 => .array .int
  | 2 => .array .int
  | _ => .int
abbrev wsX10 : List Cond := u_ws RX1 TX1 4
theorem nmX1 : ∀ a, a < 4 → ∀ b, b < 4 → a ≠ b → (TX1 a).2.1 ≠ (TX1 b).2.1 := by decide +kernel
theorem tyX1_ok : ∀ k, k < 4 → parseFieldDescriptor (TX1 k).2.2.1 = some (tyX1 k) := by decide +kernel
abbrev cX1_init : ByteArray := prog_3_method_1_code
def yX1_init : MethodName := ⟨RX1, "<init>", "(I)V"⟩
abbrev cX1_note : ByteArray := prog_3_method_2_code
def yX1_note : MethodName := ⟨RX1, "note", "(III)I"⟩
def RX2 : String := "FogNets$Past"
def TX2 : u_T := fun k => match k with
  | 0 => ("FogNets$Past", "ring", "[LFogNets$State;", true)
  | 1 => ("FogNets$Past", "oldest", "I", false)
  | _ => ("FogNets$Past", "many", "I", false)
def tyX2 : Nat → FieldType := fun k => match k with
  | 0 => .array (.object "FogNets$State")
  | 1 => .int
  | _ => .int
abbrev wsX20 : List Cond := u_ws RX2 TX2 3
theorem nmX2 : ∀ a, a < 3 → ∀ b, b < 3 → a ≠ b → (TX2 a).2.1 ≠ (TX2 b).2.1 := by decide +kernel
theorem tyX2_ok : ∀ k, k < 3 → parseFieldDescriptor (TX2 k).2.2.1 = some (tyX2 k) := by decide +kernel
abbrev cX2_init : ByteArray := prog_4_method_1_code
def yX2_init : MethodName := ⟨RX2, "<init>", "()V"⟩
abbrev cX2_remember : ByteArray := prog_4_method_2_code
def yX2_remember : MethodName := ⟨RX2, "remember", "(LFogNets$State;)V"⟩
abbrev cX2_takeBack : ByteArray := prog_4_method_3_code
def yX2_takeBack : MethodName := ⟨RX2, "takeBack", "(LFogNets$State;I)V"⟩
abbrev cX2_stateAt : ByteArray := prog_4_method_4_code
def yX2_stateAt : MethodName := ⟨RX2, "stateAt", "(I)LFogNets$State;"⟩
def RX3 : String := "FogNets$Reader"
def TX3 : u_T := fun k => match k with
  | 0 => ("FogNets$Reader", "letters", "[I", true)
  | 1 => ("FogNets$Reader", "length", "I", false)
  | 2 => ("FogNets$Reader", "place", "I", false)
  | 3 => ("FogNets$Reader", "numberPlace", "I", false)
  | 4 => ("FogNets$Reader", "fault", "I", false)
  | 5 => ("FogNets$Reader", "faultPlace", "I", false)
  | 6 => ("FogNets$Reader", "daysTold", "Z", false)
  | _ => ("FogNets$Reader", "usesTold", "Z", false)
def tyX3 : Nat → FieldType := fun k => match k with
  | 0 => .array .int
  | 1 => .int
  | 2 => .int
  | 3 => .int
  | 4 => .int
  | 5 => .int
  | 6 => .boolean
  | _ => .boolean
abbrev wsX30 : List Cond := u_ws RX3 TX3 8
theorem nmX3 : ∀ a, a < 8 → ∀ b, b < 8 → a ≠ b → (TX3 a).2.1 ≠ (TX3 b).2.1 := by decide +kernel
theorem tyX3_ok : ∀ k, k < 8 → parseFieldDescriptor (TX3 k).2.2.1 = some (tyX3 k) := by decide +kernel
abbrev cX3_init : ByteArray := prog_5_method_1_code
def yX3_init : MethodName := ⟨RX3, "<init>", "()V"⟩
abbrev cX3_append : ByteArray := prog_5_method_2_code
def yX3_append : MethodName := ⟨RX3, "append", "(I)I"⟩
abbrev cX3_readAll : ByteArray := prog_5_method_3_code
def yX3_readAll : MethodName := ⟨RX3, "readAll", "(LFogNets$Coast;)I"⟩
abbrev cX3_letterAt : ByteArray := prog_5_method_4_code
def yX3_letterAt : MethodName := ⟨RX3, "letterAt", "(I)I"⟩
abbrev cX3_nextLetter : ByteArray := prog_5_method_5_code
def yX3_nextLetter : MethodName := ⟨RX3, "nextLetter", "()I"⟩
abbrev cX3_fail : ByteArray := prog_5_method_6_code
def yX3_fail : MethodName := ⟨RX3, "fail", "(II)V"⟩
abbrev cX3_readClause : ByteArray := prog_5_method_7_code
def yX3_readClause : MethodName := ⟨RX3, "readClause", "(LFogNets$Coast;I)V"⟩
abbrev cX3_faultOfWord : ByteArray := prog_5_method_8_code
def yX3_faultOfWord : MethodName := ⟨RX3, "faultOfWord", "(LFogNets$Coast;I)I"⟩
abbrev cX3_readCells : ByteArray := prog_5_method_9_code
def yX3_readCells : MethodName := ⟨RX3, "readCells", "(LFogNets$Coast;)V"⟩
abbrev cX3_readHour : ByteArray := prog_5_method_10_code
def yX3_readHour : MethodName := ⟨RX3, "readHour", "(LFogNets$Coast;)V"⟩
abbrev cX3_readPost : ByteArray := prog_5_method_11_code
def yX3_readPost : MethodName := ⟨RX3, "readPost", "(LFogNets$Coast;)V"⟩
abbrev cX3_readPair : ByteArray := prog_5_method_12_code
def yX3_readPair : MethodName := ⟨RX3, "readPair", "([II)V"⟩
abbrev cX3_readGoat : ByteArray := prog_5_method_13_code
def yX3_readGoat : MethodName := ⟨RX3, "readGoat", "(LFogNets$Coast;)V"⟩
abbrev cX3_readNumber : ByteArray := prog_5_method_14_code
def yX3_readNumber : MethodName := ⟨RX3, "readNumber", "(II)I"⟩
abbrev cX3_readEnd : ByteArray := prog_5_method_15_code
def yX3_readEnd : MethodName := ⟨RX3, "readEnd", "()V"⟩
def RX4 : String := "FogNets$State"
def TX4 : u_T := fun k => match k with
  | 0 => ("FogNets$State", "days", "I", false)
  | 1 => ("FogNets$State", "hour", "I", false)
  | 2 => ("FogNets$State", "lit", "Z", false)
  | 3 => ("FogNets$State", "spilled", "I", false)
  | 4 => ("FogNets$State", "drunk", "I", false)
  | 5 => ("FogNets$State", "cell", "[I", true)
  | 6 => ("FogNets$State", "mesh", "[I", true)
  | 7 => ("FogNets$State", "jar", "[I", true)
  | 8 => ("FogNets$State", "cistern", "[I", true)
  | _ => ("FogNets$State", "thirst", "[I", true)
def tyX4 : Nat → FieldType := fun k => match k with
  | 0 => .int
  | 1 => .int
  | 2 => .boolean
  | 3 => .int
  | 4 => .int
  | 5 => .array .int
  | 6 => .array .int
  | 7 => .array .int
  | 8 => .array .int
  | _ => .array .int
abbrev wsX40 : List Cond := u_ws RX4 TX4 10
theorem nmX4 : ∀ a, a < 10 → ∀ b, b < 10 → a ≠ b → (TX4 a).2.1 ≠ (TX4 b).2.1 := by decide +kernel
theorem tyX4_ok : ∀ k, k < 10 → parseFieldDescriptor (TX4 k).2.2.1 = some (tyX4 k) := by decide +kernel
abbrev cX4_init : ByteArray := prog_6_method_1_code
def yX4_init : MethodName := ⟨RX4, "<init>", "()V"⟩
abbrev cX4_begin : ByteArray := prog_6_method_2_code
def yX4_begin : MethodName := ⟨RX4, "begin", "(LFogNets$Coast;)V"⟩
abbrev cX4_become : ByteArray := prog_6_method_3_code
def yX4_become : MethodName := ⟨RX4, "become", "(LFogNets$State;)V"⟩
abbrev cX4_hanging : ByteArray := prog_6_method_4_code
def yX4_hanging : MethodName := ⟨RX4, "hanging", "(LFogNets$Coast;)I"⟩
abbrev cX4_postIn : ByteArray := prog_6_method_5_code
def yX4_postIn : MethodName := ⟨RX4, "postIn", "(I)I"⟩
abbrev cX4_inJars : ByteArray := prog_6_method_6_code
def yX4_inJars : MethodName := ⟨RX4, "inJars", "()I"⟩
abbrev cX4_lampedFog : ByteArray := prog_6_method_7_code
def yX4_lampedFog : MethodName := ⟨RX4, "lampedFog", "(LFogNets$Coast;I)I"⟩
abbrev cX4_passHour : ByteArray := prog_6_method_8_code
def yX4_passHour : MethodName := ⟨RX4, "passHour", "(LFogNets$Coast;LFogNets$Wind;IIZ)I"⟩
abbrev cX4_endDay : ByteArray := prog_6_method_9_code
def yX4_endDay : MethodName := ⟨RX4, "endDay", "(LFogNets$Coast;Z)V"⟩
abbrev cX4_emptyJarsOf : ByteArray := prog_6_method_10_code
def yX4_emptyJarsOf : MethodName := ⟨RX4, "emptyJarsOf", "(LFogNets$Coast;I)I"⟩
abbrev cX4_loseFromJar : ByteArray := prog_6_method_11_code
def yX4_loseFromJar : MethodName := ⟨RX4, "loseFromJar", "(II)I"⟩
abbrev cX4_counted : ByteArray := prog_6_method_12_code
def yX4_counted : MethodName := ⟨RX4, "counted", "(I)I"⟩
def RX5 : String := "FogNets$Wind"
def TX5 : u_T := fun k => match k with
  | 0 => ("FogNets$Wind", "took", "[I", true)
  | 1 => ("FogNets$Wind", "order", "[I", true)
  | _ => ("FogNets$Wind", "beyond", "I", false)
def tyX5 : Nat → FieldType := fun k => match k with
  | 0 => .array .int
  | 1 => .array .int
  | _ => .int
abbrev wsX50 : List Cond := u_ws RX5 TX5 3
theorem nmX5 : ∀ a, a < 3 → ∀ b, b < 3 → a ≠ b → (TX5 a).2.1 ≠ (TX5 b).2.1 := by decide +kernel
theorem tyX5_ok : ∀ k, k < 3 → parseFieldDescriptor (TX5 k).2.2.1 = some (tyX5 k) := by decide +kernel
abbrev cX5_init : ByteArray := prog_7_method_1_code
def yX5_init : MethodName := ⟨RX5, "<init>", "()V"⟩
abbrev cX5_blow : ByteArray := prog_7_method_2_code
def yX5_blow : MethodName := ⟨RX5, "blow", "(LFogNets$State;IIII)V"⟩
abbrev cX5_takerOf : ByteArray := prog_7_method_3_code
def yX5_takerOf : MethodName := ⟨RX5, "takerOf", "(I)I"⟩
abbrev cX5_lineUp : ByteArray := prog_7_method_4_code
def yX5_lineUp : MethodName := ⟨RX5, "lineUp", "(LFogNets$State;III)V"⟩
def RX6 : String := "FogNets"
def TX6 : u_T := fun k => match k with
  | 0 => ("FogNets", "reader", "LFogNets$Reader;", true)
  | 1 => ("FogNets", "ridge", "LFogNets$Coast;", false)
  | 2 => ("FogNets", "draft", "LFogNets$Coast;", false)
  | 3 => ("FogNets", "now", "LFogNets$State;", true)
  | 4 => ("FogNets", "trial", "LFogNets$State;", true)
  | 5 => ("FogNets", "hauls", "[I", true)
  | 6 => ("FogNets", "wind", "LFogNets$Wind;", true)
  | 7 => ("FogNets", "past", "LFogNets$Past;", true)
  | 8 => ("FogNets", "images", "[LFogNets$State;", true)
  | 9 => ("FogNets", "imageSeeds", "[I", true)
  | 10 => ("FogNets", "seed", "I", false)
  | 11 => ("FogNets", "gotten", "LFogNets$Notes;", true)
  | 12 => ("FogNets", "book", "LFogNets$Notes;", true)
  | _ => ("FogNets", "parts", "[I", true)
def tyX6 : Nat → FieldType := fun k => match k with
  | 0 => .object "FogNets$Reader"
  | 1 => .object "FogNets$Coast"
  | 2 => .object "FogNets$Coast"
  | 3 => .object "FogNets$State"
  | 4 => .object "FogNets$State"
  | 5 => .array .int
  | 6 => .object "FogNets$Wind"
  | 7 => .object "FogNets$Past"
  | 8 => .array (.object "FogNets$State")
  | 9 => .array .int
  | 10 => .int
  | 11 => .object "FogNets$Notes"
  | 12 => .object "FogNets$Notes"
  | _ => .array .int
abbrev wsX60 : List Cond := u_ws RX6 TX6 14
theorem nmX6 : ∀ a, a < 14 → ∀ b, b < 14 → a ≠ b → (TX6 a).2.1 ≠ (TX6 b).2.1 := by decide +kernel
theorem tyX6_ok : ∀ k, k < 14 → parseFieldDescriptor (TX6 k).2.2.1 = some (tyX6 k) := by decide +kernel
abbrev cX6_init : ByteArray := prog_1_method_1_code
def yX6_init : MethodName := ⟨RX6, "<init>", "()V"⟩
abbrev cX6_feed : ByteArray := prog_1_method_2_code
def yX6_feed : MethodName := ⟨RX6, "feed", "(I)I"⟩
abbrev cX6_coast : ByteArray := prog_1_method_3_code
def yX6_coast : MethodName := ⟨RX6, "coast", "()I"⟩
abbrev cX6_fault : ByteArray := prog_1_method_4_code
def yX6_fault : MethodName := ⟨RX6, "fault", "()I"⟩
abbrev cX6_told : ByteArray := prog_1_method_5_code
def yX6_told : MethodName := ⟨RX6, "told", "(I)I"⟩
abbrev cX6_post : ByteArray := prog_1_method_6_code
def yX6_post : MethodName := ⟨RX6, "post", "(II)I"⟩
abbrev cX6_fog : ByteArray := prog_1_method_7_code
def yX6_fog : MethodName := ⟨RX6, "fog", "(II)I"⟩
abbrev cX6_village : ByteArray := prog_1_method_8_code
def yX6_village : MethodName := ⟨RX6, "village", "(II)I"⟩
abbrev cX6_goat : ByteArray := prog_1_method_9_code
def yX6_goat : MethodName := ⟨RX6, "goat", "(II)I"⟩
abbrev cX6_hour : ByteArray := prog_1_method_10_code
def yX6_hour : MethodName := ⟨RX6, "hour", "(I)I"⟩
abbrev cX6_carry : ByteArray := prog_1_method_11_code
def yX6_carry : MethodName := ⟨RX6, "carry", "(I)I"⟩
abbrev cX6_lick : ByteArray := prog_1_method_12_code
def yX6_lick : MethodName := ⟨RX6, "lick", "(II)I"⟩
abbrev cX6_mesh : ByteArray := prog_1_method_13_code
def yX6_mesh : MethodName := ⟨RX6, "mesh", "(II)I"⟩
abbrev cX6_move : ByteArray := prog_1_method_14_code
def yX6_move : MethodName := ⟨RX6, "move", "(II)I"⟩
abbrev cX6_lamp : ByteArray := prog_1_method_15_code
def yX6_lamp : MethodName := ⟨RX6, "lamp", "(Z)I"⟩
abbrev cX6_drift : ByteArray := prog_1_method_16_code
def yX6_drift : MethodName := ⟨RX6, "drift", "(I)I"⟩
abbrev cX6_undo : ByteArray := prog_1_method_17_code
def yX6_undo : MethodName := ⟨RX6, "undo", "(I)I"⟩
abbrev cX6_gets : ByteArray := prog_1_method_18_code
def yX6_gets : MethodName := ⟨RX6, "gets", "(II)I"⟩
abbrev cX6_level : ByteArray := prog_1_method_19_code
def yX6_level : MethodName := ⟨RX6, "level", "(II)I"⟩
abbrev cX6_shadow : ByteArray := prog_1_method_20_code
def yX6_shadow : MethodName := ⟨RX6, "shadow", "(I)I"⟩
abbrev cX6_left : ByteArray := prog_1_method_21_code
def yX6_left : MethodName := ⟨RX6, "left", "()I"⟩
abbrev cX6_bestMesh : ByteArray := prog_1_method_22_code
def yX6_bestMesh : MethodName := ⟨RX6, "bestMesh", "(II)I"⟩
abbrev cX6_bestCell : ByteArray := prog_1_method_23_code
def yX6_bestCell : MethodName := ⟨RX6, "bestCell", "(II)I"⟩
abbrev cX6_bestTwo : ByteArray := prog_1_method_24_code
def yX6_bestTwo : MethodName := ⟨RX6, "bestTwo", "(III)I"⟩
abbrev cX6_lampCosts : ByteArray := prog_1_method_25_code
def yX6_lampCosts : MethodName := ⟨RX6, "lampCosts", "(I)I"⟩
abbrev cX6_thirsty : ByteArray := prog_1_method_26_code
def yX6_thirsty : MethodName := ⟨RX6, "thirsty", "(I)I"⟩
abbrev cX6_lasts : ByteArray := prog_1_method_27_code
def yX6_lasts : MethodName := ⟨RX6, "lasts", "(I)I"⟩
abbrev cX6_both : ByteArray := prog_1_method_28_code
def yX6_both : MethodName := ⟨RX6, "both", "()I"⟩
abbrev cX6_apart : ByteArray := prog_1_method_29_code
def yX6_apart : MethodName := ⟨RX6, "apart", "(I)I"⟩
abbrev cX6_share : ByteArray := prog_1_method_30_code
def yX6_share : MethodName := ⟨RX6, "share", "(II)I"⟩
abbrev cX6_led : ByteArray := prog_1_method_31_code
def yX6_led : MethodName := ⟨RX6, "led", "(III)I"⟩
abbrev cX6_yards : ByteArray := prog_1_method_32_code
def yX6_yards : MethodName := ⟨RX6, "yards", "(II)I"⟩
abbrev cX6_clear : ByteArray := prog_1_method_33_code
def yX6_clear : MethodName := ⟨RX6, "clear", "(II)I"⟩
abbrev cX6_got : ByteArray := prog_1_method_34_code
def yX6_got : MethodName := ⟨RX6, "got", "(III)I"⟩
abbrev cX6_thick : ByteArray := prog_1_method_35_code
def yX6_thick : MethodName := ⟨RX6, "thick", "(I)I"⟩
abbrev cX6_lookAt : ByteArray := prog_1_method_36_code
def yX6_lookAt : MethodName := ⟨RX6, "lookAt", "(I)I"⟩
abbrev cX6_needs : ByteArray := prog_1_method_37_code
def yX6_needs : MethodName := ⟨RX6, "needs", "(III)I"⟩
abbrev cX6_write : ByteArray := prog_1_method_38_code
def yX6_write : MethodName := ⟨RX6, "write", "(II)I"⟩
abbrev cX6_judge : ByteArray := prog_1_method_39_code
def yX6_judge : MethodName := ⟨RX6, "judge", "()I"⟩
abbrev cX6_tear : ByteArray := prog_1_method_40_code
def yX6_tear : MethodName := ⟨RX6, "tear", "()I"⟩
abbrev cX6_seed : ByteArray := prog_1_method_41_code
def yX6_seed : MethodName := ⟨RX6, "seed", "(I)I"⟩
abbrev cX6_keep : ByteArray := prog_1_method_42_code
def yX6_keep : MethodName := ⟨RX6, "keep", "(I)I"⟩
abbrev cX6_goBack : ByteArray := prog_1_method_43_code
def yX6_goBack : MethodName := ⟨RX6, "goBack", "(I)I"⟩
abbrev cX6_within : ByteArray := prog_1_method_44_code
def yX6_within : MethodName := ⟨RX6, "within", "(III)Z"⟩
abbrev cX6_at : ByteArray := prog_1_method_45_code
def yX6_at : MethodName := ⟨RX6, "at", "([II)I"⟩
abbrev cX6_put : ByteArray := prog_1_method_46_code
def yX6_put : MethodName := ⟨RX6, "put", "([III)V"⟩
abbrev cX6_isBare : ByteArray := prog_1_method_47_code
def yX6_isBare : MethodName := ⟨RX6, "isBare", "()Z"⟩
abbrev cX6_isCell : ByteArray := prog_1_method_48_code
def yX6_isCell : MethodName := ⟨RX6, "isCell", "(I)Z"⟩
abbrev cX6_isPost : ByteArray := prog_1_method_49_code
def yX6_isPost : MethodName := ⟨RX6, "isPost", "(I)Z"⟩
abbrev cX6_isGoat : ByteArray := prog_1_method_50_code
def yX6_isGoat : MethodName := ⟨RX6, "isGoat", "(I)Z"⟩
abbrev cX6_isVillage : ByteArray := prog_1_method_51_code
def yX6_isVillage : MethodName := ⟨RX6, "isVillage", "(I)Z"⟩
abbrev cX6_isOpenTo : ByteArray := prog_1_method_52_code
def yX6_isOpenTo : MethodName := ⟨RX6, "isOpenTo", "(III)Z"⟩
abbrev cX6_imageOf : ByteArray := prog_1_method_53_code
def yX6_imageOf : MethodName := ⟨RX6, "imageOf", "(I)LFogNets$State;"⟩
abbrev cX6_draw : ByteArray := prog_1_method_54_code
def yX6_draw : MethodName := ⟨RX6, "draw", "(I)I"⟩
abbrev cX6_lickByDraws : ByteArray := prog_1_method_55_code
def yX6_lickByDraws : MethodName := ⟨RX6, "lickByDraws", "()V"⟩
abbrev cX6_tryHours : ByteArray := prog_1_method_56_code
def yX6_tryHours : MethodName := ⟨RX6, "tryHours", "(I)I"⟩
abbrev cX6_lesserHaul : ByteArray := prog_1_method_57_code
def yX6_lesserHaul : MethodName := ⟨RX6, "lesserHaul", "(IIII)I"⟩
abbrev cX6_blowNext : ByteArray := prog_1_method_58_code
def yX6_blowNext : MethodName := ⟨RX6, "blowNext", "(I)V"⟩
abbrev cX6_takenOf : ByteArray := prog_1_method_59_code
def yX6_takenOf : MethodName := ⟨RX6, "takenOf", "(III)I"⟩
abbrev cX6_fitting : ByteArray := prog_1_method_60_code
def yX6_fitting : MethodName := ⟨RX6, "fitting", "()J"⟩
abbrev cX6_fitsAll : ByteArray := prog_1_method_61_code
def yX6_fitsAll : MethodName := ⟨RX6, "fitsAll", "(I)Z"⟩
abbrev cX6_greatestPart : ByteArray := prog_1_method_62_code
def yX6_greatestPart : MethodName := ⟨RX6, "greatestPart", "(JII)I"⟩
def RX7 : String := "FogNetsModel"
def TX7 : u_T := fun k => match k with
  | 0 => ("FogNetsModel", "letterMany", "I", false)
  | 1 => ("FogNetsModel", "text", "[I", true)
  | 2 => ("FogNetsModel", "faultAt", "I", false)
  | 3 => ("FogNetsModel", "readAt", "I", false)
  | 4 => ("FogNetsModel", "readFault", "I", false)
  | 5 => ("FogNetsModel", "readPosts", "I", false)
  | 6 => ("FogNetsModel", "readHours", "I", false)
  | 7 => ("FogNetsModel", "readGoats", "I", false)
  | 8 => ("FogNetsModel", "isRead", "Z", false)
  | 9 => ("FogNetsModel", "isDaysRead", "Z", false)
  | 10 => ("FogNetsModel", "isUseRead", "Z", false)
  | 11 => ("FogNetsModel", "readHead", "[I", true)
  | 12 => ("FogNetsModel", "readDays", "[I", true)
  | 13 => ("FogNetsModel", "readUse", "[I", true)
  | 14 => ("FogNetsModel", "readHour", "[I", true)
  | 15 => ("FogNetsModel", "readPost", "[I", true)
  | 16 => ("FogNetsModel", "readGoat", "[I", true)
  | 17 => ("FogNetsModel", "isCoast", "Z", false)
  | 18 => ("FogNetsModel", "cells", "I", false)
  | 19 => ("FogNetsModel", "burns", "I", false)
  | 20 => ("FogNetsModel", "n", "I", false)
  | 21 => ("FogNetsModel", "hourMany", "I", false)
  | 22 => ("FogNetsModel", "goatMany", "I", false)
  | 23 => ("FogNetsModel", "hours", "[I", true)
  | 24 => ("FogNetsModel", "sizes", "[I", true)
  | 25 => ("FogNetsModel", "owners", "[I", true)
  | 26 => ("FogNetsModel", "goats", "[I", true)
  | 27 => ("FogNetsModel", "days", "[I", true)
  | 28 => ("FogNetsModel", "uses", "[I", true)
  | 29 => ("FogNetsModel", "now", "[I", true)
  | 30 => ("FogNetsModel", "tried", "[I", true)
  | 31 => ("FogNetsModel", "took", "[I", true)
  | 32 => ("FogNetsModel", "undoMany", "I", false)
  | 33 => ("FogNetsModel", "undoAt", "I", false)
  | 34 => ("FogNetsModel", "undos", "[I", true)
  | 35 => ("FogNetsModel", "seed", "J", false)
  | 36 => ("FogNetsModel", "sums", "[I", true)
  | 37 => ("FogNetsModel", "gotMany", "I", false)
  | 38 => ("FogNetsModel", "got", "[I", true)
  | 39 => ("FogNetsModel", "bookMany", "I", false)
  | 40 => ("FogNetsModel", "book", "[I", true)
  | 41 => ("FogNetsModel", "isKept", "[Z", true)
  | 42 => ("FogNetsModel", "kept", "[I", true)
  | _ => ("FogNetsModel", "keptSeeds", "[J", true)
def tyX7 : Nat → FieldType := fun k => match k with
  | 0 => .int
  | 1 => .array .int
  | 2 => .int
  | 3 => .int
  | 4 => .int
  | 5 => .int
  | 6 => .int
  | 7 => .int
  | 8 => .boolean
  | 9 => .boolean
  | 10 => .boolean
  | 11 => .array .int
  | 12 => .array .int
  | 13 => .array .int
  | 14 => .array .int
  | 15 => .array .int
  | 16 => .array .int
  | 17 => .boolean
  | 18 => .int
  | 19 => .int
  | 20 => .int
  | 21 => .int
  | 22 => .int
  | 23 => .array .int
  | 24 => .array .int
  | 25 => .array .int
  | 26 => .array .int
  | 27 => .array .int
  | 28 => .array .int
  | 29 => .array .int
  | 30 => .array .int
  | 31 => .array .int
  | 32 => .int
  | 33 => .int
  | 34 => .array .int
  | 35 => .long
  | 36 => .array .int
  | 37 => .int
  | 38 => .array .int
  | 39 => .int
  | 40 => .array .int
  | 41 => .array .boolean
  | 42 => .array .int
  | _ => .array .long
abbrev wsX70 : List Cond := u_ws RX7 TX7 44
theorem nmX7 : ∀ a, a < 44 → ∀ b, b < 44 → a ≠ b → (TX7 a).2.1 ≠ (TX7 b).2.1 := by decide +kernel
theorem tyX7_ok : ∀ k, k < 44 → parseFieldDescriptor (TX7 k).2.2.1 = some (tyX7 k) := by decide +kernel
abbrev cX7_init : ByteArray := prog_9_method_1_code
def yX7_init : MethodName := ⟨RX7, "<init>", "()V"⟩
abbrev cX7_in : ByteArray := prog_9_method_2_code
def yX7_in : MethodName := ⟨RX7, "in", "(III)Z"⟩
abbrev cX7_has : ByteArray := prog_9_method_3_code
def yX7_has : MethodName := ⟨RX7, "has", "(II)Z"⟩
abbrev cX7_feed : ByteArray := prog_9_method_4_code
def yX7_feed : MethodName := ⟨RX7, "feed", "(I)I"⟩
abbrev cX7_fault : ByteArray := prog_9_method_5_code
def yX7_fault : MethodName := ⟨RX7, "fault", "()I"⟩
abbrev cX7_letterAt : ByteArray := prog_9_method_6_code
def yX7_letterAt : MethodName := ⟨RX7, "letterAt", "(I)I"⟩
abbrev cX7_blanks : ByteArray := prog_9_method_7_code
def yX7_blanks : MethodName := ⟨RX7, "blanks", "()V"⟩
abbrev cX7_fails : ByteArray := prog_9_method_8_code
def yX7_fails : MethodName := ⟨RX7, "fails", "(I)Z"⟩
abbrev cX7_number : ByteArray := prog_9_method_9_code
def yX7_number : MethodName := ⟨RX7, "number", "(II)I"⟩
abbrev cX7_ends : ByteArray := prog_9_method_10_code
def yX7_ends : MethodName := ⟨RX7, "ends", "()Z"⟩
abbrev cX7_reads2 : ByteArray := prog_9_method_11_code
def yX7_reads2 : MethodName := ⟨RX7, "reads2", "([IIIIII)Z"⟩
abbrev cX7_readsHead : ByteArray := prog_9_method_12_code
def yX7_readsHead : MethodName := ⟨RX7, "readsHead", "()Z"⟩
abbrev cX7_readsHour : ByteArray := prog_9_method_13_code
def yX7_readsHour : MethodName := ⟨RX7, "readsHour", "()Z"⟩
abbrev cX7_isTaken : ByteArray := prog_9_method_14_code
def yX7_isTaken : MethodName := ⟨RX7, "isTaken", "(I)Z"⟩
abbrev cX7_readsPost : ByteArray := prog_9_method_15_code
def yX7_readsPost : MethodName := ⟨RX7, "readsPost", "()Z"⟩
abbrev cX7_readsGoat : ByteArray := prog_9_method_16_code
def yX7_readsGoat : MethodName := ⟨RX7, "readsGoat", "()Z"⟩
abbrev cX7_readsDays : ByteArray := prog_9_method_17_code
def yX7_readsDays : MethodName := ⟨RX7, "readsDays", "()Z"⟩
abbrev cX7_readsUse : ByteArray := prog_9_method_18_code
def yX7_readsUse : MethodName := ⟨RX7, "readsUse", "()Z"⟩
abbrev cX7_readsClause : ByteArray := prog_9_method_19_code
def yX7_readsClause : MethodName := ⟨RX7, "readsClause", "(Z)Z"⟩
abbrev cX7_reads : ByteArray := prog_9_method_20_code
def yX7_reads : MethodName := ⟨RX7, "reads", "()Z"⟩
abbrev cX7_coast : ByteArray := prog_9_method_21_code
def yX7_coast : MethodName := ⟨RX7, "coast", "()I"⟩
abbrev cX7_isPost : ByteArray := prog_9_method_22_code
def yX7_isPost : MethodName := ⟨RX7, "isPost", "(I)Z"⟩
abbrev cX7_isCell : ByteArray := prog_9_method_23_code
def yX7_isCell : MethodName := ⟨RX7, "isCell", "(I)Z"⟩
abbrev cX7_isVillage : ByteArray := prog_9_method_24_code
def yX7_isVillage : MethodName := ⟨RX7, "isVillage", "(I)Z"⟩
abbrev cX7_dayLong : ByteArray := prog_9_method_25_code
def yX7_dayLong : MethodName := ⟨RX7, "dayLong", "()I"⟩
abbrev cX7_sideOf : ByteArray := prog_9_method_26_code
def yX7_sideOf : MethodName := ⟨RX7, "sideOf", "([I)I"⟩
abbrev cX7_fogOf : ByteArray := prog_9_method_27_code
def yX7_fogOf : MethodName := ⟨RX7, "fogOf", "([I)I"⟩
abbrev cX7_isHanging : ByteArray := prog_9_method_28_code
def yX7_isHanging : MethodName := ⟨RX7, "isHanging", "([II)Z"⟩
abbrev cX7_hanging : ByteArray := prog_9_method_29_code
def yX7_hanging : MethodName := ⟨RX7, "hanging", "([I)I"⟩
abbrev cX7_postIn : ByteArray := prog_9_method_30_code
def yX7_postIn : MethodName := ⟨RX7, "postIn", "([II)I"⟩
abbrev cX7_jars : ByteArray := prog_9_method_31_code
def yX7_jars : MethodName := ⟨RX7, "jars", "([I)I"⟩
abbrev cX7_told : ByteArray := prog_9_method_32_code
def yX7_told : MethodName := ⟨RX7, "told", "(I)I"⟩
abbrev cX7_post : ByteArray := prog_9_method_33_code
def yX7_post : MethodName := ⟨RX7, "post", "(II)I"⟩
abbrev cX7_fog : ByteArray := prog_9_method_34_code
def yX7_fog : MethodName := ⟨RX7, "fog", "(II)I"⟩
abbrev cX7_postsOf : ByteArray := prog_9_method_35_code
def yX7_postsOf : MethodName := ⟨RX7, "postsOf", "(I)I"⟩
abbrev cX7_village : ByteArray := prog_9_method_36_code
def yX7_village : MethodName := ⟨RX7, "village", "(II)I"⟩
abbrev cX7_goat : ByteArray := prog_9_method_37_code
def yX7_goat : MethodName := ⟨RX7, "goat", "(II)I"⟩
abbrev cX7_takes : ByteArray := prog_9_method_38_code
def yX7_takes : MethodName := ⟨RX7, "takes", "(II)I"⟩
abbrev cX7_leads : ByteArray := prog_9_method_39_code
def yX7_leads : MethodName := ⟨RX7, "leads", "([IIII)I"⟩
abbrev cX7_counted : ByteArray := prog_9_method_40_code
def yX7_counted : MethodName := ⟨RX7, "counted", "(I)I"⟩
abbrev cX7_lit : ByteArray := prog_9_method_41_code
def yX7_lit : MethodName := ⟨RX7, "lit", "(III)I"⟩
abbrev cX7_allTook : ByteArray := prog_9_method_42_code
def yX7_allTook : MethodName := ⟨RX7, "allTook", "()I"⟩
abbrev cX7_drinks : ByteArray := prog_9_method_43_code
def yX7_drinks : MethodName := ⟨RX7, "drinks", "([I)V"⟩
abbrev cX7_usesUp : ByteArray := prog_9_method_44_code
def yX7_usesUp : MethodName := ⟨RX7, "usesUp", "([I)V"⟩
abbrev cX7_carries : ByteArray := prog_9_method_45_code
def yX7_carries : MethodName := ⟨RX7, "carries", "([II)I"⟩
abbrev cX7_passes : ByteArray := prog_9_method_46_code
def yX7_passes : MethodName := ⟨RX7, "passes", "([IIIZ)I"⟩
abbrev cX7_passesOn : ByteArray := prog_9_method_47_code
def yX7_passesOn : MethodName := ⟨RX7, "passesOn", "([I)I"⟩
abbrev cX7_remember : ByteArray := prog_9_method_48_code
def yX7_remember : MethodName := ⟨RX7, "remember", "()V"⟩
abbrev cX7_need : ByteArray := prog_9_method_49_code
def yX7_need : MethodName := ⟨RX7, "need", "(Z)I"⟩
abbrev cX7_hour : ByteArray := prog_9_method_50_code
def yX7_hour : MethodName := ⟨RX7, "hour", "(I)I"⟩
abbrev cX7_carry : ByteArray := prog_9_method_51_code
def yX7_carry : MethodName := ⟨RX7, "carry", "(I)I"⟩
abbrev cX7_licks : ByteArray := prog_9_method_52_code
def yX7_licks : MethodName := ⟨RX7, "licks", "(II)V"⟩
abbrev cX7_lick : ByteArray := prog_9_method_53_code
def yX7_lick : MethodName := ⟨RX7, "lick", "(II)I"⟩
abbrev cX7_mesh : ByteArray := prog_9_method_54_code
def yX7_mesh : MethodName := ⟨RX7, "mesh", "(II)I"⟩
abbrev cX7_move : ByteArray := prog_9_method_55_code
def yX7_move : MethodName := ⟨RX7, "move", "(II)I"⟩
abbrev cX7_lamp : ByteArray := prog_9_method_56_code
def yX7_lamp : MethodName := ⟨RX7, "lamp", "(Z)I"⟩
abbrev cX7_draw : ByteArray := prog_9_method_57_code
def yX7_draw : MethodName := ⟨RX7, "draw", "(I)I"⟩
abbrev cX7_drift : ByteArray := prog_9_method_58_code
def yX7_drift : MethodName := ⟨RX7, "drift", "(I)I"⟩
abbrev cX7_undo : ByteArray := prog_9_method_59_code
def yX7_undo : MethodName := ⟨RX7, "undo", "(I)I"⟩
abbrev cX7_copyNow : ByteArray := prog_9_method_60_code
def yX7_copyNow : MethodName := ⟨RX7, "copyNow", "()V"⟩
abbrev cX7_goesOn : ByteArray := prog_9_method_61_code
def yX7_goesOn : MethodName := ⟨RX7, "goesOn", "(I)V"⟩
abbrev cX7_gets : ByteArray := prog_9_method_62_code
def yX7_gets : MethodName := ⟨RX7, "gets", "(II)I"⟩
abbrev cX7_level : ByteArray := prog_9_method_63_code
def yX7_level : MethodName := ⟨RX7, "level", "(II)I"⟩
abbrev cX7_shadow : ByteArray := prog_9_method_64_code
def yX7_shadow : MethodName := ⟨RX7, "shadow", "(I)I"⟩
abbrev cX7_left : ByteArray := prog_9_method_65_code
def yX7_left : MethodName := ⟨RX7, "left", "()I"⟩
abbrev cX7_bestMesh : ByteArray := prog_9_method_66_code
def yX7_bestMesh : MethodName := ⟨RX7, "bestMesh", "(II)I"⟩
abbrev cX7_bestCell : ByteArray := prog_9_method_67_code
def yX7_bestCell : MethodName := ⟨RX7, "bestCell", "(II)I"⟩
abbrev cX7_sumOf : ByteArray := prog_9_method_68_code
def yX7_sumOf : MethodName := ⟨RX7, "sumOf", "(I)I"⟩
abbrev cX7_isFor : ByteArray := prog_9_method_69_code
def yX7_isFor : MethodName := ⟨RX7, "isFor", "(III)Z"⟩
abbrev cX7_bestTwo : ByteArray := prog_9_method_70_code
def yX7_bestTwo : MethodName := ⟨RX7, "bestTwo", "(III)I"⟩
abbrev cX7_tookWith : ByteArray := prog_9_method_71_code
def yX7_tookWith : MethodName := ⟨RX7, "tookWith", "(II)I"⟩
abbrev cX7_lampCosts : ByteArray := prog_9_method_72_code
def yX7_lampCosts : MethodName := ⟨RX7, "lampCosts", "(I)I"⟩
abbrev cX7_thirsty : ByteArray := prog_9_method_73_code
def yX7_thirsty : MethodName := ⟨RX7, "thirsty", "(I)I"⟩
abbrev cX7_lasts : ByteArray := prog_9_method_74_code
def yX7_lasts : MethodName := ⟨RX7, "lasts", "(I)I"⟩
abbrev cX7_both : ByteArray := prog_9_method_75_code
def yX7_both : MethodName := ⟨RX7, "both", "()I"⟩
abbrev cX7_apart : ByteArray := prog_9_method_76_code
def yX7_apart : MethodName := ⟨RX7, "apart", "(I)I"⟩
abbrev cX7_ownedBy : ByteArray := prog_9_method_77_code
def yX7_ownedBy : MethodName := ⟨RX7, "ownedBy", "(I)I"⟩
abbrev cX7_share : ByteArray := prog_9_method_78_code
def yX7_share : MethodName := ⟨RX7, "share", "(II)I"⟩
abbrev cX7_led : ByteArray := prog_9_method_79_code
def yX7_led : MethodName := ⟨RX7, "led", "(III)I"⟩
abbrev cX7_yards : ByteArray := prog_9_method_80_code
def yX7_yards : MethodName := ⟨RX7, "yards", "(II)I"⟩
abbrev cX7_clear : ByteArray := prog_9_method_81_code
def yX7_clear : MethodName := ⟨RX7, "clear", "(II)I"⟩
abbrev cX7_isSide : ByteArray := prog_9_method_82_code
def yX7_isSide : MethodName := ⟨RX7, "isSide", "(I)Z"⟩
abbrev cX7_got : ByteArray := prog_9_method_83_code
def yX7_got : MethodName := ⟨RX7, "got", "(III)I"⟩
abbrev cX7_tookOf : ByteArray := prog_9_method_84_code
def yX7_tookOf : MethodName := ⟨RX7, "tookOf", "(III)I"⟩
abbrev cX7_isSo : ByteArray := prog_9_method_85_code
def yX7_isSo : MethodName := ⟨RX7, "isSo", "(I)Z"⟩
abbrev cX7_thick : ByteArray := prog_9_method_86_code
def yX7_thick : MethodName := ⟨RX7, "thick", "(I)I"⟩
abbrev cX7_greatest : ByteArray := prog_9_method_87_code
def yX7_greatest : MethodName := ⟨RX7, "greatest", "(II)I"⟩
abbrev cX7_lookAt : ByteArray := prog_9_method_88_code
def yX7_lookAt : MethodName := ⟨RX7, "lookAt", "(I)I"⟩
abbrev cX7_needs : ByteArray := prog_9_method_89_code
def yX7_needs : MethodName := ⟨RX7, "needs", "(III)I"⟩
abbrev cX7_write : ByteArray := prog_9_method_90_code
def yX7_write : MethodName := ⟨RX7, "write", "(II)I"⟩
abbrev cX7_judge : ByteArray := prog_9_method_91_code
def yX7_judge : MethodName := ⟨RX7, "judge", "()I"⟩
abbrev cX7_tear : ByteArray := prog_9_method_92_code
def yX7_tear : MethodName := ⟨RX7, "tear", "()I"⟩
abbrev cX7_seed : ByteArray := prog_9_method_93_code
def yX7_seed : MethodName := ⟨RX7, "seed", "(I)I"⟩
abbrev cX7_keep : ByteArray := prog_9_method_94_code
def yX7_keep : MethodName := ⟨RX7, "keep", "(I)I"⟩
abbrev cX7_goBack : ByteArray := prog_9_method_95_code
def yX7_goBack : MethodName := ⟨RX7, "goBack", "(I)I"⟩
def RJ6 : String := "java/lang/Integer"
def TJ6 : u_T := fun k => match k with
  | _ => ("", "", "", false)
def tyJ6 : Nat → FieldType := fun k => match k with
  | _ => .int
theorem nmJ6 : ∀ a, a < 0 → ∀ b, b < 0 → a ≠ b → (TJ6 a).2.1 ≠ (TJ6 b).2.1 := by decide +kernel
theorem tyJ6_ok : ∀ k, k < 0 → parseFieldDescriptor (TJ6 k).2.2.1 = some (tyJ6 k) := by decide +kernel
abbrev cJ6_bitCount_0f7a4 : ByteArray := prog_10_method_49_code
def yJ6_bitCount_0f7a4 : MethodName := ⟨RJ6, "bitCount", "(I)I"⟩
def RJ13 : String := "java/lang/Long"
def TJ13 : u_T := fun k => match k with
  | _ => ("", "", "", false)
def tyJ13 : Nat → FieldType := fun k => match k with
  | _ => .int
theorem nmJ13 : ∀ a, a < 0 → ∀ b, b < 0 → a ≠ b → (TJ13 a).2.1 ≠ (TJ13 b).2.1 := by decide +kernel
theorem tyJ13_ok : ∀ k, k < 0 → parseFieldDescriptor (TJ13 k).2.2.1 = some (tyJ13 k) := by decide +kernel
abbrev cJ13_bitCount_95d88 : ByteArray := prog_11_method_50_code
def yJ13_bitCount_95d88 : MethodName := ⟨RJ13, "bitCount", "(J)I"⟩
def RJ9 : String := "java/lang/Math"
def TJ9 : u_T := fun k => match k with
  | _ => ("", "", "", false)
def tyJ9 : Nat → FieldType := fun k => match k with
  | _ => .int
theorem nmJ9 : ∀ a, a < 0 → ∀ b, b < 0 → a ≠ b → (TJ9 a).2.1 ≠ (TJ9 b).2.1 := by decide +kernel
theorem tyJ9_ok : ∀ k, k < 0 → parseFieldDescriptor (TJ9 k).2.2.1 = some (tyJ9 k) := by decide +kernel
abbrev cJ9_abs_0f7a4 : ByteArray := prog_12_method_59_code
def yJ9_abs_0f7a4 : MethodName := ⟨RJ9, "abs", "(I)I"⟩
abbrev cJ9_max_7cf53 : ByteArray := prog_12_method_65_code
def yJ9_max_7cf53 : MethodName := ⟨RJ9, "max", "(II)I"⟩
abbrev cJ9_min_7cf53 : ByteArray := prog_12_method_69_code
def yJ9_min_7cf53 : MethodName := ⟨RJ9, "min", "(II)I"⟩
def RJ10 : String := "java/lang/System"
def TJ10 : u_T := fun k => match k with
  | _ => ("", "", "", false)
def tyJ10 : Nat → FieldType := fun k => match k with
  | _ => .int
theorem nmJ10 : ∀ a, a < 0 → ∀ b, b < 0 → a ≠ b → (TJ10 a).2.1 ≠ (TJ10 b).2.1 := by decide +kernel
theorem tyJ10_ok : ∀ k, k < 0 → parseFieldDescriptor (TJ10 k).2.2.1 = some (tyJ10 k) := by decide +kernel
def RL : String := "FogNetsLaw"
abbrev cL_law : ByteArray := code
def yL_law : MethodName := ⟨RL, "law", "([I)Z"⟩
end
section
theorem dX0_init_0 : decode cX0_init 0 = .ok (.aload_n 0, 1) := by decide +kernel
theorem dX0_init_1 : decode cX0_init 1 = .ok (.invokespecial 3, 3) := by decide +kernel
theorem dX0_init_4 : decode cX0_init 4 = .ok (.aload_n 0, 1) := by decide +kernel
theorem dX0_init_5 : decode cX0_init 5 = .ok (.bipush 12, 2) := by decide +kernel
theorem dX0_init_7 : decode cX0_init 7 = .ok (.newarray .int, 2) := by decide +kernel
theorem dX0_init_9 : decode cX0_init 9 = .ok (.putfield 9, 3) := by decide +kernel
theorem dX0_init_12 : decode cX0_init 12 = .ok (.aload_n 0, 1) := by decide +kernel
theorem dX0_init_13 : decode cX0_init 13 = .ok (.bipush 12, 2) := by decide +kernel
theorem dX0_init_15 : decode cX0_init 15 = .ok (.newarray .int, 2) := by decide +kernel
theorem dX0_init_17 : decode cX0_init 17 = .ok (.putfield 15, 3) := by decide +kernel
theorem dX0_init_20 : decode cX0_init 20 = .ok (.aload_n 0, 1) := by decide +kernel
theorem dX0_init_21 : decode cX0_init 21 = .ok (.bipush 6, 2) := by decide +kernel
theorem dX0_init_23 : decode cX0_init 23 = .ok (.newarray .int, 2) := by decide +kernel
theorem dX0_init_25 : decode cX0_init 25 = .ok (.putfield 18, 3) := by decide +kernel
theorem dX0_init_28 : decode cX0_init 28 = .ok (.aload_n 0, 1) := by decide +kernel
theorem dX0_init_29 : decode cX0_init 29 = .ok (.bipush 6, 2) := by decide +kernel
theorem dX0_init_31 : decode cX0_init 31 = .ok (.newarray .int, 2) := by decide +kernel
theorem dX0_init_33 : decode cX0_init 33 = .ok (.putfield 21, 3) := by decide +kernel
theorem dX0_init_36 : decode cX0_init 36 = .ok (.aload_n 0, 1) := by decide +kernel
theorem dX0_init_37 : decode cX0_init 37 = .ok (.bipush 6, 2) := by decide +kernel
theorem dX0_init_39 : decode cX0_init 39 = .ok (.newarray .int, 2) := by decide +kernel
theorem dX0_init_41 : decode cX0_init 41 = .ok (.putfield 24, 3) := by decide +kernel
theorem dX0_init_44 : decode cX0_init 44 = .ok (.aload_n 0, 1) := by decide +kernel
theorem dX0_init_45 : decode cX0_init 45 = .ok (.bipush 6, 2) := by decide +kernel
theorem dX0_init_47 : decode cX0_init 47 = .ok (.newarray .int, 2) := by decide +kernel
theorem dX0_init_49 : decode cX0_init 49 = .ok (.putfield 27, 3) := by decide +kernel
theorem dX0_init_52 : decode cX0_init 52 = .ok (.aload_n 0, 1) := by decide +kernel
theorem dX0_init_53 : decode cX0_init 53 = .ok (.iconst 2, 1) := by decide +kernel
theorem dX0_init_54 : decode cX0_init 54 = .ok (.newarray .int, 2) := by decide +kernel
theorem dX0_init_56 : decode cX0_init 56 = .ok (.dup, 1) := by decide +kernel
theorem dX0_init_57 : decode cX0_init 57 = .ok (.iconst 0, 1) := by decide +kernel
theorem dX0_init_58 : decode cX0_init 58 = .ok (.bipush 127, 2) := by decide +kernel
theorem dX0_init_60 : decode cX0_init 60 = .ok (.iastore, 1) := by decide +kernel
theorem dX0_init_61 : decode cX0_init 61 = .ok (.dup, 1) := by decide +kernel
theorem dX0_init_62 : decode cX0_init 62 = .ok (.iconst 1, 1) := by decide +kernel
theorem dX0_init_63 : decode cX0_init 63 = .ok (.bipush 127, 2) := by decide +kernel
theorem dX0_init_65 : decode cX0_init 65 = .ok (.iastore, 1) := by decide +kernel
theorem dX0_init_66 : decode cX0_init 66 = .ok (.putfield 30, 3) := by decide +kernel
theorem dX0_init_69 : decode cX0_init 69 = .ok (.aload_n 0, 1) := by decide +kernel
theorem dX0_init_70 : decode cX0_init 70 = .ok (.iconst 2, 1) := by decide +kernel
theorem dX0_init_71 : decode cX0_init 71 = .ok (.newarray .int, 2) := by decide +kernel
theorem dX0_init_73 : decode cX0_init 73 = .ok (.putfield 33, 3) := by decide +kernel
theorem dX0_init_76 : decode cX0_init 76 = .ok (.aload_n 0, 1) := by decide +kernel
theorem dX0_init_77 : decode cX0_init 77 = .ok (.iconst 4, 1) := by decide +kernel
theorem dX0_init_78 : decode cX0_init 78 = .ok (.newarray .int, 2) := by decide +kernel
theorem dX0_init_80 : decode cX0_init 80 = .ok (.putfield 36, 3) := by decide +kernel
theorem dX0_init_83 : decode cX0_init 83 = .ok (.aload_n 0, 1) := by decide +kernel
theorem dX0_init_84 : decode cX0_init 84 = .ok (.iconst 4, 1) := by decide +kernel
theorem dX0_init_85 : decode cX0_init 85 = .ok (.newarray .int, 2) := by decide +kernel
theorem dX0_init_87 : decode cX0_init 87 = .ok (.putfield 39, 3) := by decide +kernel
theorem dX0_init_90 : decode cX0_init 90 = .ok (.return_, 1) := by decide +kernel
theorem dX0_wipe_0 : decode cX0_wipe 0 = .ok (.aload_n 0, 1) := by decide +kernel
theorem dX0_wipe_1 : decode cX0_wipe 1 = .ok (.iconst 0, 1) := by decide +kernel
theorem dX0_wipe_2 : decode cX0_wipe 2 = .ok (.putfield 42, 3) := by decide +kernel
theorem dX0_wipe_5 : decode cX0_wipe 5 = .ok (.aload_n 0, 1) := by decide +kernel
theorem dX0_wipe_6 : decode cX0_wipe 6 = .ok (.iconst 0, 1) := by decide +kernel
theorem dX0_wipe_7 : decode cX0_wipe 7 = .ok (.putfield 46, 3) := by decide +kernel
theorem dX0_wipe_10 : decode cX0_wipe 10 = .ok (.aload_n 0, 1) := by decide +kernel
theorem dX0_wipe_11 : decode cX0_wipe 11 = .ok (.iconst 0, 1) := by decide +kernel
theorem dX0_wipe_12 : decode cX0_wipe 12 = .ok (.putfield 49, 3) := by decide +kernel
theorem dX0_wipe_15 : decode cX0_wipe 15 = .ok (.aload_n 0, 1) := by decide +kernel
theorem dX0_wipe_16 : decode cX0_wipe 16 = .ok (.iconst 0, 1) := by decide +kernel
theorem dX0_wipe_17 : decode cX0_wipe 17 = .ok (.putfield 52, 3) := by decide +kernel
theorem dX0_wipe_20 : decode cX0_wipe 20 = .ok (.aload_n 0, 1) := by decide +kernel
theorem dX0_wipe_21 : decode cX0_wipe 21 = .ok (.iconst 0, 1) := by decide +kernel
theorem dX0_wipe_22 : decode cX0_wipe 22 = .ok (.putfield 55, 3) := by decide +kernel
theorem dX0_wipe_25 : decode cX0_wipe 25 = .ok (.aload_n 0, 1) := by decide +kernel
theorem dX0_wipe_26 : decode cX0_wipe 26 = .ok (.getfield 9, 3) := by decide +kernel
theorem dX0_wipe_29 : decode cX0_wipe 29 = .ok (.iconst 0, 1) := by decide +kernel
theorem dX0_wipe_30 : decode cX0_wipe 30 = .ok (.iconst 0, 1) := by decide +kernel
theorem dX0_wipe_31 : decode cX0_wipe 31 = .ok (.iastore, 1) := by decide +kernel
theorem dX0_wipe_32 : decode cX0_wipe 32 = .ok (.aload_n 0, 1) := by decide +kernel
theorem dX0_wipe_33 : decode cX0_wipe 33 = .ok (.getfield 15, 3) := by decide +kernel
theorem dX0_wipe_36 : decode cX0_wipe 36 = .ok (.iconst 0, 1) := by decide +kernel
theorem dX0_wipe_37 : decode cX0_wipe 37 = .ok (.iconst 0, 1) := by decide +kernel
theorem dX0_wipe_38 : decode cX0_wipe 38 = .ok (.iastore, 1) := by decide +kernel
theorem dX0_wipe_39 : decode cX0_wipe 39 = .ok (.iconst 0, 1) := by decide +kernel
theorem dX0_wipe_40 : decode cX0_wipe 40 = .ok (.istore_n 1, 1) := by decide +kernel
theorem dX0_wipe_41 : decode cX0_wipe 41 = .ok (.iload_n 1, 1) := by decide +kernel
theorem dX0_wipe_42 : decode cX0_wipe 42 = .ok (.bipush 6, 2) := by decide +kernel
theorem dX0_wipe_44 : decode cX0_wipe 44 = .ok (.if_icmp .ge 23, 3) := by decide +kernel
theorem dX0_wipe_47 : decode cX0_wipe 47 = .ok (.aload_n 0, 1) := by decide +kernel
theorem dX0_wipe_48 : decode cX0_wipe 48 = .ok (.getfield 18, 3) := by decide +kernel
theorem dX0_wipe_51 : decode cX0_wipe 51 = .ok (.iload_n 1, 1) := by decide +kernel
theorem dX0_wipe_52 : decode cX0_wipe 52 = .ok (.iconst (-1), 1) := by decide +kernel
theorem dX0_wipe_53 : decode cX0_wipe 53 = .ok (.iastore, 1) := by decide +kernel
theorem dX0_wipe_54 : decode cX0_wipe 54 = .ok (.aload_n 0, 1) := by decide +kernel
theorem dX0_wipe_55 : decode cX0_wipe 55 = .ok (.getfield 27, 3) := by decide +kernel
theorem dX0_wipe_58 : decode cX0_wipe 58 = .ok (.iload_n 1, 1) := by decide +kernel
theorem dX0_wipe_59 : decode cX0_wipe 59 = .ok (.iconst (-1), 1) := by decide +kernel
theorem dX0_wipe_60 : decode cX0_wipe 60 = .ok (.iastore, 1) := by decide +kernel
theorem dX0_wipe_61 : decode cX0_wipe 61 = .ok (.iinc 1 1, 3) := by decide +kernel
theorem dX0_wipe_64 : decode cX0_wipe 64 = .ok (.goto (-23), 3) := by decide +kernel
theorem dX0_wipe_67 : decode cX0_wipe 67 = .ok (.iconst 0, 1) := by decide +kernel
theorem dX0_wipe_68 : decode cX0_wipe 68 = .ok (.istore_n 1, 1) := by decide +kernel
theorem dX0_wipe_69 : decode cX0_wipe 69 = .ok (.iload_n 1, 1) := by decide +kernel
theorem dX0_wipe_70 : decode cX0_wipe 70 = .ok (.iconst 2, 1) := by decide +kernel
theorem dX0_wipe_71 : decode cX0_wipe 71 = .ok (.if_icmp .ge 24, 3) := by decide +kernel
theorem dX0_wipe_74 : decode cX0_wipe 74 = .ok (.aload_n 0, 1) := by decide +kernel
theorem dX0_wipe_75 : decode cX0_wipe 75 = .ok (.getfield 30, 3) := by decide +kernel
theorem dX0_wipe_78 : decode cX0_wipe 78 = .ok (.iload_n 1, 1) := by decide +kernel
theorem dX0_wipe_79 : decode cX0_wipe 79 = .ok (.bipush 127, 2) := by decide +kernel
theorem dX0_wipe_81 : decode cX0_wipe 81 = .ok (.iastore, 1) := by decide +kernel
theorem dX0_wipe_82 : decode cX0_wipe 82 = .ok (.aload_n 0, 1) := by decide +kernel
theorem dX0_wipe_83 : decode cX0_wipe 83 = .ok (.getfield 33, 3) := by decide +kernel
theorem dX0_wipe_86 : decode cX0_wipe 86 = .ok (.iload_n 1, 1) := by decide +kernel
theorem dX0_wipe_87 : decode cX0_wipe 87 = .ok (.iconst 0, 1) := by decide +kernel
theorem dX0_wipe_88 : decode cX0_wipe 88 = .ok (.iastore, 1) := by decide +kernel
theorem dX0_wipe_89 : decode cX0_wipe 89 = .ok (.iinc 1 1, 3) := by decide +kernel
theorem dX0_wipe_92 : decode cX0_wipe 92 = .ok (.goto (-23), 3) := by decide +kernel
theorem dX0_wipe_95 : decode cX0_wipe 95 = .ok (.return_, 1) := by decide +kernel
theorem dX0_hoursOfDay_0 : decode cX0_hoursOfDay 0 = .ok (.aload_n 0, 1) := by decide +kernel
theorem dX0_hoursOfDay_1 : decode cX0_hoursOfDay 1 = .ok (.getfield 42, 3) := by decide +kernel
theorem dX0_hoursOfDay_4 : decode cX0_hoursOfDay 4 = .ok (.ifCond .ne 7, 3) := by decide +kernel
theorem dX0_hoursOfDay_7 : decode cX0_hoursOfDay 7 = .ok (.iconst 0, 1) := by decide +kernel
theorem dX0_hoursOfDay_8 : decode cX0_hoursOfDay 8 = .ok (.goto 11, 3) := by decide +kernel
theorem dX0_hoursOfDay_11 : decode cX0_hoursOfDay 11 = .ok (.aload_n 0, 1) := by decide +kernel
theorem dX0_hoursOfDay_12 : decode cX0_hoursOfDay 12 = .ok (.getfield 49, 3) := by decide +kernel
theorem dX0_hoursOfDay_15 : decode cX0_hoursOfDay 15 = .ok (.iconst 1, 1) := by decide +kernel
theorem dX0_hoursOfDay_16 : decode cX0_hoursOfDay 16 = .ok (.invokestatic 58, 3) := by decide +kernel
theorem dX0_hoursOfDay_19 : decode cX0_hoursOfDay 19 = .ok (.ireturn, 1) := by decide +kernel
theorem dX0_sideAt_0 : decode cX0_sideAt 0 = .ok (.aload_n 0, 1) := by decide +kernel
theorem dX0_sideAt_1 : decode cX0_sideAt 1 = .ok (.getfield 9, 3) := by decide +kernel
theorem dX0_sideAt_4 : decode cX0_sideAt 4 = .ok (.iload_n 1, 1) := by decide +kernel
theorem dX0_sideAt_5 : decode cX0_sideAt 5 = .ok (.invokestatic 64, 3) := by decide +kernel
theorem dX0_sideAt_8 : decode cX0_sideAt 8 = .ok (.ireturn, 1) := by decide +kernel
theorem dX0_fogAt_0 : decode cX0_fogAt 0 = .ok (.aload_n 0, 1) := by decide +kernel
theorem dX0_fogAt_1 : decode cX0_fogAt 1 = .ok (.getfield 15, 3) := by decide +kernel
theorem dX0_fogAt_4 : decode cX0_fogAt 4 = .ok (.iload_n 1, 1) := by decide +kernel
theorem dX0_fogAt_5 : decode cX0_fogAt 5 = .ok (.invokestatic 64, 3) := by decide +kernel
theorem dX0_fogAt_8 : decode cX0_fogAt 8 = .ok (.ireturn, 1) := by decide +kernel
theorem dX0_hangsOn_0 : decode cX0_hangsOn 0 = .ok (.aload_n 0, 1) := by decide +kernel
theorem dX0_hangsOn_1 : decode cX0_hangsOn 1 = .ok (.getfield 30, 3) := by decide +kernel
theorem dX0_hangsOn_4 : decode cX0_hangsOn 4 = .ok (.iload_n 1, 1) := by decide +kernel
theorem dX0_hangsOn_5 : decode cX0_hangsOn 5 = .ok (.invokestatic 64, 3) := by decide +kernel
theorem dX0_hangsOn_8 : decode cX0_hangsOn 8 = .ok (.iload_n 2, 1) := by decide +kernel
theorem dX0_hangsOn_9 : decode cX0_hangsOn 9 = .ok (.bipush 7, 2) := by decide +kernel
theorem dX0_hangsOn_11 : decode cX0_hangsOn 11 = .ok (.irem, 1) := by decide +kernel
theorem dX0_hangsOn_12 : decode cX0_hangsOn 12 = .ok (.ishr, 1) := by decide +kernel
theorem dX0_hangsOn_13 : decode cX0_hangsOn 13 = .ok (.iconst 1, 1) := by decide +kernel
theorem dX0_hangsOn_14 : decode cX0_hangsOn 14 = .ok (.iand, 1) := by decide +kernel
theorem dX0_hangsOn_15 : decode cX0_hangsOn 15 = .ok (.iconst 1, 1) := by decide +kernel
theorem dX0_hangsOn_16 : decode cX0_hangsOn 16 = .ok (.if_icmp .ne 7, 3) := by decide +kernel
theorem dX0_hangsOn_19 : decode cX0_hangsOn 19 = .ok (.iconst 1, 1) := by decide +kernel
theorem dX0_hangsOn_20 : decode cX0_hangsOn 20 = .ok (.goto 4, 3) := by decide +kernel
theorem dX0_hangsOn_23 : decode cX0_hangsOn 23 = .ok (.iconst 0, 1) := by decide +kernel
theorem dX0_hangsOn_24 : decode cX0_hangsOn 24 = .ok (.ireturn, 1) := by decide +kernel
theorem dX0_postsOf_0 : decode cX0_postsOf 0 = .ok (.iconst 0, 1) := by decide +kernel
theorem dX0_postsOf_1 : decode cX0_postsOf 1 = .ok (.istore_n 2, 1) := by decide +kernel
theorem dX0_postsOf_2 : decode cX0_postsOf 2 = .ok (.iconst 0, 1) := by decide +kernel
theorem dX0_postsOf_3 : decode cX0_postsOf 3 = .ok (.istore_n 3, 1) := by decide +kernel
theorem dX0_postsOf_4 : decode cX0_postsOf 4 = .ok (.iload_n 3, 1) := by decide +kernel
theorem dX0_postsOf_5 : decode cX0_postsOf 5 = .ok (.aload_n 0, 1) := by decide +kernel
theorem dX0_postsOf_6 : decode cX0_postsOf 6 = .ok (.getfield 52, 3) := by decide +kernel
theorem dX0_postsOf_9 : decode cX0_postsOf 9 = .ok (.if_icmp .ge 31, 3) := by decide +kernel
theorem dX0_postsOf_12 : decode cX0_postsOf 12 = .ok (.iload_n 3, 1) := by decide +kernel
theorem dX0_postsOf_13 : decode cX0_postsOf 13 = .ok (.bipush 6, 2) := by decide +kernel
theorem dX0_postsOf_15 : decode cX0_postsOf 15 = .ok (.if_icmp .ge 25, 3) := by decide +kernel
theorem dX0_postsOf_18 : decode cX0_postsOf 18 = .ok (.aload_n 0, 1) := by decide +kernel
theorem dX0_postsOf_19 : decode cX0_postsOf 19 = .ok (.getfield 27, 3) := by decide +kernel
theorem dX0_postsOf_22 : decode cX0_postsOf 22 = .ok (.iload_n 3, 1) := by decide +kernel
theorem dX0_postsOf_23 : decode cX0_postsOf 23 = .ok (.iaload, 1) := by decide +kernel
theorem dX0_postsOf_24 : decode cX0_postsOf 24 = .ok (.iload_n 1, 1) := by decide +kernel
theorem dX0_postsOf_25 : decode cX0_postsOf 25 = .ok (.if_icmp .ne 9, 3) := by decide +kernel
theorem dX0_postsOf_28 : decode cX0_postsOf 28 = .ok (.iload_n 2, 1) := by decide +kernel
theorem dX0_postsOf_29 : decode cX0_postsOf 29 = .ok (.iconst 1, 1) := by decide +kernel
theorem dX0_postsOf_30 : decode cX0_postsOf 30 = .ok (.iload_n 3, 1) := by decide +kernel
theorem dX0_postsOf_31 : decode cX0_postsOf 31 = .ok (.ishl, 1) := by decide +kernel
theorem dX0_postsOf_32 : decode cX0_postsOf 32 = .ok (.ior, 1) := by decide +kernel
theorem dX0_postsOf_33 : decode cX0_postsOf 33 = .ok (.istore_n 2, 1) := by decide +kernel
theorem dX0_postsOf_34 : decode cX0_postsOf 34 = .ok (.iinc 3 1, 3) := by decide +kernel
theorem dX0_postsOf_37 : decode cX0_postsOf 37 = .ok (.goto (-33), 3) := by decide +kernel
theorem dX0_postsOf_40 : decode cX0_postsOf 40 = .ok (.iload_n 2, 1) := by decide +kernel
theorem dX0_postsOf_41 : decode cX0_postsOf 41 = .ok (.ireturn, 1) := by decide +kernel
theorem dX0_hasPostIn_0 : decode cX0_hasPostIn 0 = .ok (.iconst 0, 1) := by decide +kernel
theorem dX0_hasPostIn_1 : decode cX0_hasPostIn 1 = .ok (.istore_n 2, 1) := by decide +kernel
theorem dX0_hasPostIn_2 : decode cX0_hasPostIn 2 = .ok (.iload_n 2, 1) := by decide +kernel
theorem dX0_hasPostIn_3 : decode cX0_hasPostIn 3 = .ok (.aload_n 0, 1) := by decide +kernel
theorem dX0_hasPostIn_4 : decode cX0_hasPostIn 4 = .ok (.getfield 52, 3) := by decide +kernel
theorem dX0_hasPostIn_7 : decode cX0_hasPostIn 7 = .ok (.if_icmp .ge 27, 3) := by decide +kernel
theorem dX0_hasPostIn_10 : decode cX0_hasPostIn 10 = .ok (.iload_n 2, 1) := by decide +kernel
theorem dX0_hasPostIn_11 : decode cX0_hasPostIn 11 = .ok (.bipush 6, 2) := by decide +kernel
theorem dX0_hasPostIn_13 : decode cX0_hasPostIn 13 = .ok (.if_icmp .ge 21, 3) := by decide +kernel
theorem dX0_hasPostIn_16 : decode cX0_hasPostIn 16 = .ok (.aload_n 0, 1) := by decide +kernel
theorem dX0_hasPostIn_17 : decode cX0_hasPostIn 17 = .ok (.getfield 18, 3) := by decide +kernel
theorem dX0_hasPostIn_20 : decode cX0_hasPostIn 20 = .ok (.iload_n 2, 1) := by decide +kernel
theorem dX0_hasPostIn_21 : decode cX0_hasPostIn 21 = .ok (.iaload, 1) := by decide +kernel
theorem dX0_hasPostIn_22 : decode cX0_hasPostIn 22 = .ok (.iload_n 1, 1) := by decide +kernel
theorem dX0_hasPostIn_23 : decode cX0_hasPostIn 23 = .ok (.if_icmp .ne 5, 3) := by decide +kernel
theorem dX0_hasPostIn_26 : decode cX0_hasPostIn 26 = .ok (.iconst 1, 1) := by decide +kernel
theorem dX0_hasPostIn_27 : decode cX0_hasPostIn 27 = .ok (.ireturn, 1) := by decide +kernel
theorem dX0_hasPostIn_28 : decode cX0_hasPostIn 28 = .ok (.iinc 2 1, 3) := by decide +kernel
theorem dX0_hasPostIn_31 : decode cX0_hasPostIn 31 = .ok (.goto (-29), 3) := by decide +kernel
theorem dX0_hasPostIn_34 : decode cX0_hasPostIn 34 = .ok (.iconst 0, 1) := by decide +kernel
theorem dX0_hasPostIn_35 : decode cX0_hasPostIn 35 = .ok (.ireturn, 1) := by decide +kernel
theorem dX1_init_0 : decode cX1_init 0 = .ok (.aload_n 0, 1) := by decide +kernel
theorem dX1_init_1 : decode cX1_init 1 = .ok (.invokespecial 1, 3) := by decide +kernel
theorem dX1_init_4 : decode cX1_init 4 = .ok (.aload_n 0, 1) := by decide +kernel
theorem dX1_init_5 : decode cX1_init 5 = .ok (.iconst 0, 1) := by decide +kernel
theorem dX1_init_6 : decode cX1_init 6 = .ok (.putfield 7, 3) := by decide +kernel
theorem dX1_init_9 : decode cX1_init 9 = .ok (.iload_n 1, 1) := by decide +kernel
theorem dX1_init_10 : decode cX1_init 10 = .ok (.iconst 0, 1) := by decide +kernel
theorem dX1_init_11 : decode cX1_init 11 = .ok (.invokestatic 13, 3) := by decide +kernel
theorem dX1_init_14 : decode cX1_init 14 = .ok (.istore_n 2, 1) := by decide +kernel
theorem dX1_init_15 : decode cX1_init 15 = .ok (.aload_n 0, 1) := by decide +kernel
theorem dX1_init_16 : decode cX1_init 16 = .ok (.iload_n 2, 1) := by decide +kernel
theorem dX1_init_17 : decode cX1_init 17 = .ok (.newarray .int, 2) := by decide +kernel
theorem dX1_init_19 : decode cX1_init 19 = .ok (.putfield 19, 3) := by decide +kernel
theorem dX1_init_22 : decode cX1_init 22 = .ok (.aload_n 0, 1) := by decide +kernel
theorem dX1_init_23 : decode cX1_init 23 = .ok (.iload_n 2, 1) := by decide +kernel
theorem dX1_init_24 : decode cX1_init 24 = .ok (.newarray .int, 2) := by decide +kernel
theorem dX1_init_26 : decode cX1_init 26 = .ok (.putfield 23, 3) := by decide +kernel
theorem dX1_init_29 : decode cX1_init 29 = .ok (.aload_n 0, 1) := by decide +kernel
theorem dX1_init_30 : decode cX1_init 30 = .ok (.iload_n 2, 1) := by decide +kernel
theorem dX1_init_31 : decode cX1_init 31 = .ok (.newarray .int, 2) := by decide +kernel
theorem dX1_init_33 : decode cX1_init 33 = .ok (.putfield 26, 3) := by decide +kernel
theorem dX1_init_36 : decode cX1_init 36 = .ok (.return_, 1) := by decide +kernel
theorem dX1_note_0 : decode cX1_note 0 = .ok (.aload_n 0, 1) := by decide +kernel
theorem dX1_note_1 : decode cX1_note 1 = .ok (.getfield 19, 3) := by decide +kernel
theorem dX1_note_4 : decode cX1_note 4 = .ok (.aload_n 0, 1) := by decide +kernel
theorem dX1_note_5 : decode cX1_note 5 = .ok (.getfield 7, 3) := by decide +kernel
theorem dX1_note_8 : decode cX1_note 8 = .ok (.iload_n 1, 1) := by decide +kernel
theorem dX1_note_9 : decode cX1_note 9 = .ok (.invokestatic 29, 3) := by decide +kernel
theorem dX1_note_12 : decode cX1_note 12 = .ok (.aload_n 0, 1) := by decide +kernel
theorem dX1_note_13 : decode cX1_note 13 = .ok (.getfield 23, 3) := by decide +kernel
theorem dX1_note_16 : decode cX1_note 16 = .ok (.aload_n 0, 1) := by decide +kernel
theorem dX1_note_17 : decode cX1_note 17 = .ok (.getfield 7, 3) := by decide +kernel
theorem dX1_note_20 : decode cX1_note 20 = .ok (.iload_n 2, 1) := by decide +kernel
theorem dX1_note_21 : decode cX1_note 21 = .ok (.invokestatic 29, 3) := by decide +kernel
theorem dX1_note_24 : decode cX1_note 24 = .ok (.aload_n 0, 1) := by decide +kernel
theorem dX1_note_25 : decode cX1_note 25 = .ok (.getfield 26, 3) := by decide +kernel
theorem dX1_note_28 : decode cX1_note 28 = .ok (.aload_n 0, 1) := by decide +kernel
theorem dX1_note_29 : decode cX1_note 29 = .ok (.getfield 7, 3) := by decide +kernel
theorem dX1_note_32 : decode cX1_note 32 = .ok (.iload_n 3, 1) := by decide +kernel
theorem dX1_note_33 : decode cX1_note 33 = .ok (.invokestatic 29, 3) := by decide +kernel
theorem dX1_note_36 : decode cX1_note 36 = .ok (.aload_n 0, 1) := by decide +kernel
theorem dX1_note_37 : decode cX1_note 37 = .ok (.dup, 1) := by decide +kernel
theorem dX1_note_38 : decode cX1_note 38 = .ok (.getfield 7, 3) := by decide +kernel
theorem dX1_note_41 : decode cX1_note 41 = .ok (.iconst 1, 1) := by decide +kernel
theorem dX1_note_42 : decode cX1_note 42 = .ok (.iadd, 1) := by decide +kernel
theorem dX1_note_43 : decode cX1_note 43 = .ok (.putfield 7, 3) := by decide +kernel
theorem dX1_note_46 : decode cX1_note 46 = .ok (.aload_n 0, 1) := by decide +kernel
theorem dX1_note_47 : decode cX1_note 47 = .ok (.getfield 7, 3) := by decide +kernel
theorem dX1_note_50 : decode cX1_note 50 = .ok (.ireturn, 1) := by decide +kernel
theorem dX2_init_0 : decode cX2_init 0 = .ok (.aload_n 0, 1) := by decide +kernel
theorem dX2_init_1 : decode cX2_init 1 = .ok (.invokespecial 3, 3) := by decide +kernel
theorem dX2_init_4 : decode cX2_init 4 = .ok (.aload_n 0, 1) := by decide +kernel
theorem dX2_init_5 : decode cX2_init 5 = .ok (.bipush 30, 2) := by decide +kernel
theorem dX2_init_7 : decode cX2_init 7 = .ok (.anewarray 9, 3) := by decide +kernel
theorem dX2_init_10 : decode cX2_init 10 = .ok (.putfield 11, 3) := by decide +kernel
theorem dX2_init_13 : decode cX2_init 13 = .ok (.aload_n 0, 1) := by decide +kernel
theorem dX2_init_14 : decode cX2_init 14 = .ok (.iconst 0, 1) := by decide +kernel
theorem dX2_init_15 : decode cX2_init 15 = .ok (.putfield 17, 3) := by decide +kernel
theorem dX2_init_18 : decode cX2_init 18 = .ok (.aload_n 0, 1) := by decide +kernel
theorem dX2_init_19 : decode cX2_init 19 = .ok (.iconst 0, 1) := by decide +kernel
theorem dX2_init_20 : decode cX2_init 20 = .ok (.putfield 21, 3) := by decide +kernel
theorem dX2_init_23 : decode cX2_init 23 = .ok (.iconst 0, 1) := by decide +kernel
theorem dX2_init_24 : decode cX2_init 24 = .ok (.istore_n 1, 1) := by decide +kernel
theorem dX2_init_25 : decode cX2_init 25 = .ok (.iload_n 1, 1) := by decide +kernel
theorem dX2_init_26 : decode cX2_init 26 = .ok (.bipush 30, 2) := by decide +kernel
theorem dX2_init_28 : decode cX2_init 28 = .ok (.if_icmp .ge 22, 3) := by decide +kernel
theorem dX2_init_31 : decode cX2_init 31 = .ok (.aload_n 0, 1) := by decide +kernel
theorem dX2_init_32 : decode cX2_init 32 = .ok (.getfield 11, 3) := by decide +kernel
theorem dX2_init_35 : decode cX2_init 35 = .ok (.iload_n 1, 1) := by decide +kernel
theorem dX2_init_36 : decode cX2_init 36 = .ok (.new 9, 3) := by decide +kernel
theorem dX2_init_39 : decode cX2_init 39 = .ok (.dup, 1) := by decide +kernel
theorem dX2_init_40 : decode cX2_init 40 = .ok (.invokespecial 24, 3) := by decide +kernel
theorem dX2_init_43 : decode cX2_init 43 = .ok (.aastore, 1) := by decide +kernel
theorem dX2_init_44 : decode cX2_init 44 = .ok (.iinc 1 1, 3) := by decide +kernel
theorem dX2_init_47 : decode cX2_init 47 = .ok (.goto (-22), 3) := by decide +kernel
theorem dX2_init_50 : decode cX2_init 50 = .ok (.return_, 1) := by decide +kernel
theorem dX2_remember_0 : decode cX2_remember 0 = .ok (.aload_n 0, 1) := by decide +kernel
theorem dX2_remember_1 : decode cX2_remember 1 = .ok (.getfield 21, 3) := by decide +kernel
theorem dX2_remember_4 : decode cX2_remember 4 = .ok (.bipush 30, 2) := by decide +kernel
theorem dX2_remember_6 : decode cX2_remember 6 = .ok (.if_icmp .ge 16, 3) := by decide +kernel
theorem dX2_remember_9 : decode cX2_remember 9 = .ok (.aload_n 0, 1) := by decide +kernel
theorem dX2_remember_10 : decode cX2_remember 10 = .ok (.dup, 1) := by decide +kernel
theorem dX2_remember_11 : decode cX2_remember 11 = .ok (.getfield 21, 3) := by decide +kernel
theorem dX2_remember_14 : decode cX2_remember 14 = .ok (.iconst 1, 1) := by decide +kernel
theorem dX2_remember_15 : decode cX2_remember 15 = .ok (.iadd, 1) := by decide +kernel
theorem dX2_remember_16 : decode cX2_remember 16 = .ok (.putfield 21, 3) := by decide +kernel
theorem dX2_remember_19 : decode cX2_remember 19 = .ok (.goto 16, 3) := by decide +kernel
theorem dX2_remember_22 : decode cX2_remember 22 = .ok (.aload_n 0, 1) := by decide +kernel
theorem dX2_remember_23 : decode cX2_remember 23 = .ok (.aload_n 0, 1) := by decide +kernel
theorem dX2_remember_24 : decode cX2_remember 24 = .ok (.getfield 17, 3) := by decide +kernel
theorem dX2_remember_27 : decode cX2_remember 27 = .ok (.iconst 1, 1) := by decide +kernel
theorem dX2_remember_28 : decode cX2_remember 28 = .ok (.iadd, 1) := by decide +kernel
theorem dX2_remember_29 : decode cX2_remember 29 = .ok (.bipush 30, 2) := by decide +kernel
theorem dX2_remember_31 : decode cX2_remember 31 = .ok (.irem, 1) := by decide +kernel
theorem dX2_remember_32 : decode cX2_remember 32 = .ok (.putfield 17, 3) := by decide +kernel
theorem dX2_remember_35 : decode cX2_remember 35 = .ok (.aload_n 0, 1) := by decide +kernel
theorem dX2_remember_36 : decode cX2_remember 36 = .ok (.aload_n 0, 1) := by decide +kernel
theorem dX2_remember_37 : decode cX2_remember 37 = .ok (.getfield 21, 3) := by decide +kernel
theorem dX2_remember_40 : decode cX2_remember 40 = .ok (.iconst 1, 1) := by decide +kernel
theorem dX2_remember_41 : decode cX2_remember 41 = .ok (.isub, 1) := by decide +kernel
theorem dX2_remember_42 : decode cX2_remember 42 = .ok (.invokevirtual 25, 3) := by decide +kernel
theorem dX2_remember_45 : decode cX2_remember 45 = .ok (.astore_n 2, 1) := by decide +kernel
theorem dX2_remember_46 : decode cX2_remember 46 = .ok (.aload_n 2, 1) := by decide +kernel
theorem dX2_remember_47 : decode cX2_remember 47 = .ok (.ifnull 8, 3) := by decide +kernel
theorem dX2_remember_50 : decode cX2_remember 50 = .ok (.aload_n 2, 1) := by decide +kernel
theorem dX2_remember_51 : decode cX2_remember 51 = .ok (.aload_n 1, 1) := by decide +kernel
theorem dX2_remember_52 : decode cX2_remember 52 = .ok (.invokevirtual 29, 3) := by decide +kernel
theorem dX2_remember_55 : decode cX2_remember 55 = .ok (.return_, 1) := by decide +kernel
theorem dX2_takeBack_0 : decode cX2_takeBack 0 = .ok (.aload_n 0, 1) := by decide +kernel
theorem dX2_takeBack_1 : decode cX2_takeBack 1 = .ok (.aload_n 0, 1) := by decide +kernel
theorem dX2_takeBack_2 : decode cX2_takeBack 2 = .ok (.getfield 21, 3) := by decide +kernel
theorem dX2_takeBack_5 : decode cX2_takeBack 5 = .ok (.iload_n 2, 1) := by decide +kernel
theorem dX2_takeBack_6 : decode cX2_takeBack 6 = .ok (.isub, 1) := by decide +kernel
theorem dX2_takeBack_7 : decode cX2_takeBack 7 = .ok (.invokevirtual 25, 3) := by decide +kernel
theorem dX2_takeBack_10 : decode cX2_takeBack 10 = .ok (.astore_n 3, 1) := by decide +kernel
theorem dX2_takeBack_11 : decode cX2_takeBack 11 = .ok (.aload_n 3, 1) := by decide +kernel
theorem dX2_takeBack_12 : decode cX2_takeBack 12 = .ok (.ifnonnull 4, 3) := by decide +kernel
theorem dX2_takeBack_15 : decode cX2_takeBack 15 = .ok (.return_, 1) := by decide +kernel
theorem dX2_takeBack_16 : decode cX2_takeBack 16 = .ok (.aload_n 1, 1) := by decide +kernel
theorem dX2_takeBack_17 : decode cX2_takeBack 17 = .ok (.aload_n 3, 1) := by decide +kernel
theorem dX2_takeBack_18 : decode cX2_takeBack 18 = .ok (.invokevirtual 29, 3) := by decide +kernel
theorem dX2_takeBack_21 : decode cX2_takeBack 21 = .ok (.aload_n 0, 1) := by decide +kernel
theorem dX2_takeBack_22 : decode cX2_takeBack 22 = .ok (.dup, 1) := by decide +kernel
theorem dX2_takeBack_23 : decode cX2_takeBack 23 = .ok (.getfield 21, 3) := by decide +kernel
theorem dX2_takeBack_26 : decode cX2_takeBack 26 = .ok (.iload_n 2, 1) := by decide +kernel
theorem dX2_takeBack_27 : decode cX2_takeBack 27 = .ok (.isub, 1) := by decide +kernel
theorem dX2_takeBack_28 : decode cX2_takeBack 28 = .ok (.putfield 21, 3) := by decide +kernel
theorem dX2_takeBack_31 : decode cX2_takeBack 31 = .ok (.return_, 1) := by decide +kernel
theorem dX2_stateAt_0 : decode cX2_stateAt 0 = .ok (.aload_n 0, 1) := by decide +kernel
theorem dX2_stateAt_1 : decode cX2_stateAt 1 = .ok (.getfield 17, 3) := by decide +kernel
theorem dX2_stateAt_4 : decode cX2_stateAt 4 = .ok (.iload_n 1, 1) := by decide +kernel
theorem dX2_stateAt_5 : decode cX2_stateAt 5 = .ok (.iadd, 1) := by decide +kernel
theorem dX2_stateAt_6 : decode cX2_stateAt 6 = .ok (.bipush 30, 2) := by decide +kernel
theorem dX2_stateAt_8 : decode cX2_stateAt 8 = .ok (.irem, 1) := by decide +kernel
theorem dX2_stateAt_9 : decode cX2_stateAt 9 = .ok (.istore_n 2, 1) := by decide +kernel
theorem dX2_stateAt_10 : decode cX2_stateAt 10 = .ok (.iload_n 1, 1) := by decide +kernel
theorem dX2_stateAt_11 : decode cX2_stateAt 11 = .ok (.ifCond .lt 22, 3) := by decide +kernel
theorem dX2_stateAt_14 : decode cX2_stateAt 14 = .ok (.iload_n 2, 1) := by decide +kernel
theorem dX2_stateAt_15 : decode cX2_stateAt 15 = .ok (.ifCond .lt 18, 3) := by decide +kernel
theorem dX2_stateAt_18 : decode cX2_stateAt 18 = .ok (.iload_n 2, 1) := by decide +kernel
theorem dX2_stateAt_19 : decode cX2_stateAt 19 = .ok (.bipush 30, 2) := by decide +kernel
theorem dX2_stateAt_21 : decode cX2_stateAt 21 = .ok (.if_icmp .ge 12, 3) := by decide +kernel
theorem dX2_stateAt_24 : decode cX2_stateAt 24 = .ok (.aload_n 0, 1) := by decide +kernel
theorem dX2_stateAt_25 : decode cX2_stateAt 25 = .ok (.getfield 11, 3) := by decide +kernel
theorem dX2_stateAt_28 : decode cX2_stateAt 28 = .ok (.iload_n 2, 1) := by decide +kernel
theorem dX2_stateAt_29 : decode cX2_stateAt 29 = .ok (.aaload, 1) := by decide +kernel
theorem dX2_stateAt_30 : decode cX2_stateAt 30 = .ok (.goto 4, 3) := by decide +kernel
theorem dX2_stateAt_33 : decode cX2_stateAt 33 = .ok (.aconst_null, 1) := by decide +kernel
theorem dX2_stateAt_34 : decode cX2_stateAt 34 = .ok (.areturn, 1) := by decide +kernel
theorem dX3_init_0 : decode cX3_init 0 = .ok (.aload_n 0, 1) := by decide +kernel
theorem dX3_init_1 : decode cX3_init 1 = .ok (.invokespecial 3, 3) := by decide +kernel
theorem dX3_init_4 : decode cX3_init 4 = .ok (.aload_n 0, 1) := by decide +kernel
theorem dX3_init_5 : decode cX3_init 5 = .ok (.sipush 240, 3) := by decide +kernel
theorem dX3_init_8 : decode cX3_init 8 = .ok (.newarray .int, 2) := by decide +kernel
theorem dX3_init_10 : decode cX3_init 10 = .ok (.putfield 9, 3) := by decide +kernel
theorem dX3_init_13 : decode cX3_init 13 = .ok (.aload_n 0, 1) := by decide +kernel
theorem dX3_init_14 : decode cX3_init 14 = .ok (.iconst 0, 1) := by decide +kernel
theorem dX3_init_15 : decode cX3_init 15 = .ok (.putfield 15, 3) := by decide +kernel
theorem dX3_init_18 : decode cX3_init 18 = .ok (.aload_n 0, 1) := by decide +kernel
theorem dX3_init_19 : decode cX3_init 19 = .ok (.iconst 0, 1) := by decide +kernel
theorem dX3_init_20 : decode cX3_init 20 = .ok (.putfield 19, 3) := by decide +kernel
theorem dX3_init_23 : decode cX3_init 23 = .ok (.aload_n 0, 1) := by decide +kernel
theorem dX3_init_24 : decode cX3_init 24 = .ok (.iconst 0, 1) := by decide +kernel
theorem dX3_init_25 : decode cX3_init 25 = .ok (.putfield 22, 3) := by decide +kernel
theorem dX3_init_28 : decode cX3_init 28 = .ok (.aload_n 0, 1) := by decide +kernel
theorem dX3_init_29 : decode cX3_init 29 = .ok (.iconst 0, 1) := by decide +kernel
theorem dX3_init_30 : decode cX3_init 30 = .ok (.putfield 25, 3) := by decide +kernel
theorem dX3_init_33 : decode cX3_init 33 = .ok (.aload_n 0, 1) := by decide +kernel
theorem dX3_init_34 : decode cX3_init 34 = .ok (.iconst (-1), 1) := by decide +kernel
theorem dX3_init_35 : decode cX3_init 35 = .ok (.putfield 28, 3) := by decide +kernel
theorem dX3_init_38 : decode cX3_init 38 = .ok (.aload_n 0, 1) := by decide +kernel
theorem dX3_init_39 : decode cX3_init 39 = .ok (.iconst 0, 1) := by decide +kernel
theorem dX3_init_40 : decode cX3_init 40 = .ok (.putfield 31, 3) := by decide +kernel
theorem dX3_init_43 : decode cX3_init 43 = .ok (.aload_n 0, 1) := by decide +kernel
theorem dX3_init_44 : decode cX3_init 44 = .ok (.iconst 0, 1) := by decide +kernel
theorem dX3_init_45 : decode cX3_init 45 = .ok (.putfield 35, 3) := by decide +kernel
theorem dX3_init_48 : decode cX3_init 48 = .ok (.return_, 1) := by decide +kernel
theorem dX3_append_0 : decode cX3_append 0 = .ok (.aload_n 0, 1) := by decide +kernel
theorem dX3_append_1 : decode cX3_append 1 = .ok (.getfield 9, 3) := by decide +kernel
theorem dX3_append_4 : decode cX3_append 4 = .ok (.aload_n 0, 1) := by decide +kernel
theorem dX3_append_5 : decode cX3_append 5 = .ok (.getfield 15, 3) := by decide +kernel
theorem dX3_append_8 : decode cX3_append 8 = .ok (.iload_n 1, 1) := by decide +kernel
theorem dX3_append_9 : decode cX3_append 9 = .ok (.invokestatic 38, 3) := by decide +kernel
theorem dX3_append_12 : decode cX3_append 12 = .ok (.aload_n 0, 1) := by decide +kernel
theorem dX3_append_13 : decode cX3_append 13 = .ok (.dup, 1) := by decide +kernel
theorem dX3_append_14 : decode cX3_append 14 = .ok (.getfield 15, 3) := by decide +kernel
theorem dX3_append_17 : decode cX3_append 17 = .ok (.iconst 1, 1) := by decide +kernel
theorem dX3_append_18 : decode cX3_append 18 = .ok (.iadd, 1) := by decide +kernel
theorem dX3_append_19 : decode cX3_append 19 = .ok (.putfield 15, 3) := by decide +kernel
theorem dX3_append_22 : decode cX3_append 22 = .ok (.aload_n 0, 1) := by decide +kernel
theorem dX3_append_23 : decode cX3_append 23 = .ok (.getfield 15, 3) := by decide +kernel
theorem dX3_append_26 : decode cX3_append 26 = .ok (.ireturn, 1) := by decide +kernel
theorem dX3_readAll_0 : decode cX3_readAll 0 = .ok (.aload_n 1, 1) := by decide +kernel
theorem dX3_readAll_1 : decode cX3_readAll 1 = .ok (.invokevirtual 42, 3) := by decide +kernel
theorem dX3_readAll_4 : decode cX3_readAll 4 = .ok (.aload_n 0, 1) := by decide +kernel
theorem dX3_readAll_5 : decode cX3_readAll 5 = .ok (.iconst 0, 1) := by decide +kernel
theorem dX3_readAll_6 : decode cX3_readAll 6 = .ok (.putfield 19, 3) := by decide +kernel
theorem dX3_readAll_9 : decode cX3_readAll 9 = .ok (.aload_n 0, 1) := by decide +kernel
theorem dX3_readAll_10 : decode cX3_readAll 10 = .ok (.iconst 0, 1) := by decide +kernel
theorem dX3_readAll_11 : decode cX3_readAll 11 = .ok (.putfield 25, 3) := by decide +kernel
theorem dX3_readAll_14 : decode cX3_readAll 14 = .ok (.aload_n 0, 1) := by decide +kernel
theorem dX3_readAll_15 : decode cX3_readAll 15 = .ok (.iconst (-1), 1) := by decide +kernel
theorem dX3_readAll_16 : decode cX3_readAll 16 = .ok (.putfield 28, 3) := by decide +kernel
theorem dX3_readAll_19 : decode cX3_readAll 19 = .ok (.aload_n 0, 1) := by decide +kernel
theorem dX3_readAll_20 : decode cX3_readAll 20 = .ok (.iconst 0, 1) := by decide +kernel
theorem dX3_readAll_21 : decode cX3_readAll 21 = .ok (.putfield 31, 3) := by decide +kernel
theorem dX3_readAll_24 : decode cX3_readAll 24 = .ok (.aload_n 0, 1) := by decide +kernel
theorem dX3_readAll_25 : decode cX3_readAll 25 = .ok (.iconst 0, 1) := by decide +kernel
theorem dX3_readAll_26 : decode cX3_readAll 26 = .ok (.putfield 35, 3) := by decide +kernel
theorem dX3_readAll_29 : decode cX3_readAll 29 = .ok (.iconst 0, 1) := by decide +kernel
theorem dX3_readAll_30 : decode cX3_readAll 30 = .ok (.istore_n 2, 1) := by decide +kernel
theorem dX3_readAll_31 : decode cX3_readAll 31 = .ok (.iload_n 2, 1) := by decide +kernel
theorem dX3_readAll_32 : decode cX3_readAll 32 = .ok (.sipush 240, 3) := by decide +kernel
theorem dX3_readAll_35 : decode cX3_readAll 35 = .ok (.if_icmp .ge 35, 3) := by decide +kernel
theorem dX3_readAll_38 : decode cX3_readAll 38 = .ok (.aload_n 0, 1) := by decide +kernel
theorem dX3_readAll_39 : decode cX3_readAll 39 = .ok (.getfield 25, 3) := by decide +kernel
theorem dX3_readAll_42 : decode cX3_readAll 42 = .ok (.ifCond .ne 28, 3) := by decide +kernel
theorem dX3_readAll_45 : decode cX3_readAll 45 = .ok (.aload_n 0, 1) := by decide +kernel
theorem dX3_readAll_46 : decode cX3_readAll 46 = .ok (.invokevirtual 47, 3) := by decide +kernel
theorem dX3_readAll_49 : decode cX3_readAll 49 = .ok (.istore_n 3, 1) := by decide +kernel
theorem dX3_readAll_50 : decode cX3_readAll 50 = .ok (.iload_n 3, 1) := by decide +kernel
theorem dX3_readAll_51 : decode cX3_readAll 51 = .ok (.iconst (-1), 1) := by decide +kernel
theorem dX3_readAll_52 : decode cX3_readAll 52 = .ok (.if_icmp .ne 6, 3) := by decide +kernel
theorem dX3_readAll_55 : decode cX3_readAll 55 = .ok (.goto 15, 3) := by decide +kernel
theorem dX3_readAll_58 : decode cX3_readAll 58 = .ok (.aload_n 0, 1) := by decide +kernel
theorem dX3_readAll_59 : decode cX3_readAll 59 = .ok (.aload_n 1, 1) := by decide +kernel
theorem dX3_readAll_60 : decode cX3_readAll 60 = .ok (.iload_n 3, 1) := by decide +kernel
theorem dX3_readAll_61 : decode cX3_readAll 61 = .ok (.invokevirtual 51, 3) := by decide +kernel
theorem dX3_readAll_64 : decode cX3_readAll 64 = .ok (.iinc 2 1, 3) := by decide +kernel
theorem dX3_readAll_67 : decode cX3_readAll 67 = .ok (.goto (-36), 3) := by decide +kernel
theorem dX3_readAll_70 : decode cX3_readAll 70 = .ok (.aload_n 0, 1) := by decide +kernel
theorem dX3_readAll_71 : decode cX3_readAll 71 = .ok (.iconst 0, 1) := by decide +kernel
theorem dX3_readAll_72 : decode cX3_readAll 72 = .ok (.putfield 15, 3) := by decide +kernel
theorem dX3_readAll_75 : decode cX3_readAll 75 = .ok (.aload_n 0, 1) := by decide +kernel
theorem dX3_readAll_76 : decode cX3_readAll 76 = .ok (.getfield 25, 3) := by decide +kernel
theorem dX3_readAll_79 : decode cX3_readAll 79 = .ok (.ireturn, 1) := by decide +kernel
theorem dX3_letterAt_0 : decode cX3_letterAt 0 = .ok (.iload_n 1, 1) := by decide +kernel
theorem dX3_letterAt_1 : decode cX3_letterAt 1 = .ok (.ifCond .lt 27, 3) := by decide +kernel
theorem dX3_letterAt_4 : decode cX3_letterAt 4 = .ok (.iload_n 1, 1) := by decide +kernel
theorem dX3_letterAt_5 : decode cX3_letterAt 5 = .ok (.aload_n 0, 1) := by decide +kernel
theorem dX3_letterAt_6 : decode cX3_letterAt 6 = .ok (.getfield 15, 3) := by decide +kernel
theorem dX3_letterAt_9 : decode cX3_letterAt 9 = .ok (.if_icmp .ge 19, 3) := by decide +kernel
theorem dX3_letterAt_12 : decode cX3_letterAt 12 = .ok (.iload_n 1, 1) := by decide +kernel
theorem dX3_letterAt_13 : decode cX3_letterAt 13 = .ok (.sipush 240, 3) := by decide +kernel
theorem dX3_letterAt_16 : decode cX3_letterAt 16 = .ok (.if_icmp .ge 12, 3) := by decide +kernel
theorem dX3_letterAt_19 : decode cX3_letterAt 19 = .ok (.aload_n 0, 1) := by decide +kernel
theorem dX3_letterAt_20 : decode cX3_letterAt 20 = .ok (.getfield 9, 3) := by decide +kernel
theorem dX3_letterAt_23 : decode cX3_letterAt 23 = .ok (.iload_n 1, 1) := by decide +kernel
theorem dX3_letterAt_24 : decode cX3_letterAt 24 = .ok (.iaload, 1) := by decide +kernel
theorem dX3_letterAt_25 : decode cX3_letterAt 25 = .ok (.goto 4, 3) := by decide +kernel
theorem dX3_letterAt_28 : decode cX3_letterAt 28 = .ok (.iconst (-1), 1) := by decide +kernel
theorem dX3_letterAt_29 : decode cX3_letterAt 29 = .ok (.ireturn, 1) := by decide +kernel
theorem dX3_nextLetter_0 : decode cX3_nextLetter 0 = .ok (.aload_n 0, 1) := by decide +kernel
theorem dX3_nextLetter_1 : decode cX3_nextLetter 1 = .ok (.getfield 19, 3) := by decide +kernel
theorem dX3_nextLetter_4 : decode cX3_nextLetter 4 = .ok (.aload_n 0, 1) := by decide +kernel
theorem dX3_nextLetter_5 : decode cX3_nextLetter 5 = .ok (.getfield 15, 3) := by decide +kernel
theorem dX3_nextLetter_8 : decode cX3_nextLetter 8 = .ok (.if_icmp .ge 29, 3) := by decide +kernel
theorem dX3_nextLetter_11 : decode cX3_nextLetter 11 = .ok (.aload_n 0, 1) := by decide +kernel
theorem dX3_nextLetter_12 : decode cX3_nextLetter 12 = .ok (.aload_n 0, 1) := by decide +kernel
theorem dX3_nextLetter_13 : decode cX3_nextLetter 13 = .ok (.getfield 19, 3) := by decide +kernel
theorem dX3_nextLetter_16 : decode cX3_nextLetter 16 = .ok (.invokevirtual 55, 3) := by decide +kernel
theorem dX3_nextLetter_19 : decode cX3_nextLetter 19 = .ok (.bipush 32, 2) := by decide +kernel
theorem dX3_nextLetter_21 : decode cX3_nextLetter 21 = .ok (.if_icmp .ne 16, 3) := by decide +kernel
theorem dX3_nextLetter_24 : decode cX3_nextLetter 24 = .ok (.aload_n 0, 1) := by decide +kernel
theorem dX3_nextLetter_25 : decode cX3_nextLetter 25 = .ok (.dup, 1) := by decide +kernel
theorem dX3_nextLetter_26 : decode cX3_nextLetter 26 = .ok (.getfield 19, 3) := by decide +kernel
theorem dX3_nextLetter_29 : decode cX3_nextLetter 29 = .ok (.iconst 1, 1) := by decide +kernel
theorem dX3_nextLetter_30 : decode cX3_nextLetter 30 = .ok (.iadd, 1) := by decide +kernel
theorem dX3_nextLetter_31 : decode cX3_nextLetter 31 = .ok (.putfield 19, 3) := by decide +kernel
theorem dX3_nextLetter_34 : decode cX3_nextLetter 34 = .ok (.goto (-34), 3) := by decide +kernel
theorem dX3_nextLetter_37 : decode cX3_nextLetter 37 = .ok (.aload_n 0, 1) := by decide +kernel
theorem dX3_nextLetter_38 : decode cX3_nextLetter 38 = .ok (.aload_n 0, 1) := by decide +kernel
theorem dX3_nextLetter_39 : decode cX3_nextLetter 39 = .ok (.getfield 19, 3) := by decide +kernel
theorem dX3_nextLetter_42 : decode cX3_nextLetter 42 = .ok (.invokevirtual 55, 3) := by decide +kernel
theorem dX3_nextLetter_45 : decode cX3_nextLetter 45 = .ok (.ireturn, 1) := by decide +kernel
theorem dX3_fail_0 : decode cX3_fail 0 = .ok (.aload_n 0, 1) := by decide +kernel
theorem dX3_fail_1 : decode cX3_fail 1 = .ok (.getfield 25, 3) := by decide +kernel
theorem dX3_fail_4 : decode cX3_fail 4 = .ok (.ifCond .eq 4, 3) := by decide +kernel
theorem dX3_fail_7 : decode cX3_fail 7 = .ok (.return_, 1) := by decide +kernel
theorem dX3_fail_8 : decode cX3_fail 8 = .ok (.aload_n 0, 1) := by decide +kernel
theorem dX3_fail_9 : decode cX3_fail 9 = .ok (.iload_n 1, 1) := by decide +kernel
theorem dX3_fail_10 : decode cX3_fail 10 = .ok (.putfield 25, 3) := by decide +kernel
theorem dX3_fail_13 : decode cX3_fail 13 = .ok (.aload_n 0, 1) := by decide +kernel
theorem dX3_fail_14 : decode cX3_fail 14 = .ok (.iload_n 2, 1) := by decide +kernel
theorem dX3_fail_15 : decode cX3_fail 15 = .ok (.putfield 28, 3) := by decide +kernel
theorem dX3_fail_18 : decode cX3_fail 18 = .ok (.return_, 1) := by decide +kernel
theorem dX3_readClause_0 : decode cX3_readClause 0 = .ok (.aload_n 0, 1) := by decide +kernel
theorem dX3_readClause_1 : decode cX3_readClause 1 = .ok (.aload_n 1, 1) := by decide +kernel
theorem dX3_readClause_2 : decode cX3_readClause 2 = .ok (.iload_n 2, 1) := by decide +kernel
theorem dX3_readClause_3 : decode cX3_readClause 3 = .ok (.invokevirtual 59, 3) := by decide +kernel
theorem dX3_readClause_6 : decode cX3_readClause 6 = .ok (.istore_n 3, 1) := by decide +kernel
theorem dX3_readClause_7 : decode cX3_readClause 7 = .ok (.iload_n 3, 1) := by decide +kernel
theorem dX3_readClause_8 : decode cX3_readClause 8 = .ok (.ifCond .eq 13, 3) := by decide +kernel
theorem dX3_readClause_11 : decode cX3_readClause 11 = .ok (.aload_n 0, 1) := by decide +kernel
theorem dX3_readClause_12 : decode cX3_readClause 12 = .ok (.iload_n 3, 1) := by decide +kernel
theorem dX3_readClause_13 : decode cX3_readClause 13 = .ok (.aload_n 0, 1) := by decide +kernel
theorem dX3_readClause_14 : decode cX3_readClause 14 = .ok (.getfield 19, 3) := by decide +kernel
theorem dX3_readClause_17 : decode cX3_readClause 17 = .ok (.invokevirtual 63, 3) := by decide +kernel
theorem dX3_readClause_20 : decode cX3_readClause 20 = .ok (.return_, 1) := by decide +kernel
theorem dX3_readClause_21 : decode cX3_readClause 21 = .ok (.aload_n 0, 1) := by decide +kernel
theorem dX3_readClause_22 : decode cX3_readClause 22 = .ok (.dup, 1) := by decide +kernel
theorem dX3_readClause_23 : decode cX3_readClause 23 = .ok (.getfield 19, 3) := by decide +kernel
theorem dX3_readClause_26 : decode cX3_readClause 26 = .ok (.iconst 1, 1) := by decide +kernel
theorem dX3_readClause_27 : decode cX3_readClause 27 = .ok (.iadd, 1) := by decide +kernel
theorem dX3_readClause_28 : decode cX3_readClause 28 = .ok (.putfield 19, 3) := by decide +kernel
theorem dX3_readClause_31 : decode cX3_readClause 31 = .ok (.iload_n 2, 1) := by decide +kernel
theorem dX3_readClause_32 : decode cX3_readClause 32 = .ok (.lookupswitch 112 #[(100, 76), (102, 52), (104, 60), (112, 68), (117, 94)], 52) := by decide +kernel
theorem dX3_readClause_84 : decode cX3_readClause 84 = .ok (.aload_n 0, 1) := by decide +kernel
theorem dX3_readClause_85 : decode cX3_readClause 85 = .ok (.aload_n 1, 1) := by decide +kernel
theorem dX3_readClause_86 : decode cX3_readClause 86 = .ok (.invokevirtual 67, 3) := by decide +kernel
theorem dX3_readClause_89 : decode cX3_readClause 89 = .ok (.goto 60, 3) := by decide +kernel
theorem dX3_readClause_92 : decode cX3_readClause 92 = .ok (.aload_n 0, 1) := by decide +kernel
theorem dX3_readClause_93 : decode cX3_readClause 93 = .ok (.aload_n 1, 1) := by decide +kernel
theorem dX3_readClause_94 : decode cX3_readClause 94 = .ok (.invokevirtual 71, 3) := by decide +kernel
theorem dX3_readClause_97 : decode cX3_readClause 97 = .ok (.goto 52, 3) := by decide +kernel
theorem dX3_readClause_100 : decode cX3_readClause 100 = .ok (.aload_n 0, 1) := by decide +kernel
theorem dX3_readClause_101 : decode cX3_readClause 101 = .ok (.aload_n 1, 1) := by decide +kernel
theorem dX3_readClause_102 : decode cX3_readClause 102 = .ok (.invokevirtual 74, 3) := by decide +kernel
theorem dX3_readClause_105 : decode cX3_readClause 105 = .ok (.goto 44, 3) := by decide +kernel
theorem dX3_readClause_108 : decode cX3_readClause 108 = .ok (.aload_n 0, 1) := by decide +kernel
theorem dX3_readClause_109 : decode cX3_readClause 109 = .ok (.aload_n 1, 1) := by decide +kernel
theorem dX3_readClause_110 : decode cX3_readClause 110 = .ok (.getfield 77, 3) := by decide +kernel
theorem dX3_readClause_113 : decode cX3_readClause 113 = .ok (.bipush 127, 2) := by decide +kernel
theorem dX3_readClause_115 : decode cX3_readClause 115 = .ok (.invokevirtual 80, 3) := by decide +kernel
theorem dX3_readClause_118 : decode cX3_readClause 118 = .ok (.aload_n 0, 1) := by decide +kernel
theorem dX3_readClause_119 : decode cX3_readClause 119 = .ok (.iconst 1, 1) := by decide +kernel
theorem dX3_readClause_120 : decode cX3_readClause 120 = .ok (.putfield 31, 3) := by decide +kernel
theorem dX3_readClause_123 : decode cX3_readClause 123 = .ok (.goto 26, 3) := by decide +kernel
theorem dX3_readClause_126 : decode cX3_readClause 126 = .ok (.aload_n 0, 1) := by decide +kernel
theorem dX3_readClause_127 : decode cX3_readClause 127 = .ok (.aload_n 1, 1) := by decide +kernel
theorem dX3_readClause_128 : decode cX3_readClause 128 = .ok (.getfield 84, 3) := by decide +kernel
theorem dX3_readClause_131 : decode cX3_readClause 131 = .ok (.bipush 99, 2) := by decide +kernel
theorem dX3_readClause_133 : decode cX3_readClause 133 = .ok (.invokevirtual 80, 3) := by decide +kernel
theorem dX3_readClause_136 : decode cX3_readClause 136 = .ok (.aload_n 0, 1) := by decide +kernel
theorem dX3_readClause_137 : decode cX3_readClause 137 = .ok (.iconst 1, 1) := by decide +kernel
theorem dX3_readClause_138 : decode cX3_readClause 138 = .ok (.putfield 35, 3) := by decide +kernel
theorem dX3_readClause_141 : decode cX3_readClause 141 = .ok (.goto 8, 3) := by decide +kernel
theorem dX3_readClause_144 : decode cX3_readClause 144 = .ok (.aload_n 0, 1) := by decide +kernel
theorem dX3_readClause_145 : decode cX3_readClause 145 = .ok (.aload_n 1, 1) := by decide +kernel
theorem dX3_readClause_146 : decode cX3_readClause 146 = .ok (.invokevirtual 87, 3) := by decide +kernel
theorem dX3_readClause_149 : decode cX3_readClause 149 = .ok (.return_, 1) := by decide +kernel
theorem dX3_faultOfWord_0 : decode cX3_faultOfWord 0 = .ok (.aload_n 1, 1) := by decide +kernel
theorem dX3_faultOfWord_1 : decode cX3_faultOfWord 1 = .ok (.getfield 90, 3) := by decide +kernel
theorem dX3_faultOfWord_4 : decode cX3_faultOfWord 4 = .ok (.ifCond .ne 15, 3) := by decide +kernel
theorem dX3_faultOfWord_7 : decode cX3_faultOfWord 7 = .ok (.iload_n 2, 1) := by decide +kernel
theorem dX3_faultOfWord_8 : decode cX3_faultOfWord 8 = .ok (.bipush 102, 2) := by decide +kernel
theorem dX3_faultOfWord_10 : decode cX3_faultOfWord 10 = .ok (.if_icmp .ne 7, 3) := by decide +kernel
theorem dX3_faultOfWord_13 : decode cX3_faultOfWord 13 = .ok (.iconst 0, 1) := by decide +kernel
theorem dX3_faultOfWord_14 : decode cX3_faultOfWord 14 = .ok (.goto 4, 3) := by decide +kernel
theorem dX3_faultOfWord_17 : decode cX3_faultOfWord 17 = .ok (.iconst 1, 1) := by decide +kernel
theorem dX3_faultOfWord_18 : decode cX3_faultOfWord 18 = .ok (.ireturn, 1) := by decide +kernel
theorem dX3_faultOfWord_19 : decode cX3_faultOfWord 19 = .ok (.iload_n 2, 1) := by decide +kernel
theorem dX3_faultOfWord_20 : decode cX3_faultOfWord 20 = .ok (.tableswitch 160 100 117 #[120, 160, 88, 146, 90, 160, 160, 160, 160, 160, 160, 160, 105, 160, 160, 160, 160, 133], 88) := by decide +kernel
theorem dX3_faultOfWord_108 : decode cX3_faultOfWord 108 = .ok (.iconst 3, 1) := by decide +kernel
theorem dX3_faultOfWord_109 : decode cX3_faultOfWord 109 = .ok (.ireturn, 1) := by decide +kernel
theorem dX3_faultOfWord_110 : decode cX3_faultOfWord 110 = .ok (.aload_n 1, 1) := by decide +kernel
theorem dX3_faultOfWord_111 : decode cX3_faultOfWord 111 = .ok (.getfield 93, 3) := by decide +kernel
theorem dX3_faultOfWord_114 : decode cX3_faultOfWord 114 = .ok (.bipush 12, 2) := by decide +kernel
theorem dX3_faultOfWord_116 : decode cX3_faultOfWord 116 = .ok (.if_icmp .ge 7, 3) := by decide +kernel
theorem dX3_faultOfWord_119 : decode cX3_faultOfWord 119 = .ok (.iconst 0, 1) := by decide +kernel
theorem dX3_faultOfWord_120 : decode cX3_faultOfWord 120 = .ok (.goto 4, 3) := by decide +kernel
theorem dX3_faultOfWord_123 : decode cX3_faultOfWord 123 = .ok (.iconst 3, 1) := by decide +kernel
theorem dX3_faultOfWord_124 : decode cX3_faultOfWord 124 = .ok (.ireturn, 1) := by decide +kernel
theorem dX3_faultOfWord_125 : decode cX3_faultOfWord 125 = .ok (.aload_n 1, 1) := by decide +kernel
theorem dX3_faultOfWord_126 : decode cX3_faultOfWord 126 = .ok (.getfield 96, 3) := by decide +kernel
theorem dX3_faultOfWord_129 : decode cX3_faultOfWord 129 = .ok (.bipush 6, 2) := by decide +kernel
theorem dX3_faultOfWord_131 : decode cX3_faultOfWord 131 = .ok (.if_icmp .ge 7, 3) := by decide +kernel
theorem dX3_faultOfWord_134 : decode cX3_faultOfWord 134 = .ok (.iconst 0, 1) := by decide +kernel
theorem dX3_faultOfWord_135 : decode cX3_faultOfWord 135 = .ok (.goto 4, 3) := by decide +kernel
theorem dX3_faultOfWord_138 : decode cX3_faultOfWord 138 = .ok (.iconst 3, 1) := by decide +kernel
theorem dX3_faultOfWord_139 : decode cX3_faultOfWord 139 = .ok (.ireturn, 1) := by decide +kernel
theorem dX3_faultOfWord_140 : decode cX3_faultOfWord 140 = .ok (.aload_n 0, 1) := by decide +kernel
theorem dX3_faultOfWord_141 : decode cX3_faultOfWord 141 = .ok (.getfield 31, 3) := by decide +kernel
theorem dX3_faultOfWord_144 : decode cX3_faultOfWord 144 = .ok (.ifCond .eq 7, 3) := by decide +kernel
theorem dX3_faultOfWord_147 : decode cX3_faultOfWord 147 = .ok (.iconst 3, 1) := by decide +kernel
theorem dX3_faultOfWord_148 : decode cX3_faultOfWord 148 = .ok (.goto 4, 3) := by decide +kernel
theorem dX3_faultOfWord_151 : decode cX3_faultOfWord 151 = .ok (.iconst 0, 1) := by decide +kernel
theorem dX3_faultOfWord_152 : decode cX3_faultOfWord 152 = .ok (.ireturn, 1) := by decide +kernel
theorem dX3_faultOfWord_153 : decode cX3_faultOfWord 153 = .ok (.aload_n 0, 1) := by decide +kernel
theorem dX3_faultOfWord_154 : decode cX3_faultOfWord 154 = .ok (.getfield 35, 3) := by decide +kernel
theorem dX3_faultOfWord_157 : decode cX3_faultOfWord 157 = .ok (.ifCond .eq 7, 3) := by decide +kernel
theorem dX3_faultOfWord_160 : decode cX3_faultOfWord 160 = .ok (.iconst 3, 1) := by decide +kernel
theorem dX3_faultOfWord_161 : decode cX3_faultOfWord 161 = .ok (.goto 4, 3) := by decide +kernel
theorem dX3_faultOfWord_164 : decode cX3_faultOfWord 164 = .ok (.iconst 0, 1) := by decide +kernel
theorem dX3_faultOfWord_165 : decode cX3_faultOfWord 165 = .ok (.ireturn, 1) := by decide +kernel
theorem dX3_faultOfWord_166 : decode cX3_faultOfWord 166 = .ok (.aload_n 1, 1) := by decide +kernel
theorem dX3_faultOfWord_167 : decode cX3_faultOfWord 167 = .ok (.getfield 99, 3) := by decide +kernel
theorem dX3_faultOfWord_170 : decode cX3_faultOfWord 170 = .ok (.iconst 4, 1) := by decide +kernel
theorem dX3_faultOfWord_171 : decode cX3_faultOfWord 171 = .ok (.if_icmp .ge 7, 3) := by decide +kernel
theorem dX3_faultOfWord_174 : decode cX3_faultOfWord 174 = .ok (.iconst 0, 1) := by decide +kernel
theorem dX3_faultOfWord_175 : decode cX3_faultOfWord 175 = .ok (.goto 4, 3) := by decide +kernel
theorem dX3_faultOfWord_178 : decode cX3_faultOfWord 178 = .ok (.iconst 3, 1) := by decide +kernel
theorem dX3_faultOfWord_179 : decode cX3_faultOfWord 179 = .ok (.ireturn, 1) := by decide +kernel
theorem dX3_faultOfWord_180 : decode cX3_faultOfWord 180 = .ok (.iconst 1, 1) := by decide +kernel
theorem dX3_faultOfWord_181 : decode cX3_faultOfWord 181 = .ok (.ireturn, 1) := by decide +kernel
theorem dX3_readCells_0 : decode cX3_readCells 0 = .ok (.aload_n 0, 1) := by decide +kernel
theorem dX3_readCells_1 : decode cX3_readCells 1 = .ok (.iconst 1, 1) := by decide +kernel
theorem dX3_readCells_2 : decode cX3_readCells 2 = .ok (.bipush 12, 2) := by decide +kernel
theorem dX3_readCells_4 : decode cX3_readCells 4 = .ok (.invokevirtual 102, 3) := by decide +kernel
theorem dX3_readCells_7 : decode cX3_readCells 7 = .ok (.istore_n 2, 1) := by decide +kernel
theorem dX3_readCells_8 : decode cX3_readCells 8 = .ok (.aload_n 0, 1) := by decide +kernel
theorem dX3_readCells_9 : decode cX3_readCells 9 = .ok (.iconst 0, 1) := by decide +kernel
theorem dX3_readCells_10 : decode cX3_readCells 10 = .ok (.bipush 20, 2) := by decide +kernel
theorem dX3_readCells_12 : decode cX3_readCells 12 = .ok (.invokevirtual 102, 3) := by decide +kernel
theorem dX3_readCells_15 : decode cX3_readCells 15 = .ok (.istore_n 3, 1) := by decide +kernel
theorem dX3_readCells_16 : decode cX3_readCells 16 = .ok (.aload_n 0, 1) := by decide +kernel
theorem dX3_readCells_17 : decode cX3_readCells 17 = .ok (.invokevirtual 106, 3) := by decide +kernel
theorem dX3_readCells_20 : decode cX3_readCells 20 = .ok (.aload_n 1, 1) := by decide +kernel
theorem dX3_readCells_21 : decode cX3_readCells 21 = .ok (.iload_n 2, 1) := by decide +kernel
theorem dX3_readCells_22 : decode cX3_readCells 22 = .ok (.putfield 90, 3) := by decide +kernel
theorem dX3_readCells_25 : decode cX3_readCells 25 = .ok (.aload_n 1, 1) := by decide +kernel
theorem dX3_readCells_26 : decode cX3_readCells 26 = .ok (.iload_n 3, 1) := by decide +kernel
theorem dX3_readCells_27 : decode cX3_readCells 27 = .ok (.putfield 109, 3) := by decide +kernel
theorem dX3_readCells_30 : decode cX3_readCells 30 = .ok (.return_, 1) := by decide +kernel
theorem dX3_readHour_0 : decode cX3_readHour 0 = .ok (.aload_n 0, 1) := by decide +kernel
theorem dX3_readHour_1 : decode cX3_readHour 1 = .ok (.iconst 0, 1) := by decide +kernel
theorem dX3_readHour_2 : decode cX3_readHour 2 = .ok (.iconst 1, 1) := by decide +kernel
theorem dX3_readHour_3 : decode cX3_readHour 3 = .ok (.invokevirtual 102, 3) := by decide +kernel
theorem dX3_readHour_6 : decode cX3_readHour 6 = .ok (.istore_n 2, 1) := by decide +kernel
theorem dX3_readHour_7 : decode cX3_readHour 7 = .ok (.aload_n 0, 1) := by decide +kernel
theorem dX3_readHour_8 : decode cX3_readHour 8 = .ok (.iconst 0, 1) := by decide +kernel
theorem dX3_readHour_9 : decode cX3_readHour 9 = .ok (.bipush 40, 2) := by decide +kernel
theorem dX3_readHour_11 : decode cX3_readHour 11 = .ok (.invokevirtual 102, 3) := by decide +kernel
theorem dX3_readHour_14 : decode cX3_readHour 14 = .ok (.istore_n 3, 1) := by decide +kernel
theorem dX3_readHour_15 : decode cX3_readHour 15 = .ok (.aload_n 0, 1) := by decide +kernel
theorem dX3_readHour_16 : decode cX3_readHour 16 = .ok (.invokevirtual 106, 3) := by decide +kernel
theorem dX3_readHour_19 : decode cX3_readHour 19 = .ok (.aload_n 1, 1) := by decide +kernel
theorem dX3_readHour_20 : decode cX3_readHour 20 = .ok (.getfield 112, 3) := by decide +kernel
theorem dX3_readHour_23 : decode cX3_readHour 23 = .ok (.aload_n 1, 1) := by decide +kernel
theorem dX3_readHour_24 : decode cX3_readHour 24 = .ok (.getfield 93, 3) := by decide +kernel
theorem dX3_readHour_27 : decode cX3_readHour 27 = .ok (.iload_n 2, 1) := by decide +kernel
theorem dX3_readHour_28 : decode cX3_readHour 28 = .ok (.invokestatic 38, 3) := by decide +kernel
theorem dX3_readHour_31 : decode cX3_readHour 31 = .ok (.aload_n 1, 1) := by decide +kernel
theorem dX3_readHour_32 : decode cX3_readHour 32 = .ok (.getfield 115, 3) := by decide +kernel
theorem dX3_readHour_35 : decode cX3_readHour 35 = .ok (.aload_n 1, 1) := by decide +kernel
theorem dX3_readHour_36 : decode cX3_readHour 36 = .ok (.getfield 93, 3) := by decide +kernel
theorem dX3_readHour_39 : decode cX3_readHour 39 = .ok (.iload_n 3, 1) := by decide +kernel
theorem dX3_readHour_40 : decode cX3_readHour 40 = .ok (.invokestatic 38, 3) := by decide +kernel
theorem dX3_readHour_43 : decode cX3_readHour 43 = .ok (.aload_n 1, 1) := by decide +kernel
theorem dX3_readHour_44 : decode cX3_readHour 44 = .ok (.dup, 1) := by decide +kernel
theorem dX3_readHour_45 : decode cX3_readHour 45 = .ok (.getfield 93, 3) := by decide +kernel
theorem dX3_readHour_48 : decode cX3_readHour 48 = .ok (.iconst 1, 1) := by decide +kernel
theorem dX3_readHour_49 : decode cX3_readHour 49 = .ok (.iadd, 1) := by decide +kernel
theorem dX3_readHour_50 : decode cX3_readHour 50 = .ok (.putfield 93, 3) := by decide +kernel
theorem dX3_readHour_53 : decode cX3_readHour 53 = .ok (.return_, 1) := by decide +kernel
theorem dX3_readPost_0 : decode cX3_readPost 0 = .ok (.aload_n 0, 1) := by decide +kernel
theorem dX3_readPost_1 : decode cX3_readPost 1 = .ok (.iconst 0, 1) := by decide +kernel
theorem dX3_readPost_2 : decode cX3_readPost 2 = .ok (.aload_n 1, 1) := by decide +kernel
theorem dX3_readPost_3 : decode cX3_readPost 3 = .ok (.getfield 90, 3) := by decide +kernel
theorem dX3_readPost_6 : decode cX3_readPost 6 = .ok (.iconst 1, 1) := by decide +kernel
theorem dX3_readPost_7 : decode cX3_readPost 7 = .ok (.isub, 1) := by decide +kernel
theorem dX3_readPost_8 : decode cX3_readPost 8 = .ok (.invokevirtual 102, 3) := by decide +kernel
theorem dX3_readPost_11 : decode cX3_readPost 11 = .ok (.istore_n 2, 1) := by decide +kernel
theorem dX3_readPost_12 : decode cX3_readPost 12 = .ok (.aload_n 1, 1) := by decide +kernel
theorem dX3_readPost_13 : decode cX3_readPost 13 = .ok (.iload_n 2, 1) := by decide +kernel
theorem dX3_readPost_14 : decode cX3_readPost 14 = .ok (.invokevirtual 118, 3) := by decide +kernel
theorem dX3_readPost_17 : decode cX3_readPost 17 = .ok (.ifCond .eq 12, 3) := by decide +kernel
theorem dX3_readPost_20 : decode cX3_readPost 20 = .ok (.aload_n 0, 1) := by decide +kernel
theorem dX3_readPost_21 : decode cX3_readPost 21 = .ok (.iconst 4, 1) := by decide +kernel
theorem dX3_readPost_22 : decode cX3_readPost 22 = .ok (.aload_n 0, 1) := by decide +kernel
theorem dX3_readPost_23 : decode cX3_readPost 23 = .ok (.getfield 22, 3) := by decide +kernel
theorem dX3_readPost_26 : decode cX3_readPost 26 = .ok (.invokevirtual 63, 3) := by decide +kernel
theorem dX3_readPost_29 : decode cX3_readPost 29 = .ok (.aload_n 0, 1) := by decide +kernel
theorem dX3_readPost_30 : decode cX3_readPost 30 = .ok (.iconst 0, 1) := by decide +kernel
theorem dX3_readPost_31 : decode cX3_readPost 31 = .ok (.bipush 9, 2) := by decide +kernel
theorem dX3_readPost_33 : decode cX3_readPost 33 = .ok (.invokevirtual 102, 3) := by decide +kernel
theorem dX3_readPost_36 : decode cX3_readPost 36 = .ok (.istore_n 3, 1) := by decide +kernel
theorem dX3_readPost_37 : decode cX3_readPost 37 = .ok (.aload_n 0, 1) := by decide +kernel
theorem dX3_readPost_38 : decode cX3_readPost 38 = .ok (.iconst 1, 1) := by decide +kernel
theorem dX3_readPost_39 : decode cX3_readPost 39 = .ok (.bipush 99, 2) := by decide +kernel
theorem dX3_readPost_41 : decode cX3_readPost 41 = .ok (.invokevirtual 102, 3) := by decide +kernel
theorem dX3_readPost_44 : decode cX3_readPost 44 = .ok (.istore 4, 2) := by decide +kernel
theorem dX3_readPost_46 : decode cX3_readPost 46 = .ok (.aload_n 0, 1) := by decide +kernel
theorem dX3_readPost_47 : decode cX3_readPost 47 = .ok (.iconst 0, 1) := by decide +kernel
theorem dX3_readPost_48 : decode cX3_readPost 48 = .ok (.iconst 1, 1) := by decide +kernel
theorem dX3_readPost_49 : decode cX3_readPost 49 = .ok (.invokevirtual 102, 3) := by decide +kernel
theorem dX3_readPost_52 : decode cX3_readPost 52 = .ok (.istore 5, 2) := by decide +kernel
theorem dX3_readPost_54 : decode cX3_readPost 54 = .ok (.aload_n 0, 1) := by decide +kernel
theorem dX3_readPost_55 : decode cX3_readPost 55 = .ok (.invokevirtual 106, 3) := by decide +kernel
theorem dX3_readPost_58 : decode cX3_readPost 58 = .ok (.aload_n 1, 1) := by decide +kernel
theorem dX3_readPost_59 : decode cX3_readPost 59 = .ok (.getfield 122, 3) := by decide +kernel
theorem dX3_readPost_62 : decode cX3_readPost 62 = .ok (.aload_n 1, 1) := by decide +kernel
theorem dX3_readPost_63 : decode cX3_readPost 63 = .ok (.getfield 96, 3) := by decide +kernel
theorem dX3_readPost_66 : decode cX3_readPost 66 = .ok (.iload_n 2, 1) := by decide +kernel
theorem dX3_readPost_67 : decode cX3_readPost 67 = .ok (.invokestatic 38, 3) := by decide +kernel
theorem dX3_readPost_70 : decode cX3_readPost 70 = .ok (.aload_n 1, 1) := by decide +kernel
theorem dX3_readPost_71 : decode cX3_readPost 71 = .ok (.getfield 125, 3) := by decide +kernel
theorem dX3_readPost_74 : decode cX3_readPost 74 = .ok (.aload_n 1, 1) := by decide +kernel
theorem dX3_readPost_75 : decode cX3_readPost 75 = .ok (.getfield 96, 3) := by decide +kernel
theorem dX3_readPost_78 : decode cX3_readPost 78 = .ok (.iload_n 3, 1) := by decide +kernel
theorem dX3_readPost_79 : decode cX3_readPost 79 = .ok (.invokestatic 38, 3) := by decide +kernel
theorem dX3_readPost_82 : decode cX3_readPost 82 = .ok (.aload_n 1, 1) := by decide +kernel
theorem dX3_readPost_83 : decode cX3_readPost 83 = .ok (.getfield 128, 3) := by decide +kernel
theorem dX3_readPost_86 : decode cX3_readPost 86 = .ok (.aload_n 1, 1) := by decide +kernel
theorem dX3_readPost_87 : decode cX3_readPost 87 = .ok (.getfield 96, 3) := by decide +kernel
theorem dX3_readPost_90 : decode cX3_readPost 90 = .ok (.iload 4, 2) := by decide +kernel
theorem dX3_readPost_92 : decode cX3_readPost 92 = .ok (.invokestatic 38, 3) := by decide +kernel
theorem dX3_readPost_95 : decode cX3_readPost 95 = .ok (.aload_n 1, 1) := by decide +kernel
theorem dX3_readPost_96 : decode cX3_readPost 96 = .ok (.getfield 131, 3) := by decide +kernel
theorem dX3_readPost_99 : decode cX3_readPost 99 = .ok (.aload_n 1, 1) := by decide +kernel
theorem dX3_readPost_100 : decode cX3_readPost 100 = .ok (.getfield 96, 3) := by decide +kernel
theorem dX3_readPost_103 : decode cX3_readPost 103 = .ok (.iload 5, 2) := by decide +kernel
theorem dX3_readPost_105 : decode cX3_readPost 105 = .ok (.invokestatic 38, 3) := by decide +kernel
theorem dX3_readPost_108 : decode cX3_readPost 108 = .ok (.aload_n 1, 1) := by decide +kernel
theorem dX3_readPost_109 : decode cX3_readPost 109 = .ok (.dup, 1) := by decide +kernel
theorem dX3_readPost_110 : decode cX3_readPost 110 = .ok (.getfield 96, 3) := by decide +kernel
theorem dX3_readPost_113 : decode cX3_readPost 113 = .ok (.iconst 1, 1) := by decide +kernel
theorem dX3_readPost_114 : decode cX3_readPost 114 = .ok (.iadd, 1) := by decide +kernel
theorem dX3_readPost_115 : decode cX3_readPost 115 = .ok (.putfield 96, 3) := by decide +kernel
theorem dX3_readPost_118 : decode cX3_readPost 118 = .ok (.return_, 1) := by decide +kernel
theorem dX3_readPair_0 : decode cX3_readPair 0 = .ok (.aload_n 1, 1) := by decide +kernel
theorem dX3_readPair_1 : decode cX3_readPair 1 = .ok (.iconst 0, 1) := by decide +kernel
theorem dX3_readPair_2 : decode cX3_readPair 2 = .ok (.aload_n 0, 1) := by decide +kernel
theorem dX3_readPair_3 : decode cX3_readPair 3 = .ok (.iconst 0, 1) := by decide +kernel
theorem dX3_readPair_4 : decode cX3_readPair 4 = .ok (.iload_n 2, 1) := by decide +kernel
theorem dX3_readPair_5 : decode cX3_readPair 5 = .ok (.invokevirtual 102, 3) := by decide +kernel
theorem dX3_readPair_8 : decode cX3_readPair 8 = .ok (.invokestatic 38, 3) := by decide +kernel
theorem dX3_readPair_11 : decode cX3_readPair 11 = .ok (.aload_n 1, 1) := by decide +kernel
theorem dX3_readPair_12 : decode cX3_readPair 12 = .ok (.iconst 1, 1) := by decide +kernel
theorem dX3_readPair_13 : decode cX3_readPair 13 = .ok (.aload_n 0, 1) := by decide +kernel
theorem dX3_readPair_14 : decode cX3_readPair 14 = .ok (.iconst 0, 1) := by decide +kernel
theorem dX3_readPair_15 : decode cX3_readPair 15 = .ok (.iload_n 2, 1) := by decide +kernel
theorem dX3_readPair_16 : decode cX3_readPair 16 = .ok (.invokevirtual 102, 3) := by decide +kernel
theorem dX3_readPair_19 : decode cX3_readPair 19 = .ok (.invokestatic 38, 3) := by decide +kernel
theorem dX3_readPair_22 : decode cX3_readPair 22 = .ok (.aload_n 0, 1) := by decide +kernel
theorem dX3_readPair_23 : decode cX3_readPair 23 = .ok (.invokevirtual 106, 3) := by decide +kernel
theorem dX3_readPair_26 : decode cX3_readPair 26 = .ok (.return_, 1) := by decide +kernel
theorem dX3_readGoat_0 : decode cX3_readGoat 0 = .ok (.aload_n 0, 1) := by decide +kernel
theorem dX3_readGoat_1 : decode cX3_readGoat 1 = .ok (.iconst 0, 1) := by decide +kernel
theorem dX3_readGoat_2 : decode cX3_readGoat 2 = .ok (.aload_n 1, 1) := by decide +kernel
theorem dX3_readGoat_3 : decode cX3_readGoat 3 = .ok (.getfield 90, 3) := by decide +kernel
theorem dX3_readGoat_6 : decode cX3_readGoat 6 = .ok (.iconst 1, 1) := by decide +kernel
theorem dX3_readGoat_7 : decode cX3_readGoat 7 = .ok (.isub, 1) := by decide +kernel
theorem dX3_readGoat_8 : decode cX3_readGoat 8 = .ok (.invokevirtual 102, 3) := by decide +kernel
theorem dX3_readGoat_11 : decode cX3_readGoat 11 = .ok (.istore_n 2, 1) := by decide +kernel
theorem dX3_readGoat_12 : decode cX3_readGoat 12 = .ok (.aload_n 0, 1) := by decide +kernel
theorem dX3_readGoat_13 : decode cX3_readGoat 13 = .ok (.iconst 1, 1) := by decide +kernel
theorem dX3_readGoat_14 : decode cX3_readGoat 14 = .ok (.bipush 20, 2) := by decide +kernel
theorem dX3_readGoat_16 : decode cX3_readGoat 16 = .ok (.invokevirtual 102, 3) := by decide +kernel
theorem dX3_readGoat_19 : decode cX3_readGoat 19 = .ok (.istore_n 3, 1) := by decide +kernel
theorem dX3_readGoat_20 : decode cX3_readGoat 20 = .ok (.aload_n 0, 1) := by decide +kernel
theorem dX3_readGoat_21 : decode cX3_readGoat 21 = .ok (.invokevirtual 106, 3) := by decide +kernel
theorem dX3_readGoat_24 : decode cX3_readGoat 24 = .ok (.aload_n 1, 1) := by decide +kernel
theorem dX3_readGoat_25 : decode cX3_readGoat 25 = .ok (.getfield 134, 3) := by decide +kernel
theorem dX3_readGoat_28 : decode cX3_readGoat 28 = .ok (.aload_n 1, 1) := by decide +kernel
theorem dX3_readGoat_29 : decode cX3_readGoat 29 = .ok (.getfield 99, 3) := by decide +kernel
theorem dX3_readGoat_32 : decode cX3_readGoat 32 = .ok (.iload_n 2, 1) := by decide +kernel
theorem dX3_readGoat_33 : decode cX3_readGoat 33 = .ok (.invokestatic 38, 3) := by decide +kernel
theorem dX3_readGoat_36 : decode cX3_readGoat 36 = .ok (.aload_n 1, 1) := by decide +kernel
theorem dX3_readGoat_37 : decode cX3_readGoat 37 = .ok (.getfield 137, 3) := by decide +kernel
theorem dX3_readGoat_40 : decode cX3_readGoat 40 = .ok (.aload_n 1, 1) := by decide +kernel
theorem dX3_readGoat_41 : decode cX3_readGoat 41 = .ok (.getfield 99, 3) := by decide +kernel
theorem dX3_readGoat_44 : decode cX3_readGoat 44 = .ok (.iload_n 3, 1) := by decide +kernel
theorem dX3_readGoat_45 : decode cX3_readGoat 45 = .ok (.invokestatic 38, 3) := by decide +kernel
theorem dX3_readGoat_48 : decode cX3_readGoat 48 = .ok (.aload_n 1, 1) := by decide +kernel
theorem dX3_readGoat_49 : decode cX3_readGoat 49 = .ok (.dup, 1) := by decide +kernel
theorem dX3_readGoat_50 : decode cX3_readGoat 50 = .ok (.getfield 99, 3) := by decide +kernel
theorem dX3_readGoat_53 : decode cX3_readGoat 53 = .ok (.iconst 1, 1) := by decide +kernel
theorem dX3_readGoat_54 : decode cX3_readGoat 54 = .ok (.iadd, 1) := by decide +kernel
theorem dX3_readGoat_55 : decode cX3_readGoat 55 = .ok (.putfield 99, 3) := by decide +kernel
theorem dX3_readGoat_58 : decode cX3_readGoat 58 = .ok (.return_, 1) := by decide +kernel
theorem dX3_readNumber_0 : decode cX3_readNumber 0 = .ok (.aload_n 0, 1) := by decide +kernel
theorem dX3_readNumber_1 : decode cX3_readNumber 1 = .ok (.getfield 25, 3) := by decide +kernel
theorem dX3_readNumber_4 : decode cX3_readNumber 4 = .ok (.ifCond .eq 5, 3) := by decide +kernel
theorem dX3_readNumber_7 : decode cX3_readNumber 7 = .ok (.iload_n 1, 1) := by decide +kernel
theorem dX3_readNumber_8 : decode cX3_readNumber 8 = .ok (.ireturn, 1) := by decide +kernel
theorem dX3_readNumber_9 : decode cX3_readNumber 9 = .ok (.aload_n 0, 1) := by decide +kernel
theorem dX3_readNumber_10 : decode cX3_readNumber 10 = .ok (.invokevirtual 47, 3) := by decide +kernel
theorem dX3_readNumber_13 : decode cX3_readNumber 13 = .ok (.istore_n 3, 1) := by decide +kernel
theorem dX3_readNumber_14 : decode cX3_readNumber 14 = .ok (.aload_n 0, 1) := by decide +kernel
theorem dX3_readNumber_15 : decode cX3_readNumber 15 = .ok (.aload_n 0, 1) := by decide +kernel
theorem dX3_readNumber_16 : decode cX3_readNumber 16 = .ok (.getfield 19, 3) := by decide +kernel
theorem dX3_readNumber_19 : decode cX3_readNumber 19 = .ok (.putfield 22, 3) := by decide +kernel
theorem dX3_readNumber_22 : decode cX3_readNumber 22 = .ok (.iconst 0, 1) := by decide +kernel
theorem dX3_readNumber_23 : decode cX3_readNumber 23 = .ok (.istore 4, 2) := by decide +kernel
theorem dX3_readNumber_25 : decode cX3_readNumber 25 = .ok (.iconst 0, 1) := by decide +kernel
theorem dX3_readNumber_26 : decode cX3_readNumber 26 = .ok (.istore 5, 2) := by decide +kernel
theorem dX3_readNumber_28 : decode cX3_readNumber 28 = .ok (.aload_n 0, 1) := by decide +kernel
theorem dX3_readNumber_29 : decode cX3_readNumber 29 = .ok (.getfield 19, 3) := by decide +kernel
theorem dX3_readNumber_32 : decode cX3_readNumber 32 = .ok (.aload_n 0, 1) := by decide +kernel
theorem dX3_readNumber_33 : decode cX3_readNumber 33 = .ok (.getfield 15, 3) := by decide +kernel
theorem dX3_readNumber_36 : decode cX3_readNumber 36 = .ok (.if_icmp .ge 57, 3) := by decide +kernel
theorem dX3_readNumber_39 : decode cX3_readNumber 39 = .ok (.iload_n 3, 1) := by decide +kernel
theorem dX3_readNumber_40 : decode cX3_readNumber 40 = .ok (.bipush 48, 2) := by decide +kernel
theorem dX3_readNumber_42 : decode cX3_readNumber 42 = .ok (.bipush 57, 2) := by decide +kernel
theorem dX3_readNumber_44 : decode cX3_readNumber 44 = .ok (.invokestatic 140, 3) := by decide +kernel
theorem dX3_readNumber_47 : decode cX3_readNumber 47 = .ok (.ifCond .eq 46, 3) := by decide +kernel
theorem dX3_readNumber_50 : decode cX3_readNumber 50 = .ok (.iload 4, 2) := by decide +kernel
theorem dX3_readNumber_52 : decode cX3_readNumber 52 = .ok (.iconst 3, 1) := by decide +kernel
theorem dX3_readNumber_53 : decode cX3_readNumber 53 = .ok (.if_icmp .ge 15, 3) := by decide +kernel
theorem dX3_readNumber_56 : decode cX3_readNumber 56 = .ok (.bipush 10, 2) := by decide +kernel
theorem dX3_readNumber_58 : decode cX3_readNumber 58 = .ok (.iload 5, 2) := by decide +kernel
theorem dX3_readNumber_60 : decode cX3_readNumber 60 = .ok (.imul, 1) := by decide +kernel
theorem dX3_readNumber_61 : decode cX3_readNumber 61 = .ok (.iload_n 3, 1) := by decide +kernel
theorem dX3_readNumber_62 : decode cX3_readNumber 62 = .ok (.iadd, 1) := by decide +kernel
theorem dX3_readNumber_63 : decode cX3_readNumber 63 = .ok (.bipush 48, 2) := by decide +kernel
theorem dX3_readNumber_65 : decode cX3_readNumber 65 = .ok (.isub, 1) := by decide +kernel
theorem dX3_readNumber_66 : decode cX3_readNumber 66 = .ok (.istore 5, 2) := by decide +kernel
theorem dX3_readNumber_68 : decode cX3_readNumber 68 = .ok (.iinc 4 1, 3) := by decide +kernel
theorem dX3_readNumber_71 : decode cX3_readNumber 71 = .ok (.aload_n 0, 1) := by decide +kernel
theorem dX3_readNumber_72 : decode cX3_readNumber 72 = .ok (.dup, 1) := by decide +kernel
theorem dX3_readNumber_73 : decode cX3_readNumber 73 = .ok (.getfield 19, 3) := by decide +kernel
theorem dX3_readNumber_76 : decode cX3_readNumber 76 = .ok (.iconst 1, 1) := by decide +kernel
theorem dX3_readNumber_77 : decode cX3_readNumber 77 = .ok (.iadd, 1) := by decide +kernel
theorem dX3_readNumber_78 : decode cX3_readNumber 78 = .ok (.putfield 19, 3) := by decide +kernel
theorem dX3_readNumber_81 : decode cX3_readNumber 81 = .ok (.aload_n 0, 1) := by decide +kernel
theorem dX3_readNumber_82 : decode cX3_readNumber 82 = .ok (.aload_n 0, 1) := by decide +kernel
theorem dX3_readNumber_83 : decode cX3_readNumber 83 = .ok (.getfield 19, 3) := by decide +kernel
theorem dX3_readNumber_86 : decode cX3_readNumber 86 = .ok (.invokevirtual 55, 3) := by decide +kernel
theorem dX3_readNumber_89 : decode cX3_readNumber 89 = .ok (.istore_n 3, 1) := by decide +kernel
theorem dX3_readNumber_90 : decode cX3_readNumber 90 = .ok (.goto (-62), 3) := by decide +kernel
theorem dX3_readNumber_93 : decode cX3_readNumber 93 = .ok (.iload 4, 2) := by decide +kernel
theorem dX3_readNumber_95 : decode cX3_readNumber 95 = .ok (.ifCond .ne 15, 3) := by decide +kernel
theorem dX3_readNumber_98 : decode cX3_readNumber 98 = .ok (.aload_n 0, 1) := by decide +kernel
theorem dX3_readNumber_99 : decode cX3_readNumber 99 = .ok (.iconst 1, 1) := by decide +kernel
theorem dX3_readNumber_100 : decode cX3_readNumber 100 = .ok (.aload_n 0, 1) := by decide +kernel
theorem dX3_readNumber_101 : decode cX3_readNumber 101 = .ok (.getfield 22, 3) := by decide +kernel
theorem dX3_readNumber_104 : decode cX3_readNumber 104 = .ok (.invokevirtual 63, 3) := by decide +kernel
theorem dX3_readNumber_107 : decode cX3_readNumber 107 = .ok (.goto 28, 3) := by decide +kernel
theorem dX3_readNumber_110 : decode cX3_readNumber 110 = .ok (.iload 4, 2) := by decide +kernel
theorem dX3_readNumber_112 : decode cX3_readNumber 112 = .ok (.iconst 3, 1) := by decide +kernel
theorem dX3_readNumber_113 : decode cX3_readNumber 113 = .ok (.if_icmp .gt 13, 3) := by decide +kernel
theorem dX3_readNumber_116 : decode cX3_readNumber 116 = .ok (.iload 5, 2) := by decide +kernel
theorem dX3_readNumber_118 : decode cX3_readNumber 118 = .ok (.iload_n 1, 1) := by decide +kernel
theorem dX3_readNumber_119 : decode cX3_readNumber 119 = .ok (.iload_n 2, 1) := by decide +kernel
theorem dX3_readNumber_120 : decode cX3_readNumber 120 = .ok (.invokestatic 140, 3) := by decide +kernel
theorem dX3_readNumber_123 : decode cX3_readNumber 123 = .ok (.ifCond .ne 12, 3) := by decide +kernel
theorem dX3_readNumber_126 : decode cX3_readNumber 126 = .ok (.aload_n 0, 1) := by decide +kernel
theorem dX3_readNumber_127 : decode cX3_readNumber 127 = .ok (.iconst 2, 1) := by decide +kernel
theorem dX3_readNumber_128 : decode cX3_readNumber 128 = .ok (.aload_n 0, 1) := by decide +kernel
theorem dX3_readNumber_129 : decode cX3_readNumber 129 = .ok (.getfield 22, 3) := by decide +kernel
theorem dX3_readNumber_132 : decode cX3_readNumber 132 = .ok (.invokevirtual 63, 3) := by decide +kernel
theorem dX3_readNumber_135 : decode cX3_readNumber 135 = .ok (.iload 5, 2) := by decide +kernel
theorem dX3_readNumber_137 : decode cX3_readNumber 137 = .ok (.ireturn, 1) := by decide +kernel
theorem dX3_readEnd_0 : decode cX3_readEnd 0 = .ok (.aload_n 0, 1) := by decide +kernel
theorem dX3_readEnd_1 : decode cX3_readEnd 1 = .ok (.getfield 25, 3) := by decide +kernel
theorem dX3_readEnd_4 : decode cX3_readEnd 4 = .ok (.ifCond .eq 4, 3) := by decide +kernel
theorem dX3_readEnd_7 : decode cX3_readEnd 7 = .ok (.return_, 1) := by decide +kernel
theorem dX3_readEnd_8 : decode cX3_readEnd 8 = .ok (.aload_n 0, 1) := by decide +kernel
theorem dX3_readEnd_9 : decode cX3_readEnd 9 = .ok (.invokevirtual 47, 3) := by decide +kernel
theorem dX3_readEnd_12 : decode cX3_readEnd 12 = .ok (.bipush 59, 2) := by decide +kernel
theorem dX3_readEnd_14 : decode cX3_readEnd 14 = .ok (.if_icmp .ne 16, 3) := by decide +kernel
theorem dX3_readEnd_17 : decode cX3_readEnd 17 = .ok (.aload_n 0, 1) := by decide +kernel
theorem dX3_readEnd_18 : decode cX3_readEnd 18 = .ok (.dup, 1) := by decide +kernel
theorem dX3_readEnd_19 : decode cX3_readEnd 19 = .ok (.getfield 19, 3) := by decide +kernel
theorem dX3_readEnd_22 : decode cX3_readEnd 22 = .ok (.iconst 1, 1) := by decide +kernel
theorem dX3_readEnd_23 : decode cX3_readEnd 23 = .ok (.iadd, 1) := by decide +kernel
theorem dX3_readEnd_24 : decode cX3_readEnd 24 = .ok (.putfield 19, 3) := by decide +kernel
theorem dX3_readEnd_27 : decode cX3_readEnd 27 = .ok (.goto 12, 3) := by decide +kernel
theorem dX3_readEnd_30 : decode cX3_readEnd 30 = .ok (.aload_n 0, 1) := by decide +kernel
theorem dX3_readEnd_31 : decode cX3_readEnd 31 = .ok (.iconst 1, 1) := by decide +kernel
theorem dX3_readEnd_32 : decode cX3_readEnd 32 = .ok (.aload_n 0, 1) := by decide +kernel
theorem dX3_readEnd_33 : decode cX3_readEnd 33 = .ok (.getfield 19, 3) := by decide +kernel
theorem dX3_readEnd_36 : decode cX3_readEnd 36 = .ok (.invokevirtual 63, 3) := by decide +kernel
theorem dX3_readEnd_39 : decode cX3_readEnd 39 = .ok (.return_, 1) := by decide +kernel
theorem dX4_init_0 : decode cX4_init 0 = .ok (.aload_n 0, 1) := by decide +kernel
theorem dX4_init_1 : decode cX4_init 1 = .ok (.invokespecial 3, 3) := by decide +kernel
theorem dX4_init_4 : decode cX4_init 4 = .ok (.aload_n 0, 1) := by decide +kernel
theorem dX4_init_5 : decode cX4_init 5 = .ok (.iconst 0, 1) := by decide +kernel
theorem dX4_init_6 : decode cX4_init 6 = .ok (.putfield 9, 3) := by decide +kernel
theorem dX4_init_9 : decode cX4_init 9 = .ok (.aload_n 0, 1) := by decide +kernel
theorem dX4_init_10 : decode cX4_init 10 = .ok (.iconst 0, 1) := by decide +kernel
theorem dX4_init_11 : decode cX4_init 11 = .ok (.putfield 15, 3) := by decide +kernel
theorem dX4_init_14 : decode cX4_init 14 = .ok (.aload_n 0, 1) := by decide +kernel
theorem dX4_init_15 : decode cX4_init 15 = .ok (.iconst 0, 1) := by decide +kernel
theorem dX4_init_16 : decode cX4_init 16 = .ok (.putfield 18, 3) := by decide +kernel
theorem dX4_init_19 : decode cX4_init 19 = .ok (.aload_n 0, 1) := by decide +kernel
theorem dX4_init_20 : decode cX4_init 20 = .ok (.iconst 0, 1) := by decide +kernel
theorem dX4_init_21 : decode cX4_init 21 = .ok (.putfield 22, 3) := by decide +kernel
theorem dX4_init_24 : decode cX4_init 24 = .ok (.aload_n 0, 1) := by decide +kernel
theorem dX4_init_25 : decode cX4_init 25 = .ok (.iconst 0, 1) := by decide +kernel
theorem dX4_init_26 : decode cX4_init 26 = .ok (.putfield 25, 3) := by decide +kernel
theorem dX4_init_29 : decode cX4_init 29 = .ok (.aload_n 0, 1) := by decide +kernel
theorem dX4_init_30 : decode cX4_init 30 = .ok (.bipush 6, 2) := by decide +kernel
theorem dX4_init_32 : decode cX4_init 32 = .ok (.newarray .int, 2) := by decide +kernel
theorem dX4_init_34 : decode cX4_init 34 = .ok (.putfield 28, 3) := by decide +kernel
theorem dX4_init_37 : decode cX4_init 37 = .ok (.aload_n 0, 1) := by decide +kernel
theorem dX4_init_38 : decode cX4_init 38 = .ok (.bipush 6, 2) := by decide +kernel
theorem dX4_init_40 : decode cX4_init 40 = .ok (.newarray .int, 2) := by decide +kernel
theorem dX4_init_42 : decode cX4_init 42 = .ok (.putfield 32, 3) := by decide +kernel
theorem dX4_init_45 : decode cX4_init 45 = .ok (.aload_n 0, 1) := by decide +kernel
theorem dX4_init_46 : decode cX4_init 46 = .ok (.bipush 6, 2) := by decide +kernel
theorem dX4_init_48 : decode cX4_init 48 = .ok (.newarray .int, 2) := by decide +kernel
theorem dX4_init_50 : decode cX4_init 50 = .ok (.putfield 35, 3) := by decide +kernel
theorem dX4_init_53 : decode cX4_init 53 = .ok (.aload_n 0, 1) := by decide +kernel
theorem dX4_init_54 : decode cX4_init 54 = .ok (.iconst 2, 1) := by decide +kernel
theorem dX4_init_55 : decode cX4_init 55 = .ok (.newarray .int, 2) := by decide +kernel
theorem dX4_init_57 : decode cX4_init 57 = .ok (.putfield 38, 3) := by decide +kernel
theorem dX4_init_60 : decode cX4_init 60 = .ok (.aload_n 0, 1) := by decide +kernel
theorem dX4_init_61 : decode cX4_init 61 = .ok (.iconst 2, 1) := by decide +kernel
theorem dX4_init_62 : decode cX4_init 62 = .ok (.newarray .int, 2) := by decide +kernel
theorem dX4_init_64 : decode cX4_init 64 = .ok (.putfield 41, 3) := by decide +kernel
theorem dX4_init_67 : decode cX4_init 67 = .ok (.return_, 1) := by decide +kernel
theorem dX4_begin_0 : decode cX4_begin 0 = .ok (.aload_n 0, 1) := by decide +kernel
theorem dX4_begin_1 : decode cX4_begin 1 = .ok (.iconst 0, 1) := by decide +kernel
theorem dX4_begin_2 : decode cX4_begin 2 = .ok (.putfield 9, 3) := by decide +kernel
theorem dX4_begin_5 : decode cX4_begin 5 = .ok (.aload_n 0, 1) := by decide +kernel
theorem dX4_begin_6 : decode cX4_begin 6 = .ok (.iconst 0, 1) := by decide +kernel
theorem dX4_begin_7 : decode cX4_begin 7 = .ok (.putfield 15, 3) := by decide +kernel
theorem dX4_begin_10 : decode cX4_begin 10 = .ok (.aload_n 0, 1) := by decide +kernel
theorem dX4_begin_11 : decode cX4_begin 11 = .ok (.iconst 0, 1) := by decide +kernel
theorem dX4_begin_12 : decode cX4_begin 12 = .ok (.putfield 18, 3) := by decide +kernel
theorem dX4_begin_15 : decode cX4_begin 15 = .ok (.aload_n 0, 1) := by decide +kernel
theorem dX4_begin_16 : decode cX4_begin 16 = .ok (.iconst 0, 1) := by decide +kernel
theorem dX4_begin_17 : decode cX4_begin 17 = .ok (.putfield 22, 3) := by decide +kernel
theorem dX4_begin_20 : decode cX4_begin 20 = .ok (.aload_n 0, 1) := by decide +kernel
theorem dX4_begin_21 : decode cX4_begin 21 = .ok (.iconst 0, 1) := by decide +kernel
theorem dX4_begin_22 : decode cX4_begin 22 = .ok (.putfield 25, 3) := by decide +kernel
theorem dX4_begin_25 : decode cX4_begin 25 = .ok (.iconst 0, 1) := by decide +kernel
theorem dX4_begin_26 : decode cX4_begin 26 = .ok (.istore_n 2, 1) := by decide +kernel
theorem dX4_begin_27 : decode cX4_begin 27 = .ok (.iload_n 2, 1) := by decide +kernel
theorem dX4_begin_28 : decode cX4_begin 28 = .ok (.bipush 6, 2) := by decide +kernel
theorem dX4_begin_30 : decode cX4_begin 30 = .ok (.if_icmp .ge 40, 3) := by decide +kernel
theorem dX4_begin_33 : decode cX4_begin 33 = .ok (.aload_n 0, 1) := by decide +kernel
theorem dX4_begin_34 : decode cX4_begin 34 = .ok (.getfield 28, 3) := by decide +kernel
theorem dX4_begin_37 : decode cX4_begin 37 = .ok (.iload_n 2, 1) := by decide +kernel
theorem dX4_begin_38 : decode cX4_begin 38 = .ok (.aload_n 1, 1) := by decide +kernel
theorem dX4_begin_39 : decode cX4_begin 39 = .ok (.getfield 44, 3) := by decide +kernel
theorem dX4_begin_42 : decode cX4_begin 42 = .ok (.iload_n 2, 1) := by decide +kernel
theorem dX4_begin_43 : decode cX4_begin 43 = .ok (.iaload, 1) := by decide +kernel
theorem dX4_begin_44 : decode cX4_begin 44 = .ok (.iastore, 1) := by decide +kernel
theorem dX4_begin_45 : decode cX4_begin 45 = .ok (.aload_n 0, 1) := by decide +kernel
theorem dX4_begin_46 : decode cX4_begin 46 = .ok (.getfield 32, 3) := by decide +kernel
theorem dX4_begin_49 : decode cX4_begin 49 = .ok (.iload_n 2, 1) := by decide +kernel
theorem dX4_begin_50 : decode cX4_begin 50 = .ok (.aload_n 1, 1) := by decide +kernel
theorem dX4_begin_51 : decode cX4_begin 51 = .ok (.getfield 49, 3) := by decide +kernel
theorem dX4_begin_54 : decode cX4_begin 54 = .ok (.iload_n 2, 1) := by decide +kernel
theorem dX4_begin_55 : decode cX4_begin 55 = .ok (.iaload, 1) := by decide +kernel
theorem dX4_begin_56 : decode cX4_begin 56 = .ok (.iastore, 1) := by decide +kernel
theorem dX4_begin_57 : decode cX4_begin 57 = .ok (.aload_n 0, 1) := by decide +kernel
theorem dX4_begin_58 : decode cX4_begin 58 = .ok (.getfield 35, 3) := by decide +kernel
theorem dX4_begin_61 : decode cX4_begin 61 = .ok (.iload_n 2, 1) := by decide +kernel
theorem dX4_begin_62 : decode cX4_begin 62 = .ok (.iconst 0, 1) := by decide +kernel
theorem dX4_begin_63 : decode cX4_begin 63 = .ok (.iastore, 1) := by decide +kernel
theorem dX4_begin_64 : decode cX4_begin 64 = .ok (.iinc 2 1, 3) := by decide +kernel
theorem dX4_begin_67 : decode cX4_begin 67 = .ok (.goto (-40), 3) := by decide +kernel
theorem dX4_begin_70 : decode cX4_begin 70 = .ok (.iconst 0, 1) := by decide +kernel
theorem dX4_begin_71 : decode cX4_begin 71 = .ok (.istore_n 2, 1) := by decide +kernel
theorem dX4_begin_72 : decode cX4_begin 72 = .ok (.iload_n 2, 1) := by decide +kernel
theorem dX4_begin_73 : decode cX4_begin 73 = .ok (.iconst 2, 1) := by decide +kernel
theorem dX4_begin_74 : decode cX4_begin 74 = .ok (.if_icmp .ge 23, 3) := by decide +kernel
theorem dX4_begin_77 : decode cX4_begin 77 = .ok (.aload_n 0, 1) := by decide +kernel
theorem dX4_begin_78 : decode cX4_begin 78 = .ok (.getfield 38, 3) := by decide +kernel
theorem dX4_begin_81 : decode cX4_begin 81 = .ok (.iload_n 2, 1) := by decide +kernel
theorem dX4_begin_82 : decode cX4_begin 82 = .ok (.iconst 0, 1) := by decide +kernel
theorem dX4_begin_83 : decode cX4_begin 83 = .ok (.iastore, 1) := by decide +kernel
theorem dX4_begin_84 : decode cX4_begin 84 = .ok (.aload_n 0, 1) := by decide +kernel
theorem dX4_begin_85 : decode cX4_begin 85 = .ok (.getfield 41, 3) := by decide +kernel
theorem dX4_begin_88 : decode cX4_begin 88 = .ok (.iload_n 2, 1) := by decide +kernel
theorem dX4_begin_89 : decode cX4_begin 89 = .ok (.iconst 0, 1) := by decide +kernel
theorem dX4_begin_90 : decode cX4_begin 90 = .ok (.iastore, 1) := by decide +kernel
theorem dX4_begin_91 : decode cX4_begin 91 = .ok (.iinc 2 1, 3) := by decide +kernel
theorem dX4_begin_94 : decode cX4_begin 94 = .ok (.goto (-22), 3) := by decide +kernel
theorem dX4_begin_97 : decode cX4_begin 97 = .ok (.return_, 1) := by decide +kernel
theorem dX4_become_0 : decode cX4_become 0 = .ok (.aload_n 0, 1) := by decide +kernel
theorem dX4_become_1 : decode cX4_become 1 = .ok (.aload_n 1, 1) := by decide +kernel
theorem dX4_become_2 : decode cX4_become 2 = .ok (.getfield 9, 3) := by decide +kernel
theorem dX4_become_5 : decode cX4_become 5 = .ok (.putfield 9, 3) := by decide +kernel
theorem dX4_become_8 : decode cX4_become 8 = .ok (.aload_n 0, 1) := by decide +kernel
theorem dX4_become_9 : decode cX4_become 9 = .ok (.aload_n 1, 1) := by decide +kernel
theorem dX4_become_10 : decode cX4_become 10 = .ok (.getfield 15, 3) := by decide +kernel
theorem dX4_become_13 : decode cX4_become 13 = .ok (.putfield 15, 3) := by decide +kernel
theorem dX4_become_16 : decode cX4_become 16 = .ok (.aload_n 0, 1) := by decide +kernel
theorem dX4_become_17 : decode cX4_become 17 = .ok (.aload_n 1, 1) := by decide +kernel
theorem dX4_become_18 : decode cX4_become 18 = .ok (.getfield 18, 3) := by decide +kernel
theorem dX4_become_21 : decode cX4_become 21 = .ok (.putfield 18, 3) := by decide +kernel
theorem dX4_become_24 : decode cX4_become 24 = .ok (.aload_n 0, 1) := by decide +kernel
theorem dX4_become_25 : decode cX4_become 25 = .ok (.aload_n 1, 1) := by decide +kernel
theorem dX4_become_26 : decode cX4_become 26 = .ok (.getfield 22, 3) := by decide +kernel
theorem dX4_become_29 : decode cX4_become 29 = .ok (.putfield 22, 3) := by decide +kernel
theorem dX4_become_32 : decode cX4_become 32 = .ok (.aload_n 0, 1) := by decide +kernel
theorem dX4_become_33 : decode cX4_become 33 = .ok (.aload_n 1, 1) := by decide +kernel
theorem dX4_become_34 : decode cX4_become 34 = .ok (.getfield 25, 3) := by decide +kernel
theorem dX4_become_37 : decode cX4_become 37 = .ok (.putfield 25, 3) := by decide +kernel
theorem dX4_become_40 : decode cX4_become 40 = .ok (.aload_n 1, 1) := by decide +kernel
theorem dX4_become_41 : decode cX4_become 41 = .ok (.getfield 28, 3) := by decide +kernel
theorem dX4_become_44 : decode cX4_become 44 = .ok (.iconst 0, 1) := by decide +kernel
theorem dX4_become_45 : decode cX4_become 45 = .ok (.aload_n 0, 1) := by decide +kernel
theorem dX4_become_46 : decode cX4_become 46 = .ok (.getfield 28, 3) := by decide +kernel
theorem dX4_become_49 : decode cX4_become 49 = .ok (.iconst 0, 1) := by decide +kernel
theorem dX4_become_50 : decode cX4_become 50 = .ok (.bipush 6, 2) := by decide +kernel
theorem dX4_become_52 : decode cX4_become 52 = .ok (.invokestatic 52, 3) := by decide +kernel
theorem dX4_become_55 : decode cX4_become 55 = .ok (.aload_n 1, 1) := by decide +kernel
theorem dX4_become_56 : decode cX4_become 56 = .ok (.getfield 32, 3) := by decide +kernel
theorem dX4_become_59 : decode cX4_become 59 = .ok (.iconst 0, 1) := by decide +kernel
theorem dX4_become_60 : decode cX4_become 60 = .ok (.aload_n 0, 1) := by decide +kernel
theorem dX4_become_61 : decode cX4_become 61 = .ok (.getfield 32, 3) := by decide +kernel
theorem dX4_become_64 : decode cX4_become 64 = .ok (.iconst 0, 1) := by decide +kernel
theorem dX4_become_65 : decode cX4_become 65 = .ok (.bipush 6, 2) := by decide +kernel
theorem dX4_become_67 : decode cX4_become 67 = .ok (.invokestatic 52, 3) := by decide +kernel
theorem dX4_become_70 : decode cX4_become 70 = .ok (.aload_n 1, 1) := by decide +kernel
theorem dX4_become_71 : decode cX4_become 71 = .ok (.getfield 35, 3) := by decide +kernel
theorem dX4_become_74 : decode cX4_become 74 = .ok (.iconst 0, 1) := by decide +kernel
theorem dX4_become_75 : decode cX4_become 75 = .ok (.aload_n 0, 1) := by decide +kernel
theorem dX4_become_76 : decode cX4_become 76 = .ok (.getfield 35, 3) := by decide +kernel
theorem dX4_become_79 : decode cX4_become 79 = .ok (.iconst 0, 1) := by decide +kernel
theorem dX4_become_80 : decode cX4_become 80 = .ok (.bipush 6, 2) := by decide +kernel
theorem dX4_become_82 : decode cX4_become 82 = .ok (.invokestatic 52, 3) := by decide +kernel
theorem dX4_become_85 : decode cX4_become 85 = .ok (.aload_n 1, 1) := by decide +kernel
theorem dX4_become_86 : decode cX4_become 86 = .ok (.getfield 38, 3) := by decide +kernel
theorem dX4_become_89 : decode cX4_become 89 = .ok (.iconst 0, 1) := by decide +kernel
theorem dX4_become_90 : decode cX4_become 90 = .ok (.aload_n 0, 1) := by decide +kernel
theorem dX4_become_91 : decode cX4_become 91 = .ok (.getfield 38, 3) := by decide +kernel
theorem dX4_become_94 : decode cX4_become 94 = .ok (.iconst 0, 1) := by decide +kernel
theorem dX4_become_95 : decode cX4_become 95 = .ok (.iconst 2, 1) := by decide +kernel
theorem dX4_become_96 : decode cX4_become 96 = .ok (.invokestatic 52, 3) := by decide +kernel
theorem dX4_become_99 : decode cX4_become 99 = .ok (.aload_n 1, 1) := by decide +kernel
theorem dX4_become_100 : decode cX4_become 100 = .ok (.getfield 41, 3) := by decide +kernel
theorem dX4_become_103 : decode cX4_become 103 = .ok (.iconst 0, 1) := by decide +kernel
theorem dX4_become_104 : decode cX4_become 104 = .ok (.aload_n 0, 1) := by decide +kernel
theorem dX4_become_105 : decode cX4_become 105 = .ok (.getfield 41, 3) := by decide +kernel
theorem dX4_become_108 : decode cX4_become 108 = .ok (.iconst 0, 1) := by decide +kernel
theorem dX4_become_109 : decode cX4_become 109 = .ok (.iconst 2, 1) := by decide +kernel
theorem dX4_become_110 : decode cX4_become 110 = .ok (.invokestatic 52, 3) := by decide +kernel
theorem dX4_become_113 : decode cX4_become 113 = .ok (.return_, 1) := by decide +kernel
theorem dX4_hanging_0 : decode cX4_hanging 0 = .ok (.iconst 0, 1) := by decide +kernel
theorem dX4_hanging_1 : decode cX4_hanging 1 = .ok (.istore_n 2, 1) := by decide +kernel
theorem dX4_hanging_2 : decode cX4_hanging 2 = .ok (.iconst 0, 1) := by decide +kernel
theorem dX4_hanging_3 : decode cX4_hanging 3 = .ok (.istore_n 3, 1) := by decide +kernel
theorem dX4_hanging_4 : decode cX4_hanging 4 = .ok (.iload_n 3, 1) := by decide +kernel
theorem dX4_hanging_5 : decode cX4_hanging 5 = .ok (.iconst 2, 1) := by decide +kernel
theorem dX4_hanging_6 : decode cX4_hanging 6 = .ok (.if_icmp .ge 29, 3) := by decide +kernel
theorem dX4_hanging_9 : decode cX4_hanging 9 = .ok (.aload_n 1, 1) := by decide +kernel
theorem dX4_hanging_10 : decode cX4_hanging 10 = .ok (.iload_n 3, 1) := by decide +kernel
theorem dX4_hanging_11 : decode cX4_hanging 11 = .ok (.aload_n 0, 1) := by decide +kernel
theorem dX4_hanging_12 : decode cX4_hanging 12 = .ok (.getfield 9, 3) := by decide +kernel
theorem dX4_hanging_15 : decode cX4_hanging 15 = .ok (.invokevirtual 58, 3) := by decide +kernel
theorem dX4_hanging_18 : decode cX4_hanging 18 = .ok (.ifCond .eq 11, 3) := by decide +kernel
theorem dX4_hanging_21 : decode cX4_hanging 21 = .ok (.iload_n 2, 1) := by decide +kernel
theorem dX4_hanging_22 : decode cX4_hanging 22 = .ok (.aload_n 1, 1) := by decide +kernel
theorem dX4_hanging_23 : decode cX4_hanging 23 = .ok (.iload_n 3, 1) := by decide +kernel
theorem dX4_hanging_24 : decode cX4_hanging 24 = .ok (.invokevirtual 62, 3) := by decide +kernel
theorem dX4_hanging_27 : decode cX4_hanging 27 = .ok (.ior, 1) := by decide +kernel
theorem dX4_hanging_28 : decode cX4_hanging 28 = .ok (.istore_n 2, 1) := by decide +kernel
theorem dX4_hanging_29 : decode cX4_hanging 29 = .ok (.iinc 3 1, 3) := by decide +kernel
theorem dX4_hanging_32 : decode cX4_hanging 32 = .ok (.goto (-28), 3) := by decide +kernel
theorem dX4_hanging_35 : decode cX4_hanging 35 = .ok (.iload_n 2, 1) := by decide +kernel
theorem dX4_hanging_36 : decode cX4_hanging 36 = .ok (.ireturn, 1) := by decide +kernel
theorem dX4_postIn_0 : decode cX4_postIn 0 = .ok (.iconst 0, 1) := by decide +kernel
theorem dX4_postIn_1 : decode cX4_postIn 1 = .ok (.istore_n 2, 1) := by decide +kernel
theorem dX4_postIn_2 : decode cX4_postIn 2 = .ok (.iload_n 2, 1) := by decide +kernel
theorem dX4_postIn_3 : decode cX4_postIn 3 = .ok (.bipush 6, 2) := by decide +kernel
theorem dX4_postIn_5 : decode cX4_postIn 5 = .ok (.if_icmp .ge 21, 3) := by decide +kernel
theorem dX4_postIn_8 : decode cX4_postIn 8 = .ok (.aload_n 0, 1) := by decide +kernel
theorem dX4_postIn_9 : decode cX4_postIn 9 = .ok (.getfield 28, 3) := by decide +kernel
theorem dX4_postIn_12 : decode cX4_postIn 12 = .ok (.iload_n 2, 1) := by decide +kernel
theorem dX4_postIn_13 : decode cX4_postIn 13 = .ok (.iaload, 1) := by decide +kernel
theorem dX4_postIn_14 : decode cX4_postIn 14 = .ok (.iload_n 1, 1) := by decide +kernel
theorem dX4_postIn_15 : decode cX4_postIn 15 = .ok (.if_icmp .ne 5, 3) := by decide +kernel
theorem dX4_postIn_18 : decode cX4_postIn 18 = .ok (.iload_n 2, 1) := by decide +kernel
theorem dX4_postIn_19 : decode cX4_postIn 19 = .ok (.ireturn, 1) := by decide +kernel
theorem dX4_postIn_20 : decode cX4_postIn 20 = .ok (.iinc 2 1, 3) := by decide +kernel
theorem dX4_postIn_23 : decode cX4_postIn 23 = .ok (.goto (-21), 3) := by decide +kernel
theorem dX4_postIn_26 : decode cX4_postIn 26 = .ok (.iconst (-1), 1) := by decide +kernel
theorem dX4_postIn_27 : decode cX4_postIn 27 = .ok (.ireturn, 1) := by decide +kernel
theorem dX4_inJars_0 : decode cX4_inJars 0 = .ok (.iconst 0, 1) := by decide +kernel
theorem dX4_inJars_1 : decode cX4_inJars 1 = .ok (.istore_n 1, 1) := by decide +kernel
theorem dX4_inJars_2 : decode cX4_inJars 2 = .ok (.iconst 0, 1) := by decide +kernel
theorem dX4_inJars_3 : decode cX4_inJars 3 = .ok (.istore_n 2, 1) := by decide +kernel
theorem dX4_inJars_4 : decode cX4_inJars 4 = .ok (.iload_n 2, 1) := by decide +kernel
theorem dX4_inJars_5 : decode cX4_inJars 5 = .ok (.bipush 6, 2) := by decide +kernel
theorem dX4_inJars_7 : decode cX4_inJars 7 = .ok (.if_icmp .ge 18, 3) := by decide +kernel
theorem dX4_inJars_10 : decode cX4_inJars 10 = .ok (.iload_n 1, 1) := by decide +kernel
theorem dX4_inJars_11 : decode cX4_inJars 11 = .ok (.aload_n 0, 1) := by decide +kernel
theorem dX4_inJars_12 : decode cX4_inJars 12 = .ok (.getfield 35, 3) := by decide +kernel
theorem dX4_inJars_15 : decode cX4_inJars 15 = .ok (.iload_n 2, 1) := by decide +kernel
theorem dX4_inJars_16 : decode cX4_inJars 16 = .ok (.iaload, 1) := by decide +kernel
theorem dX4_inJars_17 : decode cX4_inJars 17 = .ok (.iadd, 1) := by decide +kernel
theorem dX4_inJars_18 : decode cX4_inJars 18 = .ok (.istore_n 1, 1) := by decide +kernel
theorem dX4_inJars_19 : decode cX4_inJars 19 = .ok (.iinc 2 1, 3) := by decide +kernel
theorem dX4_inJars_22 : decode cX4_inJars 22 = .ok (.goto (-18), 3) := by decide +kernel
theorem dX4_inJars_25 : decode cX4_inJars 25 = .ok (.iload_n 1, 1) := by decide +kernel
theorem dX4_inJars_26 : decode cX4_inJars 26 = .ok (.ireturn, 1) := by decide +kernel
theorem dX4_lampedFog_0 : decode cX4_lampedFog 0 = .ok (.aload_n 0, 1) := by decide +kernel
theorem dX4_lampedFog_1 : decode cX4_lampedFog 1 = .ok (.getfield 18, 3) := by decide +kernel
theorem dX4_lampedFog_4 : decode cX4_lampedFog 4 = .ok (.ifCond .eq 16, 3) := by decide +kernel
theorem dX4_lampedFog_7 : decode cX4_lampedFog 7 = .ok (.iload_n 2, 1) := by decide +kernel
theorem dX4_lampedFog_8 : decode cX4_lampedFog 8 = .ok (.aload_n 1, 1) := by decide +kernel
theorem dX4_lampedFog_9 : decode cX4_lampedFog 9 = .ok (.getfield 66, 3) := by decide +kernel
theorem dX4_lampedFog_12 : decode cX4_lampedFog 12 = .ok (.isub, 1) := by decide +kernel
theorem dX4_lampedFog_13 : decode cX4_lampedFog 13 = .ok (.iconst 0, 1) := by decide +kernel
theorem dX4_lampedFog_14 : decode cX4_lampedFog 14 = .ok (.invokestatic 69, 3) := by decide +kernel
theorem dX4_lampedFog_17 : decode cX4_lampedFog 17 = .ok (.goto 4, 3) := by decide +kernel
theorem dX4_lampedFog_20 : decode cX4_lampedFog 20 = .ok (.iload_n 2, 1) := by decide +kernel
theorem dX4_lampedFog_21 : decode cX4_lampedFog 21 = .ok (.ireturn, 1) := by decide +kernel
theorem dX4_passHour_0 : decode cX4_passHour 0 = .ok (.aload_n 2, 1) := by decide +kernel
theorem dX4_passHour_1 : decode cX4_passHour 1 = .ok (.aload_n 0, 1) := by decide +kernel
theorem dX4_passHour_2 : decode cX4_passHour 2 = .ok (.aload_n 1, 1) := by decide +kernel
theorem dX4_passHour_3 : decode cX4_passHour 3 = .ok (.getfield 75, 3) := by decide +kernel
theorem dX4_passHour_6 : decode cX4_passHour 6 = .ok (.aload_n 0, 1) := by decide +kernel
theorem dX4_passHour_7 : decode cX4_passHour 7 = .ok (.aload_n 1, 1) := by decide +kernel
theorem dX4_passHour_8 : decode cX4_passHour 8 = .ok (.invokevirtual 78, 3) := by decide +kernel
theorem dX4_passHour_11 : decode cX4_passHour 11 = .ok (.iload_n 3, 1) := by decide +kernel
theorem dX4_passHour_12 : decode cX4_passHour 12 = .ok (.aload_n 0, 1) := by decide +kernel
theorem dX4_passHour_13 : decode cX4_passHour 13 = .ok (.aload_n 1, 1) := by decide +kernel
theorem dX4_passHour_14 : decode cX4_passHour 14 = .ok (.iload 4, 2) := by decide +kernel
theorem dX4_passHour_16 : decode cX4_passHour 16 = .ok (.invokevirtual 82, 3) := by decide +kernel
theorem dX4_passHour_19 : decode cX4_passHour 19 = .ok (.invokevirtual 86, 3) := by decide +kernel
theorem dX4_passHour_22 : decode cX4_passHour 22 = .ok (.iconst 0, 1) := by decide +kernel
theorem dX4_passHour_23 : decode cX4_passHour 23 = .ok (.istore 6, 2) := by decide +kernel
theorem dX4_passHour_25 : decode cX4_passHour 25 = .ok (.iconst 0, 1) := by decide +kernel
theorem dX4_passHour_26 : decode cX4_passHour 26 = .ok (.istore 7, 2) := by decide +kernel
theorem dX4_passHour_28 : decode cX4_passHour 28 = .ok (.iload 7, 2) := by decide +kernel
theorem dX4_passHour_30 : decode cX4_passHour 30 = .ok (.bipush 6, 2) := by decide +kernel
theorem dX4_passHour_32 : decode cX4_passHour 32 = .ok (.if_icmp .ge 85, 3) := by decide +kernel
theorem dX4_passHour_35 : decode cX4_passHour 35 = .ok (.aload_n 0, 1) := by decide +kernel
theorem dX4_passHour_36 : decode cX4_passHour 36 = .ok (.getfield 35, 3) := by decide +kernel
theorem dX4_passHour_39 : decode cX4_passHour 39 = .ok (.iload 7, 2) := by decide +kernel
theorem dX4_passHour_41 : decode cX4_passHour 41 = .ok (.dup2, 1) := by decide +kernel
theorem dX4_passHour_42 : decode cX4_passHour 42 = .ok (.iaload, 1) := by decide +kernel
theorem dX4_passHour_43 : decode cX4_passHour 43 = .ok (.aload_n 2, 1) := by decide +kernel
theorem dX4_passHour_44 : decode cX4_passHour 44 = .ok (.getfield 92, 3) := by decide +kernel
theorem dX4_passHour_47 : decode cX4_passHour 47 = .ok (.iload 7, 2) := by decide +kernel
theorem dX4_passHour_49 : decode cX4_passHour 49 = .ok (.iaload, 1) := by decide +kernel
theorem dX4_passHour_50 : decode cX4_passHour 50 = .ok (.iadd, 1) := by decide +kernel
theorem dX4_passHour_51 : decode cX4_passHour 51 = .ok (.iastore, 1) := by decide +kernel
theorem dX4_passHour_52 : decode cX4_passHour 52 = .ok (.aload_n 0, 1) := by decide +kernel
theorem dX4_passHour_53 : decode cX4_passHour 53 = .ok (.getfield 35, 3) := by decide +kernel
theorem dX4_passHour_56 : decode cX4_passHour 56 = .ok (.iload 7, 2) := by decide +kernel
theorem dX4_passHour_58 : decode cX4_passHour 58 = .ok (.iaload, 1) := by decide +kernel
theorem dX4_passHour_59 : decode cX4_passHour 59 = .ok (.aload_n 1, 1) := by decide +kernel
theorem dX4_passHour_60 : decode cX4_passHour 60 = .ok (.getfield 95, 3) := by decide +kernel
theorem dX4_passHour_63 : decode cX4_passHour 63 = .ok (.iload 7, 2) := by decide +kernel
theorem dX4_passHour_65 : decode cX4_passHour 65 = .ok (.iaload, 1) := by decide +kernel
theorem dX4_passHour_66 : decode cX4_passHour 66 = .ok (.isub, 1) := by decide +kernel
theorem dX4_passHour_67 : decode cX4_passHour 67 = .ok (.iconst 0, 1) := by decide +kernel
theorem dX4_passHour_68 : decode cX4_passHour 68 = .ok (.invokestatic 69, 3) := by decide +kernel
theorem dX4_passHour_71 : decode cX4_passHour 71 = .ok (.istore 8, 2) := by decide +kernel
theorem dX4_passHour_73 : decode cX4_passHour 73 = .ok (.aload_n 0, 1) := by decide +kernel
theorem dX4_passHour_74 : decode cX4_passHour 74 = .ok (.getfield 35, 3) := by decide +kernel
theorem dX4_passHour_77 : decode cX4_passHour 77 = .ok (.iload 7, 2) := by decide +kernel
theorem dX4_passHour_79 : decode cX4_passHour 79 = .ok (.dup2, 1) := by decide +kernel
theorem dX4_passHour_80 : decode cX4_passHour 80 = .ok (.iaload, 1) := by decide +kernel
theorem dX4_passHour_81 : decode cX4_passHour 81 = .ok (.iload 8, 2) := by decide +kernel
theorem dX4_passHour_83 : decode cX4_passHour 83 = .ok (.isub, 1) := by decide +kernel
theorem dX4_passHour_84 : decode cX4_passHour 84 = .ok (.iastore, 1) := by decide +kernel
theorem dX4_passHour_85 : decode cX4_passHour 85 = .ok (.aload_n 0, 1) := by decide +kernel
theorem dX4_passHour_86 : decode cX4_passHour 86 = .ok (.aload_n 0, 1) := by decide +kernel
theorem dX4_passHour_87 : decode cX4_passHour 87 = .ok (.getfield 22, 3) := by decide +kernel
theorem dX4_passHour_90 : decode cX4_passHour 90 = .ok (.iload 8, 2) := by decide +kernel
theorem dX4_passHour_92 : decode cX4_passHour 92 = .ok (.iadd, 1) := by decide +kernel
theorem dX4_passHour_93 : decode cX4_passHour 93 = .ok (.invokestatic 98, 3) := by decide +kernel
theorem dX4_passHour_96 : decode cX4_passHour 96 = .ok (.putfield 22, 3) := by decide +kernel
theorem dX4_passHour_99 : decode cX4_passHour 99 = .ok (.iload 6, 2) := by decide +kernel
theorem dX4_passHour_101 : decode cX4_passHour 101 = .ok (.aload_n 2, 1) := by decide +kernel
theorem dX4_passHour_102 : decode cX4_passHour 102 = .ok (.getfield 92, 3) := by decide +kernel
theorem dX4_passHour_105 : decode cX4_passHour 105 = .ok (.iload 7, 2) := by decide +kernel
theorem dX4_passHour_107 : decode cX4_passHour 107 = .ok (.iaload, 1) := by decide +kernel
theorem dX4_passHour_108 : decode cX4_passHour 108 = .ok (.iadd, 1) := by decide +kernel
theorem dX4_passHour_109 : decode cX4_passHour 109 = .ok (.istore 6, 2) := by decide +kernel
theorem dX4_passHour_111 : decode cX4_passHour 111 = .ok (.iinc 7 1, 3) := by decide +kernel
theorem dX4_passHour_114 : decode cX4_passHour 114 = .ok (.goto (-86), 3) := by decide +kernel
theorem dX4_passHour_117 : decode cX4_passHour 117 = .ok (.aload_n 0, 1) := by decide +kernel
theorem dX4_passHour_118 : decode cX4_passHour 118 = .ok (.dup, 1) := by decide +kernel
theorem dX4_passHour_119 : decode cX4_passHour 119 = .ok (.getfield 15, 3) := by decide +kernel
theorem dX4_passHour_122 : decode cX4_passHour 122 = .ok (.iconst 1, 1) := by decide +kernel
theorem dX4_passHour_123 : decode cX4_passHour 123 = .ok (.iadd, 1) := by decide +kernel
theorem dX4_passHour_124 : decode cX4_passHour 124 = .ok (.putfield 15, 3) := by decide +kernel
theorem dX4_passHour_127 : decode cX4_passHour 127 = .ok (.aload_n 0, 1) := by decide +kernel
theorem dX4_passHour_128 : decode cX4_passHour 128 = .ok (.getfield 15, 3) := by decide +kernel
theorem dX4_passHour_131 : decode cX4_passHour 131 = .ok (.aload_n 1, 1) := by decide +kernel
theorem dX4_passHour_132 : decode cX4_passHour 132 = .ok (.invokevirtual 101, 3) := by decide +kernel
theorem dX4_passHour_135 : decode cX4_passHour 135 = .ok (.if_icmp .lt 10, 3) := by decide +kernel
theorem dX4_passHour_138 : decode cX4_passHour 138 = .ok (.aload_n 0, 1) := by decide +kernel
theorem dX4_passHour_139 : decode cX4_passHour 139 = .ok (.aload_n 1, 1) := by decide +kernel
theorem dX4_passHour_140 : decode cX4_passHour 140 = .ok (.iload 5, 2) := by decide +kernel
theorem dX4_passHour_142 : decode cX4_passHour 142 = .ok (.invokevirtual 105, 3) := by decide +kernel
theorem dX4_passHour_145 : decode cX4_passHour 145 = .ok (.iload 6, 2) := by decide +kernel
theorem dX4_passHour_147 : decode cX4_passHour 147 = .ok (.ireturn, 1) := by decide +kernel
theorem dX4_endDay_0 : decode cX4_endDay 0 = .ok (.iload_n 2, 1) := by decide +kernel
theorem dX4_endDay_1 : decode cX4_endDay 1 = .ok (.ifCond .eq 17, 3) := by decide +kernel
theorem dX4_endDay_4 : decode cX4_endDay 4 = .ok (.aload_n 0, 1) := by decide +kernel
theorem dX4_endDay_5 : decode cX4_endDay 5 = .ok (.aload_n 1, 1) := by decide +kernel
theorem dX4_endDay_6 : decode cX4_endDay 6 = .ok (.iconst 0, 1) := by decide +kernel
theorem dX4_endDay_7 : decode cX4_endDay 7 = .ok (.invokevirtual 109, 3) := by decide +kernel
theorem dX4_endDay_10 : decode cX4_endDay 10 = .ok (.pop, 1) := by decide +kernel
theorem dX4_endDay_11 : decode cX4_endDay 11 = .ok (.aload_n 0, 1) := by decide +kernel
theorem dX4_endDay_12 : decode cX4_endDay 12 = .ok (.aload_n 1, 1) := by decide +kernel
theorem dX4_endDay_13 : decode cX4_endDay 13 = .ok (.iconst 1, 1) := by decide +kernel
theorem dX4_endDay_14 : decode cX4_endDay 14 = .ok (.invokevirtual 109, 3) := by decide +kernel
theorem dX4_endDay_17 : decode cX4_endDay 17 = .ok (.pop, 1) := by decide +kernel
theorem dX4_endDay_18 : decode cX4_endDay 18 = .ok (.iconst 0, 1) := by decide +kernel
theorem dX4_endDay_19 : decode cX4_endDay 19 = .ok (.istore_n 3, 1) := by decide +kernel
theorem dX4_endDay_20 : decode cX4_endDay 20 = .ok (.iload_n 3, 1) := by decide +kernel
theorem dX4_endDay_21 : decode cX4_endDay 21 = .ok (.aload_n 1, 1) := by decide +kernel
theorem dX4_endDay_22 : decode cX4_endDay 22 = .ok (.getfield 112, 3) := by decide +kernel
theorem dX4_endDay_25 : decode cX4_endDay 25 = .ok (.if_icmp .ge 68, 3) := by decide +kernel
theorem dX4_endDay_28 : decode cX4_endDay 28 = .ok (.iload_n 3, 1) := by decide +kernel
theorem dX4_endDay_29 : decode cX4_endDay 29 = .ok (.iconst 4, 1) := by decide +kernel
theorem dX4_endDay_30 : decode cX4_endDay 30 = .ok (.if_icmp .ge 63, 3) := by decide +kernel
theorem dX4_endDay_33 : decode cX4_endDay 33 = .ok (.aload_n 0, 1) := by decide +kernel
theorem dX4_endDay_34 : decode cX4_endDay 34 = .ok (.aload_n 1, 1) := by decide +kernel
theorem dX4_endDay_35 : decode cX4_endDay 35 = .ok (.getfield 115, 3) := by decide +kernel
theorem dX4_endDay_38 : decode cX4_endDay 38 = .ok (.iload_n 3, 1) := by decide +kernel
theorem dX4_endDay_39 : decode cX4_endDay 39 = .ok (.iaload, 1) := by decide +kernel
theorem dX4_endDay_40 : decode cX4_endDay 40 = .ok (.invokevirtual 118, 3) := by decide +kernel
theorem dX4_endDay_43 : decode cX4_endDay 43 = .ok (.istore 4, 2) := by decide +kernel
theorem dX4_endDay_45 : decode cX4_endDay 45 = .ok (.aload_n 0, 1) := by decide +kernel
theorem dX4_endDay_46 : decode cX4_endDay 46 = .ok (.getfield 35, 3) := by decide +kernel
theorem dX4_endDay_49 : decode cX4_endDay 49 = .ok (.iload 4, 2) := by decide +kernel
theorem dX4_endDay_51 : decode cX4_endDay 51 = .ok (.invokestatic 121, 3) := by decide +kernel
theorem dX4_endDay_54 : decode cX4_endDay 54 = .ok (.istore 5, 2) := by decide +kernel
theorem dX4_endDay_56 : decode cX4_endDay 56 = .ok (.aload_n 0, 1) := by decide +kernel
theorem dX4_endDay_57 : decode cX4_endDay 57 = .ok (.iload 4, 2) := by decide +kernel
theorem dX4_endDay_59 : decode cX4_endDay 59 = .ok (.aload_n 1, 1) := by decide +kernel
theorem dX4_endDay_60 : decode cX4_endDay 60 = .ok (.getfield 125, 3) := by decide +kernel
theorem dX4_endDay_63 : decode cX4_endDay 63 = .ok (.iload_n 3, 1) := by decide +kernel
theorem dX4_endDay_64 : decode cX4_endDay 64 = .ok (.iaload, 1) := by decide +kernel
theorem dX4_endDay_65 : decode cX4_endDay 65 = .ok (.invokevirtual 128, 3) := by decide +kernel
theorem dX4_endDay_68 : decode cX4_endDay 68 = .ok (.istore 6, 2) := by decide +kernel
theorem dX4_endDay_70 : decode cX4_endDay 70 = .ok (.aload_n 0, 1) := by decide +kernel
theorem dX4_endDay_71 : decode cX4_endDay 71 = .ok (.aload_n 0, 1) := by decide +kernel
theorem dX4_endDay_72 : decode cX4_endDay 72 = .ok (.getfield 25, 3) := by decide +kernel
theorem dX4_endDay_75 : decode cX4_endDay 75 = .ok (.iload 5, 2) := by decide +kernel
theorem dX4_endDay_77 : decode cX4_endDay 77 = .ok (.iadd, 1) := by decide +kernel
theorem dX4_endDay_78 : decode cX4_endDay 78 = .ok (.iload 6, 2) := by decide +kernel
theorem dX4_endDay_80 : decode cX4_endDay 80 = .ok (.isub, 1) := by decide +kernel
theorem dX4_endDay_81 : decode cX4_endDay 81 = .ok (.invokestatic 98, 3) := by decide +kernel
theorem dX4_endDay_84 : decode cX4_endDay 84 = .ok (.putfield 25, 3) := by decide +kernel
theorem dX4_endDay_87 : decode cX4_endDay 87 = .ok (.iinc 3 1, 3) := by decide +kernel
theorem dX4_endDay_90 : decode cX4_endDay 90 = .ok (.goto (-70), 3) := by decide +kernel
theorem dX4_endDay_93 : decode cX4_endDay 93 = .ok (.iconst 0, 1) := by decide +kernel
theorem dX4_endDay_94 : decode cX4_endDay 94 = .ok (.istore_n 3, 1) := by decide +kernel
theorem dX4_endDay_95 : decode cX4_endDay 95 = .ok (.iload_n 3, 1) := by decide +kernel
theorem dX4_endDay_96 : decode cX4_endDay 96 = .ok (.iconst 2, 1) := by decide +kernel
theorem dX4_endDay_97 : decode cX4_endDay 97 = .ok (.if_icmp .ge 62, 3) := by decide +kernel
theorem dX4_endDay_100 : decode cX4_endDay 100 = .ok (.aload_n 1, 1) := by decide +kernel
theorem dX4_endDay_101 : decode cX4_endDay 101 = .ok (.getfield 131, 3) := by decide +kernel
theorem dX4_endDay_104 : decode cX4_endDay 104 = .ok (.iload_n 3, 1) := by decide +kernel
theorem dX4_endDay_105 : decode cX4_endDay 105 = .ok (.iaload, 1) := by decide +kernel
theorem dX4_endDay_106 : decode cX4_endDay 106 = .ok (.aload_n 0, 1) := by decide +kernel
theorem dX4_endDay_107 : decode cX4_endDay 107 = .ok (.getfield 38, 3) := by decide +kernel
theorem dX4_endDay_110 : decode cX4_endDay 110 = .ok (.iload_n 3, 1) := by decide +kernel
theorem dX4_endDay_111 : decode cX4_endDay 111 = .ok (.iaload, 1) := by decide +kernel
theorem dX4_endDay_112 : decode cX4_endDay 112 = .ok (.invokestatic 134, 3) := by decide +kernel
theorem dX4_endDay_115 : decode cX4_endDay 115 = .ok (.istore 4, 2) := by decide +kernel
theorem dX4_endDay_117 : decode cX4_endDay 117 = .ok (.aload_n 0, 1) := by decide +kernel
theorem dX4_endDay_118 : decode cX4_endDay 118 = .ok (.getfield 38, 3) := by decide +kernel
theorem dX4_endDay_121 : decode cX4_endDay 121 = .ok (.iload_n 3, 1) := by decide +kernel
theorem dX4_endDay_122 : decode cX4_endDay 122 = .ok (.dup2, 1) := by decide +kernel
theorem dX4_endDay_123 : decode cX4_endDay 123 = .ok (.iaload, 1) := by decide +kernel
theorem dX4_endDay_124 : decode cX4_endDay 124 = .ok (.iload 4, 2) := by decide +kernel
theorem dX4_endDay_126 : decode cX4_endDay 126 = .ok (.isub, 1) := by decide +kernel
theorem dX4_endDay_127 : decode cX4_endDay 127 = .ok (.iastore, 1) := by decide +kernel
theorem dX4_endDay_128 : decode cX4_endDay 128 = .ok (.aload_n 0, 1) := by decide +kernel
theorem dX4_endDay_129 : decode cX4_endDay 129 = .ok (.getfield 41, 3) := by decide +kernel
theorem dX4_endDay_132 : decode cX4_endDay 132 = .ok (.iload_n 3, 1) := by decide +kernel
theorem dX4_endDay_133 : decode cX4_endDay 133 = .ok (.aload_n 0, 1) := by decide +kernel
theorem dX4_endDay_134 : decode cX4_endDay 134 = .ok (.getfield 41, 3) := by decide +kernel
theorem dX4_endDay_137 : decode cX4_endDay 137 = .ok (.iload_n 3, 1) := by decide +kernel
theorem dX4_endDay_138 : decode cX4_endDay 138 = .ok (.iaload, 1) := by decide +kernel
theorem dX4_endDay_139 : decode cX4_endDay 139 = .ok (.aload_n 1, 1) := by decide +kernel
theorem dX4_endDay_140 : decode cX4_endDay 140 = .ok (.getfield 131, 3) := by decide +kernel
theorem dX4_endDay_143 : decode cX4_endDay 143 = .ok (.iload_n 3, 1) := by decide +kernel
theorem dX4_endDay_144 : decode cX4_endDay 144 = .ok (.iaload, 1) := by decide +kernel
theorem dX4_endDay_145 : decode cX4_endDay 145 = .ok (.iadd, 1) := by decide +kernel
theorem dX4_endDay_146 : decode cX4_endDay 146 = .ok (.iload 4, 2) := by decide +kernel
theorem dX4_endDay_148 : decode cX4_endDay 148 = .ok (.isub, 1) := by decide +kernel
theorem dX4_endDay_149 : decode cX4_endDay 149 = .ok (.invokestatic 98, 3) := by decide +kernel
theorem dX4_endDay_152 : decode cX4_endDay 152 = .ok (.iastore, 1) := by decide +kernel
theorem dX4_endDay_153 : decode cX4_endDay 153 = .ok (.iinc 3 1, 3) := by decide +kernel
theorem dX4_endDay_156 : decode cX4_endDay 156 = .ok (.goto (-61), 3) := by decide +kernel
theorem dX4_endDay_159 : decode cX4_endDay 159 = .ok (.aload_n 0, 1) := by decide +kernel
theorem dX4_endDay_160 : decode cX4_endDay 160 = .ok (.dup, 1) := by decide +kernel
theorem dX4_endDay_161 : decode cX4_endDay 161 = .ok (.getfield 9, 3) := by decide +kernel
theorem dX4_endDay_164 : decode cX4_endDay 164 = .ok (.iconst 1, 1) := by decide +kernel
theorem dX4_endDay_165 : decode cX4_endDay 165 = .ok (.iadd, 1) := by decide +kernel
theorem dX4_endDay_166 : decode cX4_endDay 166 = .ok (.putfield 9, 3) := by decide +kernel
theorem dX4_endDay_169 : decode cX4_endDay 169 = .ok (.aload_n 0, 1) := by decide +kernel
theorem dX4_endDay_170 : decode cX4_endDay 170 = .ok (.iconst 0, 1) := by decide +kernel
theorem dX4_endDay_171 : decode cX4_endDay 171 = .ok (.putfield 15, 3) := by decide +kernel
theorem dX4_endDay_174 : decode cX4_endDay 174 = .ok (.return_, 1) := by decide +kernel
theorem dX4_emptyJarsOf_0 : decode cX4_emptyJarsOf 0 = .ok (.iconst 0, 1) := by decide +kernel
theorem dX4_emptyJarsOf_1 : decode cX4_emptyJarsOf 1 = .ok (.istore_n 3, 1) := by decide +kernel
theorem dX4_emptyJarsOf_2 : decode cX4_emptyJarsOf 2 = .ok (.iconst 0, 1) := by decide +kernel
theorem dX4_emptyJarsOf_3 : decode cX4_emptyJarsOf 3 = .ok (.istore 4, 2) := by decide +kernel
theorem dX4_emptyJarsOf_5 : decode cX4_emptyJarsOf 5 = .ok (.iload 4, 2) := by decide +kernel
theorem dX4_emptyJarsOf_7 : decode cX4_emptyJarsOf 7 = .ok (.bipush 6, 2) := by decide +kernel
theorem dX4_emptyJarsOf_9 : decode cX4_emptyJarsOf 9 = .ok (.if_icmp .ge 41, 3) := by decide +kernel
theorem dX4_emptyJarsOf_12 : decode cX4_emptyJarsOf 12 = .ok (.aload_n 1, 1) := by decide +kernel
theorem dX4_emptyJarsOf_13 : decode cX4_emptyJarsOf 13 = .ok (.getfield 137, 3) := by decide +kernel
theorem dX4_emptyJarsOf_16 : decode cX4_emptyJarsOf 16 = .ok (.iload 4, 2) := by decide +kernel
theorem dX4_emptyJarsOf_18 : decode cX4_emptyJarsOf 18 = .ok (.iaload, 1) := by decide +kernel
theorem dX4_emptyJarsOf_19 : decode cX4_emptyJarsOf 19 = .ok (.iload_n 2, 1) := by decide +kernel
theorem dX4_emptyJarsOf_20 : decode cX4_emptyJarsOf 20 = .ok (.if_icmp .eq 6, 3) := by decide +kernel
theorem dX4_emptyJarsOf_23 : decode cX4_emptyJarsOf 23 = .ok (.goto 21, 3) := by decide +kernel
theorem dX4_emptyJarsOf_26 : decode cX4_emptyJarsOf 26 = .ok (.iload_n 3, 1) := by decide +kernel
theorem dX4_emptyJarsOf_27 : decode cX4_emptyJarsOf 27 = .ok (.aload_n 0, 1) := by decide +kernel
theorem dX4_emptyJarsOf_28 : decode cX4_emptyJarsOf 28 = .ok (.getfield 35, 3) := by decide +kernel
theorem dX4_emptyJarsOf_31 : decode cX4_emptyJarsOf 31 = .ok (.iload 4, 2) := by decide +kernel
theorem dX4_emptyJarsOf_33 : decode cX4_emptyJarsOf 33 = .ok (.iaload, 1) := by decide +kernel
theorem dX4_emptyJarsOf_34 : decode cX4_emptyJarsOf 34 = .ok (.iadd, 1) := by decide +kernel
theorem dX4_emptyJarsOf_35 : decode cX4_emptyJarsOf 35 = .ok (.istore_n 3, 1) := by decide +kernel
theorem dX4_emptyJarsOf_36 : decode cX4_emptyJarsOf 36 = .ok (.aload_n 0, 1) := by decide +kernel
theorem dX4_emptyJarsOf_37 : decode cX4_emptyJarsOf 37 = .ok (.getfield 35, 3) := by decide +kernel
theorem dX4_emptyJarsOf_40 : decode cX4_emptyJarsOf 40 = .ok (.iload 4, 2) := by decide +kernel
theorem dX4_emptyJarsOf_42 : decode cX4_emptyJarsOf 42 = .ok (.iconst 0, 1) := by decide +kernel
theorem dX4_emptyJarsOf_43 : decode cX4_emptyJarsOf 43 = .ok (.iastore, 1) := by decide +kernel
theorem dX4_emptyJarsOf_44 : decode cX4_emptyJarsOf 44 = .ok (.iinc 4 1, 3) := by decide +kernel
theorem dX4_emptyJarsOf_47 : decode cX4_emptyJarsOf 47 = .ok (.goto (-42), 3) := by decide +kernel
theorem dX4_emptyJarsOf_50 : decode cX4_emptyJarsOf 50 = .ok (.aload_n 0, 1) := by decide +kernel
theorem dX4_emptyJarsOf_51 : decode cX4_emptyJarsOf 51 = .ok (.getfield 38, 3) := by decide +kernel
theorem dX4_emptyJarsOf_54 : decode cX4_emptyJarsOf 54 = .ok (.iload_n 2, 1) := by decide +kernel
theorem dX4_emptyJarsOf_55 : decode cX4_emptyJarsOf 55 = .ok (.aload_n 0, 1) := by decide +kernel
theorem dX4_emptyJarsOf_56 : decode cX4_emptyJarsOf 56 = .ok (.getfield 38, 3) := by decide +kernel
theorem dX4_emptyJarsOf_59 : decode cX4_emptyJarsOf 59 = .ok (.iload_n 2, 1) := by decide +kernel
theorem dX4_emptyJarsOf_60 : decode cX4_emptyJarsOf 60 = .ok (.invokestatic 121, 3) := by decide +kernel
theorem dX4_emptyJarsOf_63 : decode cX4_emptyJarsOf 63 = .ok (.iload_n 3, 1) := by decide +kernel
theorem dX4_emptyJarsOf_64 : decode cX4_emptyJarsOf 64 = .ok (.iadd, 1) := by decide +kernel
theorem dX4_emptyJarsOf_65 : decode cX4_emptyJarsOf 65 = .ok (.ldc 140, 2) := by decide +kernel
theorem dX4_emptyJarsOf_67 : decode cX4_emptyJarsOf 67 = .ok (.invokestatic 134, 3) := by decide +kernel
theorem dX4_emptyJarsOf_70 : decode cX4_emptyJarsOf 70 = .ok (.invokestatic 141, 3) := by decide +kernel
theorem dX4_emptyJarsOf_73 : decode cX4_emptyJarsOf 73 = .ok (.iload_n 3, 1) := by decide +kernel
theorem dX4_emptyJarsOf_74 : decode cX4_emptyJarsOf 74 = .ok (.ireturn, 1) := by decide +kernel
theorem dX4_loseFromJar_0 : decode cX4_loseFromJar 0 = .ok (.aload_n 0, 1) := by decide +kernel
theorem dX4_loseFromJar_1 : decode cX4_loseFromJar 1 = .ok (.getfield 35, 3) := by decide +kernel
theorem dX4_loseFromJar_4 : decode cX4_loseFromJar 4 = .ok (.iload_n 1, 1) := by decide +kernel
theorem dX4_loseFromJar_5 : decode cX4_loseFromJar 5 = .ok (.aload_n 0, 1) := by decide +kernel
theorem dX4_loseFromJar_6 : decode cX4_loseFromJar 6 = .ok (.getfield 35, 3) := by decide +kernel
theorem dX4_loseFromJar_9 : decode cX4_loseFromJar 9 = .ok (.iload_n 1, 1) := by decide +kernel
theorem dX4_loseFromJar_10 : decode cX4_loseFromJar 10 = .ok (.invokestatic 121, 3) := by decide +kernel
theorem dX4_loseFromJar_13 : decode cX4_loseFromJar 13 = .ok (.iload_n 2, 1) := by decide +kernel
theorem dX4_loseFromJar_14 : decode cX4_loseFromJar 14 = .ok (.isub, 1) := by decide +kernel
theorem dX4_loseFromJar_15 : decode cX4_loseFromJar 15 = .ok (.iconst 0, 1) := by decide +kernel
theorem dX4_loseFromJar_16 : decode cX4_loseFromJar 16 = .ok (.invokestatic 69, 3) := by decide +kernel
theorem dX4_loseFromJar_19 : decode cX4_loseFromJar 19 = .ok (.invokestatic 141, 3) := by decide +kernel
theorem dX4_loseFromJar_22 : decode cX4_loseFromJar 22 = .ok (.aload_n 0, 1) := by decide +kernel
theorem dX4_loseFromJar_23 : decode cX4_loseFromJar 23 = .ok (.getfield 35, 3) := by decide +kernel
theorem dX4_loseFromJar_26 : decode cX4_loseFromJar 26 = .ok (.iload_n 1, 1) := by decide +kernel
theorem dX4_loseFromJar_27 : decode cX4_loseFromJar 27 = .ok (.invokestatic 121, 3) := by decide +kernel
theorem dX4_loseFromJar_30 : decode cX4_loseFromJar 30 = .ok (.ireturn, 1) := by decide +kernel
theorem dX4_counted_0 : decode cX4_counted 0 = .ok (.iload_n 0, 1) := by decide +kernel
theorem dX4_counted_1 : decode cX4_counted 1 = .ok (.ldc 145, 2) := by decide +kernel
theorem dX4_counted_3 : decode cX4_counted 3 = .ok (.invokestatic 134, 3) := by decide +kernel
theorem dX4_counted_6 : decode cX4_counted 6 = .ok (.ireturn, 1) := by decide +kernel
theorem dX5_init_0 : decode cX5_init 0 = .ok (.aload_n 0, 1) := by decide +kernel
theorem dX5_init_1 : decode cX5_init 1 = .ok (.invokespecial 3, 3) := by decide +kernel
theorem dX5_init_4 : decode cX5_init 4 = .ok (.aload_n 0, 1) := by decide +kernel
theorem dX5_init_5 : decode cX5_init 5 = .ok (.bipush 6, 2) := by decide +kernel
theorem dX5_init_7 : decode cX5_init 7 = .ok (.newarray .int, 2) := by decide +kernel
theorem dX5_init_9 : decode cX5_init 9 = .ok (.putfield 9, 3) := by decide +kernel
theorem dX5_init_12 : decode cX5_init 12 = .ok (.aload_n 0, 1) := by decide +kernel
theorem dX5_init_13 : decode cX5_init 13 = .ok (.bipush 12, 2) := by decide +kernel
theorem dX5_init_15 : decode cX5_init 15 = .ok (.newarray .int, 2) := by decide +kernel
theorem dX5_init_17 : decode cX5_init 17 = .ok (.putfield 15, 3) := by decide +kernel
theorem dX5_init_20 : decode cX5_init 20 = .ok (.aload_n 0, 1) := by decide +kernel
theorem dX5_init_21 : decode cX5_init 21 = .ok (.iconst 0, 1) := by decide +kernel
theorem dX5_init_22 : decode cX5_init 22 = .ok (.putfield 18, 3) := by decide +kernel
theorem dX5_init_25 : decode cX5_init 25 = .ok (.return_, 1) := by decide +kernel
theorem dX5_blow_0 : decode cX5_blow 0 = .ok (.aload_n 0, 1) := by decide +kernel
theorem dX5_blow_1 : decode cX5_blow 1 = .ok (.aload_n 1, 1) := by decide +kernel
theorem dX5_blow_2 : decode cX5_blow 2 = .ok (.iload_n 2, 1) := by decide +kernel
theorem dX5_blow_3 : decode cX5_blow 3 = .ok (.iload_n 3, 1) := by decide +kernel
theorem dX5_blow_4 : decode cX5_blow 4 = .ok (.iload 4, 2) := by decide +kernel
theorem dX5_blow_6 : decode cX5_blow 6 = .ok (.invokevirtual 22, 3) := by decide +kernel
theorem dX5_blow_9 : decode cX5_blow 9 = .ok (.aload_n 0, 1) := by decide +kernel
theorem dX5_blow_10 : decode cX5_blow 10 = .ok (.iload 5, 2) := by decide +kernel
theorem dX5_blow_12 : decode cX5_blow 12 = .ok (.putfield 18, 3) := by decide +kernel
theorem dX5_blow_15 : decode cX5_blow 15 = .ok (.iconst 0, 1) := by decide +kernel
theorem dX5_blow_16 : decode cX5_blow 16 = .ok (.istore 6, 2) := by decide +kernel
theorem dX5_blow_18 : decode cX5_blow 18 = .ok (.iload 6, 2) := by decide +kernel
theorem dX5_blow_20 : decode cX5_blow 20 = .ok (.bipush 12, 2) := by decide +kernel
theorem dX5_blow_22 : decode cX5_blow 22 = .ok (.if_icmp .ge 97, 3) := by decide +kernel
theorem dX5_blow_25 : decode cX5_blow 25 = .ok (.aload_n 0, 1) := by decide +kernel
theorem dX5_blow_26 : decode cX5_blow 26 = .ok (.getfield 15, 3) := by decide +kernel
theorem dX5_blow_29 : decode cX5_blow 29 = .ok (.iload 6, 2) := by decide +kernel
theorem dX5_blow_31 : decode cX5_blow 31 = .ok (.iaload, 1) := by decide +kernel
theorem dX5_blow_32 : decode cX5_blow 32 = .ok (.istore 7, 2) := by decide +kernel
theorem dX5_blow_34 : decode cX5_blow 34 = .ok (.iload 7, 2) := by decide +kernel
theorem dX5_blow_36 : decode cX5_blow 36 = .ok (.ifCond .lt 77, 3) := by decide +kernel
theorem dX5_blow_39 : decode cX5_blow 39 = .ok (.iload 7, 2) := by decide +kernel
theorem dX5_blow_41 : decode cX5_blow 41 = .ok (.bipush 6, 2) := by decide +kernel
theorem dX5_blow_43 : decode cX5_blow 43 = .ok (.if_icmp .lt 6, 3) := by decide +kernel
theorem dX5_blow_46 : decode cX5_blow 46 = .ok (.goto 67, 3) := by decide +kernel
theorem dX5_blow_49 : decode cX5_blow 49 = .ok (.aload_n 0, 1) := by decide +kernel
theorem dX5_blow_50 : decode cX5_blow 50 = .ok (.getfield 18, 3) := by decide +kernel
theorem dX5_blow_53 : decode cX5_blow 53 = .ok (.bipush 20, 2) := by decide +kernel
theorem dX5_blow_55 : decode cX5_blow 55 = .ok (.if_icmp .lt 13, 3) := by decide +kernel
theorem dX5_blow_58 : decode cX5_blow 58 = .ok (.aload_n 1, 1) := by decide +kernel
theorem dX5_blow_59 : decode cX5_blow 59 = .ok (.getfield 26, 3) := by decide +kernel
theorem dX5_blow_62 : decode cX5_blow 62 = .ok (.iload 7, 2) := by decide +kernel
theorem dX5_blow_64 : decode cX5_blow 64 = .ok (.iaload, 1) := by decide +kernel
theorem dX5_blow_65 : decode cX5_blow 65 = .ok (.goto 13, 3) := by decide +kernel
theorem dX5_blow_68 : decode cX5_blow 68 = .ok (.bipush 9, 2) := by decide +kernel
theorem dX5_blow_70 : decode cX5_blow 70 = .ok (.aload_n 1, 1) := by decide +kernel
theorem dX5_blow_71 : decode cX5_blow 71 = .ok (.getfield 26, 3) := by decide +kernel
theorem dX5_blow_74 : decode cX5_blow 74 = .ok (.iload 7, 2) := by decide +kernel
theorem dX5_blow_76 : decode cX5_blow 76 = .ok (.iaload, 1) := by decide +kernel
theorem dX5_blow_77 : decode cX5_blow 77 = .ok (.isub, 1) := by decide +kernel
theorem dX5_blow_78 : decode cX5_blow 78 = .ok (.istore 8, 2) := by decide +kernel
theorem dX5_blow_80 : decode cX5_blow 80 = .ok (.aload_n 0, 1) := by decide +kernel
theorem dX5_blow_81 : decode cX5_blow 81 = .ok (.getfield 9, 3) := by decide +kernel
theorem dX5_blow_84 : decode cX5_blow 84 = .ok (.iload 7, 2) := by decide +kernel
theorem dX5_blow_86 : decode cX5_blow 86 = .ok (.aload_n 0, 1) := by decide +kernel
theorem dX5_blow_87 : decode cX5_blow 87 = .ok (.getfield 18, 3) := by decide +kernel
theorem dX5_blow_90 : decode cX5_blow 90 = .ok (.iload 8, 2) := by decide +kernel
theorem dX5_blow_92 : decode cX5_blow 92 = .ok (.imul, 1) := by decide +kernel
theorem dX5_blow_93 : decode cX5_blow 93 = .ok (.bipush 10, 2) := by decide +kernel
theorem dX5_blow_95 : decode cX5_blow 95 = .ok (.idiv, 1) := by decide +kernel
theorem dX5_blow_96 : decode cX5_blow 96 = .ok (.iastore, 1) := by decide +kernel
theorem dX5_blow_97 : decode cX5_blow 97 = .ok (.aload_n 0, 1) := by decide +kernel
theorem dX5_blow_98 : decode cX5_blow 98 = .ok (.dup, 1) := by decide +kernel
theorem dX5_blow_99 : decode cX5_blow 99 = .ok (.getfield 18, 3) := by decide +kernel
theorem dX5_blow_102 : decode cX5_blow 102 = .ok (.aload_n 0, 1) := by decide +kernel
theorem dX5_blow_103 : decode cX5_blow 103 = .ok (.getfield 9, 3) := by decide +kernel
theorem dX5_blow_106 : decode cX5_blow 106 = .ok (.iload 7, 2) := by decide +kernel
theorem dX5_blow_108 : decode cX5_blow 108 = .ok (.iaload, 1) := by decide +kernel
theorem dX5_blow_109 : decode cX5_blow 109 = .ok (.isub, 1) := by decide +kernel
theorem dX5_blow_110 : decode cX5_blow 110 = .ok (.putfield 18, 3) := by decide +kernel
theorem dX5_blow_113 : decode cX5_blow 113 = .ok (.iinc 6 1, 3) := by decide +kernel
theorem dX5_blow_116 : decode cX5_blow 116 = .ok (.goto (-98), 3) := by decide +kernel
theorem dX5_blow_119 : decode cX5_blow 119 = .ok (.return_, 1) := by decide +kernel
theorem dX5_takerOf_0 : decode cX5_takerOf 0 = .ok (.iconst 0, 1) := by decide +kernel
theorem dX5_takerOf_1 : decode cX5_takerOf 1 = .ok (.istore_n 2, 1) := by decide +kernel
theorem dX5_takerOf_2 : decode cX5_takerOf 2 = .ok (.iconst 0, 1) := by decide +kernel
theorem dX5_takerOf_3 : decode cX5_takerOf 3 = .ok (.istore_n 3, 1) := by decide +kernel
theorem dX5_takerOf_4 : decode cX5_takerOf 4 = .ok (.iload_n 3, 1) := by decide +kernel
theorem dX5_takerOf_5 : decode cX5_takerOf 5 = .ok (.bipush 12, 2) := by decide +kernel
theorem dX5_takerOf_7 : decode cX5_takerOf 7 = .ok (.if_icmp .ge 46, 3) := by decide +kernel
theorem dX5_takerOf_10 : decode cX5_takerOf 10 = .ok (.aload_n 0, 1) := by decide +kernel
theorem dX5_takerOf_11 : decode cX5_takerOf 11 = .ok (.getfield 15, 3) := by decide +kernel
theorem dX5_takerOf_14 : decode cX5_takerOf 14 = .ok (.iload_n 3, 1) := by decide +kernel
theorem dX5_takerOf_15 : decode cX5_takerOf 15 = .ok (.iaload, 1) := by decide +kernel
theorem dX5_takerOf_16 : decode cX5_takerOf 16 = .ok (.istore 4, 2) := by decide +kernel
theorem dX5_takerOf_18 : decode cX5_takerOf 18 = .ok (.iload 4, 2) := by decide +kernel
theorem dX5_takerOf_20 : decode cX5_takerOf 20 = .ok (.iconst (-1), 1) := by decide +kernel
theorem dX5_takerOf_21 : decode cX5_takerOf 21 = .ok (.if_icmp .ne 6, 3) := by decide +kernel
theorem dX5_takerOf_24 : decode cX5_takerOf 24 = .ok (.goto 23, 3) := by decide +kernel
theorem dX5_takerOf_27 : decode cX5_takerOf 27 = .ok (.iload_n 2, 1) := by decide +kernel
theorem dX5_takerOf_28 : decode cX5_takerOf 28 = .ok (.aload_n 0, 1) := by decide +kernel
theorem dX5_takerOf_29 : decode cX5_takerOf 29 = .ok (.getfield 9, 3) := by decide +kernel
theorem dX5_takerOf_32 : decode cX5_takerOf 32 = .ok (.iload 4, 2) := by decide +kernel
theorem dX5_takerOf_34 : decode cX5_takerOf 34 = .ok (.invokestatic 31, 3) := by decide +kernel
theorem dX5_takerOf_37 : decode cX5_takerOf 37 = .ok (.iadd, 1) := by decide +kernel
theorem dX5_takerOf_38 : decode cX5_takerOf 38 = .ok (.istore_n 2, 1) := by decide +kernel
theorem dX5_takerOf_39 : decode cX5_takerOf 39 = .ok (.iload_n 1, 1) := by decide +kernel
theorem dX5_takerOf_40 : decode cX5_takerOf 40 = .ok (.iload_n 2, 1) := by decide +kernel
theorem dX5_takerOf_41 : decode cX5_takerOf 41 = .ok (.if_icmp .ge 6, 3) := by decide +kernel
theorem dX5_takerOf_44 : decode cX5_takerOf 44 = .ok (.iload 4, 2) := by decide +kernel
theorem dX5_takerOf_46 : decode cX5_takerOf 46 = .ok (.ireturn, 1) := by decide +kernel
theorem dX5_takerOf_47 : decode cX5_takerOf 47 = .ok (.iinc 3 1, 3) := by decide +kernel
theorem dX5_takerOf_50 : decode cX5_takerOf 50 = .ok (.goto (-46), 3) := by decide +kernel
theorem dX5_takerOf_53 : decode cX5_takerOf 53 = .ok (.iconst (-1), 1) := by decide +kernel
theorem dX5_takerOf_54 : decode cX5_takerOf 54 = .ok (.ireturn, 1) := by decide +kernel
theorem dX5_lineUp_0 : decode cX5_lineUp 0 = .ok (.iconst 0, 1) := by decide +kernel
theorem dX5_lineUp_1 : decode cX5_lineUp 1 = .ok (.istore 5, 2) := by decide +kernel
theorem dX5_lineUp_3 : decode cX5_lineUp 3 = .ok (.iload 5, 2) := by decide +kernel
theorem dX5_lineUp_5 : decode cX5_lineUp 5 = .ok (.bipush 12, 2) := by decide +kernel
theorem dX5_lineUp_7 : decode cX5_lineUp 7 = .ok (.if_icmp .ge 17, 3) := by decide +kernel
theorem dX5_lineUp_10 : decode cX5_lineUp 10 = .ok (.aload_n 0, 1) := by decide +kernel
theorem dX5_lineUp_11 : decode cX5_lineUp 11 = .ok (.getfield 15, 3) := by decide +kernel
theorem dX5_lineUp_14 : decode cX5_lineUp 14 = .ok (.iload 5, 2) := by decide +kernel
theorem dX5_lineUp_16 : decode cX5_lineUp 16 = .ok (.iconst (-1), 1) := by decide +kernel
theorem dX5_lineUp_17 : decode cX5_lineUp 17 = .ok (.iastore, 1) := by decide +kernel
theorem dX5_lineUp_18 : decode cX5_lineUp 18 = .ok (.iinc 5 1, 3) := by decide +kernel
theorem dX5_lineUp_21 : decode cX5_lineUp 21 = .ok (.goto (-18), 3) := by decide +kernel
theorem dX5_lineUp_24 : decode cX5_lineUp 24 = .ok (.iconst 0, 1) := by decide +kernel
theorem dX5_lineUp_25 : decode cX5_lineUp 25 = .ok (.istore 5, 2) := by decide +kernel
theorem dX5_lineUp_27 : decode cX5_lineUp 27 = .ok (.iload 5, 2) := by decide +kernel
theorem dX5_lineUp_29 : decode cX5_lineUp 29 = .ok (.bipush 6, 2) := by decide +kernel
theorem dX5_lineUp_31 : decode cX5_lineUp 31 = .ok (.if_icmp .ge 62, 3) := by decide +kernel
theorem dX5_lineUp_34 : decode cX5_lineUp 34 = .ok (.aload_n 0, 1) := by decide +kernel
theorem dX5_lineUp_35 : decode cX5_lineUp 35 = .ok (.getfield 9, 3) := by decide +kernel
theorem dX5_lineUp_38 : decode cX5_lineUp 38 = .ok (.iload 5, 2) := by decide +kernel
theorem dX5_lineUp_40 : decode cX5_lineUp 40 = .ok (.iconst 0, 1) := by decide +kernel
theorem dX5_lineUp_41 : decode cX5_lineUp 41 = .ok (.iastore, 1) := by decide +kernel
theorem dX5_lineUp_42 : decode cX5_lineUp 42 = .ok (.iload_n 3, 1) := by decide +kernel
theorem dX5_lineUp_43 : decode cX5_lineUp 43 = .ok (.iload 5, 2) := by decide +kernel
theorem dX5_lineUp_45 : decode cX5_lineUp 45 = .ok (.ishr, 1) := by decide +kernel
theorem dX5_lineUp_46 : decode cX5_lineUp 46 = .ok (.iconst 1, 1) := by decide +kernel
theorem dX5_lineUp_47 : decode cX5_lineUp 47 = .ok (.iand, 1) := by decide +kernel
theorem dX5_lineUp_48 : decode cX5_lineUp 48 = .ok (.iconst 1, 1) := by decide +kernel
theorem dX5_lineUp_49 : decode cX5_lineUp 49 = .ok (.if_icmp .ne 38, 3) := by decide +kernel
theorem dX5_lineUp_52 : decode cX5_lineUp 52 = .ok (.aload_n 0, 1) := by decide +kernel
theorem dX5_lineUp_53 : decode cX5_lineUp 53 = .ok (.getfield 15, 3) := by decide +kernel
theorem dX5_lineUp_56 : decode cX5_lineUp 56 = .ok (.iload 4, 2) := by decide +kernel
theorem dX5_lineUp_58 : decode cX5_lineUp 58 = .ok (.ifCond .ne 13, 3) := by decide +kernel
theorem dX5_lineUp_61 : decode cX5_lineUp 61 = .ok (.aload_n 1, 1) := by decide +kernel
theorem dX5_lineUp_62 : decode cX5_lineUp 62 = .ok (.getfield 35, 3) := by decide +kernel
theorem dX5_lineUp_65 : decode cX5_lineUp 65 = .ok (.iload 5, 2) := by decide +kernel
theorem dX5_lineUp_67 : decode cX5_lineUp 67 = .ok (.iaload, 1) := by decide +kernel
theorem dX5_lineUp_68 : decode cX5_lineUp 68 = .ok (.goto 14, 3) := by decide +kernel
theorem dX5_lineUp_71 : decode cX5_lineUp 71 = .ok (.iload_n 2, 1) := by decide +kernel
theorem dX5_lineUp_72 : decode cX5_lineUp 72 = .ok (.iconst 1, 1) := by decide +kernel
theorem dX5_lineUp_73 : decode cX5_lineUp 73 = .ok (.isub, 1) := by decide +kernel
theorem dX5_lineUp_74 : decode cX5_lineUp 74 = .ok (.aload_n 1, 1) := by decide +kernel
theorem dX5_lineUp_75 : decode cX5_lineUp 75 = .ok (.getfield 35, 3) := by decide +kernel
theorem dX5_lineUp_78 : decode cX5_lineUp 78 = .ok (.iload 5, 2) := by decide +kernel
theorem dX5_lineUp_80 : decode cX5_lineUp 80 = .ok (.iaload, 1) := by decide +kernel
theorem dX5_lineUp_81 : decode cX5_lineUp 81 = .ok (.isub, 1) := by decide +kernel
theorem dX5_lineUp_82 : decode cX5_lineUp 82 = .ok (.iload 5, 2) := by decide +kernel
theorem dX5_lineUp_84 : decode cX5_lineUp 84 = .ok (.invokestatic 38, 3) := by decide +kernel
theorem dX5_lineUp_87 : decode cX5_lineUp 87 = .ok (.iinc 5 1, 3) := by decide +kernel
theorem dX5_lineUp_90 : decode cX5_lineUp 90 = .ok (.goto (-63), 3) := by decide +kernel
theorem dX5_lineUp_93 : decode cX5_lineUp 93 = .ok (.return_, 1) := by decide +kernel
theorem dX6_init_0 : decode cX6_init 0 = .ok (.aload_n 0, 1) := by decide +kernel
theorem dX6_init_1 : decode cX6_init 1 = .ok (.invokespecial 1, 3) := by decide +kernel
theorem dX6_init_4 : decode cX6_init 4 = .ok (.aload_n 0, 1) := by decide +kernel
theorem dX6_init_5 : decode cX6_init 5 = .ok (.new 7, 3) := by decide +kernel
theorem dX6_init_8 : decode cX6_init 8 = .ok (.dup, 1) := by decide +kernel
theorem dX6_init_9 : decode cX6_init 9 = .ok (.invokespecial 9, 3) := by decide +kernel
theorem dX6_init_12 : decode cX6_init 12 = .ok (.putfield 10, 3) := by decide +kernel
theorem dX6_init_15 : decode cX6_init 15 = .ok (.aload_n 0, 1) := by decide +kernel
theorem dX6_init_16 : decode cX6_init 16 = .ok (.new 16, 3) := by decide +kernel
theorem dX6_init_19 : decode cX6_init 19 = .ok (.dup, 1) := by decide +kernel
theorem dX6_init_20 : decode cX6_init 20 = .ok (.invokespecial 18, 3) := by decide +kernel
theorem dX6_init_23 : decode cX6_init 23 = .ok (.putfield 19, 3) := by decide +kernel
theorem dX6_init_26 : decode cX6_init 26 = .ok (.aload_n 0, 1) := by decide +kernel
theorem dX6_init_27 : decode cX6_init 27 = .ok (.new 16, 3) := by decide +kernel
theorem dX6_init_30 : decode cX6_init 30 = .ok (.dup, 1) := by decide +kernel
theorem dX6_init_31 : decode cX6_init 31 = .ok (.invokespecial 18, 3) := by decide +kernel
theorem dX6_init_34 : decode cX6_init 34 = .ok (.putfield 23, 3) := by decide +kernel
theorem dX6_init_37 : decode cX6_init 37 = .ok (.aload_n 0, 1) := by decide +kernel
theorem dX6_init_38 : decode cX6_init 38 = .ok (.new 26, 3) := by decide +kernel
theorem dX6_init_41 : decode cX6_init 41 = .ok (.dup, 1) := by decide +kernel
theorem dX6_init_42 : decode cX6_init 42 = .ok (.invokespecial 28, 3) := by decide +kernel
theorem dX6_init_45 : decode cX6_init 45 = .ok (.putfield 29, 3) := by decide +kernel
theorem dX6_init_48 : decode cX6_init 48 = .ok (.aload_n 0, 1) := by decide +kernel
theorem dX6_init_49 : decode cX6_init 49 = .ok (.new 26, 3) := by decide +kernel
theorem dX6_init_52 : decode cX6_init 52 = .ok (.dup, 1) := by decide +kernel
theorem dX6_init_53 : decode cX6_init 53 = .ok (.invokespecial 28, 3) := by decide +kernel
theorem dX6_init_56 : decode cX6_init 56 = .ok (.putfield 33, 3) := by decide +kernel
theorem dX6_init_59 : decode cX6_init 59 = .ok (.aload_n 0, 1) := by decide +kernel
theorem dX6_init_60 : decode cX6_init 60 = .ok (.bipush 6, 2) := by decide +kernel
theorem dX6_init_62 : decode cX6_init 62 = .ok (.newarray .int, 2) := by decide +kernel
theorem dX6_init_64 : decode cX6_init 64 = .ok (.putfield 36, 3) := by decide +kernel
theorem dX6_init_67 : decode cX6_init 67 = .ok (.aload_n 0, 1) := by decide +kernel
theorem dX6_init_68 : decode cX6_init 68 = .ok (.new 40, 3) := by decide +kernel
theorem dX6_init_71 : decode cX6_init 71 = .ok (.dup, 1) := by decide +kernel
theorem dX6_init_72 : decode cX6_init 72 = .ok (.invokespecial 42, 3) := by decide +kernel
theorem dX6_init_75 : decode cX6_init 75 = .ok (.putfield 43, 3) := by decide +kernel
theorem dX6_init_78 : decode cX6_init 78 = .ok (.aload_n 0, 1) := by decide +kernel
theorem dX6_init_79 : decode cX6_init 79 = .ok (.new 47, 3) := by decide +kernel
theorem dX6_init_82 : decode cX6_init 82 = .ok (.dup, 1) := by decide +kernel
theorem dX6_init_83 : decode cX6_init 83 = .ok (.invokespecial 49, 3) := by decide +kernel
theorem dX6_init_86 : decode cX6_init 86 = .ok (.putfield 50, 3) := by decide +kernel
theorem dX6_init_89 : decode cX6_init 89 = .ok (.aload_n 0, 1) := by decide +kernel
theorem dX6_init_90 : decode cX6_init 90 = .ok (.iconst 2, 1) := by decide +kernel
theorem dX6_init_91 : decode cX6_init 91 = .ok (.anewarray 26, 3) := by decide +kernel
theorem dX6_init_94 : decode cX6_init 94 = .ok (.dup, 1) := by decide +kernel
theorem dX6_init_95 : decode cX6_init 95 = .ok (.iconst 0, 1) := by decide +kernel
theorem dX6_init_96 : decode cX6_init 96 = .ok (.new 26, 3) := by decide +kernel
theorem dX6_init_99 : decode cX6_init 99 = .ok (.dup, 1) := by decide +kernel
theorem dX6_init_100 : decode cX6_init 100 = .ok (.invokespecial 28, 3) := by decide +kernel
theorem dX6_init_103 : decode cX6_init 103 = .ok (.aastore, 1) := by decide +kernel
theorem dX6_init_104 : decode cX6_init 104 = .ok (.dup, 1) := by decide +kernel
theorem dX6_init_105 : decode cX6_init 105 = .ok (.iconst 1, 1) := by decide +kernel
theorem dX6_init_106 : decode cX6_init 106 = .ok (.new 26, 3) := by decide +kernel
theorem dX6_init_109 : decode cX6_init 109 = .ok (.dup, 1) := by decide +kernel
theorem dX6_init_110 : decode cX6_init 110 = .ok (.invokespecial 28, 3) := by decide +kernel
theorem dX6_init_113 : decode cX6_init 113 = .ok (.aastore, 1) := by decide +kernel
theorem dX6_init_114 : decode cX6_init 114 = .ok (.putfield 54, 3) := by decide +kernel
theorem dX6_init_117 : decode cX6_init 117 = .ok (.aload_n 0, 1) := by decide +kernel
theorem dX6_init_118 : decode cX6_init 118 = .ok (.iconst 2, 1) := by decide +kernel
theorem dX6_init_119 : decode cX6_init 119 = .ok (.newarray .int, 2) := by decide +kernel
theorem dX6_init_121 : decode cX6_init 121 = .ok (.dup, 1) := by decide +kernel
theorem dX6_init_122 : decode cX6_init 122 = .ok (.iconst 0, 1) := by decide +kernel
theorem dX6_init_123 : decode cX6_init 123 = .ok (.iconst (-1), 1) := by decide +kernel
theorem dX6_init_124 : decode cX6_init 124 = .ok (.iastore, 1) := by decide +kernel
theorem dX6_init_125 : decode cX6_init 125 = .ok (.dup, 1) := by decide +kernel
theorem dX6_init_126 : decode cX6_init 126 = .ok (.iconst 1, 1) := by decide +kernel
theorem dX6_init_127 : decode cX6_init 127 = .ok (.iconst (-1), 1) := by decide +kernel
theorem dX6_init_128 : decode cX6_init 128 = .ok (.iastore, 1) := by decide +kernel
theorem dX6_init_129 : decode cX6_init 129 = .ok (.putfield 58, 3) := by decide +kernel
theorem dX6_init_132 : decode cX6_init 132 = .ok (.aload_n 0, 1) := by decide +kernel
theorem dX6_init_133 : decode cX6_init 133 = .ok (.iconst 0, 1) := by decide +kernel
theorem dX6_init_134 : decode cX6_init 134 = .ok (.putfield 61, 3) := by decide +kernel
theorem dX6_init_137 : decode cX6_init 137 = .ok (.aload_n 0, 1) := by decide +kernel
theorem dX6_init_138 : decode cX6_init 138 = .ok (.new 65, 3) := by decide +kernel
theorem dX6_init_141 : decode cX6_init 141 = .ok (.dup, 1) := by decide +kernel
theorem dX6_init_142 : decode cX6_init 142 = .ok (.bipush 6, 2) := by decide +kernel
theorem dX6_init_144 : decode cX6_init 144 = .ok (.invokespecial 67, 3) := by decide +kernel
theorem dX6_init_147 : decode cX6_init 147 = .ok (.putfield 70, 3) := by decide +kernel
theorem dX6_init_150 : decode cX6_init 150 = .ok (.aload_n 0, 1) := by decide +kernel
theorem dX6_init_151 : decode cX6_init 151 = .ok (.new 65, 3) := by decide +kernel
theorem dX6_init_154 : decode cX6_init 154 = .ok (.dup, 1) := by decide +kernel
theorem dX6_init_155 : decode cX6_init 155 = .ok (.bipush 20, 2) := by decide +kernel
theorem dX6_init_157 : decode cX6_init 157 = .ok (.invokespecial 67, 3) := by decide +kernel
theorem dX6_init_160 : decode cX6_init 160 = .ok (.putfield 74, 3) := by decide +kernel
theorem dX6_init_163 : decode cX6_init 163 = .ok (.aload_n 0, 1) := by decide +kernel
theorem dX6_init_164 : decode cX6_init 164 = .ok (.bipush 41, 2) := by decide +kernel
theorem dX6_init_166 : decode cX6_init 166 = .ok (.newarray .int, 2) := by decide +kernel
theorem dX6_init_168 : decode cX6_init 168 = .ok (.putfield 77, 3) := by decide +kernel
theorem dX6_init_171 : decode cX6_init 171 = .ok (.return_, 1) := by decide +kernel
theorem dX6_feed_0 : decode cX6_feed 0 = .ok (.iload_n 1, 1) := by decide +kernel
theorem dX6_feed_1 : decode cX6_feed 1 = .ok (.iconst 0, 1) := by decide +kernel
theorem dX6_feed_2 : decode cX6_feed 2 = .ok (.sipush 255, 3) := by decide +kernel
theorem dX6_feed_5 : decode cX6_feed 5 = .ok (.invokestatic 80, 3) := by decide +kernel
theorem dX6_feed_8 : decode cX6_feed 8 = .ok (.ifCond .ne 6, 3) := by decide +kernel
theorem dX6_feed_11 : decode cX6_feed 11 = .ok (.ldc 84, 2) := by decide +kernel
theorem dX6_feed_13 : decode cX6_feed 13 = .ok (.ireturn, 1) := by decide +kernel
theorem dX6_feed_14 : decode cX6_feed 14 = .ok (.aload_n 0, 1) := by decide +kernel
theorem dX6_feed_15 : decode cX6_feed 15 = .ok (.getfield 10, 3) := by decide +kernel
theorem dX6_feed_18 : decode cX6_feed 18 = .ok (.getfield 85, 3) := by decide +kernel
theorem dX6_feed_21 : decode cX6_feed 21 = .ok (.sipush 240, 3) := by decide +kernel
theorem dX6_feed_24 : decode cX6_feed 24 = .ok (.if_icmp .lt 6, 3) := by decide +kernel
theorem dX6_feed_27 : decode cX6_feed 27 = .ok (.ldc 88, 2) := by decide +kernel
theorem dX6_feed_29 : decode cX6_feed 29 = .ok (.ireturn, 1) := by decide +kernel
theorem dX6_feed_30 : decode cX6_feed 30 = .ok (.aload_n 0, 1) := by decide +kernel
theorem dX6_feed_31 : decode cX6_feed 31 = .ok (.getfield 10, 3) := by decide +kernel
theorem dX6_feed_34 : decode cX6_feed 34 = .ok (.iload_n 1, 1) := by decide +kernel
theorem dX6_feed_35 : decode cX6_feed 35 = .ok (.invokevirtual 89, 3) := by decide +kernel
theorem dX6_feed_38 : decode cX6_feed 38 = .ok (.ireturn, 1) := by decide +kernel
theorem dX6_coast_0 : decode cX6_coast 0 = .ok (.aload_n 0, 1) := by decide +kernel
theorem dX6_coast_1 : decode cX6_coast 1 = .ok (.getfield 10, 3) := by decide +kernel
theorem dX6_coast_4 : decode cX6_coast 4 = .ok (.aload_n 0, 1) := by decide +kernel
theorem dX6_coast_5 : decode cX6_coast 5 = .ok (.getfield 23, 3) := by decide +kernel
theorem dX6_coast_8 : decode cX6_coast 8 = .ok (.invokevirtual 93, 3) := by decide +kernel
theorem dX6_coast_11 : decode cX6_coast 11 = .ok (.istore_n 1, 1) := by decide +kernel
theorem dX6_coast_12 : decode cX6_coast 12 = .ok (.iload_n 1, 1) := by decide +kernel
theorem dX6_coast_13 : decode cX6_coast 13 = .ok (.ifCond .eq 8, 3) := by decide +kernel
theorem dX6_coast_16 : decode cX6_coast 16 = .ok (.bipush (-10), 2) := by decide +kernel
theorem dX6_coast_18 : decode cX6_coast 18 = .ok (.iload_n 1, 1) := by decide +kernel
theorem dX6_coast_19 : decode cX6_coast 19 = .ok (.isub, 1) := by decide +kernel
theorem dX6_coast_20 : decode cX6_coast 20 = .ok (.ireturn, 1) := by decide +kernel
theorem dX6_coast_21 : decode cX6_coast 21 = .ok (.aload_n 0, 1) := by decide +kernel
theorem dX6_coast_22 : decode cX6_coast 22 = .ok (.getfield 19, 3) := by decide +kernel
theorem dX6_coast_25 : decode cX6_coast 25 = .ok (.astore_n 2, 1) := by decide +kernel
theorem dX6_coast_26 : decode cX6_coast 26 = .ok (.aload_n 0, 1) := by decide +kernel
theorem dX6_coast_27 : decode cX6_coast 27 = .ok (.aload_n 0, 1) := by decide +kernel
theorem dX6_coast_28 : decode cX6_coast 28 = .ok (.getfield 23, 3) := by decide +kernel
theorem dX6_coast_31 : decode cX6_coast 31 = .ok (.putfield 19, 3) := by decide +kernel
theorem dX6_coast_34 : decode cX6_coast 34 = .ok (.aload_n 0, 1) := by decide +kernel
theorem dX6_coast_35 : decode cX6_coast 35 = .ok (.aload_n 2, 1) := by decide +kernel
theorem dX6_coast_36 : decode cX6_coast 36 = .ok (.putfield 23, 3) := by decide +kernel
theorem dX6_coast_39 : decode cX6_coast 39 = .ok (.aload_n 0, 1) := by decide +kernel
theorem dX6_coast_40 : decode cX6_coast 40 = .ok (.getfield 29, 3) := by decide +kernel
theorem dX6_coast_43 : decode cX6_coast 43 = .ok (.aload_n 0, 1) := by decide +kernel
theorem dX6_coast_44 : decode cX6_coast 44 = .ok (.getfield 19, 3) := by decide +kernel
theorem dX6_coast_47 : decode cX6_coast 47 = .ok (.invokevirtual 97, 3) := by decide +kernel
theorem dX6_coast_50 : decode cX6_coast 50 = .ok (.aload_n 0, 1) := by decide +kernel
theorem dX6_coast_51 : decode cX6_coast 51 = .ok (.getfield 50, 3) := by decide +kernel
theorem dX6_coast_54 : decode cX6_coast 54 = .ok (.iconst 0, 1) := by decide +kernel
theorem dX6_coast_55 : decode cX6_coast 55 = .ok (.putfield 101, 3) := by decide +kernel
theorem dX6_coast_58 : decode cX6_coast 58 = .ok (.aload_n 0, 1) := by decide +kernel
theorem dX6_coast_59 : decode cX6_coast 59 = .ok (.getfield 58, 3) := by decide +kernel
theorem dX6_coast_62 : decode cX6_coast 62 = .ok (.iconst 0, 1) := by decide +kernel
theorem dX6_coast_63 : decode cX6_coast 63 = .ok (.iconst (-1), 1) := by decide +kernel
theorem dX6_coast_64 : decode cX6_coast 64 = .ok (.iastore, 1) := by decide +kernel
theorem dX6_coast_65 : decode cX6_coast 65 = .ok (.aload_n 0, 1) := by decide +kernel
theorem dX6_coast_66 : decode cX6_coast 66 = .ok (.getfield 58, 3) := by decide +kernel
theorem dX6_coast_69 : decode cX6_coast 69 = .ok (.iconst 1, 1) := by decide +kernel
theorem dX6_coast_70 : decode cX6_coast 70 = .ok (.iconst (-1), 1) := by decide +kernel
theorem dX6_coast_71 : decode cX6_coast 71 = .ok (.iastore, 1) := by decide +kernel
theorem dX6_coast_72 : decode cX6_coast 72 = .ok (.aload_n 0, 1) := by decide +kernel
theorem dX6_coast_73 : decode cX6_coast 73 = .ok (.getfield 70, 3) := by decide +kernel
theorem dX6_coast_76 : decode cX6_coast 76 = .ok (.iconst 0, 1) := by decide +kernel
theorem dX6_coast_77 : decode cX6_coast 77 = .ok (.putfield 104, 3) := by decide +kernel
theorem dX6_coast_80 : decode cX6_coast 80 = .ok (.aload_n 0, 1) := by decide +kernel
theorem dX6_coast_81 : decode cX6_coast 81 = .ok (.getfield 74, 3) := by decide +kernel
theorem dX6_coast_84 : decode cX6_coast 84 = .ok (.iconst 0, 1) := by decide +kernel
theorem dX6_coast_85 : decode cX6_coast 85 = .ok (.putfield 104, 3) := by decide +kernel
theorem dX6_coast_88 : decode cX6_coast 88 = .ok (.aload_n 0, 1) := by decide +kernel
theorem dX6_coast_89 : decode cX6_coast 89 = .ok (.getfield 19, 3) := by decide +kernel
theorem dX6_coast_92 : decode cX6_coast 92 = .ok (.getfield 105, 3) := by decide +kernel
theorem dX6_coast_95 : decode cX6_coast 95 = .ok (.ireturn, 1) := by decide +kernel
theorem dX6_fault_0 : decode cX6_fault 0 = .ok (.aload_n 0, 1) := by decide +kernel
theorem dX6_fault_1 : decode cX6_fault 1 = .ok (.getfield 10, 3) := by decide +kernel
theorem dX6_fault_4 : decode cX6_fault 4 = .ok (.getfield 108, 3) := by decide +kernel
theorem dX6_fault_7 : decode cX6_fault 7 = .ok (.ireturn, 1) := by decide +kernel
theorem dX6_told_0 : decode cX6_told 0 = .ok (.iload_n 1, 1) := by decide +kernel
theorem dX6_told_1 : decode cX6_told 1 = .ok (.tableswitch 219 0 15 #[79, 87, 95, 103, 111, 119, 127, 135, 143, 159, 171, 179, 187, 195, 203, 211], 79) := by decide +kernel
theorem dX6_told_80 : decode cX6_told 80 = .ok (.aload_n 0, 1) := by decide +kernel
theorem dX6_told_81 : decode cX6_told 81 = .ok (.getfield 19, 3) := by decide +kernel
theorem dX6_told_84 : decode cX6_told 84 = .ok (.getfield 111, 3) := by decide +kernel
theorem dX6_told_87 : decode cX6_told 87 = .ok (.ireturn, 1) := by decide +kernel
theorem dX6_told_88 : decode cX6_told 88 = .ok (.aload_n 0, 1) := by decide +kernel
theorem dX6_told_89 : decode cX6_told 89 = .ok (.getfield 19, 3) := by decide +kernel
theorem dX6_told_92 : decode cX6_told 92 = .ok (.getfield 114, 3) := by decide +kernel
theorem dX6_told_95 : decode cX6_told 95 = .ok (.ireturn, 1) := by decide +kernel
theorem dX6_told_96 : decode cX6_told 96 = .ok (.aload_n 0, 1) := by decide +kernel
theorem dX6_told_97 : decode cX6_told 97 = .ok (.getfield 19, 3) := by decide +kernel
theorem dX6_told_100 : decode cX6_told 100 = .ok (.invokevirtual 117, 3) := by decide +kernel
theorem dX6_told_103 : decode cX6_told 103 = .ok (.ireturn, 1) := by decide +kernel
theorem dX6_told_104 : decode cX6_told 104 = .ok (.aload_n 0, 1) := by decide +kernel
theorem dX6_told_105 : decode cX6_told 105 = .ok (.getfield 19, 3) := by decide +kernel
end
section
theorem dX6_told_108 : decode cX6_told 108 = .ok (.getfield 105, 3) := by decide +kernel
theorem dX6_told_111 : decode cX6_told 111 = .ok (.ireturn, 1) := by decide +kernel
theorem dX6_told_112 : decode cX6_told 112 = .ok (.aload_n 0, 1) := by decide +kernel
theorem dX6_told_113 : decode cX6_told 113 = .ok (.getfield 19, 3) := by decide +kernel
theorem dX6_told_116 : decode cX6_told 116 = .ok (.getfield 121, 3) := by decide +kernel
theorem dX6_told_119 : decode cX6_told 119 = .ok (.ireturn, 1) := by decide +kernel
theorem dX6_told_120 : decode cX6_told 120 = .ok (.aload_n 0, 1) := by decide +kernel
theorem dX6_told_121 : decode cX6_told 121 = .ok (.getfield 10, 3) := by decide +kernel
theorem dX6_told_124 : decode cX6_told 124 = .ok (.getfield 85, 3) := by decide +kernel
theorem dX6_told_127 : decode cX6_told 127 = .ok (.ireturn, 1) := by decide +kernel
theorem dX6_told_128 : decode cX6_told 128 = .ok (.aload_n 0, 1) := by decide +kernel
theorem dX6_told_129 : decode cX6_told 129 = .ok (.getfield 29, 3) := by decide +kernel
theorem dX6_told_132 : decode cX6_told 132 = .ok (.getfield 124, 3) := by decide +kernel
theorem dX6_told_135 : decode cX6_told 135 = .ok (.ireturn, 1) := by decide +kernel
theorem dX6_told_136 : decode cX6_told 136 = .ok (.aload_n 0, 1) := by decide +kernel
theorem dX6_told_137 : decode cX6_told 137 = .ok (.getfield 29, 3) := by decide +kernel
theorem dX6_told_140 : decode cX6_told 140 = .ok (.getfield 127, 3) := by decide +kernel
theorem dX6_told_143 : decode cX6_told 143 = .ok (.ireturn, 1) := by decide +kernel
theorem dX6_told_144 : decode cX6_told 144 = .ok (.aload_n 0, 1) := by decide +kernel
theorem dX6_told_145 : decode cX6_told 145 = .ok (.getfield 29, 3) := by decide +kernel
theorem dX6_told_148 : decode cX6_told 148 = .ok (.getfield 130, 3) := by decide +kernel
theorem dX6_told_151 : decode cX6_told 151 = .ok (.ifCond .eq 7, 3) := by decide +kernel
theorem dX6_told_154 : decode cX6_told 154 = .ok (.iconst 1, 1) := by decide +kernel
theorem dX6_told_155 : decode cX6_told 155 = .ok (.goto 4, 3) := by decide +kernel
theorem dX6_told_158 : decode cX6_told 158 = .ok (.iconst 0, 1) := by decide +kernel
theorem dX6_told_159 : decode cX6_told 159 = .ok (.ireturn, 1) := by decide +kernel
theorem dX6_told_160 : decode cX6_told 160 = .ok (.aload_n 0, 1) := by decide +kernel
theorem dX6_told_161 : decode cX6_told 161 = .ok (.getfield 29, 3) := by decide +kernel
theorem dX6_told_164 : decode cX6_told 164 = .ok (.aload_n 0, 1) := by decide +kernel
theorem dX6_told_165 : decode cX6_told 165 = .ok (.getfield 19, 3) := by decide +kernel
theorem dX6_told_168 : decode cX6_told 168 = .ok (.invokevirtual 134, 3) := by decide +kernel
theorem dX6_told_171 : decode cX6_told 171 = .ok (.ireturn, 1) := by decide +kernel
theorem dX6_told_172 : decode cX6_told 172 = .ok (.aload_n 0, 1) := by decide +kernel
theorem dX6_told_173 : decode cX6_told 173 = .ok (.getfield 29, 3) := by decide +kernel
theorem dX6_told_176 : decode cX6_told 176 = .ok (.invokevirtual 137, 3) := by decide +kernel
theorem dX6_told_179 : decode cX6_told 179 = .ok (.ireturn, 1) := by decide +kernel
theorem dX6_told_180 : decode cX6_told 180 = .ok (.aload_n 0, 1) := by decide +kernel
theorem dX6_told_181 : decode cX6_told 181 = .ok (.getfield 29, 3) := by decide +kernel
theorem dX6_told_184 : decode cX6_told 184 = .ok (.getfield 140, 3) := by decide +kernel
theorem dX6_told_187 : decode cX6_told 187 = .ok (.ireturn, 1) := by decide +kernel
theorem dX6_told_188 : decode cX6_told 188 = .ok (.aload_n 0, 1) := by decide +kernel
theorem dX6_told_189 : decode cX6_told 189 = .ok (.getfield 29, 3) := by decide +kernel
theorem dX6_told_192 : decode cX6_told 192 = .ok (.getfield 143, 3) := by decide +kernel
theorem dX6_told_195 : decode cX6_told 195 = .ok (.ireturn, 1) := by decide +kernel
theorem dX6_told_196 : decode cX6_told 196 = .ok (.aload_n 0, 1) := by decide +kernel
theorem dX6_told_197 : decode cX6_told 197 = .ok (.getfield 70, 3) := by decide +kernel
theorem dX6_told_200 : decode cX6_told 200 = .ok (.getfield 104, 3) := by decide +kernel
theorem dX6_told_203 : decode cX6_told 203 = .ok (.ireturn, 1) := by decide +kernel
theorem dX6_told_204 : decode cX6_told 204 = .ok (.aload_n 0, 1) := by decide +kernel
theorem dX6_told_205 : decode cX6_told 205 = .ok (.getfield 74, 3) := by decide +kernel
theorem dX6_told_208 : decode cX6_told 208 = .ok (.getfield 104, 3) := by decide +kernel
theorem dX6_told_211 : decode cX6_told 211 = .ok (.ireturn, 1) := by decide +kernel
theorem dX6_told_212 : decode cX6_told 212 = .ok (.aload_n 0, 1) := by decide +kernel
theorem dX6_told_213 : decode cX6_told 213 = .ok (.getfield 50, 3) := by decide +kernel
theorem dX6_told_216 : decode cX6_told 216 = .ok (.getfield 101, 3) := by decide +kernel
theorem dX6_told_219 : decode cX6_told 219 = .ok (.ireturn, 1) := by decide +kernel
theorem dX6_told_220 : decode cX6_told 220 = .ok (.ldc 84, 2) := by decide +kernel
theorem dX6_told_222 : decode cX6_told 222 = .ok (.ireturn, 1) := by decide +kernel
theorem dX6_post_0 : decode cX6_post 0 = .ok (.aload_n 0, 1) := by decide +kernel
theorem dX6_post_1 : decode cX6_post 1 = .ok (.iload_n 1, 1) := by decide +kernel
theorem dX6_post_2 : decode cX6_post 2 = .ok (.invokevirtual 146, 3) := by decide +kernel
theorem dX6_post_5 : decode cX6_post 5 = .ok (.ifCond .ne 6, 3) := by decide +kernel
theorem dX6_post_8 : decode cX6_post 8 = .ok (.ldc 150, 2) := by decide +kernel
theorem dX6_post_10 : decode cX6_post 10 = .ok (.ireturn, 1) := by decide +kernel
theorem dX6_post_11 : decode cX6_post 11 = .ok (.iload_n 2, 1) := by decide +kernel
theorem dX6_post_12 : decode cX6_post 12 = .ok (.tableswitch 96 0 4 #[36, 48, 60, 72, 84], 36) := by decide +kernel
theorem dX6_post_48 : decode cX6_post 48 = .ok (.aload_n 0, 1) := by decide +kernel
theorem dX6_post_49 : decode cX6_post 49 = .ok (.getfield 29, 3) := by decide +kernel
theorem dX6_post_52 : decode cX6_post 52 = .ok (.getfield 151, 3) := by decide +kernel
theorem dX6_post_55 : decode cX6_post 55 = .ok (.iload_n 1, 1) := by decide +kernel
theorem dX6_post_56 : decode cX6_post 56 = .ok (.invokestatic 154, 3) := by decide +kernel
theorem dX6_post_59 : decode cX6_post 59 = .ok (.ireturn, 1) := by decide +kernel
theorem dX6_post_60 : decode cX6_post 60 = .ok (.aload_n 0, 1) := by decide +kernel
theorem dX6_post_61 : decode cX6_post 61 = .ok (.getfield 29, 3) := by decide +kernel
theorem dX6_post_64 : decode cX6_post 64 = .ok (.getfield 158, 3) := by decide +kernel
theorem dX6_post_67 : decode cX6_post 67 = .ok (.iload_n 1, 1) := by decide +kernel
theorem dX6_post_68 : decode cX6_post 68 = .ok (.invokestatic 154, 3) := by decide +kernel
theorem dX6_post_71 : decode cX6_post 71 = .ok (.ireturn, 1) := by decide +kernel
theorem dX6_post_72 : decode cX6_post 72 = .ok (.aload_n 0, 1) := by decide +kernel
theorem dX6_post_73 : decode cX6_post 73 = .ok (.getfield 19, 3) := by decide +kernel
theorem dX6_post_76 : decode cX6_post 76 = .ok (.getfield 161, 3) := by decide +kernel
theorem dX6_post_79 : decode cX6_post 79 = .ok (.iload_n 1, 1) := by decide +kernel
theorem dX6_post_80 : decode cX6_post 80 = .ok (.invokestatic 154, 3) := by decide +kernel
theorem dX6_post_83 : decode cX6_post 83 = .ok (.ireturn, 1) := by decide +kernel
theorem dX6_post_84 : decode cX6_post 84 = .ok (.aload_n 0, 1) := by decide +kernel
theorem dX6_post_85 : decode cX6_post 85 = .ok (.getfield 19, 3) := by decide +kernel
theorem dX6_post_88 : decode cX6_post 88 = .ok (.getfield 164, 3) := by decide +kernel
theorem dX6_post_91 : decode cX6_post 91 = .ok (.iload_n 1, 1) := by decide +kernel
theorem dX6_post_92 : decode cX6_post 92 = .ok (.invokestatic 154, 3) := by decide +kernel
theorem dX6_post_95 : decode cX6_post 95 = .ok (.ireturn, 1) := by decide +kernel
theorem dX6_post_96 : decode cX6_post 96 = .ok (.aload_n 0, 1) := by decide +kernel
theorem dX6_post_97 : decode cX6_post 97 = .ok (.getfield 29, 3) := by decide +kernel
theorem dX6_post_100 : decode cX6_post 100 = .ok (.getfield 167, 3) := by decide +kernel
theorem dX6_post_103 : decode cX6_post 103 = .ok (.iload_n 1, 1) := by decide +kernel
theorem dX6_post_104 : decode cX6_post 104 = .ok (.invokestatic 154, 3) := by decide +kernel
theorem dX6_post_107 : decode cX6_post 107 = .ok (.ireturn, 1) := by decide +kernel
theorem dX6_post_108 : decode cX6_post 108 = .ok (.ldc 84, 2) := by decide +kernel
theorem dX6_post_110 : decode cX6_post 110 = .ok (.ireturn, 1) := by decide +kernel
theorem dX6_fog_0 : decode cX6_fog 0 = .ok (.iload_n 1, 1) := by decide +kernel
theorem dX6_fog_1 : decode cX6_fog 1 = .ok (.iconst (-1), 1) := by decide +kernel
theorem dX6_fog_2 : decode cX6_fog 2 = .ok (.if_icmp .eq 23, 3) := by decide +kernel
theorem dX6_fog_5 : decode cX6_fog 5 = .ok (.iload_n 1, 1) := by decide +kernel
theorem dX6_fog_6 : decode cX6_fog 6 = .ok (.iconst 0, 1) := by decide +kernel
theorem dX6_fog_7 : decode cX6_fog 7 = .ok (.aload_n 0, 1) := by decide +kernel
theorem dX6_fog_8 : decode cX6_fog 8 = .ok (.getfield 19, 3) := by decide +kernel
theorem dX6_fog_11 : decode cX6_fog 11 = .ok (.getfield 170, 3) := by decide +kernel
theorem dX6_fog_14 : decode cX6_fog 14 = .ok (.iconst 1, 1) := by decide +kernel
theorem dX6_fog_15 : decode cX6_fog 15 = .ok (.isub, 1) := by decide +kernel
theorem dX6_fog_16 : decode cX6_fog 16 = .ok (.invokestatic 80, 3) := by decide +kernel
theorem dX6_fog_19 : decode cX6_fog 19 = .ok (.ifCond .ne 6, 3) := by decide +kernel
theorem dX6_fog_22 : decode cX6_fog 22 = .ok (.ldc 84, 2) := by decide +kernel
theorem dX6_fog_24 : decode cX6_fog 24 = .ok (.ireturn, 1) := by decide +kernel
theorem dX6_fog_25 : decode cX6_fog 25 = .ok (.iload_n 2, 1) := by decide +kernel
theorem dX6_fog_26 : decode cX6_fog 26 = .ok (.iconst 0, 1) := by decide +kernel
theorem dX6_fog_27 : decode cX6_fog 27 = .ok (.iconst 1, 1) := by decide +kernel
theorem dX6_fog_28 : decode cX6_fog 28 = .ok (.invokestatic 80, 3) := by decide +kernel
theorem dX6_fog_31 : decode cX6_fog 31 = .ok (.ifCond .ne 6, 3) := by decide +kernel
theorem dX6_fog_34 : decode cX6_fog 34 = .ok (.ldc 84, 2) := by decide +kernel
theorem dX6_fog_36 : decode cX6_fog 36 = .ok (.ireturn, 1) := by decide +kernel
theorem dX6_fog_37 : decode cX6_fog 37 = .ok (.iload_n 1, 1) := by decide +kernel
theorem dX6_fog_38 : decode cX6_fog 38 = .ok (.iconst (-1), 1) := by decide +kernel
theorem dX6_fog_39 : decode cX6_fog 39 = .ok (.if_icmp .ne 13, 3) := by decide +kernel
theorem dX6_fog_42 : decode cX6_fog 42 = .ok (.aload_n 0, 1) := by decide +kernel
theorem dX6_fog_43 : decode cX6_fog 43 = .ok (.invokevirtual 173, 3) := by decide +kernel
theorem dX6_fog_46 : decode cX6_fog 46 = .ok (.ifCond .eq 6, 3) := by decide +kernel
theorem dX6_fog_49 : decode cX6_fog 49 = .ok (.ldc 177, 2) := by decide +kernel
theorem dX6_fog_51 : decode cX6_fog 51 = .ok (.ireturn, 1) := by decide +kernel
theorem dX6_fog_52 : decode cX6_fog 52 = .ok (.iload_n 1, 1) := by decide +kernel
theorem dX6_fog_53 : decode cX6_fog 53 = .ok (.iconst (-1), 1) := by decide +kernel
theorem dX6_fog_54 : decode cX6_fog 54 = .ok (.if_icmp .ne 13, 3) := by decide +kernel
theorem dX6_fog_57 : decode cX6_fog 57 = .ok (.aload_n 0, 1) := by decide +kernel
theorem dX6_fog_58 : decode cX6_fog 58 = .ok (.getfield 29, 3) := by decide +kernel
theorem dX6_fog_61 : decode cX6_fog 61 = .ok (.getfield 127, 3) := by decide +kernel
theorem dX6_fog_64 : decode cX6_fog 64 = .ok (.goto 4, 3) := by decide +kernel
theorem dX6_fog_67 : decode cX6_fog 67 = .ok (.iload_n 1, 1) := by decide +kernel
theorem dX6_fog_68 : decode cX6_fog 68 = .ok (.istore_n 3, 1) := by decide +kernel
theorem dX6_fog_69 : decode cX6_fog 69 = .ok (.iload_n 2, 1) := by decide +kernel
theorem dX6_fog_70 : decode cX6_fog 70 = .ok (.ifCond .ne 14, 3) := by decide +kernel
theorem dX6_fog_73 : decode cX6_fog 73 = .ok (.aload_n 0, 1) := by decide +kernel
theorem dX6_fog_74 : decode cX6_fog 74 = .ok (.getfield 19, 3) := by decide +kernel
theorem dX6_fog_77 : decode cX6_fog 77 = .ok (.iload_n 3, 1) := by decide +kernel
theorem dX6_fog_78 : decode cX6_fog 78 = .ok (.invokevirtual 178, 3) := by decide +kernel
theorem dX6_fog_81 : decode cX6_fog 81 = .ok (.goto 11, 3) := by decide +kernel
theorem dX6_fog_84 : decode cX6_fog 84 = .ok (.aload_n 0, 1) := by decide +kernel
theorem dX6_fog_85 : decode cX6_fog 85 = .ok (.getfield 19, 3) := by decide +kernel
theorem dX6_fog_88 : decode cX6_fog 88 = .ok (.iload_n 3, 1) := by decide +kernel
theorem dX6_fog_89 : decode cX6_fog 89 = .ok (.invokevirtual 181, 3) := by decide +kernel
theorem dX6_fog_92 : decode cX6_fog 92 = .ok (.ireturn, 1) := by decide +kernel
theorem dX6_village_0 : decode cX6_village 0 = .ok (.iload_n 1, 1) := by decide +kernel
theorem dX6_village_1 : decode cX6_village 1 = .ok (.invokestatic 184, 3) := by decide +kernel
theorem dX6_village_4 : decode cX6_village 4 = .ok (.ifCond .ne 6, 3) := by decide +kernel
theorem dX6_village_7 : decode cX6_village 7 = .ok (.ldc 150, 2) := by decide +kernel
theorem dX6_village_9 : decode cX6_village 9 = .ok (.ireturn, 1) := by decide +kernel
theorem dX6_village_10 : decode cX6_village 10 = .ok (.iload_n 2, 1) := by decide +kernel
theorem dX6_village_11 : decode cX6_village 11 = .ok (.tableswitch 90 0 4 #[33, 45, 57, 69, 81], 33) := by decide +kernel
theorem dX6_village_44 : decode cX6_village 44 = .ok (.aload_n 0, 1) := by decide +kernel
theorem dX6_village_45 : decode cX6_village 45 = .ok (.getfield 19, 3) := by decide +kernel
theorem dX6_village_48 : decode cX6_village 48 = .ok (.getfield 187, 3) := by decide +kernel
theorem dX6_village_51 : decode cX6_village 51 = .ok (.iload_n 1, 1) := by decide +kernel
theorem dX6_village_52 : decode cX6_village 52 = .ok (.invokestatic 154, 3) := by decide +kernel
theorem dX6_village_55 : decode cX6_village 55 = .ok (.ireturn, 1) := by decide +kernel
theorem dX6_village_56 : decode cX6_village 56 = .ok (.aload_n 0, 1) := by decide +kernel
theorem dX6_village_57 : decode cX6_village 57 = .ok (.getfield 19, 3) := by decide +kernel
theorem dX6_village_60 : decode cX6_village 60 = .ok (.getfield 190, 3) := by decide +kernel
theorem dX6_village_63 : decode cX6_village 63 = .ok (.iload_n 1, 1) := by decide +kernel
theorem dX6_village_64 : decode cX6_village 64 = .ok (.invokestatic 154, 3) := by decide +kernel
theorem dX6_village_67 : decode cX6_village 67 = .ok (.ireturn, 1) := by decide +kernel
theorem dX6_village_68 : decode cX6_village 68 = .ok (.aload_n 0, 1) := by decide +kernel
theorem dX6_village_69 : decode cX6_village 69 = .ok (.getfield 29, 3) := by decide +kernel
theorem dX6_village_72 : decode cX6_village 72 = .ok (.getfield 193, 3) := by decide +kernel
theorem dX6_village_75 : decode cX6_village 75 = .ok (.iload_n 1, 1) := by decide +kernel
theorem dX6_village_76 : decode cX6_village 76 = .ok (.invokestatic 154, 3) := by decide +kernel
theorem dX6_village_79 : decode cX6_village 79 = .ok (.ireturn, 1) := by decide +kernel
theorem dX6_village_80 : decode cX6_village 80 = .ok (.aload_n 0, 1) := by decide +kernel
theorem dX6_village_81 : decode cX6_village 81 = .ok (.getfield 29, 3) := by decide +kernel
theorem dX6_village_84 : decode cX6_village 84 = .ok (.getfield 196, 3) := by decide +kernel
theorem dX6_village_87 : decode cX6_village 87 = .ok (.iload_n 1, 1) := by decide +kernel
theorem dX6_village_88 : decode cX6_village 88 = .ok (.invokestatic 154, 3) := by decide +kernel
theorem dX6_village_91 : decode cX6_village 91 = .ok (.ireturn, 1) := by decide +kernel
theorem dX6_village_92 : decode cX6_village 92 = .ok (.aload_n 0, 1) := by decide +kernel
theorem dX6_village_93 : decode cX6_village 93 = .ok (.getfield 19, 3) := by decide +kernel
theorem dX6_village_96 : decode cX6_village 96 = .ok (.iload_n 1, 1) := by decide +kernel
theorem dX6_village_97 : decode cX6_village 97 = .ok (.invokevirtual 199, 3) := by decide +kernel
theorem dX6_village_100 : decode cX6_village 100 = .ok (.ireturn, 1) := by decide +kernel
theorem dX6_village_101 : decode cX6_village 101 = .ok (.ldc 84, 2) := by decide +kernel
theorem dX6_village_103 : decode cX6_village 103 = .ok (.ireturn, 1) := by decide +kernel
theorem dX6_goat_0 : decode cX6_goat 0 = .ok (.aload_n 0, 1) := by decide +kernel
theorem dX6_goat_1 : decode cX6_goat 1 = .ok (.iload_n 1, 1) := by decide +kernel
theorem dX6_goat_2 : decode cX6_goat 2 = .ok (.invokevirtual 202, 3) := by decide +kernel
theorem dX6_goat_5 : decode cX6_goat 5 = .ok (.ifCond .ne 6, 3) := by decide +kernel
theorem dX6_goat_8 : decode cX6_goat 8 = .ok (.ldc 150, 2) := by decide +kernel
theorem dX6_goat_10 : decode cX6_goat 10 = .ok (.ireturn, 1) := by decide +kernel
theorem dX6_goat_11 : decode cX6_goat 11 = .ok (.iload_n 2, 1) := by decide +kernel
theorem dX6_goat_12 : decode cX6_goat 12 = .ok (.iconst 0, 1) := by decide +kernel
theorem dX6_goat_13 : decode cX6_goat 13 = .ok (.iconst 1, 1) := by decide +kernel
theorem dX6_goat_14 : decode cX6_goat 14 = .ok (.invokestatic 80, 3) := by decide +kernel
theorem dX6_goat_17 : decode cX6_goat 17 = .ok (.ifCond .ne 6, 3) := by decide +kernel
theorem dX6_goat_20 : decode cX6_goat 20 = .ok (.ldc 84, 2) := by decide +kernel
theorem dX6_goat_22 : decode cX6_goat 22 = .ok (.ireturn, 1) := by decide +kernel
theorem dX6_goat_23 : decode cX6_goat 23 = .ok (.iload_n 2, 1) := by decide +kernel
theorem dX6_goat_24 : decode cX6_goat 24 = .ok (.ifCond .ne 13, 3) := by decide +kernel
theorem dX6_goat_27 : decode cX6_goat 27 = .ok (.aload_n 0, 1) := by decide +kernel
theorem dX6_goat_28 : decode cX6_goat 28 = .ok (.getfield 19, 3) := by decide +kernel
theorem dX6_goat_31 : decode cX6_goat 31 = .ok (.getfield 205, 3) := by decide +kernel
theorem dX6_goat_34 : decode cX6_goat 34 = .ok (.goto 10, 3) := by decide +kernel
theorem dX6_goat_37 : decode cX6_goat 37 = .ok (.aload_n 0, 1) := by decide +kernel
theorem dX6_goat_38 : decode cX6_goat 38 = .ok (.getfield 19, 3) := by decide +kernel
theorem dX6_goat_41 : decode cX6_goat 41 = .ok (.getfield 208, 3) := by decide +kernel
theorem dX6_goat_44 : decode cX6_goat 44 = .ok (.iload_n 1, 1) := by decide +kernel
theorem dX6_goat_45 : decode cX6_goat 45 = .ok (.invokestatic 154, 3) := by decide +kernel
theorem dX6_goat_48 : decode cX6_goat 48 = .ok (.ireturn, 1) := by decide +kernel
theorem dX6_hour_0 : decode cX6_hour 0 = .ok (.iload_n 1, 1) := by decide +kernel
theorem dX6_hour_1 : decode cX6_hour 1 = .ok (.iconst 1, 1) := by decide +kernel
theorem dX6_hour_2 : decode cX6_hour 2 = .ok (.bipush 60, 2) := by decide +kernel
theorem dX6_hour_4 : decode cX6_hour 4 = .ok (.invokestatic 80, 3) := by decide +kernel
theorem dX6_hour_7 : decode cX6_hour 7 = .ok (.ifCond .ne 6, 3) := by decide +kernel
theorem dX6_hour_10 : decode cX6_hour 10 = .ok (.ldc 84, 2) := by decide +kernel
theorem dX6_hour_12 : decode cX6_hour 12 = .ok (.ireturn, 1) := by decide +kernel
theorem dX6_hour_13 : decode cX6_hour 13 = .ok (.aload_n 0, 1) := by decide +kernel
theorem dX6_hour_14 : decode cX6_hour 14 = .ok (.invokevirtual 173, 3) := by decide +kernel
theorem dX6_hour_17 : decode cX6_hour 17 = .ok (.ifCond .eq 6, 3) := by decide +kernel
theorem dX6_hour_20 : decode cX6_hour 20 = .ok (.ldc 177, 2) := by decide +kernel
theorem dX6_hour_22 : decode cX6_hour 22 = .ok (.ireturn, 1) := by decide +kernel
theorem dX6_hour_23 : decode cX6_hour 23 = .ok (.aload_n 0, 1) := by decide +kernel
theorem dX6_hour_24 : decode cX6_hour 24 = .ok (.getfield 29, 3) := by decide +kernel
theorem dX6_hour_27 : decode cX6_hour 27 = .ok (.getfield 124, 3) := by decide +kernel
theorem dX6_hour_30 : decode cX6_hour 30 = .ok (.sipush 9000, 3) := by decide +kernel
theorem dX6_hour_33 : decode cX6_hour 33 = .ok (.if_icmp .le 6, 3) := by decide +kernel
theorem dX6_hour_36 : decode cX6_hour 36 = .ok (.ldc 88, 2) := by decide +kernel
theorem dX6_hour_38 : decode cX6_hour 38 = .ok (.ireturn, 1) := by decide +kernel
theorem dX6_hour_39 : decode cX6_hour 39 = .ok (.iconst 0, 1) := by decide +kernel
theorem dX6_hour_40 : decode cX6_hour 40 = .ok (.istore_n 2, 1) := by decide +kernel
theorem dX6_hour_41 : decode cX6_hour 41 = .ok (.iconst 0, 1) := by decide +kernel
theorem dX6_hour_42 : decode cX6_hour 42 = .ok (.istore_n 3, 1) := by decide +kernel
theorem dX6_hour_43 : decode cX6_hour 43 = .ok (.iload_n 3, 1) := by decide +kernel
theorem dX6_hour_44 : decode cX6_hour 44 = .ok (.iload_n 1, 1) := by decide +kernel
theorem dX6_hour_45 : decode cX6_hour 45 = .ok (.if_icmp .ge 67, 3) := by decide +kernel
theorem dX6_hour_48 : decode cX6_hour 48 = .ok (.aload_n 0, 1) := by decide +kernel
theorem dX6_hour_49 : decode cX6_hour 49 = .ok (.getfield 50, 3) := by decide +kernel
theorem dX6_hour_52 : decode cX6_hour 52 = .ok (.aload_n 0, 1) := by decide +kernel
theorem dX6_hour_53 : decode cX6_hour 53 = .ok (.getfield 29, 3) := by decide +kernel
theorem dX6_hour_56 : decode cX6_hour 56 = .ok (.invokevirtual 211, 3) := by decide +kernel
theorem dX6_hour_59 : decode cX6_hour 59 = .ok (.iload_n 2, 1) := by decide +kernel
theorem dX6_hour_60 : decode cX6_hour 60 = .ok (.aload_n 0, 1) := by decide +kernel
theorem dX6_hour_61 : decode cX6_hour 61 = .ok (.getfield 29, 3) := by decide +kernel
theorem dX6_hour_64 : decode cX6_hour 64 = .ok (.aload_n 0, 1) := by decide +kernel
theorem dX6_hour_65 : decode cX6_hour 65 = .ok (.getfield 19, 3) := by decide +kernel
theorem dX6_hour_68 : decode cX6_hour 68 = .ok (.aload_n 0, 1) := by decide +kernel
theorem dX6_hour_69 : decode cX6_hour 69 = .ok (.getfield 43, 3) := by decide +kernel
theorem dX6_hour_72 : decode cX6_hour 72 = .ok (.aload_n 0, 1) := by decide +kernel
theorem dX6_hour_73 : decode cX6_hour 73 = .ok (.getfield 19, 3) := by decide +kernel
theorem dX6_hour_76 : decode cX6_hour 76 = .ok (.aload_n 0, 1) := by decide +kernel
theorem dX6_hour_77 : decode cX6_hour 77 = .ok (.getfield 29, 3) := by decide +kernel
theorem dX6_hour_80 : decode cX6_hour 80 = .ok (.getfield 127, 3) := by decide +kernel
theorem dX6_hour_83 : decode cX6_hour 83 = .ok (.invokevirtual 178, 3) := by decide +kernel
theorem dX6_hour_86 : decode cX6_hour 86 = .ok (.aload_n 0, 1) := by decide +kernel
theorem dX6_hour_87 : decode cX6_hour 87 = .ok (.getfield 19, 3) := by decide +kernel
theorem dX6_hour_90 : decode cX6_hour 90 = .ok (.aload_n 0, 1) := by decide +kernel
theorem dX6_hour_91 : decode cX6_hour 91 = .ok (.getfield 29, 3) := by decide +kernel
theorem dX6_hour_94 : decode cX6_hour 94 = .ok (.getfield 127, 3) := by decide +kernel
theorem dX6_hour_97 : decode cX6_hour 97 = .ok (.invokevirtual 181, 3) := by decide +kernel
theorem dX6_hour_100 : decode cX6_hour 100 = .ok (.iconst 0, 1) := by decide +kernel
theorem dX6_hour_101 : decode cX6_hour 101 = .ok (.invokevirtual 215, 3) := by decide +kernel
theorem dX6_hour_104 : decode cX6_hour 104 = .ok (.iadd, 1) := by decide +kernel
theorem dX6_hour_105 : decode cX6_hour 105 = .ok (.istore_n 2, 1) := by decide +kernel
theorem dX6_hour_106 : decode cX6_hour 106 = .ok (.iinc 3 1, 3) := by decide +kernel
theorem dX6_hour_109 : decode cX6_hour 109 = .ok (.goto (-66), 3) := by decide +kernel
theorem dX6_hour_112 : decode cX6_hour 112 = .ok (.iload_n 2, 1) := by decide +kernel
theorem dX6_hour_113 : decode cX6_hour 113 = .ok (.ireturn, 1) := by decide +kernel
theorem dX6_carry_0 : decode cX6_carry 0 = .ok (.iload_n 1, 1) := by decide +kernel
theorem dX6_carry_1 : decode cX6_carry 1 = .ok (.invokestatic 184, 3) := by decide +kernel
theorem dX6_carry_4 : decode cX6_carry 4 = .ok (.ifCond .ne 6, 3) := by decide +kernel
theorem dX6_carry_7 : decode cX6_carry 7 = .ok (.ldc 150, 2) := by decide +kernel
theorem dX6_carry_9 : decode cX6_carry 9 = .ok (.ireturn, 1) := by decide +kernel
theorem dX6_carry_10 : decode cX6_carry 10 = .ok (.aload_n 0, 1) := by decide +kernel
theorem dX6_carry_11 : decode cX6_carry 11 = .ok (.invokevirtual 173, 3) := by decide +kernel
theorem dX6_carry_14 : decode cX6_carry 14 = .ok (.ifCond .eq 6, 3) := by decide +kernel
theorem dX6_carry_17 : decode cX6_carry 17 = .ok (.ldc 177, 2) := by decide +kernel
theorem dX6_carry_19 : decode cX6_carry 19 = .ok (.ireturn, 1) := by decide +kernel
theorem dX6_carry_20 : decode cX6_carry 20 = .ok (.aload_n 0, 1) := by decide +kernel
theorem dX6_carry_21 : decode cX6_carry 21 = .ok (.getfield 50, 3) := by decide +kernel
theorem dX6_carry_24 : decode cX6_carry 24 = .ok (.aload_n 0, 1) := by decide +kernel
theorem dX6_carry_25 : decode cX6_carry 25 = .ok (.getfield 29, 3) := by decide +kernel
theorem dX6_carry_28 : decode cX6_carry 28 = .ok (.invokevirtual 211, 3) := by decide +kernel
theorem dX6_carry_31 : decode cX6_carry 31 = .ok (.aload_n 0, 1) := by decide +kernel
theorem dX6_carry_32 : decode cX6_carry 32 = .ok (.getfield 29, 3) := by decide +kernel
theorem dX6_carry_35 : decode cX6_carry 35 = .ok (.aload_n 0, 1) := by decide +kernel
theorem dX6_carry_36 : decode cX6_carry 36 = .ok (.getfield 19, 3) := by decide +kernel
theorem dX6_carry_39 : decode cX6_carry 39 = .ok (.iload_n 1, 1) := by decide +kernel
theorem dX6_carry_40 : decode cX6_carry 40 = .ok (.invokevirtual 219, 3) := by decide +kernel
theorem dX6_carry_43 : decode cX6_carry 43 = .ok (.ireturn, 1) := by decide +kernel
theorem dX6_lick_0 : decode cX6_lick 0 = .ok (.aload_n 0, 1) := by decide +kernel
theorem dX6_lick_1 : decode cX6_lick 1 = .ok (.iload_n 1, 1) := by decide +kernel
theorem dX6_lick_2 : decode cX6_lick 2 = .ok (.invokevirtual 146, 3) := by decide +kernel
theorem dX6_lick_5 : decode cX6_lick 5 = .ok (.ifCond .ne 6, 3) := by decide +kernel
theorem dX6_lick_8 : decode cX6_lick 8 = .ok (.ldc 150, 2) := by decide +kernel
theorem dX6_lick_10 : decode cX6_lick 10 = .ok (.ireturn, 1) := by decide +kernel
theorem dX6_lick_11 : decode cX6_lick 11 = .ok (.iload_n 2, 1) := by decide +kernel
theorem dX6_lick_12 : decode cX6_lick 12 = .ok (.iconst 1, 1) := by decide +kernel
theorem dX6_lick_13 : decode cX6_lick 13 = .ok (.bipush 99, 2) := by decide +kernel
theorem dX6_lick_15 : decode cX6_lick 15 = .ok (.invokestatic 80, 3) := by decide +kernel
theorem dX6_lick_18 : decode cX6_lick 18 = .ok (.ifCond .ne 6, 3) := by decide +kernel
theorem dX6_lick_21 : decode cX6_lick 21 = .ok (.ldc 84, 2) := by decide +kernel
theorem dX6_lick_23 : decode cX6_lick 23 = .ok (.ireturn, 1) := by decide +kernel
theorem dX6_lick_24 : decode cX6_lick 24 = .ok (.aload_n 0, 1) := by decide +kernel
theorem dX6_lick_25 : decode cX6_lick 25 = .ok (.getfield 50, 3) := by decide +kernel
theorem dX6_lick_28 : decode cX6_lick 28 = .ok (.aload_n 0, 1) := by decide +kernel
theorem dX6_lick_29 : decode cX6_lick 29 = .ok (.getfield 29, 3) := by decide +kernel
theorem dX6_lick_32 : decode cX6_lick 32 = .ok (.invokevirtual 211, 3) := by decide +kernel
theorem dX6_lick_35 : decode cX6_lick 35 = .ok (.aload_n 0, 1) := by decide +kernel
theorem dX6_lick_36 : decode cX6_lick 36 = .ok (.getfield 29, 3) := by decide +kernel
theorem dX6_lick_39 : decode cX6_lick 39 = .ok (.iload_n 1, 1) := by decide +kernel
theorem dX6_lick_40 : decode cX6_lick 40 = .ok (.iload_n 2, 1) := by decide +kernel
theorem dX6_lick_41 : decode cX6_lick 41 = .ok (.invokevirtual 223, 3) := by decide +kernel
theorem dX6_lick_44 : decode cX6_lick 44 = .ok (.ireturn, 1) := by decide +kernel
theorem dX6_mesh_0 : decode cX6_mesh 0 = .ok (.aload_n 0, 1) := by decide +kernel
theorem dX6_mesh_1 : decode cX6_mesh 1 = .ok (.iload_n 1, 1) := by decide +kernel
theorem dX6_mesh_2 : decode cX6_mesh 2 = .ok (.invokevirtual 146, 3) := by decide +kernel
theorem dX6_mesh_5 : decode cX6_mesh 5 = .ok (.ifCond .ne 6, 3) := by decide +kernel
theorem dX6_mesh_8 : decode cX6_mesh 8 = .ok (.ldc 150, 2) := by decide +kernel
theorem dX6_mesh_10 : decode cX6_mesh 10 = .ok (.ireturn, 1) := by decide +kernel
theorem dX6_mesh_11 : decode cX6_mesh 11 = .ok (.iload_n 2, 1) := by decide +kernel
theorem dX6_mesh_12 : decode cX6_mesh 12 = .ok (.iconst 0, 1) := by decide +kernel
theorem dX6_mesh_13 : decode cX6_mesh 13 = .ok (.bipush 9, 2) := by decide +kernel
theorem dX6_mesh_15 : decode cX6_mesh 15 = .ok (.invokestatic 80, 3) := by decide +kernel
theorem dX6_mesh_18 : decode cX6_mesh 18 = .ok (.ifCond .ne 6, 3) := by decide +kernel
theorem dX6_mesh_21 : decode cX6_mesh 21 = .ok (.ldc 84, 2) := by decide +kernel
theorem dX6_mesh_23 : decode cX6_mesh 23 = .ok (.ireturn, 1) := by decide +kernel
theorem dX6_mesh_24 : decode cX6_mesh 24 = .ok (.aload_n 0, 1) := by decide +kernel
theorem dX6_mesh_25 : decode cX6_mesh 25 = .ok (.getfield 50, 3) := by decide +kernel
theorem dX6_mesh_28 : decode cX6_mesh 28 = .ok (.aload_n 0, 1) := by decide +kernel
theorem dX6_mesh_29 : decode cX6_mesh 29 = .ok (.getfield 29, 3) := by decide +kernel
theorem dX6_mesh_32 : decode cX6_mesh 32 = .ok (.invokevirtual 211, 3) := by decide +kernel
theorem dX6_mesh_35 : decode cX6_mesh 35 = .ok (.aload_n 0, 1) := by decide +kernel
theorem dX6_mesh_36 : decode cX6_mesh 36 = .ok (.getfield 29, 3) := by decide +kernel
theorem dX6_mesh_39 : decode cX6_mesh 39 = .ok (.getfield 158, 3) := by decide +kernel
theorem dX6_mesh_42 : decode cX6_mesh 42 = .ok (.iload_n 1, 1) := by decide +kernel
theorem dX6_mesh_43 : decode cX6_mesh 43 = .ok (.invokestatic 154, 3) := by decide +kernel
theorem dX6_mesh_46 : decode cX6_mesh 46 = .ok (.istore_n 3, 1) := by decide +kernel
theorem dX6_mesh_47 : decode cX6_mesh 47 = .ok (.aload_n 0, 1) := by decide +kernel
theorem dX6_mesh_48 : decode cX6_mesh 48 = .ok (.getfield 29, 3) := by decide +kernel
theorem dX6_mesh_51 : decode cX6_mesh 51 = .ok (.getfield 158, 3) := by decide +kernel
theorem dX6_mesh_54 : decode cX6_mesh 54 = .ok (.iload_n 1, 1) := by decide +kernel
theorem dX6_mesh_55 : decode cX6_mesh 55 = .ok (.iload_n 2, 1) := by decide +kernel
theorem dX6_mesh_56 : decode cX6_mesh 56 = .ok (.invokestatic 227, 3) := by decide +kernel
theorem dX6_mesh_59 : decode cX6_mesh 59 = .ok (.iload_n 3, 1) := by decide +kernel
theorem dX6_mesh_60 : decode cX6_mesh 60 = .ok (.ireturn, 1) := by decide +kernel
theorem dX6_move_0 : decode cX6_move 0 = .ok (.aload_n 0, 1) := by decide +kernel
theorem dX6_move_1 : decode cX6_move 1 = .ok (.iload_n 1, 1) := by decide +kernel
theorem dX6_move_2 : decode cX6_move 2 = .ok (.invokevirtual 146, 3) := by decide +kernel
theorem dX6_move_5 : decode cX6_move 5 = .ok (.ifCond .eq 11, 3) := by decide +kernel
theorem dX6_move_8 : decode cX6_move 8 = .ok (.aload_n 0, 1) := by decide +kernel
theorem dX6_move_9 : decode cX6_move 9 = .ok (.iload_n 2, 1) := by decide +kernel
theorem dX6_move_10 : decode cX6_move 10 = .ok (.invokevirtual 231, 3) := by decide +kernel
theorem dX6_move_13 : decode cX6_move 13 = .ok (.ifCond .ne 6, 3) := by decide +kernel
theorem dX6_move_16 : decode cX6_move 16 = .ok (.ldc 150, 2) := by decide +kernel
theorem dX6_move_18 : decode cX6_move 18 = .ok (.ireturn, 1) := by decide +kernel
theorem dX6_move_19 : decode cX6_move 19 = .ok (.aload_n 0, 1) := by decide +kernel
theorem dX6_move_20 : decode cX6_move 20 = .ok (.getfield 29, 3) := by decide +kernel
theorem dX6_move_23 : decode cX6_move 23 = .ok (.iload_n 2, 1) := by decide +kernel
theorem dX6_move_24 : decode cX6_move 24 = .ok (.invokevirtual 234, 3) := by decide +kernel
theorem dX6_move_27 : decode cX6_move 27 = .ok (.iconst (-1), 1) := by decide +kernel
theorem dX6_move_28 : decode cX6_move 28 = .ok (.if_icmp .eq 6, 3) := by decide +kernel
theorem dX6_move_31 : decode cX6_move 31 = .ok (.ldc 177, 2) := by decide +kernel
theorem dX6_move_33 : decode cX6_move 33 = .ok (.ireturn, 1) := by decide +kernel
theorem dX6_move_34 : decode cX6_move 34 = .ok (.aload_n 0, 1) := by decide +kernel
theorem dX6_move_35 : decode cX6_move 35 = .ok (.getfield 50, 3) := by decide +kernel
theorem dX6_move_38 : decode cX6_move 38 = .ok (.aload_n 0, 1) := by decide +kernel
theorem dX6_move_39 : decode cX6_move 39 = .ok (.getfield 29, 3) := by decide +kernel
theorem dX6_move_42 : decode cX6_move 42 = .ok (.invokevirtual 211, 3) := by decide +kernel
theorem dX6_move_45 : decode cX6_move 45 = .ok (.aload_n 0, 1) := by decide +kernel
theorem dX6_move_46 : decode cX6_move 46 = .ok (.getfield 29, 3) := by decide +kernel
theorem dX6_move_49 : decode cX6_move 49 = .ok (.getfield 151, 3) := by decide +kernel
theorem dX6_move_52 : decode cX6_move 52 = .ok (.iload_n 1, 1) := by decide +kernel
theorem dX6_move_53 : decode cX6_move 53 = .ok (.invokestatic 154, 3) := by decide +kernel
theorem dX6_move_56 : decode cX6_move 56 = .ok (.istore_n 3, 1) := by decide +kernel
theorem dX6_move_57 : decode cX6_move 57 = .ok (.aload_n 0, 1) := by decide +kernel
theorem dX6_move_58 : decode cX6_move 58 = .ok (.getfield 29, 3) := by decide +kernel
theorem dX6_move_61 : decode cX6_move 61 = .ok (.getfield 151, 3) := by decide +kernel
theorem dX6_move_64 : decode cX6_move 64 = .ok (.iload_n 1, 1) := by decide +kernel
theorem dX6_move_65 : decode cX6_move 65 = .ok (.iload_n 2, 1) := by decide +kernel
theorem dX6_move_66 : decode cX6_move 66 = .ok (.invokestatic 227, 3) := by decide +kernel
theorem dX6_move_69 : decode cX6_move 69 = .ok (.iload_n 3, 1) := by decide +kernel
theorem dX6_move_70 : decode cX6_move 70 = .ok (.ireturn, 1) := by decide +kernel
theorem dX6_lamp_0 : decode cX6_lamp 0 = .ok (.aload_n 0, 1) := by decide +kernel
theorem dX6_lamp_1 : decode cX6_lamp 1 = .ok (.invokevirtual 173, 3) := by decide +kernel
theorem dX6_lamp_4 : decode cX6_lamp 4 = .ok (.ifCond .eq 6, 3) := by decide +kernel
theorem dX6_lamp_7 : decode cX6_lamp 7 = .ok (.ldc 177, 2) := by decide +kernel
theorem dX6_lamp_9 : decode cX6_lamp 9 = .ok (.ireturn, 1) := by decide +kernel
theorem dX6_lamp_10 : decode cX6_lamp 10 = .ok (.aload_n 0, 1) := by decide +kernel
theorem dX6_lamp_11 : decode cX6_lamp 11 = .ok (.getfield 50, 3) := by decide +kernel
theorem dX6_lamp_14 : decode cX6_lamp 14 = .ok (.aload_n 0, 1) := by decide +kernel
theorem dX6_lamp_15 : decode cX6_lamp 15 = .ok (.getfield 29, 3) := by decide +kernel
theorem dX6_lamp_18 : decode cX6_lamp 18 = .ok (.invokevirtual 211, 3) := by decide +kernel
theorem dX6_lamp_21 : decode cX6_lamp 21 = .ok (.aload_n 0, 1) := by decide +kernel
theorem dX6_lamp_22 : decode cX6_lamp 22 = .ok (.getfield 29, 3) := by decide +kernel
theorem dX6_lamp_25 : decode cX6_lamp 25 = .ok (.getfield 130, 3) := by decide +kernel
theorem dX6_lamp_28 : decode cX6_lamp 28 = .ok (.ifCond .eq 7, 3) := by decide +kernel
theorem dX6_lamp_31 : decode cX6_lamp 31 = .ok (.iconst 1, 1) := by decide +kernel
theorem dX6_lamp_32 : decode cX6_lamp 32 = .ok (.goto 4, 3) := by decide +kernel
theorem dX6_lamp_35 : decode cX6_lamp 35 = .ok (.iconst 0, 1) := by decide +kernel
theorem dX6_lamp_36 : decode cX6_lamp 36 = .ok (.istore_n 2, 1) := by decide +kernel
theorem dX6_lamp_37 : decode cX6_lamp 37 = .ok (.aload_n 0, 1) := by decide +kernel
theorem dX6_lamp_38 : decode cX6_lamp 38 = .ok (.getfield 29, 3) := by decide +kernel
theorem dX6_lamp_41 : decode cX6_lamp 41 = .ok (.iload_n 1, 1) := by decide +kernel
theorem dX6_lamp_42 : decode cX6_lamp 42 = .ok (.putfield 130, 3) := by decide +kernel
theorem dX6_lamp_45 : decode cX6_lamp 45 = .ok (.iload_n 2, 1) := by decide +kernel
theorem dX6_lamp_46 : decode cX6_lamp 46 = .ok (.ireturn, 1) := by decide +kernel
theorem dX6_drift_0 : decode cX6_drift 0 = .ok (.iload_n 1, 1) := by decide +kernel
theorem dX6_drift_1 : decode cX6_drift 1 = .ok (.iconst 1, 1) := by decide +kernel
theorem dX6_drift_2 : decode cX6_drift 2 = .ok (.bipush 60, 2) := by decide +kernel
theorem dX6_drift_4 : decode cX6_drift 4 = .ok (.invokestatic 80, 3) := by decide +kernel
theorem dX6_drift_7 : decode cX6_drift 7 = .ok (.ifCond .ne 6, 3) := by decide +kernel
theorem dX6_drift_10 : decode cX6_drift 10 = .ok (.ldc 84, 2) := by decide +kernel
theorem dX6_drift_12 : decode cX6_drift 12 = .ok (.ireturn, 1) := by decide +kernel
theorem dX6_drift_13 : decode cX6_drift 13 = .ok (.aload_n 0, 1) := by decide +kernel
theorem dX6_drift_14 : decode cX6_drift 14 = .ok (.invokevirtual 173, 3) := by decide +kernel
theorem dX6_drift_17 : decode cX6_drift 17 = .ok (.ifCond .eq 6, 3) := by decide +kernel
theorem dX6_drift_20 : decode cX6_drift 20 = .ok (.ldc 177, 2) := by decide +kernel
theorem dX6_drift_22 : decode cX6_drift 22 = .ok (.ireturn, 1) := by decide +kernel
theorem dX6_drift_23 : decode cX6_drift 23 = .ok (.aload_n 0, 1) := by decide +kernel
theorem dX6_drift_24 : decode cX6_drift 24 = .ok (.getfield 29, 3) := by decide +kernel
theorem dX6_drift_27 : decode cX6_drift 27 = .ok (.getfield 124, 3) := by decide +kernel
theorem dX6_drift_30 : decode cX6_drift 30 = .ok (.sipush 9000, 3) := by decide +kernel
theorem dX6_drift_33 : decode cX6_drift 33 = .ok (.if_icmp .le 6, 3) := by decide +kernel
theorem dX6_drift_36 : decode cX6_drift 36 = .ok (.ldc 88, 2) := by decide +kernel
theorem dX6_drift_38 : decode cX6_drift 38 = .ok (.ireturn, 1) := by decide +kernel
theorem dX6_drift_39 : decode cX6_drift 39 = .ok (.iconst 0, 1) := by decide +kernel
theorem dX6_drift_40 : decode cX6_drift 40 = .ok (.istore_n 2, 1) := by decide +kernel
theorem dX6_drift_41 : decode cX6_drift 41 = .ok (.iconst 0, 1) := by decide +kernel
theorem dX6_drift_42 : decode cX6_drift 42 = .ok (.istore_n 3, 1) := by decide +kernel
theorem dX6_drift_43 : decode cX6_drift 43 = .ok (.iload_n 3, 1) := by decide +kernel
theorem dX6_drift_44 : decode cX6_drift 44 = .ok (.iload_n 1, 1) := by decide +kernel
theorem dX6_drift_45 : decode cX6_drift 45 = .ok (.if_icmp .ge 62, 3) := by decide +kernel
theorem dX6_drift_48 : decode cX6_drift 48 = .ok (.aload_n 0, 1) := by decide +kernel
theorem dX6_drift_49 : decode cX6_drift 49 = .ok (.getfield 50, 3) := by decide +kernel
theorem dX6_drift_52 : decode cX6_drift 52 = .ok (.aload_n 0, 1) := by decide +kernel
theorem dX6_drift_53 : decode cX6_drift 53 = .ok (.getfield 29, 3) := by decide +kernel
theorem dX6_drift_56 : decode cX6_drift 56 = .ok (.invokevirtual 211, 3) := by decide +kernel
theorem dX6_drift_59 : decode cX6_drift 59 = .ok (.aload_n 0, 1) := by decide +kernel
theorem dX6_drift_60 : decode cX6_drift 60 = .ok (.bipush 41, 2) := by decide +kernel
theorem dX6_drift_62 : decode cX6_drift 62 = .ok (.invokevirtual 237, 3) := by decide +kernel
theorem dX6_drift_65 : decode cX6_drift 65 = .ok (.istore 4, 2) := by decide +kernel
theorem dX6_drift_67 : decode cX6_drift 67 = .ok (.aload_n 0, 1) := by decide +kernel
theorem dX6_drift_68 : decode cX6_drift 68 = .ok (.iconst 2, 1) := by decide +kernel
theorem dX6_drift_69 : decode cX6_drift 69 = .ok (.invokevirtual 237, 3) := by decide +kernel
theorem dX6_drift_72 : decode cX6_drift 72 = .ok (.istore 5, 2) := by decide +kernel
theorem dX6_drift_74 : decode cX6_drift 74 = .ok (.iload_n 2, 1) := by decide +kernel
theorem dX6_drift_75 : decode cX6_drift 75 = .ok (.aload_n 0, 1) := by decide +kernel
theorem dX6_drift_76 : decode cX6_drift 76 = .ok (.getfield 29, 3) := by decide +kernel
theorem dX6_drift_79 : decode cX6_drift 79 = .ok (.aload_n 0, 1) := by decide +kernel
theorem dX6_drift_80 : decode cX6_drift 80 = .ok (.getfield 19, 3) := by decide +kernel
theorem dX6_drift_83 : decode cX6_drift 83 = .ok (.aload_n 0, 1) := by decide +kernel
theorem dX6_drift_84 : decode cX6_drift 84 = .ok (.getfield 43, 3) := by decide +kernel
theorem dX6_drift_87 : decode cX6_drift 87 = .ok (.iload 5, 2) := by decide +kernel
theorem dX6_drift_89 : decode cX6_drift 89 = .ok (.iload 4, 2) := by decide +kernel
theorem dX6_drift_91 : decode cX6_drift 91 = .ok (.iconst 0, 1) := by decide +kernel
theorem dX6_drift_92 : decode cX6_drift 92 = .ok (.invokevirtual 215, 3) := by decide +kernel
theorem dX6_drift_95 : decode cX6_drift 95 = .ok (.iadd, 1) := by decide +kernel
theorem dX6_drift_96 : decode cX6_drift 96 = .ok (.istore_n 2, 1) := by decide +kernel
theorem dX6_drift_97 : decode cX6_drift 97 = .ok (.aload_n 0, 1) := by decide +kernel
theorem dX6_drift_98 : decode cX6_drift 98 = .ok (.invokevirtual 240, 3) := by decide +kernel
theorem dX6_drift_101 : decode cX6_drift 101 = .ok (.iinc 3 1, 3) := by decide +kernel
theorem dX6_drift_104 : decode cX6_drift 104 = .ok (.goto (-61), 3) := by decide +kernel
theorem dX6_drift_107 : decode cX6_drift 107 = .ok (.iload_n 2, 1) := by decide +kernel
theorem dX6_drift_108 : decode cX6_drift 108 = .ok (.ireturn, 1) := by decide +kernel
theorem dX6_undo_0 : decode cX6_undo 0 = .ok (.iload_n 1, 1) := by decide +kernel
theorem dX6_undo_1 : decode cX6_undo 1 = .ok (.iconst 1, 1) := by decide +kernel
theorem dX6_undo_2 : decode cX6_undo 2 = .ok (.bipush 30, 2) := by decide +kernel
theorem dX6_undo_4 : decode cX6_undo 4 = .ok (.invokestatic 80, 3) := by decide +kernel
theorem dX6_undo_7 : decode cX6_undo 7 = .ok (.ifCond .ne 6, 3) := by decide +kernel
theorem dX6_undo_10 : decode cX6_undo 10 = .ok (.ldc 84, 2) := by decide +kernel
theorem dX6_undo_12 : decode cX6_undo 12 = .ok (.ireturn, 1) := by decide +kernel
theorem dX6_undo_13 : decode cX6_undo 13 = .ok (.iload_n 1, 1) := by decide +kernel
theorem dX6_undo_14 : decode cX6_undo 14 = .ok (.aload_n 0, 1) := by decide +kernel
theorem dX6_undo_15 : decode cX6_undo 15 = .ok (.getfield 50, 3) := by decide +kernel
theorem dX6_undo_18 : decode cX6_undo 18 = .ok (.getfield 101, 3) := by decide +kernel
theorem dX6_undo_21 : decode cX6_undo 21 = .ok (.if_icmp .le 6, 3) := by decide +kernel
theorem dX6_undo_24 : decode cX6_undo 24 = .ok (.ldc 177, 2) := by decide +kernel
theorem dX6_undo_26 : decode cX6_undo 26 = .ok (.ireturn, 1) := by decide +kernel
theorem dX6_undo_27 : decode cX6_undo 27 = .ok (.aload_n 0, 1) := by decide +kernel
theorem dX6_undo_28 : decode cX6_undo 28 = .ok (.getfield 50, 3) := by decide +kernel
theorem dX6_undo_31 : decode cX6_undo 31 = .ok (.aload_n 0, 1) := by decide +kernel
theorem dX6_undo_32 : decode cX6_undo 32 = .ok (.getfield 29, 3) := by decide +kernel
theorem dX6_undo_35 : decode cX6_undo 35 = .ok (.iload_n 1, 1) := by decide +kernel
theorem dX6_undo_36 : decode cX6_undo 36 = .ok (.invokevirtual 243, 3) := by decide +kernel
theorem dX6_undo_39 : decode cX6_undo 39 = .ok (.aload_n 0, 1) := by decide +kernel
theorem dX6_undo_40 : decode cX6_undo 40 = .ok (.getfield 29, 3) := by decide +kernel
theorem dX6_undo_43 : decode cX6_undo 43 = .ok (.getfield 124, 3) := by decide +kernel
theorem dX6_undo_46 : decode cX6_undo 46 = .ok (.ireturn, 1) := by decide +kernel
theorem dX6_gets_0 : decode cX6_gets 0 = .ok (.aload_n 0, 1) := by decide +kernel
theorem dX6_gets_1 : decode cX6_gets 1 = .ok (.iload_n 1, 1) := by decide +kernel
theorem dX6_gets_2 : decode cX6_gets 2 = .ok (.invokevirtual 146, 3) := by decide +kernel
theorem dX6_gets_5 : decode cX6_gets 5 = .ok (.ifCond .ne 6, 3) := by decide +kernel
theorem dX6_gets_8 : decode cX6_gets 8 = .ok (.ldc 150, 2) := by decide +kernel
theorem dX6_gets_10 : decode cX6_gets 10 = .ok (.ireturn, 1) := by decide +kernel
theorem dX6_gets_11 : decode cX6_gets 11 = .ok (.iload_n 2, 1) := by decide +kernel
theorem dX6_gets_12 : decode cX6_gets 12 = .ok (.iconst 0, 1) := by decide +kernel
theorem dX6_gets_13 : decode cX6_gets 13 = .ok (.bipush 99, 2) := by decide +kernel
theorem dX6_gets_15 : decode cX6_gets 15 = .ok (.invokestatic 80, 3) := by decide +kernel
theorem dX6_gets_18 : decode cX6_gets 18 = .ok (.ifCond .ne 6, 3) := by decide +kernel
theorem dX6_gets_21 : decode cX6_gets 21 = .ok (.ldc 84, 2) := by decide +kernel
theorem dX6_gets_23 : decode cX6_gets 23 = .ok (.ireturn, 1) := by decide +kernel
theorem dX6_gets_24 : decode cX6_gets 24 = .ok (.aload_n 0, 1) := by decide +kernel
theorem dX6_gets_25 : decode cX6_gets 25 = .ok (.getfield 33, 3) := by decide +kernel
theorem dX6_gets_28 : decode cX6_gets 28 = .ok (.aload_n 0, 1) := by decide +kernel
theorem dX6_gets_29 : decode cX6_gets 29 = .ok (.getfield 29, 3) := by decide +kernel
theorem dX6_gets_32 : decode cX6_gets 32 = .ok (.invokevirtual 247, 3) := by decide +kernel
theorem dX6_gets_35 : decode cX6_gets 35 = .ok (.aload_n 0, 1) := by decide +kernel
theorem dX6_gets_36 : decode cX6_gets 36 = .ok (.iload_n 2, 1) := by decide +kernel
theorem dX6_gets_37 : decode cX6_gets 37 = .ok (.invokevirtual 250, 3) := by decide +kernel
theorem dX6_gets_40 : decode cX6_gets 40 = .ok (.pop, 1) := by decide +kernel
theorem dX6_gets_41 : decode cX6_gets 41 = .ok (.aload_n 0, 1) := by decide +kernel
theorem dX6_gets_42 : decode cX6_gets 42 = .ok (.getfield 36, 3) := by decide +kernel
theorem dX6_gets_45 : decode cX6_gets 45 = .ok (.iload_n 1, 1) := by decide +kernel
theorem dX6_gets_46 : decode cX6_gets 46 = .ok (.invokestatic 154, 3) := by decide +kernel
theorem dX6_gets_49 : decode cX6_gets 49 = .ok (.ireturn, 1) := by decide +kernel
theorem dX6_level_0 : decode cX6_level 0 = .ok (.aload_n 0, 1) := by decide +kernel
theorem dX6_level_1 : decode cX6_level 1 = .ok (.iload_n 1, 1) := by decide +kernel
theorem dX6_level_2 : decode cX6_level 2 = .ok (.invokevirtual 146, 3) := by decide +kernel
theorem dX6_level_5 : decode cX6_level 5 = .ok (.ifCond .ne 6, 3) := by decide +kernel
theorem dX6_level_8 : decode cX6_level 8 = .ok (.ldc 150, 2) := by decide +kernel
theorem dX6_level_10 : decode cX6_level 10 = .ok (.ireturn, 1) := by decide +kernel
theorem dX6_level_11 : decode cX6_level 11 = .ok (.iload_n 2, 1) := by decide +kernel
theorem dX6_level_12 : decode cX6_level 12 = .ok (.iconst 0, 1) := by decide +kernel
theorem dX6_level_13 : decode cX6_level 13 = .ok (.bipush 99, 2) := by decide +kernel
theorem dX6_level_15 : decode cX6_level 15 = .ok (.invokestatic 80, 3) := by decide +kernel
theorem dX6_level_18 : decode cX6_level 18 = .ok (.ifCond .ne 6, 3) := by decide +kernel
theorem dX6_level_21 : decode cX6_level 21 = .ok (.ldc 84, 2) := by decide +kernel
theorem dX6_level_23 : decode cX6_level 23 = .ok (.ireturn, 1) := by decide +kernel
theorem dX6_level_24 : decode cX6_level 24 = .ok (.aload_n 0, 1) := by decide +kernel
theorem dX6_level_25 : decode cX6_level 25 = .ok (.getfield 33, 3) := by decide +kernel
theorem dX6_level_28 : decode cX6_level 28 = .ok (.aload_n 0, 1) := by decide +kernel
theorem dX6_level_29 : decode cX6_level 29 = .ok (.getfield 29, 3) := by decide +kernel
theorem dX6_level_32 : decode cX6_level 32 = .ok (.invokevirtual 247, 3) := by decide +kernel
theorem dX6_level_35 : decode cX6_level 35 = .ok (.aload_n 0, 1) := by decide +kernel
theorem dX6_level_36 : decode cX6_level 36 = .ok (.iload_n 2, 1) := by decide +kernel
theorem dX6_level_37 : decode cX6_level 37 = .ok (.invokevirtual 250, 3) := by decide +kernel
theorem dX6_level_40 : decode cX6_level 40 = .ok (.pop, 1) := by decide +kernel
theorem dX6_level_41 : decode cX6_level 41 = .ok (.aload_n 0, 1) := by decide +kernel
theorem dX6_level_42 : decode cX6_level 42 = .ok (.getfield 33, 3) := by decide +kernel
theorem dX6_level_45 : decode cX6_level 45 = .ok (.getfield 167, 3) := by decide +kernel
theorem dX6_level_48 : decode cX6_level 48 = .ok (.iload_n 1, 1) := by decide +kernel
theorem dX6_level_49 : decode cX6_level 49 = .ok (.invokestatic 154, 3) := by decide +kernel
theorem dX6_level_52 : decode cX6_level 52 = .ok (.ireturn, 1) := by decide +kernel
theorem dX6_shadow_0 : decode cX6_shadow 0 = .ok (.aload_n 0, 1) := by decide +kernel
theorem dX6_shadow_1 : decode cX6_shadow 1 = .ok (.iload_n 1, 1) := by decide +kernel
theorem dX6_shadow_2 : decode cX6_shadow 2 = .ok (.invokevirtual 146, 3) := by decide +kernel
theorem dX6_shadow_5 : decode cX6_shadow 5 = .ok (.ifCond .ne 6, 3) := by decide +kernel
theorem dX6_shadow_8 : decode cX6_shadow 8 = .ok (.ldc 150, 2) := by decide +kernel
theorem dX6_shadow_10 : decode cX6_shadow 10 = .ok (.ireturn, 1) := by decide +kernel
theorem dX6_shadow_11 : decode cX6_shadow 11 = .ok (.aload_n 0, 1) := by decide +kernel
theorem dX6_shadow_12 : decode cX6_shadow 12 = .ok (.getfield 29, 3) := by decide +kernel
theorem dX6_shadow_15 : decode cX6_shadow 15 = .ok (.aload_n 0, 1) := by decide +kernel
theorem dX6_shadow_16 : decode cX6_shadow 16 = .ok (.getfield 19, 3) := by decide +kernel
theorem dX6_shadow_19 : decode cX6_shadow 19 = .ok (.invokevirtual 134, 3) := by decide +kernel
theorem dX6_shadow_22 : decode cX6_shadow 22 = .ok (.istore_n 2, 1) := by decide +kernel
theorem dX6_shadow_23 : decode cX6_shadow 23 = .ok (.aload_n 0, 1) := by decide +kernel
theorem dX6_shadow_24 : decode cX6_shadow 24 = .ok (.iload_n 2, 1) := by decide +kernel
theorem dX6_shadow_25 : decode cX6_shadow 25 = .ok (.invokevirtual 253, 3) := by decide +kernel
theorem dX6_shadow_28 : decode cX6_shadow 28 = .ok (.aload_n 0, 1) := by decide +kernel
theorem dX6_shadow_29 : decode cX6_shadow 29 = .ok (.getfield 43, 3) := by decide +kernel
theorem dX6_shadow_32 : decode cX6_shadow 32 = .ok (.getfield 256, 3) := by decide +kernel
theorem dX6_shadow_35 : decode cX6_shadow 35 = .ok (.iload_n 1, 1) := by decide +kernel
theorem dX6_shadow_36 : decode cX6_shadow 36 = .ok (.invokestatic 154, 3) := by decide +kernel
theorem dX6_shadow_39 : decode cX6_shadow 39 = .ok (.istore_n 3, 1) := by decide +kernel
theorem dX6_shadow_40 : decode cX6_shadow 40 = .ok (.aload_n 0, 1) := by decide +kernel
theorem dX6_shadow_41 : decode cX6_shadow 41 = .ok (.iload_n 2, 1) := by decide +kernel
theorem dX6_shadow_42 : decode cX6_shadow 42 = .ok (.iconst 1, 1) := by decide +kernel
theorem dX6_shadow_43 : decode cX6_shadow 43 = .ok (.iload_n 1, 1) := by decide +kernel
theorem dX6_shadow_44 : decode cX6_shadow 44 = .ok (.ishl, 1) := by decide +kernel
theorem dX6_shadow_45 : decode cX6_shadow 45 = .ok (.iand, 1) := by decide +kernel
theorem dX6_shadow_46 : decode cX6_shadow 46 = .ok (.invokevirtual 253, 3) := by decide +kernel
theorem dX6_shadow_49 : decode cX6_shadow 49 = .ok (.aload_n 0, 1) := by decide +kernel
theorem dX6_shadow_50 : decode cX6_shadow 50 = .ok (.getfield 43, 3) := by decide +kernel
theorem dX6_shadow_53 : decode cX6_shadow 53 = .ok (.getfield 256, 3) := by decide +kernel
theorem dX6_shadow_56 : decode cX6_shadow 56 = .ok (.iload_n 1, 1) := by decide +kernel
theorem dX6_shadow_57 : decode cX6_shadow 57 = .ok (.invokestatic 154, 3) := by decide +kernel
theorem dX6_shadow_60 : decode cX6_shadow 60 = .ok (.iload_n 3, 1) := by decide +kernel
theorem dX6_shadow_61 : decode cX6_shadow 61 = .ok (.isub, 1) := by decide +kernel
theorem dX6_shadow_62 : decode cX6_shadow 62 = .ok (.ireturn, 1) := by decide +kernel
theorem dX6_left_0 : decode cX6_left 0 = .ok (.aload_n 0, 1) := by decide +kernel
theorem dX6_left_1 : decode cX6_left 1 = .ok (.invokevirtual 173, 3) := by decide +kernel
theorem dX6_left_4 : decode cX6_left 4 = .ok (.ifCond .eq 6, 3) := by decide +kernel
theorem dX6_left_7 : decode cX6_left 7 = .ok (.ldc 177, 2) := by decide +kernel
theorem dX6_left_9 : decode cX6_left 9 = .ok (.ireturn, 1) := by decide +kernel
theorem dX6_left_10 : decode cX6_left 10 = .ok (.aload_n 0, 1) := by decide +kernel
theorem dX6_left_11 : decode cX6_left 11 = .ok (.aload_n 0, 1) := by decide +kernel
theorem dX6_left_12 : decode cX6_left 12 = .ok (.getfield 29, 3) := by decide +kernel
theorem dX6_left_15 : decode cX6_left 15 = .ok (.aload_n 0, 1) := by decide +kernel
theorem dX6_left_16 : decode cX6_left 16 = .ok (.getfield 19, 3) := by decide +kernel
theorem dX6_left_19 : decode cX6_left 19 = .ok (.invokevirtual 134, 3) := by decide +kernel
theorem dX6_left_22 : decode cX6_left 22 = .ok (.invokevirtual 253, 3) := by decide +kernel
theorem dX6_left_25 : decode cX6_left 25 = .ok (.aload_n 0, 1) := by decide +kernel
theorem dX6_left_26 : decode cX6_left 26 = .ok (.getfield 43, 3) := by decide +kernel
theorem dX6_left_29 : decode cX6_left 29 = .ok (.getfield 259, 3) := by decide +kernel
theorem dX6_left_32 : decode cX6_left 32 = .ok (.ireturn, 1) := by decide +kernel
theorem dX6_bestMesh_0 : decode cX6_bestMesh 0 = .ok (.aload_n 0, 1) := by decide +kernel
theorem dX6_bestMesh_1 : decode cX6_bestMesh 1 = .ok (.iload_n 1, 1) := by decide +kernel
theorem dX6_bestMesh_2 : decode cX6_bestMesh 2 = .ok (.invokevirtual 146, 3) := by decide +kernel
theorem dX6_bestMesh_5 : decode cX6_bestMesh 5 = .ok (.ifCond .ne 6, 3) := by decide +kernel
theorem dX6_bestMesh_8 : decode cX6_bestMesh 8 = .ok (.ldc 150, 2) := by decide +kernel
theorem dX6_bestMesh_10 : decode cX6_bestMesh 10 = .ok (.ireturn, 1) := by decide +kernel
theorem dX6_bestMesh_11 : decode cX6_bestMesh 11 = .ok (.iload_n 2, 1) := by decide +kernel
theorem dX6_bestMesh_12 : decode cX6_bestMesh 12 = .ok (.iconst 0, 1) := by decide +kernel
theorem dX6_bestMesh_13 : decode cX6_bestMesh 13 = .ok (.iconst 1, 1) := by decide +kernel
theorem dX6_bestMesh_14 : decode cX6_bestMesh 14 = .ok (.invokestatic 80, 3) := by decide +kernel
theorem dX6_bestMesh_17 : decode cX6_bestMesh 17 = .ok (.ifCond .ne 6, 3) := by decide +kernel
theorem dX6_bestMesh_20 : decode cX6_bestMesh 20 = .ok (.ldc 84, 2) := by decide +kernel
theorem dX6_bestMesh_22 : decode cX6_bestMesh 22 = .ok (.ireturn, 1) := by decide +kernel
theorem dX6_bestMesh_23 : decode cX6_bestMesh 23 = .ok (.iconst (-1), 1) := by decide +kernel
theorem dX6_bestMesh_24 : decode cX6_bestMesh 24 = .ok (.istore_n 3, 1) := by decide +kernel
theorem dX6_bestMesh_25 : decode cX6_bestMesh 25 = .ok (.iconst (-1), 1) := by decide +kernel
theorem dX6_bestMesh_26 : decode cX6_bestMesh 26 = .ok (.istore 4, 2) := by decide +kernel
theorem dX6_bestMesh_28 : decode cX6_bestMesh 28 = .ok (.iconst 0, 1) := by decide +kernel
theorem dX6_bestMesh_29 : decode cX6_bestMesh 29 = .ok (.istore 5, 2) := by decide +kernel
theorem dX6_bestMesh_31 : decode cX6_bestMesh 31 = .ok (.iload 5, 2) := by decide +kernel
theorem dX6_bestMesh_33 : decode cX6_bestMesh 33 = .ok (.bipush 9, 2) := by decide +kernel
theorem dX6_bestMesh_35 : decode cX6_bestMesh 35 = .ok (.if_icmp .gt 71, 3) := by decide +kernel
theorem dX6_bestMesh_38 : decode cX6_bestMesh 38 = .ok (.aload_n 0, 1) := by decide +kernel
theorem dX6_bestMesh_39 : decode cX6_bestMesh 39 = .ok (.getfield 33, 3) := by decide +kernel
theorem dX6_bestMesh_42 : decode cX6_bestMesh 42 = .ok (.aload_n 0, 1) := by decide +kernel
theorem dX6_bestMesh_43 : decode cX6_bestMesh 43 = .ok (.getfield 29, 3) := by decide +kernel
theorem dX6_bestMesh_46 : decode cX6_bestMesh 46 = .ok (.invokevirtual 247, 3) := by decide +kernel
theorem dX6_bestMesh_49 : decode cX6_bestMesh 49 = .ok (.aload_n 0, 1) := by decide +kernel
theorem dX6_bestMesh_50 : decode cX6_bestMesh 50 = .ok (.getfield 33, 3) := by decide +kernel
theorem dX6_bestMesh_53 : decode cX6_bestMesh 53 = .ok (.getfield 158, 3) := by decide +kernel
theorem dX6_bestMesh_56 : decode cX6_bestMesh 56 = .ok (.iload_n 1, 1) := by decide +kernel
theorem dX6_bestMesh_57 : decode cX6_bestMesh 57 = .ok (.iload 5, 2) := by decide +kernel
theorem dX6_bestMesh_59 : decode cX6_bestMesh 59 = .ok (.invokestatic 227, 3) := by decide +kernel
theorem dX6_bestMesh_62 : decode cX6_bestMesh 62 = .ok (.aload_n 0, 1) := by decide +kernel
theorem dX6_bestMesh_63 : decode cX6_bestMesh 63 = .ok (.aload_n 0, 1) := by decide +kernel
theorem dX6_bestMesh_64 : decode cX6_bestMesh 64 = .ok (.getfield 19, 3) := by decide +kernel
theorem dX6_bestMesh_67 : decode cX6_bestMesh 67 = .ok (.invokevirtual 117, 3) := by decide +kernel
theorem dX6_bestMesh_70 : decode cX6_bestMesh 70 = .ok (.invokevirtual 250, 3) := by decide +kernel
theorem dX6_bestMesh_73 : decode cX6_bestMesh 73 = .ok (.pop, 1) := by decide +kernel
theorem dX6_bestMesh_74 : decode cX6_bestMesh 74 = .ok (.aload_n 0, 1) := by decide +kernel
theorem dX6_bestMesh_75 : decode cX6_bestMesh 75 = .ok (.getfield 36, 3) := by decide +kernel
theorem dX6_bestMesh_78 : decode cX6_bestMesh 78 = .ok (.iload_n 1, 1) := by decide +kernel
theorem dX6_bestMesh_79 : decode cX6_bestMesh 79 = .ok (.invokestatic 154, 3) := by decide +kernel
theorem dX6_bestMesh_82 : decode cX6_bestMesh 82 = .ok (.iload 4, 2) := by decide +kernel
theorem dX6_bestMesh_84 : decode cX6_bestMesh 84 = .ok (.if_icmp .le 16, 3) := by decide +kernel
theorem dX6_bestMesh_87 : decode cX6_bestMesh 87 = .ok (.aload_n 0, 1) := by decide +kernel
theorem dX6_bestMesh_88 : decode cX6_bestMesh 88 = .ok (.getfield 36, 3) := by decide +kernel
theorem dX6_bestMesh_91 : decode cX6_bestMesh 91 = .ok (.iload_n 1, 1) := by decide +kernel
theorem dX6_bestMesh_92 : decode cX6_bestMesh 92 = .ok (.invokestatic 154, 3) := by decide +kernel
theorem dX6_bestMesh_95 : decode cX6_bestMesh 95 = .ok (.istore 4, 2) := by decide +kernel
theorem dX6_bestMesh_97 : decode cX6_bestMesh 97 = .ok (.iload 5, 2) := by decide +kernel
theorem dX6_bestMesh_99 : decode cX6_bestMesh 99 = .ok (.istore_n 3, 1) := by decide +kernel
theorem dX6_bestMesh_100 : decode cX6_bestMesh 100 = .ok (.iinc 5 1, 3) := by decide +kernel
theorem dX6_bestMesh_103 : decode cX6_bestMesh 103 = .ok (.goto (-72), 3) := by decide +kernel
theorem dX6_bestMesh_106 : decode cX6_bestMesh 106 = .ok (.iload_n 2, 1) := by decide +kernel
theorem dX6_bestMesh_107 : decode cX6_bestMesh 107 = .ok (.ifCond .ne 7, 3) := by decide +kernel
theorem dX6_bestMesh_110 : decode cX6_bestMesh 110 = .ok (.iload_n 3, 1) := by decide +kernel
theorem dX6_bestMesh_111 : decode cX6_bestMesh 111 = .ok (.goto 5, 3) := by decide +kernel
theorem dX6_bestMesh_114 : decode cX6_bestMesh 114 = .ok (.iload 4, 2) := by decide +kernel
theorem dX6_bestMesh_116 : decode cX6_bestMesh 116 = .ok (.ireturn, 1) := by decide +kernel
theorem dX6_bestCell_0 : decode cX6_bestCell 0 = .ok (.aload_n 0, 1) := by decide +kernel
theorem dX6_bestCell_1 : decode cX6_bestCell 1 = .ok (.iload_n 1, 1) := by decide +kernel
theorem dX6_bestCell_2 : decode cX6_bestCell 2 = .ok (.invokevirtual 146, 3) := by decide +kernel
theorem dX6_bestCell_5 : decode cX6_bestCell 5 = .ok (.ifCond .ne 6, 3) := by decide +kernel
theorem dX6_bestCell_8 : decode cX6_bestCell 8 = .ok (.ldc 150, 2) := by decide +kernel
theorem dX6_bestCell_10 : decode cX6_bestCell 10 = .ok (.ireturn, 1) := by decide +kernel
theorem dX6_bestCell_11 : decode cX6_bestCell 11 = .ok (.iload_n 2, 1) := by decide +kernel
theorem dX6_bestCell_12 : decode cX6_bestCell 12 = .ok (.iconst 0, 1) := by decide +kernel
theorem dX6_bestCell_13 : decode cX6_bestCell 13 = .ok (.iconst 1, 1) := by decide +kernel
theorem dX6_bestCell_14 : decode cX6_bestCell 14 = .ok (.invokestatic 80, 3) := by decide +kernel
theorem dX6_bestCell_17 : decode cX6_bestCell 17 = .ok (.ifCond .ne 6, 3) := by decide +kernel
theorem dX6_bestCell_20 : decode cX6_bestCell 20 = .ok (.ldc 84, 2) := by decide +kernel
theorem dX6_bestCell_22 : decode cX6_bestCell 22 = .ok (.ireturn, 1) := by decide +kernel
theorem dX6_bestCell_23 : decode cX6_bestCell 23 = .ok (.iconst (-1), 1) := by decide +kernel
theorem dX6_bestCell_24 : decode cX6_bestCell 24 = .ok (.istore_n 3, 1) := by decide +kernel
theorem dX6_bestCell_25 : decode cX6_bestCell 25 = .ok (.iconst (-1), 1) := by decide +kernel
theorem dX6_bestCell_26 : decode cX6_bestCell 26 = .ok (.istore 4, 2) := by decide +kernel
theorem dX6_bestCell_28 : decode cX6_bestCell 28 = .ok (.iconst 0, 1) := by decide +kernel
theorem dX6_bestCell_29 : decode cX6_bestCell 29 = .ok (.istore 5, 2) := by decide +kernel
theorem dX6_bestCell_31 : decode cX6_bestCell 31 = .ok (.iload 5, 2) := by decide +kernel
theorem dX6_bestCell_33 : decode cX6_bestCell 33 = .ok (.bipush 12, 2) := by decide +kernel
theorem dX6_bestCell_35 : decode cX6_bestCell 35 = .ok (.if_icmp .ge 85, 3) := by decide +kernel
theorem dX6_bestCell_38 : decode cX6_bestCell 38 = .ok (.aload_n 0, 1) := by decide +kernel
theorem dX6_bestCell_39 : decode cX6_bestCell 39 = .ok (.iload 5, 2) := by decide +kernel
theorem dX6_bestCell_41 : decode cX6_bestCell 41 = .ok (.iload_n 1, 1) := by decide +kernel
theorem dX6_bestCell_42 : decode cX6_bestCell 42 = .ok (.iload_n 1, 1) := by decide +kernel
theorem dX6_bestCell_43 : decode cX6_bestCell 43 = .ok (.invokevirtual 262, 3) := by decide +kernel
theorem dX6_bestCell_46 : decode cX6_bestCell 46 = .ok (.ifCond .ne 6, 3) := by decide +kernel
theorem dX6_bestCell_49 : decode cX6_bestCell 49 = .ok (.goto 65, 3) := by decide +kernel
theorem dX6_bestCell_52 : decode cX6_bestCell 52 = .ok (.aload_n 0, 1) := by decide +kernel
theorem dX6_bestCell_53 : decode cX6_bestCell 53 = .ok (.getfield 33, 3) := by decide +kernel
theorem dX6_bestCell_56 : decode cX6_bestCell 56 = .ok (.aload_n 0, 1) := by decide +kernel
theorem dX6_bestCell_57 : decode cX6_bestCell 57 = .ok (.getfield 29, 3) := by decide +kernel
theorem dX6_bestCell_60 : decode cX6_bestCell 60 = .ok (.invokevirtual 247, 3) := by decide +kernel
theorem dX6_bestCell_63 : decode cX6_bestCell 63 = .ok (.aload_n 0, 1) := by decide +kernel
theorem dX6_bestCell_64 : decode cX6_bestCell 64 = .ok (.getfield 33, 3) := by decide +kernel
theorem dX6_bestCell_67 : decode cX6_bestCell 67 = .ok (.getfield 151, 3) := by decide +kernel
theorem dX6_bestCell_70 : decode cX6_bestCell 70 = .ok (.iload_n 1, 1) := by decide +kernel
theorem dX6_bestCell_71 : decode cX6_bestCell 71 = .ok (.iload 5, 2) := by decide +kernel
theorem dX6_bestCell_73 : decode cX6_bestCell 73 = .ok (.invokestatic 227, 3) := by decide +kernel
theorem dX6_bestCell_76 : decode cX6_bestCell 76 = .ok (.aload_n 0, 1) := by decide +kernel
theorem dX6_bestCell_77 : decode cX6_bestCell 77 = .ok (.aload_n 0, 1) := by decide +kernel
theorem dX6_bestCell_78 : decode cX6_bestCell 78 = .ok (.getfield 19, 3) := by decide +kernel
theorem dX6_bestCell_81 : decode cX6_bestCell 81 = .ok (.invokevirtual 117, 3) := by decide +kernel
theorem dX6_bestCell_84 : decode cX6_bestCell 84 = .ok (.invokevirtual 250, 3) := by decide +kernel
theorem dX6_bestCell_87 : decode cX6_bestCell 87 = .ok (.pop, 1) := by decide +kernel
theorem dX6_bestCell_88 : decode cX6_bestCell 88 = .ok (.aload_n 0, 1) := by decide +kernel
theorem dX6_bestCell_89 : decode cX6_bestCell 89 = .ok (.getfield 36, 3) := by decide +kernel
theorem dX6_bestCell_92 : decode cX6_bestCell 92 = .ok (.iload_n 1, 1) := by decide +kernel
theorem dX6_bestCell_93 : decode cX6_bestCell 93 = .ok (.invokestatic 154, 3) := by decide +kernel
theorem dX6_bestCell_96 : decode cX6_bestCell 96 = .ok (.iload 4, 2) := by decide +kernel
theorem dX6_bestCell_98 : decode cX6_bestCell 98 = .ok (.if_icmp .le 16, 3) := by decide +kernel
theorem dX6_bestCell_101 : decode cX6_bestCell 101 = .ok (.aload_n 0, 1) := by decide +kernel
theorem dX6_bestCell_102 : decode cX6_bestCell 102 = .ok (.getfield 36, 3) := by decide +kernel
theorem dX6_bestCell_105 : decode cX6_bestCell 105 = .ok (.iload_n 1, 1) := by decide +kernel
theorem dX6_bestCell_106 : decode cX6_bestCell 106 = .ok (.invokestatic 154, 3) := by decide +kernel
theorem dX6_bestCell_109 : decode cX6_bestCell 109 = .ok (.istore 4, 2) := by decide +kernel
theorem dX6_bestCell_111 : decode cX6_bestCell 111 = .ok (.iload 5, 2) := by decide +kernel
theorem dX6_bestCell_113 : decode cX6_bestCell 113 = .ok (.istore_n 3, 1) := by decide +kernel
theorem dX6_bestCell_114 : decode cX6_bestCell 114 = .ok (.iinc 5 1, 3) := by decide +kernel
theorem dX6_bestCell_117 : decode cX6_bestCell 117 = .ok (.goto (-86), 3) := by decide +kernel
theorem dX6_bestCell_120 : decode cX6_bestCell 120 = .ok (.iload_n 2, 1) := by decide +kernel
theorem dX6_bestCell_121 : decode cX6_bestCell 121 = .ok (.ifCond .ne 7, 3) := by decide +kernel
theorem dX6_bestCell_124 : decode cX6_bestCell 124 = .ok (.iload_n 3, 1) := by decide +kernel
theorem dX6_bestCell_125 : decode cX6_bestCell 125 = .ok (.goto 5, 3) := by decide +kernel
theorem dX6_bestCell_128 : decode cX6_bestCell 128 = .ok (.iload 4, 2) := by decide +kernel
theorem dX6_bestCell_130 : decode cX6_bestCell 130 = .ok (.ireturn, 1) := by decide +kernel
theorem dX6_bestTwo_0 : decode cX6_bestTwo 0 = .ok (.aload_n 0, 1) := by decide +kernel
theorem dX6_bestTwo_1 : decode cX6_bestTwo 1 = .ok (.iload_n 1, 1) := by decide +kernel
theorem dX6_bestTwo_2 : decode cX6_bestTwo 2 = .ok (.invokevirtual 146, 3) := by decide +kernel
theorem dX6_bestTwo_5 : decode cX6_bestTwo 5 = .ok (.ifCond .eq 16, 3) := by decide +kernel
theorem dX6_bestTwo_8 : decode cX6_bestTwo 8 = .ok (.aload_n 0, 1) := by decide +kernel
theorem dX6_bestTwo_9 : decode cX6_bestTwo 9 = .ok (.iload_n 2, 1) := by decide +kernel
theorem dX6_bestTwo_10 : decode cX6_bestTwo 10 = .ok (.invokevirtual 146, 3) := by decide +kernel
theorem dX6_bestTwo_13 : decode cX6_bestTwo 13 = .ok (.ifCond .eq 8, 3) := by decide +kernel
theorem dX6_bestTwo_16 : decode cX6_bestTwo 16 = .ok (.iload_n 1, 1) := by decide +kernel
theorem dX6_bestTwo_17 : decode cX6_bestTwo 17 = .ok (.iload_n 2, 1) := by decide +kernel
theorem dX6_bestTwo_18 : decode cX6_bestTwo 18 = .ok (.if_icmp .ne 6, 3) := by decide +kernel
theorem dX6_bestTwo_21 : decode cX6_bestTwo 21 = .ok (.ldc 150, 2) := by decide +kernel
theorem dX6_bestTwo_23 : decode cX6_bestTwo 23 = .ok (.ireturn, 1) := by decide +kernel
theorem dX6_bestTwo_24 : decode cX6_bestTwo 24 = .ok (.iload_n 3, 1) := by decide +kernel
theorem dX6_bestTwo_25 : decode cX6_bestTwo 25 = .ok (.iconst 0, 1) := by decide +kernel
theorem dX6_bestTwo_26 : decode cX6_bestTwo 26 = .ok (.iconst 1, 1) := by decide +kernel
theorem dX6_bestTwo_27 : decode cX6_bestTwo 27 = .ok (.invokestatic 80, 3) := by decide +kernel
theorem dX6_bestTwo_30 : decode cX6_bestTwo 30 = .ok (.ifCond .ne 6, 3) := by decide +kernel
theorem dX6_bestTwo_33 : decode cX6_bestTwo 33 = .ok (.ldc 84, 2) := by decide +kernel
theorem dX6_bestTwo_35 : decode cX6_bestTwo 35 = .ok (.ireturn, 1) := by decide +kernel
theorem dX6_bestTwo_36 : decode cX6_bestTwo 36 = .ok (.iconst (-1), 1) := by decide +kernel
theorem dX6_bestTwo_37 : decode cX6_bestTwo 37 = .ok (.istore 4, 2) := by decide +kernel
theorem dX6_bestTwo_39 : decode cX6_bestTwo 39 = .ok (.iconst (-1), 1) := by decide +kernel
theorem dX6_bestTwo_40 : decode cX6_bestTwo 40 = .ok (.istore 5, 2) := by decide +kernel
theorem dX6_bestTwo_42 : decode cX6_bestTwo 42 = .ok (.iconst 0, 1) := by decide +kernel
theorem dX6_bestTwo_43 : decode cX6_bestTwo 43 = .ok (.istore 6, 2) := by decide +kernel
theorem dX6_bestTwo_45 : decode cX6_bestTwo 45 = .ok (.iload 6, 2) := by decide +kernel
theorem dX6_bestTwo_47 : decode cX6_bestTwo 47 = .ok (.bipush 12, 2) := by decide +kernel
theorem dX6_bestTwo_49 : decode cX6_bestTwo 49 = .ok (.if_icmp .ge 93, 3) := by decide +kernel
theorem dX6_bestTwo_52 : decode cX6_bestTwo 52 = .ok (.aload_n 0, 1) := by decide +kernel
theorem dX6_bestTwo_53 : decode cX6_bestTwo 53 = .ok (.iload 6, 2) := by decide +kernel
theorem dX6_bestTwo_55 : decode cX6_bestTwo 55 = .ok (.iload_n 1, 1) := by decide +kernel
theorem dX6_bestTwo_56 : decode cX6_bestTwo 56 = .ok (.iload_n 2, 1) := by decide +kernel
theorem dX6_bestTwo_57 : decode cX6_bestTwo 57 = .ok (.invokevirtual 262, 3) := by decide +kernel
theorem dX6_bestTwo_60 : decode cX6_bestTwo 60 = .ok (.ifCond .ne 6, 3) := by decide +kernel
theorem dX6_bestTwo_63 : decode cX6_bestTwo 63 = .ok (.goto 73, 3) := by decide +kernel
theorem dX6_bestTwo_66 : decode cX6_bestTwo 66 = .ok (.iconst 0, 1) := by decide +kernel
theorem dX6_bestTwo_67 : decode cX6_bestTwo 67 = .ok (.istore 7, 2) := by decide +kernel
theorem dX6_bestTwo_69 : decode cX6_bestTwo 69 = .ok (.iload 7, 2) := by decide +kernel
theorem dX6_bestTwo_71 : decode cX6_bestTwo 71 = .ok (.bipush 12, 2) := by decide +kernel
theorem dX6_bestTwo_73 : decode cX6_bestTwo 73 = .ok (.if_icmp .ge 63, 3) := by decide +kernel
theorem dX6_bestTwo_76 : decode cX6_bestTwo 76 = .ok (.iload 7, 2) := by decide +kernel
theorem dX6_bestTwo_78 : decode cX6_bestTwo 78 = .ok (.iload 6, 2) := by decide +kernel
theorem dX6_bestTwo_80 : decode cX6_bestTwo 80 = .ok (.if_icmp .eq 50, 3) := by decide +kernel
theorem dX6_bestTwo_83 : decode cX6_bestTwo 83 = .ok (.aload_n 0, 1) := by decide +kernel
theorem dX6_bestTwo_84 : decode cX6_bestTwo 84 = .ok (.iload 7, 2) := by decide +kernel
theorem dX6_bestTwo_86 : decode cX6_bestTwo 86 = .ok (.iload_n 1, 1) := by decide +kernel
theorem dX6_bestTwo_87 : decode cX6_bestTwo 87 = .ok (.iload_n 2, 1) := by decide +kernel
theorem dX6_bestTwo_88 : decode cX6_bestTwo 88 = .ok (.invokevirtual 262, 3) := by decide +kernel
theorem dX6_bestTwo_91 : decode cX6_bestTwo 91 = .ok (.ifCond .ne 6, 3) := by decide +kernel
theorem dX6_bestTwo_94 : decode cX6_bestTwo 94 = .ok (.goto 36, 3) := by decide +kernel
theorem dX6_bestTwo_97 : decode cX6_bestTwo 97 = .ok (.aload_n 0, 1) := by decide +kernel
theorem dX6_bestTwo_98 : decode cX6_bestTwo 98 = .ok (.iload_n 1, 1) := by decide +kernel
theorem dX6_bestTwo_99 : decode cX6_bestTwo 99 = .ok (.iload 6, 2) := by decide +kernel
theorem dX6_bestTwo_101 : decode cX6_bestTwo 101 = .ok (.iload_n 2, 1) := by decide +kernel
theorem dX6_bestTwo_102 : decode cX6_bestTwo 102 = .ok (.iload 7, 2) := by decide +kernel
theorem dX6_bestTwo_104 : decode cX6_bestTwo 104 = .ok (.invokevirtual 265, 3) := by decide +kernel
theorem dX6_bestTwo_107 : decode cX6_bestTwo 107 = .ok (.istore 8, 2) := by decide +kernel
theorem dX6_bestTwo_109 : decode cX6_bestTwo 109 = .ok (.iload 8, 2) := by decide +kernel
theorem dX6_bestTwo_111 : decode cX6_bestTwo 111 = .ok (.iload 5, 2) := by decide +kernel
theorem dX6_bestTwo_113 : decode cX6_bestTwo 113 = .ok (.if_icmp .le 17, 3) := by decide +kernel
theorem dX6_bestTwo_116 : decode cX6_bestTwo 116 = .ok (.iload 8, 2) := by decide +kernel
theorem dX6_bestTwo_118 : decode cX6_bestTwo 118 = .ok (.istore 5, 2) := by decide +kernel
theorem dX6_bestTwo_120 : decode cX6_bestTwo 120 = .ok (.bipush 100, 2) := by decide +kernel
theorem dX6_bestTwo_122 : decode cX6_bestTwo 122 = .ok (.iload 6, 2) := by decide +kernel
theorem dX6_bestTwo_124 : decode cX6_bestTwo 124 = .ok (.imul, 1) := by decide +kernel
theorem dX6_bestTwo_125 : decode cX6_bestTwo 125 = .ok (.iload 7, 2) := by decide +kernel
theorem dX6_bestTwo_127 : decode cX6_bestTwo 127 = .ok (.iadd, 1) := by decide +kernel
theorem dX6_bestTwo_128 : decode cX6_bestTwo 128 = .ok (.istore 4, 2) := by decide +kernel
theorem dX6_bestTwo_130 : decode cX6_bestTwo 130 = .ok (.iinc 7 1, 3) := by decide +kernel
theorem dX6_bestTwo_133 : decode cX6_bestTwo 133 = .ok (.goto (-64), 3) := by decide +kernel
theorem dX6_bestTwo_136 : decode cX6_bestTwo 136 = .ok (.iinc 6 1, 3) := by decide +kernel
theorem dX6_bestTwo_139 : decode cX6_bestTwo 139 = .ok (.goto (-94), 3) := by decide +kernel
theorem dX6_bestTwo_142 : decode cX6_bestTwo 142 = .ok (.iload_n 3, 1) := by decide +kernel
theorem dX6_bestTwo_143 : decode cX6_bestTwo 143 = .ok (.ifCond .ne 8, 3) := by decide +kernel
theorem dX6_bestTwo_146 : decode cX6_bestTwo 146 = .ok (.iload 4, 2) := by decide +kernel
theorem dX6_bestTwo_148 : decode cX6_bestTwo 148 = .ok (.goto 5, 3) := by decide +kernel
theorem dX6_bestTwo_151 : decode cX6_bestTwo 151 = .ok (.iload 5, 2) := by decide +kernel
theorem dX6_bestTwo_153 : decode cX6_bestTwo 153 = .ok (.ireturn, 1) := by decide +kernel
theorem dX6_lampCosts_0 : decode cX6_lampCosts 0 = .ok (.iload_n 1, 1) := by decide +kernel
theorem dX6_lampCosts_1 : decode cX6_lampCosts 1 = .ok (.iconst 0, 1) := by decide +kernel
theorem dX6_lampCosts_2 : decode cX6_lampCosts 2 = .ok (.bipush 99, 2) := by decide +kernel
theorem dX6_lampCosts_4 : decode cX6_lampCosts 4 = .ok (.invokestatic 80, 3) := by decide +kernel
theorem dX6_lampCosts_7 : decode cX6_lampCosts 7 = .ok (.ifCond .ne 6, 3) := by decide +kernel
theorem dX6_lampCosts_10 : decode cX6_lampCosts 10 = .ok (.ldc 84, 2) := by decide +kernel
theorem dX6_lampCosts_12 : decode cX6_lampCosts 12 = .ok (.ireturn, 1) := by decide +kernel
theorem dX6_lampCosts_13 : decode cX6_lampCosts 13 = .ok (.aload_n 0, 1) := by decide +kernel
theorem dX6_lampCosts_14 : decode cX6_lampCosts 14 = .ok (.invokevirtual 173, 3) := by decide +kernel
theorem dX6_lampCosts_17 : decode cX6_lampCosts 17 = .ok (.ifCond .eq 6, 3) := by decide +kernel
theorem dX6_lampCosts_20 : decode cX6_lampCosts 20 = .ok (.ldc 177, 2) := by decide +kernel
theorem dX6_lampCosts_22 : decode cX6_lampCosts 22 = .ok (.ireturn, 1) := by decide +kernel
theorem dX6_lampCosts_23 : decode cX6_lampCosts 23 = .ok (.aload_n 0, 1) := by decide +kernel
theorem dX6_lampCosts_24 : decode cX6_lampCosts 24 = .ok (.getfield 33, 3) := by decide +kernel
theorem dX6_lampCosts_27 : decode cX6_lampCosts 27 = .ok (.aload_n 0, 1) := by decide +kernel
theorem dX6_lampCosts_28 : decode cX6_lampCosts 28 = .ok (.getfield 29, 3) := by decide +kernel
theorem dX6_lampCosts_31 : decode cX6_lampCosts 31 = .ok (.invokevirtual 247, 3) := by decide +kernel
theorem dX6_lampCosts_34 : decode cX6_lampCosts 34 = .ok (.aload_n 0, 1) := by decide +kernel
theorem dX6_lampCosts_35 : decode cX6_lampCosts 35 = .ok (.getfield 33, 3) := by decide +kernel
theorem dX6_lampCosts_38 : decode cX6_lampCosts 38 = .ok (.iconst 0, 1) := by decide +kernel
theorem dX6_lampCosts_39 : decode cX6_lampCosts 39 = .ok (.putfield 130, 3) := by decide +kernel
theorem dX6_lampCosts_42 : decode cX6_lampCosts 42 = .ok (.aload_n 0, 1) := by decide +kernel
theorem dX6_lampCosts_43 : decode cX6_lampCosts 43 = .ok (.iload_n 1, 1) := by decide +kernel
theorem dX6_lampCosts_44 : decode cX6_lampCosts 44 = .ok (.invokevirtual 250, 3) := by decide +kernel
theorem dX6_lampCosts_47 : decode cX6_lampCosts 47 = .ok (.istore_n 2, 1) := by decide +kernel
theorem dX6_lampCosts_48 : decode cX6_lampCosts 48 = .ok (.aload_n 0, 1) := by decide +kernel
theorem dX6_lampCosts_49 : decode cX6_lampCosts 49 = .ok (.getfield 33, 3) := by decide +kernel
theorem dX6_lampCosts_52 : decode cX6_lampCosts 52 = .ok (.aload_n 0, 1) := by decide +kernel
theorem dX6_lampCosts_53 : decode cX6_lampCosts 53 = .ok (.getfield 29, 3) := by decide +kernel
theorem dX6_lampCosts_56 : decode cX6_lampCosts 56 = .ok (.invokevirtual 247, 3) := by decide +kernel
theorem dX6_lampCosts_59 : decode cX6_lampCosts 59 = .ok (.aload_n 0, 1) := by decide +kernel
theorem dX6_lampCosts_60 : decode cX6_lampCosts 60 = .ok (.getfield 33, 3) := by decide +kernel
theorem dX6_lampCosts_63 : decode cX6_lampCosts 63 = .ok (.iconst 1, 1) := by decide +kernel
theorem dX6_lampCosts_64 : decode cX6_lampCosts 64 = .ok (.putfield 130, 3) := by decide +kernel
theorem dX6_lampCosts_67 : decode cX6_lampCosts 67 = .ok (.iload_n 2, 1) := by decide +kernel
theorem dX6_lampCosts_68 : decode cX6_lampCosts 68 = .ok (.aload_n 0, 1) := by decide +kernel
theorem dX6_lampCosts_69 : decode cX6_lampCosts 69 = .ok (.iload_n 1, 1) := by decide +kernel
theorem dX6_lampCosts_70 : decode cX6_lampCosts 70 = .ok (.invokevirtual 250, 3) := by decide +kernel
theorem dX6_lampCosts_73 : decode cX6_lampCosts 73 = .ok (.isub, 1) := by decide +kernel
theorem dX6_lampCosts_74 : decode cX6_lampCosts 74 = .ok (.ireturn, 1) := by decide +kernel
theorem dX6_thirsty_0 : decode cX6_thirsty 0 = .ok (.iload_n 1, 1) := by decide +kernel
theorem dX6_thirsty_1 : decode cX6_thirsty 1 = .ok (.invokestatic 184, 3) := by decide +kernel
theorem dX6_thirsty_4 : decode cX6_thirsty 4 = .ok (.ifCond .ne 6, 3) := by decide +kernel
theorem dX6_thirsty_7 : decode cX6_thirsty 7 = .ok (.ldc 150, 2) := by decide +kernel
theorem dX6_thirsty_9 : decode cX6_thirsty 9 = .ok (.ireturn, 1) := by decide +kernel
theorem dX6_thirsty_10 : decode cX6_thirsty 10 = .ok (.aload_n 0, 1) := by decide +kernel
theorem dX6_thirsty_11 : decode cX6_thirsty 11 = .ok (.invokevirtual 173, 3) := by decide +kernel
theorem dX6_thirsty_14 : decode cX6_thirsty 14 = .ok (.ifCond .eq 6, 3) := by decide +kernel
theorem dX6_thirsty_17 : decode cX6_thirsty 17 = .ok (.ldc 177, 2) := by decide +kernel
theorem dX6_thirsty_19 : decode cX6_thirsty 19 = .ok (.ireturn, 1) := by decide +kernel
theorem dX6_thirsty_20 : decode cX6_thirsty 20 = .ok (.aload_n 0, 1) := by decide +kernel
theorem dX6_thirsty_21 : decode cX6_thirsty 21 = .ok (.getfield 33, 3) := by decide +kernel
theorem dX6_thirsty_24 : decode cX6_thirsty 24 = .ok (.aload_n 0, 1) := by decide +kernel
theorem dX6_thirsty_25 : decode cX6_thirsty 25 = .ok (.getfield 29, 3) := by decide +kernel
theorem dX6_thirsty_28 : decode cX6_thirsty 28 = .ok (.invokevirtual 247, 3) := by decide +kernel
theorem dX6_thirsty_31 : decode cX6_thirsty 31 = .ok (.aload_n 0, 1) := by decide +kernel
theorem dX6_thirsty_32 : decode cX6_thirsty 32 = .ok (.getfield 29, 3) := by decide +kernel
theorem dX6_thirsty_35 : decode cX6_thirsty 35 = .ok (.getfield 196, 3) := by decide +kernel
theorem dX6_thirsty_38 : decode cX6_thirsty 38 = .ok (.iload_n 1, 1) := by decide +kernel
theorem dX6_thirsty_39 : decode cX6_thirsty 39 = .ok (.invokestatic 154, 3) := by decide +kernel
theorem dX6_thirsty_42 : decode cX6_thirsty 42 = .ok (.istore_n 2, 1) := by decide +kernel
theorem dX6_thirsty_43 : decode cX6_thirsty 43 = .ok (.iconst 0, 1) := by decide +kernel
theorem dX6_thirsty_44 : decode cX6_thirsty 44 = .ok (.istore_n 3, 1) := by decide +kernel
theorem dX6_thirsty_45 : decode cX6_thirsty 45 = .ok (.iload_n 3, 1) := by decide +kernel
theorem dX6_thirsty_46 : decode cX6_thirsty 46 = .ok (.sipush 720, 3) := by decide +kernel
theorem dX6_thirsty_49 : decode cX6_thirsty 49 = .ok (.if_icmp .ge 105, 3) := by decide +kernel
theorem dX6_thirsty_52 : decode cX6_thirsty 52 = .ok (.aload_n 0, 1) := by decide +kernel
theorem dX6_thirsty_53 : decode cX6_thirsty 53 = .ok (.getfield 33, 3) := by decide +kernel
theorem dX6_thirsty_56 : decode cX6_thirsty 56 = .ok (.getfield 124, 3) := by decide +kernel
theorem dX6_thirsty_59 : decode cX6_thirsty 59 = .ok (.aload_n 0, 1) := by decide +kernel
theorem dX6_thirsty_60 : decode cX6_thirsty 60 = .ok (.getfield 29, 3) := by decide +kernel
theorem dX6_thirsty_63 : decode cX6_thirsty 63 = .ok (.getfield 124, 3) := by decide +kernel
theorem dX6_thirsty_66 : decode cX6_thirsty 66 = .ok (.isub, 1) := by decide +kernel
theorem dX6_thirsty_67 : decode cX6_thirsty 67 = .ok (.bipush 60, 2) := by decide +kernel
theorem dX6_thirsty_69 : decode cX6_thirsty 69 = .ok (.if_icmp .ge 85, 3) := by decide +kernel
theorem dX6_thirsty_72 : decode cX6_thirsty 72 = .ok (.aload_n 0, 1) := by decide +kernel
theorem dX6_thirsty_73 : decode cX6_thirsty 73 = .ok (.getfield 33, 3) := by decide +kernel
theorem dX6_thirsty_76 : decode cX6_thirsty 76 = .ok (.aload_n 0, 1) := by decide +kernel
theorem dX6_thirsty_77 : decode cX6_thirsty 77 = .ok (.getfield 19, 3) := by decide +kernel
theorem dX6_thirsty_80 : decode cX6_thirsty 80 = .ok (.aload_n 0, 1) := by decide +kernel
theorem dX6_thirsty_81 : decode cX6_thirsty 81 = .ok (.getfield 43, 3) := by decide +kernel
theorem dX6_thirsty_84 : decode cX6_thirsty 84 = .ok (.aload_n 0, 1) := by decide +kernel
theorem dX6_thirsty_85 : decode cX6_thirsty 85 = .ok (.getfield 19, 3) := by decide +kernel
theorem dX6_thirsty_88 : decode cX6_thirsty 88 = .ok (.aload_n 0, 1) := by decide +kernel
theorem dX6_thirsty_89 : decode cX6_thirsty 89 = .ok (.getfield 33, 3) := by decide +kernel
theorem dX6_thirsty_92 : decode cX6_thirsty 92 = .ok (.getfield 127, 3) := by decide +kernel
theorem dX6_thirsty_95 : decode cX6_thirsty 95 = .ok (.invokevirtual 178, 3) := by decide +kernel
theorem dX6_thirsty_98 : decode cX6_thirsty 98 = .ok (.aload_n 0, 1) := by decide +kernel
theorem dX6_thirsty_99 : decode cX6_thirsty 99 = .ok (.getfield 19, 3) := by decide +kernel
theorem dX6_thirsty_102 : decode cX6_thirsty 102 = .ok (.aload_n 0, 1) := by decide +kernel
theorem dX6_thirsty_103 : decode cX6_thirsty 103 = .ok (.getfield 33, 3) := by decide +kernel
theorem dX6_thirsty_106 : decode cX6_thirsty 106 = .ok (.getfield 127, 3) := by decide +kernel
theorem dX6_thirsty_109 : decode cX6_thirsty 109 = .ok (.invokevirtual 181, 3) := by decide +kernel
theorem dX6_thirsty_112 : decode cX6_thirsty 112 = .ok (.iconst 1, 1) := by decide +kernel
theorem dX6_thirsty_113 : decode cX6_thirsty 113 = .ok (.invokevirtual 215, 3) := by decide +kernel
theorem dX6_thirsty_116 : decode cX6_thirsty 116 = .ok (.pop, 1) := by decide +kernel
theorem dX6_thirsty_117 : decode cX6_thirsty 117 = .ok (.aload_n 0, 1) := by decide +kernel
theorem dX6_thirsty_118 : decode cX6_thirsty 118 = .ok (.getfield 33, 3) := by decide +kernel
theorem dX6_thirsty_121 : decode cX6_thirsty 121 = .ok (.getfield 196, 3) := by decide +kernel
theorem dX6_thirsty_124 : decode cX6_thirsty 124 = .ok (.iload_n 1, 1) := by decide +kernel
theorem dX6_thirsty_125 : decode cX6_thirsty 125 = .ok (.invokestatic 154, 3) := by decide +kernel
theorem dX6_thirsty_128 : decode cX6_thirsty 128 = .ok (.iload_n 2, 1) := by decide +kernel
theorem dX6_thirsty_129 : decode cX6_thirsty 129 = .ok (.if_icmp .le 19, 3) := by decide +kernel
theorem dX6_thirsty_132 : decode cX6_thirsty 132 = .ok (.aload_n 0, 1) := by decide +kernel
theorem dX6_thirsty_133 : decode cX6_thirsty 133 = .ok (.getfield 33, 3) := by decide +kernel
theorem dX6_thirsty_136 : decode cX6_thirsty 136 = .ok (.getfield 124, 3) := by decide +kernel
theorem dX6_thirsty_139 : decode cX6_thirsty 139 = .ok (.aload_n 0, 1) := by decide +kernel
theorem dX6_thirsty_140 : decode cX6_thirsty 140 = .ok (.getfield 29, 3) := by decide +kernel
theorem dX6_thirsty_143 : decode cX6_thirsty 143 = .ok (.getfield 124, 3) := by decide +kernel
theorem dX6_thirsty_146 : decode cX6_thirsty 146 = .ok (.isub, 1) := by decide +kernel
theorem dX6_thirsty_147 : decode cX6_thirsty 147 = .ok (.ireturn, 1) := by decide +kernel
theorem dX6_thirsty_148 : decode cX6_thirsty 148 = .ok (.iinc 3 1, 3) := by decide +kernel
theorem dX6_thirsty_151 : decode cX6_thirsty 151 = .ok (.goto (-106), 3) := by decide +kernel
theorem dX6_thirsty_154 : decode cX6_thirsty 154 = .ok (.iconst (-1), 1) := by decide +kernel
theorem dX6_thirsty_155 : decode cX6_thirsty 155 = .ok (.ireturn, 1) := by decide +kernel
theorem dX6_lasts_0 : decode cX6_lasts 0 = .ok (.iload_n 1, 1) := by decide +kernel
theorem dX6_lasts_1 : decode cX6_lasts 1 = .ok (.invokestatic 184, 3) := by decide +kernel
theorem dX6_lasts_4 : decode cX6_lasts 4 = .ok (.ifCond .ne 6, 3) := by decide +kernel
theorem dX6_lasts_7 : decode cX6_lasts 7 = .ok (.ldc 150, 2) := by decide +kernel
theorem dX6_lasts_9 : decode cX6_lasts 9 = .ok (.ireturn, 1) := by decide +kernel
theorem dX6_lasts_10 : decode cX6_lasts 10 = .ok (.aload_n 0, 1) := by decide +kernel
theorem dX6_lasts_11 : decode cX6_lasts 11 = .ok (.getfield 19, 3) := by decide +kernel
theorem dX6_lasts_14 : decode cX6_lasts 14 = .ok (.getfield 190, 3) := by decide +kernel
theorem dX6_lasts_17 : decode cX6_lasts 17 = .ok (.iload_n 1, 1) := by decide +kernel
theorem dX6_lasts_18 : decode cX6_lasts 18 = .ok (.invokestatic 154, 3) := by decide +kernel
theorem dX6_lasts_21 : decode cX6_lasts 21 = .ok (.istore_n 2, 1) := by decide +kernel
theorem dX6_lasts_22 : decode cX6_lasts 22 = .ok (.iload_n 2, 1) := by decide +kernel
theorem dX6_lasts_23 : decode cX6_lasts 23 = .ok (.ifCond .gt 7, 3) := by decide +kernel
theorem dX6_lasts_26 : decode cX6_lasts 26 = .ok (.sipush 999, 3) := by decide +kernel
theorem dX6_lasts_29 : decode cX6_lasts 29 = .ok (.ireturn, 1) := by decide +kernel
theorem dX6_lasts_30 : decode cX6_lasts 30 = .ok (.aload_n 0, 1) := by decide +kernel
theorem dX6_lasts_31 : decode cX6_lasts 31 = .ok (.getfield 29, 3) := by decide +kernel
theorem dX6_lasts_34 : decode cX6_lasts 34 = .ok (.getfield 193, 3) := by decide +kernel
theorem dX6_lasts_37 : decode cX6_lasts 37 = .ok (.iload_n 1, 1) := by decide +kernel
theorem dX6_lasts_38 : decode cX6_lasts 38 = .ok (.invokestatic 154, 3) := by decide +kernel
theorem dX6_lasts_41 : decode cX6_lasts 41 = .ok (.iload_n 2, 1) := by decide +kernel
theorem dX6_lasts_42 : decode cX6_lasts 42 = .ok (.idiv, 1) := by decide +kernel
theorem dX6_lasts_43 : decode cX6_lasts 43 = .ok (.sipush 999, 3) := by decide +kernel
theorem dX6_lasts_46 : decode cX6_lasts 46 = .ok (.invokestatic 269, 3) := by decide +kernel
theorem dX6_lasts_49 : decode cX6_lasts 49 = .ok (.ireturn, 1) := by decide +kernel
theorem dX6_both_0 : decode cX6_both 0 = .ok (.aload_n 0, 1) := by decide +kernel
theorem dX6_both_1 : decode cX6_both 1 = .ok (.invokevirtual 173, 3) := by decide +kernel
theorem dX6_both_4 : decode cX6_both 4 = .ok (.ifCond .eq 6, 3) := by decide +kernel
theorem dX6_both_7 : decode cX6_both 7 = .ok (.ldc 177, 2) := by decide +kernel
theorem dX6_both_9 : decode cX6_both 9 = .ok (.ireturn, 1) := by decide +kernel
theorem dX6_both_10 : decode cX6_both 10 = .ok (.iconst 0, 1) := by decide +kernel
theorem dX6_both_11 : decode cX6_both 11 = .ok (.istore_n 1, 1) := by decide +kernel
theorem dX6_both_12 : decode cX6_both 12 = .ok (.iload_n 1, 1) := by decide +kernel
theorem dX6_both_13 : decode cX6_both 13 = .ok (.bipush 7, 2) := by decide +kernel
theorem dX6_both_15 : decode cX6_both 15 = .ok (.if_icmp .ge 51, 3) := by decide +kernel
theorem dX6_both_18 : decode cX6_both 18 = .ok (.aload_n 0, 1) := by decide +kernel
theorem dX6_both_19 : decode cX6_both 19 = .ok (.getfield 19, 3) := by decide +kernel
theorem dX6_both_22 : decode cX6_both 22 = .ok (.iconst 0, 1) := by decide +kernel
theorem dX6_both_23 : decode cX6_both 23 = .ok (.aload_n 0, 1) := by decide +kernel
theorem dX6_both_24 : decode cX6_both 24 = .ok (.getfield 29, 3) := by decide +kernel
theorem dX6_both_27 : decode cX6_both 27 = .ok (.getfield 124, 3) := by decide +kernel
theorem dX6_both_30 : decode cX6_both 30 = .ok (.iload_n 1, 1) := by decide +kernel
theorem dX6_both_31 : decode cX6_both 31 = .ok (.iadd, 1) := by decide +kernel
theorem dX6_both_32 : decode cX6_both 32 = .ok (.invokevirtual 274, 3) := by decide +kernel
theorem dX6_both_35 : decode cX6_both 35 = .ok (.ifCond .eq 25, 3) := by decide +kernel
theorem dX6_both_38 : decode cX6_both 38 = .ok (.aload_n 0, 1) := by decide +kernel
theorem dX6_both_39 : decode cX6_both 39 = .ok (.getfield 19, 3) := by decide +kernel
theorem dX6_both_42 : decode cX6_both 42 = .ok (.iconst 1, 1) := by decide +kernel
theorem dX6_both_43 : decode cX6_both 43 = .ok (.aload_n 0, 1) := by decide +kernel
theorem dX6_both_44 : decode cX6_both 44 = .ok (.getfield 29, 3) := by decide +kernel
theorem dX6_both_47 : decode cX6_both 47 = .ok (.getfield 124, 3) := by decide +kernel
theorem dX6_both_50 : decode cX6_both 50 = .ok (.iload_n 1, 1) := by decide +kernel
theorem dX6_both_51 : decode cX6_both 51 = .ok (.iadd, 1) := by decide +kernel
theorem dX6_both_52 : decode cX6_both 52 = .ok (.invokevirtual 274, 3) := by decide +kernel
theorem dX6_both_55 : decode cX6_both 55 = .ok (.ifCond .eq 5, 3) := by decide +kernel
theorem dX6_both_58 : decode cX6_both 58 = .ok (.iload_n 1, 1) := by decide +kernel
theorem dX6_both_59 : decode cX6_both 59 = .ok (.ireturn, 1) := by decide +kernel
theorem dX6_both_60 : decode cX6_both 60 = .ok (.iinc 1 1, 3) := by decide +kernel
theorem dX6_both_63 : decode cX6_both 63 = .ok (.goto (-51), 3) := by decide +kernel
theorem dX6_both_66 : decode cX6_both 66 = .ok (.iconst (-1), 1) := by decide +kernel
theorem dX6_both_67 : decode cX6_both 67 = .ok (.ireturn, 1) := by decide +kernel
theorem dX6_apart_0 : decode cX6_apart 0 = .ok (.iload_n 1, 1) := by decide +kernel
theorem dX6_apart_1 : decode cX6_apart 1 = .ok (.iconst 0, 1) := by decide +kernel
theorem dX6_apart_2 : decode cX6_apart 2 = .ok (.bipush 99, 2) := by decide +kernel
theorem dX6_apart_4 : decode cX6_apart 4 = .ok (.invokestatic 80, 3) := by decide +kernel
theorem dX6_apart_7 : decode cX6_apart 7 = .ok (.ifCond .ne 6, 3) := by decide +kernel
theorem dX6_apart_10 : decode cX6_apart 10 = .ok (.ldc 84, 2) := by decide +kernel
theorem dX6_apart_12 : decode cX6_apart 12 = .ok (.ireturn, 1) := by decide +kernel
theorem dX6_apart_13 : decode cX6_apart 13 = .ok (.aload_n 0, 1) := by decide +kernel
theorem dX6_apart_14 : decode cX6_apart 14 = .ok (.invokevirtual 173, 3) := by decide +kernel
theorem dX6_apart_17 : decode cX6_apart 17 = .ok (.ifCond .eq 6, 3) := by decide +kernel
theorem dX6_apart_20 : decode cX6_apart 20 = .ok (.ldc 177, 2) := by decide +kernel
theorem dX6_apart_22 : decode cX6_apart 22 = .ok (.ireturn, 1) := by decide +kernel
theorem dX6_apart_23 : decode cX6_apart 23 = .ok (.iconst 0, 1) := by decide +kernel
theorem dX6_apart_24 : decode cX6_apart 24 = .ok (.istore_n 2, 1) := by decide +kernel
theorem dX6_apart_25 : decode cX6_apart 25 = .ok (.iconst 0, 1) := by decide +kernel
theorem dX6_apart_26 : decode cX6_apart 26 = .ok (.istore_n 3, 1) := by decide +kernel
theorem dX6_apart_27 : decode cX6_apart 27 = .ok (.iload_n 3, 1) := by decide +kernel
theorem dX6_apart_28 : decode cX6_apart 28 = .ok (.iload_n 1, 1) := by decide +kernel
theorem dX6_apart_29 : decode cX6_apart 29 = .ok (.if_icmp .ge 49, 3) := by decide +kernel
theorem dX6_apart_32 : decode cX6_apart 32 = .ok (.aload_n 0, 1) := by decide +kernel
theorem dX6_apart_33 : decode cX6_apart 33 = .ok (.getfield 19, 3) := by decide +kernel
theorem dX6_apart_36 : decode cX6_apart 36 = .ok (.iconst 0, 1) := by decide +kernel
theorem dX6_apart_37 : decode cX6_apart 37 = .ok (.aload_n 0, 1) := by decide +kernel
theorem dX6_apart_38 : decode cX6_apart 38 = .ok (.getfield 29, 3) := by decide +kernel
theorem dX6_apart_41 : decode cX6_apart 41 = .ok (.getfield 124, 3) := by decide +kernel
theorem dX6_apart_44 : decode cX6_apart 44 = .ok (.iload_n 3, 1) := by decide +kernel
theorem dX6_apart_45 : decode cX6_apart 45 = .ok (.iadd, 1) := by decide +kernel
theorem dX6_apart_46 : decode cX6_apart 46 = .ok (.invokevirtual 274, 3) := by decide +kernel
theorem dX6_apart_49 : decode cX6_apart 49 = .ok (.aload_n 0, 1) := by decide +kernel
theorem dX6_apart_50 : decode cX6_apart 50 = .ok (.getfield 19, 3) := by decide +kernel
theorem dX6_apart_53 : decode cX6_apart 53 = .ok (.iconst 1, 1) := by decide +kernel
theorem dX6_apart_54 : decode cX6_apart 54 = .ok (.aload_n 0, 1) := by decide +kernel
theorem dX6_apart_55 : decode cX6_apart 55 = .ok (.getfield 29, 3) := by decide +kernel
theorem dX6_apart_58 : decode cX6_apart 58 = .ok (.getfield 124, 3) := by decide +kernel
theorem dX6_apart_61 : decode cX6_apart 61 = .ok (.iload_n 3, 1) := by decide +kernel
theorem dX6_apart_62 : decode cX6_apart 62 = .ok (.iadd, 1) := by decide +kernel
theorem dX6_apart_63 : decode cX6_apart 63 = .ok (.invokevirtual 274, 3) := by decide +kernel
theorem dX6_apart_66 : decode cX6_apart 66 = .ok (.if_icmp .eq 6, 3) := by decide +kernel
theorem dX6_apart_69 : decode cX6_apart 69 = .ok (.iinc 2 1, 3) := by decide +kernel
theorem dX6_apart_72 : decode cX6_apart 72 = .ok (.iinc 3 1, 3) := by decide +kernel
theorem dX6_apart_75 : decode cX6_apart 75 = .ok (.goto (-48), 3) := by decide +kernel
theorem dX6_apart_78 : decode cX6_apart 78 = .ok (.iload_n 2, 1) := by decide +kernel
theorem dX6_apart_79 : decode cX6_apart 79 = .ok (.ireturn, 1) := by decide +kernel
theorem dX6_share_0 : decode cX6_share 0 = .ok (.iload_n 2, 1) := by decide +kernel
theorem dX6_share_1 : decode cX6_share 1 = .ok (.invokestatic 184, 3) := by decide +kernel
theorem dX6_share_4 : decode cX6_share 4 = .ok (.ifCond .ne 6, 3) := by decide +kernel
theorem dX6_share_7 : decode cX6_share 7 = .ok (.ldc 150, 2) := by decide +kernel
theorem dX6_share_9 : decode cX6_share 9 = .ok (.ireturn, 1) := by decide +kernel
theorem dX6_share_10 : decode cX6_share 10 = .ok (.iload_n 1, 1) := by decide +kernel
theorem dX6_share_11 : decode cX6_share 11 = .ok (.iconst 0, 1) := by decide +kernel
theorem dX6_share_12 : decode cX6_share 12 = .ok (.sipush 999, 3) := by decide +kernel
theorem dX6_share_15 : decode cX6_share 15 = .ok (.invokestatic 80, 3) := by decide +kernel
theorem dX6_share_18 : decode cX6_share 18 = .ok (.ifCond .ne 6, 3) := by decide +kernel
theorem dX6_share_21 : decode cX6_share 21 = .ok (.ldc 84, 2) := by decide +kernel
theorem dX6_share_23 : decode cX6_share 23 = .ok (.ireturn, 1) := by decide +kernel
theorem dX6_share_24 : decode cX6_share 24 = .ok (.aload_n 0, 1) := by decide +kernel
theorem dX6_share_25 : decode cX6_share 25 = .ok (.getfield 19, 3) := by decide +kernel
theorem dX6_share_28 : decode cX6_share 28 = .ok (.getfield 105, 3) := by decide +kernel
theorem dX6_share_31 : decode cX6_share 31 = .ok (.istore_n 3, 1) := by decide +kernel
theorem dX6_share_32 : decode cX6_share 32 = .ok (.iload_n 3, 1) := by decide +kernel
theorem dX6_share_33 : decode cX6_share 33 = .ok (.ifCond .gt 5, 3) := by decide +kernel
theorem dX6_share_36 : decode cX6_share 36 = .ok (.iconst 0, 1) := by decide +kernel
theorem dX6_share_37 : decode cX6_share 37 = .ok (.ireturn, 1) := by decide +kernel
theorem dX6_share_38 : decode cX6_share 38 = .ok (.iload_n 1, 1) := by decide +kernel
theorem dX6_share_39 : decode cX6_share 39 = .ok (.aload_n 0, 1) := by decide +kernel
theorem dX6_share_40 : decode cX6_share 40 = .ok (.getfield 19, 3) := by decide +kernel
theorem dX6_share_43 : decode cX6_share 43 = .ok (.iconst 0, 1) := by decide +kernel
theorem dX6_share_44 : decode cX6_share 44 = .ok (.invokevirtual 199, 3) := by decide +kernel
theorem dX6_share_47 : decode cX6_share 47 = .ok (.invokestatic 278, 3) := by decide +kernel
theorem dX6_share_50 : decode cX6_share 50 = .ok (.imul, 1) := by decide +kernel
theorem dX6_share_51 : decode cX6_share 51 = .ok (.istore 4, 2) := by decide +kernel
theorem dX6_share_53 : decode cX6_share 53 = .ok (.iload_n 1, 1) := by decide +kernel
theorem dX6_share_54 : decode cX6_share 54 = .ok (.aload_n 0, 1) := by decide +kernel
theorem dX6_share_55 : decode cX6_share 55 = .ok (.getfield 19, 3) := by decide +kernel
theorem dX6_share_58 : decode cX6_share 58 = .ok (.iconst 1, 1) := by decide +kernel
theorem dX6_share_59 : decode cX6_share 59 = .ok (.invokevirtual 199, 3) := by decide +kernel
theorem dX6_share_62 : decode cX6_share 62 = .ok (.invokestatic 278, 3) := by decide +kernel
theorem dX6_share_65 : decode cX6_share 65 = .ok (.imul, 1) := by decide +kernel
theorem dX6_share_66 : decode cX6_share 66 = .ok (.istore 5, 2) := by decide +kernel
theorem dX6_share_68 : decode cX6_share 68 = .ok (.iload_n 1, 1) := by decide +kernel
theorem dX6_share_69 : decode cX6_share 69 = .ok (.iload 4, 2) := by decide +kernel
theorem dX6_share_71 : decode cX6_share 71 = .ok (.iload_n 3, 1) := by decide +kernel
theorem dX6_share_72 : decode cX6_share 72 = .ok (.idiv, 1) := by decide +kernel
theorem dX6_share_73 : decode cX6_share 73 = .ok (.isub, 1) := by decide +kernel
theorem dX6_share_74 : decode cX6_share 74 = .ok (.iload 5, 2) := by decide +kernel
theorem dX6_share_76 : decode cX6_share 76 = .ok (.iload_n 3, 1) := by decide +kernel
theorem dX6_share_77 : decode cX6_share 77 = .ok (.idiv, 1) := by decide +kernel
theorem dX6_share_78 : decode cX6_share 78 = .ok (.isub, 1) := by decide +kernel
theorem dX6_share_79 : decode cX6_share 79 = .ok (.istore 6, 2) := by decide +kernel
theorem dX6_share_81 : decode cX6_share 81 = .ok (.iload 4, 2) := by decide +kernel
theorem dX6_share_83 : decode cX6_share 83 = .ok (.iload_n 3, 1) := by decide +kernel
theorem dX6_share_84 : decode cX6_share 84 = .ok (.irem, 1) := by decide +kernel
theorem dX6_share_85 : decode cX6_share 85 = .ok (.iload 5, 2) := by decide +kernel
theorem dX6_share_87 : decode cX6_share 87 = .ok (.iload_n 3, 1) := by decide +kernel
theorem dX6_share_88 : decode cX6_share 88 = .ok (.irem, 1) := by decide +kernel
theorem dX6_share_89 : decode cX6_share 89 = .ok (.if_icmp .lt 7, 3) := by decide +kernel
theorem dX6_share_92 : decode cX6_share 92 = .ok (.iconst 0, 1) := by decide +kernel
theorem dX6_share_93 : decode cX6_share 93 = .ok (.goto 4, 3) := by decide +kernel
theorem dX6_share_96 : decode cX6_share 96 = .ok (.iconst 1, 1) := by decide +kernel
theorem dX6_share_97 : decode cX6_share 97 = .ok (.istore 7, 2) := by decide +kernel
theorem dX6_share_99 : decode cX6_share 99 = .ok (.iload_n 2, 1) := by decide +kernel
theorem dX6_share_100 : decode cX6_share 100 = .ok (.ifCond .ne 8, 3) := by decide +kernel
theorem dX6_share_103 : decode cX6_share 103 = .ok (.iload 4, 2) := by decide +kernel
theorem dX6_share_105 : decode cX6_share 105 = .ok (.goto 5, 3) := by decide +kernel
theorem dX6_share_108 : decode cX6_share 108 = .ok (.iload 5, 2) := by decide +kernel
theorem dX6_share_110 : decode cX6_share 110 = .ok (.iload_n 3, 1) := by decide +kernel
theorem dX6_share_111 : decode cX6_share 111 = .ok (.idiv, 1) := by decide +kernel
theorem dX6_share_112 : decode cX6_share 112 = .ok (.iload_n 2, 1) := by decide +kernel
theorem dX6_share_113 : decode cX6_share 113 = .ok (.iload 7, 2) := by decide +kernel
theorem dX6_share_115 : decode cX6_share 115 = .ok (.if_icmp .ne 8, 3) := by decide +kernel
theorem dX6_share_118 : decode cX6_share 118 = .ok (.iload 6, 2) := by decide +kernel
theorem dX6_share_120 : decode cX6_share 120 = .ok (.goto 4, 3) := by decide +kernel
theorem dX6_share_123 : decode cX6_share 123 = .ok (.iconst 0, 1) := by decide +kernel
theorem dX6_share_124 : decode cX6_share 124 = .ok (.iadd, 1) := by decide +kernel
theorem dX6_share_125 : decode cX6_share 125 = .ok (.ireturn, 1) := by decide +kernel
theorem dX6_led_0 : decode cX6_led 0 = .ok (.iload_n 1, 1) := by decide +kernel
theorem dX6_led_1 : decode cX6_led 1 = .ok (.iconst 0, 1) := by decide +kernel
theorem dX6_led_2 : decode cX6_led 2 = .ok (.bipush 99, 2) := by decide +kernel
theorem dX6_led_4 : decode cX6_led 4 = .ok (.invokestatic 80, 3) := by decide +kernel
theorem dX6_led_7 : decode cX6_led 7 = .ok (.ifCond .eq 23, 3) := by decide +kernel
theorem dX6_led_10 : decode cX6_led 10 = .ok (.iload_n 2, 1) := by decide +kernel
theorem dX6_led_11 : decode cX6_led 11 = .ok (.iconst 0, 1) := by decide +kernel
theorem dX6_led_12 : decode cX6_led 12 = .ok (.iconst 1, 1) := by decide +kernel
theorem dX6_led_13 : decode cX6_led 13 = .ok (.invokestatic 80, 3) := by decide +kernel
theorem dX6_led_16 : decode cX6_led 16 = .ok (.ifCond .eq 14, 3) := by decide +kernel
theorem dX6_led_19 : decode cX6_led 19 = .ok (.iload_n 3, 1) := by decide +kernel
theorem dX6_led_20 : decode cX6_led 20 = .ok (.iconst 0, 1) := by decide +kernel
theorem dX6_led_21 : decode cX6_led 21 = .ok (.iload_n 1, 1) := by decide +kernel
theorem dX6_led_22 : decode cX6_led 22 = .ok (.iconst 1, 1) := by decide +kernel
theorem dX6_led_23 : decode cX6_led 23 = .ok (.isub, 1) := by decide +kernel
theorem dX6_led_24 : decode cX6_led 24 = .ok (.invokestatic 80, 3) := by decide +kernel
theorem dX6_led_27 : decode cX6_led 27 = .ok (.ifCond .ne 6, 3) := by decide +kernel
theorem dX6_led_30 : decode cX6_led 30 = .ok (.ldc 84, 2) := by decide +kernel
theorem dX6_led_32 : decode cX6_led 32 = .ok (.ireturn, 1) := by decide +kernel
theorem dX6_led_33 : decode cX6_led 33 = .ok (.aload_n 0, 1) := by decide +kernel
theorem dX6_led_34 : decode cX6_led 34 = .ok (.invokevirtual 173, 3) := by decide +kernel
theorem dX6_led_37 : decode cX6_led 37 = .ok (.ifCond .eq 6, 3) := by decide +kernel
theorem dX6_led_40 : decode cX6_led 40 = .ok (.ldc 177, 2) := by decide +kernel
theorem dX6_led_42 : decode cX6_led 42 = .ok (.ireturn, 1) := by decide +kernel
theorem dX6_led_43 : decode cX6_led 43 = .ok (.aload_n 0, 1) := by decide +kernel
theorem dX6_led_44 : decode cX6_led 44 = .ok (.getfield 43, 3) := by decide +kernel
theorem dX6_led_47 : decode cX6_led 47 = .ok (.aload_n 0, 1) := by decide +kernel
theorem dX6_led_48 : decode cX6_led 48 = .ok (.getfield 29, 3) := by decide +kernel
theorem dX6_led_51 : decode cX6_led 51 = .ok (.aload_n 0, 1) := by decide +kernel
theorem dX6_led_52 : decode cX6_led 52 = .ok (.getfield 19, 3) := by decide +kernel
theorem dX6_led_55 : decode cX6_led 55 = .ok (.getfield 111, 3) := by decide +kernel
theorem dX6_led_58 : decode cX6_led 58 = .ok (.aload_n 0, 1) := by decide +kernel
theorem dX6_led_59 : decode cX6_led 59 = .ok (.getfield 29, 3) := by decide +kernel
theorem dX6_led_62 : decode cX6_led 62 = .ok (.aload_n 0, 1) := by decide +kernel
theorem dX6_led_63 : decode cX6_led 63 = .ok (.getfield 19, 3) := by decide +kernel
theorem dX6_led_66 : decode cX6_led 66 = .ok (.invokevirtual 134, 3) := by decide +kernel
theorem dX6_led_69 : decode cX6_led 69 = .ok (.iload_n 2, 1) := by decide +kernel
theorem dX6_led_70 : decode cX6_led 70 = .ok (.iload_n 1, 1) := by decide +kernel
theorem dX6_led_71 : decode cX6_led 71 = .ok (.invokevirtual 283, 3) := by decide +kernel
theorem dX6_led_74 : decode cX6_led 74 = .ok (.aload_n 0, 1) := by decide +kernel
theorem dX6_led_75 : decode cX6_led 75 = .ok (.getfield 43, 3) := by decide +kernel
theorem dX6_led_78 : decode cX6_led 78 = .ok (.iload_n 3, 1) := by decide +kernel
theorem dX6_led_79 : decode cX6_led 79 = .ok (.invokevirtual 287, 3) := by decide +kernel
theorem dX6_led_82 : decode cX6_led 82 = .ok (.ireturn, 1) := by decide +kernel
theorem dX6_yards_0 : decode cX6_yards 0 = .ok (.aload_n 0, 1) := by decide +kernel
theorem dX6_yards_1 : decode cX6_yards 1 = .ok (.iload_n 1, 1) := by decide +kernel
theorem dX6_yards_2 : decode cX6_yards 2 = .ok (.invokevirtual 202, 3) := by decide +kernel
theorem dX6_yards_5 : decode cX6_yards 5 = .ok (.ifCond .ne 6, 3) := by decide +kernel
theorem dX6_yards_8 : decode cX6_yards 8 = .ok (.ldc 150, 2) := by decide +kernel
theorem dX6_yards_10 : decode cX6_yards 10 = .ok (.ireturn, 1) := by decide +kernel
theorem dX6_yards_11 : decode cX6_yards 11 = .ok (.iload_n 2, 1) := by decide +kernel
theorem dX6_yards_12 : decode cX6_yards 12 = .ok (.iconst 0, 1) := by decide +kernel
theorem dX6_yards_13 : decode cX6_yards 13 = .ok (.iconst 1, 1) := by decide +kernel
theorem dX6_yards_14 : decode cX6_yards 14 = .ok (.invokestatic 80, 3) := by decide +kernel
theorem dX6_yards_17 : decode cX6_yards 17 = .ok (.ifCond .ne 6, 3) := by decide +kernel
theorem dX6_yards_20 : decode cX6_yards 20 = .ok (.ldc 84, 2) := by decide +kernel
theorem dX6_yards_22 : decode cX6_yards 22 = .ok (.ireturn, 1) := by decide +kernel
theorem dX6_yards_23 : decode cX6_yards 23 = .ok (.aload_n 0, 1) := by decide +kernel
theorem dX6_yards_24 : decode cX6_yards 24 = .ok (.getfield 19, 3) := by decide +kernel
theorem dX6_yards_27 : decode cX6_yards 27 = .ok (.getfield 205, 3) := by decide +kernel
theorem dX6_yards_30 : decode cX6_yards 30 = .ok (.iload_n 1, 1) := by decide +kernel
theorem dX6_yards_31 : decode cX6_yards 31 = .ok (.invokestatic 154, 3) := by decide +kernel
theorem dX6_yards_34 : decode cX6_yards 34 = .ok (.istore_n 3, 1) := by decide +kernel
theorem dX6_yards_35 : decode cX6_yards 35 = .ok (.iconst (-1), 1) := by decide +kernel
theorem dX6_yards_36 : decode cX6_yards 36 = .ok (.istore 4, 2) := by decide +kernel
theorem dX6_yards_38 : decode cX6_yards 38 = .ok (.iconst (-1), 1) := by decide +kernel
theorem dX6_yards_39 : decode cX6_yards 39 = .ok (.istore 5, 2) := by decide +kernel
theorem dX6_yards_41 : decode cX6_yards 41 = .ok (.iconst 0, 1) := by decide +kernel
theorem dX6_yards_42 : decode cX6_yards 42 = .ok (.istore 6, 2) := by decide +kernel
theorem dX6_yards_44 : decode cX6_yards 44 = .ok (.iload 6, 2) := by decide +kernel
theorem dX6_yards_46 : decode cX6_yards 46 = .ok (.aload_n 0, 1) := by decide +kernel
theorem dX6_yards_47 : decode cX6_yards 47 = .ok (.getfield 19, 3) := by decide +kernel
theorem dX6_yards_50 : decode cX6_yards 50 = .ok (.getfield 111, 3) := by decide +kernel
theorem dX6_yards_53 : decode cX6_yards 53 = .ok (.if_icmp .ge 78, 3) := by decide +kernel
theorem dX6_yards_56 : decode cX6_yards 56 = .ok (.iload 6, 2) := by decide +kernel
theorem dX6_yards_58 : decode cX6_yards 58 = .ok (.bipush 12, 2) := by decide +kernel
theorem dX6_yards_60 : decode cX6_yards 60 = .ok (.if_icmp .ge 71, 3) := by decide +kernel
theorem dX6_yards_63 : decode cX6_yards 63 = .ok (.aload_n 0, 1) := by decide +kernel
theorem dX6_yards_64 : decode cX6_yards 64 = .ok (.getfield 29, 3) := by decide +kernel
theorem dX6_yards_67 : decode cX6_yards 67 = .ok (.iload 6, 2) := by decide +kernel
theorem dX6_yards_69 : decode cX6_yards 69 = .ok (.invokevirtual 234, 3) := by decide +kernel
theorem dX6_yards_72 : decode cX6_yards 72 = .ok (.istore 7, 2) := by decide +kernel
theorem dX6_yards_74 : decode cX6_yards 74 = .ok (.iload 6, 2) := by decide +kernel
theorem dX6_yards_76 : decode cX6_yards 76 = .ok (.iload_n 3, 1) := by decide +kernel
theorem dX6_yards_77 : decode cX6_yards 77 = .ok (.isub, 1) := by decide +kernel
theorem dX6_yards_78 : decode cX6_yards 78 = .ok (.invokestatic 290, 3) := by decide +kernel
theorem dX6_yards_81 : decode cX6_yards 81 = .ok (.istore 8, 2) := by decide +kernel
theorem dX6_yards_83 : decode cX6_yards 83 = .ok (.iload 7, 2) := by decide +kernel
theorem dX6_yards_85 : decode cX6_yards 85 = .ok (.iconst (-1), 1) := by decide +kernel
theorem dX6_yards_86 : decode cX6_yards 86 = .ok (.if_icmp .eq 39, 3) := by decide +kernel
theorem dX6_yards_89 : decode cX6_yards 89 = .ok (.aload_n 0, 1) := by decide +kernel
theorem dX6_yards_90 : decode cX6_yards 90 = .ok (.getfield 29, 3) := by decide +kernel
theorem dX6_yards_93 : decode cX6_yards 93 = .ok (.getfield 167, 3) := by decide +kernel
theorem dX6_yards_96 : decode cX6_yards 96 = .ok (.iload 7, 2) := by decide +kernel
theorem dX6_yards_98 : decode cX6_yards 98 = .ok (.invokestatic 154, 3) := by decide +kernel
theorem dX6_yards_101 : decode cX6_yards 101 = .ok (.ifCond .le 24, 3) := by decide +kernel
theorem dX6_yards_104 : decode cX6_yards 104 = .ok (.iload 4, 2) := by decide +kernel
theorem dX6_yards_106 : decode cX6_yards 106 = .ok (.iconst (-1), 1) := by decide +kernel
theorem dX6_yards_107 : decode cX6_yards 107 = .ok (.if_icmp .eq 10, 3) := by decide +kernel
theorem dX6_yards_110 : decode cX6_yards 110 = .ok (.iload 8, 2) := by decide +kernel
theorem dX6_yards_112 : decode cX6_yards 112 = .ok (.iload 5, 2) := by decide +kernel
theorem dX6_yards_114 : decode cX6_yards 114 = .ok (.if_icmp .ge 11, 3) := by decide +kernel
theorem dX6_yards_117 : decode cX6_yards 117 = .ok (.iload 7, 2) := by decide +kernel
theorem dX6_yards_119 : decode cX6_yards 119 = .ok (.istore 4, 2) := by decide +kernel
theorem dX6_yards_121 : decode cX6_yards 121 = .ok (.iload 8, 2) := by decide +kernel
theorem dX6_yards_123 : decode cX6_yards 123 = .ok (.istore 5, 2) := by decide +kernel
theorem dX6_yards_125 : decode cX6_yards 125 = .ok (.iinc 6 1, 3) := by decide +kernel
theorem dX6_yards_128 : decode cX6_yards 128 = .ok (.goto (-84), 3) := by decide +kernel
theorem dX6_yards_131 : decode cX6_yards 131 = .ok (.iload_n 2, 1) := by decide +kernel
theorem dX6_yards_132 : decode cX6_yards 132 = .ok (.ifCond .ne 8, 3) := by decide +kernel
theorem dX6_yards_135 : decode cX6_yards 135 = .ok (.iload 5, 2) := by decide +kernel
theorem dX6_yards_137 : decode cX6_yards 137 = .ok (.goto 5, 3) := by decide +kernel
theorem dX6_yards_140 : decode cX6_yards 140 = .ok (.iload 4, 2) := by decide +kernel
theorem dX6_yards_142 : decode cX6_yards 142 = .ok (.ireturn, 1) := by decide +kernel
theorem dX6_clear_0 : decode cX6_clear 0 = .ok (.iload_n 1, 1) := by decide +kernel
theorem dX6_clear_1 : decode cX6_clear 1 = .ok (.iconst 0, 1) := by decide +kernel
theorem dX6_clear_2 : decode cX6_clear 2 = .ok (.bipush 60, 2) := by decide +kernel
theorem dX6_clear_4 : decode cX6_clear 4 = .ok (.invokestatic 80, 3) := by decide +kernel
theorem dX6_clear_7 : decode cX6_clear 7 = .ok (.ifCond .eq 13, 3) := by decide +kernel
theorem dX6_clear_10 : decode cX6_clear 10 = .ok (.iload_n 2, 1) := by decide +kernel
theorem dX6_clear_11 : decode cX6_clear 11 = .ok (.iconst 0, 1) := by decide +kernel
theorem dX6_clear_12 : decode cX6_clear 12 = .ok (.bipush 100, 2) := by decide +kernel
theorem dX6_clear_14 : decode cX6_clear 14 = .ok (.invokestatic 80, 3) := by decide +kernel
theorem dX6_clear_17 : decode cX6_clear 17 = .ok (.ifCond .ne 6, 3) := by decide +kernel
theorem dX6_clear_20 : decode cX6_clear 20 = .ok (.ldc 84, 2) := by decide +kernel
theorem dX6_clear_22 : decode cX6_clear 22 = .ok (.ireturn, 1) := by decide +kernel
theorem dX6_clear_23 : decode cX6_clear 23 = .ok (.ldc2_w 293, 3) := by decide +kernel
theorem dX6_clear_26 : decode cX6_clear 26 = .ok (.lstore_n 3, 1) := by decide +kernel
theorem dX6_clear_27 : decode cX6_clear 27 = .ok (.iconst 0, 1) := by decide +kernel
theorem dX6_clear_28 : decode cX6_clear 28 = .ok (.istore 5, 2) := by decide +kernel
theorem dX6_clear_30 : decode cX6_clear 30 = .ok (.iload 5, 2) := by decide +kernel
theorem dX6_clear_32 : decode cX6_clear 32 = .ok (.iload_n 1, 1) := by decide +kernel
theorem dX6_clear_33 : decode cX6_clear 33 = .ok (.if_icmp .ge 18, 3) := by decide +kernel
theorem dX6_clear_36 : decode cX6_clear 36 = .ok (.lload_n 3, 1) := by decide +kernel
theorem dX6_clear_37 : decode cX6_clear 37 = .ok (.iload_n 2, 1) := by decide +kernel
theorem dX6_clear_38 : decode cX6_clear 38 = .ok (.i2l, 1) := by decide +kernel
theorem dX6_clear_39 : decode cX6_clear 39 = .ok (.lmul, 1) := by decide +kernel
theorem dX6_clear_40 : decode cX6_clear 40 = .ok (.ldc2_w 295, 3) := by decide +kernel
theorem dX6_clear_43 : decode cX6_clear 43 = .ok (.ldiv, 1) := by decide +kernel
theorem dX6_clear_44 : decode cX6_clear 44 = .ok (.lstore_n 3, 1) := by decide +kernel
theorem dX6_clear_45 : decode cX6_clear 45 = .ok (.iinc 5 1, 3) := by decide +kernel
theorem dX6_clear_48 : decode cX6_clear 48 = .ok (.goto (-18), 3) := by decide +kernel
theorem dX6_clear_51 : decode cX6_clear 51 = .ok (.lload_n 3, 1) := by decide +kernel
theorem dX6_clear_52 : decode cX6_clear 52 = .ok (.l2i, 1) := by decide +kernel
theorem dX6_clear_53 : decode cX6_clear 53 = .ok (.ireturn, 1) := by decide +kernel
theorem dX6_got_0 : decode cX6_got 0 = .ok (.aload_n 0, 1) := by decide +kernel
theorem dX6_got_1 : decode cX6_got 1 = .ok (.iload_n 1, 1) := by decide +kernel
theorem dX6_got_2 : decode cX6_got 2 = .ok (.invokevirtual 146, 3) := by decide +kernel
theorem dX6_got_5 : decode cX6_got 5 = .ok (.ifCond .ne 6, 3) := by decide +kernel
theorem dX6_got_8 : decode cX6_got 8 = .ok (.ldc 150, 2) := by decide +kernel
theorem dX6_got_10 : decode cX6_got 10 = .ok (.ireturn, 1) := by decide +kernel
theorem dX6_got_11 : decode cX6_got 11 = .ok (.iload_n 2, 1) := by decide +kernel
theorem dX6_got_12 : decode cX6_got 12 = .ok (.iconst 0, 1) := by decide +kernel
theorem dX6_got_13 : decode cX6_got 13 = .ok (.iconst 1, 1) := by decide +kernel
theorem dX6_got_14 : decode cX6_got 14 = .ok (.invokestatic 80, 3) := by decide +kernel
theorem dX6_got_17 : decode cX6_got 17 = .ok (.ifCond .eq 13, 3) := by decide +kernel
theorem dX6_got_20 : decode cX6_got 20 = .ok (.iload_n 3, 1) := by decide +kernel
theorem dX6_got_21 : decode cX6_got 21 = .ok (.iconst 0, 1) := by decide +kernel
theorem dX6_got_22 : decode cX6_got 22 = .ok (.bipush 40, 2) := by decide +kernel
theorem dX6_got_24 : decode cX6_got 24 = .ok (.invokestatic 80, 3) := by decide +kernel
theorem dX6_got_27 : decode cX6_got 27 = .ok (.ifCond .ne 6, 3) := by decide +kernel
theorem dX6_got_30 : decode cX6_got 30 = .ok (.ldc 84, 2) := by decide +kernel
theorem dX6_got_32 : decode cX6_got 32 = .ok (.ireturn, 1) := by decide +kernel
theorem dX6_got_33 : decode cX6_got 33 = .ok (.aload_n 0, 1) := by decide +kernel
theorem dX6_got_34 : decode cX6_got 34 = .ok (.getfield 70, 3) := by decide +kernel
theorem dX6_got_37 : decode cX6_got 37 = .ok (.getfield 104, 3) := by decide +kernel
theorem dX6_got_40 : decode cX6_got 40 = .ok (.bipush 6, 2) := by decide +kernel
theorem dX6_got_42 : decode cX6_got 42 = .ok (.if_icmp .lt 6, 3) := by decide +kernel
theorem dX6_got_45 : decode cX6_got 45 = .ok (.ldc 88, 2) := by decide +kernel
theorem dX6_got_47 : decode cX6_got 47 = .ok (.ireturn, 1) := by decide +kernel
theorem dX6_got_48 : decode cX6_got 48 = .ok (.aload_n 0, 1) := by decide +kernel
theorem dX6_got_49 : decode cX6_got 49 = .ok (.getfield 70, 3) := by decide +kernel
theorem dX6_got_52 : decode cX6_got 52 = .ok (.iload_n 1, 1) := by decide +kernel
theorem dX6_got_53 : decode cX6_got 53 = .ok (.iload_n 2, 1) := by decide +kernel
theorem dX6_got_54 : decode cX6_got 54 = .ok (.iload_n 3, 1) := by decide +kernel
theorem dX6_got_55 : decode cX6_got 55 = .ok (.invokevirtual 297, 3) := by decide +kernel
theorem dX6_got_58 : decode cX6_got 58 = .ok (.ireturn, 1) := by decide +kernel
theorem dX6_thick_0 : decode cX6_thick 0 = .ok (.iload_n 1, 1) := by decide +kernel
theorem dX6_thick_1 : decode cX6_thick 1 = .ok (.iconst 0, 1) := by decide +kernel
theorem dX6_thick_2 : decode cX6_thick 2 = .ok (.iconst 2, 1) := by decide +kernel
theorem dX6_thick_3 : decode cX6_thick 3 = .ok (.invokestatic 80, 3) := by decide +kernel
theorem dX6_thick_6 : decode cX6_thick 6 = .ok (.ifCond .ne 6, 3) := by decide +kernel
theorem dX6_thick_9 : decode cX6_thick 9 = .ok (.ldc 84, 2) := by decide +kernel
theorem dX6_thick_11 : decode cX6_thick 11 = .ok (.ireturn, 1) := by decide +kernel
theorem dX6_thick_12 : decode cX6_thick 12 = .ok (.aload_n 0, 1) := by decide +kernel
theorem dX6_thick_13 : decode cX6_thick 13 = .ok (.invokevirtual 173, 3) := by decide +kernel
theorem dX6_thick_16 : decode cX6_thick 16 = .ok (.ifCond .eq 6, 3) := by decide +kernel
theorem dX6_thick_19 : decode cX6_thick 19 = .ok (.ldc 177, 2) := by decide +kernel
theorem dX6_thick_21 : decode cX6_thick 21 = .ok (.ireturn, 1) := by decide +kernel
theorem dX6_thick_22 : decode cX6_thick 22 = .ok (.aload_n 0, 1) := by decide +kernel
theorem dX6_thick_23 : decode cX6_thick 23 = .ok (.invokevirtual 301, 3) := by decide +kernel
theorem dX6_thick_26 : decode cX6_thick 26 = .ok (.lstore_n 2, 1) := by decide +kernel
theorem dX6_thick_27 : decode cX6_thick 27 = .ok (.iload_n 1, 1) := by decide +kernel
theorem dX6_thick_28 : decode cX6_thick 28 = .ok (.ifCond .ne 8, 3) := by decide +kernel
theorem dX6_thick_31 : decode cX6_thick 31 = .ok (.lload_n 2, 1) := by decide +kernel
theorem dX6_thick_32 : decode cX6_thick 32 = .ok (.invokestatic 305, 3) := by decide +kernel
theorem dX6_thick_35 : decode cX6_thick 35 = .ok (.ireturn, 1) := by decide +kernel
theorem dX6_thick_36 : decode cX6_thick 36 = .ok (.iconst (-1), 1) := by decide +kernel
theorem dX6_thick_37 : decode cX6_thick 37 = .ok (.istore 4, 2) := by decide +kernel
theorem dX6_thick_39 : decode cX6_thick 39 = .ok (.iconst 0, 1) := by decide +kernel
theorem dX6_thick_40 : decode cX6_thick 40 = .ok (.istore 5, 2) := by decide +kernel
theorem dX6_thick_42 : decode cX6_thick 42 = .ok (.iload 5, 2) := by decide +kernel
theorem dX6_thick_44 : decode cX6_thick 44 = .ok (.bipush 40, 2) := by decide +kernel
theorem dX6_thick_46 : decode cX6_thick 46 = .ok (.if_icmp .gt 47, 3) := by decide +kernel
theorem dX6_thick_49 : decode cX6_thick 49 = .ok (.lload_n 2, 1) := by decide +kernel
theorem dX6_thick_50 : decode cX6_thick 50 = .ok (.iload 5, 2) := by decide +kernel
theorem dX6_thick_52 : decode cX6_thick 52 = .ok (.lshr, 1) := by decide +kernel
theorem dX6_thick_53 : decode cX6_thick 53 = .ok (.lconst 1, 1) := by decide +kernel
theorem dX6_thick_54 : decode cX6_thick 54 = .ok (.land, 1) := by decide +kernel
theorem dX6_thick_55 : decode cX6_thick 55 = .ok (.lconst 1, 1) := by decide +kernel
theorem dX6_thick_56 : decode cX6_thick 56 = .ok (.lcmp, 1) := by decide +kernel
theorem dX6_thick_57 : decode cX6_thick 57 = .ok (.ifCond .ne 7, 3) := by decide +kernel
theorem dX6_thick_60 : decode cX6_thick 60 = .ok (.iconst 1, 1) := by decide +kernel
theorem dX6_thick_61 : decode cX6_thick 61 = .ok (.goto 4, 3) := by decide +kernel
theorem dX6_thick_64 : decode cX6_thick 64 = .ok (.iconst 0, 1) := by decide +kernel
theorem dX6_thick_65 : decode cX6_thick 65 = .ok (.istore 6, 2) := by decide +kernel
theorem dX6_thick_67 : decode cX6_thick 67 = .ok (.iload 6, 2) := by decide +kernel
theorem dX6_thick_69 : decode cX6_thick 69 = .ok (.ifCond .eq 18, 3) := by decide +kernel
theorem dX6_thick_72 : decode cX6_thick 72 = .ok (.iload_n 1, 1) := by decide +kernel
theorem dX6_thick_73 : decode cX6_thick 73 = .ok (.iconst 2, 1) := by decide +kernel
theorem dX6_thick_74 : decode cX6_thick 74 = .ok (.if_icmp .eq 9, 3) := by decide +kernel
theorem dX6_thick_77 : decode cX6_thick 77 = .ok (.iload 4, 2) := by decide +kernel
theorem dX6_thick_79 : decode cX6_thick 79 = .ok (.iconst (-1), 1) := by decide +kernel
theorem dX6_thick_80 : decode cX6_thick 80 = .ok (.if_icmp .ne 7, 3) := by decide +kernel
theorem dX6_thick_83 : decode cX6_thick 83 = .ok (.iload 5, 2) := by decide +kernel
theorem dX6_thick_85 : decode cX6_thick 85 = .ok (.istore 4, 2) := by decide +kernel
theorem dX6_thick_87 : decode cX6_thick 87 = .ok (.iinc 5 1, 3) := by decide +kernel
theorem dX6_thick_90 : decode cX6_thick 90 = .ok (.goto (-48), 3) := by decide +kernel
theorem dX6_thick_93 : decode cX6_thick 93 = .ok (.iload 4, 2) := by decide +kernel
theorem dX6_thick_95 : decode cX6_thick 95 = .ok (.ireturn, 1) := by decide +kernel
theorem dX6_lookAt_0 : decode cX6_lookAt 0 = .ok (.iload_n 1, 1) := by decide +kernel
theorem dX6_lookAt_1 : decode cX6_lookAt 1 = .ok (.iconst 0, 1) := by decide +kernel
theorem dX6_lookAt_2 : decode cX6_lookAt 2 = .ok (.iconst 1, 1) := by decide +kernel
theorem dX6_lookAt_3 : decode cX6_lookAt 3 = .ok (.invokestatic 80, 3) := by decide +kernel
theorem dX6_lookAt_6 : decode cX6_lookAt 6 = .ok (.ifCond .ne 6, 3) := by decide +kernel
theorem dX6_lookAt_9 : decode cX6_lookAt 9 = .ok (.ldc 84, 2) := by decide +kernel
theorem dX6_lookAt_11 : decode cX6_lookAt 11 = .ok (.ireturn, 1) := by decide +kernel
theorem dX6_lookAt_12 : decode cX6_lookAt 12 = .ok (.aload_n 0, 1) := by decide +kernel
theorem dX6_lookAt_13 : decode cX6_lookAt 13 = .ok (.invokevirtual 173, 3) := by decide +kernel
theorem dX6_lookAt_16 : decode cX6_lookAt 16 = .ok (.ifCond .eq 6, 3) := by decide +kernel
theorem dX6_lookAt_19 : decode cX6_lookAt 19 = .ok (.ldc 177, 2) := by decide +kernel
theorem dX6_lookAt_21 : decode cX6_lookAt 21 = .ok (.ireturn, 1) := by decide +kernel
theorem dX6_lookAt_22 : decode cX6_lookAt 22 = .ok (.aload_n 0, 1) := by decide +kernel
theorem dX6_lookAt_23 : decode cX6_lookAt 23 = .ok (.invokevirtual 301, 3) := by decide +kernel
theorem dX6_lookAt_26 : decode cX6_lookAt 26 = .ok (.lstore_n 2, 1) := by decide +kernel
theorem dX6_lookAt_27 : decode cX6_lookAt 27 = .ok (.iconst (-1), 1) := by decide +kernel
theorem dX6_lookAt_28 : decode cX6_lookAt 28 = .ok (.istore 4, 2) := by decide +kernel
theorem dX6_lookAt_30 : decode cX6_lookAt 30 = .ok (.lload_n 2, 1) := by decide +kernel
theorem dX6_lookAt_31 : decode cX6_lookAt 31 = .ok (.invokestatic 305, 3) := by decide +kernel
theorem dX6_lookAt_34 : decode cX6_lookAt 34 = .ok (.istore 5, 2) := by decide +kernel
theorem dX6_lookAt_36 : decode cX6_lookAt 36 = .ok (.iconst 0, 1) := by decide +kernel
theorem dX6_lookAt_37 : decode cX6_lookAt 37 = .ok (.istore 6, 2) := by decide +kernel
theorem dX6_lookAt_39 : decode cX6_lookAt 39 = .ok (.iload 6, 2) := by decide +kernel
theorem dX6_lookAt_41 : decode cX6_lookAt 41 = .ok (.bipush 6, 2) := by decide +kernel
theorem dX6_lookAt_43 : decode cX6_lookAt 43 = .ok (.if_icmp .ge 46, 3) := by decide +kernel
theorem dX6_lookAt_46 : decode cX6_lookAt 46 = .ok (.aload_n 0, 1) := by decide +kernel
theorem dX6_lookAt_47 : decode cX6_lookAt 47 = .ok (.iload 6, 2) := by decide +kernel
theorem dX6_lookAt_49 : decode cX6_lookAt 49 = .ok (.invokevirtual 146, 3) := by decide +kernel
theorem dX6_lookAt_52 : decode cX6_lookAt 52 = .ok (.ifCond .ne 6, 3) := by decide +kernel
theorem dX6_lookAt_55 : decode cX6_lookAt 55 = .ok (.goto 28, 3) := by decide +kernel
theorem dX6_lookAt_58 : decode cX6_lookAt 58 = .ok (.aload_n 0, 1) := by decide +kernel
theorem dX6_lookAt_59 : decode cX6_lookAt 59 = .ok (.lload_n 2, 1) := by decide +kernel
theorem dX6_lookAt_60 : decode cX6_lookAt 60 = .ok (.iload 6, 2) := by decide +kernel
theorem dX6_lookAt_62 : decode cX6_lookAt 62 = .ok (.iload_n 1, 1) := by decide +kernel
theorem dX6_lookAt_63 : decode cX6_lookAt 63 = .ok (.invokevirtual 310, 3) := by decide +kernel
theorem dX6_lookAt_66 : decode cX6_lookAt 66 = .ok (.istore 7, 2) := by decide +kernel
theorem dX6_lookAt_68 : decode cX6_lookAt 68 = .ok (.iload 7, 2) := by decide +kernel
theorem dX6_lookAt_70 : decode cX6_lookAt 70 = .ok (.iload 5, 2) := by decide +kernel
theorem dX6_lookAt_72 : decode cX6_lookAt 72 = .ok (.if_icmp .ge 11, 3) := by decide +kernel
theorem dX6_lookAt_75 : decode cX6_lookAt 75 = .ok (.iload 7, 2) := by decide +kernel
theorem dX6_lookAt_77 : decode cX6_lookAt 77 = .ok (.istore 5, 2) := by decide +kernel
theorem dX6_lookAt_79 : decode cX6_lookAt 79 = .ok (.iload 6, 2) := by decide +kernel
theorem dX6_lookAt_81 : decode cX6_lookAt 81 = .ok (.istore 4, 2) := by decide +kernel
theorem dX6_lookAt_83 : decode cX6_lookAt 83 = .ok (.iinc 6 1, 3) := by decide +kernel
theorem dX6_lookAt_86 : decode cX6_lookAt 86 = .ok (.goto (-47), 3) := by decide +kernel
theorem dX6_lookAt_89 : decode cX6_lookAt 89 = .ok (.iload 4, 2) := by decide +kernel
theorem dX6_lookAt_91 : decode cX6_lookAt 91 = .ok (.ireturn, 1) := by decide +kernel
theorem dX6_needs_0 : decode cX6_needs 0 = .ok (.aload_n 0, 1) := by decide +kernel
theorem dX6_needs_1 : decode cX6_needs 1 = .ok (.iload_n 1, 1) := by decide +kernel
theorem dX6_needs_2 : decode cX6_needs 2 = .ok (.invokevirtual 146, 3) := by decide +kernel
theorem dX6_needs_5 : decode cX6_needs 5 = .ok (.ifCond .ne 6, 3) := by decide +kernel
theorem dX6_needs_8 : decode cX6_needs 8 = .ok (.ldc 150, 2) := by decide +kernel
theorem dX6_needs_10 : decode cX6_needs 10 = .ok (.ireturn, 1) := by decide +kernel
theorem dX6_needs_11 : decode cX6_needs 11 = .ok (.iload_n 2, 1) := by decide +kernel
theorem dX6_needs_12 : decode cX6_needs 12 = .ok (.iconst 0, 1) := by decide +kernel
theorem dX6_needs_13 : decode cX6_needs 13 = .ok (.iconst 1, 1) := by decide +kernel
theorem dX6_needs_14 : decode cX6_needs 14 = .ok (.invokestatic 80, 3) := by decide +kernel
theorem dX6_needs_17 : decode cX6_needs 17 = .ok (.ifCond .eq 13, 3) := by decide +kernel
theorem dX6_needs_20 : decode cX6_needs 20 = .ok (.iload_n 3, 1) := by decide +kernel
theorem dX6_needs_21 : decode cX6_needs 21 = .ok (.iconst 0, 1) := by decide +kernel
theorem dX6_needs_22 : decode cX6_needs 22 = .ok (.bipush 40, 2) := by decide +kernel
theorem dX6_needs_24 : decode cX6_needs 24 = .ok (.invokestatic 80, 3) := by decide +kernel
theorem dX6_needs_27 : decode cX6_needs 27 = .ok (.ifCond .ne 6, 3) := by decide +kernel
theorem dX6_needs_30 : decode cX6_needs 30 = .ok (.ldc 84, 2) := by decide +kernel
theorem dX6_needs_32 : decode cX6_needs 32 = .ok (.ireturn, 1) := by decide +kernel
theorem dX6_needs_33 : decode cX6_needs 33 = .ok (.iconst 0, 1) := by decide +kernel
theorem dX6_needs_34 : decode cX6_needs 34 = .ok (.istore 4, 2) := by decide +kernel
theorem dX6_needs_36 : decode cX6_needs 36 = .ok (.iload 4, 2) := by decide +kernel
theorem dX6_needs_38 : decode cX6_needs 38 = .ok (.bipush 40, 2) := by decide +kernel
theorem dX6_needs_40 : decode cX6_needs 40 = .ok (.if_icmp .gt 24, 3) := by decide +kernel
theorem dX6_needs_43 : decode cX6_needs 43 = .ok (.aload_n 0, 1) := by decide +kernel
theorem dX6_needs_44 : decode cX6_needs 44 = .ok (.iload_n 1, 1) := by decide +kernel
theorem dX6_needs_45 : decode cX6_needs 45 = .ok (.iload_n 2, 1) := by decide +kernel
theorem dX6_needs_46 : decode cX6_needs 46 = .ok (.iload 4, 2) := by decide +kernel
theorem dX6_needs_48 : decode cX6_needs 48 = .ok (.invokevirtual 314, 3) := by decide +kernel
theorem dX6_needs_51 : decode cX6_needs 51 = .ok (.iload_n 3, 1) := by decide +kernel
theorem dX6_needs_52 : decode cX6_needs 52 = .ok (.if_icmp .lt 6, 3) := by decide +kernel
theorem dX6_needs_55 : decode cX6_needs 55 = .ok (.iload 4, 2) := by decide +kernel
theorem dX6_needs_57 : decode cX6_needs 57 = .ok (.ireturn, 1) := by decide +kernel
theorem dX6_needs_58 : decode cX6_needs 58 = .ok (.iinc 4 1, 3) := by decide +kernel
theorem dX6_needs_61 : decode cX6_needs 61 = .ok (.goto (-25), 3) := by decide +kernel
theorem dX6_needs_64 : decode cX6_needs 64 = .ok (.iconst (-1), 1) := by decide +kernel
theorem dX6_needs_65 : decode cX6_needs 65 = .ok (.ireturn, 1) := by decide +kernel
theorem dX6_write_0 : decode cX6_write 0 = .ok (.aload_n 0, 1) := by decide +kernel
theorem dX6_write_1 : decode cX6_write 1 = .ok (.iload_n 1, 1) := by decide +kernel
theorem dX6_write_2 : decode cX6_write 2 = .ok (.invokevirtual 146, 3) := by decide +kernel
theorem dX6_write_5 : decode cX6_write 5 = .ok (.ifCond .ne 6, 3) := by decide +kernel
theorem dX6_write_8 : decode cX6_write 8 = .ok (.ldc 150, 2) := by decide +kernel
theorem dX6_write_10 : decode cX6_write 10 = .ok (.ireturn, 1) := by decide +kernel
theorem dX6_write_11 : decode cX6_write 11 = .ok (.iload_n 2, 1) := by decide +kernel
theorem dX6_write_12 : decode cX6_write 12 = .ok (.iconst 0, 1) := by decide +kernel
theorem dX6_write_13 : decode cX6_write 13 = .ok (.bipush 99, 2) := by decide +kernel
theorem dX6_write_15 : decode cX6_write 15 = .ok (.invokestatic 80, 3) := by decide +kernel
theorem dX6_write_18 : decode cX6_write 18 = .ok (.ifCond .ne 6, 3) := by decide +kernel
theorem dX6_write_21 : decode cX6_write 21 = .ok (.ldc 84, 2) := by decide +kernel
theorem dX6_write_23 : decode cX6_write 23 = .ok (.ireturn, 1) := by decide +kernel
theorem dX6_write_24 : decode cX6_write 24 = .ok (.aload_n 0, 1) := by decide +kernel
theorem dX6_write_25 : decode cX6_write 25 = .ok (.getfield 74, 3) := by decide +kernel
theorem dX6_write_28 : decode cX6_write 28 = .ok (.getfield 104, 3) := by decide +kernel
theorem dX6_write_31 : decode cX6_write 31 = .ok (.bipush 20, 2) := by decide +kernel
theorem dX6_write_33 : decode cX6_write 33 = .ok (.if_icmp .lt 6, 3) := by decide +kernel
theorem dX6_write_36 : decode cX6_write 36 = .ok (.ldc 88, 2) := by decide +kernel
theorem dX6_write_38 : decode cX6_write 38 = .ok (.ireturn, 1) := by decide +kernel
theorem dX6_write_39 : decode cX6_write 39 = .ok (.aload_n 0, 1) := by decide +kernel
theorem dX6_write_40 : decode cX6_write 40 = .ok (.getfield 74, 3) := by decide +kernel
theorem dX6_write_43 : decode cX6_write 43 = .ok (.iload_n 1, 1) := by decide +kernel
theorem dX6_write_44 : decode cX6_write 44 = .ok (.iconst 0, 1) := by decide +kernel
theorem dX6_write_45 : decode cX6_write 45 = .ok (.iload_n 2, 1) := by decide +kernel
theorem dX6_write_46 : decode cX6_write 46 = .ok (.invokevirtual 297, 3) := by decide +kernel
theorem dX6_write_49 : decode cX6_write 49 = .ok (.ireturn, 1) := by decide +kernel
theorem dX6_judge_0 : decode cX6_judge 0 = .ok (.iconst 0, 1) := by decide +kernel
theorem dX6_judge_1 : decode cX6_judge 1 = .ok (.istore_n 1, 1) := by decide +kernel
theorem dX6_judge_2 : decode cX6_judge 2 = .ok (.iload_n 1, 1) := by decide +kernel
theorem dX6_judge_3 : decode cX6_judge 3 = .ok (.aload_n 0, 1) := by decide +kernel
theorem dX6_judge_4 : decode cX6_judge 4 = .ok (.getfield 74, 3) := by decide +kernel
theorem dX6_judge_7 : decode cX6_judge 7 = .ok (.getfield 104, 3) := by decide +kernel
theorem dX6_judge_10 : decode cX6_judge 10 = .ok (.if_icmp .ge 52, 3) := by decide +kernel
theorem dX6_judge_13 : decode cX6_judge 13 = .ok (.iload_n 1, 1) := by decide +kernel
theorem dX6_judge_14 : decode cX6_judge 14 = .ok (.bipush 20, 2) := by decide +kernel
theorem dX6_judge_16 : decode cX6_judge 16 = .ok (.if_icmp .ge 46, 3) := by decide +kernel
theorem dX6_judge_19 : decode cX6_judge 19 = .ok (.aload_n 0, 1) := by decide +kernel
theorem dX6_judge_20 : decode cX6_judge 20 = .ok (.getfield 29, 3) := by decide +kernel
theorem dX6_judge_23 : decode cX6_judge 23 = .ok (.getfield 167, 3) := by decide +kernel
theorem dX6_judge_26 : decode cX6_judge 26 = .ok (.aload_n 0, 1) := by decide +kernel
theorem dX6_judge_27 : decode cX6_judge 27 = .ok (.getfield 74, 3) := by decide +kernel
theorem dX6_judge_30 : decode cX6_judge 30 = .ok (.getfield 317, 3) := by decide +kernel
theorem dX6_judge_33 : decode cX6_judge 33 = .ok (.iload_n 1, 1) := by decide +kernel
theorem dX6_judge_34 : decode cX6_judge 34 = .ok (.invokestatic 154, 3) := by decide +kernel
theorem dX6_judge_37 : decode cX6_judge 37 = .ok (.invokestatic 154, 3) := by decide +kernel
theorem dX6_judge_40 : decode cX6_judge 40 = .ok (.aload_n 0, 1) := by decide +kernel
theorem dX6_judge_41 : decode cX6_judge 41 = .ok (.getfield 74, 3) := by decide +kernel
theorem dX6_judge_44 : decode cX6_judge 44 = .ok (.getfield 319, 3) := by decide +kernel
theorem dX6_judge_47 : decode cX6_judge 47 = .ok (.iload_n 1, 1) := by decide +kernel
theorem dX6_judge_48 : decode cX6_judge 48 = .ok (.invokestatic 154, 3) := by decide +kernel
theorem dX6_judge_51 : decode cX6_judge 51 = .ok (.if_icmp .eq 5, 3) := by decide +kernel
theorem dX6_judge_54 : decode cX6_judge 54 = .ok (.iload_n 1, 1) := by decide +kernel
theorem dX6_judge_55 : decode cX6_judge 55 = .ok (.ireturn, 1) := by decide +kernel
theorem dX6_judge_56 : decode cX6_judge 56 = .ok (.iinc 1 1, 3) := by decide +kernel
theorem dX6_judge_59 : decode cX6_judge 59 = .ok (.goto (-57), 3) := by decide +kernel
theorem dX6_judge_62 : decode cX6_judge 62 = .ok (.iconst (-1), 1) := by decide +kernel
theorem dX6_judge_63 : decode cX6_judge 63 = .ok (.ireturn, 1) := by decide +kernel
theorem dX6_tear_0 : decode cX6_tear 0 = .ok (.aload_n 0, 1) := by decide +kernel
theorem dX6_tear_1 : decode cX6_tear 1 = .ok (.getfield 70, 3) := by decide +kernel
theorem dX6_tear_4 : decode cX6_tear 4 = .ok (.getfield 104, 3) := by decide +kernel
theorem dX6_tear_7 : decode cX6_tear 7 = .ok (.aload_n 0, 1) := by decide +kernel
theorem dX6_tear_8 : decode cX6_tear 8 = .ok (.getfield 74, 3) := by decide +kernel
theorem dX6_tear_11 : decode cX6_tear 11 = .ok (.getfield 104, 3) := by decide +kernel
theorem dX6_tear_14 : decode cX6_tear 14 = .ok (.iadd, 1) := by decide +kernel
theorem dX6_tear_15 : decode cX6_tear 15 = .ok (.istore_n 1, 1) := by decide +kernel
theorem dX6_tear_16 : decode cX6_tear 16 = .ok (.aload_n 0, 1) := by decide +kernel
theorem dX6_tear_17 : decode cX6_tear 17 = .ok (.getfield 70, 3) := by decide +kernel
theorem dX6_tear_20 : decode cX6_tear 20 = .ok (.iconst 0, 1) := by decide +kernel
theorem dX6_tear_21 : decode cX6_tear 21 = .ok (.putfield 104, 3) := by decide +kernel
theorem dX6_tear_24 : decode cX6_tear 24 = .ok (.aload_n 0, 1) := by decide +kernel
theorem dX6_tear_25 : decode cX6_tear 25 = .ok (.getfield 74, 3) := by decide +kernel
theorem dX6_tear_28 : decode cX6_tear 28 = .ok (.iconst 0, 1) := by decide +kernel
theorem dX6_tear_29 : decode cX6_tear 29 = .ok (.putfield 104, 3) := by decide +kernel
theorem dX6_tear_32 : decode cX6_tear 32 = .ok (.iload_n 1, 1) := by decide +kernel
theorem dX6_tear_33 : decode cX6_tear 33 = .ok (.ireturn, 1) := by decide +kernel
theorem dX6_seed_0 : decode cX6_seed 0 = .ok (.iload_n 1, 1) := by decide +kernel
theorem dX6_seed_1 : decode cX6_seed 1 = .ok (.ifCond .ge 6, 3) := by decide +kernel
theorem dX6_seed_4 : decode cX6_seed 4 = .ok (.ldc 84, 2) := by decide +kernel
theorem dX6_seed_6 : decode cX6_seed 6 = .ok (.ireturn, 1) := by decide +kernel
theorem dX6_seed_7 : decode cX6_seed 7 = .ok (.aload_n 0, 1) := by decide +kernel
theorem dX6_seed_8 : decode cX6_seed 8 = .ok (.getfield 61, 3) := by decide +kernel
theorem dX6_seed_11 : decode cX6_seed 11 = .ok (.istore_n 2, 1) := by decide +kernel
theorem dX6_seed_12 : decode cX6_seed 12 = .ok (.aload_n 0, 1) := by decide +kernel
theorem dX6_seed_13 : decode cX6_seed 13 = .ok (.iload_n 1, 1) := by decide +kernel
theorem dX6_seed_14 : decode cX6_seed 14 = .ok (.putfield 61, 3) := by decide +kernel
theorem dX6_seed_17 : decode cX6_seed 17 = .ok (.iload_n 2, 1) := by decide +kernel
theorem dX6_seed_18 : decode cX6_seed 18 = .ok (.ireturn, 1) := by decide +kernel
theorem dX6_keep_0 : decode cX6_keep 0 = .ok (.aload_n 0, 1) := by decide +kernel
theorem dX6_keep_1 : decode cX6_keep 1 = .ok (.iload_n 1, 1) := by decide +kernel
theorem dX6_keep_2 : decode cX6_keep 2 = .ok (.invokevirtual 322, 3) := by decide +kernel
theorem dX6_keep_5 : decode cX6_keep 5 = .ok (.astore_n 2, 1) := by decide +kernel
theorem dX6_keep_6 : decode cX6_keep 6 = .ok (.aload_n 2, 1) := by decide +kernel
theorem dX6_keep_7 : decode cX6_keep 7 = .ok (.ifnonnull 6, 3) := by decide +kernel
theorem dX6_keep_10 : decode cX6_keep 10 = .ok (.ldc 150, 2) := by decide +kernel
theorem dX6_keep_12 : decode cX6_keep 12 = .ok (.ireturn, 1) := by decide +kernel
theorem dX6_keep_13 : decode cX6_keep 13 = .ok (.aload_n 2, 1) := by decide +kernel
theorem dX6_keep_14 : decode cX6_keep 14 = .ok (.aload_n 0, 1) := by decide +kernel
theorem dX6_keep_15 : decode cX6_keep 15 = .ok (.getfield 29, 3) := by decide +kernel
theorem dX6_keep_18 : decode cX6_keep 18 = .ok (.invokevirtual 247, 3) := by decide +kernel
theorem dX6_keep_21 : decode cX6_keep 21 = .ok (.aload_n 0, 1) := by decide +kernel
theorem dX6_keep_22 : decode cX6_keep 22 = .ok (.getfield 58, 3) := by decide +kernel
theorem dX6_keep_25 : decode cX6_keep 25 = .ok (.iload_n 1, 1) := by decide +kernel
theorem dX6_keep_26 : decode cX6_keep 26 = .ok (.aload_n 0, 1) := by decide +kernel
theorem dX6_keep_27 : decode cX6_keep 27 = .ok (.getfield 61, 3) := by decide +kernel
theorem dX6_keep_30 : decode cX6_keep 30 = .ok (.invokestatic 227, 3) := by decide +kernel
theorem dX6_keep_33 : decode cX6_keep 33 = .ok (.aload_n 0, 1) := by decide +kernel
theorem dX6_keep_34 : decode cX6_keep 34 = .ok (.getfield 50, 3) := by decide +kernel
theorem dX6_keep_37 : decode cX6_keep 37 = .ok (.iconst 0, 1) := by decide +kernel
theorem dX6_keep_38 : decode cX6_keep 38 = .ok (.putfield 101, 3) := by decide +kernel
theorem dX6_keep_41 : decode cX6_keep 41 = .ok (.iconst 1, 1) := by decide +kernel
theorem dX6_keep_42 : decode cX6_keep 42 = .ok (.ireturn, 1) := by decide +kernel
theorem dX6_goBack_0 : decode cX6_goBack 0 = .ok (.aload_n 0, 1) := by decide +kernel
theorem dX6_goBack_1 : decode cX6_goBack 1 = .ok (.iload_n 1, 1) := by decide +kernel
theorem dX6_goBack_2 : decode cX6_goBack 2 = .ok (.invokevirtual 322, 3) := by decide +kernel
theorem dX6_goBack_5 : decode cX6_goBack 5 = .ok (.astore_n 2, 1) := by decide +kernel
theorem dX6_goBack_6 : decode cX6_goBack 6 = .ok (.aload_n 2, 1) := by decide +kernel
theorem dX6_goBack_7 : decode cX6_goBack 7 = .ok (.ifnonnull 6, 3) := by decide +kernel
theorem dX6_goBack_10 : decode cX6_goBack 10 = .ok (.ldc 150, 2) := by decide +kernel
theorem dX6_goBack_12 : decode cX6_goBack 12 = .ok (.ireturn, 1) := by decide +kernel
theorem dX6_goBack_13 : decode cX6_goBack 13 = .ok (.aload_n 0, 1) := by decide +kernel
theorem dX6_goBack_14 : decode cX6_goBack 14 = .ok (.getfield 58, 3) := by decide +kernel
theorem dX6_goBack_17 : decode cX6_goBack 17 = .ok (.iload_n 1, 1) := by decide +kernel
theorem dX6_goBack_18 : decode cX6_goBack 18 = .ok (.invokestatic 154, 3) := by decide +kernel
theorem dX6_goBack_21 : decode cX6_goBack 21 = .ok (.istore_n 3, 1) := by decide +kernel
theorem dX6_goBack_22 : decode cX6_goBack 22 = .ok (.iload_n 3, 1) := by decide +kernel
theorem dX6_goBack_23 : decode cX6_goBack 23 = .ok (.iconst (-1), 1) := by decide +kernel
theorem dX6_goBack_24 : decode cX6_goBack 24 = .ok (.if_icmp .ne 6, 3) := by decide +kernel
theorem dX6_goBack_27 : decode cX6_goBack 27 = .ok (.ldc 177, 2) := by decide +kernel
theorem dX6_goBack_29 : decode cX6_goBack 29 = .ok (.ireturn, 1) := by decide +kernel
theorem dX6_goBack_30 : decode cX6_goBack 30 = .ok (.aload_n 0, 1) := by decide +kernel
theorem dX6_goBack_31 : decode cX6_goBack 31 = .ok (.getfield 29, 3) := by decide +kernel
theorem dX6_goBack_34 : decode cX6_goBack 34 = .ok (.aload_n 2, 1) := by decide +kernel
theorem dX6_goBack_35 : decode cX6_goBack 35 = .ok (.invokevirtual 247, 3) := by decide +kernel
theorem dX6_goBack_38 : decode cX6_goBack 38 = .ok (.aload_n 0, 1) := by decide +kernel
theorem dX6_goBack_39 : decode cX6_goBack 39 = .ok (.iload_n 3, 1) := by decide +kernel
theorem dX6_goBack_40 : decode cX6_goBack 40 = .ok (.putfield 61, 3) := by decide +kernel
theorem dX6_goBack_43 : decode cX6_goBack 43 = .ok (.aload_n 0, 1) := by decide +kernel
theorem dX6_goBack_44 : decode cX6_goBack 44 = .ok (.getfield 50, 3) := by decide +kernel
theorem dX6_goBack_47 : decode cX6_goBack 47 = .ok (.iconst 0, 1) := by decide +kernel
theorem dX6_goBack_48 : decode cX6_goBack 48 = .ok (.putfield 101, 3) := by decide +kernel
theorem dX6_goBack_51 : decode cX6_goBack 51 = .ok (.iconst 1, 1) := by decide +kernel
theorem dX6_goBack_52 : decode cX6_goBack 52 = .ok (.ireturn, 1) := by decide +kernel
theorem dX6_within_0 : decode cX6_within 0 = .ok (.iload_n 0, 1) := by decide +kernel
theorem dX6_within_1 : decode cX6_within 1 = .ok (.iload_n 1, 1) := by decide +kernel
theorem dX6_within_2 : decode cX6_within 2 = .ok (.if_icmp .lt 12, 3) := by decide +kernel
theorem dX6_within_5 : decode cX6_within 5 = .ok (.iload_n 0, 1) := by decide +kernel
theorem dX6_within_6 : decode cX6_within 6 = .ok (.iload_n 2, 1) := by decide +kernel
theorem dX6_within_7 : decode cX6_within 7 = .ok (.if_icmp .gt 7, 3) := by decide +kernel
theorem dX6_within_10 : decode cX6_within 10 = .ok (.iconst 1, 1) := by decide +kernel
theorem dX6_within_11 : decode cX6_within 11 = .ok (.goto 4, 3) := by decide +kernel
theorem dX6_within_14 : decode cX6_within 14 = .ok (.iconst 0, 1) := by decide +kernel
theorem dX6_within_15 : decode cX6_within 15 = .ok (.ireturn, 1) := by decide +kernel
theorem dX6_at_0 : decode cX6_at 0 = .ok (.iload_n 1, 1) := by decide +kernel
theorem dX6_at_1 : decode cX6_at 1 = .ok (.ifCond .lt 15, 3) := by decide +kernel
theorem dX6_at_4 : decode cX6_at 4 = .ok (.iload_n 1, 1) := by decide +kernel
theorem dX6_at_5 : decode cX6_at 5 = .ok (.aload_n 0, 1) := by decide +kernel
theorem dX6_at_6 : decode cX6_at 6 = .ok (.arraylength, 1) := by decide +kernel
theorem dX6_at_7 : decode cX6_at 7 = .ok (.if_icmp .ge 9, 3) := by decide +kernel
theorem dX6_at_10 : decode cX6_at 10 = .ok (.aload_n 0, 1) := by decide +kernel
theorem dX6_at_11 : decode cX6_at 11 = .ok (.iload_n 1, 1) := by decide +kernel
theorem dX6_at_12 : decode cX6_at 12 = .ok (.iaload, 1) := by decide +kernel
theorem dX6_at_13 : decode cX6_at 13 = .ok (.goto 4, 3) := by decide +kernel
theorem dX6_at_16 : decode cX6_at 16 = .ok (.iconst 0, 1) := by decide +kernel
theorem dX6_at_17 : decode cX6_at 17 = .ok (.ireturn, 1) := by decide +kernel
theorem dX6_put_0 : decode cX6_put 0 = .ok (.iload_n 1, 1) := by decide +kernel
theorem dX6_put_1 : decode cX6_put 1 = .ok (.ifCond .lt 13, 3) := by decide +kernel
theorem dX6_put_4 : decode cX6_put 4 = .ok (.iload_n 1, 1) := by decide +kernel
theorem dX6_put_5 : decode cX6_put 5 = .ok (.aload_n 0, 1) := by decide +kernel
theorem dX6_put_6 : decode cX6_put 6 = .ok (.arraylength, 1) := by decide +kernel
theorem dX6_put_7 : decode cX6_put 7 = .ok (.if_icmp .ge 7, 3) := by decide +kernel
theorem dX6_put_10 : decode cX6_put 10 = .ok (.aload_n 0, 1) := by decide +kernel
theorem dX6_put_11 : decode cX6_put 11 = .ok (.iload_n 1, 1) := by decide +kernel
theorem dX6_put_12 : decode cX6_put 12 = .ok (.iload_n 2, 1) := by decide +kernel
theorem dX6_put_13 : decode cX6_put 13 = .ok (.iastore, 1) := by decide +kernel
theorem dX6_put_14 : decode cX6_put 14 = .ok (.return_, 1) := by decide +kernel
theorem dX6_isBare_0 : decode cX6_isBare 0 = .ok (.aload_n 0, 1) := by decide +kernel
theorem dX6_isBare_1 : decode cX6_isBare 1 = .ok (.getfield 19, 3) := by decide +kernel
theorem dX6_isBare_4 : decode cX6_isBare 4 = .ok (.getfield 111, 3) := by decide +kernel
theorem dX6_isBare_7 : decode cX6_isBare 7 = .ok (.ifCond .ne 7, 3) := by decide +kernel
theorem dX6_isBare_10 : decode cX6_isBare 10 = .ok (.iconst 1, 1) := by decide +kernel
theorem dX6_isBare_11 : decode cX6_isBare 11 = .ok (.goto 4, 3) := by decide +kernel
theorem dX6_isBare_14 : decode cX6_isBare 14 = .ok (.iconst 0, 1) := by decide +kernel
theorem dX6_isBare_15 : decode cX6_isBare 15 = .ok (.ireturn, 1) := by decide +kernel
theorem dX6_isCell_0 : decode cX6_isCell 0 = .ok (.iload_n 1, 1) := by decide +kernel
theorem dX6_isCell_1 : decode cX6_isCell 1 = .ok (.iconst 0, 1) := by decide +kernel
theorem dX6_isCell_2 : decode cX6_isCell 2 = .ok (.aload_n 0, 1) := by decide +kernel
theorem dX6_isCell_3 : decode cX6_isCell 3 = .ok (.getfield 19, 3) := by decide +kernel
theorem dX6_isCell_6 : decode cX6_isCell 6 = .ok (.getfield 111, 3) := by decide +kernel
theorem dX6_isCell_9 : decode cX6_isCell 9 = .ok (.iconst 1, 1) := by decide +kernel
theorem dX6_isCell_10 : decode cX6_isCell 10 = .ok (.isub, 1) := by decide +kernel
theorem dX6_isCell_11 : decode cX6_isCell 11 = .ok (.invokestatic 80, 3) := by decide +kernel
theorem dX6_isCell_14 : decode cX6_isCell 14 = .ok (.ireturn, 1) := by decide +kernel
theorem dX6_isPost_0 : decode cX6_isPost 0 = .ok (.iload_n 1, 1) := by decide +kernel
theorem dX6_isPost_1 : decode cX6_isPost 1 = .ok (.iconst 0, 1) := by decide +kernel
theorem dX6_isPost_2 : decode cX6_isPost 2 = .ok (.aload_n 0, 1) := by decide +kernel
theorem dX6_isPost_3 : decode cX6_isPost 3 = .ok (.getfield 19, 3) := by decide +kernel
theorem dX6_isPost_6 : decode cX6_isPost 6 = .ok (.getfield 105, 3) := by decide +kernel
theorem dX6_isPost_9 : decode cX6_isPost 9 = .ok (.iconst 1, 1) := by decide +kernel
theorem dX6_isPost_10 : decode cX6_isPost 10 = .ok (.isub, 1) := by decide +kernel
theorem dX6_isPost_11 : decode cX6_isPost 11 = .ok (.invokestatic 80, 3) := by decide +kernel
theorem dX6_isPost_14 : decode cX6_isPost 14 = .ok (.ireturn, 1) := by decide +kernel
theorem dX6_isGoat_0 : decode cX6_isGoat 0 = .ok (.iload_n 1, 1) := by decide +kernel
theorem dX6_isGoat_1 : decode cX6_isGoat 1 = .ok (.iconst 0, 1) := by decide +kernel
theorem dX6_isGoat_2 : decode cX6_isGoat 2 = .ok (.aload_n 0, 1) := by decide +kernel
theorem dX6_isGoat_3 : decode cX6_isGoat 3 = .ok (.getfield 19, 3) := by decide +kernel
theorem dX6_isGoat_6 : decode cX6_isGoat 6 = .ok (.getfield 121, 3) := by decide +kernel
theorem dX6_isGoat_9 : decode cX6_isGoat 9 = .ok (.iconst 1, 1) := by decide +kernel
theorem dX6_isGoat_10 : decode cX6_isGoat 10 = .ok (.isub, 1) := by decide +kernel
theorem dX6_isGoat_11 : decode cX6_isGoat 11 = .ok (.invokestatic 80, 3) := by decide +kernel
theorem dX6_isGoat_14 : decode cX6_isGoat 14 = .ok (.ireturn, 1) := by decide +kernel
theorem dX6_isVillage_0 : decode cX6_isVillage 0 = .ok (.iload_n 0, 1) := by decide +kernel
theorem dX6_isVillage_1 : decode cX6_isVillage 1 = .ok (.iconst 0, 1) := by decide +kernel
theorem dX6_isVillage_2 : decode cX6_isVillage 2 = .ok (.iconst 1, 1) := by decide +kernel
theorem dX6_isVillage_3 : decode cX6_isVillage 3 = .ok (.invokestatic 80, 3) := by decide +kernel
theorem dX6_isVillage_6 : decode cX6_isVillage 6 = .ok (.ireturn, 1) := by decide +kernel
theorem dX6_isOpenTo_0 : decode cX6_isOpenTo 0 = .ok (.aload_n 0, 1) := by decide +kernel
theorem dX6_isOpenTo_1 : decode cX6_isOpenTo 1 = .ok (.iload_n 1, 1) := by decide +kernel
theorem dX6_isOpenTo_2 : decode cX6_isOpenTo 2 = .ok (.invokevirtual 231, 3) := by decide +kernel
theorem dX6_isOpenTo_5 : decode cX6_isOpenTo 5 = .ok (.ifCond .ne 5, 3) := by decide +kernel
theorem dX6_isOpenTo_8 : decode cX6_isOpenTo 8 = .ok (.iconst 0, 1) := by decide +kernel
theorem dX6_isOpenTo_9 : decode cX6_isOpenTo 9 = .ok (.ireturn, 1) := by decide +kernel
theorem dX6_isOpenTo_10 : decode cX6_isOpenTo 10 = .ok (.aload_n 0, 1) := by decide +kernel
theorem dX6_isOpenTo_11 : decode cX6_isOpenTo 11 = .ok (.getfield 29, 3) := by decide +kernel
theorem dX6_isOpenTo_14 : decode cX6_isOpenTo 14 = .ok (.iload_n 1, 1) := by decide +kernel
theorem dX6_isOpenTo_15 : decode cX6_isOpenTo 15 = .ok (.invokevirtual 234, 3) := by decide +kernel
theorem dX6_isOpenTo_18 : decode cX6_isOpenTo 18 = .ok (.istore 4, 2) := by decide +kernel
theorem dX6_isOpenTo_20 : decode cX6_isOpenTo 20 = .ok (.iload 4, 2) := by decide +kernel
theorem dX6_isOpenTo_22 : decode cX6_isOpenTo 22 = .ok (.iconst (-1), 1) := by decide +kernel
theorem dX6_isOpenTo_23 : decode cX6_isOpenTo 23 = .ok (.if_icmp .eq 15, 3) := by decide +kernel
theorem dX6_isOpenTo_26 : decode cX6_isOpenTo 26 = .ok (.iload 4, 2) := by decide +kernel
theorem dX6_isOpenTo_28 : decode cX6_isOpenTo 28 = .ok (.iload_n 2, 1) := by decide +kernel
theorem dX6_isOpenTo_29 : decode cX6_isOpenTo 29 = .ok (.if_icmp .eq 9, 3) := by decide +kernel
theorem dX6_isOpenTo_32 : decode cX6_isOpenTo 32 = .ok (.iload 4, 2) := by decide +kernel
theorem dX6_isOpenTo_34 : decode cX6_isOpenTo 34 = .ok (.iload_n 3, 1) := by decide +kernel
theorem dX6_isOpenTo_35 : decode cX6_isOpenTo 35 = .ok (.if_icmp .ne 7, 3) := by decide +kernel
theorem dX6_isOpenTo_38 : decode cX6_isOpenTo 38 = .ok (.iconst 1, 1) := by decide +kernel
theorem dX6_isOpenTo_39 : decode cX6_isOpenTo 39 = .ok (.goto 4, 3) := by decide +kernel
theorem dX6_isOpenTo_42 : decode cX6_isOpenTo 42 = .ok (.iconst 0, 1) := by decide +kernel
theorem dX6_isOpenTo_43 : decode cX6_isOpenTo 43 = .ok (.ireturn, 1) := by decide +kernel
theorem dX6_imageOf_0 : decode cX6_imageOf 0 = .ok (.iload_n 1, 1) := by decide +kernel
theorem dX6_imageOf_1 : decode cX6_imageOf 1 = .ok (.ifCond .lt 26, 3) := by decide +kernel
theorem dX6_imageOf_4 : decode cX6_imageOf 4 = .ok (.iload_n 1, 1) := by decide +kernel
theorem dX6_imageOf_5 : decode cX6_imageOf 5 = .ok (.iconst 2, 1) := by decide +kernel
theorem dX6_imageOf_6 : decode cX6_imageOf 6 = .ok (.if_icmp .ge 21, 3) := by decide +kernel
theorem dX6_imageOf_9 : decode cX6_imageOf 9 = .ok (.iload_n 1, 1) := by decide +kernel
theorem dX6_imageOf_10 : decode cX6_imageOf 10 = .ok (.aload_n 0, 1) := by decide +kernel
theorem dX6_imageOf_11 : decode cX6_imageOf 11 = .ok (.getfield 54, 3) := by decide +kernel
theorem dX6_imageOf_14 : decode cX6_imageOf 14 = .ok (.arraylength, 1) := by decide +kernel
theorem dX6_imageOf_15 : decode cX6_imageOf 15 = .ok (.if_icmp .ge 12, 3) := by decide +kernel
theorem dX6_imageOf_18 : decode cX6_imageOf 18 = .ok (.aload_n 0, 1) := by decide +kernel
theorem dX6_imageOf_19 : decode cX6_imageOf 19 = .ok (.getfield 54, 3) := by decide +kernel
theorem dX6_imageOf_22 : decode cX6_imageOf 22 = .ok (.iload_n 1, 1) := by decide +kernel
theorem dX6_imageOf_23 : decode cX6_imageOf 23 = .ok (.aaload, 1) := by decide +kernel
theorem dX6_imageOf_24 : decode cX6_imageOf 24 = .ok (.goto 4, 3) := by decide +kernel
theorem dX6_imageOf_27 : decode cX6_imageOf 27 = .ok (.aconst_null, 1) := by decide +kernel
theorem dX6_imageOf_28 : decode cX6_imageOf 28 = .ok (.areturn, 1) := by decide +kernel
theorem dX6_draw_0 : decode cX6_draw 0 = .ok (.aload_n 0, 1) := by decide +kernel
theorem dX6_draw_1 : decode cX6_draw 1 = .ok (.aload_n 0, 1) := by decide +kernel
theorem dX6_draw_2 : decode cX6_draw 2 = .ok (.getfield 61, 3) := by decide +kernel
theorem dX6_draw_5 : decode cX6_draw 5 = .ok (.i2l, 1) := by decide +kernel
theorem dX6_draw_6 : decode cX6_draw 6 = .ok (.ldc2_w 326, 3) := by decide +kernel
theorem dX6_draw_9 : decode cX6_draw 9 = .ok (.lmul, 1) := by decide +kernel
theorem dX6_draw_10 : decode cX6_draw 10 = .ok (.ldc2_w 328, 3) := by decide +kernel
theorem dX6_draw_13 : decode cX6_draw 13 = .ok (.ladd, 1) := by decide +kernel
theorem dX6_draw_14 : decode cX6_draw 14 = .ok (.ldc2_w 330, 3) := by decide +kernel
theorem dX6_draw_17 : decode cX6_draw 17 = .ok (.land, 1) := by decide +kernel
theorem dX6_draw_18 : decode cX6_draw 18 = .ok (.l2i, 1) := by decide +kernel
theorem dX6_draw_19 : decode cX6_draw 19 = .ok (.putfield 61, 3) := by decide +kernel
theorem dX6_draw_22 : decode cX6_draw 22 = .ok (.iload_n 1, 1) := by decide +kernel
theorem dX6_draw_23 : decode cX6_draw 23 = .ok (.ifCond .le 16, 3) := by decide +kernel
theorem dX6_draw_26 : decode cX6_draw 26 = .ok (.aload_n 0, 1) := by decide +kernel
theorem dX6_draw_27 : decode cX6_draw 27 = .ok (.getfield 61, 3) := by decide +kernel
theorem dX6_draw_30 : decode cX6_draw 30 = .ok (.ldc_w 332, 3) := by decide +kernel
theorem dX6_draw_33 : decode cX6_draw 33 = .ok (.idiv, 1) := by decide +kernel
theorem dX6_draw_34 : decode cX6_draw 34 = .ok (.iload_n 1, 1) := by decide +kernel
theorem dX6_draw_35 : decode cX6_draw 35 = .ok (.irem, 1) := by decide +kernel
theorem dX6_draw_36 : decode cX6_draw 36 = .ok (.goto 4, 3) := by decide +kernel
theorem dX6_draw_39 : decode cX6_draw 39 = .ok (.iconst 0, 1) := by decide +kernel
theorem dX6_draw_40 : decode cX6_draw 40 = .ok (.ireturn, 1) := by decide +kernel
theorem dX6_lickByDraws_0 : decode cX6_lickByDraws 0 = .ok (.aload_n 0, 1) := by decide +kernel
theorem dX6_lickByDraws_1 : decode cX6_lickByDraws 1 = .ok (.getfield 19, 3) := by decide +kernel
theorem dX6_lickByDraws_4 : decode cX6_lickByDraws 4 = .ok (.getfield 105, 3) := by decide +kernel
theorem dX6_lickByDraws_7 : decode cX6_lickByDraws 7 = .ok (.ifCond .eq 12, 3) := by decide +kernel
theorem dX6_lickByDraws_10 : decode cX6_lickByDraws 10 = .ok (.aload_n 0, 1) := by decide +kernel
theorem dX6_lickByDraws_11 : decode cX6_lickByDraws 11 = .ok (.bipush 8, 2) := by decide +kernel
theorem dX6_lickByDraws_13 : decode cX6_lickByDraws 13 = .ok (.invokevirtual 237, 3) := by decide +kernel
theorem dX6_lickByDraws_16 : decode cX6_lickByDraws 16 = .ok (.ifCond .eq 4, 3) := by decide +kernel
theorem dX6_lickByDraws_19 : decode cX6_lickByDraws 19 = .ok (.return_, 1) := by decide +kernel
theorem dX6_lickByDraws_20 : decode cX6_lickByDraws 20 = .ok (.aload_n 0, 1) := by decide +kernel
theorem dX6_lickByDraws_21 : decode cX6_lickByDraws 21 = .ok (.aload_n 0, 1) := by decide +kernel
theorem dX6_lickByDraws_22 : decode cX6_lickByDraws 22 = .ok (.getfield 19, 3) := by decide +kernel
theorem dX6_lickByDraws_25 : decode cX6_lickByDraws 25 = .ok (.getfield 105, 3) := by decide +kernel
theorem dX6_lickByDraws_28 : decode cX6_lickByDraws 28 = .ok (.invokevirtual 237, 3) := by decide +kernel
theorem dX6_lickByDraws_31 : decode cX6_lickByDraws 31 = .ok (.istore_n 1, 1) := by decide +kernel
theorem dX6_lickByDraws_32 : decode cX6_lickByDraws 32 = .ok (.aload_n 0, 1) := by decide +kernel
theorem dX6_lickByDraws_33 : decode cX6_lickByDraws 33 = .ok (.getfield 29, 3) := by decide +kernel
theorem dX6_lickByDraws_36 : decode cX6_lickByDraws 36 = .ok (.iload_n 1, 1) := by decide +kernel
theorem dX6_lickByDraws_37 : decode cX6_lickByDraws 37 = .ok (.aload_n 0, 1) := by decide +kernel
theorem dX6_lickByDraws_38 : decode cX6_lickByDraws 38 = .ok (.bipush 10, 2) := by decide +kernel
theorem dX6_lickByDraws_40 : decode cX6_lickByDraws 40 = .ok (.invokevirtual 237, 3) := by decide +kernel
theorem dX6_lickByDraws_43 : decode cX6_lickByDraws 43 = .ok (.invokevirtual 223, 3) := by decide +kernel
theorem dX6_lickByDraws_46 : decode cX6_lickByDraws 46 = .ok (.pop, 1) := by decide +kernel
theorem dX6_lickByDraws_47 : decode cX6_lickByDraws 47 = .ok (.return_, 1) := by decide +kernel
theorem dX6_tryHours_0 : decode cX6_tryHours 0 = .ok (.iconst 0, 1) := by decide +kernel
theorem dX6_tryHours_1 : decode cX6_tryHours 1 = .ok (.istore_n 2, 1) := by decide +kernel
theorem dX6_tryHours_2 : decode cX6_tryHours 2 = .ok (.iconst 0, 1) := by decide +kernel
theorem dX6_tryHours_3 : decode cX6_tryHours 3 = .ok (.istore_n 3, 1) := by decide +kernel
end
section
theorem dX6_tryHours_4 : decode cX6_tryHours 4 = .ok (.iload_n 3, 1) := by decide +kernel
theorem dX6_tryHours_5 : decode cX6_tryHours 5 = .ok (.bipush 6, 2) := by decide +kernel
theorem dX6_tryHours_7 : decode cX6_tryHours 7 = .ok (.if_icmp .ge 16, 3) := by decide +kernel
theorem dX6_tryHours_10 : decode cX6_tryHours 10 = .ok (.aload_n 0, 1) := by decide +kernel
theorem dX6_tryHours_11 : decode cX6_tryHours 11 = .ok (.getfield 36, 3) := by decide +kernel
theorem dX6_tryHours_14 : decode cX6_tryHours 14 = .ok (.iload_n 3, 1) := by decide +kernel
theorem dX6_tryHours_15 : decode cX6_tryHours 15 = .ok (.iconst 0, 1) := by decide +kernel
theorem dX6_tryHours_16 : decode cX6_tryHours 16 = .ok (.iastore, 1) := by decide +kernel
theorem dX6_tryHours_17 : decode cX6_tryHours 17 = .ok (.iinc 3 1, 3) := by decide +kernel
theorem dX6_tryHours_20 : decode cX6_tryHours 20 = .ok (.goto (-16), 3) := by decide +kernel
theorem dX6_tryHours_23 : decode cX6_tryHours 23 = .ok (.iconst 0, 1) := by decide +kernel
theorem dX6_tryHours_24 : decode cX6_tryHours 24 = .ok (.istore_n 3, 1) := by decide +kernel
theorem dX6_tryHours_25 : decode cX6_tryHours 25 = .ok (.iload_n 3, 1) := by decide +kernel
theorem dX6_tryHours_26 : decode cX6_tryHours 26 = .ok (.iload_n 1, 1) := by decide +kernel
theorem dX6_tryHours_27 : decode cX6_tryHours 27 = .ok (.if_icmp .ge 92, 3) := by decide +kernel
theorem dX6_tryHours_30 : decode cX6_tryHours 30 = .ok (.iload_n 2, 1) := by decide +kernel
theorem dX6_tryHours_31 : decode cX6_tryHours 31 = .ok (.aload_n 0, 1) := by decide +kernel
theorem dX6_tryHours_32 : decode cX6_tryHours 32 = .ok (.getfield 33, 3) := by decide +kernel
theorem dX6_tryHours_35 : decode cX6_tryHours 35 = .ok (.aload_n 0, 1) := by decide +kernel
theorem dX6_tryHours_36 : decode cX6_tryHours 36 = .ok (.getfield 19, 3) := by decide +kernel
theorem dX6_tryHours_39 : decode cX6_tryHours 39 = .ok (.aload_n 0, 1) := by decide +kernel
theorem dX6_tryHours_40 : decode cX6_tryHours 40 = .ok (.getfield 43, 3) := by decide +kernel
theorem dX6_tryHours_43 : decode cX6_tryHours 43 = .ok (.aload_n 0, 1) := by decide +kernel
theorem dX6_tryHours_44 : decode cX6_tryHours 44 = .ok (.getfield 19, 3) := by decide +kernel
theorem dX6_tryHours_47 : decode cX6_tryHours 47 = .ok (.aload_n 0, 1) := by decide +kernel
theorem dX6_tryHours_48 : decode cX6_tryHours 48 = .ok (.getfield 33, 3) := by decide +kernel
theorem dX6_tryHours_51 : decode cX6_tryHours 51 = .ok (.getfield 127, 3) := by decide +kernel
theorem dX6_tryHours_54 : decode cX6_tryHours 54 = .ok (.invokevirtual 178, 3) := by decide +kernel
theorem dX6_tryHours_57 : decode cX6_tryHours 57 = .ok (.aload_n 0, 1) := by decide +kernel
theorem dX6_tryHours_58 : decode cX6_tryHours 58 = .ok (.getfield 19, 3) := by decide +kernel
theorem dX6_tryHours_61 : decode cX6_tryHours 61 = .ok (.aload_n 0, 1) := by decide +kernel
theorem dX6_tryHours_62 : decode cX6_tryHours 62 = .ok (.getfield 33, 3) := by decide +kernel
theorem dX6_tryHours_65 : decode cX6_tryHours 65 = .ok (.getfield 127, 3) := by decide +kernel
theorem dX6_tryHours_68 : decode cX6_tryHours 68 = .ok (.invokevirtual 181, 3) := by decide +kernel
theorem dX6_tryHours_71 : decode cX6_tryHours 71 = .ok (.iconst 0, 1) := by decide +kernel
theorem dX6_tryHours_72 : decode cX6_tryHours 72 = .ok (.invokevirtual 215, 3) := by decide +kernel
theorem dX6_tryHours_75 : decode cX6_tryHours 75 = .ok (.iadd, 1) := by decide +kernel
theorem dX6_tryHours_76 : decode cX6_tryHours 76 = .ok (.istore_n 2, 1) := by decide +kernel
theorem dX6_tryHours_77 : decode cX6_tryHours 77 = .ok (.iconst 0, 1) := by decide +kernel
theorem dX6_tryHours_78 : decode cX6_tryHours 78 = .ok (.istore 4, 2) := by decide +kernel
theorem dX6_tryHours_80 : decode cX6_tryHours 80 = .ok (.iload 4, 2) := by decide +kernel
theorem dX6_tryHours_82 : decode cX6_tryHours 82 = .ok (.bipush 6, 2) := by decide +kernel
theorem dX6_tryHours_84 : decode cX6_tryHours 84 = .ok (.if_icmp .ge 29, 3) := by decide +kernel
theorem dX6_tryHours_87 : decode cX6_tryHours 87 = .ok (.aload_n 0, 1) := by decide +kernel
theorem dX6_tryHours_88 : decode cX6_tryHours 88 = .ok (.getfield 36, 3) := by decide +kernel
theorem dX6_tryHours_91 : decode cX6_tryHours 91 = .ok (.iload 4, 2) := by decide +kernel
theorem dX6_tryHours_93 : decode cX6_tryHours 93 = .ok (.dup2, 1) := by decide +kernel
theorem dX6_tryHours_94 : decode cX6_tryHours 94 = .ok (.iaload, 1) := by decide +kernel
theorem dX6_tryHours_95 : decode cX6_tryHours 95 = .ok (.aload_n 0, 1) := by decide +kernel
theorem dX6_tryHours_96 : decode cX6_tryHours 96 = .ok (.getfield 43, 3) := by decide +kernel
theorem dX6_tryHours_99 : decode cX6_tryHours 99 = .ok (.getfield 256, 3) := by decide +kernel
theorem dX6_tryHours_102 : decode cX6_tryHours 102 = .ok (.iload 4, 2) := by decide +kernel
theorem dX6_tryHours_104 : decode cX6_tryHours 104 = .ok (.iaload, 1) := by decide +kernel
theorem dX6_tryHours_105 : decode cX6_tryHours 105 = .ok (.iadd, 1) := by decide +kernel
theorem dX6_tryHours_106 : decode cX6_tryHours 106 = .ok (.iastore, 1) := by decide +kernel
theorem dX6_tryHours_107 : decode cX6_tryHours 107 = .ok (.iinc 4 1, 3) := by decide +kernel
theorem dX6_tryHours_110 : decode cX6_tryHours 110 = .ok (.goto (-30), 3) := by decide +kernel
theorem dX6_tryHours_113 : decode cX6_tryHours 113 = .ok (.iinc 3 1, 3) := by decide +kernel
theorem dX6_tryHours_116 : decode cX6_tryHours 116 = .ok (.goto (-91), 3) := by decide +kernel
theorem dX6_tryHours_119 : decode cX6_tryHours 119 = .ok (.iload_n 2, 1) := by decide +kernel
theorem dX6_tryHours_120 : decode cX6_tryHours 120 = .ok (.ireturn, 1) := by decide +kernel
theorem dX6_lesserHaul_0 : decode cX6_lesserHaul 0 = .ok (.aload_n 0, 1) := by decide +kernel
theorem dX6_lesserHaul_1 : decode cX6_lesserHaul 1 = .ok (.getfield 33, 3) := by decide +kernel
theorem dX6_lesserHaul_4 : decode cX6_lesserHaul 4 = .ok (.aload_n 0, 1) := by decide +kernel
theorem dX6_lesserHaul_5 : decode cX6_lesserHaul 5 = .ok (.getfield 29, 3) := by decide +kernel
theorem dX6_lesserHaul_8 : decode cX6_lesserHaul 8 = .ok (.invokevirtual 247, 3) := by decide +kernel
theorem dX6_lesserHaul_11 : decode cX6_lesserHaul 11 = .ok (.aload_n 0, 1) := by decide +kernel
theorem dX6_lesserHaul_12 : decode cX6_lesserHaul 12 = .ok (.getfield 33, 3) := by decide +kernel
theorem dX6_lesserHaul_15 : decode cX6_lesserHaul 15 = .ok (.getfield 151, 3) := by decide +kernel
theorem dX6_lesserHaul_18 : decode cX6_lesserHaul 18 = .ok (.iload_n 1, 1) := by decide +kernel
theorem dX6_lesserHaul_19 : decode cX6_lesserHaul 19 = .ok (.iload_n 2, 1) := by decide +kernel
theorem dX6_lesserHaul_20 : decode cX6_lesserHaul 20 = .ok (.invokestatic 227, 3) := by decide +kernel
theorem dX6_lesserHaul_23 : decode cX6_lesserHaul 23 = .ok (.aload_n 0, 1) := by decide +kernel
theorem dX6_lesserHaul_24 : decode cX6_lesserHaul 24 = .ok (.getfield 33, 3) := by decide +kernel
theorem dX6_lesserHaul_27 : decode cX6_lesserHaul 27 = .ok (.getfield 151, 3) := by decide +kernel
theorem dX6_lesserHaul_30 : decode cX6_lesserHaul 30 = .ok (.iload_n 3, 1) := by decide +kernel
theorem dX6_lesserHaul_31 : decode cX6_lesserHaul 31 = .ok (.iload 4, 2) := by decide +kernel
theorem dX6_lesserHaul_33 : decode cX6_lesserHaul 33 = .ok (.invokestatic 227, 3) := by decide +kernel
theorem dX6_lesserHaul_36 : decode cX6_lesserHaul 36 = .ok (.aload_n 0, 1) := by decide +kernel
theorem dX6_lesserHaul_37 : decode cX6_lesserHaul 37 = .ok (.bipush 7, 2) := by decide +kernel
theorem dX6_lesserHaul_39 : decode cX6_lesserHaul 39 = .ok (.aload_n 0, 1) := by decide +kernel
theorem dX6_lesserHaul_40 : decode cX6_lesserHaul 40 = .ok (.getfield 19, 3) := by decide +kernel
theorem dX6_lesserHaul_43 : decode cX6_lesserHaul 43 = .ok (.invokevirtual 117, 3) := by decide +kernel
theorem dX6_lesserHaul_46 : decode cX6_lesserHaul 46 = .ok (.imul, 1) := by decide +kernel
theorem dX6_lesserHaul_47 : decode cX6_lesserHaul 47 = .ok (.invokevirtual 250, 3) := by decide +kernel
theorem dX6_lesserHaul_50 : decode cX6_lesserHaul 50 = .ok (.istore 5, 2) := by decide +kernel
theorem dX6_lesserHaul_52 : decode cX6_lesserHaul 52 = .ok (.iconst 0, 1) := by decide +kernel
theorem dX6_lesserHaul_53 : decode cX6_lesserHaul 53 = .ok (.istore 6, 2) := by decide +kernel
theorem dX6_lesserHaul_55 : decode cX6_lesserHaul 55 = .ok (.iconst 0, 1) := by decide +kernel
theorem dX6_lesserHaul_56 : decode cX6_lesserHaul 56 = .ok (.istore 7, 2) := by decide +kernel
theorem dX6_lesserHaul_58 : decode cX6_lesserHaul 58 = .ok (.iload 7, 2) := by decide +kernel
theorem dX6_lesserHaul_60 : decode cX6_lesserHaul 60 = .ok (.bipush 6, 2) := by decide +kernel
theorem dX6_lesserHaul_62 : decode cX6_lesserHaul 62 = .ok (.if_icmp .ge 35, 3) := by decide +kernel
theorem dX6_lesserHaul_65 : decode cX6_lesserHaul 65 = .ok (.aload_n 0, 1) := by decide +kernel
theorem dX6_lesserHaul_66 : decode cX6_lesserHaul 66 = .ok (.getfield 19, 3) := by decide +kernel
theorem dX6_lesserHaul_69 : decode cX6_lesserHaul 69 = .ok (.getfield 164, 3) := by decide +kernel
theorem dX6_lesserHaul_72 : decode cX6_lesserHaul 72 = .ok (.iload 7, 2) := by decide +kernel
theorem dX6_lesserHaul_74 : decode cX6_lesserHaul 74 = .ok (.iaload, 1) := by decide +kernel
theorem dX6_lesserHaul_75 : decode cX6_lesserHaul 75 = .ok (.iconst 1, 1) := by decide +kernel
theorem dX6_lesserHaul_76 : decode cX6_lesserHaul 76 = .ok (.if_icmp .ne 15, 3) := by decide +kernel
theorem dX6_lesserHaul_79 : decode cX6_lesserHaul 79 = .ok (.iload 6, 2) := by decide +kernel
theorem dX6_lesserHaul_81 : decode cX6_lesserHaul 81 = .ok (.aload_n 0, 1) := by decide +kernel
theorem dX6_lesserHaul_82 : decode cX6_lesserHaul 82 = .ok (.getfield 36, 3) := by decide +kernel
theorem dX6_lesserHaul_85 : decode cX6_lesserHaul 85 = .ok (.iload 7, 2) := by decide +kernel
theorem dX6_lesserHaul_87 : decode cX6_lesserHaul 87 = .ok (.iaload, 1) := by decide +kernel
theorem dX6_lesserHaul_88 : decode cX6_lesserHaul 88 = .ok (.iadd, 1) := by decide +kernel
theorem dX6_lesserHaul_89 : decode cX6_lesserHaul 89 = .ok (.istore 6, 2) := by decide +kernel
theorem dX6_lesserHaul_91 : decode cX6_lesserHaul 91 = .ok (.iinc 7 1, 3) := by decide +kernel
theorem dX6_lesserHaul_94 : decode cX6_lesserHaul 94 = .ok (.goto (-36), 3) := by decide +kernel
theorem dX6_lesserHaul_97 : decode cX6_lesserHaul 97 = .ok (.iload 5, 2) := by decide +kernel
theorem dX6_lesserHaul_99 : decode cX6_lesserHaul 99 = .ok (.iload 6, 2) := by decide +kernel
theorem dX6_lesserHaul_101 : decode cX6_lesserHaul 101 = .ok (.isub, 1) := by decide +kernel
theorem dX6_lesserHaul_102 : decode cX6_lesserHaul 102 = .ok (.iload 6, 2) := by decide +kernel
theorem dX6_lesserHaul_104 : decode cX6_lesserHaul 104 = .ok (.invokestatic 269, 3) := by decide +kernel
theorem dX6_lesserHaul_107 : decode cX6_lesserHaul 107 = .ok (.ireturn, 1) := by decide +kernel
theorem dX6_blowNext_0 : decode cX6_blowNext 0 = .ok (.aload_n 0, 1) := by decide +kernel
theorem dX6_blowNext_1 : decode cX6_blowNext 1 = .ok (.getfield 29, 3) := by decide +kernel
theorem dX6_blowNext_4 : decode cX6_blowNext 4 = .ok (.aload_n 0, 1) := by decide +kernel
theorem dX6_blowNext_5 : decode cX6_blowNext 5 = .ok (.getfield 19, 3) := by decide +kernel
theorem dX6_blowNext_8 : decode cX6_blowNext 8 = .ok (.aload_n 0, 1) := by decide +kernel
theorem dX6_blowNext_9 : decode cX6_blowNext 9 = .ok (.getfield 19, 3) := by decide +kernel
theorem dX6_blowNext_12 : decode cX6_blowNext 12 = .ok (.aload_n 0, 1) := by decide +kernel
theorem dX6_blowNext_13 : decode cX6_blowNext 13 = .ok (.getfield 29, 3) := by decide +kernel
theorem dX6_blowNext_16 : decode cX6_blowNext 16 = .ok (.getfield 127, 3) := by decide +kernel
theorem dX6_blowNext_19 : decode cX6_blowNext 19 = .ok (.invokevirtual 181, 3) := by decide +kernel
theorem dX6_blowNext_22 : decode cX6_blowNext 22 = .ok (.invokevirtual 333, 3) := by decide +kernel
theorem dX6_blowNext_25 : decode cX6_blowNext 25 = .ok (.istore_n 2, 1) := by decide +kernel
theorem dX6_blowNext_26 : decode cX6_blowNext 26 = .ok (.aload_n 0, 1) := by decide +kernel
theorem dX6_blowNext_27 : decode cX6_blowNext 27 = .ok (.getfield 43, 3) := by decide +kernel
theorem dX6_blowNext_30 : decode cX6_blowNext 30 = .ok (.aload_n 0, 1) := by decide +kernel
theorem dX6_blowNext_31 : decode cX6_blowNext 31 = .ok (.getfield 29, 3) := by decide +kernel
theorem dX6_blowNext_34 : decode cX6_blowNext 34 = .ok (.aload_n 0, 1) := by decide +kernel
theorem dX6_blowNext_35 : decode cX6_blowNext 35 = .ok (.getfield 19, 3) := by decide +kernel
theorem dX6_blowNext_38 : decode cX6_blowNext 38 = .ok (.getfield 111, 3) := by decide +kernel
theorem dX6_blowNext_41 : decode cX6_blowNext 41 = .ok (.iload_n 1, 1) := by decide +kernel
theorem dX6_blowNext_42 : decode cX6_blowNext 42 = .ok (.aload_n 0, 1) := by decide +kernel
theorem dX6_blowNext_43 : decode cX6_blowNext 43 = .ok (.getfield 19, 3) := by decide +kernel
theorem dX6_blowNext_46 : decode cX6_blowNext 46 = .ok (.aload_n 0, 1) := by decide +kernel
theorem dX6_blowNext_47 : decode cX6_blowNext 47 = .ok (.getfield 29, 3) := by decide +kernel
theorem dX6_blowNext_50 : decode cX6_blowNext 50 = .ok (.getfield 127, 3) := by decide +kernel
theorem dX6_blowNext_53 : decode cX6_blowNext 53 = .ok (.invokevirtual 178, 3) := by decide +kernel
theorem dX6_blowNext_56 : decode cX6_blowNext 56 = .ok (.iload_n 2, 1) := by decide +kernel
theorem dX6_blowNext_57 : decode cX6_blowNext 57 = .ok (.invokevirtual 283, 3) := by decide +kernel
theorem dX6_blowNext_60 : decode cX6_blowNext 60 = .ok (.return_, 1) := by decide +kernel
theorem dX6_takenOf_0 : decode cX6_takenOf 0 = .ok (.aload_n 0, 1) := by decide +kernel
theorem dX6_takenOf_1 : decode cX6_takenOf 1 = .ok (.getfield 43, 3) := by decide +kernel
theorem dX6_takenOf_4 : decode cX6_takenOf 4 = .ok (.aload_n 0, 1) := by decide +kernel
theorem dX6_takenOf_5 : decode cX6_takenOf 5 = .ok (.getfield 29, 3) := by decide +kernel
theorem dX6_takenOf_8 : decode cX6_takenOf 8 = .ok (.aload_n 0, 1) := by decide +kernel
theorem dX6_takenOf_9 : decode cX6_takenOf 9 = .ok (.getfield 19, 3) := by decide +kernel
theorem dX6_takenOf_12 : decode cX6_takenOf 12 = .ok (.getfield 111, 3) := by decide +kernel
theorem dX6_takenOf_15 : decode cX6_takenOf 15 = .ok (.aload_n 0, 1) := by decide +kernel
theorem dX6_takenOf_16 : decode cX6_takenOf 16 = .ok (.getfield 29, 3) := by decide +kernel
theorem dX6_takenOf_19 : decode cX6_takenOf 19 = .ok (.aload_n 0, 1) := by decide +kernel
theorem dX6_takenOf_20 : decode cX6_takenOf 20 = .ok (.getfield 19, 3) := by decide +kernel
theorem dX6_takenOf_23 : decode cX6_takenOf 23 = .ok (.invokevirtual 134, 3) := by decide +kernel
theorem dX6_takenOf_26 : decode cX6_takenOf 26 = .ok (.iload_n 2, 1) := by decide +kernel
theorem dX6_takenOf_27 : decode cX6_takenOf 27 = .ok (.iload_n 3, 1) := by decide +kernel
theorem dX6_takenOf_28 : decode cX6_takenOf 28 = .ok (.invokevirtual 283, 3) := by decide +kernel
theorem dX6_takenOf_31 : decode cX6_takenOf 31 = .ok (.aload_n 0, 1) := by decide +kernel
theorem dX6_takenOf_32 : decode cX6_takenOf 32 = .ok (.getfield 43, 3) := by decide +kernel
theorem dX6_takenOf_35 : decode cX6_takenOf 35 = .ok (.getfield 256, 3) := by decide +kernel
theorem dX6_takenOf_38 : decode cX6_takenOf 38 = .ok (.iload_n 1, 1) := by decide +kernel
theorem dX6_takenOf_39 : decode cX6_takenOf 39 = .ok (.invokestatic 154, 3) := by decide +kernel
theorem dX6_takenOf_42 : decode cX6_takenOf 42 = .ok (.ireturn, 1) := by decide +kernel
theorem dX6_fitting_0 : decode cX6_fitting 0 = .ok (.lconst 0, 1) := by decide +kernel
theorem dX6_fitting_1 : decode cX6_fitting 1 = .ok (.lstore_n 1, 1) := by decide +kernel
theorem dX6_fitting_2 : decode cX6_fitting 2 = .ok (.iconst 0, 1) := by decide +kernel
theorem dX6_fitting_3 : decode cX6_fitting 3 = .ok (.istore_n 3, 1) := by decide +kernel
theorem dX6_fitting_4 : decode cX6_fitting 4 = .ok (.iload_n 3, 1) := by decide +kernel
theorem dX6_fitting_5 : decode cX6_fitting 5 = .ok (.bipush 40, 2) := by decide +kernel
theorem dX6_fitting_7 : decode cX6_fitting 7 = .ok (.if_icmp .gt 23, 3) := by decide +kernel
theorem dX6_fitting_10 : decode cX6_fitting 10 = .ok (.aload_n 0, 1) := by decide +kernel
theorem dX6_fitting_11 : decode cX6_fitting 11 = .ok (.iload_n 3, 1) := by decide +kernel
theorem dX6_fitting_12 : decode cX6_fitting 12 = .ok (.invokevirtual 336, 3) := by decide +kernel
theorem dX6_fitting_15 : decode cX6_fitting 15 = .ok (.ifCond .eq 9, 3) := by decide +kernel
theorem dX6_fitting_18 : decode cX6_fitting 18 = .ok (.lload_n 1, 1) := by decide +kernel
theorem dX6_fitting_19 : decode cX6_fitting 19 = .ok (.lconst 1, 1) := by decide +kernel
theorem dX6_fitting_20 : decode cX6_fitting 20 = .ok (.iload_n 3, 1) := by decide +kernel
theorem dX6_fitting_21 : decode cX6_fitting 21 = .ok (.lshl, 1) := by decide +kernel
theorem dX6_fitting_22 : decode cX6_fitting 22 = .ok (.lor, 1) := by decide +kernel
theorem dX6_fitting_23 : decode cX6_fitting 23 = .ok (.lstore_n 1, 1) := by decide +kernel
theorem dX6_fitting_24 : decode cX6_fitting 24 = .ok (.iinc 3 1, 3) := by decide +kernel
theorem dX6_fitting_27 : decode cX6_fitting 27 = .ok (.goto (-23), 3) := by decide +kernel
theorem dX6_fitting_30 : decode cX6_fitting 30 = .ok (.lload_n 1, 1) := by decide +kernel
theorem dX6_fitting_31 : decode cX6_fitting 31 = .ok (.lreturn, 1) := by decide +kernel
theorem dX6_fitsAll_0 : decode cX6_fitsAll 0 = .ok (.iconst 0, 1) := by decide +kernel
theorem dX6_fitsAll_1 : decode cX6_fitsAll 1 = .ok (.istore_n 2, 1) := by decide +kernel
theorem dX6_fitsAll_2 : decode cX6_fitsAll 2 = .ok (.iload_n 2, 1) := by decide +kernel
theorem dX6_fitsAll_3 : decode cX6_fitsAll 3 = .ok (.aload_n 0, 1) := by decide +kernel
theorem dX6_fitsAll_4 : decode cX6_fitsAll 4 = .ok (.getfield 70, 3) := by decide +kernel
theorem dX6_fitsAll_7 : decode cX6_fitsAll 7 = .ok (.getfield 104, 3) := by decide +kernel
theorem dX6_fitsAll_10 : decode cX6_fitsAll 10 = .ok (.if_icmp .ge 60, 3) := by decide +kernel
theorem dX6_fitsAll_13 : decode cX6_fitsAll 13 = .ok (.iload_n 2, 1) := by decide +kernel
theorem dX6_fitsAll_14 : decode cX6_fitsAll 14 = .ok (.bipush 6, 2) := by decide +kernel
theorem dX6_fitsAll_16 : decode cX6_fitsAll 16 = .ok (.if_icmp .ge 54, 3) := by decide +kernel
theorem dX6_fitsAll_19 : decode cX6_fitsAll 19 = .ok (.aload_n 0, 1) := by decide +kernel
theorem dX6_fitsAll_20 : decode cX6_fitsAll 20 = .ok (.aload_n 0, 1) := by decide +kernel
theorem dX6_fitsAll_21 : decode cX6_fitsAll 21 = .ok (.getfield 70, 3) := by decide +kernel
theorem dX6_fitsAll_24 : decode cX6_fitsAll 24 = .ok (.getfield 317, 3) := by decide +kernel
theorem dX6_fitsAll_27 : decode cX6_fitsAll 27 = .ok (.iload_n 2, 1) := by decide +kernel
theorem dX6_fitsAll_28 : decode cX6_fitsAll 28 = .ok (.invokestatic 154, 3) := by decide +kernel
theorem dX6_fitsAll_31 : decode cX6_fitsAll 31 = .ok (.aload_n 0, 1) := by decide +kernel
theorem dX6_fitsAll_32 : decode cX6_fitsAll 32 = .ok (.getfield 70, 3) := by decide +kernel
theorem dX6_fitsAll_35 : decode cX6_fitsAll 35 = .ok (.getfield 339, 3) := by decide +kernel
theorem dX6_fitsAll_38 : decode cX6_fitsAll 38 = .ok (.iload_n 2, 1) := by decide +kernel
theorem dX6_fitsAll_39 : decode cX6_fitsAll 39 = .ok (.invokestatic 154, 3) := by decide +kernel
theorem dX6_fitsAll_42 : decode cX6_fitsAll 42 = .ok (.iload_n 1, 1) := by decide +kernel
theorem dX6_fitsAll_43 : decode cX6_fitsAll 43 = .ok (.invokevirtual 314, 3) := by decide +kernel
theorem dX6_fitsAll_46 : decode cX6_fitsAll 46 = .ok (.istore_n 3, 1) := by decide +kernel
theorem dX6_fitsAll_47 : decode cX6_fitsAll 47 = .ok (.iload_n 3, 1) := by decide +kernel
theorem dX6_fitsAll_48 : decode cX6_fitsAll 48 = .ok (.aload_n 0, 1) := by decide +kernel
theorem dX6_fitsAll_49 : decode cX6_fitsAll 49 = .ok (.getfield 70, 3) := by decide +kernel
theorem dX6_fitsAll_52 : decode cX6_fitsAll 52 = .ok (.getfield 319, 3) := by decide +kernel
theorem dX6_fitsAll_55 : decode cX6_fitsAll 55 = .ok (.iload_n 2, 1) := by decide +kernel
theorem dX6_fitsAll_56 : decode cX6_fitsAll 56 = .ok (.invokestatic 154, 3) := by decide +kernel
theorem dX6_fitsAll_59 : decode cX6_fitsAll 59 = .ok (.if_icmp .eq 5, 3) := by decide +kernel
theorem dX6_fitsAll_62 : decode cX6_fitsAll 62 = .ok (.iconst 0, 1) := by decide +kernel
theorem dX6_fitsAll_63 : decode cX6_fitsAll 63 = .ok (.ireturn, 1) := by decide +kernel
theorem dX6_fitsAll_64 : decode cX6_fitsAll 64 = .ok (.iinc 2 1, 3) := by decide +kernel
theorem dX6_fitsAll_67 : decode cX6_fitsAll 67 = .ok (.goto (-65), 3) := by decide +kernel
theorem dX6_fitsAll_70 : decode cX6_fitsAll 70 = .ok (.iconst 1, 1) := by decide +kernel
theorem dX6_fitsAll_71 : decode cX6_fitsAll 71 = .ok (.ireturn, 1) := by decide +kernel
theorem dX6_greatestPart_0 : decode cX6_greatestPart 0 = .ok (.iconst 0, 1) := by decide +kernel
theorem dX6_greatestPart_1 : decode cX6_greatestPart 1 = .ok (.istore 5, 2) := by decide +kernel
theorem dX6_greatestPart_3 : decode cX6_greatestPart 3 = .ok (.iload 5, 2) := by decide +kernel
theorem dX6_greatestPart_5 : decode cX6_greatestPart 5 = .ok (.bipush 40, 2) := by decide +kernel
theorem dX6_greatestPart_7 : decode cX6_greatestPart 7 = .ok (.if_icmp .gt 17, 3) := by decide +kernel
theorem dX6_greatestPart_10 : decode cX6_greatestPart 10 = .ok (.aload_n 0, 1) := by decide +kernel
theorem dX6_greatestPart_11 : decode cX6_greatestPart 11 = .ok (.getfield 77, 3) := by decide +kernel
theorem dX6_greatestPart_14 : decode cX6_greatestPart 14 = .ok (.iload 5, 2) := by decide +kernel
theorem dX6_greatestPart_16 : decode cX6_greatestPart 16 = .ok (.iconst 0, 1) := by decide +kernel
theorem dX6_greatestPart_17 : decode cX6_greatestPart 17 = .ok (.iastore, 1) := by decide +kernel
theorem dX6_greatestPart_18 : decode cX6_greatestPart 18 = .ok (.iinc 5 1, 3) := by decide +kernel
theorem dX6_greatestPart_21 : decode cX6_greatestPart 21 = .ok (.goto (-18), 3) := by decide +kernel
theorem dX6_greatestPart_24 : decode cX6_greatestPart 24 = .ok (.iconst 0, 1) := by decide +kernel
theorem dX6_greatestPart_25 : decode cX6_greatestPart 25 = .ok (.istore 5, 2) := by decide +kernel
theorem dX6_greatestPart_27 : decode cX6_greatestPart 27 = .ok (.iconst 0, 1) := by decide +kernel
theorem dX6_greatestPart_28 : decode cX6_greatestPart 28 = .ok (.istore 6, 2) := by decide +kernel
theorem dX6_greatestPart_30 : decode cX6_greatestPart 30 = .ok (.iload 6, 2) := by decide +kernel
theorem dX6_greatestPart_32 : decode cX6_greatestPart 32 = .ok (.bipush 40, 2) := by decide +kernel
theorem dX6_greatestPart_34 : decode cX6_greatestPart 34 = .ok (.if_icmp .gt 67, 3) := by decide +kernel
theorem dX6_greatestPart_37 : decode cX6_greatestPart 37 = .ok (.lload_n 1, 1) := by decide +kernel
theorem dX6_greatestPart_38 : decode cX6_greatestPart 38 = .ok (.iload 6, 2) := by decide +kernel
theorem dX6_greatestPart_40 : decode cX6_greatestPart 40 = .ok (.lshr, 1) := by decide +kernel
theorem dX6_greatestPart_41 : decode cX6_greatestPart 41 = .ok (.lconst 1, 1) := by decide +kernel
theorem dX6_greatestPart_42 : decode cX6_greatestPart 42 = .ok (.land, 1) := by decide +kernel
theorem dX6_greatestPart_43 : decode cX6_greatestPart 43 = .ok (.lconst 0, 1) := by decide +kernel
theorem dX6_greatestPart_44 : decode cX6_greatestPart 44 = .ok (.lcmp, 1) := by decide +kernel
theorem dX6_greatestPart_45 : decode cX6_greatestPart 45 = .ok (.ifCond .ne 6, 3) := by decide +kernel
theorem dX6_greatestPart_48 : decode cX6_greatestPart 48 = .ok (.goto 47, 3) := by decide +kernel
theorem dX6_greatestPart_51 : decode cX6_greatestPart 51 = .ok (.aload_n 0, 1) := by decide +kernel
theorem dX6_greatestPart_52 : decode cX6_greatestPart 52 = .ok (.iload_n 3, 1) := by decide +kernel
theorem dX6_greatestPart_53 : decode cX6_greatestPart 53 = .ok (.iload 4, 2) := by decide +kernel
theorem dX6_greatestPart_55 : decode cX6_greatestPart 55 = .ok (.iload 6, 2) := by decide +kernel
theorem dX6_greatestPart_57 : decode cX6_greatestPart 57 = .ok (.invokevirtual 314, 3) := by decide +kernel
theorem dX6_greatestPart_60 : decode cX6_greatestPart 60 = .ok (.istore 7, 2) := by decide +kernel
theorem dX6_greatestPart_62 : decode cX6_greatestPart 62 = .ok (.aload_n 0, 1) := by decide +kernel
theorem dX6_greatestPart_63 : decode cX6_greatestPart 63 = .ok (.getfield 77, 3) := by decide +kernel
theorem dX6_greatestPart_66 : decode cX6_greatestPart 66 = .ok (.iload 7, 2) := by decide +kernel
theorem dX6_greatestPart_68 : decode cX6_greatestPart 68 = .ok (.invokestatic 154, 3) := by decide +kernel
theorem dX6_greatestPart_71 : decode cX6_greatestPart 71 = .ok (.iconst 1, 1) := by decide +kernel
theorem dX6_greatestPart_72 : decode cX6_greatestPart 72 = .ok (.iadd, 1) := by decide +kernel
theorem dX6_greatestPart_73 : decode cX6_greatestPart 73 = .ok (.istore 8, 2) := by decide +kernel
theorem dX6_greatestPart_75 : decode cX6_greatestPart 75 = .ok (.aload_n 0, 1) := by decide +kernel
theorem dX6_greatestPart_76 : decode cX6_greatestPart 76 = .ok (.getfield 77, 3) := by decide +kernel
theorem dX6_greatestPart_79 : decode cX6_greatestPart 79 = .ok (.iload 7, 2) := by decide +kernel
theorem dX6_greatestPart_81 : decode cX6_greatestPart 81 = .ok (.iload 8, 2) := by decide +kernel
theorem dX6_greatestPart_83 : decode cX6_greatestPart 83 = .ok (.invokestatic 227, 3) := by decide +kernel
theorem dX6_greatestPart_86 : decode cX6_greatestPart 86 = .ok (.iload 5, 2) := by decide +kernel
theorem dX6_greatestPart_88 : decode cX6_greatestPart 88 = .ok (.iload 8, 2) := by decide +kernel
theorem dX6_greatestPart_90 : decode cX6_greatestPart 90 = .ok (.invokestatic 342, 3) := by decide +kernel
theorem dX6_greatestPart_93 : decode cX6_greatestPart 93 = .ok (.istore 5, 2) := by decide +kernel
theorem dX6_greatestPart_95 : decode cX6_greatestPart 95 = .ok (.iinc 6 1, 3) := by decide +kernel
theorem dX6_greatestPart_98 : decode cX6_greatestPart 98 = .ok (.goto (-68), 3) := by decide +kernel
theorem dX6_greatestPart_101 : decode cX6_greatestPart 101 = .ok (.iload 5, 2) := by decide +kernel
theorem dX6_greatestPart_103 : decode cX6_greatestPart 103 = .ok (.ireturn, 1) := by decide +kernel
theorem dX7_init_0 : decode cX7_init 0 = .ok (.aload_n 0, 1) := by decide +kernel
theorem dX7_init_1 : decode cX7_init 1 = .ok (.invokespecial 1, 3) := by decide +kernel
theorem dX7_init_4 : decode cX7_init 4 = .ok (.aload_n 0, 1) := by decide +kernel
theorem dX7_init_5 : decode cX7_init 5 = .ok (.sipush 240, 3) := by decide +kernel
theorem dX7_init_8 : decode cX7_init 8 = .ok (.newarray .int, 2) := by decide +kernel
theorem dX7_init_10 : decode cX7_init 10 = .ok (.putfield 7, 3) := by decide +kernel
theorem dX7_init_13 : decode cX7_init 13 = .ok (.aload_n 0, 1) := by decide +kernel
theorem dX7_init_14 : decode cX7_init 14 = .ok (.iconst (-1), 1) := by decide +kernel
theorem dX7_init_15 : decode cX7_init 15 = .ok (.putfield 13, 3) := by decide +kernel
theorem dX7_init_18 : decode cX7_init 18 = .ok (.aload_n 0, 1) := by decide +kernel
theorem dX7_init_19 : decode cX7_init 19 = .ok (.iconst 2, 1) := by decide +kernel
theorem dX7_init_20 : decode cX7_init 20 = .ok (.newarray .int, 2) := by decide +kernel
theorem dX7_init_22 : decode cX7_init 22 = .ok (.putfield 17, 3) := by decide +kernel
theorem dX7_init_25 : decode cX7_init 25 = .ok (.aload_n 0, 1) := by decide +kernel
theorem dX7_init_26 : decode cX7_init 26 = .ok (.iconst 2, 1) := by decide +kernel
theorem dX7_init_27 : decode cX7_init 27 = .ok (.newarray .int, 2) := by decide +kernel
theorem dX7_init_29 : decode cX7_init 29 = .ok (.putfield 20, 3) := by decide +kernel
theorem dX7_init_32 : decode cX7_init 32 = .ok (.aload_n 0, 1) := by decide +kernel
theorem dX7_init_33 : decode cX7_init 33 = .ok (.iconst 2, 1) := by decide +kernel
theorem dX7_init_34 : decode cX7_init 34 = .ok (.newarray .int, 2) := by decide +kernel
theorem dX7_init_36 : decode cX7_init 36 = .ok (.putfield 23, 3) := by decide +kernel
theorem dX7_init_39 : decode cX7_init 39 = .ok (.aload_n 0, 1) := by decide +kernel
theorem dX7_init_40 : decode cX7_init 40 = .ok (.bipush 24, 2) := by decide +kernel
theorem dX7_init_42 : decode cX7_init 42 = .ok (.newarray .int, 2) := by decide +kernel
theorem dX7_init_44 : decode cX7_init 44 = .ok (.putfield 26, 3) := by decide +kernel
theorem dX7_init_47 : decode cX7_init 47 = .ok (.aload_n 0, 1) := by decide +kernel
theorem dX7_init_48 : decode cX7_init 48 = .ok (.bipush 24, 2) := by decide +kernel
theorem dX7_init_50 : decode cX7_init 50 = .ok (.newarray .int, 2) := by decide +kernel
theorem dX7_init_52 : decode cX7_init 52 = .ok (.putfield 29, 3) := by decide +kernel
theorem dX7_init_55 : decode cX7_init 55 = .ok (.aload_n 0, 1) := by decide +kernel
theorem dX7_init_56 : decode cX7_init 56 = .ok (.bipush 8, 2) := by decide +kernel
theorem dX7_init_58 : decode cX7_init 58 = .ok (.newarray .int, 2) := by decide +kernel
theorem dX7_init_60 : decode cX7_init 60 = .ok (.putfield 32, 3) := by decide +kernel
theorem dX7_init_63 : decode cX7_init 63 = .ok (.aload_n 0, 1) := by decide +kernel
theorem dX7_init_64 : decode cX7_init 64 = .ok (.bipush 24, 2) := by decide +kernel
theorem dX7_init_66 : decode cX7_init 66 = .ok (.newarray .int, 2) := by decide +kernel
theorem dX7_init_68 : decode cX7_init 68 = .ok (.putfield 35, 3) := by decide +kernel
theorem dX7_init_71 : decode cX7_init 71 = .ok (.aload_n 0, 1) := by decide +kernel
theorem dX7_init_72 : decode cX7_init 72 = .ok (.bipush 6, 2) := by decide +kernel
theorem dX7_init_74 : decode cX7_init 74 = .ok (.newarray .int, 2) := by decide +kernel
theorem dX7_init_76 : decode cX7_init 76 = .ok (.putfield 38, 3) := by decide +kernel
theorem dX7_init_79 : decode cX7_init 79 = .ok (.aload_n 0, 1) := by decide +kernel
theorem dX7_init_80 : decode cX7_init 80 = .ok (.bipush 6, 2) := by decide +kernel
theorem dX7_init_82 : decode cX7_init 82 = .ok (.newarray .int, 2) := by decide +kernel
theorem dX7_init_84 : decode cX7_init 84 = .ok (.putfield 41, 3) := by decide +kernel
theorem dX7_init_87 : decode cX7_init 87 = .ok (.aload_n 0, 1) := by decide +kernel
theorem dX7_init_88 : decode cX7_init 88 = .ok (.bipush 8, 2) := by decide +kernel
theorem dX7_init_90 : decode cX7_init 90 = .ok (.newarray .int, 2) := by decide +kernel
theorem dX7_init_92 : decode cX7_init 92 = .ok (.putfield 44, 3) := by decide +kernel
theorem dX7_init_95 : decode cX7_init 95 = .ok (.aload_n 0, 1) := by decide +kernel
theorem dX7_init_96 : decode cX7_init 96 = .ok (.iconst 2, 1) := by decide +kernel
theorem dX7_init_97 : decode cX7_init 97 = .ok (.newarray .int, 2) := by decide +kernel
theorem dX7_init_99 : decode cX7_init 99 = .ok (.putfield 47, 3) := by decide +kernel
theorem dX7_init_102 : decode cX7_init 102 = .ok (.aload_n 0, 1) := by decide +kernel
theorem dX7_init_103 : decode cX7_init 103 = .ok (.iconst 2, 1) := by decide +kernel
theorem dX7_init_104 : decode cX7_init 104 = .ok (.newarray .int, 2) := by decide +kernel
theorem dX7_init_106 : decode cX7_init 106 = .ok (.putfield 50, 3) := by decide +kernel
theorem dX7_init_109 : decode cX7_init 109 = .ok (.aload_n 0, 1) := by decide +kernel
theorem dX7_init_110 : decode cX7_init 110 = .ok (.bipush 27, 2) := by decide +kernel
theorem dX7_init_112 : decode cX7_init 112 = .ok (.newarray .int, 2) := by decide +kernel
theorem dX7_init_114 : decode cX7_init 114 = .ok (.putfield 53, 3) := by decide +kernel
theorem dX7_init_117 : decode cX7_init 117 = .ok (.aload_n 0, 1) := by decide +kernel
theorem dX7_init_118 : decode cX7_init 118 = .ok (.bipush 27, 2) := by decide +kernel
theorem dX7_init_120 : decode cX7_init 120 = .ok (.newarray .int, 2) := by decide +kernel
theorem dX7_init_122 : decode cX7_init 122 = .ok (.putfield 56, 3) := by decide +kernel
theorem dX7_init_125 : decode cX7_init 125 = .ok (.aload_n 0, 1) := by decide +kernel
theorem dX7_init_126 : decode cX7_init 126 = .ok (.bipush 6, 2) := by decide +kernel
theorem dX7_init_128 : decode cX7_init 128 = .ok (.newarray .int, 2) := by decide +kernel
theorem dX7_init_130 : decode cX7_init 130 = .ok (.putfield 59, 3) := by decide +kernel
theorem dX7_init_133 : decode cX7_init 133 = .ok (.aload_n 0, 1) := by decide +kernel
theorem dX7_init_134 : decode cX7_init 134 = .ok (.sipush 810, 3) := by decide +kernel
theorem dX7_init_137 : decode cX7_init 137 = .ok (.newarray .int, 2) := by decide +kernel
theorem dX7_init_139 : decode cX7_init 139 = .ok (.putfield 62, 3) := by decide +kernel
theorem dX7_init_142 : decode cX7_init 142 = .ok (.aload_n 0, 1) := by decide +kernel
theorem dX7_init_143 : decode cX7_init 143 = .ok (.bipush 6, 2) := by decide +kernel
theorem dX7_init_145 : decode cX7_init 145 = .ok (.newarray .int, 2) := by decide +kernel
theorem dX7_init_147 : decode cX7_init 147 = .ok (.putfield 65, 3) := by decide +kernel
theorem dX7_init_150 : decode cX7_init 150 = .ok (.aload_n 0, 1) := by decide +kernel
theorem dX7_init_151 : decode cX7_init 151 = .ok (.bipush 18, 2) := by decide +kernel
theorem dX7_init_153 : decode cX7_init 153 = .ok (.newarray .int, 2) := by decide +kernel
theorem dX7_init_155 : decode cX7_init 155 = .ok (.putfield 68, 3) := by decide +kernel
theorem dX7_init_158 : decode cX7_init 158 = .ok (.aload_n 0, 1) := by decide +kernel
theorem dX7_init_159 : decode cX7_init 159 = .ok (.bipush 40, 2) := by decide +kernel
theorem dX7_init_161 : decode cX7_init 161 = .ok (.newarray .int, 2) := by decide +kernel
theorem dX7_init_163 : decode cX7_init 163 = .ok (.putfield 71, 3) := by decide +kernel
theorem dX7_init_166 : decode cX7_init 166 = .ok (.aload_n 0, 1) := by decide +kernel
theorem dX7_init_167 : decode cX7_init 167 = .ok (.iconst 2, 1) := by decide +kernel
theorem dX7_init_168 : decode cX7_init 168 = .ok (.newarray .boolean, 2) := by decide +kernel
theorem dX7_init_170 : decode cX7_init 170 = .ok (.putfield 74, 3) := by decide +kernel
theorem dX7_init_173 : decode cX7_init 173 = .ok (.aload_n 0, 1) := by decide +kernel
theorem dX7_init_174 : decode cX7_init 174 = .ok (.bipush 54, 2) := by decide +kernel
theorem dX7_init_176 : decode cX7_init 176 = .ok (.newarray .int, 2) := by decide +kernel
theorem dX7_init_178 : decode cX7_init 178 = .ok (.putfield 78, 3) := by decide +kernel
theorem dX7_init_181 : decode cX7_init 181 = .ok (.aload_n 0, 1) := by decide +kernel
theorem dX7_init_182 : decode cX7_init 182 = .ok (.iconst 2, 1) := by decide +kernel
theorem dX7_init_183 : decode cX7_init 183 = .ok (.newarray .long, 2) := by decide +kernel
theorem dX7_init_185 : decode cX7_init 185 = .ok (.putfield 81, 3) := by decide +kernel
theorem dX7_init_188 : decode cX7_init 188 = .ok (.aload_n 0, 1) := by decide +kernel
theorem dX7_init_189 : decode cX7_init 189 = .ok (.getfield 47, 3) := by decide +kernel
theorem dX7_init_192 : decode cX7_init 192 = .ok (.iconst 0, 1) := by decide +kernel
theorem dX7_init_193 : decode cX7_init 193 = .ok (.bipush 127, 2) := by decide +kernel
theorem dX7_init_195 : decode cX7_init 195 = .ok (.iastore, 1) := by decide +kernel
theorem dX7_init_196 : decode cX7_init 196 = .ok (.aload_n 0, 1) := by decide +kernel
theorem dX7_init_197 : decode cX7_init 197 = .ok (.getfield 47, 3) := by decide +kernel
theorem dX7_init_200 : decode cX7_init 200 = .ok (.iconst 1, 1) := by decide +kernel
theorem dX7_init_201 : decode cX7_init 201 = .ok (.bipush 127, 2) := by decide +kernel
theorem dX7_init_203 : decode cX7_init 203 = .ok (.iastore, 1) := by decide +kernel
theorem dX7_init_204 : decode cX7_init 204 = .ok (.return_, 1) := by decide +kernel
theorem dX7_in_0 : decode cX7_in 0 = .ok (.iload_n 0, 1) := by decide +kernel
theorem dX7_in_1 : decode cX7_in 1 = .ok (.iload_n 1, 1) := by decide +kernel
theorem dX7_in_2 : decode cX7_in 2 = .ok (.if_icmp .lt 12, 3) := by decide +kernel
theorem dX7_in_5 : decode cX7_in 5 = .ok (.iload_n 0, 1) := by decide +kernel
theorem dX7_in_6 : decode cX7_in 6 = .ok (.iload_n 2, 1) := by decide +kernel
theorem dX7_in_7 : decode cX7_in 7 = .ok (.if_icmp .gt 7, 3) := by decide +kernel
theorem dX7_in_10 : decode cX7_in 10 = .ok (.iconst 1, 1) := by decide +kernel
theorem dX7_in_11 : decode cX7_in 11 = .ok (.goto 4, 3) := by decide +kernel
theorem dX7_in_14 : decode cX7_in 14 = .ok (.iconst 0, 1) := by decide +kernel
theorem dX7_in_15 : decode cX7_in 15 = .ok (.ireturn, 1) := by decide +kernel
theorem dX7_has_0 : decode cX7_has 0 = .ok (.iload_n 0, 1) := by decide +kernel
theorem dX7_has_1 : decode cX7_has 1 = .ok (.iload_n 1, 1) := by decide +kernel
theorem dX7_has_2 : decode cX7_has 2 = .ok (.ishr, 1) := by decide +kernel
theorem dX7_has_3 : decode cX7_has 3 = .ok (.iconst 1, 1) := by decide +kernel
theorem dX7_has_4 : decode cX7_has 4 = .ok (.iand, 1) := by decide +kernel
theorem dX7_has_5 : decode cX7_has 5 = .ok (.iconst 1, 1) := by decide +kernel
theorem dX7_has_6 : decode cX7_has 6 = .ok (.if_icmp .ne 7, 3) := by decide +kernel
theorem dX7_has_9 : decode cX7_has 9 = .ok (.iconst 1, 1) := by decide +kernel
theorem dX7_has_10 : decode cX7_has 10 = .ok (.goto 4, 3) := by decide +kernel
theorem dX7_has_13 : decode cX7_has 13 = .ok (.iconst 0, 1) := by decide +kernel
theorem dX7_has_14 : decode cX7_has 14 = .ok (.ireturn, 1) := by decide +kernel
theorem dX7_feed_0 : decode cX7_feed 0 = .ok (.iload_n 1, 1) := by decide +kernel
theorem dX7_feed_1 : decode cX7_feed 1 = .ok (.iconst 0, 1) := by decide +kernel
theorem dX7_feed_2 : decode cX7_feed 2 = .ok (.sipush 255, 3) := by decide +kernel
theorem dX7_feed_5 : decode cX7_feed 5 = .ok (.invokestatic 85, 3) := by decide +kernel
theorem dX7_feed_8 : decode cX7_feed 8 = .ok (.ifCond .ne 6, 3) := by decide +kernel
theorem dX7_feed_11 : decode cX7_feed 11 = .ok (.ldc 89, 2) := by decide +kernel
theorem dX7_feed_13 : decode cX7_feed 13 = .ok (.ireturn, 1) := by decide +kernel
theorem dX7_feed_14 : decode cX7_feed 14 = .ok (.aload_n 0, 1) := by decide +kernel
theorem dX7_feed_15 : decode cX7_feed 15 = .ok (.getfield 90, 3) := by decide +kernel
theorem dX7_feed_18 : decode cX7_feed 18 = .ok (.sipush 240, 3) := by decide +kernel
theorem dX7_feed_21 : decode cX7_feed 21 = .ok (.if_icmp .ne 6, 3) := by decide +kernel
theorem dX7_feed_24 : decode cX7_feed 24 = .ok (.ldc 93, 2) := by decide +kernel
theorem dX7_feed_26 : decode cX7_feed 26 = .ok (.ireturn, 1) := by decide +kernel
theorem dX7_feed_27 : decode cX7_feed 27 = .ok (.aload_n 0, 1) := by decide +kernel
theorem dX7_feed_28 : decode cX7_feed 28 = .ok (.getfield 7, 3) := by decide +kernel
theorem dX7_feed_31 : decode cX7_feed 31 = .ok (.aload_n 0, 1) := by decide +kernel
theorem dX7_feed_32 : decode cX7_feed 32 = .ok (.getfield 90, 3) := by decide +kernel
theorem dX7_feed_35 : decode cX7_feed 35 = .ok (.iload_n 1, 1) := by decide +kernel
theorem dX7_feed_36 : decode cX7_feed 36 = .ok (.iastore, 1) := by decide +kernel
theorem dX7_feed_37 : decode cX7_feed 37 = .ok (.aload_n 0, 1) := by decide +kernel
theorem dX7_feed_38 : decode cX7_feed 38 = .ok (.dup, 1) := by decide +kernel
theorem dX7_feed_39 : decode cX7_feed 39 = .ok (.getfield 90, 3) := by decide +kernel
theorem dX7_feed_42 : decode cX7_feed 42 = .ok (.iconst 1, 1) := by decide +kernel
theorem dX7_feed_43 : decode cX7_feed 43 = .ok (.iadd, 1) := by decide +kernel
theorem dX7_feed_44 : decode cX7_feed 44 = .ok (.putfield 90, 3) := by decide +kernel
theorem dX7_feed_47 : decode cX7_feed 47 = .ok (.aload_n 0, 1) := by decide +kernel
theorem dX7_feed_48 : decode cX7_feed 48 = .ok (.getfield 90, 3) := by decide +kernel
theorem dX7_feed_51 : decode cX7_feed 51 = .ok (.ireturn, 1) := by decide +kernel
theorem dX7_fault_0 : decode cX7_fault 0 = .ok (.aload_n 0, 1) := by decide +kernel
theorem dX7_fault_1 : decode cX7_fault 1 = .ok (.getfield 13, 3) := by decide +kernel
theorem dX7_fault_4 : decode cX7_fault 4 = .ok (.ireturn, 1) := by decide +kernel
theorem dX7_letterAt_0 : decode cX7_letterAt 0 = .ok (.iload_n 1, 1) := by decide +kernel
theorem dX7_letterAt_1 : decode cX7_letterAt 1 = .ok (.aload_n 0, 1) := by decide +kernel
theorem dX7_letterAt_2 : decode cX7_letterAt 2 = .ok (.getfield 90, 3) := by decide +kernel
theorem dX7_letterAt_5 : decode cX7_letterAt 5 = .ok (.if_icmp .ge 12, 3) := by decide +kernel
theorem dX7_letterAt_8 : decode cX7_letterAt 8 = .ok (.aload_n 0, 1) := by decide +kernel
theorem dX7_letterAt_9 : decode cX7_letterAt 9 = .ok (.getfield 7, 3) := by decide +kernel
theorem dX7_letterAt_12 : decode cX7_letterAt 12 = .ok (.iload_n 1, 1) := by decide +kernel
theorem dX7_letterAt_13 : decode cX7_letterAt 13 = .ok (.iaload, 1) := by decide +kernel
theorem dX7_letterAt_14 : decode cX7_letterAt 14 = .ok (.goto 4, 3) := by decide +kernel
theorem dX7_letterAt_17 : decode cX7_letterAt 17 = .ok (.iconst (-1), 1) := by decide +kernel
theorem dX7_letterAt_18 : decode cX7_letterAt 18 = .ok (.ireturn, 1) := by decide +kernel
theorem dX7_blanks_0 : decode cX7_blanks 0 = .ok (.aload_n 0, 1) := by decide +kernel
theorem dX7_blanks_1 : decode cX7_blanks 1 = .ok (.aload_n 0, 1) := by decide +kernel
theorem dX7_blanks_2 : decode cX7_blanks 2 = .ok (.getfield 94, 3) := by decide +kernel
theorem dX7_blanks_5 : decode cX7_blanks 5 = .ok (.invokevirtual 97, 3) := by decide +kernel
theorem dX7_blanks_8 : decode cX7_blanks 8 = .ok (.bipush 32, 2) := by decide +kernel
theorem dX7_blanks_10 : decode cX7_blanks 10 = .ok (.if_icmp .ne 16, 3) := by decide +kernel
theorem dX7_blanks_13 : decode cX7_blanks 13 = .ok (.aload_n 0, 1) := by decide +kernel
theorem dX7_blanks_14 : decode cX7_blanks 14 = .ok (.dup, 1) := by decide +kernel
theorem dX7_blanks_15 : decode cX7_blanks 15 = .ok (.getfield 94, 3) := by decide +kernel
theorem dX7_blanks_18 : decode cX7_blanks 18 = .ok (.iconst 1, 1) := by decide +kernel
theorem dX7_blanks_19 : decode cX7_blanks 19 = .ok (.iadd, 1) := by decide +kernel
theorem dX7_blanks_20 : decode cX7_blanks 20 = .ok (.putfield 94, 3) := by decide +kernel
theorem dX7_blanks_23 : decode cX7_blanks 23 = .ok (.goto (-23), 3) := by decide +kernel
theorem dX7_blanks_26 : decode cX7_blanks 26 = .ok (.return_, 1) := by decide +kernel
theorem dX7_fails_0 : decode cX7_fails 0 = .ok (.aload_n 0, 1) := by decide +kernel
theorem dX7_fails_1 : decode cX7_fails 1 = .ok (.iload_n 1, 1) := by decide +kernel
theorem dX7_fails_2 : decode cX7_fails 2 = .ok (.putfield 101, 3) := by decide +kernel
theorem dX7_fails_5 : decode cX7_fails 5 = .ok (.iconst 0, 1) := by decide +kernel
theorem dX7_fails_6 : decode cX7_fails 6 = .ok (.ireturn, 1) := by decide +kernel
theorem dX7_number_0 : decode cX7_number 0 = .ok (.aload_n 0, 1) := by decide +kernel
theorem dX7_number_1 : decode cX7_number 1 = .ok (.invokevirtual 104, 3) := by decide +kernel
theorem dX7_number_4 : decode cX7_number 4 = .ok (.aload_n 0, 1) := by decide +kernel
theorem dX7_number_5 : decode cX7_number 5 = .ok (.getfield 94, 3) := by decide +kernel
theorem dX7_number_8 : decode cX7_number 8 = .ok (.istore_n 3, 1) := by decide +kernel
theorem dX7_number_9 : decode cX7_number 9 = .ok (.iconst 0, 1) := by decide +kernel
theorem dX7_number_10 : decode cX7_number 10 = .ok (.istore 4, 2) := by decide +kernel
theorem dX7_number_12 : decode cX7_number 12 = .ok (.aload_n 0, 1) := by decide +kernel
theorem dX7_number_13 : decode cX7_number 13 = .ok (.iload_n 3, 1) := by decide +kernel
theorem dX7_number_14 : decode cX7_number 14 = .ok (.invokevirtual 97, 3) := by decide +kernel
theorem dX7_number_17 : decode cX7_number 17 = .ok (.bipush 48, 2) := by decide +kernel
theorem dX7_number_19 : decode cX7_number 19 = .ok (.bipush 57, 2) := by decide +kernel
theorem dX7_number_21 : decode cX7_number 21 = .ok (.invokestatic 85, 3) := by decide +kernel
theorem dX7_number_24 : decode cX7_number 24 = .ok (.ifCond .eq 40, 3) := by decide +kernel
theorem dX7_number_27 : decode cX7_number 27 = .ok (.iload_n 3, 1) := by decide +kernel
theorem dX7_number_28 : decode cX7_number 28 = .ok (.aload_n 0, 1) := by decide +kernel
theorem dX7_number_29 : decode cX7_number 29 = .ok (.getfield 94, 3) := by decide +kernel
theorem dX7_number_32 : decode cX7_number 32 = .ok (.isub, 1) := by decide +kernel
theorem dX7_number_33 : decode cX7_number 33 = .ok (.iconst 3, 1) := by decide +kernel
theorem dX7_number_34 : decode cX7_number 34 = .ok (.if_icmp .ge 20, 3) := by decide +kernel
theorem dX7_number_37 : decode cX7_number 37 = .ok (.bipush 10, 2) := by decide +kernel
theorem dX7_number_39 : decode cX7_number 39 = .ok (.iload 4, 2) := by decide +kernel
theorem dX7_number_41 : decode cX7_number 41 = .ok (.imul, 1) := by decide +kernel
theorem dX7_number_42 : decode cX7_number 42 = .ok (.aload_n 0, 1) := by decide +kernel
theorem dX7_number_43 : decode cX7_number 43 = .ok (.iload_n 3, 1) := by decide +kernel
theorem dX7_number_44 : decode cX7_number 44 = .ok (.invokevirtual 97, 3) := by decide +kernel
theorem dX7_number_47 : decode cX7_number 47 = .ok (.iadd, 1) := by decide +kernel
theorem dX7_number_48 : decode cX7_number 48 = .ok (.bipush 48, 2) := by decide +kernel
theorem dX7_number_50 : decode cX7_number 50 = .ok (.isub, 1) := by decide +kernel
theorem dX7_number_51 : decode cX7_number 51 = .ok (.goto 5, 3) := by decide +kernel
theorem dX7_number_54 : decode cX7_number 54 = .ok (.iload 4, 2) := by decide +kernel
theorem dX7_number_56 : decode cX7_number 56 = .ok (.istore 4, 2) := by decide +kernel
theorem dX7_number_58 : decode cX7_number 58 = .ok (.iinc 3 1, 3) := by decide +kernel
theorem dX7_number_61 : decode cX7_number 61 = .ok (.goto (-49), 3) := by decide +kernel
theorem dX7_number_64 : decode cX7_number 64 = .ok (.iload_n 3, 1) := by decide +kernel
theorem dX7_number_65 : decode cX7_number 65 = .ok (.aload_n 0, 1) := by decide +kernel
theorem dX7_number_66 : decode cX7_number 66 = .ok (.getfield 94, 3) := by decide +kernel
theorem dX7_number_69 : decode cX7_number 69 = .ok (.isub, 1) := by decide +kernel
theorem dX7_number_70 : decode cX7_number 70 = .ok (.istore 5, 2) := by decide +kernel
theorem dX7_number_72 : decode cX7_number 72 = .ok (.iload 5, 2) := by decide +kernel
theorem dX7_number_74 : decode cX7_number 74 = .ok (.ifCond .eq 19, 3) := by decide +kernel
theorem dX7_number_77 : decode cX7_number 77 = .ok (.iload 5, 2) := by decide +kernel
theorem dX7_number_79 : decode cX7_number 79 = .ok (.iconst 3, 1) := by decide +kernel
theorem dX7_number_80 : decode cX7_number 80 = .ok (.if_icmp .gt 13, 3) := by decide +kernel
theorem dX7_number_83 : decode cX7_number 83 = .ok (.iload 4, 2) := by decide +kernel
theorem dX7_number_85 : decode cX7_number 85 = .ok (.iload_n 1, 1) := by decide +kernel
theorem dX7_number_86 : decode cX7_number 86 = .ok (.iload_n 2, 1) := by decide +kernel
theorem dX7_number_87 : decode cX7_number 87 = .ok (.invokestatic 85, 3) := by decide +kernel
theorem dX7_number_90 : decode cX7_number 90 = .ok (.ifCond .ne 20, 3) := by decide +kernel
theorem dX7_number_93 : decode cX7_number 93 = .ok (.aload_n 0, 1) := by decide +kernel
theorem dX7_number_94 : decode cX7_number 94 = .ok (.iload 5, 2) := by decide +kernel
theorem dX7_number_96 : decode cX7_number 96 = .ok (.ifCond .ne 7, 3) := by decide +kernel
theorem dX7_number_99 : decode cX7_number 99 = .ok (.iconst 1, 1) := by decide +kernel
theorem dX7_number_100 : decode cX7_number 100 = .ok (.goto 4, 3) := by decide +kernel
theorem dX7_number_103 : decode cX7_number 103 = .ok (.iconst 2, 1) := by decide +kernel
theorem dX7_number_104 : decode cX7_number 104 = .ok (.invokevirtual 107, 3) := by decide +kernel
theorem dX7_number_107 : decode cX7_number 107 = .ok (.pop, 1) := by decide +kernel
theorem dX7_number_108 : decode cX7_number 108 = .ok (.iconst (-1), 1) := by decide +kernel
theorem dX7_number_109 : decode cX7_number 109 = .ok (.ireturn, 1) := by decide +kernel
theorem dX7_number_110 : decode cX7_number 110 = .ok (.aload_n 0, 1) := by decide +kernel
theorem dX7_number_111 : decode cX7_number 111 = .ok (.iload_n 3, 1) := by decide +kernel
theorem dX7_number_112 : decode cX7_number 112 = .ok (.putfield 94, 3) := by decide +kernel
theorem dX7_number_115 : decode cX7_number 115 = .ok (.iload 4, 2) := by decide +kernel
theorem dX7_number_117 : decode cX7_number 117 = .ok (.ireturn, 1) := by decide +kernel
theorem dX7_ends_0 : decode cX7_ends 0 = .ok (.aload_n 0, 1) := by decide +kernel
theorem dX7_ends_1 : decode cX7_ends 1 = .ok (.invokevirtual 104, 3) := by decide +kernel
theorem dX7_ends_4 : decode cX7_ends 4 = .ok (.aload_n 0, 1) := by decide +kernel
theorem dX7_ends_5 : decode cX7_ends 5 = .ok (.aload_n 0, 1) := by decide +kernel
theorem dX7_ends_6 : decode cX7_ends 6 = .ok (.getfield 94, 3) := by decide +kernel
theorem dX7_ends_9 : decode cX7_ends 9 = .ok (.invokevirtual 97, 3) := by decide +kernel
theorem dX7_ends_12 : decode cX7_ends 12 = .ok (.bipush 59, 2) := by decide +kernel
theorem dX7_ends_14 : decode cX7_ends 14 = .ok (.if_icmp .eq 9, 3) := by decide +kernel
theorem dX7_ends_17 : decode cX7_ends 17 = .ok (.aload_n 0, 1) := by decide +kernel
theorem dX7_ends_18 : decode cX7_ends 18 = .ok (.iconst 1, 1) := by decide +kernel
theorem dX7_ends_19 : decode cX7_ends 19 = .ok (.invokevirtual 107, 3) := by decide +kernel
theorem dX7_ends_22 : decode cX7_ends 22 = .ok (.ireturn, 1) := by decide +kernel
theorem dX7_ends_23 : decode cX7_ends 23 = .ok (.aload_n 0, 1) := by decide +kernel
theorem dX7_ends_24 : decode cX7_ends 24 = .ok (.dup, 1) := by decide +kernel
theorem dX7_ends_25 : decode cX7_ends 25 = .ok (.getfield 94, 3) := by decide +kernel
theorem dX7_ends_28 : decode cX7_ends 28 = .ok (.iconst 1, 1) := by decide +kernel
theorem dX7_ends_29 : decode cX7_ends 29 = .ok (.iadd, 1) := by decide +kernel
theorem dX7_ends_30 : decode cX7_ends 30 = .ok (.putfield 94, 3) := by decide +kernel
theorem dX7_ends_33 : decode cX7_ends 33 = .ok (.iconst 1, 1) := by decide +kernel
theorem dX7_ends_34 : decode cX7_ends 34 = .ok (.ireturn, 1) := by decide +kernel
theorem dX7_reads2_0 : decode cX7_reads2 0 = .ok (.aload_n 1, 1) := by decide +kernel
theorem dX7_reads2_1 : decode cX7_reads2 1 = .ok (.iload_n 2, 1) := by decide +kernel
theorem dX7_reads2_2 : decode cX7_reads2 2 = .ok (.aload_n 0, 1) := by decide +kernel
theorem dX7_reads2_3 : decode cX7_reads2 3 = .ok (.iload_n 3, 1) := by decide +kernel
theorem dX7_reads2_4 : decode cX7_reads2 4 = .ok (.iload 4, 2) := by decide +kernel
theorem dX7_reads2_6 : decode cX7_reads2 6 = .ok (.invokevirtual 111, 3) := by decide +kernel
theorem dX7_reads2_9 : decode cX7_reads2 9 = .ok (.iastore, 1) := by decide +kernel
theorem dX7_reads2_10 : decode cX7_reads2 10 = .ok (.aload_n 1, 1) := by decide +kernel
theorem dX7_reads2_11 : decode cX7_reads2 11 = .ok (.iload_n 2, 1) := by decide +kernel
theorem dX7_reads2_12 : decode cX7_reads2 12 = .ok (.iaload, 1) := by decide +kernel
theorem dX7_reads2_13 : decode cX7_reads2 13 = .ok (.ifCond .ge 5, 3) := by decide +kernel
theorem dX7_reads2_16 : decode cX7_reads2 16 = .ok (.iconst 0, 1) := by decide +kernel
theorem dX7_reads2_17 : decode cX7_reads2 17 = .ok (.ireturn, 1) := by decide +kernel
theorem dX7_reads2_18 : decode cX7_reads2 18 = .ok (.aload_n 1, 1) := by decide +kernel
theorem dX7_reads2_19 : decode cX7_reads2 19 = .ok (.iload_n 2, 1) := by decide +kernel
theorem dX7_reads2_20 : decode cX7_reads2 20 = .ok (.iconst 1, 1) := by decide +kernel
theorem dX7_reads2_21 : decode cX7_reads2 21 = .ok (.iadd, 1) := by decide +kernel
theorem dX7_reads2_22 : decode cX7_reads2 22 = .ok (.aload_n 0, 1) := by decide +kernel
theorem dX7_reads2_23 : decode cX7_reads2 23 = .ok (.iload 5, 2) := by decide +kernel
theorem dX7_reads2_25 : decode cX7_reads2 25 = .ok (.iload 6, 2) := by decide +kernel
theorem dX7_reads2_27 : decode cX7_reads2 27 = .ok (.invokevirtual 111, 3) := by decide +kernel
theorem dX7_reads2_30 : decode cX7_reads2 30 = .ok (.iastore, 1) := by decide +kernel
theorem dX7_reads2_31 : decode cX7_reads2 31 = .ok (.aload_n 1, 1) := by decide +kernel
theorem dX7_reads2_32 : decode cX7_reads2 32 = .ok (.iload_n 2, 1) := by decide +kernel
theorem dX7_reads2_33 : decode cX7_reads2 33 = .ok (.iconst 1, 1) := by decide +kernel
theorem dX7_reads2_34 : decode cX7_reads2 34 = .ok (.iadd, 1) := by decide +kernel
theorem dX7_reads2_35 : decode cX7_reads2 35 = .ok (.iaload, 1) := by decide +kernel
theorem dX7_reads2_36 : decode cX7_reads2 36 = .ok (.ifCond .lt 7, 3) := by decide +kernel
theorem dX7_reads2_39 : decode cX7_reads2 39 = .ok (.iconst 1, 1) := by decide +kernel
theorem dX7_reads2_40 : decode cX7_reads2 40 = .ok (.goto 4, 3) := by decide +kernel
theorem dX7_reads2_43 : decode cX7_reads2 43 = .ok (.iconst 0, 1) := by decide +kernel
theorem dX7_reads2_44 : decode cX7_reads2 44 = .ok (.ireturn, 1) := by decide +kernel
theorem dX7_readsHead_0 : decode cX7_readsHead 0 = .ok (.aload_n 0, 1) := by decide +kernel
theorem dX7_readsHead_1 : decode cX7_readsHead 1 = .ok (.dup, 1) := by decide +kernel
theorem dX7_readsHead_2 : decode cX7_readsHead 2 = .ok (.getfield 94, 3) := by decide +kernel
theorem dX7_readsHead_5 : decode cX7_readsHead 5 = .ok (.iconst 1, 1) := by decide +kernel
theorem dX7_readsHead_6 : decode cX7_readsHead 6 = .ok (.iadd, 1) := by decide +kernel
theorem dX7_readsHead_7 : decode cX7_readsHead 7 = .ok (.putfield 94, 3) := by decide +kernel
theorem dX7_readsHead_10 : decode cX7_readsHead 10 = .ok (.aload_n 0, 1) := by decide +kernel
theorem dX7_readsHead_11 : decode cX7_readsHead 11 = .ok (.aload_n 0, 1) := by decide +kernel
theorem dX7_readsHead_12 : decode cX7_readsHead 12 = .ok (.getfield 17, 3) := by decide +kernel
theorem dX7_readsHead_15 : decode cX7_readsHead 15 = .ok (.iconst 0, 1) := by decide +kernel
theorem dX7_readsHead_16 : decode cX7_readsHead 16 = .ok (.iconst 1, 1) := by decide +kernel
theorem dX7_readsHead_17 : decode cX7_readsHead 17 = .ok (.bipush 12, 2) := by decide +kernel
theorem dX7_readsHead_19 : decode cX7_readsHead 19 = .ok (.iconst 0, 1) := by decide +kernel
theorem dX7_readsHead_20 : decode cX7_readsHead 20 = .ok (.bipush 20, 2) := by decide +kernel
theorem dX7_readsHead_22 : decode cX7_readsHead 22 = .ok (.invokevirtual 115, 3) := by decide +kernel
theorem dX7_readsHead_25 : decode cX7_readsHead 25 = .ok (.ifCond .eq 14, 3) := by decide +kernel
theorem dX7_readsHead_28 : decode cX7_readsHead 28 = .ok (.aload_n 0, 1) := by decide +kernel
theorem dX7_readsHead_29 : decode cX7_readsHead 29 = .ok (.invokevirtual 119, 3) := by decide +kernel
theorem dX7_readsHead_32 : decode cX7_readsHead 32 = .ok (.ifCond .eq 7, 3) := by decide +kernel
theorem dX7_readsHead_35 : decode cX7_readsHead 35 = .ok (.iconst 1, 1) := by decide +kernel
theorem dX7_readsHead_36 : decode cX7_readsHead 36 = .ok (.goto 4, 3) := by decide +kernel
theorem dX7_readsHead_39 : decode cX7_readsHead 39 = .ok (.iconst 0, 1) := by decide +kernel
theorem dX7_readsHead_40 : decode cX7_readsHead 40 = .ok (.ireturn, 1) := by decide +kernel
theorem dX7_readsHour_0 : decode cX7_readsHour 0 = .ok (.aload_n 0, 1) := by decide +kernel
theorem dX7_readsHour_1 : decode cX7_readsHour 1 = .ok (.getfield 123, 3) := by decide +kernel
theorem dX7_readsHour_4 : decode cX7_readsHour 4 = .ok (.bipush 12, 2) := by decide +kernel
theorem dX7_readsHour_6 : decode cX7_readsHour 6 = .ok (.if_icmp .ne 9, 3) := by decide +kernel
theorem dX7_readsHour_9 : decode cX7_readsHour 9 = .ok (.aload_n 0, 1) := by decide +kernel
theorem dX7_readsHour_10 : decode cX7_readsHour 10 = .ok (.iconst 3, 1) := by decide +kernel
theorem dX7_readsHour_11 : decode cX7_readsHour 11 = .ok (.invokevirtual 107, 3) := by decide +kernel
theorem dX7_readsHour_14 : decode cX7_readsHour 14 = .ok (.ireturn, 1) := by decide +kernel
theorem dX7_readsHour_15 : decode cX7_readsHour 15 = .ok (.aload_n 0, 1) := by decide +kernel
theorem dX7_readsHour_16 : decode cX7_readsHour 16 = .ok (.dup, 1) := by decide +kernel
theorem dX7_readsHour_17 : decode cX7_readsHour 17 = .ok (.getfield 94, 3) := by decide +kernel
theorem dX7_readsHour_20 : decode cX7_readsHour 20 = .ok (.iconst 1, 1) := by decide +kernel
theorem dX7_readsHour_21 : decode cX7_readsHour 21 = .ok (.iadd, 1) := by decide +kernel
theorem dX7_readsHour_22 : decode cX7_readsHour 22 = .ok (.putfield 94, 3) := by decide +kernel
theorem dX7_readsHour_25 : decode cX7_readsHour 25 = .ok (.aload_n 0, 1) := by decide +kernel
theorem dX7_readsHour_26 : decode cX7_readsHour 26 = .ok (.aload_n 0, 1) := by decide +kernel
theorem dX7_readsHour_27 : decode cX7_readsHour 27 = .ok (.getfield 26, 3) := by decide +kernel
theorem dX7_readsHour_30 : decode cX7_readsHour 30 = .ok (.iconst 2, 1) := by decide +kernel
theorem dX7_readsHour_31 : decode cX7_readsHour 31 = .ok (.aload_n 0, 1) := by decide +kernel
theorem dX7_readsHour_32 : decode cX7_readsHour 32 = .ok (.getfield 123, 3) := by decide +kernel
theorem dX7_readsHour_35 : decode cX7_readsHour 35 = .ok (.imul, 1) := by decide +kernel
theorem dX7_readsHour_36 : decode cX7_readsHour 36 = .ok (.iconst 0, 1) := by decide +kernel
theorem dX7_readsHour_37 : decode cX7_readsHour 37 = .ok (.iconst 1, 1) := by decide +kernel
theorem dX7_readsHour_38 : decode cX7_readsHour 38 = .ok (.iconst 0, 1) := by decide +kernel
theorem dX7_readsHour_39 : decode cX7_readsHour 39 = .ok (.bipush 40, 2) := by decide +kernel
theorem dX7_readsHour_41 : decode cX7_readsHour 41 = .ok (.invokevirtual 115, 3) := by decide +kernel
theorem dX7_readsHour_44 : decode cX7_readsHour 44 = .ok (.ifCond .ne 5, 3) := by decide +kernel
theorem dX7_readsHour_47 : decode cX7_readsHour 47 = .ok (.iconst 0, 1) := by decide +kernel
theorem dX7_readsHour_48 : decode cX7_readsHour 48 = .ok (.ireturn, 1) := by decide +kernel
theorem dX7_readsHour_49 : decode cX7_readsHour 49 = .ok (.aload_n 0, 1) := by decide +kernel
theorem dX7_readsHour_50 : decode cX7_readsHour 50 = .ok (.dup, 1) := by decide +kernel
theorem dX7_readsHour_51 : decode cX7_readsHour 51 = .ok (.getfield 123, 3) := by decide +kernel
theorem dX7_readsHour_54 : decode cX7_readsHour 54 = .ok (.iconst 1, 1) := by decide +kernel
theorem dX7_readsHour_55 : decode cX7_readsHour 55 = .ok (.iadd, 1) := by decide +kernel
theorem dX7_readsHour_56 : decode cX7_readsHour 56 = .ok (.putfield 123, 3) := by decide +kernel
theorem dX7_readsHour_59 : decode cX7_readsHour 59 = .ok (.aload_n 0, 1) := by decide +kernel
theorem dX7_readsHour_60 : decode cX7_readsHour 60 = .ok (.invokevirtual 119, 3) := by decide +kernel
theorem dX7_readsHour_63 : decode cX7_readsHour 63 = .ok (.ireturn, 1) := by decide +kernel
theorem dX7_isTaken_0 : decode cX7_isTaken 0 = .ok (.iconst 0, 1) := by decide +kernel
theorem dX7_isTaken_1 : decode cX7_isTaken 1 = .ok (.istore_n 2, 1) := by decide +kernel
theorem dX7_isTaken_2 : decode cX7_isTaken 2 = .ok (.iconst 0, 1) := by decide +kernel
theorem dX7_isTaken_3 : decode cX7_isTaken 3 = .ok (.istore_n 3, 1) := by decide +kernel
theorem dX7_isTaken_4 : decode cX7_isTaken 4 = .ok (.iload_n 3, 1) := by decide +kernel
theorem dX7_isTaken_5 : decode cX7_isTaken 5 = .ok (.aload_n 0, 1) := by decide +kernel
theorem dX7_isTaken_6 : decode cX7_isTaken 6 = .ok (.getfield 126, 3) := by decide +kernel
theorem dX7_isTaken_9 : decode cX7_isTaken 9 = .ok (.if_icmp .ge 31, 3) := by decide +kernel
theorem dX7_isTaken_12 : decode cX7_isTaken 12 = .ok (.iload_n 2, 1) := by decide +kernel
theorem dX7_isTaken_13 : decode cX7_isTaken 13 = .ok (.ifCond .ne 15, 3) := by decide +kernel
theorem dX7_isTaken_16 : decode cX7_isTaken 16 = .ok (.aload_n 0, 1) := by decide +kernel
theorem dX7_isTaken_17 : decode cX7_isTaken 17 = .ok (.getfield 29, 3) := by decide +kernel
theorem dX7_isTaken_20 : decode cX7_isTaken 20 = .ok (.iconst 4, 1) := by decide +kernel
theorem dX7_isTaken_21 : decode cX7_isTaken 21 = .ok (.iload_n 3, 1) := by decide +kernel
theorem dX7_isTaken_22 : decode cX7_isTaken 22 = .ok (.imul, 1) := by decide +kernel
theorem dX7_isTaken_23 : decode cX7_isTaken 23 = .ok (.iaload, 1) := by decide +kernel
theorem dX7_isTaken_24 : decode cX7_isTaken 24 = .ok (.iload_n 1, 1) := by decide +kernel
theorem dX7_isTaken_25 : decode cX7_isTaken 25 = .ok (.if_icmp .ne 7, 3) := by decide +kernel
theorem dX7_isTaken_28 : decode cX7_isTaken 28 = .ok (.iconst 1, 1) := by decide +kernel
theorem dX7_isTaken_29 : decode cX7_isTaken 29 = .ok (.goto 4, 3) := by decide +kernel
theorem dX7_isTaken_32 : decode cX7_isTaken 32 = .ok (.iconst 0, 1) := by decide +kernel
theorem dX7_isTaken_33 : decode cX7_isTaken 33 = .ok (.istore_n 2, 1) := by decide +kernel
theorem dX7_isTaken_34 : decode cX7_isTaken 34 = .ok (.iinc 3 1, 3) := by decide +kernel
theorem dX7_isTaken_37 : decode cX7_isTaken 37 = .ok (.goto (-33), 3) := by decide +kernel
theorem dX7_isTaken_40 : decode cX7_isTaken 40 = .ok (.iload_n 2, 1) := by decide +kernel
theorem dX7_isTaken_41 : decode cX7_isTaken 41 = .ok (.ireturn, 1) := by decide +kernel
theorem dX7_readsPost_0 : decode cX7_readsPost 0 = .ok (.aload_n 0, 1) := by decide +kernel
theorem dX7_readsPost_1 : decode cX7_readsPost 1 = .ok (.getfield 126, 3) := by decide +kernel
theorem dX7_readsPost_4 : decode cX7_readsPost 4 = .ok (.bipush 6, 2) := by decide +kernel
theorem dX7_readsPost_6 : decode cX7_readsPost 6 = .ok (.if_icmp .ne 9, 3) := by decide +kernel
theorem dX7_readsPost_9 : decode cX7_readsPost 9 = .ok (.aload_n 0, 1) := by decide +kernel
theorem dX7_readsPost_10 : decode cX7_readsPost 10 = .ok (.iconst 3, 1) := by decide +kernel
theorem dX7_readsPost_11 : decode cX7_readsPost 11 = .ok (.invokevirtual 107, 3) := by decide +kernel
theorem dX7_readsPost_14 : decode cX7_readsPost 14 = .ok (.ireturn, 1) := by decide +kernel
theorem dX7_readsPost_15 : decode cX7_readsPost 15 = .ok (.aload_n 0, 1) := by decide +kernel
theorem dX7_readsPost_16 : decode cX7_readsPost 16 = .ok (.dup, 1) := by decide +kernel
theorem dX7_readsPost_17 : decode cX7_readsPost 17 = .ok (.getfield 94, 3) := by decide +kernel
theorem dX7_readsPost_20 : decode cX7_readsPost 20 = .ok (.iconst 1, 1) := by decide +kernel
theorem dX7_readsPost_21 : decode cX7_readsPost 21 = .ok (.iadd, 1) := by decide +kernel
theorem dX7_readsPost_22 : decode cX7_readsPost 22 = .ok (.putfield 94, 3) := by decide +kernel
theorem dX7_readsPost_25 : decode cX7_readsPost 25 = .ok (.aload_n 0, 1) := by decide +kernel
theorem dX7_readsPost_26 : decode cX7_readsPost 26 = .ok (.invokevirtual 104, 3) := by decide +kernel
theorem dX7_readsPost_29 : decode cX7_readsPost 29 = .ok (.aload_n 0, 1) := by decide +kernel
theorem dX7_readsPost_30 : decode cX7_readsPost 30 = .ok (.getfield 94, 3) := by decide +kernel
theorem dX7_readsPost_33 : decode cX7_readsPost 33 = .ok (.istore_n 1, 1) := by decide +kernel
theorem dX7_readsPost_34 : decode cX7_readsPost 34 = .ok (.iconst 4, 1) := by decide +kernel
theorem dX7_readsPost_35 : decode cX7_readsPost 35 = .ok (.aload_n 0, 1) := by decide +kernel
theorem dX7_readsPost_36 : decode cX7_readsPost 36 = .ok (.getfield 126, 3) := by decide +kernel
theorem dX7_readsPost_39 : decode cX7_readsPost 39 = .ok (.imul, 1) := by decide +kernel
theorem dX7_readsPost_40 : decode cX7_readsPost 40 = .ok (.istore_n 2, 1) := by decide +kernel
theorem dX7_readsPost_41 : decode cX7_readsPost 41 = .ok (.aload_n 0, 1) := by decide +kernel
theorem dX7_readsPost_42 : decode cX7_readsPost 42 = .ok (.iconst 0, 1) := by decide +kernel
theorem dX7_readsPost_43 : decode cX7_readsPost 43 = .ok (.aload_n 0, 1) := by decide +kernel
theorem dX7_readsPost_44 : decode cX7_readsPost 44 = .ok (.getfield 17, 3) := by decide +kernel
theorem dX7_readsPost_47 : decode cX7_readsPost 47 = .ok (.iconst 0, 1) := by decide +kernel
theorem dX7_readsPost_48 : decode cX7_readsPost 48 = .ok (.iaload, 1) := by decide +kernel
theorem dX7_readsPost_49 : decode cX7_readsPost 49 = .ok (.iconst 1, 1) := by decide +kernel
theorem dX7_readsPost_50 : decode cX7_readsPost 50 = .ok (.isub, 1) := by decide +kernel
theorem dX7_readsPost_51 : decode cX7_readsPost 51 = .ok (.invokevirtual 111, 3) := by decide +kernel
theorem dX7_readsPost_54 : decode cX7_readsPost 54 = .ok (.istore_n 3, 1) := by decide +kernel
theorem dX7_readsPost_55 : decode cX7_readsPost 55 = .ok (.iload_n 3, 1) := by decide +kernel
theorem dX7_readsPost_56 : decode cX7_readsPost 56 = .ok (.ifCond .ge 5, 3) := by decide +kernel
theorem dX7_readsPost_59 : decode cX7_readsPost 59 = .ok (.iconst 0, 1) := by decide +kernel
theorem dX7_readsPost_60 : decode cX7_readsPost 60 = .ok (.ireturn, 1) := by decide +kernel
theorem dX7_readsPost_61 : decode cX7_readsPost 61 = .ok (.aload_n 0, 1) := by decide +kernel
theorem dX7_readsPost_62 : decode cX7_readsPost 62 = .ok (.iload_n 3, 1) := by decide +kernel
theorem dX7_readsPost_63 : decode cX7_readsPost 63 = .ok (.invokevirtual 129, 3) := by decide +kernel
theorem dX7_readsPost_66 : decode cX7_readsPost 66 = .ok (.ifCond .eq 14, 3) := by decide +kernel
theorem dX7_readsPost_69 : decode cX7_readsPost 69 = .ok (.aload_n 0, 1) := by decide +kernel
theorem dX7_readsPost_70 : decode cX7_readsPost 70 = .ok (.iload_n 1, 1) := by decide +kernel
theorem dX7_readsPost_71 : decode cX7_readsPost 71 = .ok (.putfield 94, 3) := by decide +kernel
theorem dX7_readsPost_74 : decode cX7_readsPost 74 = .ok (.aload_n 0, 1) := by decide +kernel
theorem dX7_readsPost_75 : decode cX7_readsPost 75 = .ok (.iconst 4, 1) := by decide +kernel
theorem dX7_readsPost_76 : decode cX7_readsPost 76 = .ok (.invokevirtual 107, 3) := by decide +kernel
theorem dX7_readsPost_79 : decode cX7_readsPost 79 = .ok (.ireturn, 1) := by decide +kernel
theorem dX7_readsPost_80 : decode cX7_readsPost 80 = .ok (.aload_n 0, 1) := by decide +kernel
theorem dX7_readsPost_81 : decode cX7_readsPost 81 = .ok (.getfield 29, 3) := by decide +kernel
theorem dX7_readsPost_84 : decode cX7_readsPost 84 = .ok (.iload_n 2, 1) := by decide +kernel
theorem dX7_readsPost_85 : decode cX7_readsPost 85 = .ok (.iload_n 3, 1) := by decide +kernel
theorem dX7_readsPost_86 : decode cX7_readsPost 86 = .ok (.iastore, 1) := by decide +kernel
theorem dX7_readsPost_87 : decode cX7_readsPost 87 = .ok (.aload_n 0, 1) := by decide +kernel
theorem dX7_readsPost_88 : decode cX7_readsPost 88 = .ok (.getfield 29, 3) := by decide +kernel
theorem dX7_readsPost_91 : decode cX7_readsPost 91 = .ok (.iload_n 2, 1) := by decide +kernel
theorem dX7_readsPost_92 : decode cX7_readsPost 92 = .ok (.iconst 1, 1) := by decide +kernel
theorem dX7_readsPost_93 : decode cX7_readsPost 93 = .ok (.iadd, 1) := by decide +kernel
theorem dX7_readsPost_94 : decode cX7_readsPost 94 = .ok (.aload_n 0, 1) := by decide +kernel
theorem dX7_readsPost_95 : decode cX7_readsPost 95 = .ok (.iconst 0, 1) := by decide +kernel
theorem dX7_readsPost_96 : decode cX7_readsPost 96 = .ok (.bipush 9, 2) := by decide +kernel
theorem dX7_readsPost_98 : decode cX7_readsPost 98 = .ok (.invokevirtual 111, 3) := by decide +kernel
theorem dX7_readsPost_101 : decode cX7_readsPost 101 = .ok (.iastore, 1) := by decide +kernel
theorem dX7_readsPost_102 : decode cX7_readsPost 102 = .ok (.aload_n 0, 1) := by decide +kernel
theorem dX7_readsPost_103 : decode cX7_readsPost 103 = .ok (.getfield 29, 3) := by decide +kernel
theorem dX7_readsPost_106 : decode cX7_readsPost 106 = .ok (.iload_n 2, 1) := by decide +kernel
theorem dX7_readsPost_107 : decode cX7_readsPost 107 = .ok (.iconst 1, 1) := by decide +kernel
theorem dX7_readsPost_108 : decode cX7_readsPost 108 = .ok (.iadd, 1) := by decide +kernel
theorem dX7_readsPost_109 : decode cX7_readsPost 109 = .ok (.iaload, 1) := by decide +kernel
theorem dX7_readsPost_110 : decode cX7_readsPost 110 = .ok (.ifCond .lt 22, 3) := by decide +kernel
theorem dX7_readsPost_113 : decode cX7_readsPost 113 = .ok (.aload_n 0, 1) := by decide +kernel
theorem dX7_readsPost_114 : decode cX7_readsPost 114 = .ok (.aload_n 0, 1) := by decide +kernel
theorem dX7_readsPost_115 : decode cX7_readsPost 115 = .ok (.getfield 29, 3) := by decide +kernel
theorem dX7_readsPost_118 : decode cX7_readsPost 118 = .ok (.iload_n 2, 1) := by decide +kernel
theorem dX7_readsPost_119 : decode cX7_readsPost 119 = .ok (.iconst 2, 1) := by decide +kernel
theorem dX7_readsPost_120 : decode cX7_readsPost 120 = .ok (.iadd, 1) := by decide +kernel
theorem dX7_readsPost_121 : decode cX7_readsPost 121 = .ok (.iconst 1, 1) := by decide +kernel
theorem dX7_readsPost_122 : decode cX7_readsPost 122 = .ok (.bipush 99, 2) := by decide +kernel
theorem dX7_readsPost_124 : decode cX7_readsPost 124 = .ok (.iconst 0, 1) := by decide +kernel
theorem dX7_readsPost_125 : decode cX7_readsPost 125 = .ok (.iconst 1, 1) := by decide +kernel
theorem dX7_readsPost_126 : decode cX7_readsPost 126 = .ok (.invokevirtual 115, 3) := by decide +kernel
theorem dX7_readsPost_129 : decode cX7_readsPost 129 = .ok (.ifCond .ne 5, 3) := by decide +kernel
theorem dX7_readsPost_132 : decode cX7_readsPost 132 = .ok (.iconst 0, 1) := by decide +kernel
theorem dX7_readsPost_133 : decode cX7_readsPost 133 = .ok (.ireturn, 1) := by decide +kernel
theorem dX7_readsPost_134 : decode cX7_readsPost 134 = .ok (.aload_n 0, 1) := by decide +kernel
theorem dX7_readsPost_135 : decode cX7_readsPost 135 = .ok (.dup, 1) := by decide +kernel
theorem dX7_readsPost_136 : decode cX7_readsPost 136 = .ok (.getfield 126, 3) := by decide +kernel
theorem dX7_readsPost_139 : decode cX7_readsPost 139 = .ok (.iconst 1, 1) := by decide +kernel
theorem dX7_readsPost_140 : decode cX7_readsPost 140 = .ok (.iadd, 1) := by decide +kernel
theorem dX7_readsPost_141 : decode cX7_readsPost 141 = .ok (.putfield 126, 3) := by decide +kernel
theorem dX7_readsPost_144 : decode cX7_readsPost 144 = .ok (.aload_n 0, 1) := by decide +kernel
theorem dX7_readsPost_145 : decode cX7_readsPost 145 = .ok (.invokevirtual 119, 3) := by decide +kernel
theorem dX7_readsPost_148 : decode cX7_readsPost 148 = .ok (.ireturn, 1) := by decide +kernel
theorem dX7_readsGoat_0 : decode cX7_readsGoat 0 = .ok (.aload_n 0, 1) := by decide +kernel
theorem dX7_readsGoat_1 : decode cX7_readsGoat 1 = .ok (.getfield 132, 3) := by decide +kernel
theorem dX7_readsGoat_4 : decode cX7_readsGoat 4 = .ok (.iconst 4, 1) := by decide +kernel
theorem dX7_readsGoat_5 : decode cX7_readsGoat 5 = .ok (.if_icmp .ne 9, 3) := by decide +kernel
theorem dX7_readsGoat_8 : decode cX7_readsGoat 8 = .ok (.aload_n 0, 1) := by decide +kernel
theorem dX7_readsGoat_9 : decode cX7_readsGoat 9 = .ok (.iconst 3, 1) := by decide +kernel
theorem dX7_readsGoat_10 : decode cX7_readsGoat 10 = .ok (.invokevirtual 107, 3) := by decide +kernel
theorem dX7_readsGoat_13 : decode cX7_readsGoat 13 = .ok (.ireturn, 1) := by decide +kernel
theorem dX7_readsGoat_14 : decode cX7_readsGoat 14 = .ok (.aload_n 0, 1) := by decide +kernel
theorem dX7_readsGoat_15 : decode cX7_readsGoat 15 = .ok (.dup, 1) := by decide +kernel
theorem dX7_readsGoat_16 : decode cX7_readsGoat 16 = .ok (.getfield 94, 3) := by decide +kernel
theorem dX7_readsGoat_19 : decode cX7_readsGoat 19 = .ok (.iconst 1, 1) := by decide +kernel
theorem dX7_readsGoat_20 : decode cX7_readsGoat 20 = .ok (.iadd, 1) := by decide +kernel
theorem dX7_readsGoat_21 : decode cX7_readsGoat 21 = .ok (.putfield 94, 3) := by decide +kernel
theorem dX7_readsGoat_24 : decode cX7_readsGoat 24 = .ok (.aload_n 0, 1) := by decide +kernel
theorem dX7_readsGoat_25 : decode cX7_readsGoat 25 = .ok (.aload_n 0, 1) := by decide +kernel
theorem dX7_readsGoat_26 : decode cX7_readsGoat 26 = .ok (.getfield 32, 3) := by decide +kernel
theorem dX7_readsGoat_29 : decode cX7_readsGoat 29 = .ok (.iconst 2, 1) := by decide +kernel
theorem dX7_readsGoat_30 : decode cX7_readsGoat 30 = .ok (.aload_n 0, 1) := by decide +kernel
theorem dX7_readsGoat_31 : decode cX7_readsGoat 31 = .ok (.getfield 132, 3) := by decide +kernel
theorem dX7_readsGoat_34 : decode cX7_readsGoat 34 = .ok (.imul, 1) := by decide +kernel
theorem dX7_readsGoat_35 : decode cX7_readsGoat 35 = .ok (.iconst 0, 1) := by decide +kernel
theorem dX7_readsGoat_36 : decode cX7_readsGoat 36 = .ok (.aload_n 0, 1) := by decide +kernel
theorem dX7_readsGoat_37 : decode cX7_readsGoat 37 = .ok (.getfield 17, 3) := by decide +kernel
theorem dX7_readsGoat_40 : decode cX7_readsGoat 40 = .ok (.iconst 0, 1) := by decide +kernel
theorem dX7_readsGoat_41 : decode cX7_readsGoat 41 = .ok (.iaload, 1) := by decide +kernel
theorem dX7_readsGoat_42 : decode cX7_readsGoat 42 = .ok (.iconst 1, 1) := by decide +kernel
theorem dX7_readsGoat_43 : decode cX7_readsGoat 43 = .ok (.isub, 1) := by decide +kernel
theorem dX7_readsGoat_44 : decode cX7_readsGoat 44 = .ok (.iconst 1, 1) := by decide +kernel
theorem dX7_readsGoat_45 : decode cX7_readsGoat 45 = .ok (.bipush 20, 2) := by decide +kernel
theorem dX7_readsGoat_47 : decode cX7_readsGoat 47 = .ok (.invokevirtual 115, 3) := by decide +kernel
theorem dX7_readsGoat_50 : decode cX7_readsGoat 50 = .ok (.ifCond .ne 5, 3) := by decide +kernel
theorem dX7_readsGoat_53 : decode cX7_readsGoat 53 = .ok (.iconst 0, 1) := by decide +kernel
theorem dX7_readsGoat_54 : decode cX7_readsGoat 54 = .ok (.ireturn, 1) := by decide +kernel
theorem dX7_readsGoat_55 : decode cX7_readsGoat 55 = .ok (.aload_n 0, 1) := by decide +kernel
theorem dX7_readsGoat_56 : decode cX7_readsGoat 56 = .ok (.dup, 1) := by decide +kernel
theorem dX7_readsGoat_57 : decode cX7_readsGoat 57 = .ok (.getfield 132, 3) := by decide +kernel
theorem dX7_readsGoat_60 : decode cX7_readsGoat 60 = .ok (.iconst 1, 1) := by decide +kernel
theorem dX7_readsGoat_61 : decode cX7_readsGoat 61 = .ok (.iadd, 1) := by decide +kernel
theorem dX7_readsGoat_62 : decode cX7_readsGoat 62 = .ok (.putfield 132, 3) := by decide +kernel
theorem dX7_readsGoat_65 : decode cX7_readsGoat 65 = .ok (.aload_n 0, 1) := by decide +kernel
theorem dX7_readsGoat_66 : decode cX7_readsGoat 66 = .ok (.invokevirtual 119, 3) := by decide +kernel
theorem dX7_readsGoat_69 : decode cX7_readsGoat 69 = .ok (.ireturn, 1) := by decide +kernel
theorem dX7_readsDays_0 : decode cX7_readsDays 0 = .ok (.aload_n 0, 1) := by decide +kernel
theorem dX7_readsDays_1 : decode cX7_readsDays 1 = .ok (.getfield 135, 3) := by decide +kernel
theorem dX7_readsDays_4 : decode cX7_readsDays 4 = .ok (.ifCond .eq 9, 3) := by decide +kernel
theorem dX7_readsDays_7 : decode cX7_readsDays 7 = .ok (.aload_n 0, 1) := by decide +kernel
theorem dX7_readsDays_8 : decode cX7_readsDays 8 = .ok (.iconst 3, 1) := by decide +kernel
theorem dX7_readsDays_9 : decode cX7_readsDays 9 = .ok (.invokevirtual 107, 3) := by decide +kernel
theorem dX7_readsDays_12 : decode cX7_readsDays 12 = .ok (.ireturn, 1) := by decide +kernel
theorem dX7_readsDays_13 : decode cX7_readsDays 13 = .ok (.aload_n 0, 1) := by decide +kernel
theorem dX7_readsDays_14 : decode cX7_readsDays 14 = .ok (.dup, 1) := by decide +kernel
theorem dX7_readsDays_15 : decode cX7_readsDays 15 = .ok (.getfield 94, 3) := by decide +kernel
theorem dX7_readsDays_18 : decode cX7_readsDays 18 = .ok (.iconst 1, 1) := by decide +kernel
theorem dX7_readsDays_19 : decode cX7_readsDays 19 = .ok (.iadd, 1) := by decide +kernel
theorem dX7_readsDays_20 : decode cX7_readsDays 20 = .ok (.putfield 94, 3) := by decide +kernel
theorem dX7_readsDays_23 : decode cX7_readsDays 23 = .ok (.aload_n 0, 1) := by decide +kernel
theorem dX7_readsDays_24 : decode cX7_readsDays 24 = .ok (.iconst 1, 1) := by decide +kernel
theorem dX7_readsDays_25 : decode cX7_readsDays 25 = .ok (.putfield 135, 3) := by decide +kernel
theorem dX7_readsDays_28 : decode cX7_readsDays 28 = .ok (.aload_n 0, 1) := by decide +kernel
theorem dX7_readsDays_29 : decode cX7_readsDays 29 = .ok (.aload_n 0, 1) := by decide +kernel
theorem dX7_readsDays_30 : decode cX7_readsDays 30 = .ok (.getfield 20, 3) := by decide +kernel
theorem dX7_readsDays_33 : decode cX7_readsDays 33 = .ok (.iconst 0, 1) := by decide +kernel
theorem dX7_readsDays_34 : decode cX7_readsDays 34 = .ok (.iconst 0, 1) := by decide +kernel
theorem dX7_readsDays_35 : decode cX7_readsDays 35 = .ok (.bipush 127, 2) := by decide +kernel
theorem dX7_readsDays_37 : decode cX7_readsDays 37 = .ok (.iconst 0, 1) := by decide +kernel
theorem dX7_readsDays_38 : decode cX7_readsDays 38 = .ok (.bipush 127, 2) := by decide +kernel
theorem dX7_readsDays_40 : decode cX7_readsDays 40 = .ok (.invokevirtual 115, 3) := by decide +kernel
theorem dX7_readsDays_43 : decode cX7_readsDays 43 = .ok (.ifCond .eq 14, 3) := by decide +kernel
theorem dX7_readsDays_46 : decode cX7_readsDays 46 = .ok (.aload_n 0, 1) := by decide +kernel
theorem dX7_readsDays_47 : decode cX7_readsDays 47 = .ok (.invokevirtual 119, 3) := by decide +kernel
theorem dX7_readsDays_50 : decode cX7_readsDays 50 = .ok (.ifCond .eq 7, 3) := by decide +kernel
theorem dX7_readsDays_53 : decode cX7_readsDays 53 = .ok (.iconst 1, 1) := by decide +kernel
theorem dX7_readsDays_54 : decode cX7_readsDays 54 = .ok (.goto 4, 3) := by decide +kernel
theorem dX7_readsDays_57 : decode cX7_readsDays 57 = .ok (.iconst 0, 1) := by decide +kernel
theorem dX7_readsDays_58 : decode cX7_readsDays 58 = .ok (.ireturn, 1) := by decide +kernel
theorem dX7_readsUse_0 : decode cX7_readsUse 0 = .ok (.aload_n 0, 1) := by decide +kernel
theorem dX7_readsUse_1 : decode cX7_readsUse 1 = .ok (.getfield 139, 3) := by decide +kernel
theorem dX7_readsUse_4 : decode cX7_readsUse 4 = .ok (.ifCond .eq 9, 3) := by decide +kernel
theorem dX7_readsUse_7 : decode cX7_readsUse 7 = .ok (.aload_n 0, 1) := by decide +kernel
theorem dX7_readsUse_8 : decode cX7_readsUse 8 = .ok (.iconst 3, 1) := by decide +kernel
theorem dX7_readsUse_9 : decode cX7_readsUse 9 = .ok (.invokevirtual 107, 3) := by decide +kernel
theorem dX7_readsUse_12 : decode cX7_readsUse 12 = .ok (.ireturn, 1) := by decide +kernel
theorem dX7_readsUse_13 : decode cX7_readsUse 13 = .ok (.aload_n 0, 1) := by decide +kernel
theorem dX7_readsUse_14 : decode cX7_readsUse 14 = .ok (.dup, 1) := by decide +kernel
theorem dX7_readsUse_15 : decode cX7_readsUse 15 = .ok (.getfield 94, 3) := by decide +kernel
theorem dX7_readsUse_18 : decode cX7_readsUse 18 = .ok (.iconst 1, 1) := by decide +kernel
theorem dX7_readsUse_19 : decode cX7_readsUse 19 = .ok (.iadd, 1) := by decide +kernel
theorem dX7_readsUse_20 : decode cX7_readsUse 20 = .ok (.putfield 94, 3) := by decide +kernel
theorem dX7_readsUse_23 : decode cX7_readsUse 23 = .ok (.aload_n 0, 1) := by decide +kernel
theorem dX7_readsUse_24 : decode cX7_readsUse 24 = .ok (.iconst 1, 1) := by decide +kernel
theorem dX7_readsUse_25 : decode cX7_readsUse 25 = .ok (.putfield 139, 3) := by decide +kernel
theorem dX7_readsUse_28 : decode cX7_readsUse 28 = .ok (.aload_n 0, 1) := by decide +kernel
theorem dX7_readsUse_29 : decode cX7_readsUse 29 = .ok (.aload_n 0, 1) := by decide +kernel
theorem dX7_readsUse_30 : decode cX7_readsUse 30 = .ok (.getfield 23, 3) := by decide +kernel
theorem dX7_readsUse_33 : decode cX7_readsUse 33 = .ok (.iconst 0, 1) := by decide +kernel
theorem dX7_readsUse_34 : decode cX7_readsUse 34 = .ok (.iconst 0, 1) := by decide +kernel
theorem dX7_readsUse_35 : decode cX7_readsUse 35 = .ok (.bipush 99, 2) := by decide +kernel
theorem dX7_readsUse_37 : decode cX7_readsUse 37 = .ok (.iconst 0, 1) := by decide +kernel
theorem dX7_readsUse_38 : decode cX7_readsUse 38 = .ok (.bipush 99, 2) := by decide +kernel
theorem dX7_readsUse_40 : decode cX7_readsUse 40 = .ok (.invokevirtual 115, 3) := by decide +kernel
theorem dX7_readsUse_43 : decode cX7_readsUse 43 = .ok (.ifCond .eq 14, 3) := by decide +kernel
theorem dX7_readsUse_46 : decode cX7_readsUse 46 = .ok (.aload_n 0, 1) := by decide +kernel
theorem dX7_readsUse_47 : decode cX7_readsUse 47 = .ok (.invokevirtual 119, 3) := by decide +kernel
theorem dX7_readsUse_50 : decode cX7_readsUse 50 = .ok (.ifCond .eq 7, 3) := by decide +kernel
theorem dX7_readsUse_53 : decode cX7_readsUse 53 = .ok (.iconst 1, 1) := by decide +kernel
theorem dX7_readsUse_54 : decode cX7_readsUse 54 = .ok (.goto 4, 3) := by decide +kernel
theorem dX7_readsUse_57 : decode cX7_readsUse 57 = .ok (.iconst 0, 1) := by decide +kernel
theorem dX7_readsUse_58 : decode cX7_readsUse 58 = .ok (.ireturn, 1) := by decide +kernel
theorem dX7_readsClause_0 : decode cX7_readsClause 0 = .ok (.aload_n 0, 1) := by decide +kernel
theorem dX7_readsClause_1 : decode cX7_readsClause 1 = .ok (.aload_n 0, 1) := by decide +kernel
theorem dX7_readsClause_2 : decode cX7_readsClause 2 = .ok (.getfield 94, 3) := by decide +kernel
theorem dX7_readsClause_5 : decode cX7_readsClause 5 = .ok (.invokevirtual 97, 3) := by decide +kernel
theorem dX7_readsClause_8 : decode cX7_readsClause 8 = .ok (.istore_n 2, 1) := by decide +kernel
theorem dX7_readsClause_9 : decode cX7_readsClause 9 = .ok (.iload_n 1, 1) := by decide +kernel
theorem dX7_readsClause_10 : decode cX7_readsClause 10 = .ok (.ifCond .eq 22, 3) := by decide +kernel
theorem dX7_readsClause_13 : decode cX7_readsClause 13 = .ok (.iload_n 2, 1) := by decide +kernel
theorem dX7_readsClause_14 : decode cX7_readsClause 14 = .ok (.bipush 102, 2) := by decide +kernel
theorem dX7_readsClause_16 : decode cX7_readsClause 16 = .ok (.if_icmp .ne 10, 3) := by decide +kernel
theorem dX7_readsClause_19 : decode cX7_readsClause 19 = .ok (.aload_n 0, 1) := by decide +kernel
theorem dX7_readsClause_20 : decode cX7_readsClause 20 = .ok (.invokevirtual 142, 3) := by decide +kernel
theorem dX7_readsClause_23 : decode cX7_readsClause 23 = .ok (.goto 8, 3) := by decide +kernel
theorem dX7_readsClause_26 : decode cX7_readsClause 26 = .ok (.aload_n 0, 1) := by decide +kernel
theorem dX7_readsClause_27 : decode cX7_readsClause 27 = .ok (.iconst 1, 1) := by decide +kernel
theorem dX7_readsClause_28 : decode cX7_readsClause 28 = .ok (.invokevirtual 107, 3) := by decide +kernel
theorem dX7_readsClause_31 : decode cX7_readsClause 31 = .ok (.ireturn, 1) := by decide +kernel
theorem dX7_readsClause_32 : decode cX7_readsClause 32 = .ok (.iload_n 2, 1) := by decide +kernel
theorem dX7_readsClause_33 : decode cX7_readsClause 33 = .ok (.tableswitch 118 100 117 #[103, 118, 87, 113, 93, 118, 118, 118, 118, 118, 118, 118, 98, 118, 118, 118, 118, 108], 87) := by decide +kernel
theorem dX7_readsClause_120 : decode cX7_readsClause 120 = .ok (.aload_n 0, 1) := by decide +kernel
theorem dX7_readsClause_121 : decode cX7_readsClause 121 = .ok (.iconst 3, 1) := by decide +kernel
theorem dX7_readsClause_122 : decode cX7_readsClause 122 = .ok (.invokevirtual 107, 3) := by decide +kernel
theorem dX7_readsClause_125 : decode cX7_readsClause 125 = .ok (.ireturn, 1) := by decide +kernel
theorem dX7_readsClause_126 : decode cX7_readsClause 126 = .ok (.aload_n 0, 1) := by decide +kernel
theorem dX7_readsClause_127 : decode cX7_readsClause 127 = .ok (.invokevirtual 145, 3) := by decide +kernel
theorem dX7_readsClause_130 : decode cX7_readsClause 130 = .ok (.ireturn, 1) := by decide +kernel
theorem dX7_readsClause_131 : decode cX7_readsClause 131 = .ok (.aload_n 0, 1) := by decide +kernel
theorem dX7_readsClause_132 : decode cX7_readsClause 132 = .ok (.invokevirtual 148, 3) := by decide +kernel
theorem dX7_readsClause_135 : decode cX7_readsClause 135 = .ok (.ireturn, 1) := by decide +kernel
theorem dX7_readsClause_136 : decode cX7_readsClause 136 = .ok (.aload_n 0, 1) := by decide +kernel
theorem dX7_readsClause_137 : decode cX7_readsClause 137 = .ok (.invokevirtual 151, 3) := by decide +kernel
theorem dX7_readsClause_140 : decode cX7_readsClause 140 = .ok (.ireturn, 1) := by decide +kernel
theorem dX7_readsClause_141 : decode cX7_readsClause 141 = .ok (.aload_n 0, 1) := by decide +kernel
theorem dX7_readsClause_142 : decode cX7_readsClause 142 = .ok (.invokevirtual 154, 3) := by decide +kernel
theorem dX7_readsClause_145 : decode cX7_readsClause 145 = .ok (.ireturn, 1) := by decide +kernel
theorem dX7_readsClause_146 : decode cX7_readsClause 146 = .ok (.aload_n 0, 1) := by decide +kernel
theorem dX7_readsClause_147 : decode cX7_readsClause 147 = .ok (.invokevirtual 157, 3) := by decide +kernel
theorem dX7_readsClause_150 : decode cX7_readsClause 150 = .ok (.ireturn, 1) := by decide +kernel
theorem dX7_readsClause_151 : decode cX7_readsClause 151 = .ok (.aload_n 0, 1) := by decide +kernel
theorem dX7_readsClause_152 : decode cX7_readsClause 152 = .ok (.iconst 1, 1) := by decide +kernel
theorem dX7_readsClause_153 : decode cX7_readsClause 153 = .ok (.invokevirtual 107, 3) := by decide +kernel
theorem dX7_readsClause_156 : decode cX7_readsClause 156 = .ok (.ireturn, 1) := by decide +kernel
theorem dX7_reads_0 : decode cX7_reads 0 = .ok (.iconst 1, 1) := by decide +kernel
theorem dX7_reads_1 : decode cX7_reads 1 = .ok (.istore_n 1, 1) := by decide +kernel
theorem dX7_reads_2 : decode cX7_reads 2 = .ok (.aload_n 0, 1) := by decide +kernel
theorem dX7_reads_3 : decode cX7_reads 3 = .ok (.iconst 0, 1) := by decide +kernel
theorem dX7_reads_4 : decode cX7_reads 4 = .ok (.putfield 94, 3) := by decide +kernel
theorem dX7_reads_7 : decode cX7_reads 7 = .ok (.aload_n 0, 1) := by decide +kernel
theorem dX7_reads_8 : decode cX7_reads 8 = .ok (.iconst 0, 1) := by decide +kernel
theorem dX7_reads_9 : decode cX7_reads 9 = .ok (.putfield 126, 3) := by decide +kernel
theorem dX7_reads_12 : decode cX7_reads 12 = .ok (.aload_n 0, 1) := by decide +kernel
theorem dX7_reads_13 : decode cX7_reads 13 = .ok (.iconst 0, 1) := by decide +kernel
theorem dX7_reads_14 : decode cX7_reads 14 = .ok (.putfield 123, 3) := by decide +kernel
theorem dX7_reads_17 : decode cX7_reads 17 = .ok (.aload_n 0, 1) := by decide +kernel
theorem dX7_reads_18 : decode cX7_reads 18 = .ok (.iconst 0, 1) := by decide +kernel
theorem dX7_reads_19 : decode cX7_reads 19 = .ok (.putfield 132, 3) := by decide +kernel
theorem dX7_reads_22 : decode cX7_reads 22 = .ok (.aload_n 0, 1) := by decide +kernel
theorem dX7_reads_23 : decode cX7_reads 23 = .ok (.iconst 0, 1) := by decide +kernel
theorem dX7_reads_24 : decode cX7_reads 24 = .ok (.putfield 135, 3) := by decide +kernel
theorem dX7_reads_27 : decode cX7_reads 27 = .ok (.aload_n 0, 1) := by decide +kernel
theorem dX7_reads_28 : decode cX7_reads 28 = .ok (.iconst 0, 1) := by decide +kernel
theorem dX7_reads_29 : decode cX7_reads 29 = .ok (.putfield 139, 3) := by decide +kernel
theorem dX7_reads_32 : decode cX7_reads 32 = .ok (.iconst 0, 1) := by decide +kernel
theorem dX7_reads_33 : decode cX7_reads 33 = .ok (.istore_n 2, 1) := by decide +kernel
theorem dX7_reads_34 : decode cX7_reads 34 = .ok (.iload_n 2, 1) := by decide +kernel
theorem dX7_reads_35 : decode cX7_reads 35 = .ok (.iconst 2, 1) := by decide +kernel
theorem dX7_reads_36 : decode cX7_reads 36 = .ok (.if_icmp .ge 24, 3) := by decide +kernel
theorem dX7_reads_39 : decode cX7_reads 39 = .ok (.aload_n 0, 1) := by decide +kernel
theorem dX7_reads_40 : decode cX7_reads 40 = .ok (.getfield 20, 3) := by decide +kernel
theorem dX7_reads_43 : decode cX7_reads 43 = .ok (.iload_n 2, 1) := by decide +kernel
theorem dX7_reads_44 : decode cX7_reads 44 = .ok (.bipush 127, 2) := by decide +kernel
theorem dX7_reads_46 : decode cX7_reads 46 = .ok (.iastore, 1) := by decide +kernel
theorem dX7_reads_47 : decode cX7_reads 47 = .ok (.aload_n 0, 1) := by decide +kernel
theorem dX7_reads_48 : decode cX7_reads 48 = .ok (.getfield 23, 3) := by decide +kernel
theorem dX7_reads_51 : decode cX7_reads 51 = .ok (.iload_n 2, 1) := by decide +kernel
theorem dX7_reads_52 : decode cX7_reads 52 = .ok (.iconst 0, 1) := by decide +kernel
theorem dX7_reads_53 : decode cX7_reads 53 = .ok (.iastore, 1) := by decide +kernel
theorem dX7_reads_54 : decode cX7_reads 54 = .ok (.iinc 2 1, 3) := by decide +kernel
theorem dX7_reads_57 : decode cX7_reads 57 = .ok (.goto (-23), 3) := by decide +kernel
theorem dX7_reads_60 : decode cX7_reads 60 = .ok (.aload_n 0, 1) := by decide +kernel
theorem dX7_reads_61 : decode cX7_reads 61 = .ok (.invokevirtual 104, 3) := by decide +kernel
theorem dX7_reads_64 : decode cX7_reads 64 = .ok (.aload_n 0, 1) := by decide +kernel
theorem dX7_reads_65 : decode cX7_reads 65 = .ok (.getfield 94, 3) := by decide +kernel
theorem dX7_reads_68 : decode cX7_reads 68 = .ok (.aload_n 0, 1) := by decide +kernel
theorem dX7_reads_69 : decode cX7_reads 69 = .ok (.getfield 90, 3) := by decide +kernel
theorem dX7_reads_72 : decode cX7_reads 72 = .ok (.if_icmp .ge 22, 3) := by decide +kernel
theorem dX7_reads_75 : decode cX7_reads 75 = .ok (.aload_n 0, 1) := by decide +kernel
theorem dX7_reads_76 : decode cX7_reads 76 = .ok (.iload_n 1, 1) := by decide +kernel
theorem dX7_reads_77 : decode cX7_reads 77 = .ok (.invokevirtual 160, 3) := by decide +kernel
theorem dX7_reads_80 : decode cX7_reads 80 = .ok (.ifCond .ne 5, 3) := by decide +kernel
theorem dX7_reads_83 : decode cX7_reads 83 = .ok (.iconst 0, 1) := by decide +kernel
theorem dX7_reads_84 : decode cX7_reads 84 = .ok (.ireturn, 1) := by decide +kernel
theorem dX7_reads_85 : decode cX7_reads 85 = .ok (.iconst 0, 1) := by decide +kernel
theorem dX7_reads_86 : decode cX7_reads 86 = .ok (.istore_n 1, 1) := by decide +kernel
theorem dX7_reads_87 : decode cX7_reads 87 = .ok (.aload_n 0, 1) := by decide +kernel
theorem dX7_reads_88 : decode cX7_reads 88 = .ok (.invokevirtual 104, 3) := by decide +kernel
theorem dX7_reads_91 : decode cX7_reads 91 = .ok (.goto (-27), 3) := by decide +kernel
theorem dX7_reads_94 : decode cX7_reads 94 = .ok (.aload_n 0, 1) := by decide +kernel
theorem dX7_reads_95 : decode cX7_reads 95 = .ok (.iload_n 1, 1) := by decide +kernel
theorem dX7_reads_96 : decode cX7_reads 96 = .ok (.ifCond .ne 7, 3) := by decide +kernel
theorem dX7_reads_99 : decode cX7_reads 99 = .ok (.iconst 1, 1) := by decide +kernel
theorem dX7_reads_100 : decode cX7_reads 100 = .ok (.goto 4, 3) := by decide +kernel
theorem dX7_reads_103 : decode cX7_reads 103 = .ok (.iconst 0, 1) := by decide +kernel
theorem dX7_reads_104 : decode cX7_reads 104 = .ok (.putfield 164, 3) := by decide +kernel
theorem dX7_reads_107 : decode cX7_reads 107 = .ok (.iconst 1, 1) := by decide +kernel
theorem dX7_reads_108 : decode cX7_reads 108 = .ok (.ireturn, 1) := by decide +kernel
theorem dX7_coast_0 : decode cX7_coast 0 = .ok (.aload_n 0, 1) := by decide +kernel
theorem dX7_coast_1 : decode cX7_coast 1 = .ok (.invokevirtual 167, 3) := by decide +kernel
theorem dX7_coast_4 : decode cX7_coast 4 = .ok (.istore_n 1, 1) := by decide +kernel
theorem dX7_coast_5 : decode cX7_coast 5 = .ok (.aload_n 0, 1) := by decide +kernel
theorem dX7_coast_6 : decode cX7_coast 6 = .ok (.iconst 0, 1) := by decide +kernel
theorem dX7_coast_7 : decode cX7_coast 7 = .ok (.putfield 90, 3) := by decide +kernel
theorem dX7_coast_10 : decode cX7_coast 10 = .ok (.iload_n 1, 1) := by decide +kernel
theorem dX7_coast_11 : decode cX7_coast 11 = .ok (.ifCond .ne 19, 3) := by decide +kernel
theorem dX7_coast_14 : decode cX7_coast 14 = .ok (.aload_n 0, 1) := by decide +kernel
theorem dX7_coast_15 : decode cX7_coast 15 = .ok (.aload_n 0, 1) := by decide +kernel
theorem dX7_coast_16 : decode cX7_coast 16 = .ok (.getfield 94, 3) := by decide +kernel
theorem dX7_coast_19 : decode cX7_coast 19 = .ok (.putfield 13, 3) := by decide +kernel
theorem dX7_coast_22 : decode cX7_coast 22 = .ok (.bipush (-10), 2) := by decide +kernel
theorem dX7_coast_24 : decode cX7_coast 24 = .ok (.aload_n 0, 1) := by decide +kernel
theorem dX7_coast_25 : decode cX7_coast 25 = .ok (.getfield 101, 3) := by decide +kernel
theorem dX7_coast_28 : decode cX7_coast 28 = .ok (.isub, 1) := by decide +kernel
theorem dX7_coast_29 : decode cX7_coast 29 = .ok (.ireturn, 1) := by decide +kernel
theorem dX7_coast_30 : decode cX7_coast 30 = .ok (.aload_n 0, 1) := by decide +kernel
theorem dX7_coast_31 : decode cX7_coast 31 = .ok (.iconst (-1), 1) := by decide +kernel
theorem dX7_coast_32 : decode cX7_coast 32 = .ok (.putfield 13, 3) := by decide +kernel
theorem dX7_coast_35 : decode cX7_coast 35 = .ok (.aload_n 0, 1) := by decide +kernel
theorem dX7_coast_36 : decode cX7_coast 36 = .ok (.aload_n 0, 1) := by decide +kernel
theorem dX7_coast_37 : decode cX7_coast 37 = .ok (.getfield 164, 3) := by decide +kernel
theorem dX7_coast_40 : decode cX7_coast 40 = .ok (.putfield 170, 3) := by decide +kernel
theorem dX7_coast_43 : decode cX7_coast 43 = .ok (.aload_n 0, 1) := by decide +kernel
theorem dX7_coast_44 : decode cX7_coast 44 = .ok (.aload_n 0, 1) := by decide +kernel
theorem dX7_coast_45 : decode cX7_coast 45 = .ok (.getfield 164, 3) := by decide +kernel
theorem dX7_coast_48 : decode cX7_coast 48 = .ok (.ifCond .eq 12, 3) := by decide +kernel
theorem dX7_coast_51 : decode cX7_coast 51 = .ok (.aload_n 0, 1) := by decide +kernel
theorem dX7_coast_52 : decode cX7_coast 52 = .ok (.getfield 17, 3) := by decide +kernel
theorem dX7_coast_55 : decode cX7_coast 55 = .ok (.iconst 0, 1) := by decide +kernel
theorem dX7_coast_56 : decode cX7_coast 56 = .ok (.iaload, 1) := by decide +kernel
theorem dX7_coast_57 : decode cX7_coast 57 = .ok (.goto 4, 3) := by decide +kernel
theorem dX7_coast_60 : decode cX7_coast 60 = .ok (.iconst 0, 1) := by decide +kernel
theorem dX7_coast_61 : decode cX7_coast 61 = .ok (.putfield 173, 3) := by decide +kernel
theorem dX7_coast_64 : decode cX7_coast 64 = .ok (.aload_n 0, 1) := by decide +kernel
theorem dX7_coast_65 : decode cX7_coast 65 = .ok (.aload_n 0, 1) := by decide +kernel
theorem dX7_coast_66 : decode cX7_coast 66 = .ok (.getfield 164, 3) := by decide +kernel
theorem dX7_coast_69 : decode cX7_coast 69 = .ok (.ifCond .eq 12, 3) := by decide +kernel
theorem dX7_coast_72 : decode cX7_coast 72 = .ok (.aload_n 0, 1) := by decide +kernel
theorem dX7_coast_73 : decode cX7_coast 73 = .ok (.getfield 17, 3) := by decide +kernel
theorem dX7_coast_76 : decode cX7_coast 76 = .ok (.iconst 1, 1) := by decide +kernel
theorem dX7_coast_77 : decode cX7_coast 77 = .ok (.iaload, 1) := by decide +kernel
theorem dX7_coast_78 : decode cX7_coast 78 = .ok (.goto 4, 3) := by decide +kernel
theorem dX7_coast_81 : decode cX7_coast 81 = .ok (.iconst 0, 1) := by decide +kernel
theorem dX7_coast_82 : decode cX7_coast 82 = .ok (.putfield 176, 3) := by decide +kernel
theorem dX7_coast_85 : decode cX7_coast 85 = .ok (.aload_n 0, 1) := by decide +kernel
theorem dX7_coast_86 : decode cX7_coast 86 = .ok (.aload_n 0, 1) := by decide +kernel
theorem dX7_coast_87 : decode cX7_coast 87 = .ok (.getfield 164, 3) := by decide +kernel
theorem dX7_coast_90 : decode cX7_coast 90 = .ok (.ifCond .eq 10, 3) := by decide +kernel
theorem dX7_coast_93 : decode cX7_coast 93 = .ok (.aload_n 0, 1) := by decide +kernel
theorem dX7_coast_94 : decode cX7_coast 94 = .ok (.getfield 126, 3) := by decide +kernel
theorem dX7_coast_97 : decode cX7_coast 97 = .ok (.goto 4, 3) := by decide +kernel
theorem dX7_coast_100 : decode cX7_coast 100 = .ok (.iconst 0, 1) := by decide +kernel
theorem dX7_coast_101 : decode cX7_coast 101 = .ok (.putfield 179, 3) := by decide +kernel
theorem dX7_coast_104 : decode cX7_coast 104 = .ok (.aload_n 0, 1) := by decide +kernel
theorem dX7_coast_105 : decode cX7_coast 105 = .ok (.aload_n 0, 1) := by decide +kernel
theorem dX7_coast_106 : decode cX7_coast 106 = .ok (.getfield 164, 3) := by decide +kernel
theorem dX7_coast_109 : decode cX7_coast 109 = .ok (.ifCond .eq 10, 3) := by decide +kernel
theorem dX7_coast_112 : decode cX7_coast 112 = .ok (.aload_n 0, 1) := by decide +kernel
theorem dX7_coast_113 : decode cX7_coast 113 = .ok (.getfield 123, 3) := by decide +kernel
theorem dX7_coast_116 : decode cX7_coast 116 = .ok (.goto 4, 3) := by decide +kernel
theorem dX7_coast_119 : decode cX7_coast 119 = .ok (.iconst 0, 1) := by decide +kernel
theorem dX7_coast_120 : decode cX7_coast 120 = .ok (.putfield 182, 3) := by decide +kernel
theorem dX7_coast_123 : decode cX7_coast 123 = .ok (.aload_n 0, 1) := by decide +kernel
theorem dX7_coast_124 : decode cX7_coast 124 = .ok (.aload_n 0, 1) := by decide +kernel
theorem dX7_coast_125 : decode cX7_coast 125 = .ok (.getfield 164, 3) := by decide +kernel
theorem dX7_coast_128 : decode cX7_coast 128 = .ok (.ifCond .eq 10, 3) := by decide +kernel
theorem dX7_coast_131 : decode cX7_coast 131 = .ok (.aload_n 0, 1) := by decide +kernel
theorem dX7_coast_132 : decode cX7_coast 132 = .ok (.getfield 132, 3) := by decide +kernel
theorem dX7_coast_135 : decode cX7_coast 135 = .ok (.goto 4, 3) := by decide +kernel
theorem dX7_coast_138 : decode cX7_coast 138 = .ok (.iconst 0, 1) := by decide +kernel
theorem dX7_coast_139 : decode cX7_coast 139 = .ok (.putfield 185, 3) := by decide +kernel
theorem dX7_coast_142 : decode cX7_coast 142 = .ok (.iconst 0, 1) := by decide +kernel
theorem dX7_coast_143 : decode cX7_coast 143 = .ok (.istore_n 2, 1) := by decide +kernel
theorem dX7_coast_144 : decode cX7_coast 144 = .ok (.iload_n 2, 1) := by decide +kernel
theorem dX7_coast_145 : decode cX7_coast 145 = .ok (.bipush 24, 2) := by decide +kernel
theorem dX7_coast_147 : decode cX7_coast 147 = .ok (.if_icmp .ge 21, 3) := by decide +kernel
theorem dX7_coast_150 : decode cX7_coast 150 = .ok (.aload_n 0, 1) := by decide +kernel
theorem dX7_coast_151 : decode cX7_coast 151 = .ok (.getfield 35, 3) := by decide +kernel
theorem dX7_coast_154 : decode cX7_coast 154 = .ok (.iload_n 2, 1) := by decide +kernel
theorem dX7_coast_155 : decode cX7_coast 155 = .ok (.aload_n 0, 1) := by decide +kernel
theorem dX7_coast_156 : decode cX7_coast 156 = .ok (.getfield 26, 3) := by decide +kernel
theorem dX7_coast_159 : decode cX7_coast 159 = .ok (.iload_n 2, 1) := by decide +kernel
theorem dX7_coast_160 : decode cX7_coast 160 = .ok (.iaload, 1) := by decide +kernel
theorem dX7_coast_161 : decode cX7_coast 161 = .ok (.iastore, 1) := by decide +kernel
theorem dX7_coast_162 : decode cX7_coast 162 = .ok (.iinc 2 1, 3) := by decide +kernel
theorem dX7_coast_165 : decode cX7_coast 165 = .ok (.goto (-21), 3) := by decide +kernel
theorem dX7_coast_168 : decode cX7_coast 168 = .ok (.iconst 0, 1) := by decide +kernel
theorem dX7_coast_169 : decode cX7_coast 169 = .ok (.istore_n 2, 1) := by decide +kernel
theorem dX7_coast_170 : decode cX7_coast 170 = .ok (.iload_n 2, 1) := by decide +kernel
theorem dX7_coast_171 : decode cX7_coast 171 = .ok (.bipush 8, 2) := by decide +kernel
theorem dX7_coast_173 : decode cX7_coast 173 = .ok (.if_icmp .ge 21, 3) := by decide +kernel
theorem dX7_coast_176 : decode cX7_coast 176 = .ok (.aload_n 0, 1) := by decide +kernel
theorem dX7_coast_177 : decode cX7_coast 177 = .ok (.getfield 44, 3) := by decide +kernel
theorem dX7_coast_180 : decode cX7_coast 180 = .ok (.iload_n 2, 1) := by decide +kernel
theorem dX7_coast_181 : decode cX7_coast 181 = .ok (.aload_n 0, 1) := by decide +kernel
theorem dX7_coast_182 : decode cX7_coast 182 = .ok (.getfield 32, 3) := by decide +kernel
theorem dX7_coast_185 : decode cX7_coast 185 = .ok (.iload_n 2, 1) := by decide +kernel
theorem dX7_coast_186 : decode cX7_coast 186 = .ok (.iaload, 1) := by decide +kernel
theorem dX7_coast_187 : decode cX7_coast 187 = .ok (.iastore, 1) := by decide +kernel
theorem dX7_coast_188 : decode cX7_coast 188 = .ok (.iinc 2 1, 3) := by decide +kernel
theorem dX7_coast_191 : decode cX7_coast 191 = .ok (.goto (-21), 3) := by decide +kernel
theorem dX7_coast_194 : decode cX7_coast 194 = .ok (.iconst 0, 1) := by decide +kernel
theorem dX7_coast_195 : decode cX7_coast 195 = .ok (.istore_n 2, 1) := by decide +kernel
theorem dX7_coast_196 : decode cX7_coast 196 = .ok (.iload_n 2, 1) := by decide +kernel
theorem dX7_coast_197 : decode cX7_coast 197 = .ok (.iconst 2, 1) := by decide +kernel
theorem dX7_coast_198 : decode cX7_coast 198 = .ok (.if_icmp .ge 56, 3) := by decide +kernel
theorem dX7_coast_201 : decode cX7_coast 201 = .ok (.aload_n 0, 1) := by decide +kernel
theorem dX7_coast_202 : decode cX7_coast 202 = .ok (.getfield 47, 3) := by decide +kernel
theorem dX7_coast_205 : decode cX7_coast 205 = .ok (.iload_n 2, 1) := by decide +kernel
theorem dX7_coast_206 : decode cX7_coast 206 = .ok (.aload_n 0, 1) := by decide +kernel
theorem dX7_coast_207 : decode cX7_coast 207 = .ok (.getfield 164, 3) := by decide +kernel
theorem dX7_coast_210 : decode cX7_coast 210 = .ok (.ifCond .eq 12, 3) := by decide +kernel
theorem dX7_coast_213 : decode cX7_coast 213 = .ok (.aload_n 0, 1) := by decide +kernel
theorem dX7_coast_214 : decode cX7_coast 214 = .ok (.getfield 20, 3) := by decide +kernel
theorem dX7_coast_217 : decode cX7_coast 217 = .ok (.iload_n 2, 1) := by decide +kernel
theorem dX7_coast_218 : decode cX7_coast 218 = .ok (.iaload, 1) := by decide +kernel
theorem dX7_coast_219 : decode cX7_coast 219 = .ok (.goto 5, 3) := by decide +kernel
theorem dX7_coast_222 : decode cX7_coast 222 = .ok (.bipush 127, 2) := by decide +kernel
theorem dX7_coast_224 : decode cX7_coast 224 = .ok (.iastore, 1) := by decide +kernel
theorem dX7_coast_225 : decode cX7_coast 225 = .ok (.aload_n 0, 1) := by decide +kernel
theorem dX7_coast_226 : decode cX7_coast 226 = .ok (.getfield 50, 3) := by decide +kernel
theorem dX7_coast_229 : decode cX7_coast 229 = .ok (.iload_n 2, 1) := by decide +kernel
theorem dX7_coast_230 : decode cX7_coast 230 = .ok (.aload_n 0, 1) := by decide +kernel
theorem dX7_coast_231 : decode cX7_coast 231 = .ok (.getfield 164, 3) := by decide +kernel
theorem dX7_coast_234 : decode cX7_coast 234 = .ok (.ifCond .eq 12, 3) := by decide +kernel
theorem dX7_coast_237 : decode cX7_coast 237 = .ok (.aload_n 0, 1) := by decide +kernel
theorem dX7_coast_238 : decode cX7_coast 238 = .ok (.getfield 23, 3) := by decide +kernel
theorem dX7_coast_241 : decode cX7_coast 241 = .ok (.iload_n 2, 1) := by decide +kernel
theorem dX7_coast_242 : decode cX7_coast 242 = .ok (.iaload, 1) := by decide +kernel
theorem dX7_coast_243 : decode cX7_coast 243 = .ok (.goto 4, 3) := by decide +kernel
theorem dX7_coast_246 : decode cX7_coast 246 = .ok (.iconst 0, 1) := by decide +kernel
theorem dX7_coast_247 : decode cX7_coast 247 = .ok (.iastore, 1) := by decide +kernel
theorem dX7_coast_248 : decode cX7_coast 248 = .ok (.iinc 2 1, 3) := by decide +kernel
theorem dX7_coast_251 : decode cX7_coast 251 = .ok (.goto (-55), 3) := by decide +kernel
theorem dX7_coast_254 : decode cX7_coast 254 = .ok (.iconst 0, 1) := by decide +kernel
theorem dX7_coast_255 : decode cX7_coast 255 = .ok (.istore_n 2, 1) := by decide +kernel
theorem dX7_coast_256 : decode cX7_coast 256 = .ok (.iload_n 2, 1) := by decide +kernel
theorem dX7_coast_257 : decode cX7_coast 257 = .ok (.bipush 27, 2) := by decide +kernel
theorem dX7_coast_259 : decode cX7_coast 259 = .ok (.if_icmp .ge 16, 3) := by decide +kernel
theorem dX7_coast_262 : decode cX7_coast 262 = .ok (.aload_n 0, 1) := by decide +kernel
theorem dX7_coast_263 : decode cX7_coast 263 = .ok (.getfield 53, 3) := by decide +kernel
theorem dX7_coast_266 : decode cX7_coast 266 = .ok (.iload_n 2, 1) := by decide +kernel
theorem dX7_coast_267 : decode cX7_coast 267 = .ok (.iconst 0, 1) := by decide +kernel
theorem dX7_coast_268 : decode cX7_coast 268 = .ok (.iastore, 1) := by decide +kernel
theorem dX7_coast_269 : decode cX7_coast 269 = .ok (.iinc 2 1, 3) := by decide +kernel
theorem dX7_coast_272 : decode cX7_coast 272 = .ok (.goto (-16), 3) := by decide +kernel
theorem dX7_coast_275 : decode cX7_coast 275 = .ok (.iconst 0, 1) := by decide +kernel
theorem dX7_coast_276 : decode cX7_coast 276 = .ok (.istore_n 2, 1) := by decide +kernel
theorem dX7_coast_277 : decode cX7_coast 277 = .ok (.iload_n 2, 1) := by decide +kernel
theorem dX7_coast_278 : decode cX7_coast 278 = .ok (.aload_n 0, 1) := by decide +kernel
theorem dX7_coast_279 : decode cX7_coast 279 = .ok (.getfield 179, 3) := by decide +kernel
theorem dX7_coast_282 : decode cX7_coast 282 = .ok (.if_icmp .ge 77, 3) := by decide +kernel
theorem dX7_coast_285 : decode cX7_coast 285 = .ok (.aload_n 0, 1) := by decide +kernel
theorem dX7_coast_286 : decode cX7_coast 286 = .ok (.getfield 53, 3) := by decide +kernel
theorem dX7_coast_289 : decode cX7_coast 289 = .ok (.bipush 15, 2) := by decide +kernel
theorem dX7_coast_291 : decode cX7_coast 291 = .ok (.iload_n 2, 1) := by decide +kernel
theorem dX7_coast_292 : decode cX7_coast 292 = .ok (.iadd, 1) := by decide +kernel
theorem dX7_coast_293 : decode cX7_coast 293 = .ok (.aload_n 0, 1) := by decide +kernel
theorem dX7_coast_294 : decode cX7_coast 294 = .ok (.getfield 29, 3) := by decide +kernel
theorem dX7_coast_297 : decode cX7_coast 297 = .ok (.iconst 4, 1) := by decide +kernel
theorem dX7_coast_298 : decode cX7_coast 298 = .ok (.iload_n 2, 1) := by decide +kernel
theorem dX7_coast_299 : decode cX7_coast 299 = .ok (.imul, 1) := by decide +kernel
theorem dX7_coast_300 : decode cX7_coast 300 = .ok (.iaload, 1) := by decide +kernel
theorem dX7_coast_301 : decode cX7_coast 301 = .ok (.iastore, 1) := by decide +kernel
theorem dX7_coast_302 : decode cX7_coast 302 = .ok (.aload_n 0, 1) := by decide +kernel
theorem dX7_coast_303 : decode cX7_coast 303 = .ok (.getfield 53, 3) := by decide +kernel
theorem dX7_coast_306 : decode cX7_coast 306 = .ok (.bipush 21, 2) := by decide +kernel
theorem dX7_coast_308 : decode cX7_coast 308 = .ok (.iload_n 2, 1) := by decide +kernel
theorem dX7_coast_309 : decode cX7_coast 309 = .ok (.iadd, 1) := by decide +kernel
theorem dX7_coast_310 : decode cX7_coast 310 = .ok (.aload_n 0, 1) := by decide +kernel
theorem dX7_coast_311 : decode cX7_coast 311 = .ok (.getfield 29, 3) := by decide +kernel
theorem dX7_coast_314 : decode cX7_coast 314 = .ok (.iconst 4, 1) := by decide +kernel
theorem dX7_coast_315 : decode cX7_coast 315 = .ok (.iload_n 2, 1) := by decide +kernel
theorem dX7_coast_316 : decode cX7_coast 316 = .ok (.imul, 1) := by decide +kernel
theorem dX7_coast_317 : decode cX7_coast 317 = .ok (.iconst 1, 1) := by decide +kernel
theorem dX7_coast_318 : decode cX7_coast 318 = .ok (.iadd, 1) := by decide +kernel
theorem dX7_coast_319 : decode cX7_coast 319 = .ok (.iaload, 1) := by decide +kernel
theorem dX7_coast_320 : decode cX7_coast 320 = .ok (.iastore, 1) := by decide +kernel
theorem dX7_coast_321 : decode cX7_coast 321 = .ok (.aload_n 0, 1) := by decide +kernel
theorem dX7_coast_322 : decode cX7_coast 322 = .ok (.getfield 38, 3) := by decide +kernel
theorem dX7_coast_325 : decode cX7_coast 325 = .ok (.iload_n 2, 1) := by decide +kernel
theorem dX7_coast_326 : decode cX7_coast 326 = .ok (.aload_n 0, 1) := by decide +kernel
theorem dX7_coast_327 : decode cX7_coast 327 = .ok (.getfield 29, 3) := by decide +kernel
theorem dX7_coast_330 : decode cX7_coast 330 = .ok (.iconst 4, 1) := by decide +kernel
theorem dX7_coast_331 : decode cX7_coast 331 = .ok (.iload_n 2, 1) := by decide +kernel
theorem dX7_coast_332 : decode cX7_coast 332 = .ok (.imul, 1) := by decide +kernel
theorem dX7_coast_333 : decode cX7_coast 333 = .ok (.iconst 2, 1) := by decide +kernel
theorem dX7_coast_334 : decode cX7_coast 334 = .ok (.iadd, 1) := by decide +kernel
theorem dX7_coast_335 : decode cX7_coast 335 = .ok (.iaload, 1) := by decide +kernel
theorem dX7_coast_336 : decode cX7_coast 336 = .ok (.iastore, 1) := by decide +kernel
theorem dX7_coast_337 : decode cX7_coast 337 = .ok (.aload_n 0, 1) := by decide +kernel
theorem dX7_coast_338 : decode cX7_coast 338 = .ok (.getfield 41, 3) := by decide +kernel
theorem dX7_coast_341 : decode cX7_coast 341 = .ok (.iload_n 2, 1) := by decide +kernel
theorem dX7_coast_342 : decode cX7_coast 342 = .ok (.aload_n 0, 1) := by decide +kernel
theorem dX7_coast_343 : decode cX7_coast 343 = .ok (.getfield 29, 3) := by decide +kernel
theorem dX7_coast_346 : decode cX7_coast 346 = .ok (.iconst 4, 1) := by decide +kernel
theorem dX7_coast_347 : decode cX7_coast 347 = .ok (.iload_n 2, 1) := by decide +kernel
theorem dX7_coast_348 : decode cX7_coast 348 = .ok (.imul, 1) := by decide +kernel
theorem dX7_coast_349 : decode cX7_coast 349 = .ok (.iconst 3, 1) := by decide +kernel
theorem dX7_coast_350 : decode cX7_coast 350 = .ok (.iadd, 1) := by decide +kernel
theorem dX7_coast_351 : decode cX7_coast 351 = .ok (.iaload, 1) := by decide +kernel
theorem dX7_coast_352 : decode cX7_coast 352 = .ok (.iastore, 1) := by decide +kernel
theorem dX7_coast_353 : decode cX7_coast 353 = .ok (.iinc 2 1, 3) := by decide +kernel
theorem dX7_coast_356 : decode cX7_coast 356 = .ok (.goto (-79), 3) := by decide +kernel
theorem dX7_coast_359 : decode cX7_coast 359 = .ok (.aload_n 0, 1) := by decide +kernel
theorem dX7_coast_360 : decode cX7_coast 360 = .ok (.iconst 0, 1) := by decide +kernel
theorem dX7_coast_361 : decode cX7_coast 361 = .ok (.putfield 188, 3) := by decide +kernel
theorem dX7_coast_364 : decode cX7_coast 364 = .ok (.aload_n 0, 1) := by decide +kernel
theorem dX7_coast_365 : decode cX7_coast 365 = .ok (.iconst 0, 1) := by decide +kernel
theorem dX7_coast_366 : decode cX7_coast 366 = .ok (.putfield 191, 3) := by decide +kernel
theorem dX7_coast_369 : decode cX7_coast 369 = .ok (.aload_n 0, 1) := by decide +kernel
theorem dX7_coast_370 : decode cX7_coast 370 = .ok (.iconst 0, 1) := by decide +kernel
theorem dX7_coast_371 : decode cX7_coast 371 = .ok (.putfield 194, 3) := by decide +kernel
theorem dX7_coast_374 : decode cX7_coast 374 = .ok (.aload_n 0, 1) := by decide +kernel
theorem dX7_coast_375 : decode cX7_coast 375 = .ok (.getfield 74, 3) := by decide +kernel
theorem dX7_coast_378 : decode cX7_coast 378 = .ok (.iconst 0, 1) := by decide +kernel
theorem dX7_coast_379 : decode cX7_coast 379 = .ok (.iconst 0, 1) := by decide +kernel
theorem dX7_coast_380 : decode cX7_coast 380 = .ok (.bastore, 1) := by decide +kernel
theorem dX7_coast_381 : decode cX7_coast 381 = .ok (.aload_n 0, 1) := by decide +kernel
theorem dX7_coast_382 : decode cX7_coast 382 = .ok (.getfield 74, 3) := by decide +kernel
theorem dX7_coast_385 : decode cX7_coast 385 = .ok (.iconst 1, 1) := by decide +kernel
theorem dX7_coast_386 : decode cX7_coast 386 = .ok (.iconst 0, 1) := by decide +kernel
theorem dX7_coast_387 : decode cX7_coast 387 = .ok (.bastore, 1) := by decide +kernel
theorem dX7_coast_388 : decode cX7_coast 388 = .ok (.aload_n 0, 1) := by decide +kernel
theorem dX7_coast_389 : decode cX7_coast 389 = .ok (.getfield 179, 3) := by decide +kernel
theorem dX7_coast_392 : decode cX7_coast 392 = .ok (.ireturn, 1) := by decide +kernel
theorem dX7_isPost_0 : decode cX7_isPost 0 = .ok (.iload_n 1, 1) := by decide +kernel
theorem dX7_isPost_1 : decode cX7_isPost 1 = .ok (.iconst 0, 1) := by decide +kernel
theorem dX7_isPost_2 : decode cX7_isPost 2 = .ok (.aload_n 0, 1) := by decide +kernel
theorem dX7_isPost_3 : decode cX7_isPost 3 = .ok (.getfield 179, 3) := by decide +kernel
theorem dX7_isPost_6 : decode cX7_isPost 6 = .ok (.iconst 1, 1) := by decide +kernel
theorem dX7_isPost_7 : decode cX7_isPost 7 = .ok (.isub, 1) := by decide +kernel
theorem dX7_isPost_8 : decode cX7_isPost 8 = .ok (.invokestatic 85, 3) := by decide +kernel
theorem dX7_isPost_11 : decode cX7_isPost 11 = .ok (.ireturn, 1) := by decide +kernel
theorem dX7_isCell_0 : decode cX7_isCell 0 = .ok (.iload_n 1, 1) := by decide +kernel
theorem dX7_isCell_1 : decode cX7_isCell 1 = .ok (.iconst 0, 1) := by decide +kernel
theorem dX7_isCell_2 : decode cX7_isCell 2 = .ok (.aload_n 0, 1) := by decide +kernel
theorem dX7_isCell_3 : decode cX7_isCell 3 = .ok (.getfield 173, 3) := by decide +kernel
theorem dX7_isCell_6 : decode cX7_isCell 6 = .ok (.iconst 1, 1) := by decide +kernel
theorem dX7_isCell_7 : decode cX7_isCell 7 = .ok (.isub, 1) := by decide +kernel
theorem dX7_isCell_8 : decode cX7_isCell 8 = .ok (.invokestatic 85, 3) := by decide +kernel
theorem dX7_isCell_11 : decode cX7_isCell 11 = .ok (.ireturn, 1) := by decide +kernel
theorem dX7_isVillage_0 : decode cX7_isVillage 0 = .ok (.iload_n 0, 1) := by decide +kernel
theorem dX7_isVillage_1 : decode cX7_isVillage 1 = .ok (.iconst 0, 1) := by decide +kernel
theorem dX7_isVillage_2 : decode cX7_isVillage 2 = .ok (.iconst 1, 1) := by decide +kernel
theorem dX7_isVillage_3 : decode cX7_isVillage 3 = .ok (.invokestatic 85, 3) := by decide +kernel
theorem dX7_isVillage_6 : decode cX7_isVillage 6 = .ok (.ireturn, 1) := by decide +kernel
theorem dX7_dayLong_0 : decode cX7_dayLong 0 = .ok (.aload_n 0, 1) := by decide +kernel
theorem dX7_dayLong_1 : decode cX7_dayLong 1 = .ok (.getfield 170, 3) := by decide +kernel
theorem dX7_dayLong_4 : decode cX7_dayLong 4 = .ok (.ifCond .ne 7, 3) := by decide +kernel
theorem dX7_dayLong_7 : decode cX7_dayLong 7 = .ok (.iconst 0, 1) := by decide +kernel
theorem dX7_dayLong_8 : decode cX7_dayLong 8 = .ok (.goto 18, 3) := by decide +kernel
theorem dX7_dayLong_11 : decode cX7_dayLong 11 = .ok (.aload_n 0, 1) := by decide +kernel
theorem dX7_dayLong_12 : decode cX7_dayLong 12 = .ok (.getfield 182, 3) := by decide +kernel
theorem dX7_dayLong_15 : decode cX7_dayLong 15 = .ok (.ifCond .le 10, 3) := by decide +kernel
theorem dX7_dayLong_18 : decode cX7_dayLong 18 = .ok (.aload_n 0, 1) := by decide +kernel
theorem dX7_dayLong_19 : decode cX7_dayLong 19 = .ok (.getfield 182, 3) := by decide +kernel
theorem dX7_dayLong_22 : decode cX7_dayLong 22 = .ok (.goto 4, 3) := by decide +kernel
theorem dX7_dayLong_25 : decode cX7_dayLong 25 = .ok (.iconst 1, 1) := by decide +kernel
theorem dX7_dayLong_26 : decode cX7_dayLong 26 = .ok (.ireturn, 1) := by decide +kernel
theorem dX7_sideOf_0 : decode cX7_sideOf 0 = .ok (.aload_n 0, 1) := by decide +kernel
theorem dX7_sideOf_1 : decode cX7_sideOf 1 = .ok (.getfield 182, 3) := by decide +kernel
theorem dX7_sideOf_4 : decode cX7_sideOf 4 = .ok (.ifCond .le 16, 3) := by decide +kernel
theorem dX7_sideOf_7 : decode cX7_sideOf 7 = .ok (.aload_n 0, 1) := by decide +kernel
theorem dX7_sideOf_8 : decode cX7_sideOf 8 = .ok (.getfield 35, 3) := by decide +kernel
theorem dX7_sideOf_11 : decode cX7_sideOf 11 = .ok (.iconst 2, 1) := by decide +kernel
theorem dX7_sideOf_12 : decode cX7_sideOf 12 = .ok (.aload_n 1, 1) := by decide +kernel
theorem dX7_sideOf_13 : decode cX7_sideOf 13 = .ok (.iconst 1, 1) := by decide +kernel
theorem dX7_sideOf_14 : decode cX7_sideOf 14 = .ok (.iaload, 1) := by decide +kernel
theorem dX7_sideOf_15 : decode cX7_sideOf 15 = .ok (.imul, 1) := by decide +kernel
theorem dX7_sideOf_16 : decode cX7_sideOf 16 = .ok (.iaload, 1) := by decide +kernel
theorem dX7_sideOf_17 : decode cX7_sideOf 17 = .ok (.goto 4, 3) := by decide +kernel
theorem dX7_sideOf_20 : decode cX7_sideOf 20 = .ok (.iconst 0, 1) := by decide +kernel
theorem dX7_sideOf_21 : decode cX7_sideOf 21 = .ok (.ireturn, 1) := by decide +kernel
theorem dX7_fogOf_0 : decode cX7_fogOf 0 = .ok (.aload_n 0, 1) := by decide +kernel
theorem dX7_fogOf_1 : decode cX7_fogOf 1 = .ok (.getfield 182, 3) := by decide +kernel
theorem dX7_fogOf_4 : decode cX7_fogOf 4 = .ok (.ifCond .le 18, 3) := by decide +kernel
theorem dX7_fogOf_7 : decode cX7_fogOf 7 = .ok (.aload_n 0, 1) := by decide +kernel
theorem dX7_fogOf_8 : decode cX7_fogOf 8 = .ok (.getfield 35, 3) := by decide +kernel
theorem dX7_fogOf_11 : decode cX7_fogOf 11 = .ok (.iconst 2, 1) := by decide +kernel
theorem dX7_fogOf_12 : decode cX7_fogOf 12 = .ok (.aload_n 1, 1) := by decide +kernel
theorem dX7_fogOf_13 : decode cX7_fogOf 13 = .ok (.iconst 1, 1) := by decide +kernel
theorem dX7_fogOf_14 : decode cX7_fogOf 14 = .ok (.iaload, 1) := by decide +kernel
theorem dX7_fogOf_15 : decode cX7_fogOf 15 = .ok (.imul, 1) := by decide +kernel
theorem dX7_fogOf_16 : decode cX7_fogOf 16 = .ok (.iconst 1, 1) := by decide +kernel
theorem dX7_fogOf_17 : decode cX7_fogOf 17 = .ok (.iadd, 1) := by decide +kernel
theorem dX7_fogOf_18 : decode cX7_fogOf 18 = .ok (.iaload, 1) := by decide +kernel
theorem dX7_fogOf_19 : decode cX7_fogOf 19 = .ok (.goto 4, 3) := by decide +kernel
theorem dX7_fogOf_22 : decode cX7_fogOf 22 = .ok (.iconst 0, 1) := by decide +kernel
theorem dX7_fogOf_23 : decode cX7_fogOf 23 = .ok (.ireturn, 1) := by decide +kernel
theorem dX7_isHanging_0 : decode cX7_isHanging 0 = .ok (.aload_n 0, 1) := by decide +kernel
theorem dX7_isHanging_1 : decode cX7_isHanging 1 = .ok (.getfield 47, 3) := by decide +kernel
theorem dX7_isHanging_4 : decode cX7_isHanging 4 = .ok (.aload_n 0, 1) := by decide +kernel
theorem dX7_isHanging_5 : decode cX7_isHanging 5 = .ok (.getfield 41, 3) := by decide +kernel
theorem dX7_isHanging_8 : decode cX7_isHanging 8 = .ok (.iload_n 2, 1) := by decide +kernel
theorem dX7_isHanging_9 : decode cX7_isHanging 9 = .ok (.iaload, 1) := by decide +kernel
theorem dX7_isHanging_10 : decode cX7_isHanging 10 = .ok (.iaload, 1) := by decide +kernel
theorem dX7_isHanging_11 : decode cX7_isHanging 11 = .ok (.aload_n 1, 1) := by decide +kernel
theorem dX7_isHanging_12 : decode cX7_isHanging 12 = .ok (.iconst 0, 1) := by decide +kernel
theorem dX7_isHanging_13 : decode cX7_isHanging 13 = .ok (.iaload, 1) := by decide +kernel
theorem dX7_isHanging_14 : decode cX7_isHanging 14 = .ok (.bipush 7, 2) := by decide +kernel
theorem dX7_isHanging_16 : decode cX7_isHanging 16 = .ok (.irem, 1) := by decide +kernel
theorem dX7_isHanging_17 : decode cX7_isHanging 17 = .ok (.invokestatic 197, 3) := by decide +kernel
theorem dX7_isHanging_20 : decode cX7_isHanging 20 = .ok (.ireturn, 1) := by decide +kernel
theorem dX7_hanging_0 : decode cX7_hanging 0 = .ok (.iconst 0, 1) := by decide +kernel
theorem dX7_hanging_1 : decode cX7_hanging 1 = .ok (.istore_n 2, 1) := by decide +kernel
theorem dX7_hanging_2 : decode cX7_hanging 2 = .ok (.iconst 0, 1) := by decide +kernel
theorem dX7_hanging_3 : decode cX7_hanging 3 = .ok (.istore_n 3, 1) := by decide +kernel
theorem dX7_hanging_4 : decode cX7_hanging 4 = .ok (.iload_n 3, 1) := by decide +kernel
theorem dX7_hanging_5 : decode cX7_hanging 5 = .ok (.aload_n 0, 1) := by decide +kernel
theorem dX7_hanging_6 : decode cX7_hanging 6 = .ok (.getfield 179, 3) := by decide +kernel
theorem dX7_hanging_9 : decode cX7_hanging 9 = .ok (.if_icmp .ge 28, 3) := by decide +kernel
theorem dX7_hanging_12 : decode cX7_hanging 12 = .ok (.iload_n 2, 1) := by decide +kernel
theorem dX7_hanging_13 : decode cX7_hanging 13 = .ok (.aload_n 0, 1) := by decide +kernel
theorem dX7_hanging_14 : decode cX7_hanging 14 = .ok (.aload_n 1, 1) := by decide +kernel
theorem dX7_hanging_15 : decode cX7_hanging 15 = .ok (.iload_n 3, 1) := by decide +kernel
theorem dX7_hanging_16 : decode cX7_hanging 16 = .ok (.invokevirtual 201, 3) := by decide +kernel
theorem dX7_hanging_19 : decode cX7_hanging 19 = .ok (.ifCond .eq 9, 3) := by decide +kernel
theorem dX7_hanging_22 : decode cX7_hanging 22 = .ok (.iconst 1, 1) := by decide +kernel
theorem dX7_hanging_23 : decode cX7_hanging 23 = .ok (.iload_n 3, 1) := by decide +kernel
theorem dX7_hanging_24 : decode cX7_hanging 24 = .ok (.ishl, 1) := by decide +kernel
theorem dX7_hanging_25 : decode cX7_hanging 25 = .ok (.goto 4, 3) := by decide +kernel
theorem dX7_hanging_28 : decode cX7_hanging 28 = .ok (.iconst 0, 1) := by decide +kernel
theorem dX7_hanging_29 : decode cX7_hanging 29 = .ok (.ior, 1) := by decide +kernel
theorem dX7_hanging_30 : decode cX7_hanging 30 = .ok (.istore_n 2, 1) := by decide +kernel
theorem dX7_hanging_31 : decode cX7_hanging 31 = .ok (.iinc 3 1, 3) := by decide +kernel
theorem dX7_hanging_34 : decode cX7_hanging 34 = .ok (.goto (-30), 3) := by decide +kernel
theorem dX7_hanging_37 : decode cX7_hanging 37 = .ok (.iload_n 2, 1) := by decide +kernel
theorem dX7_hanging_38 : decode cX7_hanging 38 = .ok (.ireturn, 1) := by decide +kernel
theorem dX7_postIn_0 : decode cX7_postIn 0 = .ok (.iconst (-1), 1) := by decide +kernel
theorem dX7_postIn_1 : decode cX7_postIn 1 = .ok (.istore_n 3, 1) := by decide +kernel
theorem dX7_postIn_2 : decode cX7_postIn 2 = .ok (.iconst 0, 1) := by decide +kernel
theorem dX7_postIn_3 : decode cX7_postIn 3 = .ok (.istore 4, 2) := by decide +kernel
theorem dX7_postIn_5 : decode cX7_postIn 5 = .ok (.iload 4, 2) := by decide +kernel
theorem dX7_postIn_7 : decode cX7_postIn 7 = .ok (.aload_n 0, 1) := by decide +kernel
theorem dX7_postIn_8 : decode cX7_postIn 8 = .ok (.getfield 179, 3) := by decide +kernel
theorem dX7_postIn_11 : decode cX7_postIn 11 = .ok (.if_icmp .ge 27, 3) := by decide +kernel
theorem dX7_postIn_14 : decode cX7_postIn 14 = .ok (.aload_n 1, 1) := by decide +kernel
theorem dX7_postIn_15 : decode cX7_postIn 15 = .ok (.bipush 15, 2) := by decide +kernel
theorem dX7_postIn_17 : decode cX7_postIn 17 = .ok (.iload 4, 2) := by decide +kernel
theorem dX7_postIn_19 : decode cX7_postIn 19 = .ok (.iadd, 1) := by decide +kernel
theorem dX7_postIn_20 : decode cX7_postIn 20 = .ok (.iaload, 1) := by decide +kernel
theorem dX7_postIn_21 : decode cX7_postIn 21 = .ok (.iload_n 2, 1) := by decide +kernel
theorem dX7_postIn_22 : decode cX7_postIn 22 = .ok (.if_icmp .ne 8, 3) := by decide +kernel
theorem dX7_postIn_25 : decode cX7_postIn 25 = .ok (.iload 4, 2) := by decide +kernel
theorem dX7_postIn_27 : decode cX7_postIn 27 = .ok (.goto 4, 3) := by decide +kernel
theorem dX7_postIn_30 : decode cX7_postIn 30 = .ok (.iload_n 3, 1) := by decide +kernel
theorem dX7_postIn_31 : decode cX7_postIn 31 = .ok (.istore_n 3, 1) := by decide +kernel
theorem dX7_postIn_32 : decode cX7_postIn 32 = .ok (.iinc 4 1, 3) := by decide +kernel
theorem dX7_postIn_35 : decode cX7_postIn 35 = .ok (.goto (-30), 3) := by decide +kernel
theorem dX7_postIn_38 : decode cX7_postIn 38 = .ok (.iload_n 3, 1) := by decide +kernel
theorem dX7_postIn_39 : decode cX7_postIn 39 = .ok (.ireturn, 1) := by decide +kernel
theorem dX7_jars_0 : decode cX7_jars 0 = .ok (.iconst 0, 1) := by decide +kernel
theorem dX7_jars_1 : decode cX7_jars 1 = .ok (.istore_n 2, 1) := by decide +kernel
theorem dX7_jars_2 : decode cX7_jars 2 = .ok (.iconst 0, 1) := by decide +kernel
theorem dX7_jars_3 : decode cX7_jars 3 = .ok (.istore_n 3, 1) := by decide +kernel
theorem dX7_jars_4 : decode cX7_jars 4 = .ok (.iload_n 3, 1) := by decide +kernel
theorem dX7_jars_5 : decode cX7_jars 5 = .ok (.aload_n 0, 1) := by decide +kernel
theorem dX7_jars_6 : decode cX7_jars 6 = .ok (.getfield 179, 3) := by decide +kernel
theorem dX7_jars_9 : decode cX7_jars 9 = .ok (.if_icmp .ge 18, 3) := by decide +kernel
theorem dX7_jars_12 : decode cX7_jars 12 = .ok (.iload_n 2, 1) := by decide +kernel
theorem dX7_jars_13 : decode cX7_jars 13 = .ok (.aload_n 1, 1) := by decide +kernel
theorem dX7_jars_14 : decode cX7_jars 14 = .ok (.bipush 9, 2) := by decide +kernel
theorem dX7_jars_16 : decode cX7_jars 16 = .ok (.iload_n 3, 1) := by decide +kernel
theorem dX7_jars_17 : decode cX7_jars 17 = .ok (.iadd, 1) := by decide +kernel
theorem dX7_jars_18 : decode cX7_jars 18 = .ok (.iaload, 1) := by decide +kernel
theorem dX7_jars_19 : decode cX7_jars 19 = .ok (.iadd, 1) := by decide +kernel
theorem dX7_jars_20 : decode cX7_jars 20 = .ok (.istore_n 2, 1) := by decide +kernel
theorem dX7_jars_21 : decode cX7_jars 21 = .ok (.iinc 3 1, 3) := by decide +kernel
theorem dX7_jars_24 : decode cX7_jars 24 = .ok (.goto (-20), 3) := by decide +kernel
theorem dX7_jars_27 : decode cX7_jars 27 = .ok (.iload_n 2, 1) := by decide +kernel
theorem dX7_jars_28 : decode cX7_jars 28 = .ok (.ireturn, 1) := by decide +kernel
theorem dX7_told_0 : decode cX7_told 0 = .ok (.iload_n 1, 1) := by decide +kernel
theorem dX7_told_1 : decode cX7_told 1 = .ok (.tableswitch 177 0 15 #[79, 84, 89, 94, 99, 104, 109, 116, 123, 130, 139, 148, 155, 162, 167, 172], 79) := by decide +kernel
theorem dX7_told_80 : decode cX7_told 80 = .ok (.aload_n 0, 1) := by decide +kernel
theorem dX7_told_81 : decode cX7_told 81 = .ok (.getfield 173, 3) := by decide +kernel
theorem dX7_told_84 : decode cX7_told 84 = .ok (.ireturn, 1) := by decide +kernel
theorem dX7_told_85 : decode cX7_told 85 = .ok (.aload_n 0, 1) := by decide +kernel
theorem dX7_told_86 : decode cX7_told 86 = .ok (.getfield 176, 3) := by decide +kernel
theorem dX7_told_89 : decode cX7_told 89 = .ok (.ireturn, 1) := by decide +kernel
theorem dX7_told_90 : decode cX7_told 90 = .ok (.aload_n 0, 1) := by decide +kernel
theorem dX7_told_91 : decode cX7_told 91 = .ok (.invokevirtual 205, 3) := by decide +kernel
theorem dX7_told_94 : decode cX7_told 94 = .ok (.ireturn, 1) := by decide +kernel
theorem dX7_told_95 : decode cX7_told 95 = .ok (.aload_n 0, 1) := by decide +kernel
theorem dX7_told_96 : decode cX7_told 96 = .ok (.getfield 179, 3) := by decide +kernel
theorem dX7_told_99 : decode cX7_told 99 = .ok (.ireturn, 1) := by decide +kernel
theorem dX7_told_100 : decode cX7_told 100 = .ok (.aload_n 0, 1) := by decide +kernel
theorem dX7_told_101 : decode cX7_told 101 = .ok (.getfield 185, 3) := by decide +kernel
theorem dX7_told_104 : decode cX7_told 104 = .ok (.ireturn, 1) := by decide +kernel
theorem dX7_told_105 : decode cX7_told 105 = .ok (.aload_n 0, 1) := by decide +kernel
theorem dX7_told_106 : decode cX7_told 106 = .ok (.getfield 90, 3) := by decide +kernel
theorem dX7_told_109 : decode cX7_told 109 = .ok (.ireturn, 1) := by decide +kernel
theorem dX7_told_110 : decode cX7_told 110 = .ok (.aload_n 0, 1) := by decide +kernel
theorem dX7_told_111 : decode cX7_told 111 = .ok (.getfield 53, 3) := by decide +kernel
theorem dX7_told_114 : decode cX7_told 114 = .ok (.iconst 0, 1) := by decide +kernel
theorem dX7_told_115 : decode cX7_told 115 = .ok (.iaload, 1) := by decide +kernel
theorem dX7_told_116 : decode cX7_told 116 = .ok (.ireturn, 1) := by decide +kernel
theorem dX7_told_117 : decode cX7_told 117 = .ok (.aload_n 0, 1) := by decide +kernel
theorem dX7_told_118 : decode cX7_told 118 = .ok (.getfield 53, 3) := by decide +kernel
theorem dX7_told_121 : decode cX7_told 121 = .ok (.iconst 1, 1) := by decide +kernel
theorem dX7_told_122 : decode cX7_told 122 = .ok (.iaload, 1) := by decide +kernel
theorem dX7_told_123 : decode cX7_told 123 = .ok (.ireturn, 1) := by decide +kernel
theorem dX7_told_124 : decode cX7_told 124 = .ok (.aload_n 0, 1) := by decide +kernel
theorem dX7_told_125 : decode cX7_told 125 = .ok (.getfield 53, 3) := by decide +kernel
theorem dX7_told_128 : decode cX7_told 128 = .ok (.iconst 2, 1) := by decide +kernel
theorem dX7_told_129 : decode cX7_told 129 = .ok (.iaload, 1) := by decide +kernel
theorem dX7_told_130 : decode cX7_told 130 = .ok (.ireturn, 1) := by decide +kernel
theorem dX7_told_131 : decode cX7_told 131 = .ok (.aload_n 0, 1) := by decide +kernel
theorem dX7_told_132 : decode cX7_told 132 = .ok (.aload_n 0, 1) := by decide +kernel
theorem dX7_told_133 : decode cX7_told 133 = .ok (.getfield 53, 3) := by decide +kernel
theorem dX7_told_136 : decode cX7_told 136 = .ok (.invokevirtual 209, 3) := by decide +kernel
theorem dX7_told_139 : decode cX7_told 139 = .ok (.ireturn, 1) := by decide +kernel
theorem dX7_told_140 : decode cX7_told 140 = .ok (.aload_n 0, 1) := by decide +kernel
theorem dX7_told_141 : decode cX7_told 141 = .ok (.aload_n 0, 1) := by decide +kernel
theorem dX7_told_142 : decode cX7_told 142 = .ok (.getfield 53, 3) := by decide +kernel
theorem dX7_told_145 : decode cX7_told 145 = .ok (.invokevirtual 213, 3) := by decide +kernel
theorem dX7_told_148 : decode cX7_told 148 = .ok (.ireturn, 1) := by decide +kernel
theorem dX7_told_149 : decode cX7_told 149 = .ok (.aload_n 0, 1) := by decide +kernel
theorem dX7_told_150 : decode cX7_told 150 = .ok (.getfield 53, 3) := by decide +kernel
theorem dX7_told_153 : decode cX7_told 153 = .ok (.iconst 3, 1) := by decide +kernel
theorem dX7_told_154 : decode cX7_told 154 = .ok (.iaload, 1) := by decide +kernel
theorem dX7_told_155 : decode cX7_told 155 = .ok (.ireturn, 1) := by decide +kernel
theorem dX7_told_156 : decode cX7_told 156 = .ok (.aload_n 0, 1) := by decide +kernel
theorem dX7_told_157 : decode cX7_told 157 = .ok (.getfield 53, 3) := by decide +kernel
theorem dX7_told_160 : decode cX7_told 160 = .ok (.iconst 4, 1) := by decide +kernel
theorem dX7_told_161 : decode cX7_told 161 = .ok (.iaload, 1) := by decide +kernel
theorem dX7_told_162 : decode cX7_told 162 = .ok (.ireturn, 1) := by decide +kernel
theorem dX7_told_163 : decode cX7_told 163 = .ok (.aload_n 0, 1) := by decide +kernel
theorem dX7_told_164 : decode cX7_told 164 = .ok (.getfield 188, 3) := by decide +kernel
theorem dX7_told_167 : decode cX7_told 167 = .ok (.ireturn, 1) := by decide +kernel
theorem dX7_told_168 : decode cX7_told 168 = .ok (.aload_n 0, 1) := by decide +kernel
theorem dX7_told_169 : decode cX7_told 169 = .ok (.getfield 191, 3) := by decide +kernel
theorem dX7_told_172 : decode cX7_told 172 = .ok (.ireturn, 1) := by decide +kernel
theorem dX7_told_173 : decode cX7_told 173 = .ok (.aload_n 0, 1) := by decide +kernel
theorem dX7_told_174 : decode cX7_told 174 = .ok (.getfield 194, 3) := by decide +kernel
theorem dX7_told_177 : decode cX7_told 177 = .ok (.ireturn, 1) := by decide +kernel
theorem dX7_told_178 : decode cX7_told 178 = .ok (.ldc 89, 2) := by decide +kernel
theorem dX7_told_180 : decode cX7_told 180 = .ok (.ireturn, 1) := by decide +kernel
theorem dX7_post_0 : decode cX7_post 0 = .ok (.aload_n 0, 1) := by decide +kernel
theorem dX7_post_1 : decode cX7_post 1 = .ok (.iload_n 1, 1) := by decide +kernel
theorem dX7_post_2 : decode cX7_post 2 = .ok (.invokevirtual 216, 3) := by decide +kernel
theorem dX7_post_5 : decode cX7_post 5 = .ok (.ifCond .ne 6, 3) := by decide +kernel
theorem dX7_post_8 : decode cX7_post 8 = .ok (.ldc 219, 2) := by decide +kernel
theorem dX7_post_10 : decode cX7_post 10 = .ok (.ireturn, 1) := by decide +kernel
theorem dX7_post_11 : decode cX7_post 11 = .ok (.iload_n 2, 1) := by decide +kernel
theorem dX7_post_12 : decode cX7_post 12 = .ok (.tableswitch 80 0 4 #[36, 46, 56, 63, 70], 36) := by decide +kernel
theorem dX7_post_48 : decode cX7_post 48 = .ok (.aload_n 0, 1) := by decide +kernel
theorem dX7_post_49 : decode cX7_post 49 = .ok (.getfield 53, 3) := by decide +kernel
theorem dX7_post_52 : decode cX7_post 52 = .ok (.bipush 15, 2) := by decide +kernel
theorem dX7_post_54 : decode cX7_post 54 = .ok (.iload_n 1, 1) := by decide +kernel
theorem dX7_post_55 : decode cX7_post 55 = .ok (.iadd, 1) := by decide +kernel
theorem dX7_post_56 : decode cX7_post 56 = .ok (.iaload, 1) := by decide +kernel
theorem dX7_post_57 : decode cX7_post 57 = .ok (.ireturn, 1) := by decide +kernel
theorem dX7_post_58 : decode cX7_post 58 = .ok (.aload_n 0, 1) := by decide +kernel
theorem dX7_post_59 : decode cX7_post 59 = .ok (.getfield 53, 3) := by decide +kernel
theorem dX7_post_62 : decode cX7_post 62 = .ok (.bipush 21, 2) := by decide +kernel
theorem dX7_post_64 : decode cX7_post 64 = .ok (.iload_n 1, 1) := by decide +kernel
theorem dX7_post_65 : decode cX7_post 65 = .ok (.iadd, 1) := by decide +kernel
theorem dX7_post_66 : decode cX7_post 66 = .ok (.iaload, 1) := by decide +kernel
theorem dX7_post_67 : decode cX7_post 67 = .ok (.ireturn, 1) := by decide +kernel
theorem dX7_post_68 : decode cX7_post 68 = .ok (.aload_n 0, 1) := by decide +kernel
theorem dX7_post_69 : decode cX7_post 69 = .ok (.getfield 38, 3) := by decide +kernel
theorem dX7_post_72 : decode cX7_post 72 = .ok (.iload_n 1, 1) := by decide +kernel
theorem dX7_post_73 : decode cX7_post 73 = .ok (.iaload, 1) := by decide +kernel
theorem dX7_post_74 : decode cX7_post 74 = .ok (.ireturn, 1) := by decide +kernel
theorem dX7_post_75 : decode cX7_post 75 = .ok (.aload_n 0, 1) := by decide +kernel
theorem dX7_post_76 : decode cX7_post 76 = .ok (.getfield 41, 3) := by decide +kernel
theorem dX7_post_79 : decode cX7_post 79 = .ok (.iload_n 1, 1) := by decide +kernel
theorem dX7_post_80 : decode cX7_post 80 = .ok (.iaload, 1) := by decide +kernel
theorem dX7_post_81 : decode cX7_post 81 = .ok (.ireturn, 1) := by decide +kernel
theorem dX7_post_82 : decode cX7_post 82 = .ok (.aload_n 0, 1) := by decide +kernel
theorem dX7_post_83 : decode cX7_post 83 = .ok (.getfield 53, 3) := by decide +kernel
theorem dX7_post_86 : decode cX7_post 86 = .ok (.bipush 9, 2) := by decide +kernel
theorem dX7_post_88 : decode cX7_post 88 = .ok (.iload_n 1, 1) := by decide +kernel
theorem dX7_post_89 : decode cX7_post 89 = .ok (.iadd, 1) := by decide +kernel
theorem dX7_post_90 : decode cX7_post 90 = .ok (.iaload, 1) := by decide +kernel
theorem dX7_post_91 : decode cX7_post 91 = .ok (.ireturn, 1) := by decide +kernel
theorem dX7_post_92 : decode cX7_post 92 = .ok (.ldc 89, 2) := by decide +kernel
theorem dX7_post_94 : decode cX7_post 94 = .ok (.ireturn, 1) := by decide +kernel
theorem dX7_fog_0 : decode cX7_fog 0 = .ok (.iload_n 2, 1) := by decide +kernel
theorem dX7_fog_1 : decode cX7_fog 1 = .ok (.iconst 0, 1) := by decide +kernel
theorem dX7_fog_2 : decode cX7_fog 2 = .ok (.iconst 1, 1) := by decide +kernel
theorem dX7_fog_3 : decode cX7_fog 3 = .ok (.invokestatic 85, 3) := by decide +kernel
theorem dX7_fog_6 : decode cX7_fog 6 = .ok (.ifCond .eq 22, 3) := by decide +kernel
theorem dX7_fog_9 : decode cX7_fog 9 = .ok (.iload_n 1, 1) := by decide +kernel
theorem dX7_fog_10 : decode cX7_fog 10 = .ok (.iconst (-1), 1) := by decide +kernel
theorem dX7_fog_11 : decode cX7_fog 11 = .ok (.if_icmp .eq 20, 3) := by decide +kernel
theorem dX7_fog_14 : decode cX7_fog 14 = .ok (.iload_n 1, 1) := by decide +kernel
theorem dX7_fog_15 : decode cX7_fog 15 = .ok (.iconst 0, 1) := by decide +kernel
theorem dX7_fog_16 : decode cX7_fog 16 = .ok (.aload_n 0, 1) := by decide +kernel
theorem dX7_fog_17 : decode cX7_fog 17 = .ok (.getfield 182, 3) := by decide +kernel
theorem dX7_fog_20 : decode cX7_fog 20 = .ok (.iconst 1, 1) := by decide +kernel
theorem dX7_fog_21 : decode cX7_fog 21 = .ok (.isub, 1) := by decide +kernel
theorem dX7_fog_22 : decode cX7_fog 22 = .ok (.invokestatic 85, 3) := by decide +kernel
theorem dX7_fog_25 : decode cX7_fog 25 = .ok (.ifCond .ne 6, 3) := by decide +kernel
theorem dX7_fog_28 : decode cX7_fog 28 = .ok (.ldc 89, 2) := by decide +kernel
theorem dX7_fog_30 : decode cX7_fog 30 = .ok (.ireturn, 1) := by decide +kernel
theorem dX7_fog_31 : decode cX7_fog 31 = .ok (.iload_n 1, 1) := by decide +kernel
theorem dX7_fog_32 : decode cX7_fog 32 = .ok (.iconst (-1), 1) := by decide +kernel
theorem dX7_fog_33 : decode cX7_fog 33 = .ok (.if_icmp .eq 14, 3) := by decide +kernel
theorem dX7_fog_36 : decode cX7_fog 36 = .ok (.aload_n 0, 1) := by decide +kernel
theorem dX7_fog_37 : decode cX7_fog 37 = .ok (.getfield 35, 3) := by decide +kernel
theorem dX7_fog_40 : decode cX7_fog 40 = .ok (.iconst 2, 1) := by decide +kernel
theorem dX7_fog_41 : decode cX7_fog 41 = .ok (.iload_n 1, 1) := by decide +kernel
theorem dX7_fog_42 : decode cX7_fog 42 = .ok (.imul, 1) := by decide +kernel
theorem dX7_fog_43 : decode cX7_fog 43 = .ok (.iload_n 2, 1) := by decide +kernel
theorem dX7_fog_44 : decode cX7_fog 44 = .ok (.iadd, 1) := by decide +kernel
theorem dX7_fog_45 : decode cX7_fog 45 = .ok (.iaload, 1) := by decide +kernel
theorem dX7_fog_46 : decode cX7_fog 46 = .ok (.ireturn, 1) := by decide +kernel
theorem dX7_fog_47 : decode cX7_fog 47 = .ok (.aload_n 0, 1) := by decide +kernel
theorem dX7_fog_48 : decode cX7_fog 48 = .ok (.getfield 170, 3) := by decide +kernel
theorem dX7_fog_51 : decode cX7_fog 51 = .ok (.ifCond .ne 8, 3) := by decide +kernel
theorem dX7_fog_54 : decode cX7_fog 54 = .ok (.ldc 220, 2) := by decide +kernel
theorem dX7_fog_56 : decode cX7_fog 56 = .ok (.goto 26, 3) := by decide +kernel
theorem dX7_fog_59 : decode cX7_fog 59 = .ok (.iload_n 2, 1) := by decide +kernel
theorem dX7_fog_60 : decode cX7_fog 60 = .ok (.ifCond .ne 14, 3) := by decide +kernel
theorem dX7_fog_63 : decode cX7_fog 63 = .ok (.aload_n 0, 1) := by decide +kernel
theorem dX7_fog_64 : decode cX7_fog 64 = .ok (.aload_n 0, 1) := by decide +kernel
theorem dX7_fog_65 : decode cX7_fog 65 = .ok (.getfield 53, 3) := by decide +kernel
theorem dX7_fog_68 : decode cX7_fog 68 = .ok (.invokevirtual 221, 3) := by decide +kernel
theorem dX7_fog_71 : decode cX7_fog 71 = .ok (.goto 11, 3) := by decide +kernel
theorem dX7_fog_74 : decode cX7_fog 74 = .ok (.aload_n 0, 1) := by decide +kernel
theorem dX7_fog_75 : decode cX7_fog 75 = .ok (.aload_n 0, 1) := by decide +kernel
theorem dX7_fog_76 : decode cX7_fog 76 = .ok (.getfield 53, 3) := by decide +kernel
theorem dX7_fog_79 : decode cX7_fog 79 = .ok (.invokevirtual 224, 3) := by decide +kernel
theorem dX7_fog_82 : decode cX7_fog 82 = .ok (.ireturn, 1) := by decide +kernel
theorem dX7_postsOf_0 : decode cX7_postsOf 0 = .ok (.iconst 0, 1) := by decide +kernel
theorem dX7_postsOf_1 : decode cX7_postsOf 1 = .ok (.istore_n 2, 1) := by decide +kernel
theorem dX7_postsOf_2 : decode cX7_postsOf 2 = .ok (.iconst 0, 1) := by decide +kernel
theorem dX7_postsOf_3 : decode cX7_postsOf 3 = .ok (.istore_n 3, 1) := by decide +kernel
theorem dX7_postsOf_4 : decode cX7_postsOf 4 = .ok (.iload_n 3, 1) := by decide +kernel
theorem dX7_postsOf_5 : decode cX7_postsOf 5 = .ok (.aload_n 0, 1) := by decide +kernel
theorem dX7_postsOf_6 : decode cX7_postsOf 6 = .ok (.getfield 179, 3) := by decide +kernel
theorem dX7_postsOf_9 : decode cX7_postsOf 9 = .ok (.if_icmp .ge 29, 3) := by decide +kernel
theorem dX7_postsOf_12 : decode cX7_postsOf 12 = .ok (.iload_n 2, 1) := by decide +kernel
theorem dX7_postsOf_13 : decode cX7_postsOf 13 = .ok (.aload_n 0, 1) := by decide +kernel
theorem dX7_postsOf_14 : decode cX7_postsOf 14 = .ok (.getfield 41, 3) := by decide +kernel
theorem dX7_postsOf_17 : decode cX7_postsOf 17 = .ok (.iload_n 3, 1) := by decide +kernel
theorem dX7_postsOf_18 : decode cX7_postsOf 18 = .ok (.iaload, 1) := by decide +kernel
theorem dX7_postsOf_19 : decode cX7_postsOf 19 = .ok (.iload_n 1, 1) := by decide +kernel
theorem dX7_postsOf_20 : decode cX7_postsOf 20 = .ok (.if_icmp .ne 9, 3) := by decide +kernel
theorem dX7_postsOf_23 : decode cX7_postsOf 23 = .ok (.iconst 1, 1) := by decide +kernel
theorem dX7_postsOf_24 : decode cX7_postsOf 24 = .ok (.iload_n 3, 1) := by decide +kernel
theorem dX7_postsOf_25 : decode cX7_postsOf 25 = .ok (.ishl, 1) := by decide +kernel
theorem dX7_postsOf_26 : decode cX7_postsOf 26 = .ok (.goto 4, 3) := by decide +kernel
theorem dX7_postsOf_29 : decode cX7_postsOf 29 = .ok (.iconst 0, 1) := by decide +kernel
theorem dX7_postsOf_30 : decode cX7_postsOf 30 = .ok (.ior, 1) := by decide +kernel
theorem dX7_postsOf_31 : decode cX7_postsOf 31 = .ok (.istore_n 2, 1) := by decide +kernel
theorem dX7_postsOf_32 : decode cX7_postsOf 32 = .ok (.iinc 3 1, 3) := by decide +kernel
theorem dX7_postsOf_35 : decode cX7_postsOf 35 = .ok (.goto (-31), 3) := by decide +kernel
theorem dX7_postsOf_38 : decode cX7_postsOf 38 = .ok (.iload_n 2, 1) := by decide +kernel
theorem dX7_postsOf_39 : decode cX7_postsOf 39 = .ok (.ireturn, 1) := by decide +kernel
theorem dX7_village_0 : decode cX7_village 0 = .ok (.iload_n 1, 1) := by decide +kernel
theorem dX7_village_1 : decode cX7_village 1 = .ok (.invokestatic 227, 3) := by decide +kernel
theorem dX7_village_4 : decode cX7_village 4 = .ok (.ifCond .ne 6, 3) := by decide +kernel
theorem dX7_village_7 : decode cX7_village 7 = .ok (.ldc 219, 2) := by decide +kernel
theorem dX7_village_9 : decode cX7_village 9 = .ok (.ireturn, 1) := by decide +kernel
theorem dX7_village_10 : decode cX7_village 10 = .ok (.iload_n 2, 1) := by decide +kernel
theorem dX7_village_11 : decode cX7_village 11 = .ok (.tableswitch 72 0 4 #[33, 40, 47, 56, 66], 33) := by decide +kernel
theorem dX7_village_44 : decode cX7_village 44 = .ok (.aload_n 0, 1) := by decide +kernel
theorem dX7_village_45 : decode cX7_village 45 = .ok (.getfield 47, 3) := by decide +kernel
theorem dX7_village_48 : decode cX7_village 48 = .ok (.iload_n 1, 1) := by decide +kernel
theorem dX7_village_49 : decode cX7_village 49 = .ok (.iaload, 1) := by decide +kernel
theorem dX7_village_50 : decode cX7_village 50 = .ok (.ireturn, 1) := by decide +kernel
theorem dX7_village_51 : decode cX7_village 51 = .ok (.aload_n 0, 1) := by decide +kernel
theorem dX7_village_52 : decode cX7_village 52 = .ok (.getfield 50, 3) := by decide +kernel
theorem dX7_village_55 : decode cX7_village 55 = .ok (.iload_n 1, 1) := by decide +kernel
theorem dX7_village_56 : decode cX7_village 56 = .ok (.iaload, 1) := by decide +kernel
theorem dX7_village_57 : decode cX7_village 57 = .ok (.ireturn, 1) := by decide +kernel
theorem dX7_village_58 : decode cX7_village 58 = .ok (.aload_n 0, 1) := by decide +kernel
theorem dX7_village_59 : decode cX7_village 59 = .ok (.getfield 53, 3) := by decide +kernel
theorem dX7_village_62 : decode cX7_village 62 = .ok (.iconst 5, 1) := by decide +kernel
theorem dX7_village_63 : decode cX7_village 63 = .ok (.iload_n 1, 1) := by decide +kernel
theorem dX7_village_64 : decode cX7_village 64 = .ok (.iadd, 1) := by decide +kernel
theorem dX7_village_65 : decode cX7_village 65 = .ok (.iaload, 1) := by decide +kernel
theorem dX7_village_66 : decode cX7_village 66 = .ok (.ireturn, 1) := by decide +kernel
theorem dX7_village_67 : decode cX7_village 67 = .ok (.aload_n 0, 1) := by decide +kernel
theorem dX7_village_68 : decode cX7_village 68 = .ok (.getfield 53, 3) := by decide +kernel
theorem dX7_village_71 : decode cX7_village 71 = .ok (.bipush 7, 2) := by decide +kernel
theorem dX7_village_73 : decode cX7_village 73 = .ok (.iload_n 1, 1) := by decide +kernel
theorem dX7_village_74 : decode cX7_village 74 = .ok (.iadd, 1) := by decide +kernel
theorem dX7_village_75 : decode cX7_village 75 = .ok (.iaload, 1) := by decide +kernel
theorem dX7_village_76 : decode cX7_village 76 = .ok (.ireturn, 1) := by decide +kernel
theorem dX7_village_77 : decode cX7_village 77 = .ok (.aload_n 0, 1) := by decide +kernel
theorem dX7_village_78 : decode cX7_village 78 = .ok (.iload_n 1, 1) := by decide +kernel
theorem dX7_village_79 : decode cX7_village 79 = .ok (.invokevirtual 230, 3) := by decide +kernel
theorem dX7_village_82 : decode cX7_village 82 = .ok (.ireturn, 1) := by decide +kernel
theorem dX7_village_83 : decode cX7_village 83 = .ok (.ldc 89, 2) := by decide +kernel
theorem dX7_village_85 : decode cX7_village 85 = .ok (.ireturn, 1) := by decide +kernel
theorem dX7_goat_0 : decode cX7_goat 0 = .ok (.iload_n 1, 1) := by decide +kernel
theorem dX7_goat_1 : decode cX7_goat 1 = .ok (.iconst 0, 1) := by decide +kernel
theorem dX7_goat_2 : decode cX7_goat 2 = .ok (.aload_n 0, 1) := by decide +kernel
theorem dX7_goat_3 : decode cX7_goat 3 = .ok (.getfield 185, 3) := by decide +kernel
theorem dX7_goat_6 : decode cX7_goat 6 = .ok (.iconst 1, 1) := by decide +kernel
theorem dX7_goat_7 : decode cX7_goat 7 = .ok (.isub, 1) := by decide +kernel
theorem dX7_goat_8 : decode cX7_goat 8 = .ok (.invokestatic 85, 3) := by decide +kernel
theorem dX7_goat_11 : decode cX7_goat 11 = .ok (.ifCond .ne 8, 3) := by decide +kernel
theorem dX7_goat_14 : decode cX7_goat 14 = .ok (.ldc 219, 2) := by decide +kernel
theorem dX7_goat_16 : decode cX7_goat 16 = .ok (.goto 27, 3) := by decide +kernel
theorem dX7_goat_19 : decode cX7_goat 19 = .ok (.iload_n 2, 1) := by decide +kernel
theorem dX7_goat_20 : decode cX7_goat 20 = .ok (.iconst 0, 1) := by decide +kernel
theorem dX7_goat_21 : decode cX7_goat 21 = .ok (.iconst 1, 1) := by decide +kernel
theorem dX7_goat_22 : decode cX7_goat 22 = .ok (.invokestatic 85, 3) := by decide +kernel
theorem dX7_goat_25 : decode cX7_goat 25 = .ok (.ifCond .eq 16, 3) := by decide +kernel
theorem dX7_goat_28 : decode cX7_goat 28 = .ok (.aload_n 0, 1) := by decide +kernel
theorem dX7_goat_29 : decode cX7_goat 29 = .ok (.getfield 44, 3) := by decide +kernel
theorem dX7_goat_32 : decode cX7_goat 32 = .ok (.iconst 2, 1) := by decide +kernel
theorem dX7_goat_33 : decode cX7_goat 33 = .ok (.iload_n 1, 1) := by decide +kernel
theorem dX7_goat_34 : decode cX7_goat 34 = .ok (.imul, 1) := by decide +kernel
theorem dX7_goat_35 : decode cX7_goat 35 = .ok (.iload_n 2, 1) := by decide +kernel
theorem dX7_goat_36 : decode cX7_goat 36 = .ok (.iadd, 1) := by decide +kernel
theorem dX7_goat_37 : decode cX7_goat 37 = .ok (.iaload, 1) := by decide +kernel
theorem dX7_goat_38 : decode cX7_goat 38 = .ok (.goto 5, 3) := by decide +kernel
theorem dX7_goat_41 : decode cX7_goat 41 = .ok (.ldc 89, 2) := by decide +kernel
theorem dX7_goat_43 : decode cX7_goat 43 = .ok (.ireturn, 1) := by decide +kernel
theorem dX7_takes_0 : decode cX7_takes 0 = .ok (.iload_n 1, 1) := by decide +kernel
theorem dX7_takes_1 : decode cX7_takes 1 = .ok (.iload_n 1, 1) := by decide +kernel
theorem dX7_takes_2 : decode cX7_takes 2 = .ok (.bipush 20, 2) := by decide +kernel
theorem dX7_takes_4 : decode cX7_takes 4 = .ok (.if_icmp .lt 7, 3) := by decide +kernel
theorem dX7_takes_7 : decode cX7_takes 7 = .ok (.iload_n 0, 1) := by decide +kernel
theorem dX7_takes_8 : decode cX7_takes 8 = .ok (.goto 7, 3) := by decide +kernel
theorem dX7_takes_11 : decode cX7_takes 11 = .ok (.bipush 9, 2) := by decide +kernel
theorem dX7_takes_13 : decode cX7_takes 13 = .ok (.iload_n 0, 1) := by decide +kernel
theorem dX7_takes_14 : decode cX7_takes 14 = .ok (.isub, 1) := by decide +kernel
theorem dX7_takes_15 : decode cX7_takes 15 = .ok (.imul, 1) := by decide +kernel
theorem dX7_takes_16 : decode cX7_takes 16 = .ok (.bipush 10, 2) := by decide +kernel
theorem dX7_takes_18 : decode cX7_takes 18 = .ok (.idiv, 1) := by decide +kernel
theorem dX7_takes_19 : decode cX7_takes 19 = .ok (.ireturn, 1) := by decide +kernel
theorem dX7_leads_0 : decode cX7_leads 0 = .ok (.iconst 0, 1) := by decide +kernel
theorem dX7_leads_1 : decode cX7_leads 1 = .ok (.istore 5, 2) := by decide +kernel
theorem dX7_leads_3 : decode cX7_leads 3 = .ok (.iload 5, 2) := by decide +kernel
theorem dX7_leads_5 : decode cX7_leads 5 = .ok (.aload_n 0, 1) := by decide +kernel
theorem dX7_leads_6 : decode cX7_leads 6 = .ok (.getfield 179, 3) := by decide +kernel
theorem dX7_leads_9 : decode cX7_leads 9 = .ok (.if_icmp .ge 17, 3) := by decide +kernel
theorem dX7_leads_12 : decode cX7_leads 12 = .ok (.aload_n 0, 1) := by decide +kernel
theorem dX7_leads_13 : decode cX7_leads 13 = .ok (.getfield 59, 3) := by decide +kernel
theorem dX7_leads_16 : decode cX7_leads 16 = .ok (.iload 5, 2) := by decide +kernel
theorem dX7_leads_18 : decode cX7_leads 18 = .ok (.iconst 0, 1) := by decide +kernel
theorem dX7_leads_19 : decode cX7_leads 19 = .ok (.iastore, 1) := by decide +kernel
theorem dX7_leads_20 : decode cX7_leads 20 = .ok (.iinc 5 1, 3) := by decide +kernel
theorem dX7_leads_23 : decode cX7_leads 23 = .ok (.goto (-20), 3) := by decide +kernel
theorem dX7_leads_26 : decode cX7_leads 26 = .ok (.iload_n 2, 1) := by decide +kernel
theorem dX7_leads_27 : decode cX7_leads 27 = .ok (.istore 5, 2) := by decide +kernel
theorem dX7_leads_29 : decode cX7_leads 29 = .ok (.iconst 0, 1) := by decide +kernel
theorem dX7_leads_30 : decode cX7_leads 30 = .ok (.istore 6, 2) := by decide +kernel
theorem dX7_leads_32 : decode cX7_leads 32 = .ok (.iload 6, 2) := by decide +kernel
theorem dX7_leads_34 : decode cX7_leads 34 = .ok (.aload_n 0, 1) := by decide +kernel
theorem dX7_leads_35 : decode cX7_leads 35 = .ok (.getfield 173, 3) := by decide +kernel
theorem dX7_leads_38 : decode cX7_leads 38 = .ok (.if_icmp .ge 81, 3) := by decide +kernel
theorem dX7_leads_41 : decode cX7_leads 41 = .ok (.aload_n 0, 1) := by decide +kernel
theorem dX7_leads_42 : decode cX7_leads 42 = .ok (.aload_n 1, 1) := by decide +kernel
theorem dX7_leads_43 : decode cX7_leads 43 = .ok (.iload_n 3, 1) := by decide +kernel
theorem dX7_leads_44 : decode cX7_leads 44 = .ok (.ifCond .ne 8, 3) := by decide +kernel
theorem dX7_leads_47 : decode cX7_leads 47 = .ok (.iload 6, 2) := by decide +kernel
theorem dX7_leads_49 : decode cX7_leads 49 = .ok (.goto 12, 3) := by decide +kernel
theorem dX7_leads_52 : decode cX7_leads 52 = .ok (.aload_n 0, 1) := by decide +kernel
theorem dX7_leads_53 : decode cX7_leads 53 = .ok (.getfield 173, 3) := by decide +kernel
theorem dX7_leads_56 : decode cX7_leads 56 = .ok (.iconst 1, 1) := by decide +kernel
theorem dX7_leads_57 : decode cX7_leads 57 = .ok (.isub, 1) := by decide +kernel
theorem dX7_leads_58 : decode cX7_leads 58 = .ok (.iload 6, 2) := by decide +kernel
theorem dX7_leads_60 : decode cX7_leads 60 = .ok (.isub, 1) := by decide +kernel
theorem dX7_leads_61 : decode cX7_leads 61 = .ok (.invokevirtual 233, 3) := by decide +kernel
theorem dX7_leads_64 : decode cX7_leads 64 = .ok (.istore 7, 2) := by decide +kernel
theorem dX7_leads_66 : decode cX7_leads 66 = .ok (.iload 7, 2) := by decide +kernel
theorem dX7_leads_68 : decode cX7_leads 68 = .ok (.iconst (-1), 1) := by decide +kernel
theorem dX7_leads_69 : decode cX7_leads 69 = .ok (.if_icmp .eq 44, 3) := by decide +kernel
theorem dX7_leads_72 : decode cX7_leads 72 = .ok (.iload 4, 2) := by decide +kernel
theorem dX7_leads_74 : decode cX7_leads 74 = .ok (.iload 7, 2) := by decide +kernel
theorem dX7_leads_76 : decode cX7_leads 76 = .ok (.invokestatic 197, 3) := by decide +kernel
theorem dX7_leads_79 : decode cX7_leads 79 = .ok (.ifCond .eq 34, 3) := by decide +kernel
theorem dX7_leads_82 : decode cX7_leads 82 = .ok (.aload_n 0, 1) := by decide +kernel
theorem dX7_leads_83 : decode cX7_leads 83 = .ok (.getfield 59, 3) := by decide +kernel
theorem dX7_leads_86 : decode cX7_leads 86 = .ok (.iload 7, 2) := by decide +kernel
theorem dX7_leads_88 : decode cX7_leads 88 = .ok (.aload_n 1, 1) := by decide +kernel
theorem dX7_leads_89 : decode cX7_leads 89 = .ok (.bipush 21, 2) := by decide +kernel
theorem dX7_leads_91 : decode cX7_leads 91 = .ok (.iload 7, 2) := by decide +kernel
theorem dX7_leads_93 : decode cX7_leads 93 = .ok (.iadd, 1) := by decide +kernel
theorem dX7_leads_94 : decode cX7_leads 94 = .ok (.iaload, 1) := by decide +kernel
theorem dX7_leads_95 : decode cX7_leads 95 = .ok (.iload 5, 2) := by decide +kernel
theorem dX7_leads_97 : decode cX7_leads 97 = .ok (.invokestatic 237, 3) := by decide +kernel
theorem dX7_leads_100 : decode cX7_leads 100 = .ok (.iastore, 1) := by decide +kernel
theorem dX7_leads_101 : decode cX7_leads 101 = .ok (.iload 5, 2) := by decide +kernel
theorem dX7_leads_103 : decode cX7_leads 103 = .ok (.aload_n 0, 1) := by decide +kernel
theorem dX7_leads_104 : decode cX7_leads 104 = .ok (.getfield 59, 3) := by decide +kernel
theorem dX7_leads_107 : decode cX7_leads 107 = .ok (.iload 7, 2) := by decide +kernel
theorem dX7_leads_109 : decode cX7_leads 109 = .ok (.iaload, 1) := by decide +kernel
theorem dX7_leads_110 : decode cX7_leads 110 = .ok (.isub, 1) := by decide +kernel
theorem dX7_leads_111 : decode cX7_leads 111 = .ok (.istore 5, 2) := by decide +kernel
theorem dX7_leads_113 : decode cX7_leads 113 = .ok (.iinc 6 1, 3) := by decide +kernel
theorem dX7_leads_116 : decode cX7_leads 116 = .ok (.goto (-84), 3) := by decide +kernel
theorem dX7_leads_119 : decode cX7_leads 119 = .ok (.iload 5, 2) := by decide +kernel
theorem dX7_leads_121 : decode cX7_leads 121 = .ok (.ireturn, 1) := by decide +kernel
theorem dX7_counted_0 : decode cX7_counted 0 = .ok (.iload_n 0, 1) := by decide +kernel
theorem dX7_counted_1 : decode cX7_counted 1 = .ok (.ldc 240, 2) := by decide +kernel
theorem dX7_counted_3 : decode cX7_counted 3 = .ok (.if_icmp .le 8, 3) := by decide +kernel
theorem dX7_counted_6 : decode cX7_counted 6 = .ok (.ldc 240, 2) := by decide +kernel
end
section
theorem dX7_counted_8 : decode cX7_counted 8 = .ok (.goto 4, 3) := by decide +kernel
theorem dX7_counted_11 : decode cX7_counted 11 = .ok (.iload_n 0, 1) := by decide +kernel
theorem dX7_counted_12 : decode cX7_counted 12 = .ok (.ireturn, 1) := by decide +kernel
theorem dX7_lit_0 : decode cX7_lit 0 = .ok (.iload_n 0, 1) := by decide +kernel
theorem dX7_lit_1 : decode cX7_lit 1 = .ok (.iload_n 1, 1) := by decide +kernel
theorem dX7_lit_2 : decode cX7_lit 2 = .ok (.iconst 1, 1) := by decide +kernel
theorem dX7_lit_3 : decode cX7_lit 3 = .ok (.if_icmp .ne 7, 3) := by decide +kernel
theorem dX7_lit_6 : decode cX7_lit 6 = .ok (.iload_n 2, 1) := by decide +kernel
theorem dX7_lit_7 : decode cX7_lit 7 = .ok (.goto 4, 3) := by decide +kernel
theorem dX7_lit_10 : decode cX7_lit 10 = .ok (.iconst 0, 1) := by decide +kernel
theorem dX7_lit_11 : decode cX7_lit 11 = .ok (.isub, 1) := by decide +kernel
theorem dX7_lit_12 : decode cX7_lit 12 = .ok (.istore_n 3, 1) := by decide +kernel
theorem dX7_lit_13 : decode cX7_lit 13 = .ok (.iload_n 3, 1) := by decide +kernel
theorem dX7_lit_14 : decode cX7_lit 14 = .ok (.ifCond .ge 7, 3) := by decide +kernel
theorem dX7_lit_17 : decode cX7_lit 17 = .ok (.iconst 0, 1) := by decide +kernel
theorem dX7_lit_18 : decode cX7_lit 18 = .ok (.goto 4, 3) := by decide +kernel
theorem dX7_lit_21 : decode cX7_lit 21 = .ok (.iload_n 3, 1) := by decide +kernel
theorem dX7_lit_22 : decode cX7_lit 22 = .ok (.ireturn, 1) := by decide +kernel
theorem dX7_allTook_0 : decode cX7_allTook 0 = .ok (.iconst 0, 1) := by decide +kernel
theorem dX7_allTook_1 : decode cX7_allTook 1 = .ok (.istore_n 1, 1) := by decide +kernel
theorem dX7_allTook_2 : decode cX7_allTook 2 = .ok (.iconst 0, 1) := by decide +kernel
theorem dX7_allTook_3 : decode cX7_allTook 3 = .ok (.istore_n 2, 1) := by decide +kernel
theorem dX7_allTook_4 : decode cX7_allTook 4 = .ok (.iload_n 2, 1) := by decide +kernel
theorem dX7_allTook_5 : decode cX7_allTook 5 = .ok (.aload_n 0, 1) := by decide +kernel
theorem dX7_allTook_6 : decode cX7_allTook 6 = .ok (.getfield 179, 3) := by decide +kernel
theorem dX7_allTook_9 : decode cX7_allTook 9 = .ok (.if_icmp .ge 18, 3) := by decide +kernel
theorem dX7_allTook_12 : decode cX7_allTook 12 = .ok (.iload_n 1, 1) := by decide +kernel
theorem dX7_allTook_13 : decode cX7_allTook 13 = .ok (.aload_n 0, 1) := by decide +kernel
theorem dX7_allTook_14 : decode cX7_allTook 14 = .ok (.getfield 59, 3) := by decide +kernel
theorem dX7_allTook_17 : decode cX7_allTook 17 = .ok (.iload_n 2, 1) := by decide +kernel
theorem dX7_allTook_18 : decode cX7_allTook 18 = .ok (.iaload, 1) := by decide +kernel
theorem dX7_allTook_19 : decode cX7_allTook 19 = .ok (.iadd, 1) := by decide +kernel
theorem dX7_allTook_20 : decode cX7_allTook 20 = .ok (.istore_n 1, 1) := by decide +kernel
theorem dX7_allTook_21 : decode cX7_allTook 21 = .ok (.iinc 2 1, 3) := by decide +kernel
theorem dX7_allTook_24 : decode cX7_allTook 24 = .ok (.goto (-20), 3) := by decide +kernel
theorem dX7_allTook_27 : decode cX7_allTook 27 = .ok (.iload_n 1, 1) := by decide +kernel
theorem dX7_allTook_28 : decode cX7_allTook 28 = .ok (.ireturn, 1) := by decide +kernel
theorem dX7_drinks_0 : decode cX7_drinks 0 = .ok (.iconst 0, 1) := by decide +kernel
theorem dX7_drinks_1 : decode cX7_drinks 1 = .ok (.istore_n 2, 1) := by decide +kernel
theorem dX7_drinks_2 : decode cX7_drinks 2 = .ok (.iload_n 2, 1) := by decide +kernel
theorem dX7_drinks_3 : decode cX7_drinks 3 = .ok (.aload_n 0, 1) := by decide +kernel
theorem dX7_drinks_4 : decode cX7_drinks 4 = .ok (.getfield 185, 3) := by decide +kernel
theorem dX7_drinks_7 : decode cX7_drinks 7 = .ok (.if_icmp .ge 91, 3) := by decide +kernel
theorem dX7_drinks_10 : decode cX7_drinks 10 = .ok (.aload_n 0, 1) := by decide +kernel
theorem dX7_drinks_11 : decode cX7_drinks 11 = .ok (.aload_n 1, 1) := by decide +kernel
theorem dX7_drinks_12 : decode cX7_drinks 12 = .ok (.aload_n 0, 1) := by decide +kernel
theorem dX7_drinks_13 : decode cX7_drinks 13 = .ok (.getfield 44, 3) := by decide +kernel
theorem dX7_drinks_16 : decode cX7_drinks 16 = .ok (.iconst 2, 1) := by decide +kernel
theorem dX7_drinks_17 : decode cX7_drinks 17 = .ok (.iload_n 2, 1) := by decide +kernel
theorem dX7_drinks_18 : decode cX7_drinks 18 = .ok (.imul, 1) := by decide +kernel
theorem dX7_drinks_19 : decode cX7_drinks 19 = .ok (.iaload, 1) := by decide +kernel
theorem dX7_drinks_20 : decode cX7_drinks 20 = .ok (.invokevirtual 233, 3) := by decide +kernel
theorem dX7_drinks_23 : decode cX7_drinks 23 = .ok (.istore_n 3, 1) := by decide +kernel
theorem dX7_drinks_24 : decode cX7_drinks 24 = .ok (.iload_n 3, 1) := by decide +kernel
theorem dX7_drinks_25 : decode cX7_drinks 25 = .ok (.iconst (-1), 1) := by decide +kernel
theorem dX7_drinks_26 : decode cX7_drinks 26 = .ok (.if_icmp .eq 66, 3) := by decide +kernel
theorem dX7_drinks_29 : decode cX7_drinks 29 = .ok (.aload_n 1, 1) := by decide +kernel
theorem dX7_drinks_30 : decode cX7_drinks 30 = .ok (.bipush 9, 2) := by decide +kernel
theorem dX7_drinks_32 : decode cX7_drinks 32 = .ok (.iload_n 3, 1) := by decide +kernel
theorem dX7_drinks_33 : decode cX7_drinks 33 = .ok (.iadd, 1) := by decide +kernel
theorem dX7_drinks_34 : decode cX7_drinks 34 = .ok (.iaload, 1) := by decide +kernel
theorem dX7_drinks_35 : decode cX7_drinks 35 = .ok (.aload_n 0, 1) := by decide +kernel
theorem dX7_drinks_36 : decode cX7_drinks 36 = .ok (.getfield 44, 3) := by decide +kernel
theorem dX7_drinks_39 : decode cX7_drinks 39 = .ok (.iconst 2, 1) := by decide +kernel
theorem dX7_drinks_40 : decode cX7_drinks 40 = .ok (.iload_n 2, 1) := by decide +kernel
theorem dX7_drinks_41 : decode cX7_drinks 41 = .ok (.imul, 1) := by decide +kernel
theorem dX7_drinks_42 : decode cX7_drinks 42 = .ok (.iconst 1, 1) := by decide +kernel
theorem dX7_drinks_43 : decode cX7_drinks 43 = .ok (.iadd, 1) := by decide +kernel
theorem dX7_drinks_44 : decode cX7_drinks 44 = .ok (.iaload, 1) := by decide +kernel
theorem dX7_drinks_45 : decode cX7_drinks 45 = .ok (.if_icmp .ge 12, 3) := by decide +kernel
theorem dX7_drinks_48 : decode cX7_drinks 48 = .ok (.aload_n 1, 1) := by decide +kernel
theorem dX7_drinks_49 : decode cX7_drinks 49 = .ok (.bipush 9, 2) := by decide +kernel
theorem dX7_drinks_51 : decode cX7_drinks 51 = .ok (.iload_n 3, 1) := by decide +kernel
theorem dX7_drinks_52 : decode cX7_drinks 52 = .ok (.iadd, 1) := by decide +kernel
theorem dX7_drinks_53 : decode cX7_drinks 53 = .ok (.iaload, 1) := by decide +kernel
theorem dX7_drinks_54 : decode cX7_drinks 54 = .ok (.goto 13, 3) := by decide +kernel
theorem dX7_drinks_57 : decode cX7_drinks 57 = .ok (.aload_n 0, 1) := by decide +kernel
theorem dX7_drinks_58 : decode cX7_drinks 58 = .ok (.getfield 44, 3) := by decide +kernel
theorem dX7_drinks_61 : decode cX7_drinks 61 = .ok (.iconst 2, 1) := by decide +kernel
theorem dX7_drinks_62 : decode cX7_drinks 62 = .ok (.iload_n 2, 1) := by decide +kernel
theorem dX7_drinks_63 : decode cX7_drinks 63 = .ok (.imul, 1) := by decide +kernel
theorem dX7_drinks_64 : decode cX7_drinks 64 = .ok (.iconst 1, 1) := by decide +kernel
theorem dX7_drinks_65 : decode cX7_drinks 65 = .ok (.iadd, 1) := by decide +kernel
theorem dX7_drinks_66 : decode cX7_drinks 66 = .ok (.iaload, 1) := by decide +kernel
theorem dX7_drinks_67 : decode cX7_drinks 67 = .ok (.istore 4, 2) := by decide +kernel
theorem dX7_drinks_69 : decode cX7_drinks 69 = .ok (.aload_n 1, 1) := by decide +kernel
theorem dX7_drinks_70 : decode cX7_drinks 70 = .ok (.bipush 9, 2) := by decide +kernel
theorem dX7_drinks_72 : decode cX7_drinks 72 = .ok (.iload_n 3, 1) := by decide +kernel
theorem dX7_drinks_73 : decode cX7_drinks 73 = .ok (.iadd, 1) := by decide +kernel
theorem dX7_drinks_74 : decode cX7_drinks 74 = .ok (.dup2, 1) := by decide +kernel
theorem dX7_drinks_75 : decode cX7_drinks 75 = .ok (.iaload, 1) := by decide +kernel
theorem dX7_drinks_76 : decode cX7_drinks 76 = .ok (.iload 4, 2) := by decide +kernel
theorem dX7_drinks_78 : decode cX7_drinks 78 = .ok (.isub, 1) := by decide +kernel
theorem dX7_drinks_79 : decode cX7_drinks 79 = .ok (.iastore, 1) := by decide +kernel
theorem dX7_drinks_80 : decode cX7_drinks 80 = .ok (.aload_n 1, 1) := by decide +kernel
theorem dX7_drinks_81 : decode cX7_drinks 81 = .ok (.iconst 4, 1) := by decide +kernel
theorem dX7_drinks_82 : decode cX7_drinks 82 = .ok (.aload_n 1, 1) := by decide +kernel
theorem dX7_drinks_83 : decode cX7_drinks 83 = .ok (.iconst 4, 1) := by decide +kernel
theorem dX7_drinks_84 : decode cX7_drinks 84 = .ok (.iaload, 1) := by decide +kernel
theorem dX7_drinks_85 : decode cX7_drinks 85 = .ok (.iload 4, 2) := by decide +kernel
theorem dX7_drinks_87 : decode cX7_drinks 87 = .ok (.iadd, 1) := by decide +kernel
theorem dX7_drinks_88 : decode cX7_drinks 88 = .ok (.invokestatic 241, 3) := by decide +kernel
theorem dX7_drinks_91 : decode cX7_drinks 91 = .ok (.iastore, 1) := by decide +kernel
theorem dX7_drinks_92 : decode cX7_drinks 92 = .ok (.iinc 2 1, 3) := by decide +kernel
theorem dX7_drinks_95 : decode cX7_drinks 95 = .ok (.goto (-93), 3) := by decide +kernel
theorem dX7_drinks_98 : decode cX7_drinks 98 = .ok (.return_, 1) := by decide +kernel
theorem dX7_usesUp_0 : decode cX7_usesUp 0 = .ok (.iconst 0, 1) := by decide +kernel
theorem dX7_usesUp_1 : decode cX7_usesUp 1 = .ok (.istore_n 2, 1) := by decide +kernel
theorem dX7_usesUp_2 : decode cX7_usesUp 2 = .ok (.iload_n 2, 1) := by decide +kernel
theorem dX7_usesUp_3 : decode cX7_usesUp 3 = .ok (.iconst 2, 1) := by decide +kernel
theorem dX7_usesUp_4 : decode cX7_usesUp 4 = .ok (.if_icmp .ge 73, 3) := by decide +kernel
theorem dX7_usesUp_7 : decode cX7_usesUp 7 = .ok (.aload_n 0, 1) := by decide +kernel
theorem dX7_usesUp_8 : decode cX7_usesUp 8 = .ok (.getfield 50, 3) := by decide +kernel
theorem dX7_usesUp_11 : decode cX7_usesUp 11 = .ok (.iload_n 2, 1) := by decide +kernel
theorem dX7_usesUp_12 : decode cX7_usesUp 12 = .ok (.iaload, 1) := by decide +kernel
theorem dX7_usesUp_13 : decode cX7_usesUp 13 = .ok (.aload_n 1, 1) := by decide +kernel
theorem dX7_usesUp_14 : decode cX7_usesUp 14 = .ok (.iconst 5, 1) := by decide +kernel
theorem dX7_usesUp_15 : decode cX7_usesUp 15 = .ok (.iload_n 2, 1) := by decide +kernel
theorem dX7_usesUp_16 : decode cX7_usesUp 16 = .ok (.iadd, 1) := by decide +kernel
theorem dX7_usesUp_17 : decode cX7_usesUp 17 = .ok (.iaload, 1) := by decide +kernel
theorem dX7_usesUp_18 : decode cX7_usesUp 18 = .ok (.if_icmp .le 18, 3) := by decide +kernel
theorem dX7_usesUp_21 : decode cX7_usesUp 21 = .ok (.aload_n 0, 1) := by decide +kernel
theorem dX7_usesUp_22 : decode cX7_usesUp 22 = .ok (.getfield 50, 3) := by decide +kernel
theorem dX7_usesUp_25 : decode cX7_usesUp 25 = .ok (.iload_n 2, 1) := by decide +kernel
theorem dX7_usesUp_26 : decode cX7_usesUp 26 = .ok (.iaload, 1) := by decide +kernel
theorem dX7_usesUp_27 : decode cX7_usesUp 27 = .ok (.aload_n 1, 1) := by decide +kernel
theorem dX7_usesUp_28 : decode cX7_usesUp 28 = .ok (.iconst 5, 1) := by decide +kernel
theorem dX7_usesUp_29 : decode cX7_usesUp 29 = .ok (.iload_n 2, 1) := by decide +kernel
theorem dX7_usesUp_30 : decode cX7_usesUp 30 = .ok (.iadd, 1) := by decide +kernel
theorem dX7_usesUp_31 : decode cX7_usesUp 31 = .ok (.iaload, 1) := by decide +kernel
theorem dX7_usesUp_32 : decode cX7_usesUp 32 = .ok (.isub, 1) := by decide +kernel
theorem dX7_usesUp_33 : decode cX7_usesUp 33 = .ok (.goto 4, 3) := by decide +kernel
theorem dX7_usesUp_36 : decode cX7_usesUp 36 = .ok (.iconst 0, 1) := by decide +kernel
theorem dX7_usesUp_37 : decode cX7_usesUp 37 = .ok (.istore_n 3, 1) := by decide +kernel
theorem dX7_usesUp_38 : decode cX7_usesUp 38 = .ok (.aload_n 1, 1) := by decide +kernel
theorem dX7_usesUp_39 : decode cX7_usesUp 39 = .ok (.iconst 5, 1) := by decide +kernel
theorem dX7_usesUp_40 : decode cX7_usesUp 40 = .ok (.iload_n 2, 1) := by decide +kernel
theorem dX7_usesUp_41 : decode cX7_usesUp 41 = .ok (.iadd, 1) := by decide +kernel
theorem dX7_usesUp_42 : decode cX7_usesUp 42 = .ok (.dup2, 1) := by decide +kernel
theorem dX7_usesUp_43 : decode cX7_usesUp 43 = .ok (.iaload, 1) := by decide +kernel
theorem dX7_usesUp_44 : decode cX7_usesUp 44 = .ok (.aload_n 0, 1) := by decide +kernel
theorem dX7_usesUp_45 : decode cX7_usesUp 45 = .ok (.getfield 50, 3) := by decide +kernel
theorem dX7_usesUp_48 : decode cX7_usesUp 48 = .ok (.iload_n 2, 1) := by decide +kernel
theorem dX7_usesUp_49 : decode cX7_usesUp 49 = .ok (.iaload, 1) := by decide +kernel
theorem dX7_usesUp_50 : decode cX7_usesUp 50 = .ok (.iload_n 3, 1) := by decide +kernel
theorem dX7_usesUp_51 : decode cX7_usesUp 51 = .ok (.isub, 1) := by decide +kernel
theorem dX7_usesUp_52 : decode cX7_usesUp 52 = .ok (.isub, 1) := by decide +kernel
theorem dX7_usesUp_53 : decode cX7_usesUp 53 = .ok (.iastore, 1) := by decide +kernel
theorem dX7_usesUp_54 : decode cX7_usesUp 54 = .ok (.aload_n 1, 1) := by decide +kernel
theorem dX7_usesUp_55 : decode cX7_usesUp 55 = .ok (.bipush 7, 2) := by decide +kernel
theorem dX7_usesUp_57 : decode cX7_usesUp 57 = .ok (.iload_n 2, 1) := by decide +kernel
theorem dX7_usesUp_58 : decode cX7_usesUp 58 = .ok (.iadd, 1) := by decide +kernel
theorem dX7_usesUp_59 : decode cX7_usesUp 59 = .ok (.aload_n 1, 1) := by decide +kernel
theorem dX7_usesUp_60 : decode cX7_usesUp 60 = .ok (.bipush 7, 2) := by decide +kernel
theorem dX7_usesUp_62 : decode cX7_usesUp 62 = .ok (.iload_n 2, 1) := by decide +kernel
theorem dX7_usesUp_63 : decode cX7_usesUp 63 = .ok (.iadd, 1) := by decide +kernel
theorem dX7_usesUp_64 : decode cX7_usesUp 64 = .ok (.iaload, 1) := by decide +kernel
theorem dX7_usesUp_65 : decode cX7_usesUp 65 = .ok (.iload_n 3, 1) := by decide +kernel
theorem dX7_usesUp_66 : decode cX7_usesUp 66 = .ok (.iadd, 1) := by decide +kernel
theorem dX7_usesUp_67 : decode cX7_usesUp 67 = .ok (.invokestatic 241, 3) := by decide +kernel
theorem dX7_usesUp_70 : decode cX7_usesUp 70 = .ok (.iastore, 1) := by decide +kernel
theorem dX7_usesUp_71 : decode cX7_usesUp 71 = .ok (.iinc 2 1, 3) := by decide +kernel
theorem dX7_usesUp_74 : decode cX7_usesUp 74 = .ok (.goto (-72), 3) := by decide +kernel
theorem dX7_usesUp_77 : decode cX7_usesUp 77 = .ok (.return_, 1) := by decide +kernel
theorem dX7_carries_0 : decode cX7_carries 0 = .ok (.iconst 0, 1) := by decide +kernel
theorem dX7_carries_1 : decode cX7_carries 1 = .ok (.istore_n 3, 1) := by decide +kernel
theorem dX7_carries_2 : decode cX7_carries 2 = .ok (.iconst 0, 1) := by decide +kernel
theorem dX7_carries_3 : decode cX7_carries 3 = .ok (.istore 4, 2) := by decide +kernel
theorem dX7_carries_5 : decode cX7_carries 5 = .ok (.iload 4, 2) := by decide +kernel
theorem dX7_carries_7 : decode cX7_carries 7 = .ok (.aload_n 0, 1) := by decide +kernel
theorem dX7_carries_8 : decode cX7_carries 8 = .ok (.getfield 179, 3) := by decide +kernel
theorem dX7_carries_11 : decode cX7_carries 11 = .ok (.if_icmp .ge 63, 3) := by decide +kernel
theorem dX7_carries_14 : decode cX7_carries 14 = .ok (.iload_n 3, 1) := by decide +kernel
theorem dX7_carries_15 : decode cX7_carries 15 = .ok (.aload_n 0, 1) := by decide +kernel
theorem dX7_carries_16 : decode cX7_carries 16 = .ok (.getfield 41, 3) := by decide +kernel
theorem dX7_carries_19 : decode cX7_carries 19 = .ok (.iload 4, 2) := by decide +kernel
theorem dX7_carries_21 : decode cX7_carries 21 = .ok (.iaload, 1) := by decide +kernel
theorem dX7_carries_22 : decode cX7_carries 22 = .ok (.iload_n 2, 1) := by decide +kernel
theorem dX7_carries_23 : decode cX7_carries 23 = .ok (.if_icmp .ne 13, 3) := by decide +kernel
theorem dX7_carries_26 : decode cX7_carries 26 = .ok (.aload_n 1, 1) := by decide +kernel
theorem dX7_carries_27 : decode cX7_carries 27 = .ok (.bipush 9, 2) := by decide +kernel
theorem dX7_carries_29 : decode cX7_carries 29 = .ok (.iload 4, 2) := by decide +kernel
theorem dX7_carries_31 : decode cX7_carries 31 = .ok (.iadd, 1) := by decide +kernel
theorem dX7_carries_32 : decode cX7_carries 32 = .ok (.iaload, 1) := by decide +kernel
theorem dX7_carries_33 : decode cX7_carries 33 = .ok (.goto 4, 3) := by decide +kernel
theorem dX7_carries_36 : decode cX7_carries 36 = .ok (.iconst 0, 1) := by decide +kernel
theorem dX7_carries_37 : decode cX7_carries 37 = .ok (.iadd, 1) := by decide +kernel
theorem dX7_carries_38 : decode cX7_carries 38 = .ok (.istore_n 3, 1) := by decide +kernel
theorem dX7_carries_39 : decode cX7_carries 39 = .ok (.aload_n 1, 1) := by decide +kernel
theorem dX7_carries_40 : decode cX7_carries 40 = .ok (.bipush 9, 2) := by decide +kernel
theorem dX7_carries_42 : decode cX7_carries 42 = .ok (.iload 4, 2) := by decide +kernel
theorem dX7_carries_44 : decode cX7_carries 44 = .ok (.iadd, 1) := by decide +kernel
theorem dX7_carries_45 : decode cX7_carries 45 = .ok (.aload_n 0, 1) := by decide +kernel
theorem dX7_carries_46 : decode cX7_carries 46 = .ok (.getfield 41, 3) := by decide +kernel
theorem dX7_carries_49 : decode cX7_carries 49 = .ok (.iload 4, 2) := by decide +kernel
theorem dX7_carries_51 : decode cX7_carries 51 = .ok (.iaload, 1) := by decide +kernel
theorem dX7_carries_52 : decode cX7_carries 52 = .ok (.iload_n 2, 1) := by decide +kernel
theorem dX7_carries_53 : decode cX7_carries 53 = .ok (.if_icmp .ne 7, 3) := by decide +kernel
theorem dX7_carries_56 : decode cX7_carries 56 = .ok (.iconst 0, 1) := by decide +kernel
theorem dX7_carries_57 : decode cX7_carries 57 = .ok (.goto 10, 3) := by decide +kernel
theorem dX7_carries_60 : decode cX7_carries 60 = .ok (.aload_n 1, 1) := by decide +kernel
theorem dX7_carries_61 : decode cX7_carries 61 = .ok (.bipush 9, 2) := by decide +kernel
theorem dX7_carries_63 : decode cX7_carries 63 = .ok (.iload 4, 2) := by decide +kernel
theorem dX7_carries_65 : decode cX7_carries 65 = .ok (.iadd, 1) := by decide +kernel
theorem dX7_carries_66 : decode cX7_carries 66 = .ok (.iaload, 1) := by decide +kernel
theorem dX7_carries_67 : decode cX7_carries 67 = .ok (.iastore, 1) := by decide +kernel
theorem dX7_carries_68 : decode cX7_carries 68 = .ok (.iinc 4 1, 3) := by decide +kernel
theorem dX7_carries_71 : decode cX7_carries 71 = .ok (.goto (-66), 3) := by decide +kernel
theorem dX7_carries_74 : decode cX7_carries 74 = .ok (.aload_n 1, 1) := by decide +kernel
theorem dX7_carries_75 : decode cX7_carries 75 = .ok (.iconst 5, 1) := by decide +kernel
theorem dX7_carries_76 : decode cX7_carries 76 = .ok (.iload_n 2, 1) := by decide +kernel
theorem dX7_carries_77 : decode cX7_carries 77 = .ok (.iadd, 1) := by decide +kernel
theorem dX7_carries_78 : decode cX7_carries 78 = .ok (.aload_n 1, 1) := by decide +kernel
theorem dX7_carries_79 : decode cX7_carries 79 = .ok (.iconst 5, 1) := by decide +kernel
theorem dX7_carries_80 : decode cX7_carries 80 = .ok (.iload_n 2, 1) := by decide +kernel
theorem dX7_carries_81 : decode cX7_carries 81 = .ok (.iadd, 1) := by decide +kernel
theorem dX7_carries_82 : decode cX7_carries 82 = .ok (.iaload, 1) := by decide +kernel
theorem dX7_carries_83 : decode cX7_carries 83 = .ok (.iload_n 3, 1) := by decide +kernel
theorem dX7_carries_84 : decode cX7_carries 84 = .ok (.iadd, 1) := by decide +kernel
theorem dX7_carries_85 : decode cX7_carries 85 = .ok (.ldc 244, 2) := by decide +kernel
theorem dX7_carries_87 : decode cX7_carries 87 = .ok (.if_icmp .le 8, 3) := by decide +kernel
theorem dX7_carries_90 : decode cX7_carries 90 = .ok (.ldc 244, 2) := by decide +kernel
theorem dX7_carries_92 : decode cX7_carries 92 = .ok (.goto 10, 3) := by decide +kernel
theorem dX7_carries_95 : decode cX7_carries 95 = .ok (.aload_n 1, 1) := by decide +kernel
theorem dX7_carries_96 : decode cX7_carries 96 = .ok (.iconst 5, 1) := by decide +kernel
theorem dX7_carries_97 : decode cX7_carries 97 = .ok (.iload_n 2, 1) := by decide +kernel
theorem dX7_carries_98 : decode cX7_carries 98 = .ok (.iadd, 1) := by decide +kernel
theorem dX7_carries_99 : decode cX7_carries 99 = .ok (.iaload, 1) := by decide +kernel
theorem dX7_carries_100 : decode cX7_carries 100 = .ok (.iload_n 3, 1) := by decide +kernel
theorem dX7_carries_101 : decode cX7_carries 101 = .ok (.iadd, 1) := by decide +kernel
theorem dX7_carries_102 : decode cX7_carries 102 = .ok (.iastore, 1) := by decide +kernel
theorem dX7_carries_103 : decode cX7_carries 103 = .ok (.iload_n 3, 1) := by decide +kernel
theorem dX7_carries_104 : decode cX7_carries 104 = .ok (.ireturn, 1) := by decide +kernel
theorem dX7_passes_0 : decode cX7_passes 0 = .ok (.aload_n 0, 1) := by decide +kernel
theorem dX7_passes_1 : decode cX7_passes 1 = .ok (.aload_n 1, 1) := by decide +kernel
theorem dX7_passes_2 : decode cX7_passes 2 = .ok (.iload_n 2, 1) := by decide +kernel
theorem dX7_passes_3 : decode cX7_passes 3 = .ok (.aload_n 1, 1) := by decide +kernel
theorem dX7_passes_4 : decode cX7_passes 4 = .ok (.iconst 2, 1) := by decide +kernel
theorem dX7_passes_5 : decode cX7_passes 5 = .ok (.iaload, 1) := by decide +kernel
theorem dX7_passes_6 : decode cX7_passes 6 = .ok (.aload_n 0, 1) := by decide +kernel
theorem dX7_passes_7 : decode cX7_passes 7 = .ok (.getfield 176, 3) := by decide +kernel
theorem dX7_passes_10 : decode cX7_passes 10 = .ok (.invokestatic 245, 3) := by decide +kernel
theorem dX7_passes_13 : decode cX7_passes 13 = .ok (.iload_n 3, 1) := by decide +kernel
theorem dX7_passes_14 : decode cX7_passes 14 = .ok (.aload_n 0, 1) := by decide +kernel
theorem dX7_passes_15 : decode cX7_passes 15 = .ok (.aload_n 1, 1) := by decide +kernel
theorem dX7_passes_16 : decode cX7_passes 16 = .ok (.invokevirtual 209, 3) := by decide +kernel
theorem dX7_passes_19 : decode cX7_passes 19 = .ok (.invokevirtual 249, 3) := by decide +kernel
theorem dX7_passes_22 : decode cX7_passes 22 = .ok (.pop, 1) := by decide +kernel
theorem dX7_passes_23 : decode cX7_passes 23 = .ok (.iconst 0, 1) := by decide +kernel
theorem dX7_passes_24 : decode cX7_passes 24 = .ok (.istore 5, 2) := by decide +kernel
theorem dX7_passes_26 : decode cX7_passes 26 = .ok (.iload 5, 2) := by decide +kernel
theorem dX7_passes_28 : decode cX7_passes 28 = .ok (.aload_n 0, 1) := by decide +kernel
theorem dX7_passes_29 : decode cX7_passes 29 = .ok (.getfield 179, 3) := by decide +kernel
theorem dX7_passes_32 : decode cX7_passes 32 = .ok (.if_icmp .ge 78, 3) := by decide +kernel
theorem dX7_passes_35 : decode cX7_passes 35 = .ok (.aload_n 1, 1) := by decide +kernel
theorem dX7_passes_36 : decode cX7_passes 36 = .ok (.bipush 9, 2) := by decide +kernel
theorem dX7_passes_38 : decode cX7_passes 38 = .ok (.iload 5, 2) := by decide +kernel
theorem dX7_passes_40 : decode cX7_passes 40 = .ok (.iadd, 1) := by decide +kernel
theorem dX7_passes_41 : decode cX7_passes 41 = .ok (.iaload, 1) := by decide +kernel
theorem dX7_passes_42 : decode cX7_passes 42 = .ok (.aload_n 0, 1) := by decide +kernel
theorem dX7_passes_43 : decode cX7_passes 43 = .ok (.getfield 59, 3) := by decide +kernel
theorem dX7_passes_46 : decode cX7_passes 46 = .ok (.iload 5, 2) := by decide +kernel
theorem dX7_passes_48 : decode cX7_passes 48 = .ok (.iaload, 1) := by decide +kernel
theorem dX7_passes_49 : decode cX7_passes 49 = .ok (.iadd, 1) := by decide +kernel
theorem dX7_passes_50 : decode cX7_passes 50 = .ok (.istore 6, 2) := by decide +kernel
theorem dX7_passes_52 : decode cX7_passes 52 = .ok (.iload 6, 2) := by decide +kernel
theorem dX7_passes_54 : decode cX7_passes 54 = .ok (.aload_n 0, 1) := by decide +kernel
theorem dX7_passes_55 : decode cX7_passes 55 = .ok (.getfield 38, 3) := by decide +kernel
theorem dX7_passes_58 : decode cX7_passes 58 = .ok (.iload 5, 2) := by decide +kernel
theorem dX7_passes_60 : decode cX7_passes 60 = .ok (.iaload, 1) := by decide +kernel
theorem dX7_passes_61 : decode cX7_passes 61 = .ok (.if_icmp .le 16, 3) := by decide +kernel
theorem dX7_passes_64 : decode cX7_passes 64 = .ok (.iload 6, 2) := by decide +kernel
theorem dX7_passes_66 : decode cX7_passes 66 = .ok (.aload_n 0, 1) := by decide +kernel
theorem dX7_passes_67 : decode cX7_passes 67 = .ok (.getfield 38, 3) := by decide +kernel
theorem dX7_passes_70 : decode cX7_passes 70 = .ok (.iload 5, 2) := by decide +kernel
theorem dX7_passes_72 : decode cX7_passes 72 = .ok (.iaload, 1) := by decide +kernel
theorem dX7_passes_73 : decode cX7_passes 73 = .ok (.isub, 1) := by decide +kernel
theorem dX7_passes_74 : decode cX7_passes 74 = .ok (.goto 4, 3) := by decide +kernel
theorem dX7_passes_77 : decode cX7_passes 77 = .ok (.iconst 0, 1) := by decide +kernel
theorem dX7_passes_78 : decode cX7_passes 78 = .ok (.istore 7, 2) := by decide +kernel
theorem dX7_passes_80 : decode cX7_passes 80 = .ok (.aload_n 1, 1) := by decide +kernel
theorem dX7_passes_81 : decode cX7_passes 81 = .ok (.bipush 9, 2) := by decide +kernel
theorem dX7_passes_83 : decode cX7_passes 83 = .ok (.iload 5, 2) := by decide +kernel
theorem dX7_passes_85 : decode cX7_passes 85 = .ok (.iadd, 1) := by decide +kernel
theorem dX7_passes_86 : decode cX7_passes 86 = .ok (.iload 6, 2) := by decide +kernel
theorem dX7_passes_88 : decode cX7_passes 88 = .ok (.iload 7, 2) := by decide +kernel
theorem dX7_passes_90 : decode cX7_passes 90 = .ok (.isub, 1) := by decide +kernel
theorem dX7_passes_91 : decode cX7_passes 91 = .ok (.iastore, 1) := by decide +kernel
theorem dX7_passes_92 : decode cX7_passes 92 = .ok (.aload_n 1, 1) := by decide +kernel
theorem dX7_passes_93 : decode cX7_passes 93 = .ok (.iconst 3, 1) := by decide +kernel
theorem dX7_passes_94 : decode cX7_passes 94 = .ok (.aload_n 1, 1) := by decide +kernel
theorem dX7_passes_95 : decode cX7_passes 95 = .ok (.iconst 3, 1) := by decide +kernel
theorem dX7_passes_96 : decode cX7_passes 96 = .ok (.iaload, 1) := by decide +kernel
theorem dX7_passes_97 : decode cX7_passes 97 = .ok (.iload 7, 2) := by decide +kernel
theorem dX7_passes_99 : decode cX7_passes 99 = .ok (.iadd, 1) := by decide +kernel
theorem dX7_passes_100 : decode cX7_passes 100 = .ok (.invokestatic 241, 3) := by decide +kernel
theorem dX7_passes_103 : decode cX7_passes 103 = .ok (.iastore, 1) := by decide +kernel
theorem dX7_passes_104 : decode cX7_passes 104 = .ok (.iinc 5 1, 3) := by decide +kernel
theorem dX7_passes_107 : decode cX7_passes 107 = .ok (.goto (-81), 3) := by decide +kernel
theorem dX7_passes_110 : decode cX7_passes 110 = .ok (.aload_n 1, 1) := by decide +kernel
theorem dX7_passes_111 : decode cX7_passes 111 = .ok (.iconst 1, 1) := by decide +kernel
theorem dX7_passes_112 : decode cX7_passes 112 = .ok (.dup2, 1) := by decide +kernel
theorem dX7_passes_113 : decode cX7_passes 113 = .ok (.iaload, 1) := by decide +kernel
theorem dX7_passes_114 : decode cX7_passes 114 = .ok (.iconst 1, 1) := by decide +kernel
theorem dX7_passes_115 : decode cX7_passes 115 = .ok (.iadd, 1) := by decide +kernel
theorem dX7_passes_116 : decode cX7_passes 116 = .ok (.iastore, 1) := by decide +kernel
theorem dX7_passes_117 : decode cX7_passes 117 = .ok (.aload_n 1, 1) := by decide +kernel
theorem dX7_passes_118 : decode cX7_passes 118 = .ok (.iconst 1, 1) := by decide +kernel
theorem dX7_passes_119 : decode cX7_passes 119 = .ok (.iaload, 1) := by decide +kernel
theorem dX7_passes_120 : decode cX7_passes 120 = .ok (.aload_n 0, 1) := by decide +kernel
theorem dX7_passes_121 : decode cX7_passes 121 = .ok (.invokevirtual 205, 3) := by decide +kernel
theorem dX7_passes_124 : decode cX7_passes 124 = .ok (.if_icmp .ne 43, 3) := by decide +kernel
theorem dX7_passes_127 : decode cX7_passes 127 = .ok (.iload 4, 2) := by decide +kernel
theorem dX7_passes_129 : decode cX7_passes 129 = .ok (.ifCond .eq 17, 3) := by decide +kernel
theorem dX7_passes_132 : decode cX7_passes 132 = .ok (.aload_n 0, 1) := by decide +kernel
theorem dX7_passes_133 : decode cX7_passes 133 = .ok (.aload_n 1, 1) := by decide +kernel
theorem dX7_passes_134 : decode cX7_passes 134 = .ok (.iconst 0, 1) := by decide +kernel
theorem dX7_passes_135 : decode cX7_passes 135 = .ok (.invokevirtual 253, 3) := by decide +kernel
theorem dX7_passes_138 : decode cX7_passes 138 = .ok (.pop, 1) := by decide +kernel
theorem dX7_passes_139 : decode cX7_passes 139 = .ok (.aload_n 0, 1) := by decide +kernel
theorem dX7_passes_140 : decode cX7_passes 140 = .ok (.aload_n 1, 1) := by decide +kernel
theorem dX7_passes_141 : decode cX7_passes 141 = .ok (.iconst 1, 1) := by decide +kernel
theorem dX7_passes_142 : decode cX7_passes 142 = .ok (.invokevirtual 253, 3) := by decide +kernel
theorem dX7_passes_145 : decode cX7_passes 145 = .ok (.pop, 1) := by decide +kernel
theorem dX7_passes_146 : decode cX7_passes 146 = .ok (.aload_n 0, 1) := by decide +kernel
theorem dX7_passes_147 : decode cX7_passes 147 = .ok (.aload_n 1, 1) := by decide +kernel
theorem dX7_passes_148 : decode cX7_passes 148 = .ok (.invokevirtual 256, 3) := by decide +kernel
theorem dX7_passes_151 : decode cX7_passes 151 = .ok (.aload_n 0, 1) := by decide +kernel
theorem dX7_passes_152 : decode cX7_passes 152 = .ok (.aload_n 1, 1) := by decide +kernel
theorem dX7_passes_153 : decode cX7_passes 153 = .ok (.invokevirtual 260, 3) := by decide +kernel
theorem dX7_passes_156 : decode cX7_passes 156 = .ok (.aload_n 1, 1) := by decide +kernel
theorem dX7_passes_157 : decode cX7_passes 157 = .ok (.iconst 1, 1) := by decide +kernel
theorem dX7_passes_158 : decode cX7_passes 158 = .ok (.iconst 0, 1) := by decide +kernel
theorem dX7_passes_159 : decode cX7_passes 159 = .ok (.iastore, 1) := by decide +kernel
theorem dX7_passes_160 : decode cX7_passes 160 = .ok (.aload_n 1, 1) := by decide +kernel
theorem dX7_passes_161 : decode cX7_passes 161 = .ok (.iconst 0, 1) := by decide +kernel
theorem dX7_passes_162 : decode cX7_passes 162 = .ok (.dup2, 1) := by decide +kernel
theorem dX7_passes_163 : decode cX7_passes 163 = .ok (.iaload, 1) := by decide +kernel
theorem dX7_passes_164 : decode cX7_passes 164 = .ok (.iconst 1, 1) := by decide +kernel
theorem dX7_passes_165 : decode cX7_passes 165 = .ok (.iadd, 1) := by decide +kernel
theorem dX7_passes_166 : decode cX7_passes 166 = .ok (.iastore, 1) := by decide +kernel
theorem dX7_passes_167 : decode cX7_passes 167 = .ok (.aload_n 0, 1) := by decide +kernel
theorem dX7_passes_168 : decode cX7_passes 168 = .ok (.invokevirtual 263, 3) := by decide +kernel
theorem dX7_passes_171 : decode cX7_passes 171 = .ok (.ireturn, 1) := by decide +kernel
theorem dX7_passesOn_0 : decode cX7_passesOn 0 = .ok (.aload_n 0, 1) := by decide +kernel
theorem dX7_passesOn_1 : decode cX7_passesOn 1 = .ok (.aload_n 1, 1) := by decide +kernel
theorem dX7_passesOn_2 : decode cX7_passesOn 2 = .ok (.aload_n 0, 1) := by decide +kernel
theorem dX7_passesOn_3 : decode cX7_passesOn 3 = .ok (.aload_n 1, 1) := by decide +kernel
theorem dX7_passesOn_4 : decode cX7_passesOn 4 = .ok (.invokevirtual 224, 3) := by decide +kernel
theorem dX7_passesOn_7 : decode cX7_passesOn 7 = .ok (.aload_n 0, 1) := by decide +kernel
theorem dX7_passesOn_8 : decode cX7_passesOn 8 = .ok (.aload_n 1, 1) := by decide +kernel
theorem dX7_passesOn_9 : decode cX7_passesOn 9 = .ok (.invokevirtual 221, 3) := by decide +kernel
theorem dX7_passesOn_12 : decode cX7_passesOn 12 = .ok (.iconst 0, 1) := by decide +kernel
theorem dX7_passesOn_13 : decode cX7_passesOn 13 = .ok (.invokevirtual 266, 3) := by decide +kernel
theorem dX7_passesOn_16 : decode cX7_passesOn 16 = .ok (.ireturn, 1) := by decide +kernel
theorem dX7_remember_0 : decode cX7_remember 0 = .ok (.iconst 0, 1) := by decide +kernel
theorem dX7_remember_1 : decode cX7_remember 1 = .ok (.istore_n 1, 1) := by decide +kernel
theorem dX7_remember_2 : decode cX7_remember 2 = .ok (.iload_n 1, 1) := by decide +kernel
theorem dX7_remember_3 : decode cX7_remember 3 = .ok (.bipush 27, 2) := by decide +kernel
theorem dX7_remember_5 : decode cX7_remember 5 = .ok (.if_icmp .ge 29, 3) := by decide +kernel
theorem dX7_remember_8 : decode cX7_remember 8 = .ok (.aload_n 0, 1) := by decide +kernel
theorem dX7_remember_9 : decode cX7_remember 9 = .ok (.getfield 62, 3) := by decide +kernel
theorem dX7_remember_12 : decode cX7_remember 12 = .ok (.bipush 27, 2) := by decide +kernel
theorem dX7_remember_14 : decode cX7_remember 14 = .ok (.aload_n 0, 1) := by decide +kernel
theorem dX7_remember_15 : decode cX7_remember 15 = .ok (.getfield 270, 3) := by decide +kernel
theorem dX7_remember_18 : decode cX7_remember 18 = .ok (.imul, 1) := by decide +kernel
theorem dX7_remember_19 : decode cX7_remember 19 = .ok (.iload_n 1, 1) := by decide +kernel
theorem dX7_remember_20 : decode cX7_remember 20 = .ok (.iadd, 1) := by decide +kernel
theorem dX7_remember_21 : decode cX7_remember 21 = .ok (.aload_n 0, 1) := by decide +kernel
theorem dX7_remember_22 : decode cX7_remember 22 = .ok (.getfield 53, 3) := by decide +kernel
theorem dX7_remember_25 : decode cX7_remember 25 = .ok (.iload_n 1, 1) := by decide +kernel
theorem dX7_remember_26 : decode cX7_remember 26 = .ok (.iaload, 1) := by decide +kernel
theorem dX7_remember_27 : decode cX7_remember 27 = .ok (.iastore, 1) := by decide +kernel
theorem dX7_remember_28 : decode cX7_remember 28 = .ok (.iinc 1 1, 3) := by decide +kernel
theorem dX7_remember_31 : decode cX7_remember 31 = .ok (.goto (-29), 3) := by decide +kernel
theorem dX7_remember_34 : decode cX7_remember 34 = .ok (.aload_n 0, 1) := by decide +kernel
theorem dX7_remember_35 : decode cX7_remember 35 = .ok (.aload_n 0, 1) := by decide +kernel
theorem dX7_remember_36 : decode cX7_remember 36 = .ok (.getfield 270, 3) := by decide +kernel
theorem dX7_remember_39 : decode cX7_remember 39 = .ok (.iconst 1, 1) := by decide +kernel
theorem dX7_remember_40 : decode cX7_remember 40 = .ok (.iadd, 1) := by decide +kernel
theorem dX7_remember_41 : decode cX7_remember 41 = .ok (.bipush 30, 2) := by decide +kernel
theorem dX7_remember_43 : decode cX7_remember 43 = .ok (.irem, 1) := by decide +kernel
theorem dX7_remember_44 : decode cX7_remember 44 = .ok (.putfield 270, 3) := by decide +kernel
theorem dX7_remember_47 : decode cX7_remember 47 = .ok (.aload_n 0, 1) := by decide +kernel
theorem dX7_remember_48 : decode cX7_remember 48 = .ok (.dup, 1) := by decide +kernel
theorem dX7_remember_49 : decode cX7_remember 49 = .ok (.getfield 194, 3) := by decide +kernel
theorem dX7_remember_52 : decode cX7_remember 52 = .ok (.aload_n 0, 1) := by decide +kernel
theorem dX7_remember_53 : decode cX7_remember 53 = .ok (.getfield 194, 3) := by decide +kernel
theorem dX7_remember_56 : decode cX7_remember 56 = .ok (.bipush 30, 2) := by decide +kernel
theorem dX7_remember_58 : decode cX7_remember 58 = .ok (.if_icmp .ge 7, 3) := by decide +kernel
theorem dX7_remember_61 : decode cX7_remember 61 = .ok (.iconst 1, 1) := by decide +kernel
theorem dX7_remember_62 : decode cX7_remember 62 = .ok (.goto 4, 3) := by decide +kernel
theorem dX7_remember_65 : decode cX7_remember 65 = .ok (.iconst 0, 1) := by decide +kernel
theorem dX7_remember_66 : decode cX7_remember 66 = .ok (.iadd, 1) := by decide +kernel
theorem dX7_remember_67 : decode cX7_remember 67 = .ok (.putfield 194, 3) := by decide +kernel
theorem dX7_remember_70 : decode cX7_remember 70 = .ok (.return_, 1) := by decide +kernel
theorem dX7_need_0 : decode cX7_need 0 = .ok (.iload_n 1, 1) := by decide +kernel
theorem dX7_need_1 : decode cX7_need 1 = .ok (.ifCond .ne 8, 3) := by decide +kernel
theorem dX7_need_4 : decode cX7_need 4 = .ok (.ldc 89, 2) := by decide +kernel
theorem dX7_need_6 : decode cX7_need 6 = .ok (.goto 16, 3) := by decide +kernel
theorem dX7_need_9 : decode cX7_need 9 = .ok (.aload_n 0, 1) := by decide +kernel
theorem dX7_need_10 : decode cX7_need 10 = .ok (.getfield 170, 3) := by decide +kernel
theorem dX7_need_13 : decode cX7_need 13 = .ok (.ifCond .ne 8, 3) := by decide +kernel
theorem dX7_need_16 : decode cX7_need 16 = .ok (.ldc 220, 2) := by decide +kernel
theorem dX7_need_18 : decode cX7_need 18 = .ok (.goto 4, 3) := by decide +kernel
theorem dX7_need_21 : decode cX7_need 21 = .ok (.iconst 0, 1) := by decide +kernel
theorem dX7_need_22 : decode cX7_need 22 = .ok (.ireturn, 1) := by decide +kernel
theorem dX7_hour_0 : decode cX7_hour 0 = .ok (.aload_n 0, 1) := by decide +kernel
theorem dX7_hour_1 : decode cX7_hour 1 = .ok (.iload_n 1, 1) := by decide +kernel
theorem dX7_hour_2 : decode cX7_hour 2 = .ok (.iconst 1, 1) := by decide +kernel
theorem dX7_hour_3 : decode cX7_hour 3 = .ok (.bipush 60, 2) := by decide +kernel
theorem dX7_hour_5 : decode cX7_hour 5 = .ok (.invokestatic 85, 3) := by decide +kernel
theorem dX7_hour_8 : decode cX7_hour 8 = .ok (.invokevirtual 273, 3) := by decide +kernel
theorem dX7_hour_11 : decode cX7_hour 11 = .ok (.istore_n 2, 1) := by decide +kernel
theorem dX7_hour_12 : decode cX7_hour 12 = .ok (.iload_n 2, 1) := by decide +kernel
theorem dX7_hour_13 : decode cX7_hour 13 = .ok (.ifCond .ge 5, 3) := by decide +kernel
theorem dX7_hour_16 : decode cX7_hour 16 = .ok (.iload_n 2, 1) := by decide +kernel
theorem dX7_hour_17 : decode cX7_hour 17 = .ok (.ireturn, 1) := by decide +kernel
theorem dX7_hour_18 : decode cX7_hour 18 = .ok (.aload_n 0, 1) := by decide +kernel
theorem dX7_hour_19 : decode cX7_hour 19 = .ok (.getfield 53, 3) := by decide +kernel
theorem dX7_hour_22 : decode cX7_hour 22 = .ok (.iconst 0, 1) := by decide +kernel
theorem dX7_hour_23 : decode cX7_hour 23 = .ok (.iaload, 1) := by decide +kernel
theorem dX7_hour_24 : decode cX7_hour 24 = .ok (.sipush 9000, 3) := by decide +kernel
theorem dX7_hour_27 : decode cX7_hour 27 = .ok (.if_icmp .le 6, 3) := by decide +kernel
theorem dX7_hour_30 : decode cX7_hour 30 = .ok (.ldc 93, 2) := by decide +kernel
theorem dX7_hour_32 : decode cX7_hour 32 = .ok (.ireturn, 1) := by decide +kernel
theorem dX7_hour_33 : decode cX7_hour 33 = .ok (.iconst 0, 1) := by decide +kernel
theorem dX7_hour_34 : decode cX7_hour 34 = .ok (.istore_n 3, 1) := by decide +kernel
theorem dX7_hour_35 : decode cX7_hour 35 = .ok (.iconst 0, 1) := by decide +kernel
theorem dX7_hour_36 : decode cX7_hour 36 = .ok (.istore 4, 2) := by decide +kernel
theorem dX7_hour_38 : decode cX7_hour 38 = .ok (.iload 4, 2) := by decide +kernel
theorem dX7_hour_40 : decode cX7_hour 40 = .ok (.iload_n 1, 1) := by decide +kernel
theorem dX7_hour_41 : decode cX7_hour 41 = .ok (.if_icmp .ge 24, 3) := by decide +kernel
theorem dX7_hour_44 : decode cX7_hour 44 = .ok (.aload_n 0, 1) := by decide +kernel
theorem dX7_hour_45 : decode cX7_hour 45 = .ok (.invokevirtual 277, 3) := by decide +kernel
theorem dX7_hour_48 : decode cX7_hour 48 = .ok (.iload_n 3, 1) := by decide +kernel
theorem dX7_hour_49 : decode cX7_hour 49 = .ok (.aload_n 0, 1) := by decide +kernel
theorem dX7_hour_50 : decode cX7_hour 50 = .ok (.aload_n 0, 1) := by decide +kernel
theorem dX7_hour_51 : decode cX7_hour 51 = .ok (.getfield 53, 3) := by decide +kernel
theorem dX7_hour_54 : decode cX7_hour 54 = .ok (.invokevirtual 280, 3) := by decide +kernel
theorem dX7_hour_57 : decode cX7_hour 57 = .ok (.iadd, 1) := by decide +kernel
theorem dX7_hour_58 : decode cX7_hour 58 = .ok (.istore_n 3, 1) := by decide +kernel
theorem dX7_hour_59 : decode cX7_hour 59 = .ok (.iinc 4 1, 3) := by decide +kernel
theorem dX7_hour_62 : decode cX7_hour 62 = .ok (.goto (-24), 3) := by decide +kernel
theorem dX7_hour_65 : decode cX7_hour 65 = .ok (.iload_n 3, 1) := by decide +kernel
theorem dX7_hour_66 : decode cX7_hour 66 = .ok (.ireturn, 1) := by decide +kernel
theorem dX7_carry_0 : decode cX7_carry 0 = .ok (.iload_n 1, 1) := by decide +kernel
theorem dX7_carry_1 : decode cX7_carry 1 = .ok (.invokestatic 227, 3) := by decide +kernel
theorem dX7_carry_4 : decode cX7_carry 4 = .ok (.ifCond .ne 6, 3) := by decide +kernel
theorem dX7_carry_7 : decode cX7_carry 7 = .ok (.ldc 219, 2) := by decide +kernel
theorem dX7_carry_9 : decode cX7_carry 9 = .ok (.ireturn, 1) := by decide +kernel
theorem dX7_carry_10 : decode cX7_carry 10 = .ok (.aload_n 0, 1) := by decide +kernel
theorem dX7_carry_11 : decode cX7_carry 11 = .ok (.getfield 170, 3) := by decide +kernel
theorem dX7_carry_14 : decode cX7_carry 14 = .ok (.ifCond .ne 6, 3) := by decide +kernel
theorem dX7_carry_17 : decode cX7_carry 17 = .ok (.ldc 220, 2) := by decide +kernel
theorem dX7_carry_19 : decode cX7_carry 19 = .ok (.ireturn, 1) := by decide +kernel
theorem dX7_carry_20 : decode cX7_carry 20 = .ok (.aload_n 0, 1) := by decide +kernel
theorem dX7_carry_21 : decode cX7_carry 21 = .ok (.invokevirtual 277, 3) := by decide +kernel
theorem dX7_carry_24 : decode cX7_carry 24 = .ok (.aload_n 0, 1) := by decide +kernel
theorem dX7_carry_25 : decode cX7_carry 25 = .ok (.aload_n 0, 1) := by decide +kernel
theorem dX7_carry_26 : decode cX7_carry 26 = .ok (.getfield 53, 3) := by decide +kernel
theorem dX7_carry_29 : decode cX7_carry 29 = .ok (.iload_n 1, 1) := by decide +kernel
theorem dX7_carry_30 : decode cX7_carry 30 = .ok (.invokevirtual 253, 3) := by decide +kernel
theorem dX7_carry_33 : decode cX7_carry 33 = .ok (.ireturn, 1) := by decide +kernel
theorem dX7_licks_0 : decode cX7_licks 0 = .ok (.aload_n 0, 1) := by decide +kernel
theorem dX7_licks_1 : decode cX7_licks 1 = .ok (.getfield 53, 3) := by decide +kernel
theorem dX7_licks_4 : decode cX7_licks 4 = .ok (.bipush 9, 2) := by decide +kernel
theorem dX7_licks_6 : decode cX7_licks 6 = .ok (.iload_n 1, 1) := by decide +kernel
theorem dX7_licks_7 : decode cX7_licks 7 = .ok (.iadd, 1) := by decide +kernel
theorem dX7_licks_8 : decode cX7_licks 8 = .ok (.aload_n 0, 1) := by decide +kernel
theorem dX7_licks_9 : decode cX7_licks 9 = .ok (.getfield 53, 3) := by decide +kernel
theorem dX7_licks_12 : decode cX7_licks 12 = .ok (.bipush 9, 2) := by decide +kernel
theorem dX7_licks_14 : decode cX7_licks 14 = .ok (.iload_n 1, 1) := by decide +kernel
theorem dX7_licks_15 : decode cX7_licks 15 = .ok (.iadd, 1) := by decide +kernel
theorem dX7_licks_16 : decode cX7_licks 16 = .ok (.iaload, 1) := by decide +kernel
theorem dX7_licks_17 : decode cX7_licks 17 = .ok (.iload_n 2, 1) := by decide +kernel
theorem dX7_licks_18 : decode cX7_licks 18 = .ok (.if_icmp .le 17, 3) := by decide +kernel
theorem dX7_licks_21 : decode cX7_licks 21 = .ok (.aload_n 0, 1) := by decide +kernel
theorem dX7_licks_22 : decode cX7_licks 22 = .ok (.getfield 53, 3) := by decide +kernel
theorem dX7_licks_25 : decode cX7_licks 25 = .ok (.bipush 9, 2) := by decide +kernel
theorem dX7_licks_27 : decode cX7_licks 27 = .ok (.iload_n 1, 1) := by decide +kernel
theorem dX7_licks_28 : decode cX7_licks 28 = .ok (.iadd, 1) := by decide +kernel
theorem dX7_licks_29 : decode cX7_licks 29 = .ok (.iaload, 1) := by decide +kernel
theorem dX7_licks_30 : decode cX7_licks 30 = .ok (.iload_n 2, 1) := by decide +kernel
theorem dX7_licks_31 : decode cX7_licks 31 = .ok (.isub, 1) := by decide +kernel
theorem dX7_licks_32 : decode cX7_licks 32 = .ok (.goto 4, 3) := by decide +kernel
theorem dX7_licks_35 : decode cX7_licks 35 = .ok (.iconst 0, 1) := by decide +kernel
theorem dX7_licks_36 : decode cX7_licks 36 = .ok (.iastore, 1) := by decide +kernel
theorem dX7_licks_37 : decode cX7_licks 37 = .ok (.return_, 1) := by decide +kernel
theorem dX7_lick_0 : decode cX7_lick 0 = .ok (.aload_n 0, 1) := by decide +kernel
theorem dX7_lick_1 : decode cX7_lick 1 = .ok (.iload_n 1, 1) := by decide +kernel
theorem dX7_lick_2 : decode cX7_lick 2 = .ok (.invokevirtual 216, 3) := by decide +kernel
theorem dX7_lick_5 : decode cX7_lick 5 = .ok (.ifCond .ne 6, 3) := by decide +kernel
theorem dX7_lick_8 : decode cX7_lick 8 = .ok (.ldc 219, 2) := by decide +kernel
theorem dX7_lick_10 : decode cX7_lick 10 = .ok (.ireturn, 1) := by decide +kernel
theorem dX7_lick_11 : decode cX7_lick 11 = .ok (.iload_n 2, 1) := by decide +kernel
theorem dX7_lick_12 : decode cX7_lick 12 = .ok (.iconst 1, 1) := by decide +kernel
theorem dX7_lick_13 : decode cX7_lick 13 = .ok (.bipush 99, 2) := by decide +kernel
theorem dX7_lick_15 : decode cX7_lick 15 = .ok (.invokestatic 85, 3) := by decide +kernel
theorem dX7_lick_18 : decode cX7_lick 18 = .ok (.ifCond .ne 6, 3) := by decide +kernel
theorem dX7_lick_21 : decode cX7_lick 21 = .ok (.ldc 89, 2) := by decide +kernel
theorem dX7_lick_23 : decode cX7_lick 23 = .ok (.ireturn, 1) := by decide +kernel
theorem dX7_lick_24 : decode cX7_lick 24 = .ok (.aload_n 0, 1) := by decide +kernel
theorem dX7_lick_25 : decode cX7_lick 25 = .ok (.invokevirtual 277, 3) := by decide +kernel
theorem dX7_lick_28 : decode cX7_lick 28 = .ok (.aload_n 0, 1) := by decide +kernel
theorem dX7_lick_29 : decode cX7_lick 29 = .ok (.iload_n 1, 1) := by decide +kernel
theorem dX7_lick_30 : decode cX7_lick 30 = .ok (.iload_n 2, 1) := by decide +kernel
theorem dX7_lick_31 : decode cX7_lick 31 = .ok (.invokevirtual 283, 3) := by decide +kernel
theorem dX7_lick_34 : decode cX7_lick 34 = .ok (.aload_n 0, 1) := by decide +kernel
theorem dX7_lick_35 : decode cX7_lick 35 = .ok (.getfield 53, 3) := by decide +kernel
theorem dX7_lick_38 : decode cX7_lick 38 = .ok (.bipush 9, 2) := by decide +kernel
theorem dX7_lick_40 : decode cX7_lick 40 = .ok (.iload_n 1, 1) := by decide +kernel
theorem dX7_lick_41 : decode cX7_lick 41 = .ok (.iadd, 1) := by decide +kernel
theorem dX7_lick_42 : decode cX7_lick 42 = .ok (.iaload, 1) := by decide +kernel
theorem dX7_lick_43 : decode cX7_lick 43 = .ok (.ireturn, 1) := by decide +kernel
theorem dX7_mesh_0 : decode cX7_mesh 0 = .ok (.aload_n 0, 1) := by decide +kernel
theorem dX7_mesh_1 : decode cX7_mesh 1 = .ok (.iload_n 1, 1) := by decide +kernel
theorem dX7_mesh_2 : decode cX7_mesh 2 = .ok (.invokevirtual 216, 3) := by decide +kernel
theorem dX7_mesh_5 : decode cX7_mesh 5 = .ok (.ifCond .ne 6, 3) := by decide +kernel
theorem dX7_mesh_8 : decode cX7_mesh 8 = .ok (.ldc 219, 2) := by decide +kernel
theorem dX7_mesh_10 : decode cX7_mesh 10 = .ok (.ireturn, 1) := by decide +kernel
theorem dX7_mesh_11 : decode cX7_mesh 11 = .ok (.iload_n 2, 1) := by decide +kernel
theorem dX7_mesh_12 : decode cX7_mesh 12 = .ok (.iconst 0, 1) := by decide +kernel
theorem dX7_mesh_13 : decode cX7_mesh 13 = .ok (.bipush 9, 2) := by decide +kernel
theorem dX7_mesh_15 : decode cX7_mesh 15 = .ok (.invokestatic 85, 3) := by decide +kernel
theorem dX7_mesh_18 : decode cX7_mesh 18 = .ok (.ifCond .ne 6, 3) := by decide +kernel
theorem dX7_mesh_21 : decode cX7_mesh 21 = .ok (.ldc 89, 2) := by decide +kernel
theorem dX7_mesh_23 : decode cX7_mesh 23 = .ok (.ireturn, 1) := by decide +kernel
theorem dX7_mesh_24 : decode cX7_mesh 24 = .ok (.aload_n 0, 1) := by decide +kernel
theorem dX7_mesh_25 : decode cX7_mesh 25 = .ok (.invokevirtual 277, 3) := by decide +kernel
theorem dX7_mesh_28 : decode cX7_mesh 28 = .ok (.aload_n 0, 1) := by decide +kernel
theorem dX7_mesh_29 : decode cX7_mesh 29 = .ok (.getfield 53, 3) := by decide +kernel
theorem dX7_mesh_32 : decode cX7_mesh 32 = .ok (.bipush 21, 2) := by decide +kernel
theorem dX7_mesh_34 : decode cX7_mesh 34 = .ok (.iload_n 1, 1) := by decide +kernel
theorem dX7_mesh_35 : decode cX7_mesh 35 = .ok (.iadd, 1) := by decide +kernel
theorem dX7_mesh_36 : decode cX7_mesh 36 = .ok (.iaload, 1) := by decide +kernel
theorem dX7_mesh_37 : decode cX7_mesh 37 = .ok (.istore_n 3, 1) := by decide +kernel
theorem dX7_mesh_38 : decode cX7_mesh 38 = .ok (.aload_n 0, 1) := by decide +kernel
theorem dX7_mesh_39 : decode cX7_mesh 39 = .ok (.getfield 53, 3) := by decide +kernel
theorem dX7_mesh_42 : decode cX7_mesh 42 = .ok (.bipush 21, 2) := by decide +kernel
theorem dX7_mesh_44 : decode cX7_mesh 44 = .ok (.iload_n 1, 1) := by decide +kernel
theorem dX7_mesh_45 : decode cX7_mesh 45 = .ok (.iadd, 1) := by decide +kernel
theorem dX7_mesh_46 : decode cX7_mesh 46 = .ok (.iload_n 2, 1) := by decide +kernel
theorem dX7_mesh_47 : decode cX7_mesh 47 = .ok (.iastore, 1) := by decide +kernel
theorem dX7_mesh_48 : decode cX7_mesh 48 = .ok (.iload_n 3, 1) := by decide +kernel
theorem dX7_mesh_49 : decode cX7_mesh 49 = .ok (.ireturn, 1) := by decide +kernel
theorem dX7_move_0 : decode cX7_move 0 = .ok (.aload_n 0, 1) := by decide +kernel
theorem dX7_move_1 : decode cX7_move 1 = .ok (.iload_n 1, 1) := by decide +kernel
theorem dX7_move_2 : decode cX7_move 2 = .ok (.invokevirtual 216, 3) := by decide +kernel
theorem dX7_move_5 : decode cX7_move 5 = .ok (.ifCond .eq 11, 3) := by decide +kernel
theorem dX7_move_8 : decode cX7_move 8 = .ok (.aload_n 0, 1) := by decide +kernel
theorem dX7_move_9 : decode cX7_move 9 = .ok (.iload_n 2, 1) := by decide +kernel
theorem dX7_move_10 : decode cX7_move 10 = .ok (.invokevirtual 287, 3) := by decide +kernel
theorem dX7_move_13 : decode cX7_move 13 = .ok (.ifCond .ne 6, 3) := by decide +kernel
theorem dX7_move_16 : decode cX7_move 16 = .ok (.ldc 219, 2) := by decide +kernel
theorem dX7_move_18 : decode cX7_move 18 = .ok (.ireturn, 1) := by decide +kernel
theorem dX7_move_19 : decode cX7_move 19 = .ok (.aload_n 0, 1) := by decide +kernel
theorem dX7_move_20 : decode cX7_move 20 = .ok (.aload_n 0, 1) := by decide +kernel
theorem dX7_move_21 : decode cX7_move 21 = .ok (.getfield 53, 3) := by decide +kernel
theorem dX7_move_24 : decode cX7_move 24 = .ok (.iload_n 2, 1) := by decide +kernel
theorem dX7_move_25 : decode cX7_move 25 = .ok (.invokevirtual 233, 3) := by decide +kernel
theorem dX7_move_28 : decode cX7_move 28 = .ok (.iconst (-1), 1) := by decide +kernel
theorem dX7_move_29 : decode cX7_move 29 = .ok (.if_icmp .eq 6, 3) := by decide +kernel
theorem dX7_move_32 : decode cX7_move 32 = .ok (.ldc 220, 2) := by decide +kernel
theorem dX7_move_34 : decode cX7_move 34 = .ok (.ireturn, 1) := by decide +kernel
theorem dX7_move_35 : decode cX7_move 35 = .ok (.aload_n 0, 1) := by decide +kernel
theorem dX7_move_36 : decode cX7_move 36 = .ok (.invokevirtual 277, 3) := by decide +kernel
theorem dX7_move_39 : decode cX7_move 39 = .ok (.aload_n 0, 1) := by decide +kernel
theorem dX7_move_40 : decode cX7_move 40 = .ok (.getfield 53, 3) := by decide +kernel
theorem dX7_move_43 : decode cX7_move 43 = .ok (.bipush 15, 2) := by decide +kernel
theorem dX7_move_45 : decode cX7_move 45 = .ok (.iload_n 1, 1) := by decide +kernel
theorem dX7_move_46 : decode cX7_move 46 = .ok (.iadd, 1) := by decide +kernel
theorem dX7_move_47 : decode cX7_move 47 = .ok (.iaload, 1) := by decide +kernel
theorem dX7_move_48 : decode cX7_move 48 = .ok (.istore_n 3, 1) := by decide +kernel
theorem dX7_move_49 : decode cX7_move 49 = .ok (.aload_n 0, 1) := by decide +kernel
theorem dX7_move_50 : decode cX7_move 50 = .ok (.getfield 53, 3) := by decide +kernel
theorem dX7_move_53 : decode cX7_move 53 = .ok (.bipush 15, 2) := by decide +kernel
theorem dX7_move_55 : decode cX7_move 55 = .ok (.iload_n 1, 1) := by decide +kernel
theorem dX7_move_56 : decode cX7_move 56 = .ok (.iadd, 1) := by decide +kernel
theorem dX7_move_57 : decode cX7_move 57 = .ok (.iload_n 2, 1) := by decide +kernel
theorem dX7_move_58 : decode cX7_move 58 = .ok (.iastore, 1) := by decide +kernel
theorem dX7_move_59 : decode cX7_move 59 = .ok (.iload_n 3, 1) := by decide +kernel
theorem dX7_move_60 : decode cX7_move 60 = .ok (.ireturn, 1) := by decide +kernel
theorem dX7_lamp_0 : decode cX7_lamp 0 = .ok (.aload_n 0, 1) := by decide +kernel
theorem dX7_lamp_1 : decode cX7_lamp 1 = .ok (.getfield 170, 3) := by decide +kernel
theorem dX7_lamp_4 : decode cX7_lamp 4 = .ok (.ifCond .ne 6, 3) := by decide +kernel
theorem dX7_lamp_7 : decode cX7_lamp 7 = .ok (.ldc 220, 2) := by decide +kernel
theorem dX7_lamp_9 : decode cX7_lamp 9 = .ok (.ireturn, 1) := by decide +kernel
theorem dX7_lamp_10 : decode cX7_lamp 10 = .ok (.aload_n 0, 1) := by decide +kernel
theorem dX7_lamp_11 : decode cX7_lamp 11 = .ok (.invokevirtual 277, 3) := by decide +kernel
theorem dX7_lamp_14 : decode cX7_lamp 14 = .ok (.aload_n 0, 1) := by decide +kernel
theorem dX7_lamp_15 : decode cX7_lamp 15 = .ok (.getfield 53, 3) := by decide +kernel
theorem dX7_lamp_18 : decode cX7_lamp 18 = .ok (.iconst 2, 1) := by decide +kernel
theorem dX7_lamp_19 : decode cX7_lamp 19 = .ok (.iaload, 1) := by decide +kernel
theorem dX7_lamp_20 : decode cX7_lamp 20 = .ok (.istore_n 2, 1) := by decide +kernel
theorem dX7_lamp_21 : decode cX7_lamp 21 = .ok (.aload_n 0, 1) := by decide +kernel
theorem dX7_lamp_22 : decode cX7_lamp 22 = .ok (.getfield 53, 3) := by decide +kernel
theorem dX7_lamp_25 : decode cX7_lamp 25 = .ok (.iconst 2, 1) := by decide +kernel
theorem dX7_lamp_26 : decode cX7_lamp 26 = .ok (.iload_n 1, 1) := by decide +kernel
theorem dX7_lamp_27 : decode cX7_lamp 27 = .ok (.ifCond .eq 7, 3) := by decide +kernel
theorem dX7_lamp_30 : decode cX7_lamp 30 = .ok (.iconst 1, 1) := by decide +kernel
theorem dX7_lamp_31 : decode cX7_lamp 31 = .ok (.goto 4, 3) := by decide +kernel
theorem dX7_lamp_34 : decode cX7_lamp 34 = .ok (.iconst 0, 1) := by decide +kernel
theorem dX7_lamp_35 : decode cX7_lamp 35 = .ok (.iastore, 1) := by decide +kernel
theorem dX7_lamp_36 : decode cX7_lamp 36 = .ok (.iload_n 2, 1) := by decide +kernel
theorem dX7_lamp_37 : decode cX7_lamp 37 = .ok (.ireturn, 1) := by decide +kernel
theorem dX7_draw_0 : decode cX7_draw 0 = .ok (.aload_n 0, 1) := by decide +kernel
theorem dX7_draw_1 : decode cX7_draw 1 = .ok (.aload_n 0, 1) := by decide +kernel
theorem dX7_draw_2 : decode cX7_draw 2 = .ok (.getfield 290, 3) := by decide +kernel
theorem dX7_draw_5 : decode cX7_draw 5 = .ok (.ldc2_w 294, 3) := by decide +kernel
theorem dX7_draw_8 : decode cX7_draw 8 = .ok (.lmul, 1) := by decide +kernel
theorem dX7_draw_9 : decode cX7_draw 9 = .ok (.ldc2_w 296, 3) := by decide +kernel
theorem dX7_draw_12 : decode cX7_draw 12 = .ok (.ladd, 1) := by decide +kernel
theorem dX7_draw_13 : decode cX7_draw 13 = .ok (.ldc2_w 298, 3) := by decide +kernel
theorem dX7_draw_16 : decode cX7_draw 16 = .ok (.lrem, 1) := by decide +kernel
theorem dX7_draw_17 : decode cX7_draw 17 = .ok (.putfield 290, 3) := by decide +kernel
theorem dX7_draw_20 : decode cX7_draw 20 = .ok (.aload_n 0, 1) := by decide +kernel
theorem dX7_draw_21 : decode cX7_draw 21 = .ok (.getfield 290, 3) := by decide +kernel
theorem dX7_draw_24 : decode cX7_draw 24 = .ok (.ldc2_w 300, 3) := by decide +kernel
theorem dX7_draw_27 : decode cX7_draw 27 = .ok (.ldiv, 1) := by decide +kernel
theorem dX7_draw_28 : decode cX7_draw 28 = .ok (.iload_n 1, 1) := by decide +kernel
theorem dX7_draw_29 : decode cX7_draw 29 = .ok (.i2l, 1) := by decide +kernel
theorem dX7_draw_30 : decode cX7_draw 30 = .ok (.lrem, 1) := by decide +kernel
theorem dX7_draw_31 : decode cX7_draw 31 = .ok (.l2i, 1) := by decide +kernel
theorem dX7_draw_32 : decode cX7_draw 32 = .ok (.ireturn, 1) := by decide +kernel
theorem dX7_drift_0 : decode cX7_drift 0 = .ok (.aload_n 0, 1) := by decide +kernel
theorem dX7_drift_1 : decode cX7_drift 1 = .ok (.iload_n 1, 1) := by decide +kernel
theorem dX7_drift_2 : decode cX7_drift 2 = .ok (.iconst 1, 1) := by decide +kernel
theorem dX7_drift_3 : decode cX7_drift 3 = .ok (.bipush 60, 2) := by decide +kernel
theorem dX7_drift_5 : decode cX7_drift 5 = .ok (.invokestatic 85, 3) := by decide +kernel
theorem dX7_drift_8 : decode cX7_drift 8 = .ok (.invokevirtual 273, 3) := by decide +kernel
theorem dX7_drift_11 : decode cX7_drift 11 = .ok (.istore_n 2, 1) := by decide +kernel
theorem dX7_drift_12 : decode cX7_drift 12 = .ok (.iload_n 2, 1) := by decide +kernel
theorem dX7_drift_13 : decode cX7_drift 13 = .ok (.ifCond .ge 5, 3) := by decide +kernel
theorem dX7_drift_16 : decode cX7_drift 16 = .ok (.iload_n 2, 1) := by decide +kernel
theorem dX7_drift_17 : decode cX7_drift 17 = .ok (.ireturn, 1) := by decide +kernel
theorem dX7_drift_18 : decode cX7_drift 18 = .ok (.aload_n 0, 1) := by decide +kernel
theorem dX7_drift_19 : decode cX7_drift 19 = .ok (.getfield 53, 3) := by decide +kernel
theorem dX7_drift_22 : decode cX7_drift 22 = .ok (.iconst 0, 1) := by decide +kernel
theorem dX7_drift_23 : decode cX7_drift 23 = .ok (.iaload, 1) := by decide +kernel
theorem dX7_drift_24 : decode cX7_drift 24 = .ok (.sipush 9000, 3) := by decide +kernel
theorem dX7_drift_27 : decode cX7_drift 27 = .ok (.if_icmp .le 6, 3) := by decide +kernel
theorem dX7_drift_30 : decode cX7_drift 30 = .ok (.ldc 93, 2) := by decide +kernel
theorem dX7_drift_32 : decode cX7_drift 32 = .ok (.ireturn, 1) := by decide +kernel
theorem dX7_drift_33 : decode cX7_drift 33 = .ok (.iconst 0, 1) := by decide +kernel
theorem dX7_drift_34 : decode cX7_drift 34 = .ok (.istore_n 3, 1) := by decide +kernel
theorem dX7_drift_35 : decode cX7_drift 35 = .ok (.iconst 0, 1) := by decide +kernel
theorem dX7_drift_36 : decode cX7_drift 36 = .ok (.istore 4, 2) := by decide +kernel
theorem dX7_drift_38 : decode cX7_drift 38 = .ok (.iload 4, 2) := by decide +kernel
theorem dX7_drift_40 : decode cX7_drift 40 = .ok (.iload_n 1, 1) := by decide +kernel
theorem dX7_drift_41 : decode cX7_drift 41 = .ok (.if_icmp .ge 86, 3) := by decide +kernel
theorem dX7_drift_44 : decode cX7_drift 44 = .ok (.aload_n 0, 1) := by decide +kernel
theorem dX7_drift_45 : decode cX7_drift 45 = .ok (.invokevirtual 277, 3) := by decide +kernel
theorem dX7_drift_48 : decode cX7_drift 48 = .ok (.aload_n 0, 1) := by decide +kernel
theorem dX7_drift_49 : decode cX7_drift 49 = .ok (.bipush 41, 2) := by decide +kernel
theorem dX7_drift_51 : decode cX7_drift 51 = .ok (.invokevirtual 302, 3) := by decide +kernel
theorem dX7_drift_54 : decode cX7_drift 54 = .ok (.istore 5, 2) := by decide +kernel
theorem dX7_drift_56 : decode cX7_drift 56 = .ok (.iload_n 3, 1) := by decide +kernel
theorem dX7_drift_57 : decode cX7_drift 57 = .ok (.aload_n 0, 1) := by decide +kernel
theorem dX7_drift_58 : decode cX7_drift 58 = .ok (.aload_n 0, 1) := by decide +kernel
theorem dX7_drift_59 : decode cX7_drift 59 = .ok (.getfield 53, 3) := by decide +kernel
theorem dX7_drift_62 : decode cX7_drift 62 = .ok (.iload 5, 2) := by decide +kernel
theorem dX7_drift_64 : decode cX7_drift 64 = .ok (.aload_n 0, 1) := by decide +kernel
theorem dX7_drift_65 : decode cX7_drift 65 = .ok (.iconst 2, 1) := by decide +kernel
theorem dX7_drift_66 : decode cX7_drift 66 = .ok (.invokevirtual 302, 3) := by decide +kernel
theorem dX7_drift_69 : decode cX7_drift 69 = .ok (.ifCond .ne 7, 3) := by decide +kernel
theorem dX7_drift_72 : decode cX7_drift 72 = .ok (.iconst 0, 1) := by decide +kernel
theorem dX7_drift_73 : decode cX7_drift 73 = .ok (.goto 4, 3) := by decide +kernel
theorem dX7_drift_76 : decode cX7_drift 76 = .ok (.iconst 1, 1) := by decide +kernel
theorem dX7_drift_77 : decode cX7_drift 77 = .ok (.iconst 0, 1) := by decide +kernel
theorem dX7_drift_78 : decode cX7_drift 78 = .ok (.invokevirtual 266, 3) := by decide +kernel
theorem dX7_drift_81 : decode cX7_drift 81 = .ok (.iadd, 1) := by decide +kernel
theorem dX7_drift_82 : decode cX7_drift 82 = .ok (.istore_n 3, 1) := by decide +kernel
theorem dX7_drift_83 : decode cX7_drift 83 = .ok (.aload_n 0, 1) := by decide +kernel
theorem dX7_drift_84 : decode cX7_drift 84 = .ok (.getfield 179, 3) := by decide +kernel
theorem dX7_drift_87 : decode cX7_drift 87 = .ok (.ifCond .le 34, 3) := by decide +kernel
theorem dX7_drift_90 : decode cX7_drift 90 = .ok (.aload_n 0, 1) := by decide +kernel
theorem dX7_drift_91 : decode cX7_drift 91 = .ok (.bipush 8, 2) := by decide +kernel
theorem dX7_drift_93 : decode cX7_drift 93 = .ok (.invokevirtual 302, 3) := by decide +kernel
theorem dX7_drift_96 : decode cX7_drift 96 = .ok (.ifCond .ne 25, 3) := by decide +kernel
theorem dX7_drift_99 : decode cX7_drift 99 = .ok (.aload_n 0, 1) := by decide +kernel
theorem dX7_drift_100 : decode cX7_drift 100 = .ok (.aload_n 0, 1) := by decide +kernel
theorem dX7_drift_101 : decode cX7_drift 101 = .ok (.getfield 179, 3) := by decide +kernel
theorem dX7_drift_104 : decode cX7_drift 104 = .ok (.invokevirtual 302, 3) := by decide +kernel
theorem dX7_drift_107 : decode cX7_drift 107 = .ok (.istore 6, 2) := by decide +kernel
theorem dX7_drift_109 : decode cX7_drift 109 = .ok (.aload_n 0, 1) := by decide +kernel
theorem dX7_drift_110 : decode cX7_drift 110 = .ok (.iload 6, 2) := by decide +kernel
theorem dX7_drift_112 : decode cX7_drift 112 = .ok (.aload_n 0, 1) := by decide +kernel
theorem dX7_drift_113 : decode cX7_drift 113 = .ok (.bipush 10, 2) := by decide +kernel
theorem dX7_drift_115 : decode cX7_drift 115 = .ok (.invokevirtual 302, 3) := by decide +kernel
theorem dX7_drift_118 : decode cX7_drift 118 = .ok (.invokevirtual 283, 3) := by decide +kernel
theorem dX7_drift_121 : decode cX7_drift 121 = .ok (.iinc 4 1, 3) := by decide +kernel
theorem dX7_drift_124 : decode cX7_drift 124 = .ok (.goto (-86), 3) := by decide +kernel
theorem dX7_drift_127 : decode cX7_drift 127 = .ok (.iload_n 3, 1) := by decide +kernel
theorem dX7_drift_128 : decode cX7_drift 128 = .ok (.ireturn, 1) := by decide +kernel
theorem dX7_undo_0 : decode cX7_undo 0 = .ok (.iload_n 1, 1) := by decide +kernel
theorem dX7_undo_1 : decode cX7_undo 1 = .ok (.iconst 1, 1) := by decide +kernel
theorem dX7_undo_2 : decode cX7_undo 2 = .ok (.bipush 30, 2) := by decide +kernel
theorem dX7_undo_4 : decode cX7_undo 4 = .ok (.invokestatic 85, 3) := by decide +kernel
theorem dX7_undo_7 : decode cX7_undo 7 = .ok (.ifCond .ne 6, 3) := by decide +kernel
theorem dX7_undo_10 : decode cX7_undo 10 = .ok (.ldc 89, 2) := by decide +kernel
theorem dX7_undo_12 : decode cX7_undo 12 = .ok (.ireturn, 1) := by decide +kernel
theorem dX7_undo_13 : decode cX7_undo 13 = .ok (.aload_n 0, 1) := by decide +kernel
theorem dX7_undo_14 : decode cX7_undo 14 = .ok (.getfield 194, 3) := by decide +kernel
theorem dX7_undo_17 : decode cX7_undo 17 = .ok (.iload_n 1, 1) := by decide +kernel
theorem dX7_undo_18 : decode cX7_undo 18 = .ok (.if_icmp .ge 6, 3) := by decide +kernel
theorem dX7_undo_21 : decode cX7_undo 21 = .ok (.ldc 220, 2) := by decide +kernel
theorem dX7_undo_23 : decode cX7_undo 23 = .ok (.ireturn, 1) := by decide +kernel
theorem dX7_undo_24 : decode cX7_undo 24 = .ok (.aload_n 0, 1) := by decide +kernel
theorem dX7_undo_25 : decode cX7_undo 25 = .ok (.aload_n 0, 1) := by decide +kernel
theorem dX7_undo_26 : decode cX7_undo 26 = .ok (.getfield 270, 3) := by decide +kernel
theorem dX7_undo_29 : decode cX7_undo 29 = .ok (.bipush 30, 2) := by decide +kernel
theorem dX7_undo_31 : decode cX7_undo 31 = .ok (.iadd, 1) := by decide +kernel
theorem dX7_undo_32 : decode cX7_undo 32 = .ok (.iload_n 1, 1) := by decide +kernel
theorem dX7_undo_33 : decode cX7_undo 33 = .ok (.isub, 1) := by decide +kernel
theorem dX7_undo_34 : decode cX7_undo 34 = .ok (.bipush 30, 2) := by decide +kernel
theorem dX7_undo_36 : decode cX7_undo 36 = .ok (.irem, 1) := by decide +kernel
theorem dX7_undo_37 : decode cX7_undo 37 = .ok (.putfield 270, 3) := by decide +kernel
theorem dX7_undo_40 : decode cX7_undo 40 = .ok (.aload_n 0, 1) := by decide +kernel
theorem dX7_undo_41 : decode cX7_undo 41 = .ok (.dup, 1) := by decide +kernel
theorem dX7_undo_42 : decode cX7_undo 42 = .ok (.getfield 194, 3) := by decide +kernel
theorem dX7_undo_45 : decode cX7_undo 45 = .ok (.iload_n 1, 1) := by decide +kernel
theorem dX7_undo_46 : decode cX7_undo 46 = .ok (.isub, 1) := by decide +kernel
theorem dX7_undo_47 : decode cX7_undo 47 = .ok (.putfield 194, 3) := by decide +kernel
theorem dX7_undo_50 : decode cX7_undo 50 = .ok (.iconst 0, 1) := by decide +kernel
theorem dX7_undo_51 : decode cX7_undo 51 = .ok (.istore_n 2, 1) := by decide +kernel
theorem dX7_undo_52 : decode cX7_undo 52 = .ok (.iload_n 2, 1) := by decide +kernel
theorem dX7_undo_53 : decode cX7_undo 53 = .ok (.bipush 27, 2) := by decide +kernel
theorem dX7_undo_55 : decode cX7_undo 55 = .ok (.if_icmp .ge 29, 3) := by decide +kernel
theorem dX7_undo_58 : decode cX7_undo 58 = .ok (.aload_n 0, 1) := by decide +kernel
theorem dX7_undo_59 : decode cX7_undo 59 = .ok (.getfield 53, 3) := by decide +kernel
theorem dX7_undo_62 : decode cX7_undo 62 = .ok (.iload_n 2, 1) := by decide +kernel
theorem dX7_undo_63 : decode cX7_undo 63 = .ok (.aload_n 0, 1) := by decide +kernel
theorem dX7_undo_64 : decode cX7_undo 64 = .ok (.getfield 62, 3) := by decide +kernel
theorem dX7_undo_67 : decode cX7_undo 67 = .ok (.bipush 27, 2) := by decide +kernel
theorem dX7_undo_69 : decode cX7_undo 69 = .ok (.aload_n 0, 1) := by decide +kernel
theorem dX7_undo_70 : decode cX7_undo 70 = .ok (.getfield 270, 3) := by decide +kernel
theorem dX7_undo_73 : decode cX7_undo 73 = .ok (.imul, 1) := by decide +kernel
theorem dX7_undo_74 : decode cX7_undo 74 = .ok (.iload_n 2, 1) := by decide +kernel
theorem dX7_undo_75 : decode cX7_undo 75 = .ok (.iadd, 1) := by decide +kernel
theorem dX7_undo_76 : decode cX7_undo 76 = .ok (.iaload, 1) := by decide +kernel
theorem dX7_undo_77 : decode cX7_undo 77 = .ok (.iastore, 1) := by decide +kernel
theorem dX7_undo_78 : decode cX7_undo 78 = .ok (.iinc 2 1, 3) := by decide +kernel
theorem dX7_undo_81 : decode cX7_undo 81 = .ok (.goto (-29), 3) := by decide +kernel
theorem dX7_undo_84 : decode cX7_undo 84 = .ok (.aload_n 0, 1) := by decide +kernel
theorem dX7_undo_85 : decode cX7_undo 85 = .ok (.getfield 53, 3) := by decide +kernel
theorem dX7_undo_88 : decode cX7_undo 88 = .ok (.iconst 0, 1) := by decide +kernel
theorem dX7_undo_89 : decode cX7_undo 89 = .ok (.iaload, 1) := by decide +kernel
theorem dX7_undo_90 : decode cX7_undo 90 = .ok (.ireturn, 1) := by decide +kernel
theorem dX7_copyNow_0 : decode cX7_copyNow 0 = .ok (.iconst 0, 1) := by decide +kernel
theorem dX7_copyNow_1 : decode cX7_copyNow 1 = .ok (.istore_n 1, 1) := by decide +kernel
theorem dX7_copyNow_2 : decode cX7_copyNow 2 = .ok (.iload_n 1, 1) := by decide +kernel
theorem dX7_copyNow_3 : decode cX7_copyNow 3 = .ok (.bipush 27, 2) := by decide +kernel
theorem dX7_copyNow_5 : decode cX7_copyNow 5 = .ok (.if_icmp .ge 21, 3) := by decide +kernel
theorem dX7_copyNow_8 : decode cX7_copyNow 8 = .ok (.aload_n 0, 1) := by decide +kernel
theorem dX7_copyNow_9 : decode cX7_copyNow 9 = .ok (.getfield 56, 3) := by decide +kernel
theorem dX7_copyNow_12 : decode cX7_copyNow 12 = .ok (.iload_n 1, 1) := by decide +kernel
theorem dX7_copyNow_13 : decode cX7_copyNow 13 = .ok (.aload_n 0, 1) := by decide +kernel
theorem dX7_copyNow_14 : decode cX7_copyNow 14 = .ok (.getfield 53, 3) := by decide +kernel
theorem dX7_copyNow_17 : decode cX7_copyNow 17 = .ok (.iload_n 1, 1) := by decide +kernel
theorem dX7_copyNow_18 : decode cX7_copyNow 18 = .ok (.iaload, 1) := by decide +kernel
theorem dX7_copyNow_19 : decode cX7_copyNow 19 = .ok (.iastore, 1) := by decide +kernel
theorem dX7_copyNow_20 : decode cX7_copyNow 20 = .ok (.iinc 1 1, 3) := by decide +kernel
theorem dX7_copyNow_23 : decode cX7_copyNow 23 = .ok (.goto (-21), 3) := by decide +kernel
theorem dX7_copyNow_26 : decode cX7_copyNow 26 = .ok (.return_, 1) := by decide +kernel
theorem dX7_goesOn_0 : decode cX7_goesOn 0 = .ok (.iconst 0, 1) := by decide +kernel
theorem dX7_goesOn_1 : decode cX7_goesOn 1 = .ok (.istore_n 2, 1) := by decide +kernel
theorem dX7_goesOn_2 : decode cX7_goesOn 2 = .ok (.iload_n 2, 1) := by decide +kernel
theorem dX7_goesOn_3 : decode cX7_goesOn 3 = .ok (.aload_n 0, 1) := by decide +kernel
theorem dX7_goesOn_4 : decode cX7_goesOn 4 = .ok (.getfield 179, 3) := by decide +kernel
theorem dX7_goesOn_7 : decode cX7_goesOn 7 = .ok (.if_icmp .ge 16, 3) := by decide +kernel
theorem dX7_goesOn_10 : decode cX7_goesOn 10 = .ok (.aload_n 0, 1) := by decide +kernel
theorem dX7_goesOn_11 : decode cX7_goesOn 11 = .ok (.getfield 65, 3) := by decide +kernel
theorem dX7_goesOn_14 : decode cX7_goesOn 14 = .ok (.iload_n 2, 1) := by decide +kernel
theorem dX7_goesOn_15 : decode cX7_goesOn 15 = .ok (.iconst 0, 1) := by decide +kernel
theorem dX7_goesOn_16 : decode cX7_goesOn 16 = .ok (.iastore, 1) := by decide +kernel
theorem dX7_goesOn_17 : decode cX7_goesOn 17 = .ok (.iinc 2 1, 3) := by decide +kernel
theorem dX7_goesOn_20 : decode cX7_goesOn 20 = .ok (.goto (-18), 3) := by decide +kernel
theorem dX7_goesOn_23 : decode cX7_goesOn 23 = .ok (.iconst 0, 1) := by decide +kernel
theorem dX7_goesOn_24 : decode cX7_goesOn 24 = .ok (.istore_n 2, 1) := by decide +kernel
theorem dX7_goesOn_25 : decode cX7_goesOn 25 = .ok (.iload_n 2, 1) := by decide +kernel
theorem dX7_goesOn_26 : decode cX7_goesOn 26 = .ok (.iload_n 1, 1) := by decide +kernel
theorem dX7_goesOn_27 : decode cX7_goesOn 27 = .ok (.if_icmp .ge 49, 3) := by decide +kernel
theorem dX7_goesOn_30 : decode cX7_goesOn 30 = .ok (.aload_n 0, 1) := by decide +kernel
theorem dX7_goesOn_31 : decode cX7_goesOn 31 = .ok (.aload_n 0, 1) := by decide +kernel
theorem dX7_goesOn_32 : decode cX7_goesOn 32 = .ok (.getfield 56, 3) := by decide +kernel
theorem dX7_goesOn_35 : decode cX7_goesOn 35 = .ok (.invokevirtual 280, 3) := by decide +kernel
theorem dX7_goesOn_38 : decode cX7_goesOn 38 = .ok (.pop, 1) := by decide +kernel
theorem dX7_goesOn_39 : decode cX7_goesOn 39 = .ok (.iconst 0, 1) := by decide +kernel
theorem dX7_goesOn_40 : decode cX7_goesOn 40 = .ok (.istore_n 3, 1) := by decide +kernel
theorem dX7_goesOn_41 : decode cX7_goesOn 41 = .ok (.iload_n 3, 1) := by decide +kernel
theorem dX7_goesOn_42 : decode cX7_goesOn 42 = .ok (.aload_n 0, 1) := by decide +kernel
theorem dX7_goesOn_43 : decode cX7_goesOn 43 = .ok (.getfield 179, 3) := by decide +kernel
theorem dX7_goesOn_46 : decode cX7_goesOn 46 = .ok (.if_icmp .ge 24, 3) := by decide +kernel
theorem dX7_goesOn_49 : decode cX7_goesOn 49 = .ok (.aload_n 0, 1) := by decide +kernel
theorem dX7_goesOn_50 : decode cX7_goesOn 50 = .ok (.getfield 65, 3) := by decide +kernel
theorem dX7_goesOn_53 : decode cX7_goesOn 53 = .ok (.iload_n 3, 1) := by decide +kernel
theorem dX7_goesOn_54 : decode cX7_goesOn 54 = .ok (.dup2, 1) := by decide +kernel
theorem dX7_goesOn_55 : decode cX7_goesOn 55 = .ok (.iaload, 1) := by decide +kernel
theorem dX7_goesOn_56 : decode cX7_goesOn 56 = .ok (.aload_n 0, 1) := by decide +kernel
theorem dX7_goesOn_57 : decode cX7_goesOn 57 = .ok (.getfield 59, 3) := by decide +kernel
theorem dX7_goesOn_60 : decode cX7_goesOn 60 = .ok (.iload_n 3, 1) := by decide +kernel
theorem dX7_goesOn_61 : decode cX7_goesOn 61 = .ok (.iaload, 1) := by decide +kernel
theorem dX7_goesOn_62 : decode cX7_goesOn 62 = .ok (.iadd, 1) := by decide +kernel
theorem dX7_goesOn_63 : decode cX7_goesOn 63 = .ok (.iastore, 1) := by decide +kernel
theorem dX7_goesOn_64 : decode cX7_goesOn 64 = .ok (.iinc 3 1, 3) := by decide +kernel
theorem dX7_goesOn_67 : decode cX7_goesOn 67 = .ok (.goto (-26), 3) := by decide +kernel
theorem dX7_goesOn_70 : decode cX7_goesOn 70 = .ok (.iinc 2 1, 3) := by decide +kernel
theorem dX7_goesOn_73 : decode cX7_goesOn 73 = .ok (.goto (-48), 3) := by decide +kernel
theorem dX7_goesOn_76 : decode cX7_goesOn 76 = .ok (.return_, 1) := by decide +kernel
theorem dX7_gets_0 : decode cX7_gets 0 = .ok (.aload_n 0, 1) := by decide +kernel
theorem dX7_gets_1 : decode cX7_gets 1 = .ok (.iload_n 1, 1) := by decide +kernel
theorem dX7_gets_2 : decode cX7_gets 2 = .ok (.invokevirtual 216, 3) := by decide +kernel
theorem dX7_gets_5 : decode cX7_gets 5 = .ok (.ifCond .ne 6, 3) := by decide +kernel
theorem dX7_gets_8 : decode cX7_gets 8 = .ok (.ldc 219, 2) := by decide +kernel
theorem dX7_gets_10 : decode cX7_gets 10 = .ok (.ireturn, 1) := by decide +kernel
theorem dX7_gets_11 : decode cX7_gets 11 = .ok (.iload_n 2, 1) := by decide +kernel
theorem dX7_gets_12 : decode cX7_gets 12 = .ok (.iconst 0, 1) := by decide +kernel
theorem dX7_gets_13 : decode cX7_gets 13 = .ok (.bipush 99, 2) := by decide +kernel
theorem dX7_gets_15 : decode cX7_gets 15 = .ok (.invokestatic 85, 3) := by decide +kernel
theorem dX7_gets_18 : decode cX7_gets 18 = .ok (.ifCond .ne 6, 3) := by decide +kernel
theorem dX7_gets_21 : decode cX7_gets 21 = .ok (.ldc 89, 2) := by decide +kernel
theorem dX7_gets_23 : decode cX7_gets 23 = .ok (.ireturn, 1) := by decide +kernel
theorem dX7_gets_24 : decode cX7_gets 24 = .ok (.aload_n 0, 1) := by decide +kernel
theorem dX7_gets_25 : decode cX7_gets 25 = .ok (.invokevirtual 305, 3) := by decide +kernel
theorem dX7_gets_28 : decode cX7_gets 28 = .ok (.aload_n 0, 1) := by decide +kernel
theorem dX7_gets_29 : decode cX7_gets 29 = .ok (.iload_n 2, 1) := by decide +kernel
theorem dX7_gets_30 : decode cX7_gets 30 = .ok (.invokevirtual 308, 3) := by decide +kernel
theorem dX7_gets_33 : decode cX7_gets 33 = .ok (.aload_n 0, 1) := by decide +kernel
theorem dX7_gets_34 : decode cX7_gets 34 = .ok (.getfield 65, 3) := by decide +kernel
theorem dX7_gets_37 : decode cX7_gets 37 = .ok (.iload_n 1, 1) := by decide +kernel
theorem dX7_gets_38 : decode cX7_gets 38 = .ok (.iaload, 1) := by decide +kernel
theorem dX7_gets_39 : decode cX7_gets 39 = .ok (.ireturn, 1) := by decide +kernel
theorem dX7_level_0 : decode cX7_level 0 = .ok (.aload_n 0, 1) := by decide +kernel
theorem dX7_level_1 : decode cX7_level 1 = .ok (.iload_n 1, 1) := by decide +kernel
theorem dX7_level_2 : decode cX7_level 2 = .ok (.invokevirtual 216, 3) := by decide +kernel
theorem dX7_level_5 : decode cX7_level 5 = .ok (.ifCond .ne 6, 3) := by decide +kernel
theorem dX7_level_8 : decode cX7_level 8 = .ok (.ldc 219, 2) := by decide +kernel
theorem dX7_level_10 : decode cX7_level 10 = .ok (.ireturn, 1) := by decide +kernel
theorem dX7_level_11 : decode cX7_level 11 = .ok (.iload_n 2, 1) := by decide +kernel
theorem dX7_level_12 : decode cX7_level 12 = .ok (.iconst 0, 1) := by decide +kernel
theorem dX7_level_13 : decode cX7_level 13 = .ok (.bipush 99, 2) := by decide +kernel
theorem dX7_level_15 : decode cX7_level 15 = .ok (.invokestatic 85, 3) := by decide +kernel
theorem dX7_level_18 : decode cX7_level 18 = .ok (.ifCond .ne 6, 3) := by decide +kernel
theorem dX7_level_21 : decode cX7_level 21 = .ok (.ldc 89, 2) := by decide +kernel
theorem dX7_level_23 : decode cX7_level 23 = .ok (.ireturn, 1) := by decide +kernel
theorem dX7_level_24 : decode cX7_level 24 = .ok (.aload_n 0, 1) := by decide +kernel
theorem dX7_level_25 : decode cX7_level 25 = .ok (.invokevirtual 305, 3) := by decide +kernel
theorem dX7_level_28 : decode cX7_level 28 = .ok (.aload_n 0, 1) := by decide +kernel
theorem dX7_level_29 : decode cX7_level 29 = .ok (.iload_n 2, 1) := by decide +kernel
theorem dX7_level_30 : decode cX7_level 30 = .ok (.invokevirtual 308, 3) := by decide +kernel
theorem dX7_level_33 : decode cX7_level 33 = .ok (.aload_n 0, 1) := by decide +kernel
theorem dX7_level_34 : decode cX7_level 34 = .ok (.getfield 56, 3) := by decide +kernel
theorem dX7_level_37 : decode cX7_level 37 = .ok (.bipush 9, 2) := by decide +kernel
theorem dX7_level_39 : decode cX7_level 39 = .ok (.iload_n 1, 1) := by decide +kernel
theorem dX7_level_40 : decode cX7_level 40 = .ok (.iadd, 1) := by decide +kernel
theorem dX7_level_41 : decode cX7_level 41 = .ok (.iaload, 1) := by decide +kernel
theorem dX7_level_42 : decode cX7_level 42 = .ok (.ireturn, 1) := by decide +kernel
theorem dX7_shadow_0 : decode cX7_shadow 0 = .ok (.aload_n 0, 1) := by decide +kernel
theorem dX7_shadow_1 : decode cX7_shadow 1 = .ok (.iload_n 1, 1) := by decide +kernel
theorem dX7_shadow_2 : decode cX7_shadow 2 = .ok (.invokevirtual 216, 3) := by decide +kernel
theorem dX7_shadow_5 : decode cX7_shadow 5 = .ok (.ifCond .ne 6, 3) := by decide +kernel
theorem dX7_shadow_8 : decode cX7_shadow 8 = .ok (.ldc 219, 2) := by decide +kernel
theorem dX7_shadow_10 : decode cX7_shadow 10 = .ok (.ireturn, 1) := by decide +kernel
theorem dX7_shadow_11 : decode cX7_shadow 11 = .ok (.aload_n 0, 1) := by decide +kernel
theorem dX7_shadow_12 : decode cX7_shadow 12 = .ok (.aload_n 0, 1) := by decide +kernel
theorem dX7_shadow_13 : decode cX7_shadow 13 = .ok (.getfield 53, 3) := by decide +kernel
theorem dX7_shadow_16 : decode cX7_shadow 16 = .ok (.iload_n 1, 1) := by decide +kernel
theorem dX7_shadow_17 : decode cX7_shadow 17 = .ok (.invokevirtual 201, 3) := by decide +kernel
theorem dX7_shadow_20 : decode cX7_shadow 20 = .ok (.ifCond .ne 5, 3) := by decide +kernel
theorem dX7_shadow_23 : decode cX7_shadow 23 = .ok (.iconst 0, 1) := by decide +kernel
theorem dX7_shadow_24 : decode cX7_shadow 24 = .ok (.ireturn, 1) := by decide +kernel
theorem dX7_shadow_25 : decode cX7_shadow 25 = .ok (.aload_n 0, 1) := by decide +kernel
theorem dX7_shadow_26 : decode cX7_shadow 26 = .ok (.aload_n 0, 1) := by decide +kernel
theorem dX7_shadow_27 : decode cX7_shadow 27 = .ok (.getfield 53, 3) := by decide +kernel
theorem dX7_shadow_30 : decode cX7_shadow 30 = .ok (.invokevirtual 224, 3) := by decide +kernel
theorem dX7_shadow_33 : decode cX7_shadow 33 = .ok (.aload_n 0, 1) := by decide +kernel
theorem dX7_shadow_34 : decode cX7_shadow 34 = .ok (.getfield 53, 3) := by decide +kernel
theorem dX7_shadow_37 : decode cX7_shadow 37 = .ok (.iconst 2, 1) := by decide +kernel
theorem dX7_shadow_38 : decode cX7_shadow 38 = .ok (.iaload, 1) := by decide +kernel
theorem dX7_shadow_39 : decode cX7_shadow 39 = .ok (.aload_n 0, 1) := by decide +kernel
theorem dX7_shadow_40 : decode cX7_shadow 40 = .ok (.getfield 176, 3) := by decide +kernel
theorem dX7_shadow_43 : decode cX7_shadow 43 = .ok (.invokestatic 245, 3) := by decide +kernel
theorem dX7_shadow_46 : decode cX7_shadow 46 = .ok (.istore_n 2, 1) := by decide +kernel
theorem dX7_shadow_47 : decode cX7_shadow 47 = .ok (.aload_n 0, 1) := by decide +kernel
theorem dX7_shadow_48 : decode cX7_shadow 48 = .ok (.aload_n 0, 1) := by decide +kernel
theorem dX7_shadow_49 : decode cX7_shadow 49 = .ok (.getfield 53, 3) := by decide +kernel
theorem dX7_shadow_52 : decode cX7_shadow 52 = .ok (.iload_n 2, 1) := by decide +kernel
theorem dX7_shadow_53 : decode cX7_shadow 53 = .ok (.aload_n 0, 1) := by decide +kernel
theorem dX7_shadow_54 : decode cX7_shadow 54 = .ok (.aload_n 0, 1) := by decide +kernel
theorem dX7_shadow_55 : decode cX7_shadow 55 = .ok (.getfield 53, 3) := by decide +kernel
theorem dX7_shadow_58 : decode cX7_shadow 58 = .ok (.invokevirtual 221, 3) := by decide +kernel
theorem dX7_shadow_61 : decode cX7_shadow 61 = .ok (.iconst 1, 1) := by decide +kernel
theorem dX7_shadow_62 : decode cX7_shadow 62 = .ok (.iload_n 1, 1) := by decide +kernel
theorem dX7_shadow_63 : decode cX7_shadow 63 = .ok (.ishl, 1) := by decide +kernel
theorem dX7_shadow_64 : decode cX7_shadow 64 = .ok (.invokevirtual 249, 3) := by decide +kernel
theorem dX7_shadow_67 : decode cX7_shadow 67 = .ok (.pop, 1) := by decide +kernel
theorem dX7_shadow_68 : decode cX7_shadow 68 = .ok (.aload_n 0, 1) := by decide +kernel
theorem dX7_shadow_69 : decode cX7_shadow 69 = .ok (.getfield 59, 3) := by decide +kernel
theorem dX7_shadow_72 : decode cX7_shadow 72 = .ok (.iload_n 1, 1) := by decide +kernel
theorem dX7_shadow_73 : decode cX7_shadow 73 = .ok (.iaload, 1) := by decide +kernel
theorem dX7_shadow_74 : decode cX7_shadow 74 = .ok (.istore_n 3, 1) := by decide +kernel
theorem dX7_shadow_75 : decode cX7_shadow 75 = .ok (.aload_n 0, 1) := by decide +kernel
theorem dX7_shadow_76 : decode cX7_shadow 76 = .ok (.aload_n 0, 1) := by decide +kernel
theorem dX7_shadow_77 : decode cX7_shadow 77 = .ok (.getfield 53, 3) := by decide +kernel
theorem dX7_shadow_80 : decode cX7_shadow 80 = .ok (.iload_n 2, 1) := by decide +kernel
theorem dX7_shadow_81 : decode cX7_shadow 81 = .ok (.aload_n 0, 1) := by decide +kernel
theorem dX7_shadow_82 : decode cX7_shadow 82 = .ok (.aload_n 0, 1) := by decide +kernel
theorem dX7_shadow_83 : decode cX7_shadow 83 = .ok (.getfield 53, 3) := by decide +kernel
theorem dX7_shadow_86 : decode cX7_shadow 86 = .ok (.invokevirtual 221, 3) := by decide +kernel
theorem dX7_shadow_89 : decode cX7_shadow 89 = .ok (.aload_n 0, 1) := by decide +kernel
theorem dX7_shadow_90 : decode cX7_shadow 90 = .ok (.aload_n 0, 1) := by decide +kernel
theorem dX7_shadow_91 : decode cX7_shadow 91 = .ok (.getfield 53, 3) := by decide +kernel
theorem dX7_shadow_94 : decode cX7_shadow 94 = .ok (.invokevirtual 209, 3) := by decide +kernel
theorem dX7_shadow_97 : decode cX7_shadow 97 = .ok (.invokevirtual 249, 3) := by decide +kernel
theorem dX7_shadow_100 : decode cX7_shadow 100 = .ok (.pop, 1) := by decide +kernel
theorem dX7_shadow_101 : decode cX7_shadow 101 = .ok (.iload_n 3, 1) := by decide +kernel
theorem dX7_shadow_102 : decode cX7_shadow 102 = .ok (.aload_n 0, 1) := by decide +kernel
theorem dX7_shadow_103 : decode cX7_shadow 103 = .ok (.getfield 59, 3) := by decide +kernel
theorem dX7_shadow_106 : decode cX7_shadow 106 = .ok (.iload_n 1, 1) := by decide +kernel
theorem dX7_shadow_107 : decode cX7_shadow 107 = .ok (.iaload, 1) := by decide +kernel
theorem dX7_shadow_108 : decode cX7_shadow 108 = .ok (.isub, 1) := by decide +kernel
theorem dX7_shadow_109 : decode cX7_shadow 109 = .ok (.ireturn, 1) := by decide +kernel
theorem dX7_left_0 : decode cX7_left 0 = .ok (.aload_n 0, 1) := by decide +kernel
theorem dX7_left_1 : decode cX7_left 1 = .ok (.getfield 170, 3) := by decide +kernel
theorem dX7_left_4 : decode cX7_left 4 = .ok (.ifCond .ne 8, 3) := by decide +kernel
theorem dX7_left_7 : decode cX7_left 7 = .ok (.ldc 220, 2) := by decide +kernel
theorem dX7_left_9 : decode cX7_left 9 = .ok (.goto 48, 3) := by decide +kernel
theorem dX7_left_12 : decode cX7_left 12 = .ok (.aload_n 0, 1) := by decide +kernel
theorem dX7_left_13 : decode cX7_left 13 = .ok (.aload_n 0, 1) := by decide +kernel
theorem dX7_left_14 : decode cX7_left 14 = .ok (.getfield 53, 3) := by decide +kernel
theorem dX7_left_17 : decode cX7_left 17 = .ok (.aload_n 0, 1) := by decide +kernel
theorem dX7_left_18 : decode cX7_left 18 = .ok (.aload_n 0, 1) := by decide +kernel
theorem dX7_left_19 : decode cX7_left 19 = .ok (.getfield 53, 3) := by decide +kernel
theorem dX7_left_22 : decode cX7_left 22 = .ok (.invokevirtual 224, 3) := by decide +kernel
theorem dX7_left_25 : decode cX7_left 25 = .ok (.aload_n 0, 1) := by decide +kernel
theorem dX7_left_26 : decode cX7_left 26 = .ok (.getfield 53, 3) := by decide +kernel
theorem dX7_left_29 : decode cX7_left 29 = .ok (.iconst 2, 1) := by decide +kernel
theorem dX7_left_30 : decode cX7_left 30 = .ok (.iaload, 1) := by decide +kernel
theorem dX7_left_31 : decode cX7_left 31 = .ok (.aload_n 0, 1) := by decide +kernel
theorem dX7_left_32 : decode cX7_left 32 = .ok (.getfield 176, 3) := by decide +kernel
theorem dX7_left_35 : decode cX7_left 35 = .ok (.invokestatic 245, 3) := by decide +kernel
theorem dX7_left_38 : decode cX7_left 38 = .ok (.aload_n 0, 1) := by decide +kernel
theorem dX7_left_39 : decode cX7_left 39 = .ok (.aload_n 0, 1) := by decide +kernel
theorem dX7_left_40 : decode cX7_left 40 = .ok (.getfield 53, 3) := by decide +kernel
theorem dX7_left_43 : decode cX7_left 43 = .ok (.invokevirtual 221, 3) := by decide +kernel
theorem dX7_left_46 : decode cX7_left 46 = .ok (.aload_n 0, 1) := by decide +kernel
theorem dX7_left_47 : decode cX7_left 47 = .ok (.aload_n 0, 1) := by decide +kernel
theorem dX7_left_48 : decode cX7_left 48 = .ok (.getfield 53, 3) := by decide +kernel
theorem dX7_left_51 : decode cX7_left 51 = .ok (.invokevirtual 209, 3) := by decide +kernel
theorem dX7_left_54 : decode cX7_left 54 = .ok (.invokevirtual 249, 3) := by decide +kernel
theorem dX7_left_57 : decode cX7_left 57 = .ok (.ireturn, 1) := by decide +kernel
theorem dX7_bestMesh_0 : decode cX7_bestMesh 0 = .ok (.aload_n 0, 1) := by decide +kernel
theorem dX7_bestMesh_1 : decode cX7_bestMesh 1 = .ok (.iload_n 1, 1) := by decide +kernel
theorem dX7_bestMesh_2 : decode cX7_bestMesh 2 = .ok (.invokevirtual 216, 3) := by decide +kernel
theorem dX7_bestMesh_5 : decode cX7_bestMesh 5 = .ok (.ifCond .ne 6, 3) := by decide +kernel
theorem dX7_bestMesh_8 : decode cX7_bestMesh 8 = .ok (.ldc 219, 2) := by decide +kernel
theorem dX7_bestMesh_10 : decode cX7_bestMesh 10 = .ok (.ireturn, 1) := by decide +kernel
theorem dX7_bestMesh_11 : decode cX7_bestMesh 11 = .ok (.iload_n 2, 1) := by decide +kernel
theorem dX7_bestMesh_12 : decode cX7_bestMesh 12 = .ok (.iconst 0, 1) := by decide +kernel
theorem dX7_bestMesh_13 : decode cX7_bestMesh 13 = .ok (.iconst 1, 1) := by decide +kernel
theorem dX7_bestMesh_14 : decode cX7_bestMesh 14 = .ok (.invokestatic 85, 3) := by decide +kernel
theorem dX7_bestMesh_17 : decode cX7_bestMesh 17 = .ok (.ifCond .ne 6, 3) := by decide +kernel
theorem dX7_bestMesh_20 : decode cX7_bestMesh 20 = .ok (.ldc 89, 2) := by decide +kernel
theorem dX7_bestMesh_22 : decode cX7_bestMesh 22 = .ok (.ireturn, 1) := by decide +kernel
theorem dX7_bestMesh_23 : decode cX7_bestMesh 23 = .ok (.iconst 0, 1) := by decide +kernel
theorem dX7_bestMesh_24 : decode cX7_bestMesh 24 = .ok (.istore_n 3, 1) := by decide +kernel
theorem dX7_bestMesh_25 : decode cX7_bestMesh 25 = .ok (.iconst (-1), 1) := by decide +kernel
theorem dX7_bestMesh_26 : decode cX7_bestMesh 26 = .ok (.istore 4, 2) := by decide +kernel
theorem dX7_bestMesh_28 : decode cX7_bestMesh 28 = .ok (.iconst 0, 1) := by decide +kernel
theorem dX7_bestMesh_29 : decode cX7_bestMesh 29 = .ok (.istore 5, 2) := by decide +kernel
theorem dX7_bestMesh_31 : decode cX7_bestMesh 31 = .ok (.iload 5, 2) := by decide +kernel
theorem dX7_bestMesh_33 : decode cX7_bestMesh 33 = .ok (.bipush 10, 2) := by decide +kernel
theorem dX7_bestMesh_35 : decode cX7_bestMesh 35 = .ok (.if_icmp .ge 74, 3) := by decide +kernel
theorem dX7_bestMesh_38 : decode cX7_bestMesh 38 = .ok (.aload_n 0, 1) := by decide +kernel
theorem dX7_bestMesh_39 : decode cX7_bestMesh 39 = .ok (.invokevirtual 305, 3) := by decide +kernel
theorem dX7_bestMesh_42 : decode cX7_bestMesh 42 = .ok (.aload_n 0, 1) := by decide +kernel
theorem dX7_bestMesh_43 : decode cX7_bestMesh 43 = .ok (.getfield 56, 3) := by decide +kernel
theorem dX7_bestMesh_46 : decode cX7_bestMesh 46 = .ok (.bipush 21, 2) := by decide +kernel
theorem dX7_bestMesh_48 : decode cX7_bestMesh 48 = .ok (.iload_n 1, 1) := by decide +kernel
theorem dX7_bestMesh_49 : decode cX7_bestMesh 49 = .ok (.iadd, 1) := by decide +kernel
theorem dX7_bestMesh_50 : decode cX7_bestMesh 50 = .ok (.iload 5, 2) := by decide +kernel
theorem dX7_bestMesh_52 : decode cX7_bestMesh 52 = .ok (.iastore, 1) := by decide +kernel
theorem dX7_bestMesh_53 : decode cX7_bestMesh 53 = .ok (.aload_n 0, 1) := by decide +kernel
theorem dX7_bestMesh_54 : decode cX7_bestMesh 54 = .ok (.aload_n 0, 1) := by decide +kernel
theorem dX7_bestMesh_55 : decode cX7_bestMesh 55 = .ok (.invokevirtual 205, 3) := by decide +kernel
theorem dX7_bestMesh_58 : decode cX7_bestMesh 58 = .ok (.invokevirtual 308, 3) := by decide +kernel
theorem dX7_bestMesh_61 : decode cX7_bestMesh 61 = .ok (.aload_n 0, 1) := by decide +kernel
theorem dX7_bestMesh_62 : decode cX7_bestMesh 62 = .ok (.getfield 65, 3) := by decide +kernel
theorem dX7_bestMesh_65 : decode cX7_bestMesh 65 = .ok (.iload_n 1, 1) := by decide +kernel
theorem dX7_bestMesh_66 : decode cX7_bestMesh 66 = .ok (.iaload, 1) := by decide +kernel
theorem dX7_bestMesh_67 : decode cX7_bestMesh 67 = .ok (.iload 4, 2) := by decide +kernel
theorem dX7_bestMesh_69 : decode cX7_bestMesh 69 = .ok (.if_icmp .le 8, 3) := by decide +kernel
theorem dX7_bestMesh_72 : decode cX7_bestMesh 72 = .ok (.iload 5, 2) := by decide +kernel
theorem dX7_bestMesh_74 : decode cX7_bestMesh 74 = .ok (.goto 4, 3) := by decide +kernel
theorem dX7_bestMesh_77 : decode cX7_bestMesh 77 = .ok (.iload_n 3, 1) := by decide +kernel
theorem dX7_bestMesh_78 : decode cX7_bestMesh 78 = .ok (.istore_n 3, 1) := by decide +kernel
theorem dX7_bestMesh_79 : decode cX7_bestMesh 79 = .ok (.aload_n 0, 1) := by decide +kernel
theorem dX7_bestMesh_80 : decode cX7_bestMesh 80 = .ok (.getfield 65, 3) := by decide +kernel
theorem dX7_bestMesh_83 : decode cX7_bestMesh 83 = .ok (.iload_n 1, 1) := by decide +kernel
theorem dX7_bestMesh_84 : decode cX7_bestMesh 84 = .ok (.iaload, 1) := by decide +kernel
theorem dX7_bestMesh_85 : decode cX7_bestMesh 85 = .ok (.iload 4, 2) := by decide +kernel
theorem dX7_bestMesh_87 : decode cX7_bestMesh 87 = .ok (.if_icmp .le 12, 3) := by decide +kernel
theorem dX7_bestMesh_90 : decode cX7_bestMesh 90 = .ok (.aload_n 0, 1) := by decide +kernel
theorem dX7_bestMesh_91 : decode cX7_bestMesh 91 = .ok (.getfield 65, 3) := by decide +kernel
theorem dX7_bestMesh_94 : decode cX7_bestMesh 94 = .ok (.iload_n 1, 1) := by decide +kernel
theorem dX7_bestMesh_95 : decode cX7_bestMesh 95 = .ok (.iaload, 1) := by decide +kernel
theorem dX7_bestMesh_96 : decode cX7_bestMesh 96 = .ok (.goto 5, 3) := by decide +kernel
theorem dX7_bestMesh_99 : decode cX7_bestMesh 99 = .ok (.iload 4, 2) := by decide +kernel
theorem dX7_bestMesh_101 : decode cX7_bestMesh 101 = .ok (.istore 4, 2) := by decide +kernel
theorem dX7_bestMesh_103 : decode cX7_bestMesh 103 = .ok (.iinc 5 1, 3) := by decide +kernel
theorem dX7_bestMesh_106 : decode cX7_bestMesh 106 = .ok (.goto (-75), 3) := by decide +kernel
theorem dX7_bestMesh_109 : decode cX7_bestMesh 109 = .ok (.iload_n 2, 1) := by decide +kernel
theorem dX7_bestMesh_110 : decode cX7_bestMesh 110 = .ok (.ifCond .ne 7, 3) := by decide +kernel
theorem dX7_bestMesh_113 : decode cX7_bestMesh 113 = .ok (.iload_n 3, 1) := by decide +kernel
theorem dX7_bestMesh_114 : decode cX7_bestMesh 114 = .ok (.goto 5, 3) := by decide +kernel
theorem dX7_bestMesh_117 : decode cX7_bestMesh 117 = .ok (.iload 4, 2) := by decide +kernel
theorem dX7_bestMesh_119 : decode cX7_bestMesh 119 = .ok (.ireturn, 1) := by decide +kernel
theorem dX7_bestCell_0 : decode cX7_bestCell 0 = .ok (.aload_n 0, 1) := by decide +kernel
theorem dX7_bestCell_1 : decode cX7_bestCell 1 = .ok (.iload_n 1, 1) := by decide +kernel
theorem dX7_bestCell_2 : decode cX7_bestCell 2 = .ok (.invokevirtual 216, 3) := by decide +kernel
theorem dX7_bestCell_5 : decode cX7_bestCell 5 = .ok (.ifCond .ne 6, 3) := by decide +kernel
theorem dX7_bestCell_8 : decode cX7_bestCell 8 = .ok (.ldc 219, 2) := by decide +kernel
theorem dX7_bestCell_10 : decode cX7_bestCell 10 = .ok (.ireturn, 1) := by decide +kernel
theorem dX7_bestCell_11 : decode cX7_bestCell 11 = .ok (.iload_n 2, 1) := by decide +kernel
theorem dX7_bestCell_12 : decode cX7_bestCell 12 = .ok (.iconst 0, 1) := by decide +kernel
theorem dX7_bestCell_13 : decode cX7_bestCell 13 = .ok (.iconst 1, 1) := by decide +kernel
theorem dX7_bestCell_14 : decode cX7_bestCell 14 = .ok (.invokestatic 85, 3) := by decide +kernel
theorem dX7_bestCell_17 : decode cX7_bestCell 17 = .ok (.ifCond .ne 6, 3) := by decide +kernel
theorem dX7_bestCell_20 : decode cX7_bestCell 20 = .ok (.ldc 89, 2) := by decide +kernel
theorem dX7_bestCell_22 : decode cX7_bestCell 22 = .ok (.ireturn, 1) := by decide +kernel
theorem dX7_bestCell_23 : decode cX7_bestCell 23 = .ok (.iconst 0, 1) := by decide +kernel
theorem dX7_bestCell_24 : decode cX7_bestCell 24 = .ok (.istore_n 3, 1) := by decide +kernel
theorem dX7_bestCell_25 : decode cX7_bestCell 25 = .ok (.iconst (-1), 1) := by decide +kernel
theorem dX7_bestCell_26 : decode cX7_bestCell 26 = .ok (.istore 4, 2) := by decide +kernel
theorem dX7_bestCell_28 : decode cX7_bestCell 28 = .ok (.iconst 0, 1) := by decide +kernel
theorem dX7_bestCell_29 : decode cX7_bestCell 29 = .ok (.istore 5, 2) := by decide +kernel
theorem dX7_bestCell_31 : decode cX7_bestCell 31 = .ok (.iload 5, 2) := by decide +kernel
theorem dX7_bestCell_33 : decode cX7_bestCell 33 = .ok (.aload_n 0, 1) := by decide +kernel
theorem dX7_bestCell_34 : decode cX7_bestCell 34 = .ok (.getfield 173, 3) := by decide +kernel
theorem dX7_bestCell_37 : decode cX7_bestCell 37 = .ok (.if_icmp .ge 98, 3) := by decide +kernel
theorem dX7_bestCell_40 : decode cX7_bestCell 40 = .ok (.aload_n 0, 1) := by decide +kernel
theorem dX7_bestCell_41 : decode cX7_bestCell 41 = .ok (.aload_n 0, 1) := by decide +kernel
theorem dX7_bestCell_42 : decode cX7_bestCell 42 = .ok (.getfield 53, 3) := by decide +kernel
theorem dX7_bestCell_45 : decode cX7_bestCell 45 = .ok (.iload 5, 2) := by decide +kernel
theorem dX7_bestCell_47 : decode cX7_bestCell 47 = .ok (.invokevirtual 233, 3) := by decide +kernel
theorem dX7_bestCell_50 : decode cX7_bestCell 50 = .ok (.istore 6, 2) := by decide +kernel
theorem dX7_bestCell_52 : decode cX7_bestCell 52 = .ok (.iload 6, 2) := by decide +kernel
theorem dX7_bestCell_54 : decode cX7_bestCell 54 = .ok (.iconst (-1), 1) := by decide +kernel
theorem dX7_bestCell_55 : decode cX7_bestCell 55 = .ok (.if_icmp .eq 9, 3) := by decide +kernel
theorem dX7_bestCell_58 : decode cX7_bestCell 58 = .ok (.iload 6, 2) := by decide +kernel
theorem dX7_bestCell_60 : decode cX7_bestCell 60 = .ok (.iload_n 1, 1) := by decide +kernel
theorem dX7_bestCell_61 : decode cX7_bestCell 61 = .ok (.if_icmp .ne 68, 3) := by decide +kernel
theorem dX7_bestCell_64 : decode cX7_bestCell 64 = .ok (.aload_n 0, 1) := by decide +kernel
theorem dX7_bestCell_65 : decode cX7_bestCell 65 = .ok (.invokevirtual 305, 3) := by decide +kernel
theorem dX7_bestCell_68 : decode cX7_bestCell 68 = .ok (.aload_n 0, 1) := by decide +kernel
theorem dX7_bestCell_69 : decode cX7_bestCell 69 = .ok (.getfield 56, 3) := by decide +kernel
theorem dX7_bestCell_72 : decode cX7_bestCell 72 = .ok (.bipush 15, 2) := by decide +kernel
theorem dX7_bestCell_74 : decode cX7_bestCell 74 = .ok (.iload_n 1, 1) := by decide +kernel
theorem dX7_bestCell_75 : decode cX7_bestCell 75 = .ok (.iadd, 1) := by decide +kernel
theorem dX7_bestCell_76 : decode cX7_bestCell 76 = .ok (.iload 5, 2) := by decide +kernel
theorem dX7_bestCell_78 : decode cX7_bestCell 78 = .ok (.iastore, 1) := by decide +kernel
theorem dX7_bestCell_79 : decode cX7_bestCell 79 = .ok (.aload_n 0, 1) := by decide +kernel
theorem dX7_bestCell_80 : decode cX7_bestCell 80 = .ok (.aload_n 0, 1) := by decide +kernel
theorem dX7_bestCell_81 : decode cX7_bestCell 81 = .ok (.invokevirtual 205, 3) := by decide +kernel
theorem dX7_bestCell_84 : decode cX7_bestCell 84 = .ok (.invokevirtual 308, 3) := by decide +kernel
theorem dX7_bestCell_87 : decode cX7_bestCell 87 = .ok (.aload_n 0, 1) := by decide +kernel
theorem dX7_bestCell_88 : decode cX7_bestCell 88 = .ok (.getfield 65, 3) := by decide +kernel
theorem dX7_bestCell_91 : decode cX7_bestCell 91 = .ok (.iload_n 1, 1) := by decide +kernel
theorem dX7_bestCell_92 : decode cX7_bestCell 92 = .ok (.iaload, 1) := by decide +kernel
theorem dX7_bestCell_93 : decode cX7_bestCell 93 = .ok (.iload 4, 2) := by decide +kernel
theorem dX7_bestCell_95 : decode cX7_bestCell 95 = .ok (.if_icmp .le 8, 3) := by decide +kernel
theorem dX7_bestCell_98 : decode cX7_bestCell 98 = .ok (.iload 5, 2) := by decide +kernel
theorem dX7_bestCell_100 : decode cX7_bestCell 100 = .ok (.goto 4, 3) := by decide +kernel
theorem dX7_bestCell_103 : decode cX7_bestCell 103 = .ok (.iload_n 3, 1) := by decide +kernel
theorem dX7_bestCell_104 : decode cX7_bestCell 104 = .ok (.istore_n 3, 1) := by decide +kernel
theorem dX7_bestCell_105 : decode cX7_bestCell 105 = .ok (.aload_n 0, 1) := by decide +kernel
theorem dX7_bestCell_106 : decode cX7_bestCell 106 = .ok (.getfield 65, 3) := by decide +kernel
theorem dX7_bestCell_109 : decode cX7_bestCell 109 = .ok (.iload_n 1, 1) := by decide +kernel
theorem dX7_bestCell_110 : decode cX7_bestCell 110 = .ok (.iaload, 1) := by decide +kernel
theorem dX7_bestCell_111 : decode cX7_bestCell 111 = .ok (.iload 4, 2) := by decide +kernel
theorem dX7_bestCell_113 : decode cX7_bestCell 113 = .ok (.if_icmp .le 12, 3) := by decide +kernel
theorem dX7_bestCell_116 : decode cX7_bestCell 116 = .ok (.aload_n 0, 1) := by decide +kernel
theorem dX7_bestCell_117 : decode cX7_bestCell 117 = .ok (.getfield 65, 3) := by decide +kernel
theorem dX7_bestCell_120 : decode cX7_bestCell 120 = .ok (.iload_n 1, 1) := by decide +kernel
theorem dX7_bestCell_121 : decode cX7_bestCell 121 = .ok (.iaload, 1) := by decide +kernel
theorem dX7_bestCell_122 : decode cX7_bestCell 122 = .ok (.goto 5, 3) := by decide +kernel
theorem dX7_bestCell_125 : decode cX7_bestCell 125 = .ok (.iload 4, 2) := by decide +kernel
theorem dX7_bestCell_127 : decode cX7_bestCell 127 = .ok (.istore 4, 2) := by decide +kernel
theorem dX7_bestCell_129 : decode cX7_bestCell 129 = .ok (.iinc 5 1, 3) := by decide +kernel
theorem dX7_bestCell_132 : decode cX7_bestCell 132 = .ok (.goto (-101), 3) := by decide +kernel
theorem dX7_bestCell_135 : decode cX7_bestCell 135 = .ok (.iload_n 2, 1) := by decide +kernel
theorem dX7_bestCell_136 : decode cX7_bestCell 136 = .ok (.ifCond .ne 7, 3) := by decide +kernel
theorem dX7_bestCell_139 : decode cX7_bestCell 139 = .ok (.iload_n 3, 1) := by decide +kernel
theorem dX7_bestCell_140 : decode cX7_bestCell 140 = .ok (.goto 5, 3) := by decide +kernel
theorem dX7_bestCell_143 : decode cX7_bestCell 143 = .ok (.iload 4, 2) := by decide +kernel
theorem dX7_bestCell_145 : decode cX7_bestCell 145 = .ok (.ireturn, 1) := by decide +kernel
theorem dX7_sumOf_0 : decode cX7_sumOf 0 = .ok (.iconst 0, 1) := by decide +kernel
theorem dX7_sumOf_1 : decode cX7_sumOf 1 = .ok (.istore_n 2, 1) := by decide +kernel
theorem dX7_sumOf_2 : decode cX7_sumOf 2 = .ok (.iconst 0, 1) := by decide +kernel
theorem dX7_sumOf_3 : decode cX7_sumOf 3 = .ok (.istore_n 3, 1) := by decide +kernel
theorem dX7_sumOf_4 : decode cX7_sumOf 4 = .ok (.iload_n 3, 1) := by decide +kernel
theorem dX7_sumOf_5 : decode cX7_sumOf 5 = .ok (.aload_n 0, 1) := by decide +kernel
theorem dX7_sumOf_6 : decode cX7_sumOf 6 = .ok (.getfield 179, 3) := by decide +kernel
theorem dX7_sumOf_9 : decode cX7_sumOf 9 = .ok (.if_icmp .ge 32, 3) := by decide +kernel
theorem dX7_sumOf_12 : decode cX7_sumOf 12 = .ok (.iload_n 2, 1) := by decide +kernel
theorem dX7_sumOf_13 : decode cX7_sumOf 13 = .ok (.aload_n 0, 1) := by decide +kernel
theorem dX7_sumOf_14 : decode cX7_sumOf 14 = .ok (.getfield 41, 3) := by decide +kernel
theorem dX7_sumOf_17 : decode cX7_sumOf 17 = .ok (.iload_n 3, 1) := by decide +kernel
theorem dX7_sumOf_18 : decode cX7_sumOf 18 = .ok (.iaload, 1) := by decide +kernel
theorem dX7_sumOf_19 : decode cX7_sumOf 19 = .ok (.iload_n 1, 1) := by decide +kernel
theorem dX7_sumOf_20 : decode cX7_sumOf 20 = .ok (.if_icmp .ne 12, 3) := by decide +kernel
theorem dX7_sumOf_23 : decode cX7_sumOf 23 = .ok (.aload_n 0, 1) := by decide +kernel
theorem dX7_sumOf_24 : decode cX7_sumOf 24 = .ok (.getfield 65, 3) := by decide +kernel
theorem dX7_sumOf_27 : decode cX7_sumOf 27 = .ok (.iload_n 3, 1) := by decide +kernel
theorem dX7_sumOf_28 : decode cX7_sumOf 28 = .ok (.iaload, 1) := by decide +kernel
theorem dX7_sumOf_29 : decode cX7_sumOf 29 = .ok (.goto 4, 3) := by decide +kernel
theorem dX7_sumOf_32 : decode cX7_sumOf 32 = .ok (.iconst 0, 1) := by decide +kernel
theorem dX7_sumOf_33 : decode cX7_sumOf 33 = .ok (.iadd, 1) := by decide +kernel
theorem dX7_sumOf_34 : decode cX7_sumOf 34 = .ok (.istore_n 2, 1) := by decide +kernel
theorem dX7_sumOf_35 : decode cX7_sumOf 35 = .ok (.iinc 3 1, 3) := by decide +kernel
theorem dX7_sumOf_38 : decode cX7_sumOf 38 = .ok (.goto (-34), 3) := by decide +kernel
theorem dX7_sumOf_41 : decode cX7_sumOf 41 = .ok (.iload_n 2, 1) := by decide +kernel
theorem dX7_sumOf_42 : decode cX7_sumOf 42 = .ok (.ireturn, 1) := by decide +kernel
theorem dX7_isFor_0 : decode cX7_isFor 0 = .ok (.aload_n 0, 1) := by decide +kernel
theorem dX7_isFor_1 : decode cX7_isFor 1 = .ok (.aload_n 0, 1) := by decide +kernel
theorem dX7_isFor_2 : decode cX7_isFor 2 = .ok (.getfield 53, 3) := by decide +kernel
theorem dX7_isFor_5 : decode cX7_isFor 5 = .ok (.iload_n 1, 1) := by decide +kernel
theorem dX7_isFor_6 : decode cX7_isFor 6 = .ok (.invokevirtual 233, 3) := by decide +kernel
theorem dX7_isFor_9 : decode cX7_isFor 9 = .ok (.istore 4, 2) := by decide +kernel
theorem dX7_isFor_11 : decode cX7_isFor 11 = .ok (.iload 4, 2) := by decide +kernel
theorem dX7_isFor_13 : decode cX7_isFor 13 = .ok (.iconst (-1), 1) := by decide +kernel
theorem dX7_isFor_14 : decode cX7_isFor 14 = .ok (.if_icmp .eq 15, 3) := by decide +kernel
theorem dX7_isFor_17 : decode cX7_isFor 17 = .ok (.iload 4, 2) := by decide +kernel
theorem dX7_isFor_19 : decode cX7_isFor 19 = .ok (.iload_n 2, 1) := by decide +kernel
theorem dX7_isFor_20 : decode cX7_isFor 20 = .ok (.if_icmp .eq 9, 3) := by decide +kernel
theorem dX7_isFor_23 : decode cX7_isFor 23 = .ok (.iload 4, 2) := by decide +kernel
theorem dX7_isFor_25 : decode cX7_isFor 25 = .ok (.iload_n 3, 1) := by decide +kernel
theorem dX7_isFor_26 : decode cX7_isFor 26 = .ok (.if_icmp .ne 7, 3) := by decide +kernel
theorem dX7_isFor_29 : decode cX7_isFor 29 = .ok (.iconst 1, 1) := by decide +kernel
theorem dX7_isFor_30 : decode cX7_isFor 30 = .ok (.goto 4, 3) := by decide +kernel
theorem dX7_isFor_33 : decode cX7_isFor 33 = .ok (.iconst 0, 1) := by decide +kernel
theorem dX7_isFor_34 : decode cX7_isFor 34 = .ok (.ireturn, 1) := by decide +kernel
theorem dX7_bestTwo_0 : decode cX7_bestTwo 0 = .ok (.aload_n 0, 1) := by decide +kernel
theorem dX7_bestTwo_1 : decode cX7_bestTwo 1 = .ok (.iload_n 1, 1) := by decide +kernel
theorem dX7_bestTwo_2 : decode cX7_bestTwo 2 = .ok (.invokevirtual 216, 3) := by decide +kernel
theorem dX7_bestTwo_5 : decode cX7_bestTwo 5 = .ok (.ifCond .eq 16, 3) := by decide +kernel
theorem dX7_bestTwo_8 : decode cX7_bestTwo 8 = .ok (.aload_n 0, 1) := by decide +kernel
theorem dX7_bestTwo_9 : decode cX7_bestTwo 9 = .ok (.iload_n 2, 1) := by decide +kernel
theorem dX7_bestTwo_10 : decode cX7_bestTwo 10 = .ok (.invokevirtual 216, 3) := by decide +kernel
theorem dX7_bestTwo_13 : decode cX7_bestTwo 13 = .ok (.ifCond .eq 8, 3) := by decide +kernel
theorem dX7_bestTwo_16 : decode cX7_bestTwo 16 = .ok (.iload_n 1, 1) := by decide +kernel
theorem dX7_bestTwo_17 : decode cX7_bestTwo 17 = .ok (.iload_n 2, 1) := by decide +kernel
theorem dX7_bestTwo_18 : decode cX7_bestTwo 18 = .ok (.if_icmp .ne 6, 3) := by decide +kernel
theorem dX7_bestTwo_21 : decode cX7_bestTwo 21 = .ok (.ldc 219, 2) := by decide +kernel
theorem dX7_bestTwo_23 : decode cX7_bestTwo 23 = .ok (.ireturn, 1) := by decide +kernel
theorem dX7_bestTwo_24 : decode cX7_bestTwo 24 = .ok (.iload_n 3, 1) := by decide +kernel
theorem dX7_bestTwo_25 : decode cX7_bestTwo 25 = .ok (.iconst 0, 1) := by decide +kernel
theorem dX7_bestTwo_26 : decode cX7_bestTwo 26 = .ok (.iconst 1, 1) := by decide +kernel
theorem dX7_bestTwo_27 : decode cX7_bestTwo 27 = .ok (.invokestatic 85, 3) := by decide +kernel
theorem dX7_bestTwo_30 : decode cX7_bestTwo 30 = .ok (.ifCond .ne 6, 3) := by decide +kernel
theorem dX7_bestTwo_33 : decode cX7_bestTwo 33 = .ok (.ldc 89, 2) := by decide +kernel
theorem dX7_bestTwo_35 : decode cX7_bestTwo 35 = .ok (.ireturn, 1) := by decide +kernel
theorem dX7_bestTwo_36 : decode cX7_bestTwo 36 = .ok (.iconst 0, 1) := by decide +kernel
theorem dX7_bestTwo_37 : decode cX7_bestTwo 37 = .ok (.istore 4, 2) := by decide +kernel
theorem dX7_bestTwo_39 : decode cX7_bestTwo 39 = .ok (.iconst (-1), 1) := by decide +kernel
theorem dX7_bestTwo_40 : decode cX7_bestTwo 40 = .ok (.istore 5, 2) := by decide +kernel
theorem dX7_bestTwo_42 : decode cX7_bestTwo 42 = .ok (.iconst 0, 1) := by decide +kernel
theorem dX7_bestTwo_43 : decode cX7_bestTwo 43 = .ok (.istore 6, 2) := by decide +kernel
theorem dX7_bestTwo_45 : decode cX7_bestTwo 45 = .ok (.iload 6, 2) := by decide +kernel
theorem dX7_bestTwo_47 : decode cX7_bestTwo 47 = .ok (.aload_n 0, 1) := by decide +kernel
theorem dX7_bestTwo_48 : decode cX7_bestTwo 48 = .ok (.getfield 173, 3) := by decide +kernel
theorem dX7_bestTwo_51 : decode cX7_bestTwo 51 = .ok (.if_icmp .ge 159, 3) := by decide +kernel
theorem dX7_bestTwo_54 : decode cX7_bestTwo 54 = .ok (.iconst 0, 1) := by decide +kernel
theorem dX7_bestTwo_55 : decode cX7_bestTwo 55 = .ok (.istore 7, 2) := by decide +kernel
theorem dX7_bestTwo_57 : decode cX7_bestTwo 57 = .ok (.iload 7, 2) := by decide +kernel
theorem dX7_bestTwo_59 : decode cX7_bestTwo 59 = .ok (.aload_n 0, 1) := by decide +kernel
theorem dX7_bestTwo_60 : decode cX7_bestTwo 60 = .ok (.getfield 173, 3) := by decide +kernel
theorem dX7_bestTwo_63 : decode cX7_bestTwo 63 = .ok (.if_icmp .ge 141, 3) := by decide +kernel
theorem dX7_bestTwo_66 : decode cX7_bestTwo 66 = .ok (.iload 6, 2) := by decide +kernel
theorem dX7_bestTwo_68 : decode cX7_bestTwo 68 = .ok (.iload 7, 2) := by decide +kernel
theorem dX7_bestTwo_70 : decode cX7_bestTwo 70 = .ok (.if_icmp .eq 128, 3) := by decide +kernel
theorem dX7_bestTwo_73 : decode cX7_bestTwo 73 = .ok (.aload_n 0, 1) := by decide +kernel
theorem dX7_bestTwo_74 : decode cX7_bestTwo 74 = .ok (.iload 6, 2) := by decide +kernel
theorem dX7_bestTwo_76 : decode cX7_bestTwo 76 = .ok (.iload_n 1, 1) := by decide +kernel
theorem dX7_bestTwo_77 : decode cX7_bestTwo 77 = .ok (.iload_n 2, 1) := by decide +kernel
theorem dX7_bestTwo_78 : decode cX7_bestTwo 78 = .ok (.invokevirtual 312, 3) := by decide +kernel
theorem dX7_bestTwo_81 : decode cX7_bestTwo 81 = .ok (.ifCond .eq 117, 3) := by decide +kernel
theorem dX7_bestTwo_84 : decode cX7_bestTwo 84 = .ok (.aload_n 0, 1) := by decide +kernel
theorem dX7_bestTwo_85 : decode cX7_bestTwo 85 = .ok (.iload 7, 2) := by decide +kernel
theorem dX7_bestTwo_87 : decode cX7_bestTwo 87 = .ok (.iload_n 1, 1) := by decide +kernel
theorem dX7_bestTwo_88 : decode cX7_bestTwo 88 = .ok (.iload_n 2, 1) := by decide +kernel
theorem dX7_bestTwo_89 : decode cX7_bestTwo 89 = .ok (.invokevirtual 312, 3) := by decide +kernel
theorem dX7_bestTwo_92 : decode cX7_bestTwo 92 = .ok (.ifCond .eq 106, 3) := by decide +kernel
theorem dX7_bestTwo_95 : decode cX7_bestTwo 95 = .ok (.aload_n 0, 1) := by decide +kernel
theorem dX7_bestTwo_96 : decode cX7_bestTwo 96 = .ok (.invokevirtual 305, 3) := by decide +kernel
theorem dX7_bestTwo_99 : decode cX7_bestTwo 99 = .ok (.aload_n 0, 1) := by decide +kernel
theorem dX7_bestTwo_100 : decode cX7_bestTwo 100 = .ok (.getfield 56, 3) := by decide +kernel
theorem dX7_bestTwo_103 : decode cX7_bestTwo 103 = .ok (.bipush 15, 2) := by decide +kernel
theorem dX7_bestTwo_105 : decode cX7_bestTwo 105 = .ok (.iload_n 1, 1) := by decide +kernel
theorem dX7_bestTwo_106 : decode cX7_bestTwo 106 = .ok (.iadd, 1) := by decide +kernel
theorem dX7_bestTwo_107 : decode cX7_bestTwo 107 = .ok (.iload 6, 2) := by decide +kernel
theorem dX7_bestTwo_109 : decode cX7_bestTwo 109 = .ok (.iastore, 1) := by decide +kernel
theorem dX7_bestTwo_110 : decode cX7_bestTwo 110 = .ok (.aload_n 0, 1) := by decide +kernel
theorem dX7_bestTwo_111 : decode cX7_bestTwo 111 = .ok (.getfield 56, 3) := by decide +kernel
theorem dX7_bestTwo_114 : decode cX7_bestTwo 114 = .ok (.bipush 15, 2) := by decide +kernel
theorem dX7_bestTwo_116 : decode cX7_bestTwo 116 = .ok (.iload_n 2, 1) := by decide +kernel
theorem dX7_bestTwo_117 : decode cX7_bestTwo 117 = .ok (.iadd, 1) := by decide +kernel
theorem dX7_bestTwo_118 : decode cX7_bestTwo 118 = .ok (.iload 7, 2) := by decide +kernel
theorem dX7_bestTwo_120 : decode cX7_bestTwo 120 = .ok (.iastore, 1) := by decide +kernel
theorem dX7_bestTwo_121 : decode cX7_bestTwo 121 = .ok (.aload_n 0, 1) := by decide +kernel
theorem dX7_bestTwo_122 : decode cX7_bestTwo 122 = .ok (.bipush 7, 2) := by decide +kernel
theorem dX7_bestTwo_124 : decode cX7_bestTwo 124 = .ok (.aload_n 0, 1) := by decide +kernel
theorem dX7_bestTwo_125 : decode cX7_bestTwo 125 = .ok (.invokevirtual 205, 3) := by decide +kernel
theorem dX7_bestTwo_128 : decode cX7_bestTwo 128 = .ok (.imul, 1) := by decide +kernel
theorem dX7_bestTwo_129 : decode cX7_bestTwo 129 = .ok (.invokevirtual 308, 3) := by decide +kernel
theorem dX7_bestTwo_132 : decode cX7_bestTwo 132 = .ok (.aload_n 0, 1) := by decide +kernel
theorem dX7_bestTwo_133 : decode cX7_bestTwo 133 = .ok (.iconst 0, 1) := by decide +kernel
theorem dX7_bestTwo_134 : decode cX7_bestTwo 134 = .ok (.invokevirtual 315, 3) := by decide +kernel
theorem dX7_bestTwo_137 : decode cX7_bestTwo 137 = .ok (.aload_n 0, 1) := by decide +kernel
theorem dX7_bestTwo_138 : decode cX7_bestTwo 138 = .ok (.iconst 1, 1) := by decide +kernel
theorem dX7_bestTwo_139 : decode cX7_bestTwo 139 = .ok (.invokevirtual 315, 3) := by decide +kernel
theorem dX7_bestTwo_142 : decode cX7_bestTwo 142 = .ok (.if_icmp .ge 11, 3) := by decide +kernel
theorem dX7_bestTwo_145 : decode cX7_bestTwo 145 = .ok (.aload_n 0, 1) := by decide +kernel
theorem dX7_bestTwo_146 : decode cX7_bestTwo 146 = .ok (.iconst 0, 1) := by decide +kernel
theorem dX7_bestTwo_147 : decode cX7_bestTwo 147 = .ok (.invokevirtual 315, 3) := by decide +kernel
theorem dX7_bestTwo_150 : decode cX7_bestTwo 150 = .ok (.goto 8, 3) := by decide +kernel
theorem dX7_bestTwo_153 : decode cX7_bestTwo 153 = .ok (.aload_n 0, 1) := by decide +kernel
theorem dX7_bestTwo_154 : decode cX7_bestTwo 154 = .ok (.iconst 1, 1) := by decide +kernel
theorem dX7_bestTwo_155 : decode cX7_bestTwo 155 = .ok (.invokevirtual 315, 3) := by decide +kernel
theorem dX7_bestTwo_158 : decode cX7_bestTwo 158 = .ok (.istore 8, 2) := by decide +kernel
theorem dX7_bestTwo_160 : decode cX7_bestTwo 160 = .ok (.iload 8, 2) := by decide +kernel
theorem dX7_bestTwo_162 : decode cX7_bestTwo 162 = .ok (.iload 5, 2) := by decide +kernel
theorem dX7_bestTwo_164 : decode cX7_bestTwo 164 = .ok (.if_icmp .le 14, 3) := by decide +kernel
theorem dX7_bestTwo_167 : decode cX7_bestTwo 167 = .ok (.bipush 100, 2) := by decide +kernel
theorem dX7_bestTwo_169 : decode cX7_bestTwo 169 = .ok (.iload 6, 2) := by decide +kernel
theorem dX7_bestTwo_171 : decode cX7_bestTwo 171 = .ok (.imul, 1) := by decide +kernel
theorem dX7_bestTwo_172 : decode cX7_bestTwo 172 = .ok (.iload 7, 2) := by decide +kernel
theorem dX7_bestTwo_174 : decode cX7_bestTwo 174 = .ok (.iadd, 1) := by decide +kernel
theorem dX7_bestTwo_175 : decode cX7_bestTwo 175 = .ok (.goto 5, 3) := by decide +kernel
theorem dX7_bestTwo_178 : decode cX7_bestTwo 178 = .ok (.iload 4, 2) := by decide +kernel
theorem dX7_bestTwo_180 : decode cX7_bestTwo 180 = .ok (.istore 4, 2) := by decide +kernel
theorem dX7_bestTwo_182 : decode cX7_bestTwo 182 = .ok (.iload 8, 2) := by decide +kernel
theorem dX7_bestTwo_184 : decode cX7_bestTwo 184 = .ok (.iload 5, 2) := by decide +kernel
theorem dX7_bestTwo_186 : decode cX7_bestTwo 186 = .ok (.if_icmp .le 8, 3) := by decide +kernel
theorem dX7_bestTwo_189 : decode cX7_bestTwo 189 = .ok (.iload 8, 2) := by decide +kernel
theorem dX7_bestTwo_191 : decode cX7_bestTwo 191 = .ok (.goto 5, 3) := by decide +kernel
theorem dX7_bestTwo_194 : decode cX7_bestTwo 194 = .ok (.iload 5, 2) := by decide +kernel
theorem dX7_bestTwo_196 : decode cX7_bestTwo 196 = .ok (.istore 5, 2) := by decide +kernel
theorem dX7_bestTwo_198 : decode cX7_bestTwo 198 = .ok (.iinc 7 1, 3) := by decide +kernel
theorem dX7_bestTwo_201 : decode cX7_bestTwo 201 = .ok (.goto (-144), 3) := by decide +kernel
theorem dX7_bestTwo_204 : decode cX7_bestTwo 204 = .ok (.iinc 6 1, 3) := by decide +kernel
theorem dX7_bestTwo_207 : decode cX7_bestTwo 207 = .ok (.goto (-162), 3) := by decide +kernel
theorem dX7_bestTwo_210 : decode cX7_bestTwo 210 = .ok (.iload_n 3, 1) := by decide +kernel
theorem dX7_bestTwo_211 : decode cX7_bestTwo 211 = .ok (.ifCond .ne 8, 3) := by decide +kernel
theorem dX7_bestTwo_214 : decode cX7_bestTwo 214 = .ok (.iload 4, 2) := by decide +kernel
theorem dX7_bestTwo_216 : decode cX7_bestTwo 216 = .ok (.goto 5, 3) := by decide +kernel
theorem dX7_bestTwo_219 : decode cX7_bestTwo 219 = .ok (.iload 5, 2) := by decide +kernel
theorem dX7_bestTwo_221 : decode cX7_bestTwo 221 = .ok (.ireturn, 1) := by decide +kernel
theorem dX7_tookWith_0 : decode cX7_tookWith 0 = .ok (.aload_n 0, 1) := by decide +kernel
theorem dX7_tookWith_1 : decode cX7_tookWith 1 = .ok (.invokevirtual 305, 3) := by decide +kernel
theorem dX7_tookWith_4 : decode cX7_tookWith 4 = .ok (.aload_n 0, 1) := by decide +kernel
theorem dX7_tookWith_5 : decode cX7_tookWith 5 = .ok (.getfield 56, 3) := by decide +kernel
theorem dX7_tookWith_8 : decode cX7_tookWith 8 = .ok (.iconst 2, 1) := by decide +kernel
theorem dX7_tookWith_9 : decode cX7_tookWith 9 = .ok (.iload_n 1, 1) := by decide +kernel
theorem dX7_tookWith_10 : decode cX7_tookWith 10 = .ok (.iastore, 1) := by decide +kernel
theorem dX7_tookWith_11 : decode cX7_tookWith 11 = .ok (.aload_n 0, 1) := by decide +kernel
theorem dX7_tookWith_12 : decode cX7_tookWith 12 = .ok (.iload_n 2, 1) := by decide +kernel
theorem dX7_tookWith_13 : decode cX7_tookWith 13 = .ok (.invokevirtual 308, 3) := by decide +kernel
theorem dX7_tookWith_16 : decode cX7_tookWith 16 = .ok (.aload_n 0, 1) := by decide +kernel
theorem dX7_tookWith_17 : decode cX7_tookWith 17 = .ok (.iconst 0, 1) := by decide +kernel
theorem dX7_tookWith_18 : decode cX7_tookWith 18 = .ok (.invokevirtual 315, 3) := by decide +kernel
theorem dX7_tookWith_21 : decode cX7_tookWith 21 = .ok (.aload_n 0, 1) := by decide +kernel
theorem dX7_tookWith_22 : decode cX7_tookWith 22 = .ok (.iconst 1, 1) := by decide +kernel
theorem dX7_tookWith_23 : decode cX7_tookWith 23 = .ok (.invokevirtual 315, 3) := by decide +kernel
theorem dX7_tookWith_26 : decode cX7_tookWith 26 = .ok (.iadd, 1) := by decide +kernel
theorem dX7_tookWith_27 : decode cX7_tookWith 27 = .ok (.ireturn, 1) := by decide +kernel
theorem dX7_lampCosts_0 : decode cX7_lampCosts 0 = .ok (.aload_n 0, 1) := by decide +kernel
theorem dX7_lampCosts_1 : decode cX7_lampCosts 1 = .ok (.iload_n 1, 1) := by decide +kernel
theorem dX7_lampCosts_2 : decode cX7_lampCosts 2 = .ok (.iconst 0, 1) := by decide +kernel
theorem dX7_lampCosts_3 : decode cX7_lampCosts 3 = .ok (.bipush 99, 2) := by decide +kernel
theorem dX7_lampCosts_5 : decode cX7_lampCosts 5 = .ok (.invokestatic 85, 3) := by decide +kernel
theorem dX7_lampCosts_8 : decode cX7_lampCosts 8 = .ok (.invokevirtual 273, 3) := by decide +kernel
theorem dX7_lampCosts_11 : decode cX7_lampCosts 11 = .ok (.istore_n 2, 1) := by decide +kernel
theorem dX7_lampCosts_12 : decode cX7_lampCosts 12 = .ok (.iload_n 2, 1) := by decide +kernel
theorem dX7_lampCosts_13 : decode cX7_lampCosts 13 = .ok (.ifCond .ge 7, 3) := by decide +kernel
theorem dX7_lampCosts_16 : decode cX7_lampCosts 16 = .ok (.iload_n 2, 1) := by decide +kernel
theorem dX7_lampCosts_17 : decode cX7_lampCosts 17 = .ok (.goto 16, 3) := by decide +kernel
theorem dX7_lampCosts_20 : decode cX7_lampCosts 20 = .ok (.aload_n 0, 1) := by decide +kernel
theorem dX7_lampCosts_21 : decode cX7_lampCosts 21 = .ok (.iconst 0, 1) := by decide +kernel
theorem dX7_lampCosts_22 : decode cX7_lampCosts 22 = .ok (.iload_n 1, 1) := by decide +kernel
theorem dX7_lampCosts_23 : decode cX7_lampCosts 23 = .ok (.invokevirtual 318, 3) := by decide +kernel
theorem dX7_lampCosts_26 : decode cX7_lampCosts 26 = .ok (.aload_n 0, 1) := by decide +kernel
theorem dX7_lampCosts_27 : decode cX7_lampCosts 27 = .ok (.iconst 1, 1) := by decide +kernel
theorem dX7_lampCosts_28 : decode cX7_lampCosts 28 = .ok (.iload_n 1, 1) := by decide +kernel
theorem dX7_lampCosts_29 : decode cX7_lampCosts 29 = .ok (.invokevirtual 318, 3) := by decide +kernel
theorem dX7_lampCosts_32 : decode cX7_lampCosts 32 = .ok (.isub, 1) := by decide +kernel
theorem dX7_lampCosts_33 : decode cX7_lampCosts 33 = .ok (.ireturn, 1) := by decide +kernel
theorem dX7_thirsty_0 : decode cX7_thirsty 0 = .ok (.iload_n 1, 1) := by decide +kernel
theorem dX7_thirsty_1 : decode cX7_thirsty 1 = .ok (.invokestatic 227, 3) := by decide +kernel
theorem dX7_thirsty_4 : decode cX7_thirsty 4 = .ok (.ifCond .ne 6, 3) := by decide +kernel
theorem dX7_thirsty_7 : decode cX7_thirsty 7 = .ok (.ldc 219, 2) := by decide +kernel
theorem dX7_thirsty_9 : decode cX7_thirsty 9 = .ok (.ireturn, 1) := by decide +kernel
theorem dX7_thirsty_10 : decode cX7_thirsty 10 = .ok (.aload_n 0, 1) := by decide +kernel
theorem dX7_thirsty_11 : decode cX7_thirsty 11 = .ok (.getfield 170, 3) := by decide +kernel
theorem dX7_thirsty_14 : decode cX7_thirsty 14 = .ok (.ifCond .ne 6, 3) := by decide +kernel
theorem dX7_thirsty_17 : decode cX7_thirsty 17 = .ok (.ldc 220, 2) := by decide +kernel
theorem dX7_thirsty_19 : decode cX7_thirsty 19 = .ok (.ireturn, 1) := by decide +kernel
theorem dX7_thirsty_20 : decode cX7_thirsty 20 = .ok (.aload_n 0, 1) := by decide +kernel
theorem dX7_thirsty_21 : decode cX7_thirsty 21 = .ok (.invokevirtual 305, 3) := by decide +kernel
theorem dX7_thirsty_24 : decode cX7_thirsty 24 = .ok (.iconst 1, 1) := by decide +kernel
theorem dX7_thirsty_25 : decode cX7_thirsty 25 = .ok (.istore_n 2, 1) := by decide +kernel
theorem dX7_thirsty_26 : decode cX7_thirsty 26 = .ok (.iload_n 2, 1) := by decide +kernel
theorem dX7_thirsty_27 : decode cX7_thirsty 27 = .ok (.bipush 60, 2) := by decide +kernel
theorem dX7_thirsty_29 : decode cX7_thirsty 29 = .ok (.if_icmp .gt 78, 3) := by decide +kernel
theorem dX7_thirsty_32 : decode cX7_thirsty 32 = .ok (.aload_n 0, 1) := by decide +kernel
theorem dX7_thirsty_33 : decode cX7_thirsty 33 = .ok (.getfield 56, 3) := by decide +kernel
theorem dX7_thirsty_36 : decode cX7_thirsty 36 = .ok (.iconst 0, 1) := by decide +kernel
theorem dX7_thirsty_37 : decode cX7_thirsty 37 = .ok (.iaload, 1) := by decide +kernel
theorem dX7_thirsty_38 : decode cX7_thirsty 38 = .ok (.istore_n 3, 1) := by decide +kernel
theorem dX7_thirsty_39 : decode cX7_thirsty 39 = .ok (.aload_n 0, 1) := by decide +kernel
theorem dX7_thirsty_40 : decode cX7_thirsty 40 = .ok (.getfield 56, 3) := by decide +kernel
theorem dX7_thirsty_43 : decode cX7_thirsty 43 = .ok (.iconst 0, 1) := by decide +kernel
theorem dX7_thirsty_44 : decode cX7_thirsty 44 = .ok (.iaload, 1) := by decide +kernel
theorem dX7_thirsty_45 : decode cX7_thirsty 45 = .ok (.iload_n 3, 1) := by decide +kernel
theorem dX7_thirsty_46 : decode cX7_thirsty 46 = .ok (.if_icmp .ne 32, 3) := by decide +kernel
theorem dX7_thirsty_49 : decode cX7_thirsty 49 = .ok (.aload_n 0, 1) := by decide +kernel
theorem dX7_thirsty_50 : decode cX7_thirsty 50 = .ok (.aload_n 0, 1) := by decide +kernel
theorem dX7_thirsty_51 : decode cX7_thirsty 51 = .ok (.getfield 56, 3) := by decide +kernel
theorem dX7_thirsty_54 : decode cX7_thirsty 54 = .ok (.aload_n 0, 1) := by decide +kernel
theorem dX7_thirsty_55 : decode cX7_thirsty 55 = .ok (.aload_n 0, 1) := by decide +kernel
theorem dX7_thirsty_56 : decode cX7_thirsty 56 = .ok (.getfield 56, 3) := by decide +kernel
theorem dX7_thirsty_59 : decode cX7_thirsty 59 = .ok (.invokevirtual 224, 3) := by decide +kernel
theorem dX7_thirsty_62 : decode cX7_thirsty 62 = .ok (.aload_n 0, 1) := by decide +kernel
theorem dX7_thirsty_63 : decode cX7_thirsty 63 = .ok (.aload_n 0, 1) := by decide +kernel
theorem dX7_thirsty_64 : decode cX7_thirsty 64 = .ok (.getfield 56, 3) := by decide +kernel
theorem dX7_thirsty_67 : decode cX7_thirsty 67 = .ok (.invokevirtual 221, 3) := by decide +kernel
theorem dX7_thirsty_70 : decode cX7_thirsty 70 = .ok (.iconst 1, 1) := by decide +kernel
theorem dX7_thirsty_71 : decode cX7_thirsty 71 = .ok (.invokevirtual 266, 3) := by decide +kernel
theorem dX7_thirsty_74 : decode cX7_thirsty 74 = .ok (.pop, 1) := by decide +kernel
theorem dX7_thirsty_75 : decode cX7_thirsty 75 = .ok (.goto (-36), 3) := by decide +kernel
theorem dX7_thirsty_78 : decode cX7_thirsty 78 = .ok (.aload_n 0, 1) := by decide +kernel
theorem dX7_thirsty_79 : decode cX7_thirsty 79 = .ok (.getfield 56, 3) := by decide +kernel
theorem dX7_thirsty_82 : decode cX7_thirsty 82 = .ok (.bipush 7, 2) := by decide +kernel
theorem dX7_thirsty_84 : decode cX7_thirsty 84 = .ok (.iload_n 1, 1) := by decide +kernel
theorem dX7_thirsty_85 : decode cX7_thirsty 85 = .ok (.iadd, 1) := by decide +kernel
theorem dX7_thirsty_86 : decode cX7_thirsty 86 = .ok (.iaload, 1) := by decide +kernel
theorem dX7_thirsty_87 : decode cX7_thirsty 87 = .ok (.aload_n 0, 1) := by decide +kernel
theorem dX7_thirsty_88 : decode cX7_thirsty 88 = .ok (.getfield 53, 3) := by decide +kernel
theorem dX7_thirsty_91 : decode cX7_thirsty 91 = .ok (.bipush 7, 2) := by decide +kernel
theorem dX7_thirsty_93 : decode cX7_thirsty 93 = .ok (.iload_n 1, 1) := by decide +kernel
theorem dX7_thirsty_94 : decode cX7_thirsty 94 = .ok (.iadd, 1) := by decide +kernel
theorem dX7_thirsty_95 : decode cX7_thirsty 95 = .ok (.iaload, 1) := by decide +kernel
theorem dX7_thirsty_96 : decode cX7_thirsty 96 = .ok (.if_icmp .le 5, 3) := by decide +kernel
theorem dX7_thirsty_99 : decode cX7_thirsty 99 = .ok (.iload_n 2, 1) := by decide +kernel
theorem dX7_thirsty_100 : decode cX7_thirsty 100 = .ok (.ireturn, 1) := by decide +kernel
theorem dX7_thirsty_101 : decode cX7_thirsty 101 = .ok (.iinc 2 1, 3) := by decide +kernel
theorem dX7_thirsty_104 : decode cX7_thirsty 104 = .ok (.goto (-78), 3) := by decide +kernel
theorem dX7_thirsty_107 : decode cX7_thirsty 107 = .ok (.iconst (-1), 1) := by decide +kernel
theorem dX7_thirsty_108 : decode cX7_thirsty 108 = .ok (.ireturn, 1) := by decide +kernel
theorem dX7_lasts_0 : decode cX7_lasts 0 = .ok (.iload_n 1, 1) := by decide +kernel
theorem dX7_lasts_1 : decode cX7_lasts 1 = .ok (.invokestatic 227, 3) := by decide +kernel
theorem dX7_lasts_4 : decode cX7_lasts 4 = .ok (.ifCond .ne 6, 3) := by decide +kernel
theorem dX7_lasts_7 : decode cX7_lasts 7 = .ok (.ldc 219, 2) := by decide +kernel
theorem dX7_lasts_9 : decode cX7_lasts 9 = .ok (.ireturn, 1) := by decide +kernel
theorem dX7_lasts_10 : decode cX7_lasts 10 = .ok (.aload_n 0, 1) := by decide +kernel
theorem dX7_lasts_11 : decode cX7_lasts 11 = .ok (.getfield 50, 3) := by decide +kernel
theorem dX7_lasts_14 : decode cX7_lasts 14 = .ok (.iload_n 1, 1) := by decide +kernel
theorem dX7_lasts_15 : decode cX7_lasts 15 = .ok (.iaload, 1) := by decide +kernel
theorem dX7_lasts_16 : decode cX7_lasts 16 = .ok (.ifCond .ne 9, 3) := by decide +kernel
theorem dX7_lasts_19 : decode cX7_lasts 19 = .ok (.sipush 999, 3) := by decide +kernel
theorem dX7_lasts_22 : decode cX7_lasts 22 = .ok (.goto 18, 3) := by decide +kernel
theorem dX7_lasts_25 : decode cX7_lasts 25 = .ok (.aload_n 0, 1) := by decide +kernel
theorem dX7_lasts_26 : decode cX7_lasts 26 = .ok (.getfield 53, 3) := by decide +kernel
theorem dX7_lasts_29 : decode cX7_lasts 29 = .ok (.iconst 5, 1) := by decide +kernel
theorem dX7_lasts_30 : decode cX7_lasts 30 = .ok (.iload_n 1, 1) := by decide +kernel
theorem dX7_lasts_31 : decode cX7_lasts 31 = .ok (.iadd, 1) := by decide +kernel
theorem dX7_lasts_32 : decode cX7_lasts 32 = .ok (.iaload, 1) := by decide +kernel
theorem dX7_lasts_33 : decode cX7_lasts 33 = .ok (.aload_n 0, 1) := by decide +kernel
theorem dX7_lasts_34 : decode cX7_lasts 34 = .ok (.getfield 50, 3) := by decide +kernel
theorem dX7_lasts_37 : decode cX7_lasts 37 = .ok (.iload_n 1, 1) := by decide +kernel
theorem dX7_lasts_38 : decode cX7_lasts 38 = .ok (.iaload, 1) := by decide +kernel
theorem dX7_lasts_39 : decode cX7_lasts 39 = .ok (.idiv, 1) := by decide +kernel
theorem dX7_lasts_40 : decode cX7_lasts 40 = .ok (.istore_n 2, 1) := by decide +kernel
theorem dX7_lasts_41 : decode cX7_lasts 41 = .ok (.iload_n 2, 1) := by decide +kernel
theorem dX7_lasts_42 : decode cX7_lasts 42 = .ok (.sipush 999, 3) := by decide +kernel
theorem dX7_lasts_45 : decode cX7_lasts 45 = .ok (.if_icmp .le 9, 3) := by decide +kernel
theorem dX7_lasts_48 : decode cX7_lasts 48 = .ok (.sipush 999, 3) := by decide +kernel
theorem dX7_lasts_51 : decode cX7_lasts 51 = .ok (.goto 4, 3) := by decide +kernel
theorem dX7_lasts_54 : decode cX7_lasts 54 = .ok (.iload_n 2, 1) := by decide +kernel
theorem dX7_lasts_55 : decode cX7_lasts 55 = .ok (.ireturn, 1) := by decide +kernel
theorem dX7_both_0 : decode cX7_both 0 = .ok (.aload_n 0, 1) := by decide +kernel
theorem dX7_both_1 : decode cX7_both 1 = .ok (.getfield 170, 3) := by decide +kernel
theorem dX7_both_4 : decode cX7_both 4 = .ok (.ifCond .ne 6, 3) := by decide +kernel
theorem dX7_both_7 : decode cX7_both 7 = .ok (.ldc 220, 2) := by decide +kernel
theorem dX7_both_9 : decode cX7_both 9 = .ok (.ireturn, 1) := by decide +kernel
theorem dX7_both_10 : decode cX7_both 10 = .ok (.iconst 0, 1) := by decide +kernel
theorem dX7_both_11 : decode cX7_both 11 = .ok (.istore_n 1, 1) := by decide +kernel
theorem dX7_both_12 : decode cX7_both 12 = .ok (.iload_n 1, 1) := by decide +kernel
theorem dX7_both_13 : decode cX7_both 13 = .ok (.bipush 7, 2) := by decide +kernel
theorem dX7_both_15 : decode cX7_both 15 = .ok (.if_icmp .ge 41, 3) := by decide +kernel
theorem dX7_both_18 : decode cX7_both 18 = .ok (.aload_n 0, 1) := by decide +kernel
theorem dX7_both_19 : decode cX7_both 19 = .ok (.getfield 47, 3) := by decide +kernel
theorem dX7_both_22 : decode cX7_both 22 = .ok (.iconst 0, 1) := by decide +kernel
theorem dX7_both_23 : decode cX7_both 23 = .ok (.iaload, 1) := by decide +kernel
theorem dX7_both_24 : decode cX7_both 24 = .ok (.aload_n 0, 1) := by decide +kernel
theorem dX7_both_25 : decode cX7_both 25 = .ok (.getfield 47, 3) := by decide +kernel
theorem dX7_both_28 : decode cX7_both 28 = .ok (.iconst 1, 1) := by decide +kernel
theorem dX7_both_29 : decode cX7_both 29 = .ok (.iaload, 1) := by decide +kernel
theorem dX7_both_30 : decode cX7_both 30 = .ok (.iand, 1) := by decide +kernel
theorem dX7_both_31 : decode cX7_both 31 = .ok (.aload_n 0, 1) := by decide +kernel
theorem dX7_both_32 : decode cX7_both 32 = .ok (.getfield 53, 3) := by decide +kernel
theorem dX7_both_35 : decode cX7_both 35 = .ok (.iconst 0, 1) := by decide +kernel
theorem dX7_both_36 : decode cX7_both 36 = .ok (.iaload, 1) := by decide +kernel
theorem dX7_both_37 : decode cX7_both 37 = .ok (.iload_n 1, 1) := by decide +kernel
theorem dX7_both_38 : decode cX7_both 38 = .ok (.iadd, 1) := by decide +kernel
theorem dX7_both_39 : decode cX7_both 39 = .ok (.bipush 7, 2) := by decide +kernel
theorem dX7_both_41 : decode cX7_both 41 = .ok (.irem, 1) := by decide +kernel
theorem dX7_both_42 : decode cX7_both 42 = .ok (.invokestatic 197, 3) := by decide +kernel
theorem dX7_both_45 : decode cX7_both 45 = .ok (.ifCond .eq 5, 3) := by decide +kernel
theorem dX7_both_48 : decode cX7_both 48 = .ok (.iload_n 1, 1) := by decide +kernel
theorem dX7_both_49 : decode cX7_both 49 = .ok (.ireturn, 1) := by decide +kernel
theorem dX7_both_50 : decode cX7_both 50 = .ok (.iinc 1 1, 3) := by decide +kernel
theorem dX7_both_53 : decode cX7_both 53 = .ok (.goto (-41), 3) := by decide +kernel
theorem dX7_both_56 : decode cX7_both 56 = .ok (.iconst (-1), 1) := by decide +kernel
theorem dX7_both_57 : decode cX7_both 57 = .ok (.ireturn, 1) := by decide +kernel
theorem dX7_apart_0 : decode cX7_apart 0 = .ok (.aload_n 0, 1) := by decide +kernel
theorem dX7_apart_1 : decode cX7_apart 1 = .ok (.iload_n 1, 1) := by decide +kernel
theorem dX7_apart_2 : decode cX7_apart 2 = .ok (.iconst 0, 1) := by decide +kernel
theorem dX7_apart_3 : decode cX7_apart 3 = .ok (.bipush 99, 2) := by decide +kernel
theorem dX7_apart_5 : decode cX7_apart 5 = .ok (.invokestatic 85, 3) := by decide +kernel
theorem dX7_apart_8 : decode cX7_apart 8 = .ok (.invokevirtual 273, 3) := by decide +kernel
theorem dX7_apart_11 : decode cX7_apart 11 = .ok (.istore_n 2, 1) := by decide +kernel
theorem dX7_apart_12 : decode cX7_apart 12 = .ok (.iload_n 2, 1) := by decide +kernel
theorem dX7_apart_13 : decode cX7_apart 13 = .ok (.ifCond .ge 5, 3) := by decide +kernel
theorem dX7_apart_16 : decode cX7_apart 16 = .ok (.iload_n 2, 1) := by decide +kernel
theorem dX7_apart_17 : decode cX7_apart 17 = .ok (.ireturn, 1) := by decide +kernel
theorem dX7_apart_18 : decode cX7_apart 18 = .ok (.iconst 0, 1) := by decide +kernel
theorem dX7_apart_19 : decode cX7_apart 19 = .ok (.istore_n 3, 1) := by decide +kernel
theorem dX7_apart_20 : decode cX7_apart 20 = .ok (.iconst 0, 1) := by decide +kernel
theorem dX7_apart_21 : decode cX7_apart 21 = .ok (.istore 4, 2) := by decide +kernel
theorem dX7_apart_23 : decode cX7_apart 23 = .ok (.iload 4, 2) := by decide +kernel
theorem dX7_apart_25 : decode cX7_apart 25 = .ok (.iload_n 1, 1) := by decide +kernel
theorem dX7_apart_26 : decode cX7_apart 26 = .ok (.if_icmp .ge 48, 3) := by decide +kernel
theorem dX7_apart_29 : decode cX7_apart 29 = .ok (.iload_n 3, 1) := by decide +kernel
theorem dX7_apart_30 : decode cX7_apart 30 = .ok (.aload_n 0, 1) := by decide +kernel
theorem dX7_apart_31 : decode cX7_apart 31 = .ok (.getfield 47, 3) := by decide +kernel
theorem dX7_apart_34 : decode cX7_apart 34 = .ok (.iconst 0, 1) := by decide +kernel
theorem dX7_apart_35 : decode cX7_apart 35 = .ok (.iaload, 1) := by decide +kernel
theorem dX7_apart_36 : decode cX7_apart 36 = .ok (.aload_n 0, 1) := by decide +kernel
theorem dX7_apart_37 : decode cX7_apart 37 = .ok (.getfield 47, 3) := by decide +kernel
theorem dX7_apart_40 : decode cX7_apart 40 = .ok (.iconst 1, 1) := by decide +kernel
theorem dX7_apart_41 : decode cX7_apart 41 = .ok (.iaload, 1) := by decide +kernel
theorem dX7_apart_42 : decode cX7_apart 42 = .ok (.ixor, 1) := by decide +kernel
theorem dX7_apart_43 : decode cX7_apart 43 = .ok (.aload_n 0, 1) := by decide +kernel
theorem dX7_apart_44 : decode cX7_apart 44 = .ok (.getfield 53, 3) := by decide +kernel
theorem dX7_apart_47 : decode cX7_apart 47 = .ok (.iconst 0, 1) := by decide +kernel
theorem dX7_apart_48 : decode cX7_apart 48 = .ok (.iaload, 1) := by decide +kernel
theorem dX7_apart_49 : decode cX7_apart 49 = .ok (.iload 4, 2) := by decide +kernel
theorem dX7_apart_51 : decode cX7_apart 51 = .ok (.iadd, 1) := by decide +kernel
theorem dX7_apart_52 : decode cX7_apart 52 = .ok (.bipush 7, 2) := by decide +kernel
theorem dX7_apart_54 : decode cX7_apart 54 = .ok (.irem, 1) := by decide +kernel
theorem dX7_apart_55 : decode cX7_apart 55 = .ok (.invokestatic 197, 3) := by decide +kernel
theorem dX7_apart_58 : decode cX7_apart 58 = .ok (.ifCond .eq 7, 3) := by decide +kernel
theorem dX7_apart_61 : decode cX7_apart 61 = .ok (.iconst 1, 1) := by decide +kernel
theorem dX7_apart_62 : decode cX7_apart 62 = .ok (.goto 4, 3) := by decide +kernel
theorem dX7_apart_65 : decode cX7_apart 65 = .ok (.iconst 0, 1) := by decide +kernel
theorem dX7_apart_66 : decode cX7_apart 66 = .ok (.iadd, 1) := by decide +kernel
theorem dX7_apart_67 : decode cX7_apart 67 = .ok (.istore_n 3, 1) := by decide +kernel
theorem dX7_apart_68 : decode cX7_apart 68 = .ok (.iinc 4 1, 3) := by decide +kernel
theorem dX7_apart_71 : decode cX7_apart 71 = .ok (.goto (-48), 3) := by decide +kernel
theorem dX7_apart_74 : decode cX7_apart 74 = .ok (.iload_n 3, 1) := by decide +kernel
theorem dX7_apart_75 : decode cX7_apart 75 = .ok (.ireturn, 1) := by decide +kernel
theorem dX7_ownedBy_0 : decode cX7_ownedBy 0 = .ok (.iconst 0, 1) := by decide +kernel
theorem dX7_ownedBy_1 : decode cX7_ownedBy 1 = .ok (.istore_n 2, 1) := by decide +kernel
theorem dX7_ownedBy_2 : decode cX7_ownedBy 2 = .ok (.iconst 0, 1) := by decide +kernel
theorem dX7_ownedBy_3 : decode cX7_ownedBy 3 = .ok (.istore_n 3, 1) := by decide +kernel
theorem dX7_ownedBy_4 : decode cX7_ownedBy 4 = .ok (.iload_n 3, 1) := by decide +kernel
theorem dX7_ownedBy_5 : decode cX7_ownedBy 5 = .ok (.aload_n 0, 1) := by decide +kernel
theorem dX7_ownedBy_6 : decode cX7_ownedBy 6 = .ok (.getfield 179, 3) := by decide +kernel
theorem dX7_ownedBy_9 : decode cX7_ownedBy 9 = .ok (.if_icmp .ge 27, 3) := by decide +kernel
theorem dX7_ownedBy_12 : decode cX7_ownedBy 12 = .ok (.iload_n 2, 1) := by decide +kernel
theorem dX7_ownedBy_13 : decode cX7_ownedBy 13 = .ok (.aload_n 0, 1) := by decide +kernel
theorem dX7_ownedBy_14 : decode cX7_ownedBy 14 = .ok (.getfield 41, 3) := by decide +kernel
theorem dX7_ownedBy_17 : decode cX7_ownedBy 17 = .ok (.iload_n 3, 1) := by decide +kernel
theorem dX7_ownedBy_18 : decode cX7_ownedBy 18 = .ok (.iaload, 1) := by decide +kernel
theorem dX7_ownedBy_19 : decode cX7_ownedBy 19 = .ok (.iload_n 1, 1) := by decide +kernel
theorem dX7_ownedBy_20 : decode cX7_ownedBy 20 = .ok (.if_icmp .ne 7, 3) := by decide +kernel
theorem dX7_ownedBy_23 : decode cX7_ownedBy 23 = .ok (.iconst 1, 1) := by decide +kernel
theorem dX7_ownedBy_24 : decode cX7_ownedBy 24 = .ok (.goto 4, 3) := by decide +kernel
theorem dX7_ownedBy_27 : decode cX7_ownedBy 27 = .ok (.iconst 0, 1) := by decide +kernel
theorem dX7_ownedBy_28 : decode cX7_ownedBy 28 = .ok (.iadd, 1) := by decide +kernel
theorem dX7_ownedBy_29 : decode cX7_ownedBy 29 = .ok (.istore_n 2, 1) := by decide +kernel
theorem dX7_ownedBy_30 : decode cX7_ownedBy 30 = .ok (.iinc 3 1, 3) := by decide +kernel
theorem dX7_ownedBy_33 : decode cX7_ownedBy 33 = .ok (.goto (-29), 3) := by decide +kernel
theorem dX7_ownedBy_36 : decode cX7_ownedBy 36 = .ok (.iload_n 2, 1) := by decide +kernel
theorem dX7_ownedBy_37 : decode cX7_ownedBy 37 = .ok (.ireturn, 1) := by decide +kernel
theorem dX7_share_0 : decode cX7_share 0 = .ok (.iload_n 2, 1) := by decide +kernel
theorem dX7_share_1 : decode cX7_share 1 = .ok (.invokestatic 227, 3) := by decide +kernel
theorem dX7_share_4 : decode cX7_share 4 = .ok (.ifCond .ne 6, 3) := by decide +kernel
theorem dX7_share_7 : decode cX7_share 7 = .ok (.ldc 219, 2) := by decide +kernel
theorem dX7_share_9 : decode cX7_share 9 = .ok (.ireturn, 1) := by decide +kernel
theorem dX7_share_10 : decode cX7_share 10 = .ok (.iload_n 1, 1) := by decide +kernel
theorem dX7_share_11 : decode cX7_share 11 = .ok (.iconst 0, 1) := by decide +kernel
theorem dX7_share_12 : decode cX7_share 12 = .ok (.sipush 999, 3) := by decide +kernel
theorem dX7_share_15 : decode cX7_share 15 = .ok (.invokestatic 85, 3) := by decide +kernel
theorem dX7_share_18 : decode cX7_share 18 = .ok (.ifCond .ne 6, 3) := by decide +kernel
theorem dX7_share_21 : decode cX7_share 21 = .ok (.ldc 89, 2) := by decide +kernel
theorem dX7_share_23 : decode cX7_share 23 = .ok (.ireturn, 1) := by decide +kernel
theorem dX7_share_24 : decode cX7_share 24 = .ok (.aload_n 0, 1) := by decide +kernel
theorem dX7_share_25 : decode cX7_share 25 = .ok (.getfield 179, 3) := by decide +kernel
theorem dX7_share_28 : decode cX7_share 28 = .ok (.ifCond .ne 5, 3) := by decide +kernel
theorem dX7_share_31 : decode cX7_share 31 = .ok (.iconst 0, 1) := by decide +kernel
theorem dX7_share_32 : decode cX7_share 32 = .ok (.ireturn, 1) := by decide +kernel
theorem dX7_share_33 : decode cX7_share 33 = .ok (.iload_n 1, 1) := by decide +kernel
theorem dX7_share_34 : decode cX7_share 34 = .ok (.iload_n 1, 1) := by decide +kernel
theorem dX7_share_35 : decode cX7_share 35 = .ok (.aload_n 0, 1) := by decide +kernel
theorem dX7_share_36 : decode cX7_share 36 = .ok (.iconst 0, 1) := by decide +kernel
theorem dX7_share_37 : decode cX7_share 37 = .ok (.invokevirtual 321, 3) := by decide +kernel
theorem dX7_share_40 : decode cX7_share 40 = .ok (.imul, 1) := by decide +kernel
theorem dX7_share_41 : decode cX7_share 41 = .ok (.aload_n 0, 1) := by decide +kernel
theorem dX7_share_42 : decode cX7_share 42 = .ok (.getfield 179, 3) := by decide +kernel
theorem dX7_share_45 : decode cX7_share 45 = .ok (.idiv, 1) := by decide +kernel
theorem dX7_share_46 : decode cX7_share 46 = .ok (.isub, 1) := by decide +kernel
theorem dX7_share_47 : decode cX7_share 47 = .ok (.iload_n 1, 1) := by decide +kernel
theorem dX7_share_48 : decode cX7_share 48 = .ok (.aload_n 0, 1) := by decide +kernel
theorem dX7_share_49 : decode cX7_share 49 = .ok (.iconst 1, 1) := by decide +kernel
theorem dX7_share_50 : decode cX7_share 50 = .ok (.invokevirtual 321, 3) := by decide +kernel
theorem dX7_share_53 : decode cX7_share 53 = .ok (.imul, 1) := by decide +kernel
theorem dX7_share_54 : decode cX7_share 54 = .ok (.aload_n 0, 1) := by decide +kernel
theorem dX7_share_55 : decode cX7_share 55 = .ok (.getfield 179, 3) := by decide +kernel
theorem dX7_share_58 : decode cX7_share 58 = .ok (.idiv, 1) := by decide +kernel
theorem dX7_share_59 : decode cX7_share 59 = .ok (.isub, 1) := by decide +kernel
theorem dX7_share_60 : decode cX7_share 60 = .ok (.istore_n 3, 1) := by decide +kernel
theorem dX7_share_61 : decode cX7_share 61 = .ok (.iload_n 1, 1) := by decide +kernel
theorem dX7_share_62 : decode cX7_share 62 = .ok (.aload_n 0, 1) := by decide +kernel
theorem dX7_share_63 : decode cX7_share 63 = .ok (.iconst 1, 1) := by decide +kernel
theorem dX7_share_64 : decode cX7_share 64 = .ok (.invokevirtual 321, 3) := by decide +kernel
theorem dX7_share_67 : decode cX7_share 67 = .ok (.imul, 1) := by decide +kernel
theorem dX7_share_68 : decode cX7_share 68 = .ok (.aload_n 0, 1) := by decide +kernel
theorem dX7_share_69 : decode cX7_share 69 = .ok (.getfield 179, 3) := by decide +kernel
theorem dX7_share_72 : decode cX7_share 72 = .ok (.irem, 1) := by decide +kernel
theorem dX7_share_73 : decode cX7_share 73 = .ok (.iload_n 1, 1) := by decide +kernel
theorem dX7_share_74 : decode cX7_share 74 = .ok (.aload_n 0, 1) := by decide +kernel
theorem dX7_share_75 : decode cX7_share 75 = .ok (.iconst 0, 1) := by decide +kernel
theorem dX7_share_76 : decode cX7_share 76 = .ok (.invokevirtual 321, 3) := by decide +kernel
theorem dX7_share_79 : decode cX7_share 79 = .ok (.imul, 1) := by decide +kernel
theorem dX7_share_80 : decode cX7_share 80 = .ok (.aload_n 0, 1) := by decide +kernel
theorem dX7_share_81 : decode cX7_share 81 = .ok (.getfield 179, 3) := by decide +kernel
theorem dX7_share_84 : decode cX7_share 84 = .ok (.irem, 1) := by decide +kernel
theorem dX7_share_85 : decode cX7_share 85 = .ok (.if_icmp .le 7, 3) := by decide +kernel
theorem dX7_share_88 : decode cX7_share 88 = .ok (.iconst 1, 1) := by decide +kernel
theorem dX7_share_89 : decode cX7_share 89 = .ok (.goto 4, 3) := by decide +kernel
theorem dX7_share_92 : decode cX7_share 92 = .ok (.iconst 0, 1) := by decide +kernel
theorem dX7_share_93 : decode cX7_share 93 = .ok (.istore 4, 2) := by decide +kernel
theorem dX7_share_95 : decode cX7_share 95 = .ok (.iload_n 1, 1) := by decide +kernel
theorem dX7_share_96 : decode cX7_share 96 = .ok (.aload_n 0, 1) := by decide +kernel
theorem dX7_share_97 : decode cX7_share 97 = .ok (.iload_n 2, 1) := by decide +kernel
theorem dX7_share_98 : decode cX7_share 98 = .ok (.invokevirtual 321, 3) := by decide +kernel
theorem dX7_share_101 : decode cX7_share 101 = .ok (.imul, 1) := by decide +kernel
theorem dX7_share_102 : decode cX7_share 102 = .ok (.aload_n 0, 1) := by decide +kernel
theorem dX7_share_103 : decode cX7_share 103 = .ok (.getfield 179, 3) := by decide +kernel
theorem dX7_share_106 : decode cX7_share 106 = .ok (.idiv, 1) := by decide +kernel
theorem dX7_share_107 : decode cX7_share 107 = .ok (.iload_n 2, 1) := by decide +kernel
theorem dX7_share_108 : decode cX7_share 108 = .ok (.iload 4, 2) := by decide +kernel
theorem dX7_share_110 : decode cX7_share 110 = .ok (.if_icmp .ne 7, 3) := by decide +kernel
theorem dX7_share_113 : decode cX7_share 113 = .ok (.iload_n 3, 1) := by decide +kernel
theorem dX7_share_114 : decode cX7_share 114 = .ok (.goto 4, 3) := by decide +kernel
theorem dX7_share_117 : decode cX7_share 117 = .ok (.iconst 0, 1) := by decide +kernel
theorem dX7_share_118 : decode cX7_share 118 = .ok (.iadd, 1) := by decide +kernel
theorem dX7_share_119 : decode cX7_share 119 = .ok (.ireturn, 1) := by decide +kernel
theorem dX7_led_0 : decode cX7_led 0 = .ok (.aload_n 0, 1) := by decide +kernel
theorem dX7_led_1 : decode cX7_led 1 = .ok (.iload_n 1, 1) := by decide +kernel
theorem dX7_led_2 : decode cX7_led 2 = .ok (.iconst 0, 1) := by decide +kernel
theorem dX7_led_3 : decode cX7_led 3 = .ok (.bipush 99, 2) := by decide +kernel
theorem dX7_led_5 : decode cX7_led 5 = .ok (.invokestatic 85, 3) := by decide +kernel
theorem dX7_led_8 : decode cX7_led 8 = .ok (.ifCond .eq 27, 3) := by decide +kernel
theorem dX7_led_11 : decode cX7_led 11 = .ok (.iload_n 2, 1) := by decide +kernel
theorem dX7_led_12 : decode cX7_led 12 = .ok (.iconst 0, 1) := by decide +kernel
theorem dX7_led_13 : decode cX7_led 13 = .ok (.iconst 1, 1) := by decide +kernel
theorem dX7_led_14 : decode cX7_led 14 = .ok (.invokestatic 85, 3) := by decide +kernel
theorem dX7_led_17 : decode cX7_led 17 = .ok (.ifCond .eq 18, 3) := by decide +kernel
theorem dX7_led_20 : decode cX7_led 20 = .ok (.iload_n 3, 1) := by decide +kernel
theorem dX7_led_21 : decode cX7_led 21 = .ok (.iconst 0, 1) := by decide +kernel
theorem dX7_led_22 : decode cX7_led 22 = .ok (.iload_n 1, 1) := by decide +kernel
theorem dX7_led_23 : decode cX7_led 23 = .ok (.iconst 1, 1) := by decide +kernel
theorem dX7_led_24 : decode cX7_led 24 = .ok (.isub, 1) := by decide +kernel
theorem dX7_led_25 : decode cX7_led 25 = .ok (.invokestatic 85, 3) := by decide +kernel
theorem dX7_led_28 : decode cX7_led 28 = .ok (.ifCond .eq 7, 3) := by decide +kernel
theorem dX7_led_31 : decode cX7_led 31 = .ok (.iconst 1, 1) := by decide +kernel
theorem dX7_led_32 : decode cX7_led 32 = .ok (.goto 4, 3) := by decide +kernel
theorem dX7_led_35 : decode cX7_led 35 = .ok (.iconst 0, 1) := by decide +kernel
theorem dX7_led_36 : decode cX7_led 36 = .ok (.invokevirtual 273, 3) := by decide +kernel
theorem dX7_led_39 : decode cX7_led 39 = .ok (.istore 4, 2) := by decide +kernel
theorem dX7_led_41 : decode cX7_led 41 = .ok (.iload 4, 2) := by decide +kernel
theorem dX7_led_43 : decode cX7_led 43 = .ok (.ifCond .ge 6, 3) := by decide +kernel
theorem dX7_led_46 : decode cX7_led 46 = .ok (.iload 4, 2) := by decide +kernel
theorem dX7_led_48 : decode cX7_led 48 = .ok (.ireturn, 1) := by decide +kernel
theorem dX7_led_49 : decode cX7_led 49 = .ok (.aload_n 0, 1) := by decide +kernel
theorem dX7_led_50 : decode cX7_led 50 = .ok (.aload_n 0, 1) := by decide +kernel
theorem dX7_led_51 : decode cX7_led 51 = .ok (.getfield 53, 3) := by decide +kernel
theorem dX7_led_54 : decode cX7_led 54 = .ok (.iload_n 1, 1) := by decide +kernel
theorem dX7_led_55 : decode cX7_led 55 = .ok (.iload_n 2, 1) := by decide +kernel
theorem dX7_led_56 : decode cX7_led 56 = .ok (.aload_n 0, 1) := by decide +kernel
theorem dX7_led_57 : decode cX7_led 57 = .ok (.aload_n 0, 1) := by decide +kernel
theorem dX7_led_58 : decode cX7_led 58 = .ok (.getfield 53, 3) := by decide +kernel
theorem dX7_led_61 : decode cX7_led 61 = .ok (.invokevirtual 209, 3) := by decide +kernel
theorem dX7_led_64 : decode cX7_led 64 = .ok (.invokevirtual 249, 3) := by decide +kernel
theorem dX7_led_67 : decode cX7_led 67 = .ok (.pop, 1) := by decide +kernel
theorem dX7_led_68 : decode cX7_led 68 = .ok (.iconst 0, 1) := by decide +kernel
theorem dX7_led_69 : decode cX7_led 69 = .ok (.istore 5, 2) := by decide +kernel
theorem dX7_led_71 : decode cX7_led 71 = .ok (.iconst 0, 1) := by decide +kernel
theorem dX7_led_72 : decode cX7_led 72 = .ok (.istore 6, 2) := by decide +kernel
theorem dX7_led_74 : decode cX7_led 74 = .ok (.iload 6, 2) := by decide +kernel
theorem dX7_led_76 : decode cX7_led 76 = .ok (.aload_n 0, 1) := by decide +kernel
theorem dX7_led_77 : decode cX7_led 77 = .ok (.getfield 173, 3) := by decide +kernel
theorem dX7_led_80 : decode cX7_led 80 = .ok (.if_icmp .ge 82, 3) := by decide +kernel
theorem dX7_led_83 : decode cX7_led 83 = .ok (.aload_n 0, 1) := by decide +kernel
theorem dX7_led_84 : decode cX7_led 84 = .ok (.aload_n 0, 1) := by decide +kernel
theorem dX7_led_85 : decode cX7_led 85 = .ok (.getfield 53, 3) := by decide +kernel
theorem dX7_led_88 : decode cX7_led 88 = .ok (.iload_n 2, 1) := by decide +kernel
theorem dX7_led_89 : decode cX7_led 89 = .ok (.ifCond .ne 8, 3) := by decide +kernel
theorem dX7_led_92 : decode cX7_led 92 = .ok (.iload 6, 2) := by decide +kernel
theorem dX7_led_94 : decode cX7_led 94 = .ok (.goto 12, 3) := by decide +kernel
theorem dX7_led_97 : decode cX7_led 97 = .ok (.aload_n 0, 1) := by decide +kernel
theorem dX7_led_98 : decode cX7_led 98 = .ok (.getfield 173, 3) := by decide +kernel
theorem dX7_led_101 : decode cX7_led 101 = .ok (.iconst 1, 1) := by decide +kernel
theorem dX7_led_102 : decode cX7_led 102 = .ok (.isub, 1) := by decide +kernel
theorem dX7_led_103 : decode cX7_led 103 = .ok (.iload 6, 2) := by decide +kernel
theorem dX7_led_105 : decode cX7_led 105 = .ok (.isub, 1) := by decide +kernel
theorem dX7_led_106 : decode cX7_led 106 = .ok (.invokevirtual 233, 3) := by decide +kernel
theorem dX7_led_109 : decode cX7_led 109 = .ok (.istore 7, 2) := by decide +kernel
theorem dX7_led_111 : decode cX7_led 111 = .ok (.iload 7, 2) := by decide +kernel
theorem dX7_led_113 : decode cX7_led 113 = .ok (.iconst (-1), 1) := by decide +kernel
theorem dX7_led_114 : decode cX7_led 114 = .ok (.if_icmp .eq 20, 3) := by decide +kernel
theorem dX7_led_117 : decode cX7_led 117 = .ok (.iload_n 3, 1) := by decide +kernel
theorem dX7_led_118 : decode cX7_led 118 = .ok (.iload 5, 2) := by decide +kernel
theorem dX7_led_120 : decode cX7_led 120 = .ok (.aload_n 0, 1) := by decide +kernel
theorem dX7_led_121 : decode cX7_led 121 = .ok (.getfield 59, 3) := by decide +kernel
theorem dX7_led_124 : decode cX7_led 124 = .ok (.iload 7, 2) := by decide +kernel
theorem dX7_led_126 : decode cX7_led 126 = .ok (.iaload, 1) := by decide +kernel
theorem dX7_led_127 : decode cX7_led 127 = .ok (.iadd, 1) := by decide +kernel
theorem dX7_led_128 : decode cX7_led 128 = .ok (.if_icmp .ge 6, 3) := by decide +kernel
theorem dX7_led_131 : decode cX7_led 131 = .ok (.iload 7, 2) := by decide +kernel
theorem dX7_led_133 : decode cX7_led 133 = .ok (.ireturn, 1) := by decide +kernel
theorem dX7_led_134 : decode cX7_led 134 = .ok (.iload 5, 2) := by decide +kernel
theorem dX7_led_136 : decode cX7_led 136 = .ok (.iload 7, 2) := by decide +kernel
theorem dX7_led_138 : decode cX7_led 138 = .ok (.iconst (-1), 1) := by decide +kernel
theorem dX7_led_139 : decode cX7_led 139 = .ok (.if_icmp .ne 7, 3) := by decide +kernel
theorem dX7_led_142 : decode cX7_led 142 = .ok (.iconst 0, 1) := by decide +kernel
theorem dX7_led_143 : decode cX7_led 143 = .ok (.goto 10, 3) := by decide +kernel
theorem dX7_led_146 : decode cX7_led 146 = .ok (.aload_n 0, 1) := by decide +kernel
theorem dX7_led_147 : decode cX7_led 147 = .ok (.getfield 59, 3) := by decide +kernel
theorem dX7_led_150 : decode cX7_led 150 = .ok (.iload 7, 2) := by decide +kernel
theorem dX7_led_152 : decode cX7_led 152 = .ok (.iaload, 1) := by decide +kernel
theorem dX7_led_153 : decode cX7_led 153 = .ok (.iadd, 1) := by decide +kernel
theorem dX7_led_154 : decode cX7_led 154 = .ok (.istore 5, 2) := by decide +kernel
theorem dX7_led_156 : decode cX7_led 156 = .ok (.iinc 6 1, 3) := by decide +kernel
theorem dX7_led_159 : decode cX7_led 159 = .ok (.goto (-85), 3) := by decide +kernel
theorem dX7_led_162 : decode cX7_led 162 = .ok (.iconst (-1), 1) := by decide +kernel
theorem dX7_led_163 : decode cX7_led 163 = .ok (.ireturn, 1) := by decide +kernel
theorem dX7_yards_0 : decode cX7_yards 0 = .ok (.iload_n 1, 1) := by decide +kernel
theorem dX7_yards_1 : decode cX7_yards 1 = .ok (.iconst 0, 1) := by decide +kernel
theorem dX7_yards_2 : decode cX7_yards 2 = .ok (.aload_n 0, 1) := by decide +kernel
theorem dX7_yards_3 : decode cX7_yards 3 = .ok (.getfield 185, 3) := by decide +kernel
theorem dX7_yards_6 : decode cX7_yards 6 = .ok (.iconst 1, 1) := by decide +kernel
theorem dX7_yards_7 : decode cX7_yards 7 = .ok (.isub, 1) := by decide +kernel
theorem dX7_yards_8 : decode cX7_yards 8 = .ok (.invokestatic 85, 3) := by decide +kernel
theorem dX7_yards_11 : decode cX7_yards 11 = .ok (.ifCond .ne 6, 3) := by decide +kernel
theorem dX7_yards_14 : decode cX7_yards 14 = .ok (.ldc 219, 2) := by decide +kernel
theorem dX7_yards_16 : decode cX7_yards 16 = .ok (.ireturn, 1) := by decide +kernel
theorem dX7_yards_17 : decode cX7_yards 17 = .ok (.iload_n 2, 1) := by decide +kernel
theorem dX7_yards_18 : decode cX7_yards 18 = .ok (.iconst 0, 1) := by decide +kernel
theorem dX7_yards_19 : decode cX7_yards 19 = .ok (.iconst 1, 1) := by decide +kernel
theorem dX7_yards_20 : decode cX7_yards 20 = .ok (.invokestatic 85, 3) := by decide +kernel
theorem dX7_yards_23 : decode cX7_yards 23 = .ok (.ifCond .ne 6, 3) := by decide +kernel
theorem dX7_yards_26 : decode cX7_yards 26 = .ok (.ldc 89, 2) := by decide +kernel
theorem dX7_yards_28 : decode cX7_yards 28 = .ok (.ireturn, 1) := by decide +kernel
theorem dX7_yards_29 : decode cX7_yards 29 = .ok (.iconst (-1), 1) := by decide +kernel
theorem dX7_yards_30 : decode cX7_yards 30 = .ok (.istore_n 3, 1) := by decide +kernel
theorem dX7_yards_31 : decode cX7_yards 31 = .ok (.ldc_w 324, 3) := by decide +kernel
theorem dX7_yards_34 : decode cX7_yards 34 = .ok (.istore 4, 2) := by decide +kernel
theorem dX7_yards_36 : decode cX7_yards 36 = .ok (.iconst 0, 1) := by decide +kernel
theorem dX7_yards_37 : decode cX7_yards 37 = .ok (.istore 5, 2) := by decide +kernel
theorem dX7_yards_39 : decode cX7_yards 39 = .ok (.iload 5, 2) := by decide +kernel
theorem dX7_yards_41 : decode cX7_yards 41 = .ok (.aload_n 0, 1) := by decide +kernel
theorem dX7_yards_42 : decode cX7_yards 42 = .ok (.getfield 173, 3) := by decide +kernel
theorem dX7_yards_45 : decode cX7_yards 45 = .ok (.if_icmp .ge 120, 3) := by decide +kernel
theorem dX7_yards_48 : decode cX7_yards 48 = .ok (.aload_n 0, 1) := by decide +kernel
theorem dX7_yards_49 : decode cX7_yards 49 = .ok (.aload_n 0, 1) := by decide +kernel
theorem dX7_yards_50 : decode cX7_yards 50 = .ok (.getfield 53, 3) := by decide +kernel
theorem dX7_yards_53 : decode cX7_yards 53 = .ok (.iload 5, 2) := by decide +kernel
theorem dX7_yards_55 : decode cX7_yards 55 = .ok (.invokevirtual 233, 3) := by decide +kernel
theorem dX7_yards_58 : decode cX7_yards 58 = .ok (.istore 6, 2) := by decide +kernel
theorem dX7_yards_60 : decode cX7_yards 60 = .ok (.iload 5, 2) := by decide +kernel
theorem dX7_yards_62 : decode cX7_yards 62 = .ok (.aload_n 0, 1) := by decide +kernel
theorem dX7_yards_63 : decode cX7_yards 63 = .ok (.getfield 44, 3) := by decide +kernel
theorem dX7_yards_66 : decode cX7_yards 66 = .ok (.iconst 2, 1) := by decide +kernel
theorem dX7_yards_67 : decode cX7_yards 67 = .ok (.iload_n 1, 1) := by decide +kernel
theorem dX7_yards_68 : decode cX7_yards 68 = .ok (.imul, 1) := by decide +kernel
theorem dX7_yards_69 : decode cX7_yards 69 = .ok (.iaload, 1) := by decide +kernel
theorem dX7_yards_70 : decode cX7_yards 70 = .ok (.if_icmp .ge 17, 3) := by decide +kernel
theorem dX7_yards_73 : decode cX7_yards 73 = .ok (.aload_n 0, 1) := by decide +kernel
theorem dX7_yards_74 : decode cX7_yards 74 = .ok (.getfield 44, 3) := by decide +kernel
theorem dX7_yards_77 : decode cX7_yards 77 = .ok (.iconst 2, 1) := by decide +kernel
theorem dX7_yards_78 : decode cX7_yards 78 = .ok (.iload_n 1, 1) := by decide +kernel
theorem dX7_yards_79 : decode cX7_yards 79 = .ok (.imul, 1) := by decide +kernel
theorem dX7_yards_80 : decode cX7_yards 80 = .ok (.iaload, 1) := by decide +kernel
theorem dX7_yards_81 : decode cX7_yards 81 = .ok (.iload 5, 2) := by decide +kernel
theorem dX7_yards_83 : decode cX7_yards 83 = .ok (.isub, 1) := by decide +kernel
theorem dX7_yards_84 : decode cX7_yards 84 = .ok (.goto 14, 3) := by decide +kernel
theorem dX7_yards_87 : decode cX7_yards 87 = .ok (.iload 5, 2) := by decide +kernel
theorem dX7_yards_89 : decode cX7_yards 89 = .ok (.aload_n 0, 1) := by decide +kernel
theorem dX7_yards_90 : decode cX7_yards 90 = .ok (.getfield 44, 3) := by decide +kernel
theorem dX7_yards_93 : decode cX7_yards 93 = .ok (.iconst 2, 1) := by decide +kernel
theorem dX7_yards_94 : decode cX7_yards 94 = .ok (.iload_n 1, 1) := by decide +kernel
end
section
theorem dX7_yards_95 : decode cX7_yards 95 = .ok (.imul, 1) := by decide +kernel
theorem dX7_yards_96 : decode cX7_yards 96 = .ok (.iaload, 1) := by decide +kernel
theorem dX7_yards_97 : decode cX7_yards 97 = .ok (.isub, 1) := by decide +kernel
theorem dX7_yards_98 : decode cX7_yards 98 = .ok (.istore 7, 2) := by decide +kernel
theorem dX7_yards_100 : decode cX7_yards 100 = .ok (.iload 6, 2) := by decide +kernel
theorem dX7_yards_102 : decode cX7_yards 102 = .ok (.iconst (-1), 1) := by decide +kernel
theorem dX7_yards_103 : decode cX7_yards 103 = .ok (.if_icmp .eq 27, 3) := by decide +kernel
theorem dX7_yards_106 : decode cX7_yards 106 = .ok (.aload_n 0, 1) := by decide +kernel
theorem dX7_yards_107 : decode cX7_yards 107 = .ok (.getfield 53, 3) := by decide +kernel
theorem dX7_yards_110 : decode cX7_yards 110 = .ok (.bipush 9, 2) := by decide +kernel
theorem dX7_yards_112 : decode cX7_yards 112 = .ok (.iload 6, 2) := by decide +kernel
theorem dX7_yards_114 : decode cX7_yards 114 = .ok (.iadd, 1) := by decide +kernel
theorem dX7_yards_115 : decode cX7_yards 115 = .ok (.iaload, 1) := by decide +kernel
theorem dX7_yards_116 : decode cX7_yards 116 = .ok (.ifCond .le 14, 3) := by decide +kernel
theorem dX7_yards_119 : decode cX7_yards 119 = .ok (.iload 7, 2) := by decide +kernel
theorem dX7_yards_121 : decode cX7_yards 121 = .ok (.iload 4, 2) := by decide +kernel
theorem dX7_yards_123 : decode cX7_yards 123 = .ok (.if_icmp .ge 7, 3) := by decide +kernel
theorem dX7_yards_126 : decode cX7_yards 126 = .ok (.iconst 1, 1) := by decide +kernel
theorem dX7_yards_127 : decode cX7_yards 127 = .ok (.goto 4, 3) := by decide +kernel
theorem dX7_yards_130 : decode cX7_yards 130 = .ok (.iconst 0, 1) := by decide +kernel
theorem dX7_yards_131 : decode cX7_yards 131 = .ok (.istore 8, 2) := by decide +kernel
theorem dX7_yards_133 : decode cX7_yards 133 = .ok (.iload 8, 2) := by decide +kernel
theorem dX7_yards_135 : decode cX7_yards 135 = .ok (.ifCond .eq 8, 3) := by decide +kernel
theorem dX7_yards_138 : decode cX7_yards 138 = .ok (.iload 6, 2) := by decide +kernel
theorem dX7_yards_140 : decode cX7_yards 140 = .ok (.goto 4, 3) := by decide +kernel
theorem dX7_yards_143 : decode cX7_yards 143 = .ok (.iload_n 3, 1) := by decide +kernel
theorem dX7_yards_144 : decode cX7_yards 144 = .ok (.istore_n 3, 1) := by decide +kernel
theorem dX7_yards_145 : decode cX7_yards 145 = .ok (.iload 8, 2) := by decide +kernel
theorem dX7_yards_147 : decode cX7_yards 147 = .ok (.ifCond .eq 8, 3) := by decide +kernel
theorem dX7_yards_150 : decode cX7_yards 150 = .ok (.iload 7, 2) := by decide +kernel
theorem dX7_yards_152 : decode cX7_yards 152 = .ok (.goto 5, 3) := by decide +kernel
theorem dX7_yards_155 : decode cX7_yards 155 = .ok (.iload 4, 2) := by decide +kernel
theorem dX7_yards_157 : decode cX7_yards 157 = .ok (.istore 4, 2) := by decide +kernel
theorem dX7_yards_159 : decode cX7_yards 159 = .ok (.iinc 5 1, 3) := by decide +kernel
theorem dX7_yards_162 : decode cX7_yards 162 = .ok (.goto (-123), 3) := by decide +kernel
theorem dX7_yards_165 : decode cX7_yards 165 = .ok (.iload_n 3, 1) := by decide +kernel
theorem dX7_yards_166 : decode cX7_yards 166 = .ok (.iconst (-1), 1) := by decide +kernel
theorem dX7_yards_167 : decode cX7_yards 167 = .ok (.if_icmp .ne 7, 3) := by decide +kernel
theorem dX7_yards_170 : decode cX7_yards 170 = .ok (.iconst (-1), 1) := by decide +kernel
theorem dX7_yards_171 : decode cX7_yards 171 = .ok (.goto 13, 3) := by decide +kernel
theorem dX7_yards_174 : decode cX7_yards 174 = .ok (.iload_n 2, 1) := by decide +kernel
theorem dX7_yards_175 : decode cX7_yards 175 = .ok (.ifCond .ne 8, 3) := by decide +kernel
theorem dX7_yards_178 : decode cX7_yards 178 = .ok (.iload 4, 2) := by decide +kernel
theorem dX7_yards_180 : decode cX7_yards 180 = .ok (.goto 4, 3) := by decide +kernel
theorem dX7_yards_183 : decode cX7_yards 183 = .ok (.iload_n 3, 1) := by decide +kernel
theorem dX7_yards_184 : decode cX7_yards 184 = .ok (.ireturn, 1) := by decide +kernel
theorem dX7_clear_0 : decode cX7_clear 0 = .ok (.iload_n 1, 1) := by decide +kernel
theorem dX7_clear_1 : decode cX7_clear 1 = .ok (.iconst 0, 1) := by decide +kernel
theorem dX7_clear_2 : decode cX7_clear 2 = .ok (.bipush 60, 2) := by decide +kernel
theorem dX7_clear_4 : decode cX7_clear 4 = .ok (.invokestatic 85, 3) := by decide +kernel
theorem dX7_clear_7 : decode cX7_clear 7 = .ok (.ifCond .eq 13, 3) := by decide +kernel
theorem dX7_clear_10 : decode cX7_clear 10 = .ok (.iload_n 2, 1) := by decide +kernel
theorem dX7_clear_11 : decode cX7_clear 11 = .ok (.iconst 0, 1) := by decide +kernel
theorem dX7_clear_12 : decode cX7_clear 12 = .ok (.bipush 100, 2) := by decide +kernel
theorem dX7_clear_14 : decode cX7_clear 14 = .ok (.invokestatic 85, 3) := by decide +kernel
theorem dX7_clear_17 : decode cX7_clear 17 = .ok (.ifCond .ne 6, 3) := by decide +kernel
theorem dX7_clear_20 : decode cX7_clear 20 = .ok (.ldc 89, 2) := by decide +kernel
theorem dX7_clear_22 : decode cX7_clear 22 = .ok (.ireturn, 1) := by decide +kernel
theorem dX7_clear_23 : decode cX7_clear 23 = .ok (.ldc2_w 325, 3) := by decide +kernel
theorem dX7_clear_26 : decode cX7_clear 26 = .ok (.lstore_n 3, 1) := by decide +kernel
theorem dX7_clear_27 : decode cX7_clear 27 = .ok (.iconst 0, 1) := by decide +kernel
theorem dX7_clear_28 : decode cX7_clear 28 = .ok (.istore 5, 2) := by decide +kernel
theorem dX7_clear_30 : decode cX7_clear 30 = .ok (.iload 5, 2) := by decide +kernel
theorem dX7_clear_32 : decode cX7_clear 32 = .ok (.iload_n 1, 1) := by decide +kernel
theorem dX7_clear_33 : decode cX7_clear 33 = .ok (.if_icmp .ge 18, 3) := by decide +kernel
theorem dX7_clear_36 : decode cX7_clear 36 = .ok (.lload_n 3, 1) := by decide +kernel
theorem dX7_clear_37 : decode cX7_clear 37 = .ok (.iload_n 2, 1) := by decide +kernel
theorem dX7_clear_38 : decode cX7_clear 38 = .ok (.i2l, 1) := by decide +kernel
theorem dX7_clear_39 : decode cX7_clear 39 = .ok (.lmul, 1) := by decide +kernel
theorem dX7_clear_40 : decode cX7_clear 40 = .ok (.ldc2_w 327, 3) := by decide +kernel
theorem dX7_clear_43 : decode cX7_clear 43 = .ok (.ldiv, 1) := by decide +kernel
theorem dX7_clear_44 : decode cX7_clear 44 = .ok (.lstore_n 3, 1) := by decide +kernel
theorem dX7_clear_45 : decode cX7_clear 45 = .ok (.iinc 5 1, 3) := by decide +kernel
theorem dX7_clear_48 : decode cX7_clear 48 = .ok (.goto (-18), 3) := by decide +kernel
theorem dX7_clear_51 : decode cX7_clear 51 = .ok (.lload_n 3, 1) := by decide +kernel
theorem dX7_clear_52 : decode cX7_clear 52 = .ok (.l2i, 1) := by decide +kernel
theorem dX7_clear_53 : decode cX7_clear 53 = .ok (.ireturn, 1) := by decide +kernel
theorem dX7_isSide_0 : decode cX7_isSide 0 = .ok (.iload_n 0, 1) := by decide +kernel
theorem dX7_isSide_1 : decode cX7_isSide 1 = .ok (.iconst 0, 1) := by decide +kernel
theorem dX7_isSide_2 : decode cX7_isSide 2 = .ok (.iconst 1, 1) := by decide +kernel
theorem dX7_isSide_3 : decode cX7_isSide 3 = .ok (.invokestatic 85, 3) := by decide +kernel
theorem dX7_isSide_6 : decode cX7_isSide 6 = .ok (.ireturn, 1) := by decide +kernel
theorem dX7_got_0 : decode cX7_got 0 = .ok (.aload_n 0, 1) := by decide +kernel
theorem dX7_got_1 : decode cX7_got 1 = .ok (.iload_n 1, 1) := by decide +kernel
theorem dX7_got_2 : decode cX7_got 2 = .ok (.invokevirtual 216, 3) := by decide +kernel
theorem dX7_got_5 : decode cX7_got 5 = .ok (.ifCond .ne 6, 3) := by decide +kernel
theorem dX7_got_8 : decode cX7_got 8 = .ok (.ldc 219, 2) := by decide +kernel
theorem dX7_got_10 : decode cX7_got 10 = .ok (.ireturn, 1) := by decide +kernel
theorem dX7_got_11 : decode cX7_got 11 = .ok (.iload_n 2, 1) := by decide +kernel
theorem dX7_got_12 : decode cX7_got 12 = .ok (.invokestatic 329, 3) := by decide +kernel
theorem dX7_got_15 : decode cX7_got 15 = .ok (.ifCond .eq 13, 3) := by decide +kernel
theorem dX7_got_18 : decode cX7_got 18 = .ok (.iload_n 3, 1) := by decide +kernel
theorem dX7_got_19 : decode cX7_got 19 = .ok (.iconst 0, 1) := by decide +kernel
theorem dX7_got_20 : decode cX7_got 20 = .ok (.bipush 40, 2) := by decide +kernel
theorem dX7_got_22 : decode cX7_got 22 = .ok (.invokestatic 85, 3) := by decide +kernel
theorem dX7_got_25 : decode cX7_got 25 = .ok (.ifCond .ne 6, 3) := by decide +kernel
theorem dX7_got_28 : decode cX7_got 28 = .ok (.ldc 89, 2) := by decide +kernel
theorem dX7_got_30 : decode cX7_got 30 = .ok (.ireturn, 1) := by decide +kernel
theorem dX7_got_31 : decode cX7_got 31 = .ok (.aload_n 0, 1) := by decide +kernel
theorem dX7_got_32 : decode cX7_got 32 = .ok (.getfield 188, 3) := by decide +kernel
theorem dX7_got_35 : decode cX7_got 35 = .ok (.bipush 6, 2) := by decide +kernel
theorem dX7_got_37 : decode cX7_got 37 = .ok (.if_icmp .ne 6, 3) := by decide +kernel
theorem dX7_got_40 : decode cX7_got 40 = .ok (.ldc 93, 2) := by decide +kernel
theorem dX7_got_42 : decode cX7_got 42 = .ok (.ireturn, 1) := by decide +kernel
theorem dX7_got_43 : decode cX7_got 43 = .ok (.aload_n 0, 1) := by decide +kernel
theorem dX7_got_44 : decode cX7_got 44 = .ok (.getfield 68, 3) := by decide +kernel
theorem dX7_got_47 : decode cX7_got 47 = .ok (.iconst 3, 1) := by decide +kernel
theorem dX7_got_48 : decode cX7_got 48 = .ok (.aload_n 0, 1) := by decide +kernel
theorem dX7_got_49 : decode cX7_got 49 = .ok (.getfield 188, 3) := by decide +kernel
theorem dX7_got_52 : decode cX7_got 52 = .ok (.imul, 1) := by decide +kernel
theorem dX7_got_53 : decode cX7_got 53 = .ok (.iload_n 1, 1) := by decide +kernel
theorem dX7_got_54 : decode cX7_got 54 = .ok (.iastore, 1) := by decide +kernel
theorem dX7_got_55 : decode cX7_got 55 = .ok (.aload_n 0, 1) := by decide +kernel
theorem dX7_got_56 : decode cX7_got 56 = .ok (.getfield 68, 3) := by decide +kernel
theorem dX7_got_59 : decode cX7_got 59 = .ok (.iconst 3, 1) := by decide +kernel
theorem dX7_got_60 : decode cX7_got 60 = .ok (.aload_n 0, 1) := by decide +kernel
theorem dX7_got_61 : decode cX7_got 61 = .ok (.getfield 188, 3) := by decide +kernel
theorem dX7_got_64 : decode cX7_got 64 = .ok (.imul, 1) := by decide +kernel
theorem dX7_got_65 : decode cX7_got 65 = .ok (.iconst 1, 1) := by decide +kernel
theorem dX7_got_66 : decode cX7_got 66 = .ok (.iadd, 1) := by decide +kernel
theorem dX7_got_67 : decode cX7_got 67 = .ok (.iload_n 2, 1) := by decide +kernel
theorem dX7_got_68 : decode cX7_got 68 = .ok (.iastore, 1) := by decide +kernel
theorem dX7_got_69 : decode cX7_got 69 = .ok (.aload_n 0, 1) := by decide +kernel
theorem dX7_got_70 : decode cX7_got 70 = .ok (.getfield 68, 3) := by decide +kernel
theorem dX7_got_73 : decode cX7_got 73 = .ok (.iconst 3, 1) := by decide +kernel
theorem dX7_got_74 : decode cX7_got 74 = .ok (.aload_n 0, 1) := by decide +kernel
theorem dX7_got_75 : decode cX7_got 75 = .ok (.getfield 188, 3) := by decide +kernel
theorem dX7_got_78 : decode cX7_got 78 = .ok (.imul, 1) := by decide +kernel
theorem dX7_got_79 : decode cX7_got 79 = .ok (.iconst 2, 1) := by decide +kernel
theorem dX7_got_80 : decode cX7_got 80 = .ok (.iadd, 1) := by decide +kernel
theorem dX7_got_81 : decode cX7_got 81 = .ok (.iload_n 3, 1) := by decide +kernel
theorem dX7_got_82 : decode cX7_got 82 = .ok (.iastore, 1) := by decide +kernel
theorem dX7_got_83 : decode cX7_got 83 = .ok (.aload_n 0, 1) := by decide +kernel
theorem dX7_got_84 : decode cX7_got 84 = .ok (.dup, 1) := by decide +kernel
theorem dX7_got_85 : decode cX7_got 85 = .ok (.getfield 188, 3) := by decide +kernel
theorem dX7_got_88 : decode cX7_got 88 = .ok (.iconst 1, 1) := by decide +kernel
theorem dX7_got_89 : decode cX7_got 89 = .ok (.iadd, 1) := by decide +kernel
theorem dX7_got_90 : decode cX7_got 90 = .ok (.putfield 188, 3) := by decide +kernel
theorem dX7_got_93 : decode cX7_got 93 = .ok (.aload_n 0, 1) := by decide +kernel
theorem dX7_got_94 : decode cX7_got 94 = .ok (.getfield 188, 3) := by decide +kernel
theorem dX7_got_97 : decode cX7_got 97 = .ok (.ireturn, 1) := by decide +kernel
theorem dX7_tookOf_0 : decode cX7_tookOf 0 = .ok (.aload_n 0, 1) := by decide +kernel
theorem dX7_tookOf_1 : decode cX7_tookOf 1 = .ok (.aload_n 0, 1) := by decide +kernel
theorem dX7_tookOf_2 : decode cX7_tookOf 2 = .ok (.getfield 53, 3) := by decide +kernel
theorem dX7_tookOf_5 : decode cX7_tookOf 5 = .ok (.iload_n 2, 1) := by decide +kernel
theorem dX7_tookOf_6 : decode cX7_tookOf 6 = .ok (.iload_n 3, 1) := by decide +kernel
theorem dX7_tookOf_7 : decode cX7_tookOf 7 = .ok (.aload_n 0, 1) := by decide +kernel
theorem dX7_tookOf_8 : decode cX7_tookOf 8 = .ok (.aload_n 0, 1) := by decide +kernel
theorem dX7_tookOf_9 : decode cX7_tookOf 9 = .ok (.getfield 53, 3) := by decide +kernel
theorem dX7_tookOf_12 : decode cX7_tookOf 12 = .ok (.invokevirtual 209, 3) := by decide +kernel
theorem dX7_tookOf_15 : decode cX7_tookOf 15 = .ok (.invokevirtual 249, 3) := by decide +kernel
theorem dX7_tookOf_18 : decode cX7_tookOf 18 = .ok (.pop, 1) := by decide +kernel
theorem dX7_tookOf_19 : decode cX7_tookOf 19 = .ok (.aload_n 0, 1) := by decide +kernel
theorem dX7_tookOf_20 : decode cX7_tookOf 20 = .ok (.getfield 59, 3) := by decide +kernel
theorem dX7_tookOf_23 : decode cX7_tookOf 23 = .ok (.iload_n 1, 1) := by decide +kernel
theorem dX7_tookOf_24 : decode cX7_tookOf 24 = .ok (.iaload, 1) := by decide +kernel
theorem dX7_tookOf_25 : decode cX7_tookOf 25 = .ok (.ireturn, 1) := by decide +kernel
theorem dX7_isSo_0 : decode cX7_isSo 0 = .ok (.iconst 1, 1) := by decide +kernel
theorem dX7_isSo_1 : decode cX7_isSo 1 = .ok (.istore_n 2, 1) := by decide +kernel
theorem dX7_isSo_2 : decode cX7_isSo 2 = .ok (.iconst 0, 1) := by decide +kernel
theorem dX7_isSo_3 : decode cX7_isSo 3 = .ok (.istore_n 3, 1) := by decide +kernel
theorem dX7_isSo_4 : decode cX7_isSo 4 = .ok (.iload_n 3, 1) := by decide +kernel
theorem dX7_isSo_5 : decode cX7_isSo 5 = .ok (.aload_n 0, 1) := by decide +kernel
theorem dX7_isSo_6 : decode cX7_isSo 6 = .ok (.getfield 188, 3) := by decide +kernel
theorem dX7_isSo_9 : decode cX7_isSo 9 = .ok (.if_icmp .ge 55, 3) := by decide +kernel
theorem dX7_isSo_12 : decode cX7_isSo 12 = .ok (.iload_n 2, 1) := by decide +kernel
theorem dX7_isSo_13 : decode cX7_isSo 13 = .ok (.ifCond .eq 43, 3) := by decide +kernel
theorem dX7_isSo_16 : decode cX7_isSo 16 = .ok (.aload_n 0, 1) := by decide +kernel
theorem dX7_isSo_17 : decode cX7_isSo 17 = .ok (.aload_n 0, 1) := by decide +kernel
theorem dX7_isSo_18 : decode cX7_isSo 18 = .ok (.getfield 68, 3) := by decide +kernel
theorem dX7_isSo_21 : decode cX7_isSo 21 = .ok (.iconst 3, 1) := by decide +kernel
theorem dX7_isSo_22 : decode cX7_isSo 22 = .ok (.iload_n 3, 1) := by decide +kernel
theorem dX7_isSo_23 : decode cX7_isSo 23 = .ok (.imul, 1) := by decide +kernel
theorem dX7_isSo_24 : decode cX7_isSo 24 = .ok (.iaload, 1) := by decide +kernel
theorem dX7_isSo_25 : decode cX7_isSo 25 = .ok (.iload_n 1, 1) := by decide +kernel
theorem dX7_isSo_26 : decode cX7_isSo 26 = .ok (.aload_n 0, 1) := by decide +kernel
theorem dX7_isSo_27 : decode cX7_isSo 27 = .ok (.getfield 68, 3) := by decide +kernel
theorem dX7_isSo_30 : decode cX7_isSo 30 = .ok (.iconst 3, 1) := by decide +kernel
theorem dX7_isSo_31 : decode cX7_isSo 31 = .ok (.iload_n 3, 1) := by decide +kernel
theorem dX7_isSo_32 : decode cX7_isSo 32 = .ok (.imul, 1) := by decide +kernel
theorem dX7_isSo_33 : decode cX7_isSo 33 = .ok (.iconst 1, 1) := by decide +kernel
theorem dX7_isSo_34 : decode cX7_isSo 34 = .ok (.iadd, 1) := by decide +kernel
theorem dX7_isSo_35 : decode cX7_isSo 35 = .ok (.iaload, 1) := by decide +kernel
theorem dX7_isSo_36 : decode cX7_isSo 36 = .ok (.invokevirtual 332, 3) := by decide +kernel
theorem dX7_isSo_39 : decode cX7_isSo 39 = .ok (.aload_n 0, 1) := by decide +kernel
theorem dX7_isSo_40 : decode cX7_isSo 40 = .ok (.getfield 68, 3) := by decide +kernel
theorem dX7_isSo_43 : decode cX7_isSo 43 = .ok (.iconst 3, 1) := by decide +kernel
theorem dX7_isSo_44 : decode cX7_isSo 44 = .ok (.iload_n 3, 1) := by decide +kernel
theorem dX7_isSo_45 : decode cX7_isSo 45 = .ok (.imul, 1) := by decide +kernel
theorem dX7_isSo_46 : decode cX7_isSo 46 = .ok (.iconst 2, 1) := by decide +kernel
theorem dX7_isSo_47 : decode cX7_isSo 47 = .ok (.iadd, 1) := by decide +kernel
theorem dX7_isSo_48 : decode cX7_isSo 48 = .ok (.iaload, 1) := by decide +kernel
theorem dX7_isSo_49 : decode cX7_isSo 49 = .ok (.if_icmp .ne 7, 3) := by decide +kernel
theorem dX7_isSo_52 : decode cX7_isSo 52 = .ok (.iconst 1, 1) := by decide +kernel
theorem dX7_isSo_53 : decode cX7_isSo 53 = .ok (.goto 4, 3) := by decide +kernel
theorem dX7_isSo_56 : decode cX7_isSo 56 = .ok (.iconst 0, 1) := by decide +kernel
theorem dX7_isSo_57 : decode cX7_isSo 57 = .ok (.istore_n 2, 1) := by decide +kernel
theorem dX7_isSo_58 : decode cX7_isSo 58 = .ok (.iinc 3 1, 3) := by decide +kernel
theorem dX7_isSo_61 : decode cX7_isSo 61 = .ok (.goto (-57), 3) := by decide +kernel
theorem dX7_isSo_64 : decode cX7_isSo 64 = .ok (.iload_n 2, 1) := by decide +kernel
theorem dX7_isSo_65 : decode cX7_isSo 65 = .ok (.ireturn, 1) := by decide +kernel
theorem dX7_thick_0 : decode cX7_thick 0 = .ok (.aload_n 0, 1) := by decide +kernel
theorem dX7_thick_1 : decode cX7_thick 1 = .ok (.iload_n 1, 1) := by decide +kernel
theorem dX7_thick_2 : decode cX7_thick 2 = .ok (.iconst 0, 1) := by decide +kernel
theorem dX7_thick_3 : decode cX7_thick 3 = .ok (.iconst 2, 1) := by decide +kernel
theorem dX7_thick_4 : decode cX7_thick 4 = .ok (.invokestatic 85, 3) := by decide +kernel
theorem dX7_thick_7 : decode cX7_thick 7 = .ok (.invokevirtual 273, 3) := by decide +kernel
theorem dX7_thick_10 : decode cX7_thick 10 = .ok (.istore_n 2, 1) := by decide +kernel
theorem dX7_thick_11 : decode cX7_thick 11 = .ok (.iload_n 2, 1) := by decide +kernel
theorem dX7_thick_12 : decode cX7_thick 12 = .ok (.ifCond .ge 5, 3) := by decide +kernel
theorem dX7_thick_15 : decode cX7_thick 15 = .ok (.iload_n 2, 1) := by decide +kernel
theorem dX7_thick_16 : decode cX7_thick 16 = .ok (.ireturn, 1) := by decide +kernel
theorem dX7_thick_17 : decode cX7_thick 17 = .ok (.iconst 0, 1) := by decide +kernel
theorem dX7_thick_18 : decode cX7_thick 18 = .ok (.istore_n 3, 1) := by decide +kernel
theorem dX7_thick_19 : decode cX7_thick 19 = .ok (.iconst (-1), 1) := by decide +kernel
theorem dX7_thick_20 : decode cX7_thick 20 = .ok (.istore 4, 2) := by decide +kernel
theorem dX7_thick_22 : decode cX7_thick 22 = .ok (.iconst (-1), 1) := by decide +kernel
theorem dX7_thick_23 : decode cX7_thick 23 = .ok (.istore 5, 2) := by decide +kernel
theorem dX7_thick_25 : decode cX7_thick 25 = .ok (.iconst 0, 1) := by decide +kernel
theorem dX7_thick_26 : decode cX7_thick 26 = .ok (.istore 6, 2) := by decide +kernel
theorem dX7_thick_28 : decode cX7_thick 28 = .ok (.iload 6, 2) := by decide +kernel
theorem dX7_thick_30 : decode cX7_thick 30 = .ok (.bipush 40, 2) := by decide +kernel
theorem dX7_thick_32 : decode cX7_thick 32 = .ok (.if_icmp .gt 40, 3) := by decide +kernel
theorem dX7_thick_35 : decode cX7_thick 35 = .ok (.aload_n 0, 1) := by decide +kernel
theorem dX7_thick_36 : decode cX7_thick 36 = .ok (.iload 6, 2) := by decide +kernel
theorem dX7_thick_38 : decode cX7_thick 38 = .ok (.invokevirtual 335, 3) := by decide +kernel
theorem dX7_thick_41 : decode cX7_thick 41 = .ok (.ifCond .eq 25, 3) := by decide +kernel
theorem dX7_thick_44 : decode cX7_thick 44 = .ok (.iinc 3 1, 3) := by decide +kernel
theorem dX7_thick_47 : decode cX7_thick 47 = .ok (.iload 4, 2) := by decide +kernel
theorem dX7_thick_49 : decode cX7_thick 49 = .ok (.iconst (-1), 1) := by decide +kernel
theorem dX7_thick_50 : decode cX7_thick 50 = .ok (.if_icmp .ne 8, 3) := by decide +kernel
theorem dX7_thick_53 : decode cX7_thick 53 = .ok (.iload 6, 2) := by decide +kernel
theorem dX7_thick_55 : decode cX7_thick 55 = .ok (.goto 5, 3) := by decide +kernel
theorem dX7_thick_58 : decode cX7_thick 58 = .ok (.iload 4, 2) := by decide +kernel
theorem dX7_thick_60 : decode cX7_thick 60 = .ok (.istore 4, 2) := by decide +kernel
theorem dX7_thick_62 : decode cX7_thick 62 = .ok (.iload 6, 2) := by decide +kernel
theorem dX7_thick_64 : decode cX7_thick 64 = .ok (.istore 5, 2) := by decide +kernel
theorem dX7_thick_66 : decode cX7_thick 66 = .ok (.iinc 6 1, 3) := by decide +kernel
theorem dX7_thick_69 : decode cX7_thick 69 = .ok (.goto (-41), 3) := by decide +kernel
theorem dX7_thick_72 : decode cX7_thick 72 = .ok (.iload_n 1, 1) := by decide +kernel
theorem dX7_thick_73 : decode cX7_thick 73 = .ok (.ifCond .ne 7, 3) := by decide +kernel
theorem dX7_thick_76 : decode cX7_thick 76 = .ok (.iload_n 3, 1) := by decide +kernel
theorem dX7_thick_77 : decode cX7_thick 77 = .ok (.goto 15, 3) := by decide +kernel
theorem dX7_thick_80 : decode cX7_thick 80 = .ok (.iload_n 1, 1) := by decide +kernel
theorem dX7_thick_81 : decode cX7_thick 81 = .ok (.iconst 1, 1) := by decide +kernel
theorem dX7_thick_82 : decode cX7_thick 82 = .ok (.if_icmp .ne 8, 3) := by decide +kernel
theorem dX7_thick_85 : decode cX7_thick 85 = .ok (.iload 4, 2) := by decide +kernel
theorem dX7_thick_87 : decode cX7_thick 87 = .ok (.goto 5, 3) := by decide +kernel
theorem dX7_thick_90 : decode cX7_thick 90 = .ok (.iload 5, 2) := by decide +kernel
theorem dX7_thick_92 : decode cX7_thick 92 = .ok (.ireturn, 1) := by decide +kernel
theorem dX7_greatest_0 : decode cX7_greatest 0 = .ok (.iconst 0, 1) := by decide +kernel
theorem dX7_greatest_1 : decode cX7_greatest 1 = .ok (.istore_n 3, 1) := by decide +kernel
theorem dX7_greatest_2 : decode cX7_greatest 2 = .ok (.iconst 0, 1) := by decide +kernel
theorem dX7_greatest_3 : decode cX7_greatest 3 = .ok (.istore 4, 2) := by decide +kernel
theorem dX7_greatest_5 : decode cX7_greatest 5 = .ok (.iload 4, 2) := by decide +kernel
theorem dX7_greatest_7 : decode cX7_greatest 7 = .ok (.bipush 40, 2) := by decide +kernel
theorem dX7_greatest_9 : decode cX7_greatest 9 = .ok (.if_icmp .gt 73, 3) := by decide +kernel
theorem dX7_greatest_12 : decode cX7_greatest 12 = .ok (.iconst 0, 1) := by decide +kernel
theorem dX7_greatest_13 : decode cX7_greatest 13 = .ok (.istore 5, 2) := by decide +kernel
theorem dX7_greatest_15 : decode cX7_greatest 15 = .ok (.iconst 0, 1) := by decide +kernel
theorem dX7_greatest_16 : decode cX7_greatest 16 = .ok (.istore 6, 2) := by decide +kernel
theorem dX7_greatest_18 : decode cX7_greatest 18 = .ok (.iload 6, 2) := by decide +kernel
theorem dX7_greatest_20 : decode cX7_greatest 20 = .ok (.bipush 40, 2) := by decide +kernel
theorem dX7_greatest_22 : decode cX7_greatest 22 = .ok (.if_icmp .gt 41, 3) := by decide +kernel
theorem dX7_greatest_25 : decode cX7_greatest 25 = .ok (.iload 5, 2) := by decide +kernel
theorem dX7_greatest_27 : decode cX7_greatest 27 = .ok (.aload_n 0, 1) := by decide +kernel
theorem dX7_greatest_28 : decode cX7_greatest 28 = .ok (.iload_n 1, 1) := by decide +kernel
theorem dX7_greatest_29 : decode cX7_greatest 29 = .ok (.iload 6, 2) := by decide +kernel
theorem dX7_greatest_31 : decode cX7_greatest 31 = .ok (.iload_n 2, 1) := by decide +kernel
theorem dX7_greatest_32 : decode cX7_greatest 32 = .ok (.invokevirtual 332, 3) := by decide +kernel
theorem dX7_greatest_35 : decode cX7_greatest 35 = .ok (.iload 4, 2) := by decide +kernel
theorem dX7_greatest_37 : decode cX7_greatest 37 = .ok (.if_icmp .ne 16, 3) := by decide +kernel
theorem dX7_greatest_40 : decode cX7_greatest 40 = .ok (.aload_n 0, 1) := by decide +kernel
theorem dX7_greatest_41 : decode cX7_greatest 41 = .ok (.iload 6, 2) := by decide +kernel
theorem dX7_greatest_43 : decode cX7_greatest 43 = .ok (.invokevirtual 335, 3) := by decide +kernel
theorem dX7_greatest_46 : decode cX7_greatest 46 = .ok (.ifCond .eq 7, 3) := by decide +kernel
theorem dX7_greatest_49 : decode cX7_greatest 49 = .ok (.iconst 1, 1) := by decide +kernel
theorem dX7_greatest_50 : decode cX7_greatest 50 = .ok (.goto 4, 3) := by decide +kernel
theorem dX7_greatest_53 : decode cX7_greatest 53 = .ok (.iconst 0, 1) := by decide +kernel
theorem dX7_greatest_54 : decode cX7_greatest 54 = .ok (.iadd, 1) := by decide +kernel
theorem dX7_greatest_55 : decode cX7_greatest 55 = .ok (.istore 5, 2) := by decide +kernel
theorem dX7_greatest_57 : decode cX7_greatest 57 = .ok (.iinc 6 1, 3) := by decide +kernel
theorem dX7_greatest_60 : decode cX7_greatest 60 = .ok (.goto (-42), 3) := by decide +kernel
theorem dX7_greatest_63 : decode cX7_greatest 63 = .ok (.iload 5, 2) := by decide +kernel
theorem dX7_greatest_65 : decode cX7_greatest 65 = .ok (.iload_n 3, 1) := by decide +kernel
theorem dX7_greatest_66 : decode cX7_greatest 66 = .ok (.if_icmp .le 8, 3) := by decide +kernel
theorem dX7_greatest_69 : decode cX7_greatest 69 = .ok (.iload 5, 2) := by decide +kernel
theorem dX7_greatest_71 : decode cX7_greatest 71 = .ok (.goto 4, 3) := by decide +kernel
theorem dX7_greatest_74 : decode cX7_greatest 74 = .ok (.iload_n 3, 1) := by decide +kernel
theorem dX7_greatest_75 : decode cX7_greatest 75 = .ok (.istore_n 3, 1) := by decide +kernel
theorem dX7_greatest_76 : decode cX7_greatest 76 = .ok (.iinc 4 1, 3) := by decide +kernel
theorem dX7_greatest_79 : decode cX7_greatest 79 = .ok (.goto (-74), 3) := by decide +kernel
theorem dX7_greatest_82 : decode cX7_greatest 82 = .ok (.iload_n 3, 1) := by decide +kernel
theorem dX7_greatest_83 : decode cX7_greatest 83 = .ok (.ireturn, 1) := by decide +kernel
theorem dX7_lookAt_0 : decode cX7_lookAt 0 = .ok (.aload_n 0, 1) := by decide +kernel
theorem dX7_lookAt_1 : decode cX7_lookAt 1 = .ok (.iload_n 1, 1) := by decide +kernel
theorem dX7_lookAt_2 : decode cX7_lookAt 2 = .ok (.invokestatic 329, 3) := by decide +kernel
theorem dX7_lookAt_5 : decode cX7_lookAt 5 = .ok (.invokevirtual 273, 3) := by decide +kernel
theorem dX7_lookAt_8 : decode cX7_lookAt 8 = .ok (.istore_n 2, 1) := by decide +kernel
theorem dX7_lookAt_9 : decode cX7_lookAt 9 = .ok (.iload_n 2, 1) := by decide +kernel
theorem dX7_lookAt_10 : decode cX7_lookAt 10 = .ok (.ifCond .ge 5, 3) := by decide +kernel
theorem dX7_lookAt_13 : decode cX7_lookAt 13 = .ok (.iload_n 2, 1) := by decide +kernel
theorem dX7_lookAt_14 : decode cX7_lookAt 14 = .ok (.ireturn, 1) := by decide +kernel
theorem dX7_lookAt_15 : decode cX7_lookAt 15 = .ok (.iconst (-1), 1) := by decide +kernel
theorem dX7_lookAt_16 : decode cX7_lookAt 16 = .ok (.istore_n 3, 1) := by decide +kernel
theorem dX7_lookAt_17 : decode cX7_lookAt 17 = .ok (.aload_n 0, 1) := by decide +kernel
theorem dX7_lookAt_18 : decode cX7_lookAt 18 = .ok (.iconst 0, 1) := by decide +kernel
theorem dX7_lookAt_19 : decode cX7_lookAt 19 = .ok (.invokevirtual 338, 3) := by decide +kernel
theorem dX7_lookAt_22 : decode cX7_lookAt 22 = .ok (.istore 4, 2) := by decide +kernel
theorem dX7_lookAt_24 : decode cX7_lookAt 24 = .ok (.iconst 0, 1) := by decide +kernel
theorem dX7_lookAt_25 : decode cX7_lookAt 25 = .ok (.istore 5, 2) := by decide +kernel
theorem dX7_lookAt_27 : decode cX7_lookAt 27 = .ok (.iload 5, 2) := by decide +kernel
theorem dX7_lookAt_29 : decode cX7_lookAt 29 = .ok (.aload_n 0, 1) := by decide +kernel
theorem dX7_lookAt_30 : decode cX7_lookAt 30 = .ok (.getfield 179, 3) := by decide +kernel
theorem dX7_lookAt_33 : decode cX7_lookAt 33 = .ok (.if_icmp .ge 48, 3) := by decide +kernel
theorem dX7_lookAt_36 : decode cX7_lookAt 36 = .ok (.aload_n 0, 1) := by decide +kernel
theorem dX7_lookAt_37 : decode cX7_lookAt 37 = .ok (.iload 5, 2) := by decide +kernel
theorem dX7_lookAt_39 : decode cX7_lookAt 39 = .ok (.iload_n 1, 1) := by decide +kernel
theorem dX7_lookAt_40 : decode cX7_lookAt 40 = .ok (.invokevirtual 341, 3) := by decide +kernel
theorem dX7_lookAt_43 : decode cX7_lookAt 43 = .ok (.istore 6, 2) := by decide +kernel
theorem dX7_lookAt_45 : decode cX7_lookAt 45 = .ok (.iload 6, 2) := by decide +kernel
theorem dX7_lookAt_47 : decode cX7_lookAt 47 = .ok (.iload 4, 2) := by decide +kernel
theorem dX7_lookAt_49 : decode cX7_lookAt 49 = .ok (.if_icmp .ge 8, 3) := by decide +kernel
theorem dX7_lookAt_52 : decode cX7_lookAt 52 = .ok (.iload 5, 2) := by decide +kernel
theorem dX7_lookAt_54 : decode cX7_lookAt 54 = .ok (.goto 4, 3) := by decide +kernel
theorem dX7_lookAt_57 : decode cX7_lookAt 57 = .ok (.iload_n 3, 1) := by decide +kernel
theorem dX7_lookAt_58 : decode cX7_lookAt 58 = .ok (.istore_n 3, 1) := by decide +kernel
theorem dX7_lookAt_59 : decode cX7_lookAt 59 = .ok (.iload 6, 2) := by decide +kernel
theorem dX7_lookAt_61 : decode cX7_lookAt 61 = .ok (.iload 4, 2) := by decide +kernel
theorem dX7_lookAt_63 : decode cX7_lookAt 63 = .ok (.if_icmp .ge 8, 3) := by decide +kernel
theorem dX7_lookAt_66 : decode cX7_lookAt 66 = .ok (.iload 6, 2) := by decide +kernel
theorem dX7_lookAt_68 : decode cX7_lookAt 68 = .ok (.goto 5, 3) := by decide +kernel
theorem dX7_lookAt_71 : decode cX7_lookAt 71 = .ok (.iload 4, 2) := by decide +kernel
theorem dX7_lookAt_73 : decode cX7_lookAt 73 = .ok (.istore 4, 2) := by decide +kernel
theorem dX7_lookAt_75 : decode cX7_lookAt 75 = .ok (.iinc 5 1, 3) := by decide +kernel
theorem dX7_lookAt_78 : decode cX7_lookAt 78 = .ok (.goto (-51), 3) := by decide +kernel
theorem dX7_lookAt_81 : decode cX7_lookAt 81 = .ok (.iload_n 3, 1) := by decide +kernel
theorem dX7_lookAt_82 : decode cX7_lookAt 82 = .ok (.ireturn, 1) := by decide +kernel
theorem dX7_needs_0 : decode cX7_needs 0 = .ok (.aload_n 0, 1) := by decide +kernel
theorem dX7_needs_1 : decode cX7_needs 1 = .ok (.iload_n 1, 1) := by decide +kernel
theorem dX7_needs_2 : decode cX7_needs 2 = .ok (.invokevirtual 216, 3) := by decide +kernel
theorem dX7_needs_5 : decode cX7_needs 5 = .ok (.ifCond .ne 6, 3) := by decide +kernel
theorem dX7_needs_8 : decode cX7_needs 8 = .ok (.ldc 219, 2) := by decide +kernel
theorem dX7_needs_10 : decode cX7_needs 10 = .ok (.ireturn, 1) := by decide +kernel
theorem dX7_needs_11 : decode cX7_needs 11 = .ok (.iload_n 2, 1) := by decide +kernel
theorem dX7_needs_12 : decode cX7_needs 12 = .ok (.invokestatic 329, 3) := by decide +kernel
theorem dX7_needs_15 : decode cX7_needs 15 = .ok (.ifCond .eq 13, 3) := by decide +kernel
theorem dX7_needs_18 : decode cX7_needs 18 = .ok (.iload_n 3, 1) := by decide +kernel
theorem dX7_needs_19 : decode cX7_needs 19 = .ok (.iconst 0, 1) := by decide +kernel
theorem dX7_needs_20 : decode cX7_needs 20 = .ok (.bipush 40, 2) := by decide +kernel
theorem dX7_needs_22 : decode cX7_needs 22 = .ok (.invokestatic 85, 3) := by decide +kernel
theorem dX7_needs_25 : decode cX7_needs 25 = .ok (.ifCond .ne 6, 3) := by decide +kernel
theorem dX7_needs_28 : decode cX7_needs 28 = .ok (.ldc 89, 2) := by decide +kernel
theorem dX7_needs_30 : decode cX7_needs 30 = .ok (.ireturn, 1) := by decide +kernel
theorem dX7_needs_31 : decode cX7_needs 31 = .ok (.iconst 0, 1) := by decide +kernel
theorem dX7_needs_32 : decode cX7_needs 32 = .ok (.istore 4, 2) := by decide +kernel
theorem dX7_needs_34 : decode cX7_needs 34 = .ok (.iload 4, 2) := by decide +kernel
theorem dX7_needs_36 : decode cX7_needs 36 = .ok (.bipush 40, 2) := by decide +kernel
theorem dX7_needs_38 : decode cX7_needs 38 = .ok (.if_icmp .gt 24, 3) := by decide +kernel
theorem dX7_needs_41 : decode cX7_needs 41 = .ok (.aload_n 0, 1) := by decide +kernel
theorem dX7_needs_42 : decode cX7_needs 42 = .ok (.iload_n 1, 1) := by decide +kernel
theorem dX7_needs_43 : decode cX7_needs 43 = .ok (.iload 4, 2) := by decide +kernel
theorem dX7_needs_45 : decode cX7_needs 45 = .ok (.iload_n 2, 1) := by decide +kernel
theorem dX7_needs_46 : decode cX7_needs 46 = .ok (.invokevirtual 332, 3) := by decide +kernel
theorem dX7_needs_49 : decode cX7_needs 49 = .ok (.iload_n 3, 1) := by decide +kernel
theorem dX7_needs_50 : decode cX7_needs 50 = .ok (.if_icmp .lt 6, 3) := by decide +kernel
theorem dX7_needs_53 : decode cX7_needs 53 = .ok (.iload 4, 2) := by decide +kernel
theorem dX7_needs_55 : decode cX7_needs 55 = .ok (.ireturn, 1) := by decide +kernel
theorem dX7_needs_56 : decode cX7_needs 56 = .ok (.iinc 4 1, 3) := by decide +kernel
theorem dX7_needs_59 : decode cX7_needs 59 = .ok (.goto (-25), 3) := by decide +kernel
theorem dX7_needs_62 : decode cX7_needs 62 = .ok (.iconst (-1), 1) := by decide +kernel
theorem dX7_needs_63 : decode cX7_needs 63 = .ok (.ireturn, 1) := by decide +kernel
theorem dX7_write_0 : decode cX7_write 0 = .ok (.aload_n 0, 1) := by decide +kernel
theorem dX7_write_1 : decode cX7_write 1 = .ok (.iload_n 1, 1) := by decide +kernel
theorem dX7_write_2 : decode cX7_write 2 = .ok (.invokevirtual 216, 3) := by decide +kernel
theorem dX7_write_5 : decode cX7_write 5 = .ok (.ifCond .ne 6, 3) := by decide +kernel
theorem dX7_write_8 : decode cX7_write 8 = .ok (.ldc 219, 2) := by decide +kernel
theorem dX7_write_10 : decode cX7_write 10 = .ok (.ireturn, 1) := by decide +kernel
theorem dX7_write_11 : decode cX7_write 11 = .ok (.iload_n 2, 1) := by decide +kernel
theorem dX7_write_12 : decode cX7_write 12 = .ok (.iconst 0, 1) := by decide +kernel
theorem dX7_write_13 : decode cX7_write 13 = .ok (.bipush 99, 2) := by decide +kernel
theorem dX7_write_15 : decode cX7_write 15 = .ok (.invokestatic 85, 3) := by decide +kernel
theorem dX7_write_18 : decode cX7_write 18 = .ok (.ifCond .ne 6, 3) := by decide +kernel
theorem dX7_write_21 : decode cX7_write 21 = .ok (.ldc 89, 2) := by decide +kernel
theorem dX7_write_23 : decode cX7_write 23 = .ok (.ireturn, 1) := by decide +kernel
theorem dX7_write_24 : decode cX7_write 24 = .ok (.aload_n 0, 1) := by decide +kernel
theorem dX7_write_25 : decode cX7_write 25 = .ok (.getfield 191, 3) := by decide +kernel
theorem dX7_write_28 : decode cX7_write 28 = .ok (.bipush 20, 2) := by decide +kernel
theorem dX7_write_30 : decode cX7_write 30 = .ok (.if_icmp .ne 6, 3) := by decide +kernel
theorem dX7_write_33 : decode cX7_write 33 = .ok (.ldc 93, 2) := by decide +kernel
theorem dX7_write_35 : decode cX7_write 35 = .ok (.ireturn, 1) := by decide +kernel
theorem dX7_write_36 : decode cX7_write 36 = .ok (.aload_n 0, 1) := by decide +kernel
theorem dX7_write_37 : decode cX7_write 37 = .ok (.getfield 71, 3) := by decide +kernel
theorem dX7_write_40 : decode cX7_write 40 = .ok (.iconst 2, 1) := by decide +kernel
theorem dX7_write_41 : decode cX7_write 41 = .ok (.aload_n 0, 1) := by decide +kernel
theorem dX7_write_42 : decode cX7_write 42 = .ok (.getfield 191, 3) := by decide +kernel
theorem dX7_write_45 : decode cX7_write 45 = .ok (.imul, 1) := by decide +kernel
theorem dX7_write_46 : decode cX7_write 46 = .ok (.iload_n 1, 1) := by decide +kernel
theorem dX7_write_47 : decode cX7_write 47 = .ok (.iastore, 1) := by decide +kernel
theorem dX7_write_48 : decode cX7_write 48 = .ok (.aload_n 0, 1) := by decide +kernel
theorem dX7_write_49 : decode cX7_write 49 = .ok (.getfield 71, 3) := by decide +kernel
theorem dX7_write_52 : decode cX7_write 52 = .ok (.iconst 2, 1) := by decide +kernel
theorem dX7_write_53 : decode cX7_write 53 = .ok (.aload_n 0, 1) := by decide +kernel
theorem dX7_write_54 : decode cX7_write 54 = .ok (.getfield 191, 3) := by decide +kernel
theorem dX7_write_57 : decode cX7_write 57 = .ok (.imul, 1) := by decide +kernel
theorem dX7_write_58 : decode cX7_write 58 = .ok (.iconst 1, 1) := by decide +kernel
theorem dX7_write_59 : decode cX7_write 59 = .ok (.iadd, 1) := by decide +kernel
theorem dX7_write_60 : decode cX7_write 60 = .ok (.iload_n 2, 1) := by decide +kernel
theorem dX7_write_61 : decode cX7_write 61 = .ok (.iastore, 1) := by decide +kernel
theorem dX7_write_62 : decode cX7_write 62 = .ok (.aload_n 0, 1) := by decide +kernel
theorem dX7_write_63 : decode cX7_write 63 = .ok (.dup, 1) := by decide +kernel
theorem dX7_write_64 : decode cX7_write 64 = .ok (.getfield 191, 3) := by decide +kernel
theorem dX7_write_67 : decode cX7_write 67 = .ok (.iconst 1, 1) := by decide +kernel
theorem dX7_write_68 : decode cX7_write 68 = .ok (.iadd, 1) := by decide +kernel
theorem dX7_write_69 : decode cX7_write 69 = .ok (.putfield 191, 3) := by decide +kernel
theorem dX7_write_72 : decode cX7_write 72 = .ok (.aload_n 0, 1) := by decide +kernel
theorem dX7_write_73 : decode cX7_write 73 = .ok (.getfield 191, 3) := by decide +kernel
theorem dX7_write_76 : decode cX7_write 76 = .ok (.ireturn, 1) := by decide +kernel
theorem dX7_judge_0 : decode cX7_judge 0 = .ok (.iconst (-1), 1) := by decide +kernel
theorem dX7_judge_1 : decode cX7_judge 1 = .ok (.istore_n 1, 1) := by decide +kernel
theorem dX7_judge_2 : decode cX7_judge 2 = .ok (.aload_n 0, 1) := by decide +kernel
theorem dX7_judge_3 : decode cX7_judge 3 = .ok (.getfield 191, 3) := by decide +kernel
theorem dX7_judge_6 : decode cX7_judge 6 = .ok (.iconst 1, 1) := by decide +kernel
theorem dX7_judge_7 : decode cX7_judge 7 = .ok (.isub, 1) := by decide +kernel
theorem dX7_judge_8 : decode cX7_judge 8 = .ok (.istore_n 2, 1) := by decide +kernel
theorem dX7_judge_9 : decode cX7_judge 9 = .ok (.iload_n 2, 1) := by decide +kernel
theorem dX7_judge_10 : decode cX7_judge 10 = .ok (.ifCond .lt 44, 3) := by decide +kernel
theorem dX7_judge_13 : decode cX7_judge 13 = .ok (.aload_n 0, 1) := by decide +kernel
theorem dX7_judge_14 : decode cX7_judge 14 = .ok (.getfield 53, 3) := by decide +kernel
theorem dX7_judge_17 : decode cX7_judge 17 = .ok (.bipush 9, 2) := by decide +kernel
theorem dX7_judge_19 : decode cX7_judge 19 = .ok (.aload_n 0, 1) := by decide +kernel
theorem dX7_judge_20 : decode cX7_judge 20 = .ok (.getfield 71, 3) := by decide +kernel
theorem dX7_judge_23 : decode cX7_judge 23 = .ok (.iconst 2, 1) := by decide +kernel
theorem dX7_judge_24 : decode cX7_judge 24 = .ok (.iload_n 2, 1) := by decide +kernel
theorem dX7_judge_25 : decode cX7_judge 25 = .ok (.imul, 1) := by decide +kernel
theorem dX7_judge_26 : decode cX7_judge 26 = .ok (.iaload, 1) := by decide +kernel
theorem dX7_judge_27 : decode cX7_judge 27 = .ok (.iadd, 1) := by decide +kernel
theorem dX7_judge_28 : decode cX7_judge 28 = .ok (.iaload, 1) := by decide +kernel
theorem dX7_judge_29 : decode cX7_judge 29 = .ok (.aload_n 0, 1) := by decide +kernel
theorem dX7_judge_30 : decode cX7_judge 30 = .ok (.getfield 71, 3) := by decide +kernel
theorem dX7_judge_33 : decode cX7_judge 33 = .ok (.iconst 2, 1) := by decide +kernel
theorem dX7_judge_34 : decode cX7_judge 34 = .ok (.iload_n 2, 1) := by decide +kernel
theorem dX7_judge_35 : decode cX7_judge 35 = .ok (.imul, 1) := by decide +kernel
theorem dX7_judge_36 : decode cX7_judge 36 = .ok (.iconst 1, 1) := by decide +kernel
theorem dX7_judge_37 : decode cX7_judge 37 = .ok (.iadd, 1) := by decide +kernel
theorem dX7_judge_38 : decode cX7_judge 38 = .ok (.iaload, 1) := by decide +kernel
theorem dX7_judge_39 : decode cX7_judge 39 = .ok (.if_icmp .eq 7, 3) := by decide +kernel
theorem dX7_judge_42 : decode cX7_judge 42 = .ok (.iload_n 2, 1) := by decide +kernel
theorem dX7_judge_43 : decode cX7_judge 43 = .ok (.goto 4, 3) := by decide +kernel
theorem dX7_judge_46 : decode cX7_judge 46 = .ok (.iload_n 1, 1) := by decide +kernel
theorem dX7_judge_47 : decode cX7_judge 47 = .ok (.istore_n 1, 1) := by decide +kernel
theorem dX7_judge_48 : decode cX7_judge 48 = .ok (.iinc 2 (-1), 3) := by decide +kernel
theorem dX7_judge_51 : decode cX7_judge 51 = .ok (.goto (-42), 3) := by decide +kernel
theorem dX7_judge_54 : decode cX7_judge 54 = .ok (.iload_n 1, 1) := by decide +kernel
theorem dX7_judge_55 : decode cX7_judge 55 = .ok (.ireturn, 1) := by decide +kernel
theorem dX7_tear_0 : decode cX7_tear 0 = .ok (.aload_n 0, 1) := by decide +kernel
theorem dX7_tear_1 : decode cX7_tear 1 = .ok (.getfield 188, 3) := by decide +kernel
theorem dX7_tear_4 : decode cX7_tear 4 = .ok (.aload_n 0, 1) := by decide +kernel
theorem dX7_tear_5 : decode cX7_tear 5 = .ok (.getfield 191, 3) := by decide +kernel
theorem dX7_tear_8 : decode cX7_tear 8 = .ok (.iadd, 1) := by decide +kernel
theorem dX7_tear_9 : decode cX7_tear 9 = .ok (.istore_n 1, 1) := by decide +kernel
theorem dX7_tear_10 : decode cX7_tear 10 = .ok (.aload_n 0, 1) := by decide +kernel
theorem dX7_tear_11 : decode cX7_tear 11 = .ok (.iconst 0, 1) := by decide +kernel
theorem dX7_tear_12 : decode cX7_tear 12 = .ok (.putfield 188, 3) := by decide +kernel
theorem dX7_tear_15 : decode cX7_tear 15 = .ok (.aload_n 0, 1) := by decide +kernel
theorem dX7_tear_16 : decode cX7_tear 16 = .ok (.iconst 0, 1) := by decide +kernel
theorem dX7_tear_17 : decode cX7_tear 17 = .ok (.putfield 191, 3) := by decide +kernel
theorem dX7_tear_20 : decode cX7_tear 20 = .ok (.iload_n 1, 1) := by decide +kernel
theorem dX7_tear_21 : decode cX7_tear 21 = .ok (.ireturn, 1) := by decide +kernel
theorem dX7_seed_0 : decode cX7_seed 0 = .ok (.iload_n 1, 1) := by decide +kernel
theorem dX7_seed_1 : decode cX7_seed 1 = .ok (.ifCond .ge 6, 3) := by decide +kernel
theorem dX7_seed_4 : decode cX7_seed 4 = .ok (.ldc 89, 2) := by decide +kernel
theorem dX7_seed_6 : decode cX7_seed 6 = .ok (.ireturn, 1) := by decide +kernel
theorem dX7_seed_7 : decode cX7_seed 7 = .ok (.aload_n 0, 1) := by decide +kernel
theorem dX7_seed_8 : decode cX7_seed 8 = .ok (.getfield 290, 3) := by decide +kernel
theorem dX7_seed_11 : decode cX7_seed 11 = .ok (.l2i, 1) := by decide +kernel
theorem dX7_seed_12 : decode cX7_seed 12 = .ok (.istore_n 2, 1) := by decide +kernel
theorem dX7_seed_13 : decode cX7_seed 13 = .ok (.aload_n 0, 1) := by decide +kernel
theorem dX7_seed_14 : decode cX7_seed 14 = .ok (.iload_n 1, 1) := by decide +kernel
theorem dX7_seed_15 : decode cX7_seed 15 = .ok (.i2l, 1) := by decide +kernel
theorem dX7_seed_16 : decode cX7_seed 16 = .ok (.putfield 290, 3) := by decide +kernel
theorem dX7_seed_19 : decode cX7_seed 19 = .ok (.iload_n 2, 1) := by decide +kernel
theorem dX7_seed_20 : decode cX7_seed 20 = .ok (.ireturn, 1) := by decide +kernel
theorem dX7_keep_0 : decode cX7_keep 0 = .ok (.iload_n 1, 1) := by decide +kernel
theorem dX7_keep_1 : decode cX7_keep 1 = .ok (.iconst 0, 1) := by decide +kernel
theorem dX7_keep_2 : decode cX7_keep 2 = .ok (.iconst 1, 1) := by decide +kernel
theorem dX7_keep_3 : decode cX7_keep 3 = .ok (.invokestatic 85, 3) := by decide +kernel
theorem dX7_keep_6 : decode cX7_keep 6 = .ok (.ifCond .ne 6, 3) := by decide +kernel
theorem dX7_keep_9 : decode cX7_keep 9 = .ok (.ldc 219, 2) := by decide +kernel
theorem dX7_keep_11 : decode cX7_keep 11 = .ok (.ireturn, 1) := by decide +kernel
theorem dX7_keep_12 : decode cX7_keep 12 = .ok (.aload_n 0, 1) := by decide +kernel
theorem dX7_keep_13 : decode cX7_keep 13 = .ok (.getfield 74, 3) := by decide +kernel
theorem dX7_keep_16 : decode cX7_keep 16 = .ok (.iload_n 1, 1) := by decide +kernel
theorem dX7_keep_17 : decode cX7_keep 17 = .ok (.iconst 1, 1) := by decide +kernel
theorem dX7_keep_18 : decode cX7_keep 18 = .ok (.bastore, 1) := by decide +kernel
theorem dX7_keep_19 : decode cX7_keep 19 = .ok (.aload_n 0, 1) := by decide +kernel
theorem dX7_keep_20 : decode cX7_keep 20 = .ok (.getfield 81, 3) := by decide +kernel
theorem dX7_keep_23 : decode cX7_keep 23 = .ok (.iload_n 1, 1) := by decide +kernel
theorem dX7_keep_24 : decode cX7_keep 24 = .ok (.aload_n 0, 1) := by decide +kernel
theorem dX7_keep_25 : decode cX7_keep 25 = .ok (.getfield 290, 3) := by decide +kernel
theorem dX7_keep_28 : decode cX7_keep 28 = .ok (.lastore, 1) := by decide +kernel
theorem dX7_keep_29 : decode cX7_keep 29 = .ok (.aload_n 0, 1) := by decide +kernel
theorem dX7_keep_30 : decode cX7_keep 30 = .ok (.iconst 0, 1) := by decide +kernel
theorem dX7_keep_31 : decode cX7_keep 31 = .ok (.putfield 194, 3) := by decide +kernel
theorem dX7_keep_34 : decode cX7_keep 34 = .ok (.iconst 0, 1) := by decide +kernel
theorem dX7_keep_35 : decode cX7_keep 35 = .ok (.istore_n 2, 1) := by decide +kernel
theorem dX7_keep_36 : decode cX7_keep 36 = .ok (.iload_n 2, 1) := by decide +kernel
theorem dX7_keep_37 : decode cX7_keep 37 = .ok (.bipush 27, 2) := by decide +kernel
theorem dX7_keep_39 : decode cX7_keep 39 = .ok (.if_icmp .ge 26, 3) := by decide +kernel
theorem dX7_keep_42 : decode cX7_keep 42 = .ok (.aload_n 0, 1) := by decide +kernel
theorem dX7_keep_43 : decode cX7_keep 43 = .ok (.getfield 78, 3) := by decide +kernel
theorem dX7_keep_46 : decode cX7_keep 46 = .ok (.bipush 27, 2) := by decide +kernel
theorem dX7_keep_48 : decode cX7_keep 48 = .ok (.iload_n 1, 1) := by decide +kernel
theorem dX7_keep_49 : decode cX7_keep 49 = .ok (.imul, 1) := by decide +kernel
theorem dX7_keep_50 : decode cX7_keep 50 = .ok (.iload_n 2, 1) := by decide +kernel
theorem dX7_keep_51 : decode cX7_keep 51 = .ok (.iadd, 1) := by decide +kernel
theorem dX7_keep_52 : decode cX7_keep 52 = .ok (.aload_n 0, 1) := by decide +kernel
theorem dX7_keep_53 : decode cX7_keep 53 = .ok (.getfield 53, 3) := by decide +kernel
theorem dX7_keep_56 : decode cX7_keep 56 = .ok (.iload_n 2, 1) := by decide +kernel
theorem dX7_keep_57 : decode cX7_keep 57 = .ok (.iaload, 1) := by decide +kernel
theorem dX7_keep_58 : decode cX7_keep 58 = .ok (.iastore, 1) := by decide +kernel
theorem dX7_keep_59 : decode cX7_keep 59 = .ok (.iinc 2 1, 3) := by decide +kernel
theorem dX7_keep_62 : decode cX7_keep 62 = .ok (.goto (-26), 3) := by decide +kernel
theorem dX7_keep_65 : decode cX7_keep 65 = .ok (.iconst 1, 1) := by decide +kernel
theorem dX7_keep_66 : decode cX7_keep 66 = .ok (.ireturn, 1) := by decide +kernel
theorem dX7_goBack_0 : decode cX7_goBack 0 = .ok (.iload_n 1, 1) := by decide +kernel
theorem dX7_goBack_1 : decode cX7_goBack 1 = .ok (.iconst 0, 1) := by decide +kernel
theorem dX7_goBack_2 : decode cX7_goBack 2 = .ok (.iconst 1, 1) := by decide +kernel
theorem dX7_goBack_3 : decode cX7_goBack 3 = .ok (.invokestatic 85, 3) := by decide +kernel
theorem dX7_goBack_6 : decode cX7_goBack 6 = .ok (.ifCond .ne 6, 3) := by decide +kernel
theorem dX7_goBack_9 : decode cX7_goBack 9 = .ok (.ldc 219, 2) := by decide +kernel
theorem dX7_goBack_11 : decode cX7_goBack 11 = .ok (.ireturn, 1) := by decide +kernel
theorem dX7_goBack_12 : decode cX7_goBack 12 = .ok (.aload_n 0, 1) := by decide +kernel
theorem dX7_goBack_13 : decode cX7_goBack 13 = .ok (.getfield 74, 3) := by decide +kernel
theorem dX7_goBack_16 : decode cX7_goBack 16 = .ok (.iload_n 1, 1) := by decide +kernel
theorem dX7_goBack_17 : decode cX7_goBack 17 = .ok (.baload, 1) := by decide +kernel
theorem dX7_goBack_18 : decode cX7_goBack 18 = .ok (.ifCond .ne 6, 3) := by decide +kernel
theorem dX7_goBack_21 : decode cX7_goBack 21 = .ok (.ldc 220, 2) := by decide +kernel
theorem dX7_goBack_23 : decode cX7_goBack 23 = .ok (.ireturn, 1) := by decide +kernel
theorem dX7_goBack_24 : decode cX7_goBack 24 = .ok (.aload_n 0, 1) := by decide +kernel
theorem dX7_goBack_25 : decode cX7_goBack 25 = .ok (.aload_n 0, 1) := by decide +kernel
theorem dX7_goBack_26 : decode cX7_goBack 26 = .ok (.getfield 81, 3) := by decide +kernel
theorem dX7_goBack_29 : decode cX7_goBack 29 = .ok (.iload_n 1, 1) := by decide +kernel
theorem dX7_goBack_30 : decode cX7_goBack 30 = .ok (.laload, 1) := by decide +kernel
theorem dX7_goBack_31 : decode cX7_goBack 31 = .ok (.putfield 290, 3) := by decide +kernel
theorem dX7_goBack_34 : decode cX7_goBack 34 = .ok (.aload_n 0, 1) := by decide +kernel
theorem dX7_goBack_35 : decode cX7_goBack 35 = .ok (.iconst 0, 1) := by decide +kernel
theorem dX7_goBack_36 : decode cX7_goBack 36 = .ok (.putfield 194, 3) := by decide +kernel
theorem dX7_goBack_39 : decode cX7_goBack 39 = .ok (.iconst 0, 1) := by decide +kernel
theorem dX7_goBack_40 : decode cX7_goBack 40 = .ok (.istore_n 2, 1) := by decide +kernel
theorem dX7_goBack_41 : decode cX7_goBack 41 = .ok (.iload_n 2, 1) := by decide +kernel
theorem dX7_goBack_42 : decode cX7_goBack 42 = .ok (.bipush 27, 2) := by decide +kernel
theorem dX7_goBack_44 : decode cX7_goBack 44 = .ok (.if_icmp .ge 26, 3) := by decide +kernel
theorem dX7_goBack_47 : decode cX7_goBack 47 = .ok (.aload_n 0, 1) := by decide +kernel
theorem dX7_goBack_48 : decode cX7_goBack 48 = .ok (.getfield 53, 3) := by decide +kernel
theorem dX7_goBack_51 : decode cX7_goBack 51 = .ok (.iload_n 2, 1) := by decide +kernel
theorem dX7_goBack_52 : decode cX7_goBack 52 = .ok (.aload_n 0, 1) := by decide +kernel
theorem dX7_goBack_53 : decode cX7_goBack 53 = .ok (.getfield 78, 3) := by decide +kernel
theorem dX7_goBack_56 : decode cX7_goBack 56 = .ok (.bipush 27, 2) := by decide +kernel
theorem dX7_goBack_58 : decode cX7_goBack 58 = .ok (.iload_n 1, 1) := by decide +kernel
theorem dX7_goBack_59 : decode cX7_goBack 59 = .ok (.imul, 1) := by decide +kernel
theorem dX7_goBack_60 : decode cX7_goBack 60 = .ok (.iload_n 2, 1) := by decide +kernel
theorem dX7_goBack_61 : decode cX7_goBack 61 = .ok (.iadd, 1) := by decide +kernel
theorem dX7_goBack_62 : decode cX7_goBack 62 = .ok (.iaload, 1) := by decide +kernel
theorem dX7_goBack_63 : decode cX7_goBack 63 = .ok (.iastore, 1) := by decide +kernel
theorem dX7_goBack_64 : decode cX7_goBack 64 = .ok (.iinc 2 1, 3) := by decide +kernel
theorem dX7_goBack_67 : decode cX7_goBack 67 = .ok (.goto (-26), 3) := by decide +kernel
theorem dX7_goBack_70 : decode cX7_goBack 70 = .ok (.iconst 1, 1) := by decide +kernel
theorem dX7_goBack_71 : decode cX7_goBack 71 = .ok (.ireturn, 1) := by decide +kernel
theorem dJ6_bitCount_0f7a4_0 : decode cJ6_bitCount_0f7a4 0 = .ok (.iload_n 0, 1) := by decide +kernel
theorem dJ6_bitCount_0f7a4_1 : decode cJ6_bitCount_0f7a4 1 = .ok (.iload_n 0, 1) := by decide +kernel
theorem dJ6_bitCount_0f7a4_2 : decode cJ6_bitCount_0f7a4 2 = .ok (.iconst 1, 1) := by decide +kernel
theorem dJ6_bitCount_0f7a4_3 : decode cJ6_bitCount_0f7a4 3 = .ok (.iushr, 1) := by decide +kernel
theorem dJ6_bitCount_0f7a4_4 : decode cJ6_bitCount_0f7a4 4 = .ok (.ldc_w 265, 3) := by decide +kernel
theorem dJ6_bitCount_0f7a4_7 : decode cJ6_bitCount_0f7a4 7 = .ok (.iand, 1) := by decide +kernel
theorem dJ6_bitCount_0f7a4_8 : decode cJ6_bitCount_0f7a4 8 = .ok (.isub, 1) := by decide +kernel
theorem dJ6_bitCount_0f7a4_9 : decode cJ6_bitCount_0f7a4 9 = .ok (.istore_n 0, 1) := by decide +kernel
theorem dJ6_bitCount_0f7a4_10 : decode cJ6_bitCount_0f7a4 10 = .ok (.iload_n 0, 1) := by decide +kernel
theorem dJ6_bitCount_0f7a4_11 : decode cJ6_bitCount_0f7a4 11 = .ok (.ldc_w 266, 3) := by decide +kernel
theorem dJ6_bitCount_0f7a4_14 : decode cJ6_bitCount_0f7a4 14 = .ok (.iand, 1) := by decide +kernel
theorem dJ6_bitCount_0f7a4_15 : decode cJ6_bitCount_0f7a4 15 = .ok (.iload_n 0, 1) := by decide +kernel
theorem dJ6_bitCount_0f7a4_16 : decode cJ6_bitCount_0f7a4 16 = .ok (.iconst 2, 1) := by decide +kernel
theorem dJ6_bitCount_0f7a4_17 : decode cJ6_bitCount_0f7a4 17 = .ok (.iushr, 1) := by decide +kernel
theorem dJ6_bitCount_0f7a4_18 : decode cJ6_bitCount_0f7a4 18 = .ok (.ldc_w 266, 3) := by decide +kernel
theorem dJ6_bitCount_0f7a4_21 : decode cJ6_bitCount_0f7a4 21 = .ok (.iand, 1) := by decide +kernel
theorem dJ6_bitCount_0f7a4_22 : decode cJ6_bitCount_0f7a4 22 = .ok (.iadd, 1) := by decide +kernel
theorem dJ6_bitCount_0f7a4_23 : decode cJ6_bitCount_0f7a4 23 = .ok (.istore_n 0, 1) := by decide +kernel
theorem dJ6_bitCount_0f7a4_24 : decode cJ6_bitCount_0f7a4 24 = .ok (.iload_n 0, 1) := by decide +kernel
theorem dJ6_bitCount_0f7a4_25 : decode cJ6_bitCount_0f7a4 25 = .ok (.iload_n 0, 1) := by decide +kernel
theorem dJ6_bitCount_0f7a4_26 : decode cJ6_bitCount_0f7a4 26 = .ok (.iconst 4, 1) := by decide +kernel
theorem dJ6_bitCount_0f7a4_27 : decode cJ6_bitCount_0f7a4 27 = .ok (.iushr, 1) := by decide +kernel
theorem dJ6_bitCount_0f7a4_28 : decode cJ6_bitCount_0f7a4 28 = .ok (.iadd, 1) := by decide +kernel
theorem dJ6_bitCount_0f7a4_29 : decode cJ6_bitCount_0f7a4 29 = .ok (.ldc_w 267, 3) := by decide +kernel
theorem dJ6_bitCount_0f7a4_32 : decode cJ6_bitCount_0f7a4 32 = .ok (.iand, 1) := by decide +kernel
theorem dJ6_bitCount_0f7a4_33 : decode cJ6_bitCount_0f7a4 33 = .ok (.istore_n 0, 1) := by decide +kernel
theorem dJ6_bitCount_0f7a4_34 : decode cJ6_bitCount_0f7a4 34 = .ok (.iload_n 0, 1) := by decide +kernel
theorem dJ6_bitCount_0f7a4_35 : decode cJ6_bitCount_0f7a4 35 = .ok (.iload_n 0, 1) := by decide +kernel
theorem dJ6_bitCount_0f7a4_36 : decode cJ6_bitCount_0f7a4 36 = .ok (.bipush 8, 2) := by decide +kernel
theorem dJ6_bitCount_0f7a4_38 : decode cJ6_bitCount_0f7a4 38 = .ok (.iushr, 1) := by decide +kernel
theorem dJ6_bitCount_0f7a4_39 : decode cJ6_bitCount_0f7a4 39 = .ok (.iadd, 1) := by decide +kernel
theorem dJ6_bitCount_0f7a4_40 : decode cJ6_bitCount_0f7a4 40 = .ok (.istore_n 0, 1) := by decide +kernel
theorem dJ6_bitCount_0f7a4_41 : decode cJ6_bitCount_0f7a4 41 = .ok (.iload_n 0, 1) := by decide +kernel
theorem dJ6_bitCount_0f7a4_42 : decode cJ6_bitCount_0f7a4 42 = .ok (.iload_n 0, 1) := by decide +kernel
theorem dJ6_bitCount_0f7a4_43 : decode cJ6_bitCount_0f7a4 43 = .ok (.bipush 16, 2) := by decide +kernel
theorem dJ6_bitCount_0f7a4_45 : decode cJ6_bitCount_0f7a4 45 = .ok (.iushr, 1) := by decide +kernel
theorem dJ6_bitCount_0f7a4_46 : decode cJ6_bitCount_0f7a4 46 = .ok (.iadd, 1) := by decide +kernel
theorem dJ6_bitCount_0f7a4_47 : decode cJ6_bitCount_0f7a4 47 = .ok (.istore_n 0, 1) := by decide +kernel
theorem dJ6_bitCount_0f7a4_48 : decode cJ6_bitCount_0f7a4 48 = .ok (.iload_n 0, 1) := by decide +kernel
theorem dJ6_bitCount_0f7a4_49 : decode cJ6_bitCount_0f7a4 49 = .ok (.bipush 63, 2) := by decide +kernel
theorem dJ6_bitCount_0f7a4_51 : decode cJ6_bitCount_0f7a4 51 = .ok (.iand, 1) := by decide +kernel
theorem dJ6_bitCount_0f7a4_52 : decode cJ6_bitCount_0f7a4 52 = .ok (.ireturn, 1) := by decide +kernel
theorem dJ13_bitCount_95d88_0 : decode cJ13_bitCount_95d88 0 = .ok (.lload_n 0, 1) := by decide +kernel
theorem dJ13_bitCount_95d88_1 : decode cJ13_bitCount_95d88 1 = .ok (.lload_n 0, 1) := by decide +kernel
theorem dJ13_bitCount_95d88_2 : decode cJ13_bitCount_95d88 2 = .ok (.iconst 1, 1) := by decide +kernel
theorem dJ13_bitCount_95d88_3 : decode cJ13_bitCount_95d88 3 = .ok (.lushr, 1) := by decide +kernel
theorem dJ13_bitCount_95d88_4 : decode cJ13_bitCount_95d88 4 = .ok (.ldc2_w 314, 3) := by decide +kernel
theorem dJ13_bitCount_95d88_7 : decode cJ13_bitCount_95d88 7 = .ok (.land, 1) := by decide +kernel
theorem dJ13_bitCount_95d88_8 : decode cJ13_bitCount_95d88 8 = .ok (.lsub, 1) := by decide +kernel
theorem dJ13_bitCount_95d88_9 : decode cJ13_bitCount_95d88 9 = .ok (.lstore_n 0, 1) := by decide +kernel
theorem dJ13_bitCount_95d88_10 : decode cJ13_bitCount_95d88 10 = .ok (.lload_n 0, 1) := by decide +kernel
theorem dJ13_bitCount_95d88_11 : decode cJ13_bitCount_95d88 11 = .ok (.ldc2_w 316, 3) := by decide +kernel
theorem dJ13_bitCount_95d88_14 : decode cJ13_bitCount_95d88 14 = .ok (.land, 1) := by decide +kernel
theorem dJ13_bitCount_95d88_15 : decode cJ13_bitCount_95d88 15 = .ok (.lload_n 0, 1) := by decide +kernel
theorem dJ13_bitCount_95d88_16 : decode cJ13_bitCount_95d88 16 = .ok (.iconst 2, 1) := by decide +kernel
theorem dJ13_bitCount_95d88_17 : decode cJ13_bitCount_95d88 17 = .ok (.lushr, 1) := by decide +kernel
theorem dJ13_bitCount_95d88_18 : decode cJ13_bitCount_95d88 18 = .ok (.ldc2_w 316, 3) := by decide +kernel
theorem dJ13_bitCount_95d88_21 : decode cJ13_bitCount_95d88 21 = .ok (.land, 1) := by decide +kernel
theorem dJ13_bitCount_95d88_22 : decode cJ13_bitCount_95d88 22 = .ok (.ladd, 1) := by decide +kernel
theorem dJ13_bitCount_95d88_23 : decode cJ13_bitCount_95d88 23 = .ok (.lstore_n 0, 1) := by decide +kernel
theorem dJ13_bitCount_95d88_24 : decode cJ13_bitCount_95d88 24 = .ok (.lload_n 0, 1) := by decide +kernel
theorem dJ13_bitCount_95d88_25 : decode cJ13_bitCount_95d88 25 = .ok (.lload_n 0, 1) := by decide +kernel
theorem dJ13_bitCount_95d88_26 : decode cJ13_bitCount_95d88 26 = .ok (.iconst 4, 1) := by decide +kernel
theorem dJ13_bitCount_95d88_27 : decode cJ13_bitCount_95d88 27 = .ok (.lushr, 1) := by decide +kernel
theorem dJ13_bitCount_95d88_28 : decode cJ13_bitCount_95d88 28 = .ok (.ladd, 1) := by decide +kernel
theorem dJ13_bitCount_95d88_29 : decode cJ13_bitCount_95d88 29 = .ok (.ldc2_w 318, 3) := by decide +kernel
theorem dJ13_bitCount_95d88_32 : decode cJ13_bitCount_95d88 32 = .ok (.land, 1) := by decide +kernel
theorem dJ13_bitCount_95d88_33 : decode cJ13_bitCount_95d88 33 = .ok (.lstore_n 0, 1) := by decide +kernel
theorem dJ13_bitCount_95d88_34 : decode cJ13_bitCount_95d88 34 = .ok (.lload_n 0, 1) := by decide +kernel
theorem dJ13_bitCount_95d88_35 : decode cJ13_bitCount_95d88 35 = .ok (.lload_n 0, 1) := by decide +kernel
theorem dJ13_bitCount_95d88_36 : decode cJ13_bitCount_95d88 36 = .ok (.bipush 8, 2) := by decide +kernel
theorem dJ13_bitCount_95d88_38 : decode cJ13_bitCount_95d88 38 = .ok (.lushr, 1) := by decide +kernel
theorem dJ13_bitCount_95d88_39 : decode cJ13_bitCount_95d88 39 = .ok (.ladd, 1) := by decide +kernel
theorem dJ13_bitCount_95d88_40 : decode cJ13_bitCount_95d88 40 = .ok (.lstore_n 0, 1) := by decide +kernel
theorem dJ13_bitCount_95d88_41 : decode cJ13_bitCount_95d88 41 = .ok (.lload_n 0, 1) := by decide +kernel
theorem dJ13_bitCount_95d88_42 : decode cJ13_bitCount_95d88 42 = .ok (.lload_n 0, 1) := by decide +kernel
theorem dJ13_bitCount_95d88_43 : decode cJ13_bitCount_95d88 43 = .ok (.bipush 16, 2) := by decide +kernel
theorem dJ13_bitCount_95d88_45 : decode cJ13_bitCount_95d88 45 = .ok (.lushr, 1) := by decide +kernel
theorem dJ13_bitCount_95d88_46 : decode cJ13_bitCount_95d88 46 = .ok (.ladd, 1) := by decide +kernel
theorem dJ13_bitCount_95d88_47 : decode cJ13_bitCount_95d88 47 = .ok (.lstore_n 0, 1) := by decide +kernel
theorem dJ13_bitCount_95d88_48 : decode cJ13_bitCount_95d88 48 = .ok (.lload_n 0, 1) := by decide +kernel
theorem dJ13_bitCount_95d88_49 : decode cJ13_bitCount_95d88 49 = .ok (.lload_n 0, 1) := by decide +kernel
theorem dJ13_bitCount_95d88_50 : decode cJ13_bitCount_95d88 50 = .ok (.bipush 32, 2) := by decide +kernel
theorem dJ13_bitCount_95d88_52 : decode cJ13_bitCount_95d88 52 = .ok (.lushr, 1) := by decide +kernel
theorem dJ13_bitCount_95d88_53 : decode cJ13_bitCount_95d88 53 = .ok (.ladd, 1) := by decide +kernel
theorem dJ13_bitCount_95d88_54 : decode cJ13_bitCount_95d88 54 = .ok (.lstore_n 0, 1) := by decide +kernel
theorem dJ13_bitCount_95d88_55 : decode cJ13_bitCount_95d88 55 = .ok (.lload_n 0, 1) := by decide +kernel
theorem dJ13_bitCount_95d88_56 : decode cJ13_bitCount_95d88 56 = .ok (.l2i, 1) := by decide +kernel
theorem dJ13_bitCount_95d88_57 : decode cJ13_bitCount_95d88 57 = .ok (.bipush 127, 2) := by decide +kernel
theorem dJ13_bitCount_95d88_59 : decode cJ13_bitCount_95d88 59 = .ok (.iand, 1) := by decide +kernel
theorem dJ13_bitCount_95d88_60 : decode cJ13_bitCount_95d88 60 = .ok (.ireturn, 1) := by decide +kernel
theorem dJ9_abs_0f7a4_0 : decode cJ9_abs_0f7a4 0 = .ok (.iload_n 0, 1) := by decide +kernel
theorem dJ9_abs_0f7a4_1 : decode cJ9_abs_0f7a4 1 = .ok (.ifCond .ge 8, 3) := by decide +kernel
theorem dJ9_abs_0f7a4_4 : decode cJ9_abs_0f7a4 4 = .ok (.iload_n 0, 1) := by decide +kernel
theorem dJ9_abs_0f7a4_5 : decode cJ9_abs_0f7a4 5 = .ok (.ineg, 1) := by decide +kernel
theorem dJ9_abs_0f7a4_6 : decode cJ9_abs_0f7a4 6 = .ok (.goto 4, 3) := by decide +kernel
theorem dJ9_abs_0f7a4_9 : decode cJ9_abs_0f7a4 9 = .ok (.iload_n 0, 1) := by decide +kernel
theorem dJ9_abs_0f7a4_10 : decode cJ9_abs_0f7a4 10 = .ok (.ireturn, 1) := by decide +kernel
theorem dJ9_max_7cf53_0 : decode cJ9_max_7cf53 0 = .ok (.iload_n 0, 1) := by decide +kernel
theorem dJ9_max_7cf53_1 : decode cJ9_max_7cf53 1 = .ok (.iload_n 1, 1) := by decide +kernel
theorem dJ9_max_7cf53_2 : decode cJ9_max_7cf53 2 = .ok (.if_icmp .lt 7, 3) := by decide +kernel
theorem dJ9_max_7cf53_5 : decode cJ9_max_7cf53 5 = .ok (.iload_n 0, 1) := by decide +kernel
theorem dJ9_max_7cf53_6 : decode cJ9_max_7cf53 6 = .ok (.goto 4, 3) := by decide +kernel
theorem dJ9_max_7cf53_9 : decode cJ9_max_7cf53 9 = .ok (.iload_n 1, 1) := by decide +kernel
theorem dJ9_max_7cf53_10 : decode cJ9_max_7cf53 10 = .ok (.ireturn, 1) := by decide +kernel
theorem dJ9_min_7cf53_0 : decode cJ9_min_7cf53 0 = .ok (.iload_n 0, 1) := by decide +kernel
theorem dJ9_min_7cf53_1 : decode cJ9_min_7cf53 1 = .ok (.iload_n 1, 1) := by decide +kernel
theorem dJ9_min_7cf53_2 : decode cJ9_min_7cf53 2 = .ok (.if_icmp .gt 7, 3) := by decide +kernel
theorem dJ9_min_7cf53_5 : decode cJ9_min_7cf53 5 = .ok (.iload_n 0, 1) := by decide +kernel
theorem dJ9_min_7cf53_6 : decode cJ9_min_7cf53 6 = .ok (.goto 4, 3) := by decide +kernel
theorem dJ9_min_7cf53_9 : decode cJ9_min_7cf53 9 = .ok (.iload_n 1, 1) := by decide +kernel
theorem dJ9_min_7cf53_10 : decode cJ9_min_7cf53 10 = .ok (.ireturn, 1) := by decide +kernel
theorem dL_law_0 : decode cL_law 0 = .ok (.new 7, 3) := by decide +kernel
theorem dL_law_3 : decode cL_law 3 = .ok (.dup, 1) := by decide +kernel
theorem dL_law_4 : decode cL_law 4 = .ok (.invokespecial 9, 3) := by decide +kernel
theorem dL_law_7 : decode cL_law 7 = .ok (.astore_n 1, 1) := by decide +kernel
theorem dL_law_8 : decode cL_law 8 = .ok (.new 10, 3) := by decide +kernel
theorem dL_law_11 : decode cL_law 11 = .ok (.dup, 1) := by decide +kernel
theorem dL_law_12 : decode cL_law 12 = .ok (.invokespecial 12, 3) := by decide +kernel
theorem dL_law_15 : decode cL_law 15 = .ok (.astore_n 2, 1) := by decide +kernel
theorem dL_law_16 : decode cL_law 16 = .ok (.iconst 0, 1) := by decide +kernel
theorem dL_law_17 : decode cL_law 17 = .ok (.istore_n 3, 1) := by decide +kernel
theorem dL_law_18 : decode cL_law 18 = .ok (.iload_n 3, 1) := by decide +kernel
theorem dL_law_19 : decode cL_law 19 = .ok (.aload_n 0, 1) := by decide +kernel
theorem dL_law_20 : decode cL_law 20 = .ok (.arraylength, 1) := by decide +kernel
theorem dL_law_21 : decode cL_law 21 = .ok (.iconst 4, 1) := by decide +kernel
theorem dL_law_22 : decode cL_law 22 = .ok (.isub, 1) := by decide +kernel
theorem dL_law_23 : decode cL_law 23 = .ok (.if_icmp .gt 1351, 3) := by decide +kernel
theorem dL_law_26 : decode cL_law 26 = .ok (.aload_n 0, 1) := by decide +kernel
theorem dL_law_27 : decode cL_law 27 = .ok (.iload_n 3, 1) := by decide +kernel
theorem dL_law_28 : decode cL_law 28 = .ok (.iaload, 1) := by decide +kernel
theorem dL_law_29 : decode cL_law 29 = .ok (.bipush 63, 2) := by decide +kernel
theorem dL_law_31 : decode cL_law 31 = .ok (.iand, 1) := by decide +kernel
theorem dL_law_32 : decode cL_law 32 = .ok (.tableswitch 1336 0 41 #[184, 207, 220, 233, 256, 289, 322, 355, 388, 411, 434, 467, 500, 533, 572, 595, 618, 651, 684, 707, 720, 753, 786, 829, 852, 875, 898, 911, 934, 967, 1010, 1043, 1076, 1119, 1142, 1165, 1208, 1241, 1254, 1267, 1290, 1313], 184) := by decide +kernel
theorem dL_law_216 : decode cL_law 216 = .ok (.aload_n 1, 1) := by decide +kernel
theorem dL_law_217 : decode cL_law 217 = .ok (.aload_n 0, 1) := by decide +kernel
theorem dL_law_218 : decode cL_law 218 = .ok (.iload_n 3, 1) := by decide +kernel
theorem dL_law_219 : decode cL_law 219 = .ok (.iconst 1, 1) := by decide +kernel
theorem dL_law_220 : decode cL_law 220 = .ok (.iadd, 1) := by decide +kernel
theorem dL_law_221 : decode cL_law 221 = .ok (.iaload, 1) := by decide +kernel
theorem dL_law_222 : decode cL_law 222 = .ok (.invokevirtual 13, 3) := by decide +kernel
theorem dL_law_225 : decode cL_law 225 = .ok (.aload_n 2, 1) := by decide +kernel
theorem dL_law_226 : decode cL_law 226 = .ok (.aload_n 0, 1) := by decide +kernel
theorem dL_law_227 : decode cL_law 227 = .ok (.iload_n 3, 1) := by decide +kernel
theorem dL_law_228 : decode cL_law 228 = .ok (.iconst 1, 1) := by decide +kernel
theorem dL_law_229 : decode cL_law 229 = .ok (.iadd, 1) := by decide +kernel
theorem dL_law_230 : decode cL_law 230 = .ok (.iaload, 1) := by decide +kernel
theorem dL_law_231 : decode cL_law 231 = .ok (.invokevirtual 17, 3) := by decide +kernel
theorem dL_law_234 : decode cL_law 234 = .ok (.if_icmp .eq 1134, 3) := by decide +kernel
theorem dL_law_237 : decode cL_law 237 = .ok (.iconst 0, 1) := by decide +kernel
theorem dL_law_238 : decode cL_law 238 = .ok (.ireturn, 1) := by decide +kernel
theorem dL_law_239 : decode cL_law 239 = .ok (.aload_n 1, 1) := by decide +kernel
theorem dL_law_240 : decode cL_law 240 = .ok (.invokevirtual 18, 3) := by decide +kernel
theorem dL_law_243 : decode cL_law 243 = .ok (.aload_n 2, 1) := by decide +kernel
theorem dL_law_244 : decode cL_law 244 = .ok (.invokevirtual 22, 3) := by decide +kernel
theorem dL_law_247 : decode cL_law 247 = .ok (.if_icmp .eq 1121, 3) := by decide +kernel
theorem dL_law_250 : decode cL_law 250 = .ok (.iconst 0, 1) := by decide +kernel
theorem dL_law_251 : decode cL_law 251 = .ok (.ireturn, 1) := by decide +kernel
theorem dL_law_252 : decode cL_law 252 = .ok (.aload_n 1, 1) := by decide +kernel
theorem dL_law_253 : decode cL_law 253 = .ok (.invokevirtual 23, 3) := by decide +kernel
theorem dL_law_256 : decode cL_law 256 = .ok (.aload_n 2, 1) := by decide +kernel
theorem dL_law_257 : decode cL_law 257 = .ok (.invokevirtual 26, 3) := by decide +kernel
theorem dL_law_260 : decode cL_law 260 = .ok (.if_icmp .eq 1108, 3) := by decide +kernel
theorem dL_law_263 : decode cL_law 263 = .ok (.iconst 0, 1) := by decide +kernel
theorem dL_law_264 : decode cL_law 264 = .ok (.ireturn, 1) := by decide +kernel
theorem dL_law_265 : decode cL_law 265 = .ok (.aload_n 1, 1) := by decide +kernel
theorem dL_law_266 : decode cL_law 266 = .ok (.aload_n 0, 1) := by decide +kernel
theorem dL_law_267 : decode cL_law 267 = .ok (.iload_n 3, 1) := by decide +kernel
theorem dL_law_268 : decode cL_law 268 = .ok (.iconst 1, 1) := by decide +kernel
theorem dL_law_269 : decode cL_law 269 = .ok (.iadd, 1) := by decide +kernel
theorem dL_law_270 : decode cL_law 270 = .ok (.iaload, 1) := by decide +kernel
theorem dL_law_271 : decode cL_law 271 = .ok (.invokevirtual 27, 3) := by decide +kernel
theorem dL_law_274 : decode cL_law 274 = .ok (.aload_n 2, 1) := by decide +kernel
theorem dL_law_275 : decode cL_law 275 = .ok (.aload_n 0, 1) := by decide +kernel
theorem dL_law_276 : decode cL_law 276 = .ok (.iload_n 3, 1) := by decide +kernel
theorem dL_law_277 : decode cL_law 277 = .ok (.iconst 1, 1) := by decide +kernel
theorem dL_law_278 : decode cL_law 278 = .ok (.iadd, 1) := by decide +kernel
theorem dL_law_279 : decode cL_law 279 = .ok (.iaload, 1) := by decide +kernel
theorem dL_law_280 : decode cL_law 280 = .ok (.invokevirtual 30, 3) := by decide +kernel
theorem dL_law_283 : decode cL_law 283 = .ok (.if_icmp .eq 1085, 3) := by decide +kernel
theorem dL_law_286 : decode cL_law 286 = .ok (.iconst 0, 1) := by decide +kernel
theorem dL_law_287 : decode cL_law 287 = .ok (.ireturn, 1) := by decide +kernel
theorem dL_law_288 : decode cL_law 288 = .ok (.aload_n 1, 1) := by decide +kernel
theorem dL_law_289 : decode cL_law 289 = .ok (.aload_n 0, 1) := by decide +kernel
theorem dL_law_290 : decode cL_law 290 = .ok (.iload_n 3, 1) := by decide +kernel
theorem dL_law_291 : decode cL_law 291 = .ok (.iconst 1, 1) := by decide +kernel
theorem dL_law_292 : decode cL_law 292 = .ok (.iadd, 1) := by decide +kernel
theorem dL_law_293 : decode cL_law 293 = .ok (.iaload, 1) := by decide +kernel
theorem dL_law_294 : decode cL_law 294 = .ok (.aload_n 0, 1) := by decide +kernel
theorem dL_law_295 : decode cL_law 295 = .ok (.iload_n 3, 1) := by decide +kernel
theorem dL_law_296 : decode cL_law 296 = .ok (.iconst 2, 1) := by decide +kernel
theorem dL_law_297 : decode cL_law 297 = .ok (.iadd, 1) := by decide +kernel
theorem dL_law_298 : decode cL_law 298 = .ok (.iaload, 1) := by decide +kernel
theorem dL_law_299 : decode cL_law 299 = .ok (.invokevirtual 31, 3) := by decide +kernel
theorem dL_law_302 : decode cL_law 302 = .ok (.aload_n 2, 1) := by decide +kernel
theorem dL_law_303 : decode cL_law 303 = .ok (.aload_n 0, 1) := by decide +kernel
theorem dL_law_304 : decode cL_law 304 = .ok (.iload_n 3, 1) := by decide +kernel
theorem dL_law_305 : decode cL_law 305 = .ok (.iconst 1, 1) := by decide +kernel
theorem dL_law_306 : decode cL_law 306 = .ok (.iadd, 1) := by decide +kernel
theorem dL_law_307 : decode cL_law 307 = .ok (.iaload, 1) := by decide +kernel
theorem dL_law_308 : decode cL_law 308 = .ok (.aload_n 0, 1) := by decide +kernel
theorem dL_law_309 : decode cL_law 309 = .ok (.iload_n 3, 1) := by decide +kernel
theorem dL_law_310 : decode cL_law 310 = .ok (.iconst 2, 1) := by decide +kernel
theorem dL_law_311 : decode cL_law 311 = .ok (.iadd, 1) := by decide +kernel
theorem dL_law_312 : decode cL_law 312 = .ok (.iaload, 1) := by decide +kernel
theorem dL_law_313 : decode cL_law 313 = .ok (.invokevirtual 35, 3) := by decide +kernel
theorem dL_law_316 : decode cL_law 316 = .ok (.if_icmp .eq 1052, 3) := by decide +kernel
theorem dL_law_319 : decode cL_law 319 = .ok (.iconst 0, 1) := by decide +kernel
theorem dL_law_320 : decode cL_law 320 = .ok (.ireturn, 1) := by decide +kernel
theorem dL_law_321 : decode cL_law 321 = .ok (.aload_n 1, 1) := by decide +kernel
theorem dL_law_322 : decode cL_law 322 = .ok (.aload_n 0, 1) := by decide +kernel
theorem dL_law_323 : decode cL_law 323 = .ok (.iload_n 3, 1) := by decide +kernel
theorem dL_law_324 : decode cL_law 324 = .ok (.iconst 1, 1) := by decide +kernel
theorem dL_law_325 : decode cL_law 325 = .ok (.iadd, 1) := by decide +kernel
theorem dL_law_326 : decode cL_law 326 = .ok (.iaload, 1) := by decide +kernel
theorem dL_law_327 : decode cL_law 327 = .ok (.aload_n 0, 1) := by decide +kernel
theorem dL_law_328 : decode cL_law 328 = .ok (.iload_n 3, 1) := by decide +kernel
theorem dL_law_329 : decode cL_law 329 = .ok (.iconst 2, 1) := by decide +kernel
theorem dL_law_330 : decode cL_law 330 = .ok (.iadd, 1) := by decide +kernel
theorem dL_law_331 : decode cL_law 331 = .ok (.iaload, 1) := by decide +kernel
theorem dL_law_332 : decode cL_law 332 = .ok (.invokevirtual 36, 3) := by decide +kernel
theorem dL_law_335 : decode cL_law 335 = .ok (.aload_n 2, 1) := by decide +kernel
theorem dL_law_336 : decode cL_law 336 = .ok (.aload_n 0, 1) := by decide +kernel
theorem dL_law_337 : decode cL_law 337 = .ok (.iload_n 3, 1) := by decide +kernel
theorem dL_law_338 : decode cL_law 338 = .ok (.iconst 1, 1) := by decide +kernel
theorem dL_law_339 : decode cL_law 339 = .ok (.iadd, 1) := by decide +kernel
theorem dL_law_340 : decode cL_law 340 = .ok (.iaload, 1) := by decide +kernel
theorem dL_law_341 : decode cL_law 341 = .ok (.aload_n 0, 1) := by decide +kernel
theorem dL_law_342 : decode cL_law 342 = .ok (.iload_n 3, 1) := by decide +kernel
theorem dL_law_343 : decode cL_law 343 = .ok (.iconst 2, 1) := by decide +kernel
theorem dL_law_344 : decode cL_law 344 = .ok (.iadd, 1) := by decide +kernel
theorem dL_law_345 : decode cL_law 345 = .ok (.iaload, 1) := by decide +kernel
theorem dL_law_346 : decode cL_law 346 = .ok (.invokevirtual 39, 3) := by decide +kernel
theorem dL_law_349 : decode cL_law 349 = .ok (.if_icmp .eq 1019, 3) := by decide +kernel
theorem dL_law_352 : decode cL_law 352 = .ok (.iconst 0, 1) := by decide +kernel
theorem dL_law_353 : decode cL_law 353 = .ok (.ireturn, 1) := by decide +kernel
theorem dL_law_354 : decode cL_law 354 = .ok (.aload_n 1, 1) := by decide +kernel
theorem dL_law_355 : decode cL_law 355 = .ok (.aload_n 0, 1) := by decide +kernel
theorem dL_law_356 : decode cL_law 356 = .ok (.iload_n 3, 1) := by decide +kernel
theorem dL_law_357 : decode cL_law 357 = .ok (.iconst 1, 1) := by decide +kernel
theorem dL_law_358 : decode cL_law 358 = .ok (.iadd, 1) := by decide +kernel
theorem dL_law_359 : decode cL_law 359 = .ok (.iaload, 1) := by decide +kernel
theorem dL_law_360 : decode cL_law 360 = .ok (.aload_n 0, 1) := by decide +kernel
theorem dL_law_361 : decode cL_law 361 = .ok (.iload_n 3, 1) := by decide +kernel
theorem dL_law_362 : decode cL_law 362 = .ok (.iconst 2, 1) := by decide +kernel
theorem dL_law_363 : decode cL_law 363 = .ok (.iadd, 1) := by decide +kernel
theorem dL_law_364 : decode cL_law 364 = .ok (.iaload, 1) := by decide +kernel
theorem dL_law_365 : decode cL_law 365 = .ok (.invokevirtual 40, 3) := by decide +kernel
theorem dL_law_368 : decode cL_law 368 = .ok (.aload_n 2, 1) := by decide +kernel
theorem dL_law_369 : decode cL_law 369 = .ok (.aload_n 0, 1) := by decide +kernel
theorem dL_law_370 : decode cL_law 370 = .ok (.iload_n 3, 1) := by decide +kernel
theorem dL_law_371 : decode cL_law 371 = .ok (.iconst 1, 1) := by decide +kernel
theorem dL_law_372 : decode cL_law 372 = .ok (.iadd, 1) := by decide +kernel
theorem dL_law_373 : decode cL_law 373 = .ok (.iaload, 1) := by decide +kernel
theorem dL_law_374 : decode cL_law 374 = .ok (.aload_n 0, 1) := by decide +kernel
theorem dL_law_375 : decode cL_law 375 = .ok (.iload_n 3, 1) := by decide +kernel
theorem dL_law_376 : decode cL_law 376 = .ok (.iconst 2, 1) := by decide +kernel
theorem dL_law_377 : decode cL_law 377 = .ok (.iadd, 1) := by decide +kernel
theorem dL_law_378 : decode cL_law 378 = .ok (.iaload, 1) := by decide +kernel
theorem dL_law_379 : decode cL_law 379 = .ok (.invokevirtual 43, 3) := by decide +kernel
theorem dL_law_382 : decode cL_law 382 = .ok (.if_icmp .eq 986, 3) := by decide +kernel
theorem dL_law_385 : decode cL_law 385 = .ok (.iconst 0, 1) := by decide +kernel
theorem dL_law_386 : decode cL_law 386 = .ok (.ireturn, 1) := by decide +kernel
theorem dL_law_387 : decode cL_law 387 = .ok (.aload_n 1, 1) := by decide +kernel
theorem dL_law_388 : decode cL_law 388 = .ok (.aload_n 0, 1) := by decide +kernel
theorem dL_law_389 : decode cL_law 389 = .ok (.iload_n 3, 1) := by decide +kernel
theorem dL_law_390 : decode cL_law 390 = .ok (.iconst 1, 1) := by decide +kernel
theorem dL_law_391 : decode cL_law 391 = .ok (.iadd, 1) := by decide +kernel
theorem dL_law_392 : decode cL_law 392 = .ok (.iaload, 1) := by decide +kernel
theorem dL_law_393 : decode cL_law 393 = .ok (.aload_n 0, 1) := by decide +kernel
theorem dL_law_394 : decode cL_law 394 = .ok (.iload_n 3, 1) := by decide +kernel
theorem dL_law_395 : decode cL_law 395 = .ok (.iconst 2, 1) := by decide +kernel
theorem dL_law_396 : decode cL_law 396 = .ok (.iadd, 1) := by decide +kernel
theorem dL_law_397 : decode cL_law 397 = .ok (.iaload, 1) := by decide +kernel
theorem dL_law_398 : decode cL_law 398 = .ok (.invokevirtual 44, 3) := by decide +kernel
theorem dL_law_401 : decode cL_law 401 = .ok (.aload_n 2, 1) := by decide +kernel
theorem dL_law_402 : decode cL_law 402 = .ok (.aload_n 0, 1) := by decide +kernel
theorem dL_law_403 : decode cL_law 403 = .ok (.iload_n 3, 1) := by decide +kernel
theorem dL_law_404 : decode cL_law 404 = .ok (.iconst 1, 1) := by decide +kernel
theorem dL_law_405 : decode cL_law 405 = .ok (.iadd, 1) := by decide +kernel
theorem dL_law_406 : decode cL_law 406 = .ok (.iaload, 1) := by decide +kernel
theorem dL_law_407 : decode cL_law 407 = .ok (.aload_n 0, 1) := by decide +kernel
theorem dL_law_408 : decode cL_law 408 = .ok (.iload_n 3, 1) := by decide +kernel
theorem dL_law_409 : decode cL_law 409 = .ok (.iconst 2, 1) := by decide +kernel
theorem dL_law_410 : decode cL_law 410 = .ok (.iadd, 1) := by decide +kernel
theorem dL_law_411 : decode cL_law 411 = .ok (.iaload, 1) := by decide +kernel
theorem dL_law_412 : decode cL_law 412 = .ok (.invokevirtual 47, 3) := by decide +kernel
theorem dL_law_415 : decode cL_law 415 = .ok (.if_icmp .eq 953, 3) := by decide +kernel
theorem dL_law_418 : decode cL_law 418 = .ok (.iconst 0, 1) := by decide +kernel
theorem dL_law_419 : decode cL_law 419 = .ok (.ireturn, 1) := by decide +kernel
theorem dL_law_420 : decode cL_law 420 = .ok (.aload_n 1, 1) := by decide +kernel
theorem dL_law_421 : decode cL_law 421 = .ok (.aload_n 0, 1) := by decide +kernel
theorem dL_law_422 : decode cL_law 422 = .ok (.iload_n 3, 1) := by decide +kernel
theorem dL_law_423 : decode cL_law 423 = .ok (.iconst 1, 1) := by decide +kernel
theorem dL_law_424 : decode cL_law 424 = .ok (.iadd, 1) := by decide +kernel
theorem dL_law_425 : decode cL_law 425 = .ok (.iaload, 1) := by decide +kernel
theorem dL_law_426 : decode cL_law 426 = .ok (.invokevirtual 48, 3) := by decide +kernel
theorem dL_law_429 : decode cL_law 429 = .ok (.aload_n 2, 1) := by decide +kernel
theorem dL_law_430 : decode cL_law 430 = .ok (.aload_n 0, 1) := by decide +kernel
theorem dL_law_431 : decode cL_law 431 = .ok (.iload_n 3, 1) := by decide +kernel
theorem dL_law_432 : decode cL_law 432 = .ok (.iconst 1, 1) := by decide +kernel
theorem dL_law_433 : decode cL_law 433 = .ok (.iadd, 1) := by decide +kernel
theorem dL_law_434 : decode cL_law 434 = .ok (.iaload, 1) := by decide +kernel
theorem dL_law_435 : decode cL_law 435 = .ok (.invokevirtual 51, 3) := by decide +kernel
theorem dL_law_438 : decode cL_law 438 = .ok (.if_icmp .eq 930, 3) := by decide +kernel
theorem dL_law_441 : decode cL_law 441 = .ok (.iconst 0, 1) := by decide +kernel
theorem dL_law_442 : decode cL_law 442 = .ok (.ireturn, 1) := by decide +kernel
theorem dL_law_443 : decode cL_law 443 = .ok (.aload_n 1, 1) := by decide +kernel
theorem dL_law_444 : decode cL_law 444 = .ok (.aload_n 0, 1) := by decide +kernel
theorem dL_law_445 : decode cL_law 445 = .ok (.iload_n 3, 1) := by decide +kernel
theorem dL_law_446 : decode cL_law 446 = .ok (.iconst 1, 1) := by decide +kernel
theorem dL_law_447 : decode cL_law 447 = .ok (.iadd, 1) := by decide +kernel
theorem dL_law_448 : decode cL_law 448 = .ok (.iaload, 1) := by decide +kernel
theorem dL_law_449 : decode cL_law 449 = .ok (.invokevirtual 52, 3) := by decide +kernel
theorem dL_law_452 : decode cL_law 452 = .ok (.aload_n 2, 1) := by decide +kernel
theorem dL_law_453 : decode cL_law 453 = .ok (.aload_n 0, 1) := by decide +kernel
theorem dL_law_454 : decode cL_law 454 = .ok (.iload_n 3, 1) := by decide +kernel
theorem dL_law_455 : decode cL_law 455 = .ok (.iconst 1, 1) := by decide +kernel
theorem dL_law_456 : decode cL_law 456 = .ok (.iadd, 1) := by decide +kernel
theorem dL_law_457 : decode cL_law 457 = .ok (.iaload, 1) := by decide +kernel
theorem dL_law_458 : decode cL_law 458 = .ok (.invokevirtual 55, 3) := by decide +kernel
theorem dL_law_461 : decode cL_law 461 = .ok (.if_icmp .eq 907, 3) := by decide +kernel
theorem dL_law_464 : decode cL_law 464 = .ok (.iconst 0, 1) := by decide +kernel
theorem dL_law_465 : decode cL_law 465 = .ok (.ireturn, 1) := by decide +kernel
theorem dL_law_466 : decode cL_law 466 = .ok (.aload_n 1, 1) := by decide +kernel
theorem dL_law_467 : decode cL_law 467 = .ok (.aload_n 0, 1) := by decide +kernel
theorem dL_law_468 : decode cL_law 468 = .ok (.iload_n 3, 1) := by decide +kernel
theorem dL_law_469 : decode cL_law 469 = .ok (.iconst 1, 1) := by decide +kernel
theorem dL_law_470 : decode cL_law 470 = .ok (.iadd, 1) := by decide +kernel
theorem dL_law_471 : decode cL_law 471 = .ok (.iaload, 1) := by decide +kernel
theorem dL_law_472 : decode cL_law 472 = .ok (.aload_n 0, 1) := by decide +kernel
theorem dL_law_473 : decode cL_law 473 = .ok (.iload_n 3, 1) := by decide +kernel
theorem dL_law_474 : decode cL_law 474 = .ok (.iconst 2, 1) := by decide +kernel
theorem dL_law_475 : decode cL_law 475 = .ok (.iadd, 1) := by decide +kernel
theorem dL_law_476 : decode cL_law 476 = .ok (.iaload, 1) := by decide +kernel
theorem dL_law_477 : decode cL_law 477 = .ok (.invokevirtual 56, 3) := by decide +kernel
theorem dL_law_480 : decode cL_law 480 = .ok (.aload_n 2, 1) := by decide +kernel
theorem dL_law_481 : decode cL_law 481 = .ok (.aload_n 0, 1) := by decide +kernel
theorem dL_law_482 : decode cL_law 482 = .ok (.iload_n 3, 1) := by decide +kernel
theorem dL_law_483 : decode cL_law 483 = .ok (.iconst 1, 1) := by decide +kernel
theorem dL_law_484 : decode cL_law 484 = .ok (.iadd, 1) := by decide +kernel
theorem dL_law_485 : decode cL_law 485 = .ok (.iaload, 1) := by decide +kernel
theorem dL_law_486 : decode cL_law 486 = .ok (.aload_n 0, 1) := by decide +kernel
theorem dL_law_487 : decode cL_law 487 = .ok (.iload_n 3, 1) := by decide +kernel
theorem dL_law_488 : decode cL_law 488 = .ok (.iconst 2, 1) := by decide +kernel
theorem dL_law_489 : decode cL_law 489 = .ok (.iadd, 1) := by decide +kernel
theorem dL_law_490 : decode cL_law 490 = .ok (.iaload, 1) := by decide +kernel
theorem dL_law_491 : decode cL_law 491 = .ok (.invokevirtual 59, 3) := by decide +kernel
theorem dL_law_494 : decode cL_law 494 = .ok (.if_icmp .eq 874, 3) := by decide +kernel
theorem dL_law_497 : decode cL_law 497 = .ok (.iconst 0, 1) := by decide +kernel
theorem dL_law_498 : decode cL_law 498 = .ok (.ireturn, 1) := by decide +kernel
theorem dL_law_499 : decode cL_law 499 = .ok (.aload_n 1, 1) := by decide +kernel
theorem dL_law_500 : decode cL_law 500 = .ok (.aload_n 0, 1) := by decide +kernel
theorem dL_law_501 : decode cL_law 501 = .ok (.iload_n 3, 1) := by decide +kernel
theorem dL_law_502 : decode cL_law 502 = .ok (.iconst 1, 1) := by decide +kernel
theorem dL_law_503 : decode cL_law 503 = .ok (.iadd, 1) := by decide +kernel
theorem dL_law_504 : decode cL_law 504 = .ok (.iaload, 1) := by decide +kernel
theorem dL_law_505 : decode cL_law 505 = .ok (.aload_n 0, 1) := by decide +kernel
theorem dL_law_506 : decode cL_law 506 = .ok (.iload_n 3, 1) := by decide +kernel
theorem dL_law_507 : decode cL_law 507 = .ok (.iconst 2, 1) := by decide +kernel
theorem dL_law_508 : decode cL_law 508 = .ok (.iadd, 1) := by decide +kernel
theorem dL_law_509 : decode cL_law 509 = .ok (.iaload, 1) := by decide +kernel
theorem dL_law_510 : decode cL_law 510 = .ok (.invokevirtual 60, 3) := by decide +kernel
theorem dL_law_513 : decode cL_law 513 = .ok (.aload_n 2, 1) := by decide +kernel
theorem dL_law_514 : decode cL_law 514 = .ok (.aload_n 0, 1) := by decide +kernel
theorem dL_law_515 : decode cL_law 515 = .ok (.iload_n 3, 1) := by decide +kernel
theorem dL_law_516 : decode cL_law 516 = .ok (.iconst 1, 1) := by decide +kernel
theorem dL_law_517 : decode cL_law 517 = .ok (.iadd, 1) := by decide +kernel
theorem dL_law_518 : decode cL_law 518 = .ok (.iaload, 1) := by decide +kernel
theorem dL_law_519 : decode cL_law 519 = .ok (.aload_n 0, 1) := by decide +kernel
theorem dL_law_520 : decode cL_law 520 = .ok (.iload_n 3, 1) := by decide +kernel
theorem dL_law_521 : decode cL_law 521 = .ok (.iconst 2, 1) := by decide +kernel
theorem dL_law_522 : decode cL_law 522 = .ok (.iadd, 1) := by decide +kernel
theorem dL_law_523 : decode cL_law 523 = .ok (.iaload, 1) := by decide +kernel
theorem dL_law_524 : decode cL_law 524 = .ok (.invokevirtual 63, 3) := by decide +kernel
theorem dL_law_527 : decode cL_law 527 = .ok (.if_icmp .eq 841, 3) := by decide +kernel
theorem dL_law_530 : decode cL_law 530 = .ok (.iconst 0, 1) := by decide +kernel
theorem dL_law_531 : decode cL_law 531 = .ok (.ireturn, 1) := by decide +kernel
theorem dL_law_532 : decode cL_law 532 = .ok (.aload_n 1, 1) := by decide +kernel
theorem dL_law_533 : decode cL_law 533 = .ok (.aload_n 0, 1) := by decide +kernel
theorem dL_law_534 : decode cL_law 534 = .ok (.iload_n 3, 1) := by decide +kernel
theorem dL_law_535 : decode cL_law 535 = .ok (.iconst 1, 1) := by decide +kernel
theorem dL_law_536 : decode cL_law 536 = .ok (.iadd, 1) := by decide +kernel
theorem dL_law_537 : decode cL_law 537 = .ok (.iaload, 1) := by decide +kernel
theorem dL_law_538 : decode cL_law 538 = .ok (.aload_n 0, 1) := by decide +kernel
theorem dL_law_539 : decode cL_law 539 = .ok (.iload_n 3, 1) := by decide +kernel
theorem dL_law_540 : decode cL_law 540 = .ok (.iconst 2, 1) := by decide +kernel
theorem dL_law_541 : decode cL_law 541 = .ok (.iadd, 1) := by decide +kernel
theorem dL_law_542 : decode cL_law 542 = .ok (.iaload, 1) := by decide +kernel
theorem dL_law_543 : decode cL_law 543 = .ok (.invokevirtual 64, 3) := by decide +kernel
theorem dL_law_546 : decode cL_law 546 = .ok (.aload_n 2, 1) := by decide +kernel
theorem dL_law_547 : decode cL_law 547 = .ok (.aload_n 0, 1) := by decide +kernel
theorem dL_law_548 : decode cL_law 548 = .ok (.iload_n 3, 1) := by decide +kernel
theorem dL_law_549 : decode cL_law 549 = .ok (.iconst 1, 1) := by decide +kernel
theorem dL_law_550 : decode cL_law 550 = .ok (.iadd, 1) := by decide +kernel
theorem dL_law_551 : decode cL_law 551 = .ok (.iaload, 1) := by decide +kernel
theorem dL_law_552 : decode cL_law 552 = .ok (.aload_n 0, 1) := by decide +kernel
theorem dL_law_553 : decode cL_law 553 = .ok (.iload_n 3, 1) := by decide +kernel
theorem dL_law_554 : decode cL_law 554 = .ok (.iconst 2, 1) := by decide +kernel
theorem dL_law_555 : decode cL_law 555 = .ok (.iadd, 1) := by decide +kernel
theorem dL_law_556 : decode cL_law 556 = .ok (.iaload, 1) := by decide +kernel
theorem dL_law_557 : decode cL_law 557 = .ok (.invokevirtual 67, 3) := by decide +kernel
theorem dL_law_560 : decode cL_law 560 = .ok (.if_icmp .eq 808, 3) := by decide +kernel
theorem dL_law_563 : decode cL_law 563 = .ok (.iconst 0, 1) := by decide +kernel
theorem dL_law_564 : decode cL_law 564 = .ok (.ireturn, 1) := by decide +kernel
theorem dL_law_565 : decode cL_law 565 = .ok (.aload_n 1, 1) := by decide +kernel
theorem dL_law_566 : decode cL_law 566 = .ok (.aload_n 0, 1) := by decide +kernel
theorem dL_law_567 : decode cL_law 567 = .ok (.iload_n 3, 1) := by decide +kernel
theorem dL_law_568 : decode cL_law 568 = .ok (.iconst 1, 1) := by decide +kernel
theorem dL_law_569 : decode cL_law 569 = .ok (.iadd, 1) := by decide +kernel
theorem dL_law_570 : decode cL_law 570 = .ok (.iaload, 1) := by decide +kernel
theorem dL_law_571 : decode cL_law 571 = .ok (.ifCond .eq 7, 3) := by decide +kernel
theorem dL_law_574 : decode cL_law 574 = .ok (.iconst 1, 1) := by decide +kernel
theorem dL_law_575 : decode cL_law 575 = .ok (.goto 4, 3) := by decide +kernel
theorem dL_law_578 : decode cL_law 578 = .ok (.iconst 0, 1) := by decide +kernel
theorem dL_law_579 : decode cL_law 579 = .ok (.invokevirtual 68, 3) := by decide +kernel
theorem dL_law_582 : decode cL_law 582 = .ok (.aload_n 2, 1) := by decide +kernel
theorem dL_law_583 : decode cL_law 583 = .ok (.aload_n 0, 1) := by decide +kernel
theorem dL_law_584 : decode cL_law 584 = .ok (.iload_n 3, 1) := by decide +kernel
theorem dL_law_585 : decode cL_law 585 = .ok (.iconst 1, 1) := by decide +kernel
theorem dL_law_586 : decode cL_law 586 = .ok (.iadd, 1) := by decide +kernel
theorem dL_law_587 : decode cL_law 587 = .ok (.iaload, 1) := by decide +kernel
theorem dL_law_588 : decode cL_law 588 = .ok (.ifCond .eq 7, 3) := by decide +kernel
theorem dL_law_591 : decode cL_law 591 = .ok (.iconst 1, 1) := by decide +kernel
theorem dL_law_592 : decode cL_law 592 = .ok (.goto 4, 3) := by decide +kernel
theorem dL_law_595 : decode cL_law 595 = .ok (.iconst 0, 1) := by decide +kernel
theorem dL_law_596 : decode cL_law 596 = .ok (.invokevirtual 72, 3) := by decide +kernel
theorem dL_law_599 : decode cL_law 599 = .ok (.if_icmp .eq 769, 3) := by decide +kernel
theorem dL_law_602 : decode cL_law 602 = .ok (.iconst 0, 1) := by decide +kernel
theorem dL_law_603 : decode cL_law 603 = .ok (.ireturn, 1) := by decide +kernel
theorem dL_law_604 : decode cL_law 604 = .ok (.aload_n 1, 1) := by decide +kernel
theorem dL_law_605 : decode cL_law 605 = .ok (.aload_n 0, 1) := by decide +kernel
theorem dL_law_606 : decode cL_law 606 = .ok (.iload_n 3, 1) := by decide +kernel
theorem dL_law_607 : decode cL_law 607 = .ok (.iconst 1, 1) := by decide +kernel
theorem dL_law_608 : decode cL_law 608 = .ok (.iadd, 1) := by decide +kernel
theorem dL_law_609 : decode cL_law 609 = .ok (.iaload, 1) := by decide +kernel
theorem dL_law_610 : decode cL_law 610 = .ok (.invokevirtual 73, 3) := by decide +kernel
theorem dL_law_613 : decode cL_law 613 = .ok (.aload_n 2, 1) := by decide +kernel
theorem dL_law_614 : decode cL_law 614 = .ok (.aload_n 0, 1) := by decide +kernel
theorem dL_law_615 : decode cL_law 615 = .ok (.iload_n 3, 1) := by decide +kernel
theorem dL_law_616 : decode cL_law 616 = .ok (.iconst 1, 1) := by decide +kernel
theorem dL_law_617 : decode cL_law 617 = .ok (.iadd, 1) := by decide +kernel
theorem dL_law_618 : decode cL_law 618 = .ok (.iaload, 1) := by decide +kernel
theorem dL_law_619 : decode cL_law 619 = .ok (.invokevirtual 76, 3) := by decide +kernel
theorem dL_law_622 : decode cL_law 622 = .ok (.if_icmp .eq 746, 3) := by decide +kernel
theorem dL_law_625 : decode cL_law 625 = .ok (.iconst 0, 1) := by decide +kernel
theorem dL_law_626 : decode cL_law 626 = .ok (.ireturn, 1) := by decide +kernel
theorem dL_law_627 : decode cL_law 627 = .ok (.aload_n 1, 1) := by decide +kernel
theorem dL_law_628 : decode cL_law 628 = .ok (.aload_n 0, 1) := by decide +kernel
theorem dL_law_629 : decode cL_law 629 = .ok (.iload_n 3, 1) := by decide +kernel
theorem dL_law_630 : decode cL_law 630 = .ok (.iconst 1, 1) := by decide +kernel
theorem dL_law_631 : decode cL_law 631 = .ok (.iadd, 1) := by decide +kernel
theorem dL_law_632 : decode cL_law 632 = .ok (.iaload, 1) := by decide +kernel
theorem dL_law_633 : decode cL_law 633 = .ok (.invokevirtual 77, 3) := by decide +kernel
theorem dL_law_636 : decode cL_law 636 = .ok (.aload_n 2, 1) := by decide +kernel
theorem dL_law_637 : decode cL_law 637 = .ok (.aload_n 0, 1) := by decide +kernel
theorem dL_law_638 : decode cL_law 638 = .ok (.iload_n 3, 1) := by decide +kernel
theorem dL_law_639 : decode cL_law 639 = .ok (.iconst 1, 1) := by decide +kernel
theorem dL_law_640 : decode cL_law 640 = .ok (.iadd, 1) := by decide +kernel
theorem dL_law_641 : decode cL_law 641 = .ok (.iaload, 1) := by decide +kernel
theorem dL_law_642 : decode cL_law 642 = .ok (.invokevirtual 80, 3) := by decide +kernel
theorem dL_law_645 : decode cL_law 645 = .ok (.if_icmp .eq 723, 3) := by decide +kernel
theorem dL_law_648 : decode cL_law 648 = .ok (.iconst 0, 1) := by decide +kernel
theorem dL_law_649 : decode cL_law 649 = .ok (.ireturn, 1) := by decide +kernel
theorem dL_law_650 : decode cL_law 650 = .ok (.aload_n 1, 1) := by decide +kernel
theorem dL_law_651 : decode cL_law 651 = .ok (.aload_n 0, 1) := by decide +kernel
theorem dL_law_652 : decode cL_law 652 = .ok (.iload_n 3, 1) := by decide +kernel
theorem dL_law_653 : decode cL_law 653 = .ok (.iconst 1, 1) := by decide +kernel
theorem dL_law_654 : decode cL_law 654 = .ok (.iadd, 1) := by decide +kernel
theorem dL_law_655 : decode cL_law 655 = .ok (.iaload, 1) := by decide +kernel
theorem dL_law_656 : decode cL_law 656 = .ok (.aload_n 0, 1) := by decide +kernel
theorem dL_law_657 : decode cL_law 657 = .ok (.iload_n 3, 1) := by decide +kernel
theorem dL_law_658 : decode cL_law 658 = .ok (.iconst 2, 1) := by decide +kernel
theorem dL_law_659 : decode cL_law 659 = .ok (.iadd, 1) := by decide +kernel
theorem dL_law_660 : decode cL_law 660 = .ok (.iaload, 1) := by decide +kernel
theorem dL_law_661 : decode cL_law 661 = .ok (.invokevirtual 81, 3) := by decide +kernel
theorem dL_law_664 : decode cL_law 664 = .ok (.aload_n 2, 1) := by decide +kernel
theorem dL_law_665 : decode cL_law 665 = .ok (.aload_n 0, 1) := by decide +kernel
theorem dL_law_666 : decode cL_law 666 = .ok (.iload_n 3, 1) := by decide +kernel
theorem dL_law_667 : decode cL_law 667 = .ok (.iconst 1, 1) := by decide +kernel
theorem dL_law_668 : decode cL_law 668 = .ok (.iadd, 1) := by decide +kernel
theorem dL_law_669 : decode cL_law 669 = .ok (.iaload, 1) := by decide +kernel
theorem dL_law_670 : decode cL_law 670 = .ok (.aload_n 0, 1) := by decide +kernel
theorem dL_law_671 : decode cL_law 671 = .ok (.iload_n 3, 1) := by decide +kernel
theorem dL_law_672 : decode cL_law 672 = .ok (.iconst 2, 1) := by decide +kernel
theorem dL_law_673 : decode cL_law 673 = .ok (.iadd, 1) := by decide +kernel
theorem dL_law_674 : decode cL_law 674 = .ok (.iaload, 1) := by decide +kernel
theorem dL_law_675 : decode cL_law 675 = .ok (.invokevirtual 84, 3) := by decide +kernel
theorem dL_law_678 : decode cL_law 678 = .ok (.if_icmp .eq 690, 3) := by decide +kernel
theorem dL_law_681 : decode cL_law 681 = .ok (.iconst 0, 1) := by decide +kernel
theorem dL_law_682 : decode cL_law 682 = .ok (.ireturn, 1) := by decide +kernel
theorem dL_law_683 : decode cL_law 683 = .ok (.aload_n 1, 1) := by decide +kernel
theorem dL_law_684 : decode cL_law 684 = .ok (.aload_n 0, 1) := by decide +kernel
theorem dL_law_685 : decode cL_law 685 = .ok (.iload_n 3, 1) := by decide +kernel
theorem dL_law_686 : decode cL_law 686 = .ok (.iconst 1, 1) := by decide +kernel
theorem dL_law_687 : decode cL_law 687 = .ok (.iadd, 1) := by decide +kernel
theorem dL_law_688 : decode cL_law 688 = .ok (.iaload, 1) := by decide +kernel
theorem dL_law_689 : decode cL_law 689 = .ok (.aload_n 0, 1) := by decide +kernel
theorem dL_law_690 : decode cL_law 690 = .ok (.iload_n 3, 1) := by decide +kernel
theorem dL_law_691 : decode cL_law 691 = .ok (.iconst 2, 1) := by decide +kernel
theorem dL_law_692 : decode cL_law 692 = .ok (.iadd, 1) := by decide +kernel
theorem dL_law_693 : decode cL_law 693 = .ok (.iaload, 1) := by decide +kernel
theorem dL_law_694 : decode cL_law 694 = .ok (.invokevirtual 85, 3) := by decide +kernel
theorem dL_law_697 : decode cL_law 697 = .ok (.aload_n 2, 1) := by decide +kernel
theorem dL_law_698 : decode cL_law 698 = .ok (.aload_n 0, 1) := by decide +kernel
theorem dL_law_699 : decode cL_law 699 = .ok (.iload_n 3, 1) := by decide +kernel
theorem dL_law_700 : decode cL_law 700 = .ok (.iconst 1, 1) := by decide +kernel
theorem dL_law_701 : decode cL_law 701 = .ok (.iadd, 1) := by decide +kernel
theorem dL_law_702 : decode cL_law 702 = .ok (.iaload, 1) := by decide +kernel
theorem dL_law_703 : decode cL_law 703 = .ok (.aload_n 0, 1) := by decide +kernel
theorem dL_law_704 : decode cL_law 704 = .ok (.iload_n 3, 1) := by decide +kernel
theorem dL_law_705 : decode cL_law 705 = .ok (.iconst 2, 1) := by decide +kernel
theorem dL_law_706 : decode cL_law 706 = .ok (.iadd, 1) := by decide +kernel
theorem dL_law_707 : decode cL_law 707 = .ok (.iaload, 1) := by decide +kernel
theorem dL_law_708 : decode cL_law 708 = .ok (.invokevirtual 88, 3) := by decide +kernel
theorem dL_law_711 : decode cL_law 711 = .ok (.if_icmp .eq 657, 3) := by decide +kernel
theorem dL_law_714 : decode cL_law 714 = .ok (.iconst 0, 1) := by decide +kernel
theorem dL_law_715 : decode cL_law 715 = .ok (.ireturn, 1) := by decide +kernel
theorem dL_law_716 : decode cL_law 716 = .ok (.aload_n 1, 1) := by decide +kernel
theorem dL_law_717 : decode cL_law 717 = .ok (.aload_n 0, 1) := by decide +kernel
theorem dL_law_718 : decode cL_law 718 = .ok (.iload_n 3, 1) := by decide +kernel
theorem dL_law_719 : decode cL_law 719 = .ok (.iconst 1, 1) := by decide +kernel
theorem dL_law_720 : decode cL_law 720 = .ok (.iadd, 1) := by decide +kernel
theorem dL_law_721 : decode cL_law 721 = .ok (.iaload, 1) := by decide +kernel
theorem dL_law_722 : decode cL_law 722 = .ok (.invokevirtual 89, 3) := by decide +kernel
theorem dL_law_725 : decode cL_law 725 = .ok (.aload_n 2, 1) := by decide +kernel
theorem dL_law_726 : decode cL_law 726 = .ok (.aload_n 0, 1) := by decide +kernel
theorem dL_law_727 : decode cL_law 727 = .ok (.iload_n 3, 1) := by decide +kernel
theorem dL_law_728 : decode cL_law 728 = .ok (.iconst 1, 1) := by decide +kernel
theorem dL_law_729 : decode cL_law 729 = .ok (.iadd, 1) := by decide +kernel
theorem dL_law_730 : decode cL_law 730 = .ok (.iaload, 1) := by decide +kernel
theorem dL_law_731 : decode cL_law 731 = .ok (.invokevirtual 92, 3) := by decide +kernel
theorem dL_law_734 : decode cL_law 734 = .ok (.if_icmp .eq 634, 3) := by decide +kernel
theorem dL_law_737 : decode cL_law 737 = .ok (.iconst 0, 1) := by decide +kernel
theorem dL_law_738 : decode cL_law 738 = .ok (.ireturn, 1) := by decide +kernel
theorem dL_law_739 : decode cL_law 739 = .ok (.aload_n 1, 1) := by decide +kernel
theorem dL_law_740 : decode cL_law 740 = .ok (.invokevirtual 93, 3) := by decide +kernel
theorem dL_law_743 : decode cL_law 743 = .ok (.aload_n 2, 1) := by decide +kernel
theorem dL_law_744 : decode cL_law 744 = .ok (.invokevirtual 96, 3) := by decide +kernel
theorem dL_law_747 : decode cL_law 747 = .ok (.if_icmp .eq 621, 3) := by decide +kernel
theorem dL_law_750 : decode cL_law 750 = .ok (.iconst 0, 1) := by decide +kernel
theorem dL_law_751 : decode cL_law 751 = .ok (.ireturn, 1) := by decide +kernel
theorem dL_law_752 : decode cL_law 752 = .ok (.aload_n 1, 1) := by decide +kernel
theorem dL_law_753 : decode cL_law 753 = .ok (.aload_n 0, 1) := by decide +kernel
theorem dL_law_754 : decode cL_law 754 = .ok (.iload_n 3, 1) := by decide +kernel
theorem dL_law_755 : decode cL_law 755 = .ok (.iconst 1, 1) := by decide +kernel
theorem dL_law_756 : decode cL_law 756 = .ok (.iadd, 1) := by decide +kernel
theorem dL_law_757 : decode cL_law 757 = .ok (.iaload, 1) := by decide +kernel
theorem dL_law_758 : decode cL_law 758 = .ok (.aload_n 0, 1) := by decide +kernel
theorem dL_law_759 : decode cL_law 759 = .ok (.iload_n 3, 1) := by decide +kernel
theorem dL_law_760 : decode cL_law 760 = .ok (.iconst 2, 1) := by decide +kernel
theorem dL_law_761 : decode cL_law 761 = .ok (.iadd, 1) := by decide +kernel
theorem dL_law_762 : decode cL_law 762 = .ok (.iaload, 1) := by decide +kernel
theorem dL_law_763 : decode cL_law 763 = .ok (.invokevirtual 97, 3) := by decide +kernel
theorem dL_law_766 : decode cL_law 766 = .ok (.aload_n 2, 1) := by decide +kernel
theorem dL_law_767 : decode cL_law 767 = .ok (.aload_n 0, 1) := by decide +kernel
theorem dL_law_768 : decode cL_law 768 = .ok (.iload_n 3, 1) := by decide +kernel
theorem dL_law_769 : decode cL_law 769 = .ok (.iconst 1, 1) := by decide +kernel
theorem dL_law_770 : decode cL_law 770 = .ok (.iadd, 1) := by decide +kernel
theorem dL_law_771 : decode cL_law 771 = .ok (.iaload, 1) := by decide +kernel
theorem dL_law_772 : decode cL_law 772 = .ok (.aload_n 0, 1) := by decide +kernel
theorem dL_law_773 : decode cL_law 773 = .ok (.iload_n 3, 1) := by decide +kernel
theorem dL_law_774 : decode cL_law 774 = .ok (.iconst 2, 1) := by decide +kernel
theorem dL_law_775 : decode cL_law 775 = .ok (.iadd, 1) := by decide +kernel
theorem dL_law_776 : decode cL_law 776 = .ok (.iaload, 1) := by decide +kernel
theorem dL_law_777 : decode cL_law 777 = .ok (.invokevirtual 100, 3) := by decide +kernel
theorem dL_law_780 : decode cL_law 780 = .ok (.if_icmp .eq 588, 3) := by decide +kernel
theorem dL_law_783 : decode cL_law 783 = .ok (.iconst 0, 1) := by decide +kernel
theorem dL_law_784 : decode cL_law 784 = .ok (.ireturn, 1) := by decide +kernel
theorem dL_law_785 : decode cL_law 785 = .ok (.aload_n 1, 1) := by decide +kernel
theorem dL_law_786 : decode cL_law 786 = .ok (.aload_n 0, 1) := by decide +kernel
theorem dL_law_787 : decode cL_law 787 = .ok (.iload_n 3, 1) := by decide +kernel
theorem dL_law_788 : decode cL_law 788 = .ok (.iconst 1, 1) := by decide +kernel
theorem dL_law_789 : decode cL_law 789 = .ok (.iadd, 1) := by decide +kernel
theorem dL_law_790 : decode cL_law 790 = .ok (.iaload, 1) := by decide +kernel
theorem dL_law_791 : decode cL_law 791 = .ok (.aload_n 0, 1) := by decide +kernel
theorem dL_law_792 : decode cL_law 792 = .ok (.iload_n 3, 1) := by decide +kernel
theorem dL_law_793 : decode cL_law 793 = .ok (.iconst 2, 1) := by decide +kernel
theorem dL_law_794 : decode cL_law 794 = .ok (.iadd, 1) := by decide +kernel
theorem dL_law_795 : decode cL_law 795 = .ok (.iaload, 1) := by decide +kernel
theorem dL_law_796 : decode cL_law 796 = .ok (.invokevirtual 101, 3) := by decide +kernel
theorem dL_law_799 : decode cL_law 799 = .ok (.aload_n 2, 1) := by decide +kernel
theorem dL_law_800 : decode cL_law 800 = .ok (.aload_n 0, 1) := by decide +kernel
theorem dL_law_801 : decode cL_law 801 = .ok (.iload_n 3, 1) := by decide +kernel
theorem dL_law_802 : decode cL_law 802 = .ok (.iconst 1, 1) := by decide +kernel
theorem dL_law_803 : decode cL_law 803 = .ok (.iadd, 1) := by decide +kernel
theorem dL_law_804 : decode cL_law 804 = .ok (.iaload, 1) := by decide +kernel
theorem dL_law_805 : decode cL_law 805 = .ok (.aload_n 0, 1) := by decide +kernel
theorem dL_law_806 : decode cL_law 806 = .ok (.iload_n 3, 1) := by decide +kernel
theorem dL_law_807 : decode cL_law 807 = .ok (.iconst 2, 1) := by decide +kernel
theorem dL_law_808 : decode cL_law 808 = .ok (.iadd, 1) := by decide +kernel
theorem dL_law_809 : decode cL_law 809 = .ok (.iaload, 1) := by decide +kernel
theorem dL_law_810 : decode cL_law 810 = .ok (.invokevirtual 104, 3) := by decide +kernel
theorem dL_law_813 : decode cL_law 813 = .ok (.if_icmp .eq 555, 3) := by decide +kernel
theorem dL_law_816 : decode cL_law 816 = .ok (.iconst 0, 1) := by decide +kernel
theorem dL_law_817 : decode cL_law 817 = .ok (.ireturn, 1) := by decide +kernel
theorem dL_law_818 : decode cL_law 818 = .ok (.aload_n 1, 1) := by decide +kernel
theorem dL_law_819 : decode cL_law 819 = .ok (.aload_n 0, 1) := by decide +kernel
theorem dL_law_820 : decode cL_law 820 = .ok (.iload_n 3, 1) := by decide +kernel
theorem dL_law_821 : decode cL_law 821 = .ok (.iconst 1, 1) := by decide +kernel
theorem dL_law_822 : decode cL_law 822 = .ok (.iadd, 1) := by decide +kernel
theorem dL_law_823 : decode cL_law 823 = .ok (.iaload, 1) := by decide +kernel
theorem dL_law_824 : decode cL_law 824 = .ok (.aload_n 0, 1) := by decide +kernel
theorem dL_law_825 : decode cL_law 825 = .ok (.iload_n 3, 1) := by decide +kernel
theorem dL_law_826 : decode cL_law 826 = .ok (.iconst 2, 1) := by decide +kernel
theorem dL_law_827 : decode cL_law 827 = .ok (.iadd, 1) := by decide +kernel
theorem dL_law_828 : decode cL_law 828 = .ok (.iaload, 1) := by decide +kernel
theorem dL_law_829 : decode cL_law 829 = .ok (.aload_n 0, 1) := by decide +kernel
theorem dL_law_830 : decode cL_law 830 = .ok (.iload_n 3, 1) := by decide +kernel
theorem dL_law_831 : decode cL_law 831 = .ok (.iconst 3, 1) := by decide +kernel
theorem dL_law_832 : decode cL_law 832 = .ok (.iadd, 1) := by decide +kernel
theorem dL_law_833 : decode cL_law 833 = .ok (.iaload, 1) := by decide +kernel
theorem dL_law_834 : decode cL_law 834 = .ok (.invokevirtual 105, 3) := by decide +kernel
theorem dL_law_837 : decode cL_law 837 = .ok (.aload_n 2, 1) := by decide +kernel
theorem dL_law_838 : decode cL_law 838 = .ok (.aload_n 0, 1) := by decide +kernel
theorem dL_law_839 : decode cL_law 839 = .ok (.iload_n 3, 1) := by decide +kernel
theorem dL_law_840 : decode cL_law 840 = .ok (.iconst 1, 1) := by decide +kernel
theorem dL_law_841 : decode cL_law 841 = .ok (.iadd, 1) := by decide +kernel
theorem dL_law_842 : decode cL_law 842 = .ok (.iaload, 1) := by decide +kernel
theorem dL_law_843 : decode cL_law 843 = .ok (.aload_n 0, 1) := by decide +kernel
theorem dL_law_844 : decode cL_law 844 = .ok (.iload_n 3, 1) := by decide +kernel
theorem dL_law_845 : decode cL_law 845 = .ok (.iconst 2, 1) := by decide +kernel
theorem dL_law_846 : decode cL_law 846 = .ok (.iadd, 1) := by decide +kernel
theorem dL_law_847 : decode cL_law 847 = .ok (.iaload, 1) := by decide +kernel
theorem dL_law_848 : decode cL_law 848 = .ok (.aload_n 0, 1) := by decide +kernel
theorem dL_law_849 : decode cL_law 849 = .ok (.iload_n 3, 1) := by decide +kernel
theorem dL_law_850 : decode cL_law 850 = .ok (.iconst 3, 1) := by decide +kernel
theorem dL_law_851 : decode cL_law 851 = .ok (.iadd, 1) := by decide +kernel
theorem dL_law_852 : decode cL_law 852 = .ok (.iaload, 1) := by decide +kernel
theorem dL_law_853 : decode cL_law 853 = .ok (.invokevirtual 109, 3) := by decide +kernel
theorem dL_law_856 : decode cL_law 856 = .ok (.if_icmp .eq 512, 3) := by decide +kernel
theorem dL_law_859 : decode cL_law 859 = .ok (.iconst 0, 1) := by decide +kernel
theorem dL_law_860 : decode cL_law 860 = .ok (.ireturn, 1) := by decide +kernel
theorem dL_law_861 : decode cL_law 861 = .ok (.aload_n 1, 1) := by decide +kernel
theorem dL_law_862 : decode cL_law 862 = .ok (.aload_n 0, 1) := by decide +kernel
theorem dL_law_863 : decode cL_law 863 = .ok (.iload_n 3, 1) := by decide +kernel
theorem dL_law_864 : decode cL_law 864 = .ok (.iconst 1, 1) := by decide +kernel
theorem dL_law_865 : decode cL_law 865 = .ok (.iadd, 1) := by decide +kernel
theorem dL_law_866 : decode cL_law 866 = .ok (.iaload, 1) := by decide +kernel
theorem dL_law_867 : decode cL_law 867 = .ok (.invokevirtual 110, 3) := by decide +kernel
theorem dL_law_870 : decode cL_law 870 = .ok (.aload_n 2, 1) := by decide +kernel
theorem dL_law_871 : decode cL_law 871 = .ok (.aload_n 0, 1) := by decide +kernel
theorem dL_law_872 : decode cL_law 872 = .ok (.iload_n 3, 1) := by decide +kernel
theorem dL_law_873 : decode cL_law 873 = .ok (.iconst 1, 1) := by decide +kernel
theorem dL_law_874 : decode cL_law 874 = .ok (.iadd, 1) := by decide +kernel
theorem dL_law_875 : decode cL_law 875 = .ok (.iaload, 1) := by decide +kernel
theorem dL_law_876 : decode cL_law 876 = .ok (.invokevirtual 113, 3) := by decide +kernel
theorem dL_law_879 : decode cL_law 879 = .ok (.if_icmp .eq 489, 3) := by decide +kernel
theorem dL_law_882 : decode cL_law 882 = .ok (.iconst 0, 1) := by decide +kernel
theorem dL_law_883 : decode cL_law 883 = .ok (.ireturn, 1) := by decide +kernel
theorem dL_law_884 : decode cL_law 884 = .ok (.aload_n 1, 1) := by decide +kernel
theorem dL_law_885 : decode cL_law 885 = .ok (.aload_n 0, 1) := by decide +kernel
theorem dL_law_886 : decode cL_law 886 = .ok (.iload_n 3, 1) := by decide +kernel
theorem dL_law_887 : decode cL_law 887 = .ok (.iconst 1, 1) := by decide +kernel
theorem dL_law_888 : decode cL_law 888 = .ok (.iadd, 1) := by decide +kernel
theorem dL_law_889 : decode cL_law 889 = .ok (.iaload, 1) := by decide +kernel
theorem dL_law_890 : decode cL_law 890 = .ok (.invokevirtual 114, 3) := by decide +kernel
theorem dL_law_893 : decode cL_law 893 = .ok (.aload_n 2, 1) := by decide +kernel
theorem dL_law_894 : decode cL_law 894 = .ok (.aload_n 0, 1) := by decide +kernel
theorem dL_law_895 : decode cL_law 895 = .ok (.iload_n 3, 1) := by decide +kernel
theorem dL_law_896 : decode cL_law 896 = .ok (.iconst 1, 1) := by decide +kernel
theorem dL_law_897 : decode cL_law 897 = .ok (.iadd, 1) := by decide +kernel
theorem dL_law_898 : decode cL_law 898 = .ok (.iaload, 1) := by decide +kernel
theorem dL_law_899 : decode cL_law 899 = .ok (.invokevirtual 117, 3) := by decide +kernel
theorem dL_law_902 : decode cL_law 902 = .ok (.if_icmp .eq 466, 3) := by decide +kernel
theorem dL_law_905 : decode cL_law 905 = .ok (.iconst 0, 1) := by decide +kernel
theorem dL_law_906 : decode cL_law 906 = .ok (.ireturn, 1) := by decide +kernel
theorem dL_law_907 : decode cL_law 907 = .ok (.aload_n 1, 1) := by decide +kernel
theorem dL_law_908 : decode cL_law 908 = .ok (.aload_n 0, 1) := by decide +kernel
theorem dL_law_909 : decode cL_law 909 = .ok (.iload_n 3, 1) := by decide +kernel
theorem dL_law_910 : decode cL_law 910 = .ok (.iconst 1, 1) := by decide +kernel
theorem dL_law_911 : decode cL_law 911 = .ok (.iadd, 1) := by decide +kernel
theorem dL_law_912 : decode cL_law 912 = .ok (.iaload, 1) := by decide +kernel
theorem dL_law_913 : decode cL_law 913 = .ok (.invokevirtual 118, 3) := by decide +kernel
theorem dL_law_916 : decode cL_law 916 = .ok (.aload_n 2, 1) := by decide +kernel
theorem dL_law_917 : decode cL_law 917 = .ok (.aload_n 0, 1) := by decide +kernel
theorem dL_law_918 : decode cL_law 918 = .ok (.iload_n 3, 1) := by decide +kernel
theorem dL_law_919 : decode cL_law 919 = .ok (.iconst 1, 1) := by decide +kernel
theorem dL_law_920 : decode cL_law 920 = .ok (.iadd, 1) := by decide +kernel
theorem dL_law_921 : decode cL_law 921 = .ok (.iaload, 1) := by decide +kernel
theorem dL_law_922 : decode cL_law 922 = .ok (.invokevirtual 121, 3) := by decide +kernel
theorem dL_law_925 : decode cL_law 925 = .ok (.if_icmp .eq 443, 3) := by decide +kernel
theorem dL_law_928 : decode cL_law 928 = .ok (.iconst 0, 1) := by decide +kernel
theorem dL_law_929 : decode cL_law 929 = .ok (.ireturn, 1) := by decide +kernel
theorem dL_law_930 : decode cL_law 930 = .ok (.aload_n 1, 1) := by decide +kernel
theorem dL_law_931 : decode cL_law 931 = .ok (.invokevirtual 122, 3) := by decide +kernel
theorem dL_law_934 : decode cL_law 934 = .ok (.aload_n 2, 1) := by decide +kernel
theorem dL_law_935 : decode cL_law 935 = .ok (.invokevirtual 125, 3) := by decide +kernel
theorem dL_law_938 : decode cL_law 938 = .ok (.if_icmp .eq 430, 3) := by decide +kernel
theorem dL_law_941 : decode cL_law 941 = .ok (.iconst 0, 1) := by decide +kernel
theorem dL_law_942 : decode cL_law 942 = .ok (.ireturn, 1) := by decide +kernel
theorem dL_law_943 : decode cL_law 943 = .ok (.aload_n 1, 1) := by decide +kernel
theorem dL_law_944 : decode cL_law 944 = .ok (.aload_n 0, 1) := by decide +kernel
theorem dL_law_945 : decode cL_law 945 = .ok (.iload_n 3, 1) := by decide +kernel
theorem dL_law_946 : decode cL_law 946 = .ok (.iconst 1, 1) := by decide +kernel
theorem dL_law_947 : decode cL_law 947 = .ok (.iadd, 1) := by decide +kernel
theorem dL_law_948 : decode cL_law 948 = .ok (.iaload, 1) := by decide +kernel
theorem dL_law_949 : decode cL_law 949 = .ok (.invokevirtual 126, 3) := by decide +kernel
theorem dL_law_952 : decode cL_law 952 = .ok (.aload_n 2, 1) := by decide +kernel
theorem dL_law_953 : decode cL_law 953 = .ok (.aload_n 0, 1) := by decide +kernel
theorem dL_law_954 : decode cL_law 954 = .ok (.iload_n 3, 1) := by decide +kernel
theorem dL_law_955 : decode cL_law 955 = .ok (.iconst 1, 1) := by decide +kernel
theorem dL_law_956 : decode cL_law 956 = .ok (.iadd, 1) := by decide +kernel
theorem dL_law_957 : decode cL_law 957 = .ok (.iaload, 1) := by decide +kernel
theorem dL_law_958 : decode cL_law 958 = .ok (.invokevirtual 129, 3) := by decide +kernel
theorem dL_law_961 : decode cL_law 961 = .ok (.if_icmp .eq 407, 3) := by decide +kernel
theorem dL_law_964 : decode cL_law 964 = .ok (.iconst 0, 1) := by decide +kernel
theorem dL_law_965 : decode cL_law 965 = .ok (.ireturn, 1) := by decide +kernel
theorem dL_law_966 : decode cL_law 966 = .ok (.aload_n 1, 1) := by decide +kernel
theorem dL_law_967 : decode cL_law 967 = .ok (.aload_n 0, 1) := by decide +kernel
theorem dL_law_968 : decode cL_law 968 = .ok (.iload_n 3, 1) := by decide +kernel
theorem dL_law_969 : decode cL_law 969 = .ok (.iconst 1, 1) := by decide +kernel
theorem dL_law_970 : decode cL_law 970 = .ok (.iadd, 1) := by decide +kernel
theorem dL_law_971 : decode cL_law 971 = .ok (.iaload, 1) := by decide +kernel
theorem dL_law_972 : decode cL_law 972 = .ok (.aload_n 0, 1) := by decide +kernel
theorem dL_law_973 : decode cL_law 973 = .ok (.iload_n 3, 1) := by decide +kernel
theorem dL_law_974 : decode cL_law 974 = .ok (.iconst 2, 1) := by decide +kernel
theorem dL_law_975 : decode cL_law 975 = .ok (.iadd, 1) := by decide +kernel
theorem dL_law_976 : decode cL_law 976 = .ok (.iaload, 1) := by decide +kernel
theorem dL_law_977 : decode cL_law 977 = .ok (.invokevirtual 130, 3) := by decide +kernel
theorem dL_law_980 : decode cL_law 980 = .ok (.aload_n 2, 1) := by decide +kernel
theorem dL_law_981 : decode cL_law 981 = .ok (.aload_n 0, 1) := by decide +kernel
theorem dL_law_982 : decode cL_law 982 = .ok (.iload_n 3, 1) := by decide +kernel
theorem dL_law_983 : decode cL_law 983 = .ok (.iconst 1, 1) := by decide +kernel
theorem dL_law_984 : decode cL_law 984 = .ok (.iadd, 1) := by decide +kernel
theorem dL_law_985 : decode cL_law 985 = .ok (.iaload, 1) := by decide +kernel
theorem dL_law_986 : decode cL_law 986 = .ok (.aload_n 0, 1) := by decide +kernel
theorem dL_law_987 : decode cL_law 987 = .ok (.iload_n 3, 1) := by decide +kernel
theorem dL_law_988 : decode cL_law 988 = .ok (.iconst 2, 1) := by decide +kernel
theorem dL_law_989 : decode cL_law 989 = .ok (.iadd, 1) := by decide +kernel
theorem dL_law_990 : decode cL_law 990 = .ok (.iaload, 1) := by decide +kernel
theorem dL_law_991 : decode cL_law 991 = .ok (.invokevirtual 133, 3) := by decide +kernel
theorem dL_law_994 : decode cL_law 994 = .ok (.if_icmp .eq 374, 3) := by decide +kernel
theorem dL_law_997 : decode cL_law 997 = .ok (.iconst 0, 1) := by decide +kernel
theorem dL_law_998 : decode cL_law 998 = .ok (.ireturn, 1) := by decide +kernel
theorem dL_law_999 : decode cL_law 999 = .ok (.aload_n 1, 1) := by decide +kernel
theorem dL_law_1000 : decode cL_law 1000 = .ok (.aload_n 0, 1) := by decide +kernel
theorem dL_law_1001 : decode cL_law 1001 = .ok (.iload_n 3, 1) := by decide +kernel
theorem dL_law_1002 : decode cL_law 1002 = .ok (.iconst 1, 1) := by decide +kernel
theorem dL_law_1003 : decode cL_law 1003 = .ok (.iadd, 1) := by decide +kernel
theorem dL_law_1004 : decode cL_law 1004 = .ok (.iaload, 1) := by decide +kernel
theorem dL_law_1005 : decode cL_law 1005 = .ok (.aload_n 0, 1) := by decide +kernel
theorem dL_law_1006 : decode cL_law 1006 = .ok (.iload_n 3, 1) := by decide +kernel
theorem dL_law_1007 : decode cL_law 1007 = .ok (.iconst 2, 1) := by decide +kernel
theorem dL_law_1008 : decode cL_law 1008 = .ok (.iadd, 1) := by decide +kernel
theorem dL_law_1009 : decode cL_law 1009 = .ok (.iaload, 1) := by decide +kernel
theorem dL_law_1010 : decode cL_law 1010 = .ok (.aload_n 0, 1) := by decide +kernel
theorem dL_law_1011 : decode cL_law 1011 = .ok (.iload_n 3, 1) := by decide +kernel
theorem dL_law_1012 : decode cL_law 1012 = .ok (.iconst 3, 1) := by decide +kernel
theorem dL_law_1013 : decode cL_law 1013 = .ok (.iadd, 1) := by decide +kernel
theorem dL_law_1014 : decode cL_law 1014 = .ok (.iaload, 1) := by decide +kernel
theorem dL_law_1015 : decode cL_law 1015 = .ok (.invokevirtual 134, 3) := by decide +kernel
theorem dL_law_1018 : decode cL_law 1018 = .ok (.aload_n 2, 1) := by decide +kernel
theorem dL_law_1019 : decode cL_law 1019 = .ok (.aload_n 0, 1) := by decide +kernel
theorem dL_law_1020 : decode cL_law 1020 = .ok (.iload_n 3, 1) := by decide +kernel
theorem dL_law_1021 : decode cL_law 1021 = .ok (.iconst 1, 1) := by decide +kernel
theorem dL_law_1022 : decode cL_law 1022 = .ok (.iadd, 1) := by decide +kernel
theorem dL_law_1023 : decode cL_law 1023 = .ok (.iaload, 1) := by decide +kernel
theorem dL_law_1024 : decode cL_law 1024 = .ok (.aload_n 0, 1) := by decide +kernel
theorem dL_law_1025 : decode cL_law 1025 = .ok (.iload_n 3, 1) := by decide +kernel
theorem dL_law_1026 : decode cL_law 1026 = .ok (.iconst 2, 1) := by decide +kernel
theorem dL_law_1027 : decode cL_law 1027 = .ok (.iadd, 1) := by decide +kernel
theorem dL_law_1028 : decode cL_law 1028 = .ok (.iaload, 1) := by decide +kernel
theorem dL_law_1029 : decode cL_law 1029 = .ok (.aload_n 0, 1) := by decide +kernel
theorem dL_law_1030 : decode cL_law 1030 = .ok (.iload_n 3, 1) := by decide +kernel
theorem dL_law_1031 : decode cL_law 1031 = .ok (.iconst 3, 1) := by decide +kernel
theorem dL_law_1032 : decode cL_law 1032 = .ok (.iadd, 1) := by decide +kernel
theorem dL_law_1033 : decode cL_law 1033 = .ok (.iaload, 1) := by decide +kernel
theorem dL_law_1034 : decode cL_law 1034 = .ok (.invokevirtual 137, 3) := by decide +kernel
theorem dL_law_1037 : decode cL_law 1037 = .ok (.if_icmp .eq 331, 3) := by decide +kernel
theorem dL_law_1040 : decode cL_law 1040 = .ok (.iconst 0, 1) := by decide +kernel
theorem dL_law_1041 : decode cL_law 1041 = .ok (.ireturn, 1) := by decide +kernel
theorem dL_law_1042 : decode cL_law 1042 = .ok (.aload_n 1, 1) := by decide +kernel
theorem dL_law_1043 : decode cL_law 1043 = .ok (.aload_n 0, 1) := by decide +kernel
theorem dL_law_1044 : decode cL_law 1044 = .ok (.iload_n 3, 1) := by decide +kernel
theorem dL_law_1045 : decode cL_law 1045 = .ok (.iconst 1, 1) := by decide +kernel
theorem dL_law_1046 : decode cL_law 1046 = .ok (.iadd, 1) := by decide +kernel
theorem dL_law_1047 : decode cL_law 1047 = .ok (.iaload, 1) := by decide +kernel
theorem dL_law_1048 : decode cL_law 1048 = .ok (.aload_n 0, 1) := by decide +kernel
theorem dL_law_1049 : decode cL_law 1049 = .ok (.iload_n 3, 1) := by decide +kernel
theorem dL_law_1050 : decode cL_law 1050 = .ok (.iconst 2, 1) := by decide +kernel
theorem dL_law_1051 : decode cL_law 1051 = .ok (.iadd, 1) := by decide +kernel
theorem dL_law_1052 : decode cL_law 1052 = .ok (.iaload, 1) := by decide +kernel
theorem dL_law_1053 : decode cL_law 1053 = .ok (.invokevirtual 138, 3) := by decide +kernel
theorem dL_law_1056 : decode cL_law 1056 = .ok (.aload_n 2, 1) := by decide +kernel
theorem dL_law_1057 : decode cL_law 1057 = .ok (.aload_n 0, 1) := by decide +kernel
theorem dL_law_1058 : decode cL_law 1058 = .ok (.iload_n 3, 1) := by decide +kernel
theorem dL_law_1059 : decode cL_law 1059 = .ok (.iconst 1, 1) := by decide +kernel
theorem dL_law_1060 : decode cL_law 1060 = .ok (.iadd, 1) := by decide +kernel
theorem dL_law_1061 : decode cL_law 1061 = .ok (.iaload, 1) := by decide +kernel
theorem dL_law_1062 : decode cL_law 1062 = .ok (.aload_n 0, 1) := by decide +kernel
theorem dL_law_1063 : decode cL_law 1063 = .ok (.iload_n 3, 1) := by decide +kernel
theorem dL_law_1064 : decode cL_law 1064 = .ok (.iconst 2, 1) := by decide +kernel
theorem dL_law_1065 : decode cL_law 1065 = .ok (.iadd, 1) := by decide +kernel
theorem dL_law_1066 : decode cL_law 1066 = .ok (.iaload, 1) := by decide +kernel
theorem dL_law_1067 : decode cL_law 1067 = .ok (.invokevirtual 141, 3) := by decide +kernel
theorem dL_law_1070 : decode cL_law 1070 = .ok (.if_icmp .eq 298, 3) := by decide +kernel
theorem dL_law_1073 : decode cL_law 1073 = .ok (.iconst 0, 1) := by decide +kernel
theorem dL_law_1074 : decode cL_law 1074 = .ok (.ireturn, 1) := by decide +kernel
theorem dL_law_1075 : decode cL_law 1075 = .ok (.aload_n 1, 1) := by decide +kernel
theorem dL_law_1076 : decode cL_law 1076 = .ok (.aload_n 0, 1) := by decide +kernel
theorem dL_law_1077 : decode cL_law 1077 = .ok (.iload_n 3, 1) := by decide +kernel
theorem dL_law_1078 : decode cL_law 1078 = .ok (.iconst 1, 1) := by decide +kernel
theorem dL_law_1079 : decode cL_law 1079 = .ok (.iadd, 1) := by decide +kernel
theorem dL_law_1080 : decode cL_law 1080 = .ok (.iaload, 1) := by decide +kernel
theorem dL_law_1081 : decode cL_law 1081 = .ok (.aload_n 0, 1) := by decide +kernel
theorem dL_law_1082 : decode cL_law 1082 = .ok (.iload_n 3, 1) := by decide +kernel
theorem dL_law_1083 : decode cL_law 1083 = .ok (.iconst 2, 1) := by decide +kernel
theorem dL_law_1084 : decode cL_law 1084 = .ok (.iadd, 1) := by decide +kernel
theorem dL_law_1085 : decode cL_law 1085 = .ok (.iaload, 1) := by decide +kernel
theorem dL_law_1086 : decode cL_law 1086 = .ok (.invokevirtual 142, 3) := by decide +kernel
theorem dL_law_1089 : decode cL_law 1089 = .ok (.aload_n 2, 1) := by decide +kernel
theorem dL_law_1090 : decode cL_law 1090 = .ok (.aload_n 0, 1) := by decide +kernel
theorem dL_law_1091 : decode cL_law 1091 = .ok (.iload_n 3, 1) := by decide +kernel
theorem dL_law_1092 : decode cL_law 1092 = .ok (.iconst 1, 1) := by decide +kernel
theorem dL_law_1093 : decode cL_law 1093 = .ok (.iadd, 1) := by decide +kernel
theorem dL_law_1094 : decode cL_law 1094 = .ok (.iaload, 1) := by decide +kernel
theorem dL_law_1095 : decode cL_law 1095 = .ok (.aload_n 0, 1) := by decide +kernel
theorem dL_law_1096 : decode cL_law 1096 = .ok (.iload_n 3, 1) := by decide +kernel
theorem dL_law_1097 : decode cL_law 1097 = .ok (.iconst 2, 1) := by decide +kernel
theorem dL_law_1098 : decode cL_law 1098 = .ok (.iadd, 1) := by decide +kernel
theorem dL_law_1099 : decode cL_law 1099 = .ok (.iaload, 1) := by decide +kernel
theorem dL_law_1100 : decode cL_law 1100 = .ok (.invokevirtual 145, 3) := by decide +kernel
theorem dL_law_1103 : decode cL_law 1103 = .ok (.if_icmp .eq 265, 3) := by decide +kernel
theorem dL_law_1106 : decode cL_law 1106 = .ok (.iconst 0, 1) := by decide +kernel
theorem dL_law_1107 : decode cL_law 1107 = .ok (.ireturn, 1) := by decide +kernel
theorem dL_law_1108 : decode cL_law 1108 = .ok (.aload_n 1, 1) := by decide +kernel
theorem dL_law_1109 : decode cL_law 1109 = .ok (.aload_n 0, 1) := by decide +kernel
theorem dL_law_1110 : decode cL_law 1110 = .ok (.iload_n 3, 1) := by decide +kernel
theorem dL_law_1111 : decode cL_law 1111 = .ok (.iconst 1, 1) := by decide +kernel
theorem dL_law_1112 : decode cL_law 1112 = .ok (.iadd, 1) := by decide +kernel
theorem dL_law_1113 : decode cL_law 1113 = .ok (.iaload, 1) := by decide +kernel
theorem dL_law_1114 : decode cL_law 1114 = .ok (.aload_n 0, 1) := by decide +kernel
theorem dL_law_1115 : decode cL_law 1115 = .ok (.iload_n 3, 1) := by decide +kernel
theorem dL_law_1116 : decode cL_law 1116 = .ok (.iconst 2, 1) := by decide +kernel
theorem dL_law_1117 : decode cL_law 1117 = .ok (.iadd, 1) := by decide +kernel
theorem dL_law_1118 : decode cL_law 1118 = .ok (.iaload, 1) := by decide +kernel
theorem dL_law_1119 : decode cL_law 1119 = .ok (.aload_n 0, 1) := by decide +kernel
theorem dL_law_1120 : decode cL_law 1120 = .ok (.iload_n 3, 1) := by decide +kernel
theorem dL_law_1121 : decode cL_law 1121 = .ok (.iconst 3, 1) := by decide +kernel
theorem dL_law_1122 : decode cL_law 1122 = .ok (.iadd, 1) := by decide +kernel
theorem dL_law_1123 : decode cL_law 1123 = .ok (.iaload, 1) := by decide +kernel
theorem dL_law_1124 : decode cL_law 1124 = .ok (.invokevirtual 146, 3) := by decide +kernel
theorem dL_law_1127 : decode cL_law 1127 = .ok (.aload_n 2, 1) := by decide +kernel
theorem dL_law_1128 : decode cL_law 1128 = .ok (.aload_n 0, 1) := by decide +kernel
theorem dL_law_1129 : decode cL_law 1129 = .ok (.iload_n 3, 1) := by decide +kernel
theorem dL_law_1130 : decode cL_law 1130 = .ok (.iconst 1, 1) := by decide +kernel
theorem dL_law_1131 : decode cL_law 1131 = .ok (.iadd, 1) := by decide +kernel
theorem dL_law_1132 : decode cL_law 1132 = .ok (.iaload, 1) := by decide +kernel
theorem dL_law_1133 : decode cL_law 1133 = .ok (.aload_n 0, 1) := by decide +kernel
theorem dL_law_1134 : decode cL_law 1134 = .ok (.iload_n 3, 1) := by decide +kernel
theorem dL_law_1135 : decode cL_law 1135 = .ok (.iconst 2, 1) := by decide +kernel
theorem dL_law_1136 : decode cL_law 1136 = .ok (.iadd, 1) := by decide +kernel
theorem dL_law_1137 : decode cL_law 1137 = .ok (.iaload, 1) := by decide +kernel
theorem dL_law_1138 : decode cL_law 1138 = .ok (.aload_n 0, 1) := by decide +kernel
theorem dL_law_1139 : decode cL_law 1139 = .ok (.iload_n 3, 1) := by decide +kernel
theorem dL_law_1140 : decode cL_law 1140 = .ok (.iconst 3, 1) := by decide +kernel
theorem dL_law_1141 : decode cL_law 1141 = .ok (.iadd, 1) := by decide +kernel
theorem dL_law_1142 : decode cL_law 1142 = .ok (.iaload, 1) := by decide +kernel
theorem dL_law_1143 : decode cL_law 1143 = .ok (.invokevirtual 149, 3) := by decide +kernel
theorem dL_law_1146 : decode cL_law 1146 = .ok (.if_icmp .eq 222, 3) := by decide +kernel
theorem dL_law_1149 : decode cL_law 1149 = .ok (.iconst 0, 1) := by decide +kernel
theorem dL_law_1150 : decode cL_law 1150 = .ok (.ireturn, 1) := by decide +kernel
theorem dL_law_1151 : decode cL_law 1151 = .ok (.aload_n 1, 1) := by decide +kernel
theorem dL_law_1152 : decode cL_law 1152 = .ok (.aload_n 0, 1) := by decide +kernel
theorem dL_law_1153 : decode cL_law 1153 = .ok (.iload_n 3, 1) := by decide +kernel
theorem dL_law_1154 : decode cL_law 1154 = .ok (.iconst 1, 1) := by decide +kernel
theorem dL_law_1155 : decode cL_law 1155 = .ok (.iadd, 1) := by decide +kernel
theorem dL_law_1156 : decode cL_law 1156 = .ok (.iaload, 1) := by decide +kernel
theorem dL_law_1157 : decode cL_law 1157 = .ok (.invokevirtual 150, 3) := by decide +kernel
theorem dL_law_1160 : decode cL_law 1160 = .ok (.aload_n 2, 1) := by decide +kernel
theorem dL_law_1161 : decode cL_law 1161 = .ok (.aload_n 0, 1) := by decide +kernel
theorem dL_law_1162 : decode cL_law 1162 = .ok (.iload_n 3, 1) := by decide +kernel
theorem dL_law_1163 : decode cL_law 1163 = .ok (.iconst 1, 1) := by decide +kernel
theorem dL_law_1164 : decode cL_law 1164 = .ok (.iadd, 1) := by decide +kernel
theorem dL_law_1165 : decode cL_law 1165 = .ok (.iaload, 1) := by decide +kernel
theorem dL_law_1166 : decode cL_law 1166 = .ok (.invokevirtual 153, 3) := by decide +kernel
theorem dL_law_1169 : decode cL_law 1169 = .ok (.if_icmp .eq 199, 3) := by decide +kernel
theorem dL_law_1172 : decode cL_law 1172 = .ok (.iconst 0, 1) := by decide +kernel
theorem dL_law_1173 : decode cL_law 1173 = .ok (.ireturn, 1) := by decide +kernel
theorem dL_law_1174 : decode cL_law 1174 = .ok (.aload_n 1, 1) := by decide +kernel
theorem dL_law_1175 : decode cL_law 1175 = .ok (.aload_n 0, 1) := by decide +kernel
theorem dL_law_1176 : decode cL_law 1176 = .ok (.iload_n 3, 1) := by decide +kernel
theorem dL_law_1177 : decode cL_law 1177 = .ok (.iconst 1, 1) := by decide +kernel
theorem dL_law_1178 : decode cL_law 1178 = .ok (.iadd, 1) := by decide +kernel
theorem dL_law_1179 : decode cL_law 1179 = .ok (.iaload, 1) := by decide +kernel
theorem dL_law_1180 : decode cL_law 1180 = .ok (.invokevirtual 154, 3) := by decide +kernel
theorem dL_law_1183 : decode cL_law 1183 = .ok (.aload_n 2, 1) := by decide +kernel
theorem dL_law_1184 : decode cL_law 1184 = .ok (.aload_n 0, 1) := by decide +kernel
theorem dL_law_1185 : decode cL_law 1185 = .ok (.iload_n 3, 1) := by decide +kernel
theorem dL_law_1186 : decode cL_law 1186 = .ok (.iconst 1, 1) := by decide +kernel
theorem dL_law_1187 : decode cL_law 1187 = .ok (.iadd, 1) := by decide +kernel
theorem dL_law_1188 : decode cL_law 1188 = .ok (.iaload, 1) := by decide +kernel
theorem dL_law_1189 : decode cL_law 1189 = .ok (.invokevirtual 157, 3) := by decide +kernel
theorem dL_law_1192 : decode cL_law 1192 = .ok (.if_icmp .eq 176, 3) := by decide +kernel
theorem dL_law_1195 : decode cL_law 1195 = .ok (.iconst 0, 1) := by decide +kernel
theorem dL_law_1196 : decode cL_law 1196 = .ok (.ireturn, 1) := by decide +kernel
theorem dL_law_1197 : decode cL_law 1197 = .ok (.aload_n 1, 1) := by decide +kernel
theorem dL_law_1198 : decode cL_law 1198 = .ok (.aload_n 0, 1) := by decide +kernel
theorem dL_law_1199 : decode cL_law 1199 = .ok (.iload_n 3, 1) := by decide +kernel
theorem dL_law_1200 : decode cL_law 1200 = .ok (.iconst 1, 1) := by decide +kernel
theorem dL_law_1201 : decode cL_law 1201 = .ok (.iadd, 1) := by decide +kernel
theorem dL_law_1202 : decode cL_law 1202 = .ok (.iaload, 1) := by decide +kernel
theorem dL_law_1203 : decode cL_law 1203 = .ok (.aload_n 0, 1) := by decide +kernel
theorem dL_law_1204 : decode cL_law 1204 = .ok (.iload_n 3, 1) := by decide +kernel
theorem dL_law_1205 : decode cL_law 1205 = .ok (.iconst 2, 1) := by decide +kernel
theorem dL_law_1206 : decode cL_law 1206 = .ok (.iadd, 1) := by decide +kernel
theorem dL_law_1207 : decode cL_law 1207 = .ok (.iaload, 1) := by decide +kernel
theorem dL_law_1208 : decode cL_law 1208 = .ok (.aload_n 0, 1) := by decide +kernel
theorem dL_law_1209 : decode cL_law 1209 = .ok (.iload_n 3, 1) := by decide +kernel
theorem dL_law_1210 : decode cL_law 1210 = .ok (.iconst 3, 1) := by decide +kernel
theorem dL_law_1211 : decode cL_law 1211 = .ok (.iadd, 1) := by decide +kernel
theorem dL_law_1212 : decode cL_law 1212 = .ok (.iaload, 1) := by decide +kernel
theorem dL_law_1213 : decode cL_law 1213 = .ok (.invokevirtual 158, 3) := by decide +kernel
theorem dL_law_1216 : decode cL_law 1216 = .ok (.aload_n 2, 1) := by decide +kernel
theorem dL_law_1217 : decode cL_law 1217 = .ok (.aload_n 0, 1) := by decide +kernel
theorem dL_law_1218 : decode cL_law 1218 = .ok (.iload_n 3, 1) := by decide +kernel
theorem dL_law_1219 : decode cL_law 1219 = .ok (.iconst 1, 1) := by decide +kernel
theorem dL_law_1220 : decode cL_law 1220 = .ok (.iadd, 1) := by decide +kernel
theorem dL_law_1221 : decode cL_law 1221 = .ok (.iaload, 1) := by decide +kernel
theorem dL_law_1222 : decode cL_law 1222 = .ok (.aload_n 0, 1) := by decide +kernel
theorem dL_law_1223 : decode cL_law 1223 = .ok (.iload_n 3, 1) := by decide +kernel
theorem dL_law_1224 : decode cL_law 1224 = .ok (.iconst 2, 1) := by decide +kernel
theorem dL_law_1225 : decode cL_law 1225 = .ok (.iadd, 1) := by decide +kernel
theorem dL_law_1226 : decode cL_law 1226 = .ok (.iaload, 1) := by decide +kernel
theorem dL_law_1227 : decode cL_law 1227 = .ok (.aload_n 0, 1) := by decide +kernel
theorem dL_law_1228 : decode cL_law 1228 = .ok (.iload_n 3, 1) := by decide +kernel
theorem dL_law_1229 : decode cL_law 1229 = .ok (.iconst 3, 1) := by decide +kernel
theorem dL_law_1230 : decode cL_law 1230 = .ok (.iadd, 1) := by decide +kernel
theorem dL_law_1231 : decode cL_law 1231 = .ok (.iaload, 1) := by decide +kernel
theorem dL_law_1232 : decode cL_law 1232 = .ok (.invokevirtual 161, 3) := by decide +kernel
theorem dL_law_1235 : decode cL_law 1235 = .ok (.if_icmp .eq 133, 3) := by decide +kernel
theorem dL_law_1238 : decode cL_law 1238 = .ok (.iconst 0, 1) := by decide +kernel
theorem dL_law_1239 : decode cL_law 1239 = .ok (.ireturn, 1) := by decide +kernel
theorem dL_law_1240 : decode cL_law 1240 = .ok (.aload_n 1, 1) := by decide +kernel
theorem dL_law_1241 : decode cL_law 1241 = .ok (.aload_n 0, 1) := by decide +kernel
theorem dL_law_1242 : decode cL_law 1242 = .ok (.iload_n 3, 1) := by decide +kernel
theorem dL_law_1243 : decode cL_law 1243 = .ok (.iconst 1, 1) := by decide +kernel
theorem dL_law_1244 : decode cL_law 1244 = .ok (.iadd, 1) := by decide +kernel
theorem dL_law_1245 : decode cL_law 1245 = .ok (.iaload, 1) := by decide +kernel
theorem dL_law_1246 : decode cL_law 1246 = .ok (.aload_n 0, 1) := by decide +kernel
theorem dL_law_1247 : decode cL_law 1247 = .ok (.iload_n 3, 1) := by decide +kernel
theorem dL_law_1248 : decode cL_law 1248 = .ok (.iconst 2, 1) := by decide +kernel
theorem dL_law_1249 : decode cL_law 1249 = .ok (.iadd, 1) := by decide +kernel
theorem dL_law_1250 : decode cL_law 1250 = .ok (.iaload, 1) := by decide +kernel
theorem dL_law_1251 : decode cL_law 1251 = .ok (.invokevirtual 162, 3) := by decide +kernel
theorem dL_law_1254 : decode cL_law 1254 = .ok (.aload_n 2, 1) := by decide +kernel
theorem dL_law_1255 : decode cL_law 1255 = .ok (.aload_n 0, 1) := by decide +kernel
theorem dL_law_1256 : decode cL_law 1256 = .ok (.iload_n 3, 1) := by decide +kernel
theorem dL_law_1257 : decode cL_law 1257 = .ok (.iconst 1, 1) := by decide +kernel
theorem dL_law_1258 : decode cL_law 1258 = .ok (.iadd, 1) := by decide +kernel
theorem dL_law_1259 : decode cL_law 1259 = .ok (.iaload, 1) := by decide +kernel
theorem dL_law_1260 : decode cL_law 1260 = .ok (.aload_n 0, 1) := by decide +kernel
theorem dL_law_1261 : decode cL_law 1261 = .ok (.iload_n 3, 1) := by decide +kernel
theorem dL_law_1262 : decode cL_law 1262 = .ok (.iconst 2, 1) := by decide +kernel
theorem dL_law_1263 : decode cL_law 1263 = .ok (.iadd, 1) := by decide +kernel
theorem dL_law_1264 : decode cL_law 1264 = .ok (.iaload, 1) := by decide +kernel
theorem dL_law_1265 : decode cL_law 1265 = .ok (.invokevirtual 165, 3) := by decide +kernel
theorem dL_law_1268 : decode cL_law 1268 = .ok (.if_icmp .eq 100, 3) := by decide +kernel
theorem dL_law_1271 : decode cL_law 1271 = .ok (.iconst 0, 1) := by decide +kernel
theorem dL_law_1272 : decode cL_law 1272 = .ok (.ireturn, 1) := by decide +kernel
theorem dL_law_1273 : decode cL_law 1273 = .ok (.aload_n 1, 1) := by decide +kernel
theorem dL_law_1274 : decode cL_law 1274 = .ok (.invokevirtual 166, 3) := by decide +kernel
theorem dL_law_1277 : decode cL_law 1277 = .ok (.aload_n 2, 1) := by decide +kernel
theorem dL_law_1278 : decode cL_law 1278 = .ok (.invokevirtual 169, 3) := by decide +kernel
theorem dL_law_1281 : decode cL_law 1281 = .ok (.if_icmp .eq 87, 3) := by decide +kernel
theorem dL_law_1284 : decode cL_law 1284 = .ok (.iconst 0, 1) := by decide +kernel
theorem dL_law_1285 : decode cL_law 1285 = .ok (.ireturn, 1) := by decide +kernel
theorem dL_law_1286 : decode cL_law 1286 = .ok (.aload_n 1, 1) := by decide +kernel
theorem dL_law_1287 : decode cL_law 1287 = .ok (.invokevirtual 170, 3) := by decide +kernel
theorem dL_law_1290 : decode cL_law 1290 = .ok (.aload_n 2, 1) := by decide +kernel
theorem dL_law_1291 : decode cL_law 1291 = .ok (.invokevirtual 173, 3) := by decide +kernel
theorem dL_law_1294 : decode cL_law 1294 = .ok (.if_icmp .eq 74, 3) := by decide +kernel
theorem dL_law_1297 : decode cL_law 1297 = .ok (.iconst 0, 1) := by decide +kernel
theorem dL_law_1298 : decode cL_law 1298 = .ok (.ireturn, 1) := by decide +kernel
theorem dL_law_1299 : decode cL_law 1299 = .ok (.aload_n 1, 1) := by decide +kernel
theorem dL_law_1300 : decode cL_law 1300 = .ok (.aload_n 0, 1) := by decide +kernel
theorem dL_law_1301 : decode cL_law 1301 = .ok (.iload_n 3, 1) := by decide +kernel
theorem dL_law_1302 : decode cL_law 1302 = .ok (.iconst 1, 1) := by decide +kernel
theorem dL_law_1303 : decode cL_law 1303 = .ok (.iadd, 1) := by decide +kernel
theorem dL_law_1304 : decode cL_law 1304 = .ok (.iaload, 1) := by decide +kernel
theorem dL_law_1305 : decode cL_law 1305 = .ok (.invokevirtual 174, 3) := by decide +kernel
theorem dL_law_1308 : decode cL_law 1308 = .ok (.aload_n 2, 1) := by decide +kernel
theorem dL_law_1309 : decode cL_law 1309 = .ok (.aload_n 0, 1) := by decide +kernel
theorem dL_law_1310 : decode cL_law 1310 = .ok (.iload_n 3, 1) := by decide +kernel
theorem dL_law_1311 : decode cL_law 1311 = .ok (.iconst 1, 1) := by decide +kernel
theorem dL_law_1312 : decode cL_law 1312 = .ok (.iadd, 1) := by decide +kernel
theorem dL_law_1313 : decode cL_law 1313 = .ok (.iaload, 1) := by decide +kernel
theorem dL_law_1314 : decode cL_law 1314 = .ok (.invokevirtual 177, 3) := by decide +kernel
theorem dL_law_1317 : decode cL_law 1317 = .ok (.if_icmp .eq 51, 3) := by decide +kernel
theorem dL_law_1320 : decode cL_law 1320 = .ok (.iconst 0, 1) := by decide +kernel
theorem dL_law_1321 : decode cL_law 1321 = .ok (.ireturn, 1) := by decide +kernel
theorem dL_law_1322 : decode cL_law 1322 = .ok (.aload_n 1, 1) := by decide +kernel
theorem dL_law_1323 : decode cL_law 1323 = .ok (.aload_n 0, 1) := by decide +kernel
theorem dL_law_1324 : decode cL_law 1324 = .ok (.iload_n 3, 1) := by decide +kernel
theorem dL_law_1325 : decode cL_law 1325 = .ok (.iconst 1, 1) := by decide +kernel
theorem dL_law_1326 : decode cL_law 1326 = .ok (.iadd, 1) := by decide +kernel
theorem dL_law_1327 : decode cL_law 1327 = .ok (.iaload, 1) := by decide +kernel
theorem dL_law_1328 : decode cL_law 1328 = .ok (.invokevirtual 178, 3) := by decide +kernel
theorem dL_law_1331 : decode cL_law 1331 = .ok (.aload_n 2, 1) := by decide +kernel
theorem dL_law_1332 : decode cL_law 1332 = .ok (.aload_n 0, 1) := by decide +kernel
theorem dL_law_1333 : decode cL_law 1333 = .ok (.iload_n 3, 1) := by decide +kernel
theorem dL_law_1334 : decode cL_law 1334 = .ok (.iconst 1, 1) := by decide +kernel
theorem dL_law_1335 : decode cL_law 1335 = .ok (.iadd, 1) := by decide +kernel
theorem dL_law_1336 : decode cL_law 1336 = .ok (.iaload, 1) := by decide +kernel
theorem dL_law_1337 : decode cL_law 1337 = .ok (.invokevirtual 181, 3) := by decide +kernel
theorem dL_law_1340 : decode cL_law 1340 = .ok (.if_icmp .eq 28, 3) := by decide +kernel
theorem dL_law_1343 : decode cL_law 1343 = .ok (.iconst 0, 1) := by decide +kernel
theorem dL_law_1344 : decode cL_law 1344 = .ok (.ireturn, 1) := by decide +kernel
theorem dL_law_1345 : decode cL_law 1345 = .ok (.aload_n 1, 1) := by decide +kernel
theorem dL_law_1346 : decode cL_law 1346 = .ok (.aload_n 0, 1) := by decide +kernel
theorem dL_law_1347 : decode cL_law 1347 = .ok (.iload_n 3, 1) := by decide +kernel
theorem dL_law_1348 : decode cL_law 1348 = .ok (.iconst 1, 1) := by decide +kernel
theorem dL_law_1349 : decode cL_law 1349 = .ok (.iadd, 1) := by decide +kernel
theorem dL_law_1350 : decode cL_law 1350 = .ok (.iaload, 1) := by decide +kernel
theorem dL_law_1351 : decode cL_law 1351 = .ok (.invokevirtual 182, 3) := by decide +kernel
theorem dL_law_1354 : decode cL_law 1354 = .ok (.aload_n 2, 1) := by decide +kernel
theorem dL_law_1355 : decode cL_law 1355 = .ok (.aload_n 0, 1) := by decide +kernel
theorem dL_law_1356 : decode cL_law 1356 = .ok (.iload_n 3, 1) := by decide +kernel
theorem dL_law_1357 : decode cL_law 1357 = .ok (.iconst 1, 1) := by decide +kernel
theorem dL_law_1358 : decode cL_law 1358 = .ok (.iadd, 1) := by decide +kernel
theorem dL_law_1359 : decode cL_law 1359 = .ok (.iaload, 1) := by decide +kernel
theorem dL_law_1360 : decode cL_law 1360 = .ok (.invokevirtual 185, 3) := by decide +kernel
theorem dL_law_1363 : decode cL_law 1363 = .ok (.if_icmp .eq 5, 3) := by decide +kernel
theorem dL_law_1366 : decode cL_law 1366 = .ok (.iconst 0, 1) := by decide +kernel
theorem dL_law_1367 : decode cL_law 1367 = .ok (.ireturn, 1) := by decide +kernel
theorem dL_law_1368 : decode cL_law 1368 = .ok (.iinc 3 4, 3) := by decide +kernel
theorem dL_law_1371 : decode cL_law 1371 = .ok (.goto (-1353), 3) := by decide +kernel
theorem dL_law_1374 : decode cL_law 1374 = .ok (.iconst 1, 1) := by decide +kernel
theorem dL_law_1375 : decode cL_law 1375 = .ok (.ireturn, 1) := by decide +kernel
abbrev vwCl : List vw_C := [(RX0, TX0, 15), (RX1, TX1, 4), (RX2, TX2, 3), (RX3, TX3, 8), (RX4, TX4, 10), (RX5, TX5, 3), (RX6, TX6, 14), (RX7, TX7, 44)]
end
section
/-! ===== the words of the tables: kW, those of lw_tbl that keep; a row for each ===== -/
def kW : List Cond := lw_tbl.filter goodWord
theorem kwIn {w : Cond} (i : Nat) (h : lw_tbl[i]? = some w) (g : goodWord w = true) : w ∈ kW := List.mem_filter.mpr ⟨List.mem_of_getElem? h, g⟩
theorem kwAll {ws : List Cond} (ps : List Nat) (hp : ws = ps.filterMap (fun i => lw_tbl[i]?)) (h : ws.all goodWord = true) : ∀ w ∈ ws, w ∈ kW := fun w hw => List.mem_filter.mpr ⟨(goodIn_r ws ps hp h w hw).1, List.all_eq_true.mp h w hw⟩
theorem kwTbl : ∀ w ∈ kW, w ∈ lw_tbl := fun _ h => List.mem_of_mem_filter h
theorem allGood : ∀ w ∈ kW, ((w.onTables && w.keeps) = true ∨ ∃ ty, w = .arrayClass ty) := fun _ h => good_of_word (List.mem_filter.mp h).2
theorem m_x_X3_nextLetter : Cond.selects RX3 yX3_nextLetter yX3_nextLetter ∈ kW := kwIn 0 (by decide +kernel) (by decide +kernel)
theorem m_x_X3_letterAt : Cond.selects RX3 yX3_letterAt yX3_letterAt ∈ kW := kwIn 1 (by decide +kernel) (by decide +kernel)
theorem m_x_X3_readClause : Cond.selects RX3 yX3_readClause yX3_readClause ∈ kW := kwIn 2 (by decide +kernel) (by decide +kernel)
theorem m_x_X3_faultOfWord : Cond.selects RX3 yX3_faultOfWord yX3_faultOfWord ∈ kW := kwIn 3 (by decide +kernel) (by decide +kernel)
theorem m_x_X3_fail : Cond.selects RX3 yX3_fail yX3_fail ∈ kW := kwIn 4 (by decide +kernel) (by decide +kernel)
theorem m_x_X3_readCells : Cond.selects RX3 yX3_readCells yX3_readCells ∈ kW := kwIn 5 (by decide +kernel) (by decide +kernel)
theorem m_x_X3_readNumber : Cond.selects RX3 yX3_readNumber yX3_readNumber ∈ kW := kwIn 6 (by decide +kernel) (by decide +kernel)
theorem m_x_X3_readEnd : Cond.selects RX3 yX3_readEnd yX3_readEnd ∈ kW := kwIn 7 (by decide +kernel) (by decide +kernel)
theorem m_x_X3_readHour : Cond.selects RX3 yX3_readHour yX3_readHour ∈ kW := kwIn 8 (by decide +kernel) (by decide +kernel)
theorem m_x_X3_readPost : Cond.selects RX3 yX3_readPost yX3_readPost ∈ kW := kwIn 9 (by decide +kernel) (by decide +kernel)
theorem m_x_X3_readPair : Cond.selects RX3 yX3_readPair yX3_readPair ∈ kW := kwIn 10 (by decide +kernel) (by decide +kernel)
theorem m_x_X3_readGoat : Cond.selects RX3 yX3_readGoat yX3_readGoat ∈ kW := kwIn 11 (by decide +kernel) (by decide +kernel)
theorem m_x_X6_isPost : Cond.selects RX6 yX6_isPost yX6_isPost ∈ kW := kwIn 12 (by decide +kernel) (by decide +kernel)
theorem m_x_X6_isBare : Cond.selects RX6 yX6_isBare yX6_isBare ∈ kW := kwIn 13 (by decide +kernel) (by decide +kernel)
theorem m_x_X6_isGoat : Cond.selects RX6 yX6_isGoat yX6_isGoat ∈ kW := kwIn 14 (by decide +kernel) (by decide +kernel)
theorem m_x_X2_stateAt : Cond.selects RX2 yX2_stateAt yX2_stateAt ∈ kW := kwIn 15 (by decide +kernel) (by decide +kernel)
theorem m_x_X5_lineUp : Cond.selects RX5 yX5_lineUp yX5_lineUp ∈ kW := kwIn 16 (by decide +kernel) (by decide +kernel)
theorem m_x_X4_endDay : Cond.selects RX4 yX4_endDay yX4_endDay ∈ kW := kwIn 17 (by decide +kernel) (by decide +kernel)
theorem m_x_X6_isCell : Cond.selects RX6 yX6_isCell yX6_isCell ∈ kW := kwIn 18 (by decide +kernel) (by decide +kernel)
theorem m_x_X6_draw : Cond.selects RX6 yX6_draw yX6_draw ∈ kW := kwIn 19 (by decide +kernel) (by decide +kernel)
theorem m_x_X6_lickByDraws : Cond.selects RX6 yX6_lickByDraws yX6_lickByDraws ∈ kW := kwIn 20 (by decide +kernel) (by decide +kernel)
theorem m_x_X6_tryHours : Cond.selects RX6 yX6_tryHours yX6_tryHours ∈ kW := kwIn 21 (by decide +kernel) (by decide +kernel)
theorem m_x_X6_blowNext : Cond.selects RX6 yX6_blowNext yX6_blowNext ∈ kW := kwIn 22 (by decide +kernel) (by decide +kernel)
theorem m_x_X6_isOpenTo : Cond.selects RX6 yX6_isOpenTo yX6_isOpenTo ∈ kW := kwIn 23 (by decide +kernel) (by decide +kernel)
theorem m_x_X6_lesserHaul : Cond.selects RX6 yX6_lesserHaul yX6_lesserHaul ∈ kW := kwIn 24 (by decide +kernel) (by decide +kernel)
theorem m_x_X6_fitting : Cond.selects RX6 yX6_fitting yX6_fitting ∈ kW := kwIn 25 (by decide +kernel) (by decide +kernel)
theorem m_x_X6_fitsAll : Cond.selects RX6 yX6_fitsAll yX6_fitsAll ∈ kW := kwIn 26 (by decide +kernel) (by decide +kernel)
theorem m_x_X6_takenOf : Cond.selects RX6 yX6_takenOf yX6_takenOf ∈ kW := kwIn 27 (by decide +kernel) (by decide +kernel)
theorem m_x_X6_greatestPart : Cond.selects RX6 yX6_greatestPart yX6_greatestPart ∈ kW := kwIn 28 (by decide +kernel) (by decide +kernel)
theorem m_x_X6_imageOf : Cond.selects RX6 yX6_imageOf yX6_imageOf ∈ kW := kwIn 29 (by decide +kernel) (by decide +kernel)
theorem m_x_X7_reads : Cond.selects RX7 yX7_reads yX7_reads ∈ kW := kwIn 30 (by decide +kernel) (by decide +kernel)
theorem m_x_X7_blanks : Cond.selects RX7 yX7_blanks yX7_blanks ∈ kW := kwIn 31 (by decide +kernel) (by decide +kernel)
theorem m_x_X7_letterAt : Cond.selects RX7 yX7_letterAt yX7_letterAt ∈ kW := kwIn 32 (by decide +kernel) (by decide +kernel)
theorem m_x_X7_readsClause : Cond.selects RX7 yX7_readsClause yX7_readsClause ∈ kW := kwIn 33 (by decide +kernel) (by decide +kernel)
theorem m_x_X7_readsHead : Cond.selects RX7 yX7_readsHead yX7_readsHead ∈ kW := kwIn 34 (by decide +kernel) (by decide +kernel)
theorem m_x_X7_reads2 : Cond.selects RX7 yX7_reads2 yX7_reads2 ∈ kW := kwIn 35 (by decide +kernel) (by decide +kernel)
theorem m_x_X7_number : Cond.selects RX7 yX7_number yX7_number ∈ kW := kwIn 36 (by decide +kernel) (by decide +kernel)
theorem m_x_X7_fails : Cond.selects RX7 yX7_fails yX7_fails ∈ kW := kwIn 37 (by decide +kernel) (by decide +kernel)
theorem m_x_X7_ends : Cond.selects RX7 yX7_ends yX7_ends ∈ kW := kwIn 38 (by decide +kernel) (by decide +kernel)
theorem m_x_X7_readsHour : Cond.selects RX7 yX7_readsHour yX7_readsHour ∈ kW := kwIn 39 (by decide +kernel) (by decide +kernel)
theorem m_x_X7_readsPost : Cond.selects RX7 yX7_readsPost yX7_readsPost ∈ kW := kwIn 40 (by decide +kernel) (by decide +kernel)
theorem m_x_X7_isTaken : Cond.selects RX7 yX7_isTaken yX7_isTaken ∈ kW := kwIn 41 (by decide +kernel) (by decide +kernel)
theorem m_x_X7_readsDays : Cond.selects RX7 yX7_readsDays yX7_readsDays ∈ kW := kwIn 42 (by decide +kernel) (by decide +kernel)
theorem m_x_X7_readsUse : Cond.selects RX7 yX7_readsUse yX7_readsUse ∈ kW := kwIn 43 (by decide +kernel) (by decide +kernel)
theorem m_x_X7_readsGoat : Cond.selects RX7 yX7_readsGoat yX7_readsGoat ∈ kW := kwIn 44 (by decide +kernel) (by decide +kernel)
theorem m_x_X7_dayLong : Cond.selects RX7 yX7_dayLong yX7_dayLong ∈ kW := kwIn 45 (by decide +kernel) (by decide +kernel)
theorem m_x_X7_hanging : Cond.selects RX7 yX7_hanging yX7_hanging ∈ kW := kwIn 46 (by decide +kernel) (by decide +kernel)
theorem m_x_X7_isHanging : Cond.selects RX7 yX7_isHanging yX7_isHanging ∈ kW := kwIn 47 (by decide +kernel) (by decide +kernel)
theorem m_x_X7_jars : Cond.selects RX7 yX7_jars yX7_jars ∈ kW := kwIn 48 (by decide +kernel) (by decide +kernel)
theorem m_x_X7_isPost : Cond.selects RX7 yX7_isPost yX7_isPost ∈ kW := kwIn 49 (by decide +kernel) (by decide +kernel)
theorem m_x_X7_sideOf : Cond.selects RX7 yX7_sideOf yX7_sideOf ∈ kW := kwIn 50 (by decide +kernel) (by decide +kernel)
theorem m_x_X7_fogOf : Cond.selects RX7 yX7_fogOf yX7_fogOf ∈ kW := kwIn 51 (by decide +kernel) (by decide +kernel)
theorem m_x_X7_postsOf : Cond.selects RX7 yX7_postsOf yX7_postsOf ∈ kW := kwIn 52 (by decide +kernel) (by decide +kernel)
theorem m_x_X7_need : Cond.selects RX7 yX7_need yX7_need ∈ kW := kwIn 53 (by decide +kernel) (by decide +kernel)
theorem m_x_X7_remember : Cond.selects RX7 yX7_remember yX7_remember ∈ kW := kwIn 54 (by decide +kernel) (by decide +kernel)
theorem m_x_X7_passesOn : Cond.selects RX7 yX7_passesOn yX7_passesOn ∈ kW := kwIn 55 (by decide +kernel) (by decide +kernel)
theorem m_x_X7_passes : Cond.selects RX7 yX7_passes yX7_passes ∈ kW := kwIn 56 (by decide +kernel) (by decide +kernel)
theorem m_x_X7_leads : Cond.selects RX7 yX7_leads yX7_leads ∈ kW := kwIn 57 (by decide +kernel) (by decide +kernel)
theorem m_x_X7_postIn : Cond.selects RX7 yX7_postIn yX7_postIn ∈ kW := kwIn 58 (by decide +kernel) (by decide +kernel)
theorem m_x_X7_carries : Cond.selects RX7 yX7_carries yX7_carries ∈ kW := kwIn 59 (by decide +kernel) (by decide +kernel)
theorem m_x_X7_drinks : Cond.selects RX7 yX7_drinks yX7_drinks ∈ kW := kwIn 60 (by decide +kernel) (by decide +kernel)
theorem m_x_X7_usesUp : Cond.selects RX7 yX7_usesUp yX7_usesUp ∈ kW := kwIn 61 (by decide +kernel) (by decide +kernel)
theorem m_x_X7_allTook : Cond.selects RX7 yX7_allTook yX7_allTook ∈ kW := kwIn 62 (by decide +kernel) (by decide +kernel)
theorem m_x_X7_licks : Cond.selects RX7 yX7_licks yX7_licks ∈ kW := kwIn 63 (by decide +kernel) (by decide +kernel)
theorem m_x_X7_isCell : Cond.selects RX7 yX7_isCell yX7_isCell ∈ kW := kwIn 64 (by decide +kernel) (by decide +kernel)
theorem m_x_X7_draw : Cond.selects RX7 yX7_draw yX7_draw ∈ kW := kwIn 65 (by decide +kernel) (by decide +kernel)
theorem m_x_X7_copyNow : Cond.selects RX7 yX7_copyNow yX7_copyNow ∈ kW := kwIn 66 (by decide +kernel) (by decide +kernel)
theorem m_x_X7_goesOn : Cond.selects RX7 yX7_goesOn yX7_goesOn ∈ kW := kwIn 67 (by decide +kernel) (by decide +kernel)
theorem m_x_X7_isFor : Cond.selects RX7 yX7_isFor yX7_isFor ∈ kW := kwIn 68 (by decide +kernel) (by decide +kernel)
theorem m_x_X7_sumOf : Cond.selects RX7 yX7_sumOf yX7_sumOf ∈ kW := kwIn 69 (by decide +kernel) (by decide +kernel)
theorem m_x_X7_tookWith : Cond.selects RX7 yX7_tookWith yX7_tookWith ∈ kW := kwIn 70 (by decide +kernel) (by decide +kernel)
theorem m_x_X7_ownedBy : Cond.selects RX7 yX7_ownedBy yX7_ownedBy ∈ kW := kwIn 71 (by decide +kernel) (by decide +kernel)
theorem m_x_X7_isSo : Cond.selects RX7 yX7_isSo yX7_isSo ∈ kW := kwIn 72 (by decide +kernel) (by decide +kernel)
theorem m_x_X7_tookOf : Cond.selects RX7 yX7_tookOf yX7_tookOf ∈ kW := kwIn 73 (by decide +kernel) (by decide +kernel)
theorem m_x_X7_greatest : Cond.selects RX7 yX7_greatest yX7_greatest ∈ kW := kwIn 74 (by decide +kernel) (by decide +kernel)
theorem m_n_L : Cond.initialized RL ∈ kW := kwIn 75 (by decide +kernel) (by decide +kernel)
theorem m_n_X6 : Cond.initialized RX6 ∈ kW := kwIn 76 (by decide +kernel) (by decide +kernel)
theorem m_n_X3 : Cond.initialized RX3 ∈ kW := kwIn 77 (by decide +kernel) (by decide +kernel)
theorem m_n_X0 : Cond.initialized RX0 ∈ kW := kwIn 78 (by decide +kernel) (by decide +kernel)
theorem m_n_X4 : Cond.initialized RX4 ∈ kW := kwIn 79 (by decide +kernel) (by decide +kernel)
theorem m_n_X5 : Cond.initialized RX5 ∈ kW := kwIn 80 (by decide +kernel) (by decide +kernel)
theorem m_n_X2 : Cond.initialized RX2 ∈ kW := kwIn 81 (by decide +kernel) (by decide +kernel)
theorem m_n_X1 : Cond.initialized RX1 ∈ kW := kwIn 82 (by decide +kernel) (by decide +kernel)
theorem m_n_J9 : Cond.initialized RJ9 ∈ kW := kwIn 83 (by decide +kernel) (by decide +kernel)
theorem m_n_X7 : Cond.initialized RX7 ∈ kW := kwIn 84 (by decide +kernel) (by decide +kernel)
theorem m_n_J10 : Cond.initialized RJ10 ∈ kW := kwIn 85 (by decide +kernel) (by decide +kernel)
theorem m_n_J6 : Cond.initialized RJ6 ∈ kW := kwIn 86 (by decide +kernel) (by decide +kernel)
theorem m_n_J13 : Cond.initialized RJ13 ∈ kW := kwIn 87 (by decide +kernel) (by decide +kernel)
theorem m_l_L_7 : Cond.classLink RL 7 RX6 ∈ kW := kwIn 88 (by decide +kernel) (by decide +kernel)
theorem m_o_X6 : Cond.instantiable RX6 14 ∈ kW := kwIn 89 (by decide +kernel) (by decide +kernel)
theorem m_m_L_9 : Cond.methodLink RL 9 yX6_init ∈ kW := kwIn 90 (by decide +kernel) (by decide +kernel)
theorem m_i_X6_init : Cond.instanceMethod yX6_init ∈ kW := kwIn 91 (by decide +kernel) (by decide +kernel)
theorem m_c_X6_init : Cond.code yX6_init cX6_init 1 none ∈ kW := kwIn 92 (by decide +kernel) (by decide +kernel)
theorem m_m_X6_1 : Cond.methodLink RX6 1 objectInit ∈ kW := kwIn 93 (by decide +kernel) (by decide +kernel)
theorem m_i_objectInit : Cond.instanceMethod objectInit ∈ kW := kwIn 94 (by decide +kernel) (by decide +kernel)
theorem m_c_objectInit : Cond.code objectInit ⟨#[0xb1]⟩ 1 none ∈ kW := kwIn 95 (by decide +kernel) (by decide +kernel)
theorem m_l_X6_7 : Cond.classLink RX6 7 RX3 ∈ kW := kwIn 96 (by decide +kernel) (by decide +kernel)
theorem m_o_X3 : Cond.instantiable RX3 8 ∈ kW := kwIn 97 (by decide +kernel) (by decide +kernel)
theorem m_i_X3_init : Cond.instanceMethod yX3_init ∈ kW := kwIn 99 (by decide +kernel) (by decide +kernel)
theorem m_c_X3_init : Cond.code yX3_init cX3_init 1 none ∈ kW := kwIn 100 (by decide +kernel) (by decide +kernel)
theorem m_m_X3_3 : Cond.methodLink RX3 3 objectInit ∈ kW := kwIn 101 (by decide +kernel) (by decide +kernel)
theorem m_f_X3_9 : Cond.fieldLink RX3 9 "FogNets$Reader" "letters" "[I" ∈ kW := kwIn 102 (by decide +kernel) (by decide +kernel)
theorem m_f_X3_15 : Cond.fieldLink RX3 15 "FogNets$Reader" "length" "I" ∈ kW := kwIn 103 (by decide +kernel) (by decide +kernel)
theorem m_f_X6_85 : Cond.fieldLink RX6 85 "FogNets$Reader" "length" "I" ∈ kW := kwIn 104 (by decide +kernel) (by decide +kernel)
theorem m_f_X3_19 : Cond.fieldLink RX3 19 "FogNets$Reader" "place" "I" ∈ kW := kwIn 105 (by decide +kernel) (by decide +kernel)
theorem m_f_X3_22 : Cond.fieldLink RX3 22 "FogNets$Reader" "numberPlace" "I" ∈ kW := kwIn 106 (by decide +kernel) (by decide +kernel)
theorem m_f_X3_25 : Cond.fieldLink RX3 25 "FogNets$Reader" "fault" "I" ∈ kW := kwIn 107 (by decide +kernel) (by decide +kernel)
theorem m_f_X3_28 : Cond.fieldLink RX3 28 "FogNets$Reader" "faultPlace" "I" ∈ kW := kwIn 108 (by decide +kernel) (by decide +kernel)
theorem m_f_X6_108 : Cond.fieldLink RX6 108 "FogNets$Reader" "faultPlace" "I" ∈ kW := kwIn 109 (by decide +kernel) (by decide +kernel)
theorem m_f_X3_31 : Cond.fieldLink RX3 31 "FogNets$Reader" "daysTold" "Z" ∈ kW := kwIn 110 (by decide +kernel) (by decide +kernel)
theorem m_f_X3_35 : Cond.fieldLink RX3 35 "FogNets$Reader" "usesTold" "Z" ∈ kW := kwIn 111 (by decide +kernel) (by decide +kernel)
theorem m_a_pe_int : Cond.arrayClass Jvm.ClassFile.FieldType.int ∈ kW := kwIn 129 (by decide +kernel) (by decide +kernel)
theorem m_l_X6_16 : Cond.classLink RX6 16 RX0 ∈ kW := kwIn 130 (by decide +kernel) (by decide +kernel)
theorem m_o_X0 : Cond.instantiable RX0 15 ∈ kW := kwIn 131 (by decide +kernel) (by decide +kernel)
theorem m_i_X0_init : Cond.instanceMethod yX0_init ∈ kW := kwIn 133 (by decide +kernel) (by decide +kernel)
theorem m_c_X0_init : Cond.code yX0_init cX0_init 1 none ∈ kW := kwIn 134 (by decide +kernel) (by decide +kernel)
theorem m_m_X0_3 : Cond.methodLink RX0 3 objectInit ∈ kW := kwIn 135 (by decide +kernel) (by decide +kernel)
theorem m_f_X0_42 : Cond.fieldLink RX0 42 "FogNets$Coast" "cells" "I" ∈ kW := kwIn 136 (by decide +kernel) (by decide +kernel)
theorem m_f_X6_111 : Cond.fieldLink RX6 111 "FogNets$Coast" "cells" "I" ∈ kW := kwIn 137 (by decide +kernel) (by decide +kernel)
theorem m_f_X3_90 : Cond.fieldLink RX3 90 "FogNets$Coast" "cells" "I" ∈ kW := kwIn 138 (by decide +kernel) (by decide +kernel)
theorem m_f_X4_75 : Cond.fieldLink RX4 75 "FogNets$Coast" "cells" "I" ∈ kW := kwIn 139 (by decide +kernel) (by decide +kernel)
theorem m_f_X0_46 : Cond.fieldLink RX0 46 "FogNets$Coast" "burns" "I" ∈ kW := kwIn 140 (by decide +kernel) (by decide +kernel)
theorem m_f_X6_114 : Cond.fieldLink RX6 114 "FogNets$Coast" "burns" "I" ∈ kW := kwIn 141 (by decide +kernel) (by decide +kernel)
theorem m_f_X4_66 : Cond.fieldLink RX4 66 "FogNets$Coast" "burns" "I" ∈ kW := kwIn 142 (by decide +kernel) (by decide +kernel)
theorem m_f_X3_109 : Cond.fieldLink RX3 109 "FogNets$Coast" "burns" "I" ∈ kW := kwIn 143 (by decide +kernel) (by decide +kernel)
theorem m_f_X0_49 : Cond.fieldLink RX0 49 "FogNets$Coast" "hours" "I" ∈ kW := kwIn 144 (by decide +kernel) (by decide +kernel)
theorem m_f_X6_170 : Cond.fieldLink RX6 170 "FogNets$Coast" "hours" "I" ∈ kW := kwIn 145 (by decide +kernel) (by decide +kernel)
theorem m_f_X3_93 : Cond.fieldLink RX3 93 "FogNets$Coast" "hours" "I" ∈ kW := kwIn 146 (by decide +kernel) (by decide +kernel)
theorem m_f_X0_52 : Cond.fieldLink RX0 52 "FogNets$Coast" "posts" "I" ∈ kW := kwIn 147 (by decide +kernel) (by decide +kernel)
theorem m_f_X6_105 : Cond.fieldLink RX6 105 "FogNets$Coast" "posts" "I" ∈ kW := kwIn 148 (by decide +kernel) (by decide +kernel)
theorem m_f_X3_96 : Cond.fieldLink RX3 96 "FogNets$Coast" "posts" "I" ∈ kW := kwIn 149 (by decide +kernel) (by decide +kernel)
theorem m_f_X0_55 : Cond.fieldLink RX0 55 "FogNets$Coast" "goats" "I" ∈ kW := kwIn 150 (by decide +kernel) (by decide +kernel)
theorem m_f_X6_121 : Cond.fieldLink RX6 121 "FogNets$Coast" "goats" "I" ∈ kW := kwIn 151 (by decide +kernel) (by decide +kernel)
theorem m_f_X3_99 : Cond.fieldLink RX3 99 "FogNets$Coast" "goats" "I" ∈ kW := kwIn 152 (by decide +kernel) (by decide +kernel)
theorem m_f_X4_112 : Cond.fieldLink RX4 112 "FogNets$Coast" "goats" "I" ∈ kW := kwIn 153 (by decide +kernel) (by decide +kernel)
theorem m_f_X0_9 : Cond.fieldLink RX0 9 "FogNets$Coast" "side" "[I" ∈ kW := kwIn 154 (by decide +kernel) (by decide +kernel)
theorem m_f_X3_112 : Cond.fieldLink RX3 112 "FogNets$Coast" "side" "[I" ∈ kW := kwIn 155 (by decide +kernel) (by decide +kernel)
theorem m_f_X0_15 : Cond.fieldLink RX0 15 "FogNets$Coast" "thickness" "[I" ∈ kW := kwIn 156 (by decide +kernel) (by decide +kernel)
theorem m_f_X3_115 : Cond.fieldLink RX3 115 "FogNets$Coast" "thickness" "[I" ∈ kW := kwIn 157 (by decide +kernel) (by decide +kernel)
theorem m_f_X0_18 : Cond.fieldLink RX0 18 "FogNets$Coast" "firstCell" "[I" ∈ kW := kwIn 158 (by decide +kernel) (by decide +kernel)
theorem m_f_X4_44 : Cond.fieldLink RX4 44 "FogNets$Coast" "firstCell" "[I" ∈ kW := kwIn 159 (by decide +kernel) (by decide +kernel)
theorem m_f_X3_122 : Cond.fieldLink RX3 122 "FogNets$Coast" "firstCell" "[I" ∈ kW := kwIn 160 (by decide +kernel) (by decide +kernel)
theorem m_f_X0_21 : Cond.fieldLink RX0 21 "FogNets$Coast" "firstMesh" "[I" ∈ kW := kwIn 161 (by decide +kernel) (by decide +kernel)
theorem m_f_X4_49 : Cond.fieldLink RX4 49 "FogNets$Coast" "firstMesh" "[I" ∈ kW := kwIn 162 (by decide +kernel) (by decide +kernel)
theorem m_f_X3_125 : Cond.fieldLink RX3 125 "FogNets$Coast" "firstMesh" "[I" ∈ kW := kwIn 163 (by decide +kernel) (by decide +kernel)
theorem m_f_X0_24 : Cond.fieldLink RX0 24 "FogNets$Coast" "jarSize" "[I" ∈ kW := kwIn 164 (by decide +kernel) (by decide +kernel)
theorem m_f_X6_161 : Cond.fieldLink RX6 161 "FogNets$Coast" "jarSize" "[I" ∈ kW := kwIn 165 (by decide +kernel) (by decide +kernel)
theorem m_f_X4_95 : Cond.fieldLink RX4 95 "FogNets$Coast" "jarSize" "[I" ∈ kW := kwIn 166 (by decide +kernel) (by decide +kernel)
theorem m_f_X3_128 : Cond.fieldLink RX3 128 "FogNets$Coast" "jarSize" "[I" ∈ kW := kwIn 167 (by decide +kernel) (by decide +kernel)
theorem m_f_X0_27 : Cond.fieldLink RX0 27 "FogNets$Coast" "owner" "[I" ∈ kW := kwIn 168 (by decide +kernel) (by decide +kernel)
theorem m_f_X6_164 : Cond.fieldLink RX6 164 "FogNets$Coast" "owner" "[I" ∈ kW := kwIn 169 (by decide +kernel) (by decide +kernel)
theorem m_f_X4_137 : Cond.fieldLink RX4 137 "FogNets$Coast" "owner" "[I" ∈ kW := kwIn 170 (by decide +kernel) (by decide +kernel)
theorem m_f_X3_131 : Cond.fieldLink RX3 131 "FogNets$Coast" "owner" "[I" ∈ kW := kwIn 171 (by decide +kernel) (by decide +kernel)
theorem m_f_X0_30 : Cond.fieldLink RX0 30 "FogNets$Coast" "hangDays" "[I" ∈ kW := kwIn 172 (by decide +kernel) (by decide +kernel)
theorem m_f_X3_77 : Cond.fieldLink RX3 77 "FogNets$Coast" "hangDays" "[I" ∈ kW := kwIn 173 (by decide +kernel) (by decide +kernel)
theorem m_f_X6_187 : Cond.fieldLink RX6 187 "FogNets$Coast" "hangDays" "[I" ∈ kW := kwIn 174 (by decide +kernel) (by decide +kernel)
theorem m_f_X0_33 : Cond.fieldLink RX0 33 "FogNets$Coast" "uses" "[I" ∈ kW := kwIn 175 (by decide +kernel) (by decide +kernel)
theorem m_f_X3_84 : Cond.fieldLink RX3 84 "FogNets$Coast" "uses" "[I" ∈ kW := kwIn 176 (by decide +kernel) (by decide +kernel)
theorem m_f_X6_190 : Cond.fieldLink RX6 190 "FogNets$Coast" "uses" "[I" ∈ kW := kwIn 177 (by decide +kernel) (by decide +kernel)
theorem m_f_X4_131 : Cond.fieldLink RX4 131 "FogNets$Coast" "uses" "[I" ∈ kW := kwIn 178 (by decide +kernel) (by decide +kernel)
theorem m_f_X0_36 : Cond.fieldLink RX0 36 "FogNets$Coast" "goatCell" "[I" ∈ kW := kwIn 179 (by decide +kernel) (by decide +kernel)
theorem m_f_X6_205 : Cond.fieldLink RX6 205 "FogNets$Coast" "goatCell" "[I" ∈ kW := kwIn 180 (by decide +kernel) (by decide +kernel)
theorem m_f_X4_115 : Cond.fieldLink RX4 115 "FogNets$Coast" "goatCell" "[I" ∈ kW := kwIn 181 (by decide +kernel) (by decide +kernel)
theorem m_f_X3_134 : Cond.fieldLink RX3 134 "FogNets$Coast" "goatCell" "[I" ∈ kW := kwIn 182 (by decide +kernel) (by decide +kernel)
theorem m_f_X0_39 : Cond.fieldLink RX0 39 "FogNets$Coast" "goatDrinks" "[I" ∈ kW := kwIn 183 (by decide +kernel) (by decide +kernel)
theorem m_f_X6_208 : Cond.fieldLink RX6 208 "FogNets$Coast" "goatDrinks" "[I" ∈ kW := kwIn 184 (by decide +kernel) (by decide +kernel)
theorem m_f_X4_125 : Cond.fieldLink RX4 125 "FogNets$Coast" "goatDrinks" "[I" ∈ kW := kwIn 185 (by decide +kernel) (by decide +kernel)
theorem m_f_X3_137 : Cond.fieldLink RX3 137 "FogNets$Coast" "goatDrinks" "[I" ∈ kW := kwIn 186 (by decide +kernel) (by decide +kernel)
theorem m_l_X6_26 : Cond.classLink RX6 26 RX4 ∈ kW := kwIn 218 (by decide +kernel) (by decide +kernel)
theorem m_o_X4 : Cond.instantiable RX4 10 ∈ kW := kwIn 219 (by decide +kernel) (by decide +kernel)
theorem m_i_X4_init : Cond.instanceMethod yX4_init ∈ kW := kwIn 221 (by decide +kernel) (by decide +kernel)
theorem m_c_X4_init : Cond.code yX4_init cX4_init 1 none ∈ kW := kwIn 222 (by decide +kernel) (by decide +kernel)
theorem m_m_X4_3 : Cond.methodLink RX4 3 objectInit ∈ kW := kwIn 223 (by decide +kernel) (by decide +kernel)
theorem m_f_X4_9 : Cond.fieldLink RX4 9 "FogNets$State" "days" "I" ∈ kW := kwIn 224 (by decide +kernel) (by decide +kernel)
theorem m_f_X6_124 : Cond.fieldLink RX6 124 "FogNets$State" "days" "I" ∈ kW := kwIn 225 (by decide +kernel) (by decide +kernel)
theorem m_f_X4_15 : Cond.fieldLink RX4 15 "FogNets$State" "hour" "I" ∈ kW := kwIn 226 (by decide +kernel) (by decide +kernel)
theorem m_f_X6_127 : Cond.fieldLink RX6 127 "FogNets$State" "hour" "I" ∈ kW := kwIn 227 (by decide +kernel) (by decide +kernel)
theorem m_f_X4_18 : Cond.fieldLink RX4 18 "FogNets$State" "lit" "Z" ∈ kW := kwIn 228 (by decide +kernel) (by decide +kernel)
theorem m_f_X6_130 : Cond.fieldLink RX6 130 "FogNets$State" "lit" "Z" ∈ kW := kwIn 229 (by decide +kernel) (by decide +kernel)
theorem m_f_X4_22 : Cond.fieldLink RX4 22 "FogNets$State" "spilled" "I" ∈ kW := kwIn 230 (by decide +kernel) (by decide +kernel)
theorem m_f_X6_140 : Cond.fieldLink RX6 140 "FogNets$State" "spilled" "I" ∈ kW := kwIn 231 (by decide +kernel) (by decide +kernel)
theorem m_f_X4_25 : Cond.fieldLink RX4 25 "FogNets$State" "drunk" "I" ∈ kW := kwIn 232 (by decide +kernel) (by decide +kernel)
theorem m_f_X6_143 : Cond.fieldLink RX6 143 "FogNets$State" "drunk" "I" ∈ kW := kwIn 233 (by decide +kernel) (by decide +kernel)
theorem m_f_X4_28 : Cond.fieldLink RX4 28 "FogNets$State" "cell" "[I" ∈ kW := kwIn 234 (by decide +kernel) (by decide +kernel)
theorem m_f_X5_35 : Cond.fieldLink RX5 35 "FogNets$State" "cell" "[I" ∈ kW := kwIn 235 (by decide +kernel) (by decide +kernel)
theorem m_f_X6_151 : Cond.fieldLink RX6 151 "FogNets$State" "cell" "[I" ∈ kW := kwIn 236 (by decide +kernel) (by decide +kernel)
theorem m_f_X4_32 : Cond.fieldLink RX4 32 "FogNets$State" "mesh" "[I" ∈ kW := kwIn 237 (by decide +kernel) (by decide +kernel)
theorem m_f_X5_26 : Cond.fieldLink RX5 26 "FogNets$State" "mesh" "[I" ∈ kW := kwIn 238 (by decide +kernel) (by decide +kernel)
theorem m_f_X6_158 : Cond.fieldLink RX6 158 "FogNets$State" "mesh" "[I" ∈ kW := kwIn 239 (by decide +kernel) (by decide +kernel)
theorem m_f_X4_35 : Cond.fieldLink RX4 35 "FogNets$State" "jar" "[I" ∈ kW := kwIn 240 (by decide +kernel) (by decide +kernel)
theorem m_f_X6_167 : Cond.fieldLink RX6 167 "FogNets$State" "jar" "[I" ∈ kW := kwIn 241 (by decide +kernel) (by decide +kernel)
theorem m_f_X4_38 : Cond.fieldLink RX4 38 "FogNets$State" "cistern" "[I" ∈ kW := kwIn 242 (by decide +kernel) (by decide +kernel)
theorem m_f_X6_193 : Cond.fieldLink RX6 193 "FogNets$State" "cistern" "[I" ∈ kW := kwIn 243 (by decide +kernel) (by decide +kernel)
theorem m_f_X4_41 : Cond.fieldLink RX4 41 "FogNets$State" "thirst" "[I" ∈ kW := kwIn 244 (by decide +kernel) (by decide +kernel)
theorem m_f_X6_196 : Cond.fieldLink RX6 196 "FogNets$State" "thirst" "[I" ∈ kW := kwIn 245 (by decide +kernel) (by decide +kernel)
theorem m_l_X6_40 : Cond.classLink RX6 40 RX5 ∈ kW := kwIn 267 (by decide +kernel) (by decide +kernel)
theorem m_o_X5 : Cond.instantiable RX5 3 ∈ kW := kwIn 268 (by decide +kernel) (by decide +kernel)
theorem m_i_X5_init : Cond.instanceMethod yX5_init ∈ kW := kwIn 270 (by decide +kernel) (by decide +kernel)
theorem m_c_X5_init : Cond.code yX5_init cX5_init 1 none ∈ kW := kwIn 271 (by decide +kernel) (by decide +kernel)
theorem m_m_X5_3 : Cond.methodLink RX5 3 objectInit ∈ kW := kwIn 272 (by decide +kernel) (by decide +kernel)
theorem m_f_X5_9 : Cond.fieldLink RX5 9 "FogNets$Wind" "took" "[I" ∈ kW := kwIn 273 (by decide +kernel) (by decide +kernel)
theorem m_f_X4_92 : Cond.fieldLink RX4 92 "FogNets$Wind" "took" "[I" ∈ kW := kwIn 274 (by decide +kernel) (by decide +kernel)
theorem m_f_X6_256 : Cond.fieldLink RX6 256 "FogNets$Wind" "took" "[I" ∈ kW := kwIn 275 (by decide +kernel) (by decide +kernel)
theorem m_f_X5_15 : Cond.fieldLink RX5 15 "FogNets$Wind" "order" "[I" ∈ kW := kwIn 276 (by decide +kernel) (by decide +kernel)
theorem m_f_X5_18 : Cond.fieldLink RX5 18 "FogNets$Wind" "beyond" "I" ∈ kW := kwIn 277 (by decide +kernel) (by decide +kernel)
theorem m_f_X6_259 : Cond.fieldLink RX6 259 "FogNets$Wind" "beyond" "I" ∈ kW := kwIn 278 (by decide +kernel) (by decide +kernel)
theorem m_l_X6_47 : Cond.classLink RX6 47 RX2 ∈ kW := kwIn 286 (by decide +kernel) (by decide +kernel)
theorem m_o_X2 : Cond.instantiable RX2 3 ∈ kW := kwIn 287 (by decide +kernel) (by decide +kernel)
theorem m_m_X6_49 : Cond.methodLink RX6 49 yX2_init ∈ kW := kwIn 288 (by decide +kernel) (by decide +kernel)
theorem m_i_X2_init : Cond.instanceMethod yX2_init ∈ kW := kwIn 289 (by decide +kernel) (by decide +kernel)
theorem m_c_X2_init : Cond.code yX2_init cX2_init 2 none ∈ kW := kwIn 290 (by decide +kernel) (by decide +kernel)
theorem m_m_X2_3 : Cond.methodLink RX2 3 objectInit ∈ kW := kwIn 291 (by decide +kernel) (by decide +kernel)
theorem m_l_X2_9 : Cond.classLink RX2 9 RX4 ∈ kW := kwIn 292 (by decide +kernel) (by decide +kernel)
theorem m_f_X2_11 : Cond.fieldLink RX2 11 "FogNets$Past" "ring" "[LFogNets$State;" ∈ kW := kwIn 295 (by decide +kernel) (by decide +kernel)
theorem m_f_X2_17 : Cond.fieldLink RX2 17 "FogNets$Past" "oldest" "I" ∈ kW := kwIn 296 (by decide +kernel) (by decide +kernel)
theorem m_f_X2_21 : Cond.fieldLink RX2 21 "FogNets$Past" "many" "I" ∈ kW := kwIn 297 (by decide +kernel) (by decide +kernel)
theorem m_f_X6_101 : Cond.fieldLink RX6 101 "FogNets$Past" "many" "I" ∈ kW := kwIn 298 (by decide +kernel) (by decide +kernel)
theorem m_l_X6_65 : Cond.classLink RX6 65 RX1 ∈ kW := kwIn 306 (by decide +kernel) (by decide +kernel)
theorem m_o_X1 : Cond.instantiable RX1 4 ∈ kW := kwIn 307 (by decide +kernel) (by decide +kernel)
theorem m_m_X6_67 : Cond.methodLink RX6 67 yX1_init ∈ kW := kwIn 308 (by decide +kernel) (by decide +kernel)
theorem m_i_X1_init : Cond.instanceMethod yX1_init ∈ kW := kwIn 309 (by decide +kernel) (by decide +kernel)
theorem m_c_X1_init : Cond.code yX1_init cX1_init 3 none ∈ kW := kwIn 310 (by decide +kernel) (by decide +kernel)
theorem m_m_X1_1 : Cond.methodLink RX1 1 objectInit ∈ kW := kwIn 311 (by decide +kernel) (by decide +kernel)
theorem m_m_X1_13 : Cond.methodLink RX1 13 Lib.Math.max.name ∈ kW := kwIn 312 (by decide +kernel) (by decide +kernel)
theorem m_s_mmax : Cond.static Lib.Math.max.name ∈ kW := kwIn 313 (by decide +kernel) (by decide +kernel)
theorem m_c_mmax : Cond.code Lib.Math.max.name Lib.Math.max.code 2 (some .int) ∈ kW := kwIn 314 (by decide +kernel) (by decide +kernel)
theorem m_f_X1_19 : Cond.fieldLink RX1 19 "FogNets$Notes" "posts" "[I" ∈ kW := kwIn 315 (by decide +kernel) (by decide +kernel)
theorem m_f_X6_317 : Cond.fieldLink RX6 317 "FogNets$Notes" "posts" "[I" ∈ kW := kwIn 316 (by decide +kernel) (by decide +kernel)
theorem m_f_X1_23 : Cond.fieldLink RX1 23 "FogNets$Notes" "sides" "[I" ∈ kW := kwIn 317 (by decide +kernel) (by decide +kernel)
theorem m_f_X6_339 : Cond.fieldLink RX6 339 "FogNets$Notes" "sides" "[I" ∈ kW := kwIn 318 (by decide +kernel) (by decide +kernel)
theorem m_f_X1_26 : Cond.fieldLink RX1 26 "FogNets$Notes" "amounts" "[I" ∈ kW := kwIn 319 (by decide +kernel) (by decide +kernel)
theorem m_f_X6_319 : Cond.fieldLink RX6 319 "FogNets$Notes" "amounts" "[I" ∈ kW := kwIn 320 (by decide +kernel) (by decide +kernel)
theorem m_f_X1_7 : Cond.fieldLink RX1 7 "FogNets$Notes" "many" "I" ∈ kW := kwIn 321 (by decide +kernel) (by decide +kernel)
theorem m_f_X6_104 : Cond.fieldLink RX6 104 "FogNets$Notes" "many" "I" ∈ kW := kwIn 322 (by decide +kernel) (by decide +kernel)
theorem m_f_X6_10 : Cond.fieldLink RX6 10 "FogNets" "reader" "LFogNets$Reader;" ∈ kW := kwIn 332 (by decide +kernel) (by decide +kernel)
theorem m_f_X6_19 : Cond.fieldLink RX6 19 "FogNets" "ridge" "LFogNets$Coast;" ∈ kW := kwIn 333 (by decide +kernel) (by decide +kernel)
theorem m_f_X6_23 : Cond.fieldLink RX6 23 "FogNets" "draft" "LFogNets$Coast;" ∈ kW := kwIn 334 (by decide +kernel) (by decide +kernel)
theorem m_f_X6_29 : Cond.fieldLink RX6 29 "FogNets" "now" "LFogNets$State;" ∈ kW := kwIn 335 (by decide +kernel) (by decide +kernel)
theorem m_f_X6_33 : Cond.fieldLink RX6 33 "FogNets" "trial" "LFogNets$State;" ∈ kW := kwIn 336 (by decide +kernel) (by decide +kernel)
theorem m_f_X6_36 : Cond.fieldLink RX6 36 "FogNets" "hauls" "[I" ∈ kW := kwIn 337 (by decide +kernel) (by decide +kernel)
theorem m_f_X6_43 : Cond.fieldLink RX6 43 "FogNets" "wind" "LFogNets$Wind;" ∈ kW := kwIn 338 (by decide +kernel) (by decide +kernel)
theorem m_f_X6_50 : Cond.fieldLink RX6 50 "FogNets" "past" "LFogNets$Past;" ∈ kW := kwIn 339 (by decide +kernel) (by decide +kernel)
theorem m_f_X6_54 : Cond.fieldLink RX6 54 "FogNets" "images" "[LFogNets$State;" ∈ kW := kwIn 340 (by decide +kernel) (by decide +kernel)
theorem m_f_X6_58 : Cond.fieldLink RX6 58 "FogNets" "imageSeeds" "[I" ∈ kW := kwIn 341 (by decide +kernel) (by decide +kernel)
theorem m_f_X6_61 : Cond.fieldLink RX6 61 "FogNets" "seed" "I" ∈ kW := kwIn 342 (by decide +kernel) (by decide +kernel)
theorem m_f_X6_70 : Cond.fieldLink RX6 70 "FogNets" "gotten" "LFogNets$Notes;" ∈ kW := kwIn 343 (by decide +kernel) (by decide +kernel)
theorem m_f_X6_74 : Cond.fieldLink RX6 74 "FogNets" "book" "LFogNets$Notes;" ∈ kW := kwIn 344 (by decide +kernel) (by decide +kernel)
theorem m_f_X6_77 : Cond.fieldLink RX6 77 "FogNets" "parts" "[I" ∈ kW := kwIn 345 (by decide +kernel) (by decide +kernel)
theorem m_m_L_13 : Cond.methodLink RL 13 yX6_feed ∈ kW := kwIn 375 (by decide +kernel) (by decide +kernel)
theorem m_i_X6_feed : Cond.instanceMethod yX6_feed ∈ kW := kwIn 376 (by decide +kernel) (by decide +kernel)
theorem m_x_X6_feed : Cond.selects RX6 yX6_feed yX6_feed ∈ kW := kwIn 377 (by decide +kernel) (by decide +kernel)
theorem m_c_X6_feed : Cond.code yX6_feed cX6_feed 2 (some .int) ∈ kW := kwIn 378 (by decide +kernel) (by decide +kernel)
theorem m_m_X6_80 : Cond.methodLink RX6 80 yX6_within ∈ kW := kwIn 379 (by decide +kernel) (by decide +kernel)
theorem m_s_X6_within : Cond.static yX6_within ∈ kW := kwIn 380 (by decide +kernel) (by decide +kernel)
theorem m_c_X6_within : Cond.code yX6_within cX6_within 3 (some .boolean) ∈ kW := kwIn 381 (by decide +kernel) (by decide +kernel)
theorem m_k_X6_84 : Cond.constant RX6 84 (-1000000002) ∈ kW := kwIn 382 (by decide +kernel) (by decide +kernel)
theorem m_k_X6_88 : Cond.constant RX6 88 (-1000000004) ∈ kW := kwIn 383 (by decide +kernel) (by decide +kernel)
theorem m_m_X6_89 : Cond.methodLink RX6 89 yX3_append ∈ kW := kwIn 384 (by decide +kernel) (by decide +kernel)
theorem m_i_X3_append : Cond.instanceMethod yX3_append ∈ kW := kwIn 385 (by decide +kernel) (by decide +kernel)
theorem m_x_X3_append : Cond.selects RX3 yX3_append yX3_append ∈ kW := kwIn 386 (by decide +kernel) (by decide +kernel)
theorem m_c_X3_append : Cond.code yX3_append cX3_append 2 (some .int) ∈ kW := kwIn 387 (by decide +kernel) (by decide +kernel)
theorem m_s_X6_put : Cond.static yX6_put ∈ kW := kwIn 389 (by decide +kernel) (by decide +kernel)
theorem m_c_X6_put : Cond.code yX6_put cX6_put 3 none ∈ kW := kwIn 390 (by decide +kernel) (by decide +kernel)
theorem m_m_L_18 : Cond.methodLink RL 18 yX6_coast ∈ kW := kwIn 391 (by decide +kernel) (by decide +kernel)
theorem m_i_X6_coast : Cond.instanceMethod yX6_coast ∈ kW := kwIn 392 (by decide +kernel) (by decide +kernel)
theorem m_x_X6_coast : Cond.selects RX6 yX6_coast yX6_coast ∈ kW := kwIn 393 (by decide +kernel) (by decide +kernel)
theorem m_c_X6_coast : Cond.code yX6_coast cX6_coast 3 (some .int) ∈ kW := kwIn 394 (by decide +kernel) (by decide +kernel)
theorem m_m_X6_93 : Cond.methodLink RX6 93 yX3_readAll ∈ kW := kwIn 395 (by decide +kernel) (by decide +kernel)
theorem m_i_X3_readAll : Cond.instanceMethod yX3_readAll ∈ kW := kwIn 396 (by decide +kernel) (by decide +kernel)
theorem m_x_X3_readAll : Cond.selects RX3 yX3_readAll yX3_readAll ∈ kW := kwIn 397 (by decide +kernel) (by decide +kernel)
theorem m_c_X3_readAll : Cond.code yX3_readAll cX3_readAll 4 (some .int) ∈ kW := kwIn 398 (by decide +kernel) (by decide +kernel)
theorem m_m_X3_42 : Cond.methodLink RX3 42 yX0_wipe ∈ kW := kwIn 399 (by decide +kernel) (by decide +kernel)
theorem m_i_X0_wipe : Cond.instanceMethod yX0_wipe ∈ kW := kwIn 400 (by decide +kernel) (by decide +kernel)
theorem m_x_X0_wipe : Cond.selects RX0 yX0_wipe yX0_wipe ∈ kW := kwIn 401 (by decide +kernel) (by decide +kernel)
theorem m_c_X0_wipe : Cond.code yX0_wipe cX0_wipe 2 none ∈ kW := kwIn 402 (by decide +kernel) (by decide +kernel)
theorem m_m_X3_47 : Cond.methodLink RX3 47 yX3_nextLetter ∈ kW := kwIn 403 (by decide +kernel) (by decide +kernel)
theorem m_i_X3_nextLetter : Cond.instanceMethod yX3_nextLetter ∈ kW := kwIn 405 (by decide +kernel) (by decide +kernel)
theorem m_c_X3_nextLetter : Cond.code yX3_nextLetter cX3_nextLetter 1 (some .int) ∈ kW := kwIn 406 (by decide +kernel) (by decide +kernel)
theorem m_m_X3_55 : Cond.methodLink RX3 55 yX3_letterAt ∈ kW := kwIn 407 (by decide +kernel) (by decide +kernel)
theorem m_i_X3_letterAt : Cond.instanceMethod yX3_letterAt ∈ kW := kwIn 409 (by decide +kernel) (by decide +kernel)
theorem m_c_X3_letterAt : Cond.code yX3_letterAt cX3_letterAt 2 (some .int) ∈ kW := kwIn 410 (by decide +kernel) (by decide +kernel)
theorem m_m_X3_51 : Cond.methodLink RX3 51 yX3_readClause ∈ kW := kwIn 411 (by decide +kernel) (by decide +kernel)
theorem m_i_X3_readClause : Cond.instanceMethod yX3_readClause ∈ kW := kwIn 413 (by decide +kernel) (by decide +kernel)
theorem m_c_X3_readClause : Cond.code yX3_readClause cX3_readClause 4 none ∈ kW := kwIn 414 (by decide +kernel) (by decide +kernel)
theorem m_m_X3_59 : Cond.methodLink RX3 59 yX3_faultOfWord ∈ kW := kwIn 415 (by decide +kernel) (by decide +kernel)
theorem m_i_X3_faultOfWord : Cond.instanceMethod yX3_faultOfWord ∈ kW := kwIn 417 (by decide +kernel) (by decide +kernel)
theorem m_c_X3_faultOfWord : Cond.code yX3_faultOfWord cX3_faultOfWord 3 (some .int) ∈ kW := kwIn 418 (by decide +kernel) (by decide +kernel)
theorem m_m_X3_63 : Cond.methodLink RX3 63 yX3_fail ∈ kW := kwIn 419 (by decide +kernel) (by decide +kernel)
theorem m_i_X3_fail : Cond.instanceMethod yX3_fail ∈ kW := kwIn 421 (by decide +kernel) (by decide +kernel)
theorem m_c_X3_fail : Cond.code yX3_fail cX3_fail 3 none ∈ kW := kwIn 422 (by decide +kernel) (by decide +kernel)
theorem m_m_X3_67 : Cond.methodLink RX3 67 yX3_readCells ∈ kW := kwIn 423 (by decide +kernel) (by decide +kernel)
theorem m_i_X3_readCells : Cond.instanceMethod yX3_readCells ∈ kW := kwIn 425 (by decide +kernel) (by decide +kernel)
theorem m_c_X3_readCells : Cond.code yX3_readCells cX3_readCells 4 none ∈ kW := kwIn 426 (by decide +kernel) (by decide +kernel)
theorem m_m_X3_102 : Cond.methodLink RX3 102 yX3_readNumber ∈ kW := kwIn 427 (by decide +kernel) (by decide +kernel)
theorem m_i_X3_readNumber : Cond.instanceMethod yX3_readNumber ∈ kW := kwIn 429 (by decide +kernel) (by decide +kernel)
theorem m_c_X3_readNumber : Cond.code yX3_readNumber cX3_readNumber 6 (some .int) ∈ kW := kwIn 430 (by decide +kernel) (by decide +kernel)
theorem m_m_X3_106 : Cond.methodLink RX3 106 yX3_readEnd ∈ kW := kwIn 432 (by decide +kernel) (by decide +kernel)
theorem m_i_X3_readEnd : Cond.instanceMethod yX3_readEnd ∈ kW := kwIn 434 (by decide +kernel) (by decide +kernel)
theorem m_c_X3_readEnd : Cond.code yX3_readEnd cX3_readEnd 1 none ∈ kW := kwIn 435 (by decide +kernel) (by decide +kernel)
theorem m_m_X3_71 : Cond.methodLink RX3 71 yX3_readHour ∈ kW := kwIn 436 (by decide +kernel) (by decide +kernel)
theorem m_i_X3_readHour : Cond.instanceMethod yX3_readHour ∈ kW := kwIn 438 (by decide +kernel) (by decide +kernel)
theorem m_c_X3_readHour : Cond.code yX3_readHour cX3_readHour 4 none ∈ kW := kwIn 439 (by decide +kernel) (by decide +kernel)
theorem m_m_X3_74 : Cond.methodLink RX3 74 yX3_readPost ∈ kW := kwIn 440 (by decide +kernel) (by decide +kernel)
theorem m_i_X3_readPost : Cond.instanceMethod yX3_readPost ∈ kW := kwIn 442 (by decide +kernel) (by decide +kernel)
theorem m_c_X3_readPost : Cond.code yX3_readPost cX3_readPost 6 none ∈ kW := kwIn 443 (by decide +kernel) (by decide +kernel)
theorem m_m_X3_118 : Cond.methodLink RX3 118 yX0_hasPostIn ∈ kW := kwIn 444 (by decide +kernel) (by decide +kernel)
theorem m_i_X0_hasPostIn : Cond.instanceMethod yX0_hasPostIn ∈ kW := kwIn 445 (by decide +kernel) (by decide +kernel)
theorem m_x_X0_hasPostIn : Cond.selects RX0 yX0_hasPostIn yX0_hasPostIn ∈ kW := kwIn 446 (by decide +kernel) (by decide +kernel)
theorem m_c_X0_hasPostIn : Cond.code yX0_hasPostIn cX0_hasPostIn 3 (some .boolean) ∈ kW := kwIn 447 (by decide +kernel) (by decide +kernel)
theorem m_m_X3_80 : Cond.methodLink RX3 80 yX3_readPair ∈ kW := kwIn 448 (by decide +kernel) (by decide +kernel)
theorem m_i_X3_readPair : Cond.instanceMethod yX3_readPair ∈ kW := kwIn 450 (by decide +kernel) (by decide +kernel)
theorem m_c_X3_readPair : Cond.code yX3_readPair cX3_readPair 3 none ∈ kW := kwIn 451 (by decide +kernel) (by decide +kernel)
theorem m_m_X3_87 : Cond.methodLink RX3 87 yX3_readGoat ∈ kW := kwIn 452 (by decide +kernel) (by decide +kernel)
theorem m_i_X3_readGoat : Cond.instanceMethod yX3_readGoat ∈ kW := kwIn 454 (by decide +kernel) (by decide +kernel)
theorem m_c_X3_readGoat : Cond.code yX3_readGoat cX3_readGoat 4 none ∈ kW := kwIn 455 (by decide +kernel) (by decide +kernel)
theorem m_m_X6_97 : Cond.methodLink RX6 97 yX4_begin ∈ kW := kwIn 456 (by decide +kernel) (by decide +kernel)
theorem m_i_X4_begin : Cond.instanceMethod yX4_begin ∈ kW := kwIn 457 (by decide +kernel) (by decide +kernel)
theorem m_x_X4_begin : Cond.selects RX4 yX4_begin yX4_begin ∈ kW := kwIn 458 (by decide +kernel) (by decide +kernel)
theorem m_c_X4_begin : Cond.code yX4_begin cX4_begin 3 none ∈ kW := kwIn 459 (by decide +kernel) (by decide +kernel)
theorem m_m_L_23 : Cond.methodLink RL 23 yX6_fault ∈ kW := kwIn 460 (by decide +kernel) (by decide +kernel)
theorem m_i_X6_fault : Cond.instanceMethod yX6_fault ∈ kW := kwIn 461 (by decide +kernel) (by decide +kernel)
theorem m_x_X6_fault : Cond.selects RX6 yX6_fault yX6_fault ∈ kW := kwIn 462 (by decide +kernel) (by decide +kernel)
theorem m_c_X6_fault : Cond.code yX6_fault cX6_fault 1 (some .int) ∈ kW := kwIn 463 (by decide +kernel) (by decide +kernel)
theorem m_m_L_27 : Cond.methodLink RL 27 yX6_told ∈ kW := kwIn 464 (by decide +kernel) (by decide +kernel)
theorem m_i_X6_told : Cond.instanceMethod yX6_told ∈ kW := kwIn 465 (by decide +kernel) (by decide +kernel)
theorem m_x_X6_told : Cond.selects RX6 yX6_told yX6_told ∈ kW := kwIn 466 (by decide +kernel) (by decide +kernel)
theorem m_c_X6_told : Cond.code yX6_told cX6_told 2 (some .int) ∈ kW := kwIn 467 (by decide +kernel) (by decide +kernel)
theorem m_m_X6_117 : Cond.methodLink RX6 117 yX0_hoursOfDay ∈ kW := kwIn 468 (by decide +kernel) (by decide +kernel)
theorem m_i_X0_hoursOfDay : Cond.instanceMethod yX0_hoursOfDay ∈ kW := kwIn 469 (by decide +kernel) (by decide +kernel)
theorem m_x_X0_hoursOfDay : Cond.selects RX0 yX0_hoursOfDay yX0_hoursOfDay ∈ kW := kwIn 470 (by decide +kernel) (by decide +kernel)
theorem m_c_X0_hoursOfDay : Cond.code yX0_hoursOfDay cX0_hoursOfDay 1 (some .int) ∈ kW := kwIn 471 (by decide +kernel) (by decide +kernel)
theorem m_m_X0_58 : Cond.methodLink RX0 58 Lib.Math.max.name ∈ kW := kwIn 472 (by decide +kernel) (by decide +kernel)
theorem m_m_X6_134 : Cond.methodLink RX6 134 yX4_hanging ∈ kW := kwIn 473 (by decide +kernel) (by decide +kernel)
theorem m_i_X4_hanging : Cond.instanceMethod yX4_hanging ∈ kW := kwIn 474 (by decide +kernel) (by decide +kernel)
theorem m_x_X4_hanging : Cond.selects RX4 yX4_hanging yX4_hanging ∈ kW := kwIn 475 (by decide +kernel) (by decide +kernel)
theorem m_c_X4_hanging : Cond.code yX4_hanging cX4_hanging 4 (some .int) ∈ kW := kwIn 476 (by decide +kernel) (by decide +kernel)
theorem m_m_X4_58 : Cond.methodLink RX4 58 yX0_hangsOn ∈ kW := kwIn 477 (by decide +kernel) (by decide +kernel)
theorem m_i_X0_hangsOn : Cond.instanceMethod yX0_hangsOn ∈ kW := kwIn 478 (by decide +kernel) (by decide +kernel)
theorem m_x_X0_hangsOn : Cond.selects RX0 yX0_hangsOn yX0_hangsOn ∈ kW := kwIn 479 (by decide +kernel) (by decide +kernel)
theorem m_c_X0_hangsOn : Cond.code yX0_hangsOn cX0_hangsOn 3 (some .boolean) ∈ kW := kwIn 480 (by decide +kernel) (by decide +kernel)
theorem m_s_X6_at : Cond.static yX6_at ∈ kW := kwIn 482 (by decide +kernel) (by decide +kernel)
theorem m_c_X6_at : Cond.code yX6_at cX6_at 2 (some .int) ∈ kW := kwIn 483 (by decide +kernel) (by decide +kernel)
theorem m_m_X4_62 : Cond.methodLink RX4 62 yX0_postsOf ∈ kW := kwIn 484 (by decide +kernel) (by decide +kernel)
theorem m_i_X0_postsOf : Cond.instanceMethod yX0_postsOf ∈ kW := kwIn 485 (by decide +kernel) (by decide +kernel)
theorem m_x_X0_postsOf : Cond.selects RX0 yX0_postsOf yX0_postsOf ∈ kW := kwIn 486 (by decide +kernel) (by decide +kernel)
theorem m_c_X0_postsOf : Cond.code yX0_postsOf cX0_postsOf 4 (some .int) ∈ kW := kwIn 487 (by decide +kernel) (by decide +kernel)
theorem m_m_X6_137 : Cond.methodLink RX6 137 yX4_inJars ∈ kW := kwIn 488 (by decide +kernel) (by decide +kernel)
theorem m_i_X4_inJars : Cond.instanceMethod yX4_inJars ∈ kW := kwIn 489 (by decide +kernel) (by decide +kernel)
theorem m_x_X4_inJars : Cond.selects RX4 yX4_inJars yX4_inJars ∈ kW := kwIn 490 (by decide +kernel) (by decide +kernel)
theorem m_c_X4_inJars : Cond.code yX4_inJars cX4_inJars 3 (some .int) ∈ kW := kwIn 491 (by decide +kernel) (by decide +kernel)
theorem m_m_L_31 : Cond.methodLink RL 31 yX6_post ∈ kW := kwIn 492 (by decide +kernel) (by decide +kernel)
theorem m_i_X6_post : Cond.instanceMethod yX6_post ∈ kW := kwIn 493 (by decide +kernel) (by decide +kernel)
theorem m_x_X6_post : Cond.selects RX6 yX6_post yX6_post ∈ kW := kwIn 494 (by decide +kernel) (by decide +kernel)
theorem m_c_X6_post : Cond.code yX6_post cX6_post 3 (some .int) ∈ kW := kwIn 495 (by decide +kernel) (by decide +kernel)
theorem m_m_X6_146 : Cond.methodLink RX6 146 yX6_isPost ∈ kW := kwIn 496 (by decide +kernel) (by decide +kernel)
theorem m_i_X6_isPost : Cond.instanceMethod yX6_isPost ∈ kW := kwIn 498 (by decide +kernel) (by decide +kernel)
theorem m_c_X6_isPost : Cond.code yX6_isPost cX6_isPost 2 (some .boolean) ∈ kW := kwIn 499 (by decide +kernel) (by decide +kernel)
theorem m_k_X6_150 : Cond.constant RX6 150 (-1000000001) ∈ kW := kwIn 500 (by decide +kernel) (by decide +kernel)
theorem m_m_X6_154 : Cond.methodLink RX6 154 yX6_at ∈ kW := kwIn 501 (by decide +kernel) (by decide +kernel)
theorem m_m_L_36 : Cond.methodLink RL 36 yX6_fog ∈ kW := kwIn 502 (by decide +kernel) (by decide +kernel)
theorem m_i_X6_fog : Cond.instanceMethod yX6_fog ∈ kW := kwIn 503 (by decide +kernel) (by decide +kernel)
theorem m_x_X6_fog : Cond.selects RX6 yX6_fog yX6_fog ∈ kW := kwIn 504 (by decide +kernel) (by decide +kernel)
theorem m_c_X6_fog : Cond.code yX6_fog cX6_fog 4 (some .int) ∈ kW := kwIn 505 (by decide +kernel) (by decide +kernel)
theorem m_m_X6_173 : Cond.methodLink RX6 173 yX6_isBare ∈ kW := kwIn 506 (by decide +kernel) (by decide +kernel)
theorem m_i_X6_isBare : Cond.instanceMethod yX6_isBare ∈ kW := kwIn 508 (by decide +kernel) (by decide +kernel)
theorem m_c_X6_isBare : Cond.code yX6_isBare cX6_isBare 1 (some .boolean) ∈ kW := kwIn 509 (by decide +kernel) (by decide +kernel)
theorem m_k_X6_177 : Cond.constant RX6 177 (-1000000003) ∈ kW := kwIn 510 (by decide +kernel) (by decide +kernel)
theorem m_m_X6_178 : Cond.methodLink RX6 178 yX0_sideAt ∈ kW := kwIn 511 (by decide +kernel) (by decide +kernel)
theorem m_i_X0_sideAt : Cond.instanceMethod yX0_sideAt ∈ kW := kwIn 512 (by decide +kernel) (by decide +kernel)
theorem m_x_X0_sideAt : Cond.selects RX0 yX0_sideAt yX0_sideAt ∈ kW := kwIn 513 (by decide +kernel) (by decide +kernel)
theorem m_c_X0_sideAt : Cond.code yX0_sideAt cX0_sideAt 2 (some .int) ∈ kW := kwIn 514 (by decide +kernel) (by decide +kernel)
theorem m_m_X6_181 : Cond.methodLink RX6 181 yX0_fogAt ∈ kW := kwIn 515 (by decide +kernel) (by decide +kernel)
theorem m_i_X0_fogAt : Cond.instanceMethod yX0_fogAt ∈ kW := kwIn 516 (by decide +kernel) (by decide +kernel)
theorem m_x_X0_fogAt : Cond.selects RX0 yX0_fogAt yX0_fogAt ∈ kW := kwIn 517 (by decide +kernel) (by decide +kernel)
theorem m_c_X0_fogAt : Cond.code yX0_fogAt cX0_fogAt 2 (some .int) ∈ kW := kwIn 518 (by decide +kernel) (by decide +kernel)
theorem m_m_L_40 : Cond.methodLink RL 40 yX6_village ∈ kW := kwIn 519 (by decide +kernel) (by decide +kernel)
theorem m_i_X6_village : Cond.instanceMethod yX6_village ∈ kW := kwIn 520 (by decide +kernel) (by decide +kernel)
theorem m_x_X6_village : Cond.selects RX6 yX6_village yX6_village ∈ kW := kwIn 521 (by decide +kernel) (by decide +kernel)
theorem m_c_X6_village : Cond.code yX6_village cX6_village 3 (some .int) ∈ kW := kwIn 522 (by decide +kernel) (by decide +kernel)
theorem m_m_X6_184 : Cond.methodLink RX6 184 yX6_isVillage ∈ kW := kwIn 523 (by decide +kernel) (by decide +kernel)
theorem m_s_X6_isVillage : Cond.static yX6_isVillage ∈ kW := kwIn 524 (by decide +kernel) (by decide +kernel)
theorem m_c_X6_isVillage : Cond.code yX6_isVillage cX6_isVillage 1 (some .boolean) ∈ kW := kwIn 525 (by decide +kernel) (by decide +kernel)
theorem m_m_X6_199 : Cond.methodLink RX6 199 yX0_postsOf ∈ kW := kwIn 526 (by decide +kernel) (by decide +kernel)
theorem m_m_L_44 : Cond.methodLink RL 44 yX6_goat ∈ kW := kwIn 527 (by decide +kernel) (by decide +kernel)
theorem m_i_X6_goat : Cond.instanceMethod yX6_goat ∈ kW := kwIn 528 (by decide +kernel) (by decide +kernel)
theorem m_x_X6_goat : Cond.selects RX6 yX6_goat yX6_goat ∈ kW := kwIn 529 (by decide +kernel) (by decide +kernel)
theorem m_c_X6_goat : Cond.code yX6_goat cX6_goat 3 (some .int) ∈ kW := kwIn 530 (by decide +kernel) (by decide +kernel)
theorem m_m_X6_202 : Cond.methodLink RX6 202 yX6_isGoat ∈ kW := kwIn 531 (by decide +kernel) (by decide +kernel)
theorem m_i_X6_isGoat : Cond.instanceMethod yX6_isGoat ∈ kW := kwIn 533 (by decide +kernel) (by decide +kernel)
theorem m_c_X6_isGoat : Cond.code yX6_isGoat cX6_isGoat 2 (some .boolean) ∈ kW := kwIn 534 (by decide +kernel) (by decide +kernel)
theorem m_m_L_48 : Cond.methodLink RL 48 yX6_hour ∈ kW := kwIn 535 (by decide +kernel) (by decide +kernel)
theorem m_i_X6_hour : Cond.instanceMethod yX6_hour ∈ kW := kwIn 536 (by decide +kernel) (by decide +kernel)
theorem m_x_X6_hour : Cond.selects RX6 yX6_hour yX6_hour ∈ kW := kwIn 537 (by decide +kernel) (by decide +kernel)
theorem m_c_X6_hour : Cond.code yX6_hour cX6_hour 4 (some .int) ∈ kW := kwIn 538 (by decide +kernel) (by decide +kernel)
theorem m_m_X6_211 : Cond.methodLink RX6 211 yX2_remember ∈ kW := kwIn 539 (by decide +kernel) (by decide +kernel)
theorem m_i_X2_remember : Cond.instanceMethod yX2_remember ∈ kW := kwIn 540 (by decide +kernel) (by decide +kernel)
theorem m_x_X2_remember : Cond.selects RX2 yX2_remember yX2_remember ∈ kW := kwIn 541 (by decide +kernel) (by decide +kernel)
theorem m_c_X2_remember : Cond.code yX2_remember cX2_remember 3 none ∈ kW := kwIn 542 (by decide +kernel) (by decide +kernel)
theorem m_m_X2_25 : Cond.methodLink RX2 25 yX2_stateAt ∈ kW := kwIn 543 (by decide +kernel) (by decide +kernel)
theorem m_i_X2_stateAt : Cond.instanceMethod yX2_stateAt ∈ kW := kwIn 545 (by decide +kernel) (by decide +kernel)
theorem m_c_X2_stateAt : Cond.code yX2_stateAt cX2_stateAt 3 (some (.object RX4)) ∈ kW := kwIn 546 (by decide +kernel) (by decide +kernel)
theorem m_m_X2_29 : Cond.methodLink RX2 29 yX4_become ∈ kW := kwIn 547 (by decide +kernel) (by decide +kernel)
theorem m_i_X4_become : Cond.instanceMethod yX4_become ∈ kW := kwIn 548 (by decide +kernel) (by decide +kernel)
theorem m_x_X4_become : Cond.selects RX4 yX4_become yX4_become ∈ kW := kwIn 549 (by decide +kernel) (by decide +kernel)
theorem m_c_X4_become : Cond.code yX4_become cX4_become 2 none ∈ kW := kwIn 550 (by decide +kernel) (by decide +kernel)
theorem m_m_X4_52 : Cond.methodLink RX4 52 arraycopyName ∈ kW := kwIn 551 (by decide +kernel) (by decide +kernel)
theorem m_s_arraycopyName : Cond.static arraycopyName ∈ kW := kwIn 552 (by decide +kernel) (by decide +kernel)
theorem m_v_arraycopyName : Cond.native arraycopyName ∈ kW := kwIn 553 (by decide +kernel) (by decide +kernel)
theorem m_m_X6_215 : Cond.methodLink RX6 215 yX4_passHour ∈ kW := kwIn 554 (by decide +kernel) (by decide +kernel)
theorem m_i_X4_passHour : Cond.instanceMethod yX4_passHour ∈ kW := kwIn 555 (by decide +kernel) (by decide +kernel)
theorem m_x_X4_passHour : Cond.selects RX4 yX4_passHour yX4_passHour ∈ kW := kwIn 556 (by decide +kernel) (by decide +kernel)
theorem m_c_X4_passHour : Cond.code yX4_passHour cX4_passHour 9 (some .int) ∈ kW := kwIn 557 (by decide +kernel) (by decide +kernel)
theorem m_m_X4_78 : Cond.methodLink RX4 78 yX4_hanging ∈ kW := kwIn 558 (by decide +kernel) (by decide +kernel)
theorem m_m_X4_82 : Cond.methodLink RX4 82 yX4_lampedFog ∈ kW := kwIn 559 (by decide +kernel) (by decide +kernel)
theorem m_i_X4_lampedFog : Cond.instanceMethod yX4_lampedFog ∈ kW := kwIn 560 (by decide +kernel) (by decide +kernel)
theorem m_x_X4_lampedFog : Cond.selects RX4 yX4_lampedFog yX4_lampedFog ∈ kW := kwIn 561 (by decide +kernel) (by decide +kernel)
theorem m_c_X4_lampedFog : Cond.code yX4_lampedFog cX4_lampedFog 3 (some .int) ∈ kW := kwIn 562 (by decide +kernel) (by decide +kernel)
theorem m_m_X4_69 : Cond.methodLink RX4 69 Lib.Math.max.name ∈ kW := kwIn 563 (by decide +kernel) (by decide +kernel)
theorem m_m_X4_86 : Cond.methodLink RX4 86 yX5_blow ∈ kW := kwIn 564 (by decide +kernel) (by decide +kernel)
theorem m_i_X5_blow : Cond.instanceMethod yX5_blow ∈ kW := kwIn 565 (by decide +kernel) (by decide +kernel)
theorem m_x_X5_blow : Cond.selects RX5 yX5_blow yX5_blow ∈ kW := kwIn 566 (by decide +kernel) (by decide +kernel)
theorem m_c_X5_blow : Cond.code yX5_blow cX5_blow 9 none ∈ kW := kwIn 567 (by decide +kernel) (by decide +kernel)
theorem m_m_X5_22 : Cond.methodLink RX5 22 yX5_lineUp ∈ kW := kwIn 568 (by decide +kernel) (by decide +kernel)
theorem m_i_X5_lineUp : Cond.instanceMethod yX5_lineUp ∈ kW := kwIn 570 (by decide +kernel) (by decide +kernel)
theorem m_c_X5_lineUp : Cond.code yX5_lineUp cX5_lineUp 6 none ∈ kW := kwIn 571 (by decide +kernel) (by decide +kernel)
theorem m_m_X4_98 : Cond.methodLink RX4 98 yX4_counted ∈ kW := kwIn 573 (by decide +kernel) (by decide +kernel)
theorem m_s_X4_counted : Cond.static yX4_counted ∈ kW := kwIn 574 (by decide +kernel) (by decide +kernel)
theorem m_c_X4_counted : Cond.code yX4_counted cX4_counted 1 (some .int) ∈ kW := kwIn 575 (by decide +kernel) (by decide +kernel)
theorem m_k_X4_145 : Cond.constant RX4 145 (999999) ∈ kW := kwIn 576 (by decide +kernel) (by decide +kernel)
theorem m_m_X4_134 : Cond.methodLink RX4 134 Lib.Math.min.name ∈ kW := kwIn 577 (by decide +kernel) (by decide +kernel)
theorem m_s_mmin : Cond.static Lib.Math.min.name ∈ kW := kwIn 578 (by decide +kernel) (by decide +kernel)
theorem m_c_mmin : Cond.code Lib.Math.min.name Lib.Math.min.code 2 (some .int) ∈ kW := kwIn 579 (by decide +kernel) (by decide +kernel)
theorem m_m_X4_101 : Cond.methodLink RX4 101 yX0_hoursOfDay ∈ kW := kwIn 580 (by decide +kernel) (by decide +kernel)
theorem m_m_X4_105 : Cond.methodLink RX4 105 yX4_endDay ∈ kW := kwIn 581 (by decide +kernel) (by decide +kernel)
theorem m_i_X4_endDay : Cond.instanceMethod yX4_endDay ∈ kW := kwIn 583 (by decide +kernel) (by decide +kernel)
theorem m_c_X4_endDay : Cond.code yX4_endDay cX4_endDay 7 none ∈ kW := kwIn 584 (by decide +kernel) (by decide +kernel)
theorem m_m_X4_109 : Cond.methodLink RX4 109 yX4_emptyJarsOf ∈ kW := kwIn 585 (by decide +kernel) (by decide +kernel)
theorem m_i_X4_emptyJarsOf : Cond.instanceMethod yX4_emptyJarsOf ∈ kW := kwIn 586 (by decide +kernel) (by decide +kernel)
theorem m_x_X4_emptyJarsOf : Cond.selects RX4 yX4_emptyJarsOf yX4_emptyJarsOf ∈ kW := kwIn 587 (by decide +kernel) (by decide +kernel)
theorem m_c_X4_emptyJarsOf : Cond.code yX4_emptyJarsOf cX4_emptyJarsOf 5 (some .int) ∈ kW := kwIn 588 (by decide +kernel) (by decide +kernel)
theorem m_k_X4_140 : Cond.constant RX4 140 (99999) ∈ kW := kwIn 590 (by decide +kernel) (by decide +kernel)
theorem m_m_X4_118 : Cond.methodLink RX4 118 yX4_postIn ∈ kW := kwIn 592 (by decide +kernel) (by decide +kernel)
theorem m_i_X4_postIn : Cond.instanceMethod yX4_postIn ∈ kW := kwIn 593 (by decide +kernel) (by decide +kernel)
theorem m_x_X4_postIn : Cond.selects RX4 yX4_postIn yX4_postIn ∈ kW := kwIn 594 (by decide +kernel) (by decide +kernel)
theorem m_c_X4_postIn : Cond.code yX4_postIn cX4_postIn 3 (some .int) ∈ kW := kwIn 595 (by decide +kernel) (by decide +kernel)
theorem m_m_X4_128 : Cond.methodLink RX4 128 yX4_loseFromJar ∈ kW := kwIn 596 (by decide +kernel) (by decide +kernel)
theorem m_i_X4_loseFromJar : Cond.instanceMethod yX4_loseFromJar ∈ kW := kwIn 597 (by decide +kernel) (by decide +kernel)
theorem m_x_X4_loseFromJar : Cond.selects RX4 yX4_loseFromJar yX4_loseFromJar ∈ kW := kwIn 598 (by decide +kernel) (by decide +kernel)
theorem m_c_X4_loseFromJar : Cond.code yX4_loseFromJar cX4_loseFromJar 3 (some .int) ∈ kW := kwIn 599 (by decide +kernel) (by decide +kernel)
theorem m_m_L_52 : Cond.methodLink RL 52 yX6_carry ∈ kW := kwIn 600 (by decide +kernel) (by decide +kernel)
theorem m_i_X6_carry : Cond.instanceMethod yX6_carry ∈ kW := kwIn 601 (by decide +kernel) (by decide +kernel)
theorem m_x_X6_carry : Cond.selects RX6 yX6_carry yX6_carry ∈ kW := kwIn 602 (by decide +kernel) (by decide +kernel)
theorem m_c_X6_carry : Cond.code yX6_carry cX6_carry 2 (some .int) ∈ kW := kwIn 603 (by decide +kernel) (by decide +kernel)
theorem m_m_X6_219 : Cond.methodLink RX6 219 yX4_emptyJarsOf ∈ kW := kwIn 604 (by decide +kernel) (by decide +kernel)
theorem m_m_L_56 : Cond.methodLink RL 56 yX6_lick ∈ kW := kwIn 605 (by decide +kernel) (by decide +kernel)
theorem m_i_X6_lick : Cond.instanceMethod yX6_lick ∈ kW := kwIn 606 (by decide +kernel) (by decide +kernel)
theorem m_x_X6_lick : Cond.selects RX6 yX6_lick yX6_lick ∈ kW := kwIn 607 (by decide +kernel) (by decide +kernel)
theorem m_c_X6_lick : Cond.code yX6_lick cX6_lick 3 (some .int) ∈ kW := kwIn 608 (by decide +kernel) (by decide +kernel)
theorem m_m_X6_223 : Cond.methodLink RX6 223 yX4_loseFromJar ∈ kW := kwIn 609 (by decide +kernel) (by decide +kernel)
theorem m_m_L_60 : Cond.methodLink RL 60 yX6_mesh ∈ kW := kwIn 610 (by decide +kernel) (by decide +kernel)
theorem m_i_X6_mesh : Cond.instanceMethod yX6_mesh ∈ kW := kwIn 611 (by decide +kernel) (by decide +kernel)
theorem m_x_X6_mesh : Cond.selects RX6 yX6_mesh yX6_mesh ∈ kW := kwIn 612 (by decide +kernel) (by decide +kernel)
theorem m_c_X6_mesh : Cond.code yX6_mesh cX6_mesh 4 (some .int) ∈ kW := kwIn 613 (by decide +kernel) (by decide +kernel)
theorem m_m_X6_227 : Cond.methodLink RX6 227 yX6_put ∈ kW := kwIn 614 (by decide +kernel) (by decide +kernel)
theorem m_m_L_64 : Cond.methodLink RL 64 yX6_move ∈ kW := kwIn 615 (by decide +kernel) (by decide +kernel)
theorem m_i_X6_move : Cond.instanceMethod yX6_move ∈ kW := kwIn 616 (by decide +kernel) (by decide +kernel)
theorem m_x_X6_move : Cond.selects RX6 yX6_move yX6_move ∈ kW := kwIn 617 (by decide +kernel) (by decide +kernel)
theorem m_c_X6_move : Cond.code yX6_move cX6_move 4 (some .int) ∈ kW := kwIn 618 (by decide +kernel) (by decide +kernel)
theorem m_m_X6_231 : Cond.methodLink RX6 231 yX6_isCell ∈ kW := kwIn 619 (by decide +kernel) (by decide +kernel)
theorem m_i_X6_isCell : Cond.instanceMethod yX6_isCell ∈ kW := kwIn 621 (by decide +kernel) (by decide +kernel)
theorem m_c_X6_isCell : Cond.code yX6_isCell cX6_isCell 2 (some .boolean) ∈ kW := kwIn 622 (by decide +kernel) (by decide +kernel)
theorem m_m_X6_234 : Cond.methodLink RX6 234 yX4_postIn ∈ kW := kwIn 623 (by decide +kernel) (by decide +kernel)
theorem m_m_L_68 : Cond.methodLink RL 68 yX6_lamp ∈ kW := kwIn 624 (by decide +kernel) (by decide +kernel)
theorem m_i_X6_lamp : Cond.instanceMethod yX6_lamp ∈ kW := kwIn 625 (by decide +kernel) (by decide +kernel)
theorem m_x_X6_lamp : Cond.selects RX6 yX6_lamp yX6_lamp ∈ kW := kwIn 626 (by decide +kernel) (by decide +kernel)
theorem m_c_X6_lamp : Cond.code yX6_lamp cX6_lamp 3 (some .int) ∈ kW := kwIn 627 (by decide +kernel) (by decide +kernel)
theorem m_m_L_73 : Cond.methodLink RL 73 yX6_drift ∈ kW := kwIn 628 (by decide +kernel) (by decide +kernel)
theorem m_i_X6_drift : Cond.instanceMethod yX6_drift ∈ kW := kwIn 629 (by decide +kernel) (by decide +kernel)
theorem m_x_X6_drift : Cond.selects RX6 yX6_drift yX6_drift ∈ kW := kwIn 630 (by decide +kernel) (by decide +kernel)
theorem m_c_X6_drift : Cond.code yX6_drift cX6_drift 6 (some .int) ∈ kW := kwIn 631 (by decide +kernel) (by decide +kernel)
theorem m_m_X6_237 : Cond.methodLink RX6 237 yX6_draw ∈ kW := kwIn 632 (by decide +kernel) (by decide +kernel)
theorem m_i_X6_draw : Cond.instanceMethod yX6_draw ∈ kW := kwIn 634 (by decide +kernel) (by decide +kernel)
theorem m_c_X6_draw : Cond.code yX6_draw cX6_draw 2 (some .int) ∈ kW := kwIn 635 (by decide +kernel) (by decide +kernel)
theorem m_K_X6_326 : Cond.constantLong RX6 326 (1103515245) ∈ kW := kwIn 636 (by decide +kernel) (by decide +kernel)
theorem m_K_X6_328 : Cond.constantLong RX6 328 (12345) ∈ kW := kwIn 637 (by decide +kernel) (by decide +kernel)
theorem m_K_X6_330 : Cond.constantLong RX6 330 (2147483647) ∈ kW := kwIn 638 (by decide +kernel) (by decide +kernel)
theorem m_k_X6_332 : Cond.constant RX6 332 (65536) ∈ kW := kwIn 639 (by decide +kernel) (by decide +kernel)
theorem m_m_X6_240 : Cond.methodLink RX6 240 yX6_lickByDraws ∈ kW := kwIn 640 (by decide +kernel) (by decide +kernel)
theorem m_i_X6_lickByDraws : Cond.instanceMethod yX6_lickByDraws ∈ kW := kwIn 642 (by decide +kernel) (by decide +kernel)
theorem m_c_X6_lickByDraws : Cond.code yX6_lickByDraws cX6_lickByDraws 2 none ∈ kW := kwIn 643 (by decide +kernel) (by decide +kernel)
theorem m_m_L_77 : Cond.methodLink RL 77 yX6_undo ∈ kW := kwIn 644 (by decide +kernel) (by decide +kernel)
theorem m_i_X6_undo : Cond.instanceMethod yX6_undo ∈ kW := kwIn 645 (by decide +kernel) (by decide +kernel)
theorem m_x_X6_undo : Cond.selects RX6 yX6_undo yX6_undo ∈ kW := kwIn 646 (by decide +kernel) (by decide +kernel)
theorem m_c_X6_undo : Cond.code yX6_undo cX6_undo 2 (some .int) ∈ kW := kwIn 647 (by decide +kernel) (by decide +kernel)
theorem m_m_X6_243 : Cond.methodLink RX6 243 yX2_takeBack ∈ kW := kwIn 648 (by decide +kernel) (by decide +kernel)
theorem m_i_X2_takeBack : Cond.instanceMethod yX2_takeBack ∈ kW := kwIn 649 (by decide +kernel) (by decide +kernel)
theorem m_x_X2_takeBack : Cond.selects RX2 yX2_takeBack yX2_takeBack ∈ kW := kwIn 650 (by decide +kernel) (by decide +kernel)
theorem m_c_X2_takeBack : Cond.code yX2_takeBack cX2_takeBack 4 none ∈ kW := kwIn 651 (by decide +kernel) (by decide +kernel)
theorem m_m_L_81 : Cond.methodLink RL 81 yX6_gets ∈ kW := kwIn 652 (by decide +kernel) (by decide +kernel)
theorem m_i_X6_gets : Cond.instanceMethod yX6_gets ∈ kW := kwIn 653 (by decide +kernel) (by decide +kernel)
theorem m_x_X6_gets : Cond.selects RX6 yX6_gets yX6_gets ∈ kW := kwIn 654 (by decide +kernel) (by decide +kernel)
theorem m_c_X6_gets : Cond.code yX6_gets cX6_gets 3 (some .int) ∈ kW := kwIn 655 (by decide +kernel) (by decide +kernel)
theorem m_m_X6_247 : Cond.methodLink RX6 247 yX4_become ∈ kW := kwIn 656 (by decide +kernel) (by decide +kernel)
theorem m_m_X6_250 : Cond.methodLink RX6 250 yX6_tryHours ∈ kW := kwIn 657 (by decide +kernel) (by decide +kernel)
theorem m_i_X6_tryHours : Cond.instanceMethod yX6_tryHours ∈ kW := kwIn 659 (by decide +kernel) (by decide +kernel)
theorem m_c_X6_tryHours : Cond.code yX6_tryHours cX6_tryHours 5 (some .int) ∈ kW := kwIn 660 (by decide +kernel) (by decide +kernel)
theorem m_m_L_85 : Cond.methodLink RL 85 yX6_level ∈ kW := kwIn 661 (by decide +kernel) (by decide +kernel)
theorem m_i_X6_level : Cond.instanceMethod yX6_level ∈ kW := kwIn 662 (by decide +kernel) (by decide +kernel)
theorem m_x_X6_level : Cond.selects RX6 yX6_level yX6_level ∈ kW := kwIn 663 (by decide +kernel) (by decide +kernel)
theorem m_c_X6_level : Cond.code yX6_level cX6_level 3 (some .int) ∈ kW := kwIn 664 (by decide +kernel) (by decide +kernel)
theorem m_m_L_89 : Cond.methodLink RL 89 yX6_shadow ∈ kW := kwIn 665 (by decide +kernel) (by decide +kernel)
theorem m_i_X6_shadow : Cond.instanceMethod yX6_shadow ∈ kW := kwIn 666 (by decide +kernel) (by decide +kernel)
theorem m_x_X6_shadow : Cond.selects RX6 yX6_shadow yX6_shadow ∈ kW := kwIn 667 (by decide +kernel) (by decide +kernel)
theorem m_c_X6_shadow : Cond.code yX6_shadow cX6_shadow 4 (some .int) ∈ kW := kwIn 668 (by decide +kernel) (by decide +kernel)
theorem m_m_X6_253 : Cond.methodLink RX6 253 yX6_blowNext ∈ kW := kwIn 669 (by decide +kernel) (by decide +kernel)
theorem m_i_X6_blowNext : Cond.instanceMethod yX6_blowNext ∈ kW := kwIn 671 (by decide +kernel) (by decide +kernel)
theorem m_c_X6_blowNext : Cond.code yX6_blowNext cX6_blowNext 3 none ∈ kW := kwIn 672 (by decide +kernel) (by decide +kernel)
theorem m_m_X6_333 : Cond.methodLink RX6 333 yX4_lampedFog ∈ kW := kwIn 673 (by decide +kernel) (by decide +kernel)
theorem m_m_X6_283 : Cond.methodLink RX6 283 yX5_blow ∈ kW := kwIn 674 (by decide +kernel) (by decide +kernel)
theorem m_m_L_93 : Cond.methodLink RL 93 yX6_left ∈ kW := kwIn 675 (by decide +kernel) (by decide +kernel)
theorem m_i_X6_left : Cond.instanceMethod yX6_left ∈ kW := kwIn 676 (by decide +kernel) (by decide +kernel)
theorem m_x_X6_left : Cond.selects RX6 yX6_left yX6_left ∈ kW := kwIn 677 (by decide +kernel) (by decide +kernel)
theorem m_c_X6_left : Cond.code yX6_left cX6_left 1 (some .int) ∈ kW := kwIn 678 (by decide +kernel) (by decide +kernel)
theorem m_m_L_97 : Cond.methodLink RL 97 yX6_bestMesh ∈ kW := kwIn 679 (by decide +kernel) (by decide +kernel)
theorem m_i_X6_bestMesh : Cond.instanceMethod yX6_bestMesh ∈ kW := kwIn 680 (by decide +kernel) (by decide +kernel)
theorem m_x_X6_bestMesh : Cond.selects RX6 yX6_bestMesh yX6_bestMesh ∈ kW := kwIn 681 (by decide +kernel) (by decide +kernel)
theorem m_c_X6_bestMesh : Cond.code yX6_bestMesh cX6_bestMesh 6 (some .int) ∈ kW := kwIn 682 (by decide +kernel) (by decide +kernel)
theorem m_m_L_101 : Cond.methodLink RL 101 yX6_bestCell ∈ kW := kwIn 683 (by decide +kernel) (by decide +kernel)
theorem m_i_X6_bestCell : Cond.instanceMethod yX6_bestCell ∈ kW := kwIn 684 (by decide +kernel) (by decide +kernel)
theorem m_x_X6_bestCell : Cond.selects RX6 yX6_bestCell yX6_bestCell ∈ kW := kwIn 685 (by decide +kernel) (by decide +kernel)
theorem m_c_X6_bestCell : Cond.code yX6_bestCell cX6_bestCell 6 (some .int) ∈ kW := kwIn 686 (by decide +kernel) (by decide +kernel)
theorem m_m_X6_262 : Cond.methodLink RX6 262 yX6_isOpenTo ∈ kW := kwIn 687 (by decide +kernel) (by decide +kernel)
theorem m_i_X6_isOpenTo : Cond.instanceMethod yX6_isOpenTo ∈ kW := kwIn 689 (by decide +kernel) (by decide +kernel)
theorem m_c_X6_isOpenTo : Cond.code yX6_isOpenTo cX6_isOpenTo 5 (some .boolean) ∈ kW := kwIn 690 (by decide +kernel) (by decide +kernel)
theorem m_m_L_105 : Cond.methodLink RL 105 yX6_bestTwo ∈ kW := kwIn 691 (by decide +kernel) (by decide +kernel)
theorem m_i_X6_bestTwo : Cond.instanceMethod yX6_bestTwo ∈ kW := kwIn 692 (by decide +kernel) (by decide +kernel)
theorem m_x_X6_bestTwo : Cond.selects RX6 yX6_bestTwo yX6_bestTwo ∈ kW := kwIn 693 (by decide +kernel) (by decide +kernel)
theorem m_c_X6_bestTwo : Cond.code yX6_bestTwo cX6_bestTwo 9 (some .int) ∈ kW := kwIn 694 (by decide +kernel) (by decide +kernel)
theorem m_m_X6_265 : Cond.methodLink RX6 265 yX6_lesserHaul ∈ kW := kwIn 695 (by decide +kernel) (by decide +kernel)
theorem m_i_X6_lesserHaul : Cond.instanceMethod yX6_lesserHaul ∈ kW := kwIn 697 (by decide +kernel) (by decide +kernel)
theorem m_c_X6_lesserHaul : Cond.code yX6_lesserHaul cX6_lesserHaul 8 (some .int) ∈ kW := kwIn 698 (by decide +kernel) (by decide +kernel)
theorem m_m_X6_269 : Cond.methodLink RX6 269 Lib.Math.min.name ∈ kW := kwIn 699 (by decide +kernel) (by decide +kernel)
theorem m_m_L_110 : Cond.methodLink RL 110 yX6_lampCosts ∈ kW := kwIn 700 (by decide +kernel) (by decide +kernel)
theorem m_i_X6_lampCosts : Cond.instanceMethod yX6_lampCosts ∈ kW := kwIn 701 (by decide +kernel) (by decide +kernel)
theorem m_x_X6_lampCosts : Cond.selects RX6 yX6_lampCosts yX6_lampCosts ∈ kW := kwIn 702 (by decide +kernel) (by decide +kernel)
theorem m_c_X6_lampCosts : Cond.code yX6_lampCosts cX6_lampCosts 3 (some .int) ∈ kW := kwIn 703 (by decide +kernel) (by decide +kernel)
theorem m_m_L_114 : Cond.methodLink RL 114 yX6_thirsty ∈ kW := kwIn 704 (by decide +kernel) (by decide +kernel)
theorem m_i_X6_thirsty : Cond.instanceMethod yX6_thirsty ∈ kW := kwIn 705 (by decide +kernel) (by decide +kernel)
theorem m_x_X6_thirsty : Cond.selects RX6 yX6_thirsty yX6_thirsty ∈ kW := kwIn 706 (by decide +kernel) (by decide +kernel)
theorem m_c_X6_thirsty : Cond.code yX6_thirsty cX6_thirsty 4 (some .int) ∈ kW := kwIn 707 (by decide +kernel) (by decide +kernel)
theorem m_m_L_118 : Cond.methodLink RL 118 yX6_lasts ∈ kW := kwIn 708 (by decide +kernel) (by decide +kernel)
theorem m_i_X6_lasts : Cond.instanceMethod yX6_lasts ∈ kW := kwIn 709 (by decide +kernel) (by decide +kernel)
theorem m_x_X6_lasts : Cond.selects RX6 yX6_lasts yX6_lasts ∈ kW := kwIn 710 (by decide +kernel) (by decide +kernel)
theorem m_c_X6_lasts : Cond.code yX6_lasts cX6_lasts 3 (some .int) ∈ kW := kwIn 711 (by decide +kernel) (by decide +kernel)
theorem m_m_L_122 : Cond.methodLink RL 122 yX6_both ∈ kW := kwIn 712 (by decide +kernel) (by decide +kernel)
theorem m_i_X6_both : Cond.instanceMethod yX6_both ∈ kW := kwIn 713 (by decide +kernel) (by decide +kernel)
theorem m_x_X6_both : Cond.selects RX6 yX6_both yX6_both ∈ kW := kwIn 714 (by decide +kernel) (by decide +kernel)
theorem m_c_X6_both : Cond.code yX6_both cX6_both 2 (some .int) ∈ kW := kwIn 715 (by decide +kernel) (by decide +kernel)
theorem m_m_X6_274 : Cond.methodLink RX6 274 yX0_hangsOn ∈ kW := kwIn 716 (by decide +kernel) (by decide +kernel)
theorem m_m_L_126 : Cond.methodLink RL 126 yX6_apart ∈ kW := kwIn 717 (by decide +kernel) (by decide +kernel)
theorem m_i_X6_apart : Cond.instanceMethod yX6_apart ∈ kW := kwIn 718 (by decide +kernel) (by decide +kernel)
theorem m_x_X6_apart : Cond.selects RX6 yX6_apart yX6_apart ∈ kW := kwIn 719 (by decide +kernel) (by decide +kernel)
theorem m_c_X6_apart : Cond.code yX6_apart cX6_apart 4 (some .int) ∈ kW := kwIn 720 (by decide +kernel) (by decide +kernel)
theorem m_m_L_130 : Cond.methodLink RL 130 yX6_share ∈ kW := kwIn 721 (by decide +kernel) (by decide +kernel)
theorem m_i_X6_share : Cond.instanceMethod yX6_share ∈ kW := kwIn 722 (by decide +kernel) (by decide +kernel)
theorem m_x_X6_share : Cond.selects RX6 yX6_share yX6_share ∈ kW := kwIn 723 (by decide +kernel) (by decide +kernel)
theorem m_c_X6_share : Cond.code yX6_share cX6_share 8 (some .int) ∈ kW := kwIn 724 (by decide +kernel) (by decide +kernel)
theorem m_m_X6_278 : Cond.methodLink RX6 278 yJ6_bitCount_0f7a4 ∈ kW := kwIn 725 (by decide +kernel) (by decide +kernel)
theorem m_s_J6_bitCount_0f7a4 : Cond.static yJ6_bitCount_0f7a4 ∈ kW := kwIn 726 (by decide +kernel) (by decide +kernel)
theorem m_c_J6_bitCount_0f7a4 : Cond.code yJ6_bitCount_0f7a4 cJ6_bitCount_0f7a4 1 (some .int) ∈ kW := kwIn 727 (by decide +kernel) (by decide +kernel)
theorem m_k_J6_265 : Cond.constant RJ6 265 (1431655765) ∈ kW := kwIn 728 (by decide +kernel) (by decide +kernel)
theorem m_k_J6_266 : Cond.constant RJ6 266 (858993459) ∈ kW := kwIn 729 (by decide +kernel) (by decide +kernel)
theorem m_k_J6_267 : Cond.constant RJ6 267 (252645135) ∈ kW := kwIn 730 (by decide +kernel) (by decide +kernel)
theorem m_m_L_134 : Cond.methodLink RL 134 yX6_led ∈ kW := kwIn 731 (by decide +kernel) (by decide +kernel)
theorem m_i_X6_led : Cond.instanceMethod yX6_led ∈ kW := kwIn 732 (by decide +kernel) (by decide +kernel)
theorem m_x_X6_led : Cond.selects RX6 yX6_led yX6_led ∈ kW := kwIn 733 (by decide +kernel) (by decide +kernel)
theorem m_c_X6_led : Cond.code yX6_led cX6_led 4 (some .int) ∈ kW := kwIn 734 (by decide +kernel) (by decide +kernel)
theorem m_m_X6_287 : Cond.methodLink RX6 287 yX5_takerOf ∈ kW := kwIn 735 (by decide +kernel) (by decide +kernel)
theorem m_i_X5_takerOf : Cond.instanceMethod yX5_takerOf ∈ kW := kwIn 736 (by decide +kernel) (by decide +kernel)
theorem m_x_X5_takerOf : Cond.selects RX5 yX5_takerOf yX5_takerOf ∈ kW := kwIn 737 (by decide +kernel) (by decide +kernel)
theorem m_c_X5_takerOf : Cond.code yX5_takerOf cX5_takerOf 5 (some .int) ∈ kW := kwIn 738 (by decide +kernel) (by decide +kernel)
theorem m_m_L_138 : Cond.methodLink RL 138 yX6_yards ∈ kW := kwIn 740 (by decide +kernel) (by decide +kernel)
theorem m_i_X6_yards : Cond.instanceMethod yX6_yards ∈ kW := kwIn 741 (by decide +kernel) (by decide +kernel)
theorem m_x_X6_yards : Cond.selects RX6 yX6_yards yX6_yards ∈ kW := kwIn 742 (by decide +kernel) (by decide +kernel)
theorem m_c_X6_yards : Cond.code yX6_yards cX6_yards 9 (some .int) ∈ kW := kwIn 743 (by decide +kernel) (by decide +kernel)
theorem m_m_X6_290 : Cond.methodLink RX6 290 Lib.Math.abs.name ∈ kW := kwIn 744 (by decide +kernel) (by decide +kernel)
theorem m_s_mabs : Cond.static Lib.Math.abs.name ∈ kW := kwIn 745 (by decide +kernel) (by decide +kernel)
theorem m_c_mabs : Cond.code Lib.Math.abs.name Lib.Math.abs.code 1 (some .int) ∈ kW := kwIn 746 (by decide +kernel) (by decide +kernel)
theorem m_m_L_142 : Cond.methodLink RL 142 yX6_clear ∈ kW := kwIn 747 (by decide +kernel) (by decide +kernel)
theorem m_i_X6_clear : Cond.instanceMethod yX6_clear ∈ kW := kwIn 748 (by decide +kernel) (by decide +kernel)
theorem m_x_X6_clear : Cond.selects RX6 yX6_clear yX6_clear ∈ kW := kwIn 749 (by decide +kernel) (by decide +kernel)
theorem m_c_X6_clear : Cond.code yX6_clear cX6_clear 6 (some .int) ∈ kW := kwIn 750 (by decide +kernel) (by decide +kernel)
theorem m_K_X6_293 : Cond.constantLong RX6 293 (1000000000) ∈ kW := kwIn 751 (by decide +kernel) (by decide +kernel)
theorem m_K_X6_295 : Cond.constantLong RX6 295 (100) ∈ kW := kwIn 752 (by decide +kernel) (by decide +kernel)
theorem m_m_L_146 : Cond.methodLink RL 146 yX6_got ∈ kW := kwIn 753 (by decide +kernel) (by decide +kernel)
theorem m_i_X6_got : Cond.instanceMethod yX6_got ∈ kW := kwIn 754 (by decide +kernel) (by decide +kernel)
theorem m_x_X6_got : Cond.selects RX6 yX6_got yX6_got ∈ kW := kwIn 755 (by decide +kernel) (by decide +kernel)
theorem m_c_X6_got : Cond.code yX6_got cX6_got 4 (some .int) ∈ kW := kwIn 756 (by decide +kernel) (by decide +kernel)
theorem m_m_X6_297 : Cond.methodLink RX6 297 yX1_note ∈ kW := kwIn 757 (by decide +kernel) (by decide +kernel)
theorem m_i_X1_note : Cond.instanceMethod yX1_note ∈ kW := kwIn 758 (by decide +kernel) (by decide +kernel)
theorem m_x_X1_note : Cond.selects RX1 yX1_note yX1_note ∈ kW := kwIn 759 (by decide +kernel) (by decide +kernel)
theorem m_c_X1_note : Cond.code yX1_note cX1_note 4 (some .int) ∈ kW := kwIn 760 (by decide +kernel) (by decide +kernel)
theorem m_m_L_150 : Cond.methodLink RL 150 yX6_thick ∈ kW := kwIn 762 (by decide +kernel) (by decide +kernel)
theorem m_i_X6_thick : Cond.instanceMethod yX6_thick ∈ kW := kwIn 763 (by decide +kernel) (by decide +kernel)
theorem m_x_X6_thick : Cond.selects RX6 yX6_thick yX6_thick ∈ kW := kwIn 764 (by decide +kernel) (by decide +kernel)
theorem m_c_X6_thick : Cond.code yX6_thick cX6_thick 7 (some .int) ∈ kW := kwIn 765 (by decide +kernel) (by decide +kernel)
theorem m_m_X6_301 : Cond.methodLink RX6 301 yX6_fitting ∈ kW := kwIn 766 (by decide +kernel) (by decide +kernel)
theorem m_i_X6_fitting : Cond.instanceMethod yX6_fitting ∈ kW := kwIn 768 (by decide +kernel) (by decide +kernel)
theorem m_c_X6_fitting : Cond.code yX6_fitting cX6_fitting 4 (some .long) ∈ kW := kwIn 769 (by decide +kernel) (by decide +kernel)
theorem m_m_X6_336 : Cond.methodLink RX6 336 yX6_fitsAll ∈ kW := kwIn 770 (by decide +kernel) (by decide +kernel)
theorem m_i_X6_fitsAll : Cond.instanceMethod yX6_fitsAll ∈ kW := kwIn 772 (by decide +kernel) (by decide +kernel)
theorem m_c_X6_fitsAll : Cond.code yX6_fitsAll cX6_fitsAll 4 (some .boolean) ∈ kW := kwIn 773 (by decide +kernel) (by decide +kernel)
theorem m_m_X6_314 : Cond.methodLink RX6 314 yX6_takenOf ∈ kW := kwIn 774 (by decide +kernel) (by decide +kernel)
theorem m_i_X6_takenOf : Cond.instanceMethod yX6_takenOf ∈ kW := kwIn 776 (by decide +kernel) (by decide +kernel)
theorem m_c_X6_takenOf : Cond.code yX6_takenOf cX6_takenOf 4 (some .int) ∈ kW := kwIn 777 (by decide +kernel) (by decide +kernel)
theorem m_m_X6_305 : Cond.methodLink RX6 305 yJ13_bitCount_95d88 ∈ kW := kwIn 778 (by decide +kernel) (by decide +kernel)
theorem m_s_J13_bitCount_95d88 : Cond.static yJ13_bitCount_95d88 ∈ kW := kwIn 779 (by decide +kernel) (by decide +kernel)
theorem m_c_J13_bitCount_95d88 : Cond.code yJ13_bitCount_95d88 cJ13_bitCount_95d88 2 (some .int) ∈ kW := kwIn 780 (by decide +kernel) (by decide +kernel)
theorem m_K_J13_314 : Cond.constantLong RJ13 314 (6148914691236517205) ∈ kW := kwIn 781 (by decide +kernel) (by decide +kernel)
theorem m_K_J13_316 : Cond.constantLong RJ13 316 (3689348814741910323) ∈ kW := kwIn 782 (by decide +kernel) (by decide +kernel)
theorem m_K_J13_318 : Cond.constantLong RJ13 318 (1085102592571150095) ∈ kW := kwIn 783 (by decide +kernel) (by decide +kernel)
theorem m_m_L_154 : Cond.methodLink RL 154 yX6_lookAt ∈ kW := kwIn 784 (by decide +kernel) (by decide +kernel)
theorem m_i_X6_lookAt : Cond.instanceMethod yX6_lookAt ∈ kW := kwIn 785 (by decide +kernel) (by decide +kernel)
theorem m_x_X6_lookAt : Cond.selects RX6 yX6_lookAt yX6_lookAt ∈ kW := kwIn 786 (by decide +kernel) (by decide +kernel)
theorem m_c_X6_lookAt : Cond.code yX6_lookAt cX6_lookAt 8 (some .int) ∈ kW := kwIn 787 (by decide +kernel) (by decide +kernel)
theorem m_m_X6_310 : Cond.methodLink RX6 310 yX6_greatestPart ∈ kW := kwIn 788 (by decide +kernel) (by decide +kernel)
theorem m_i_X6_greatestPart : Cond.instanceMethod yX6_greatestPart ∈ kW := kwIn 790 (by decide +kernel) (by decide +kernel)
theorem m_c_X6_greatestPart : Cond.code yX6_greatestPart cX6_greatestPart 9 (some .int) ∈ kW := kwIn 791 (by decide +kernel) (by decide +kernel)
theorem m_m_X6_342 : Cond.methodLink RX6 342 Lib.Math.max.name ∈ kW := kwIn 792 (by decide +kernel) (by decide +kernel)
theorem m_m_L_158 : Cond.methodLink RL 158 yX6_needs ∈ kW := kwIn 793 (by decide +kernel) (by decide +kernel)
theorem m_i_X6_needs : Cond.instanceMethod yX6_needs ∈ kW := kwIn 794 (by decide +kernel) (by decide +kernel)
theorem m_x_X6_needs : Cond.selects RX6 yX6_needs yX6_needs ∈ kW := kwIn 795 (by decide +kernel) (by decide +kernel)
theorem m_c_X6_needs : Cond.code yX6_needs cX6_needs 5 (some .int) ∈ kW := kwIn 796 (by decide +kernel) (by decide +kernel)
theorem m_m_L_162 : Cond.methodLink RL 162 yX6_write ∈ kW := kwIn 797 (by decide +kernel) (by decide +kernel)
theorem m_i_X6_write : Cond.instanceMethod yX6_write ∈ kW := kwIn 798 (by decide +kernel) (by decide +kernel)
theorem m_x_X6_write : Cond.selects RX6 yX6_write yX6_write ∈ kW := kwIn 799 (by decide +kernel) (by decide +kernel)
theorem m_c_X6_write : Cond.code yX6_write cX6_write 3 (some .int) ∈ kW := kwIn 800 (by decide +kernel) (by decide +kernel)
theorem m_m_L_166 : Cond.methodLink RL 166 yX6_judge ∈ kW := kwIn 801 (by decide +kernel) (by decide +kernel)
theorem m_i_X6_judge : Cond.instanceMethod yX6_judge ∈ kW := kwIn 802 (by decide +kernel) (by decide +kernel)
theorem m_x_X6_judge : Cond.selects RX6 yX6_judge yX6_judge ∈ kW := kwIn 803 (by decide +kernel) (by decide +kernel)
theorem m_c_X6_judge : Cond.code yX6_judge cX6_judge 2 (some .int) ∈ kW := kwIn 804 (by decide +kernel) (by decide +kernel)
theorem m_m_L_170 : Cond.methodLink RL 170 yX6_tear ∈ kW := kwIn 805 (by decide +kernel) (by decide +kernel)
theorem m_i_X6_tear : Cond.instanceMethod yX6_tear ∈ kW := kwIn 806 (by decide +kernel) (by decide +kernel)
theorem m_x_X6_tear : Cond.selects RX6 yX6_tear yX6_tear ∈ kW := kwIn 807 (by decide +kernel) (by decide +kernel)
theorem m_c_X6_tear : Cond.code yX6_tear cX6_tear 2 (some .int) ∈ kW := kwIn 808 (by decide +kernel) (by decide +kernel)
theorem m_m_L_174 : Cond.methodLink RL 174 yX6_seed ∈ kW := kwIn 809 (by decide +kernel) (by decide +kernel)
theorem m_i_X6_seed : Cond.instanceMethod yX6_seed ∈ kW := kwIn 810 (by decide +kernel) (by decide +kernel)
theorem m_x_X6_seed : Cond.selects RX6 yX6_seed yX6_seed ∈ kW := kwIn 811 (by decide +kernel) (by decide +kernel)
theorem m_c_X6_seed : Cond.code yX6_seed cX6_seed 3 (some .int) ∈ kW := kwIn 812 (by decide +kernel) (by decide +kernel)
theorem m_m_L_178 : Cond.methodLink RL 178 yX6_keep ∈ kW := kwIn 813 (by decide +kernel) (by decide +kernel)
theorem m_i_X6_keep : Cond.instanceMethod yX6_keep ∈ kW := kwIn 814 (by decide +kernel) (by decide +kernel)
theorem m_x_X6_keep : Cond.selects RX6 yX6_keep yX6_keep ∈ kW := kwIn 815 (by decide +kernel) (by decide +kernel)
theorem m_c_X6_keep : Cond.code yX6_keep cX6_keep 3 (some .int) ∈ kW := kwIn 816 (by decide +kernel) (by decide +kernel)
theorem m_m_X6_322 : Cond.methodLink RX6 322 yX6_imageOf ∈ kW := kwIn 817 (by decide +kernel) (by decide +kernel)
theorem m_i_X6_imageOf : Cond.instanceMethod yX6_imageOf ∈ kW := kwIn 819 (by decide +kernel) (by decide +kernel)
theorem m_c_X6_imageOf : Cond.code yX6_imageOf cX6_imageOf 2 (some (.object RX4)) ∈ kW := kwIn 820 (by decide +kernel) (by decide +kernel)
theorem m_m_L_182 : Cond.methodLink RL 182 yX6_goBack ∈ kW := kwIn 821 (by decide +kernel) (by decide +kernel)
theorem m_i_X6_goBack : Cond.instanceMethod yX6_goBack ∈ kW := kwIn 822 (by decide +kernel) (by decide +kernel)
theorem m_x_X6_goBack : Cond.selects RX6 yX6_goBack yX6_goBack ∈ kW := kwIn 823 (by decide +kernel) (by decide +kernel)
theorem m_c_X6_goBack : Cond.code yX6_goBack cX6_goBack 4 (some .int) ∈ kW := kwIn 824 (by decide +kernel) (by decide +kernel)
theorem m_l_L_10 : Cond.classLink RL 10 RX7 ∈ kW := kwIn 825 (by decide +kernel) (by decide +kernel)
theorem m_o_X7 : Cond.instantiable RX7 44 ∈ kW := kwIn 826 (by decide +kernel) (by decide +kernel)
theorem m_m_L_12 : Cond.methodLink RL 12 yX7_init ∈ kW := kwIn 827 (by decide +kernel) (by decide +kernel)
theorem m_i_X7_init : Cond.instanceMethod yX7_init ∈ kW := kwIn 828 (by decide +kernel) (by decide +kernel)
theorem m_c_X7_init : Cond.code yX7_init cX7_init 1 none ∈ kW := kwIn 829 (by decide +kernel) (by decide +kernel)
theorem m_m_X7_1 : Cond.methodLink RX7 1 objectInit ∈ kW := kwIn 830 (by decide +kernel) (by decide +kernel)
theorem m_f_X7_90 : Cond.fieldLink RX7 90 "FogNetsModel" "letterMany" "I" ∈ kW := kwIn 831 (by decide +kernel) (by decide +kernel)
theorem m_f_X7_7 : Cond.fieldLink RX7 7 "FogNetsModel" "text" "[I" ∈ kW := kwIn 832 (by decide +kernel) (by decide +kernel)
theorem m_f_X7_13 : Cond.fieldLink RX7 13 "FogNetsModel" "faultAt" "I" ∈ kW := kwIn 833 (by decide +kernel) (by decide +kernel)
theorem m_f_X7_94 : Cond.fieldLink RX7 94 "FogNetsModel" "readAt" "I" ∈ kW := kwIn 834 (by decide +kernel) (by decide +kernel)
theorem m_f_X7_101 : Cond.fieldLink RX7 101 "FogNetsModel" "readFault" "I" ∈ kW := kwIn 835 (by decide +kernel) (by decide +kernel)
theorem m_f_X7_126 : Cond.fieldLink RX7 126 "FogNetsModel" "readPosts" "I" ∈ kW := kwIn 836 (by decide +kernel) (by decide +kernel)
theorem m_f_X7_123 : Cond.fieldLink RX7 123 "FogNetsModel" "readHours" "I" ∈ kW := kwIn 837 (by decide +kernel) (by decide +kernel)
theorem m_f_X7_132 : Cond.fieldLink RX7 132 "FogNetsModel" "readGoats" "I" ∈ kW := kwIn 838 (by decide +kernel) (by decide +kernel)
theorem m_f_X7_164 : Cond.fieldLink RX7 164 "FogNetsModel" "isRead" "Z" ∈ kW := kwIn 839 (by decide +kernel) (by decide +kernel)
theorem m_f_X7_135 : Cond.fieldLink RX7 135 "FogNetsModel" "isDaysRead" "Z" ∈ kW := kwIn 840 (by decide +kernel) (by decide +kernel)
theorem m_f_X7_139 : Cond.fieldLink RX7 139 "FogNetsModel" "isUseRead" "Z" ∈ kW := kwIn 841 (by decide +kernel) (by decide +kernel)
theorem m_f_X7_17 : Cond.fieldLink RX7 17 "FogNetsModel" "readHead" "[I" ∈ kW := kwIn 842 (by decide +kernel) (by decide +kernel)
theorem m_f_X7_20 : Cond.fieldLink RX7 20 "FogNetsModel" "readDays" "[I" ∈ kW := kwIn 843 (by decide +kernel) (by decide +kernel)
theorem m_f_X7_23 : Cond.fieldLink RX7 23 "FogNetsModel" "readUse" "[I" ∈ kW := kwIn 844 (by decide +kernel) (by decide +kernel)
theorem m_f_X7_26 : Cond.fieldLink RX7 26 "FogNetsModel" "readHour" "[I" ∈ kW := kwIn 845 (by decide +kernel) (by decide +kernel)
theorem m_f_X7_29 : Cond.fieldLink RX7 29 "FogNetsModel" "readPost" "[I" ∈ kW := kwIn 846 (by decide +kernel) (by decide +kernel)
theorem m_f_X7_32 : Cond.fieldLink RX7 32 "FogNetsModel" "readGoat" "[I" ∈ kW := kwIn 847 (by decide +kernel) (by decide +kernel)
theorem m_f_X7_170 : Cond.fieldLink RX7 170 "FogNetsModel" "isCoast" "Z" ∈ kW := kwIn 848 (by decide +kernel) (by decide +kernel)
theorem m_f_X7_173 : Cond.fieldLink RX7 173 "FogNetsModel" "cells" "I" ∈ kW := kwIn 849 (by decide +kernel) (by decide +kernel)
theorem m_f_X7_176 : Cond.fieldLink RX7 176 "FogNetsModel" "burns" "I" ∈ kW := kwIn 850 (by decide +kernel) (by decide +kernel)
theorem m_f_X7_179 : Cond.fieldLink RX7 179 "FogNetsModel" "n" "I" ∈ kW := kwIn 851 (by decide +kernel) (by decide +kernel)
theorem m_f_X7_182 : Cond.fieldLink RX7 182 "FogNetsModel" "hourMany" "I" ∈ kW := kwIn 852 (by decide +kernel) (by decide +kernel)
theorem m_f_X7_185 : Cond.fieldLink RX7 185 "FogNetsModel" "goatMany" "I" ∈ kW := kwIn 853 (by decide +kernel) (by decide +kernel)
theorem m_f_X7_35 : Cond.fieldLink RX7 35 "FogNetsModel" "hours" "[I" ∈ kW := kwIn 854 (by decide +kernel) (by decide +kernel)
theorem m_f_X7_38 : Cond.fieldLink RX7 38 "FogNetsModel" "sizes" "[I" ∈ kW := kwIn 855 (by decide +kernel) (by decide +kernel)
theorem m_f_X7_41 : Cond.fieldLink RX7 41 "FogNetsModel" "owners" "[I" ∈ kW := kwIn 856 (by decide +kernel) (by decide +kernel)
theorem m_f_X7_44 : Cond.fieldLink RX7 44 "FogNetsModel" "goats" "[I" ∈ kW := kwIn 857 (by decide +kernel) (by decide +kernel)
theorem m_f_X7_47 : Cond.fieldLink RX7 47 "FogNetsModel" "days" "[I" ∈ kW := kwIn 858 (by decide +kernel) (by decide +kernel)
theorem m_f_X7_50 : Cond.fieldLink RX7 50 "FogNetsModel" "uses" "[I" ∈ kW := kwIn 859 (by decide +kernel) (by decide +kernel)
theorem m_f_X7_53 : Cond.fieldLink RX7 53 "FogNetsModel" "now" "[I" ∈ kW := kwIn 860 (by decide +kernel) (by decide +kernel)
theorem m_f_X7_56 : Cond.fieldLink RX7 56 "FogNetsModel" "tried" "[I" ∈ kW := kwIn 861 (by decide +kernel) (by decide +kernel)
theorem m_f_X7_59 : Cond.fieldLink RX7 59 "FogNetsModel" "took" "[I" ∈ kW := kwIn 862 (by decide +kernel) (by decide +kernel)
theorem m_f_X7_194 : Cond.fieldLink RX7 194 "FogNetsModel" "undoMany" "I" ∈ kW := kwIn 863 (by decide +kernel) (by decide +kernel)
theorem m_f_X7_270 : Cond.fieldLink RX7 270 "FogNetsModel" "undoAt" "I" ∈ kW := kwIn 864 (by decide +kernel) (by decide +kernel)
theorem m_f_X7_62 : Cond.fieldLink RX7 62 "FogNetsModel" "undos" "[I" ∈ kW := kwIn 865 (by decide +kernel) (by decide +kernel)
theorem m_f_X7_290 : Cond.fieldLink RX7 290 "FogNetsModel" "seed" "J" ∈ kW := kwIn 866 (by decide +kernel) (by decide +kernel)
theorem m_f_X7_65 : Cond.fieldLink RX7 65 "FogNetsModel" "sums" "[I" ∈ kW := kwIn 867 (by decide +kernel) (by decide +kernel)
theorem m_f_X7_188 : Cond.fieldLink RX7 188 "FogNetsModel" "gotMany" "I" ∈ kW := kwIn 868 (by decide +kernel) (by decide +kernel)
theorem m_f_X7_68 : Cond.fieldLink RX7 68 "FogNetsModel" "got" "[I" ∈ kW := kwIn 869 (by decide +kernel) (by decide +kernel)
theorem m_f_X7_191 : Cond.fieldLink RX7 191 "FogNetsModel" "bookMany" "I" ∈ kW := kwIn 870 (by decide +kernel) (by decide +kernel)
theorem m_f_X7_71 : Cond.fieldLink RX7 71 "FogNetsModel" "book" "[I" ∈ kW := kwIn 871 (by decide +kernel) (by decide +kernel)
theorem m_f_X7_74 : Cond.fieldLink RX7 74 "FogNetsModel" "isKept" "[Z" ∈ kW := kwIn 872 (by decide +kernel) (by decide +kernel)
theorem m_f_X7_78 : Cond.fieldLink RX7 78 "FogNetsModel" "kept" "[I" ∈ kW := kwIn 873 (by decide +kernel) (by decide +kernel)
theorem m_f_X7_81 : Cond.fieldLink RX7 81 "FogNetsModel" "keptSeeds" "[J" ∈ kW := kwIn 874 (by decide +kernel) (by decide +kernel)
theorem m_a_oolean : Cond.arrayClass Jvm.ClassFile.FieldType.boolean ∈ kW := kwIn 964 (by decide +kernel) (by decide +kernel)
theorem m_a_e_long : Cond.arrayClass Jvm.ClassFile.FieldType.long ∈ kW := kwIn 965 (by decide +kernel) (by decide +kernel)
theorem m_m_L_17 : Cond.methodLink RL 17 yX7_feed ∈ kW := kwIn 966 (by decide +kernel) (by decide +kernel)
theorem m_i_X7_feed : Cond.instanceMethod yX7_feed ∈ kW := kwIn 967 (by decide +kernel) (by decide +kernel)
theorem m_x_X7_feed : Cond.selects RX7 yX7_feed yX7_feed ∈ kW := kwIn 968 (by decide +kernel) (by decide +kernel)
theorem m_c_X7_feed : Cond.code yX7_feed cX7_feed 2 (some .int) ∈ kW := kwIn 969 (by decide +kernel) (by decide +kernel)
theorem m_m_X7_85 : Cond.methodLink RX7 85 yX7_in ∈ kW := kwIn 970 (by decide +kernel) (by decide +kernel)
theorem m_s_X7_in : Cond.static yX7_in ∈ kW := kwIn 971 (by decide +kernel) (by decide +kernel)
theorem m_c_X7_in : Cond.code yX7_in cX7_in 3 (some .boolean) ∈ kW := kwIn 972 (by decide +kernel) (by decide +kernel)
theorem m_k_X7_89 : Cond.constant RX7 89 (-1000000002) ∈ kW := kwIn 973 (by decide +kernel) (by decide +kernel)
theorem m_k_X7_93 : Cond.constant RX7 93 (-1000000004) ∈ kW := kwIn 974 (by decide +kernel) (by decide +kernel)
theorem m_m_L_26 : Cond.methodLink RL 26 yX7_fault ∈ kW := kwIn 975 (by decide +kernel) (by decide +kernel)
theorem m_i_X7_fault : Cond.instanceMethod yX7_fault ∈ kW := kwIn 976 (by decide +kernel) (by decide +kernel)
theorem m_x_X7_fault : Cond.selects RX7 yX7_fault yX7_fault ∈ kW := kwIn 977 (by decide +kernel) (by decide +kernel)
theorem m_c_X7_fault : Cond.code yX7_fault cX7_fault 1 (some .int) ∈ kW := kwIn 978 (by decide +kernel) (by decide +kernel)
theorem m_m_L_22 : Cond.methodLink RL 22 yX7_coast ∈ kW := kwIn 979 (by decide +kernel) (by decide +kernel)
theorem m_i_X7_coast : Cond.instanceMethod yX7_coast ∈ kW := kwIn 980 (by decide +kernel) (by decide +kernel)
theorem m_x_X7_coast : Cond.selects RX7 yX7_coast yX7_coast ∈ kW := kwIn 981 (by decide +kernel) (by decide +kernel)
theorem m_c_X7_coast : Cond.code yX7_coast cX7_coast 3 (some .int) ∈ kW := kwIn 982 (by decide +kernel) (by decide +kernel)
theorem m_m_X7_167 : Cond.methodLink RX7 167 yX7_reads ∈ kW := kwIn 983 (by decide +kernel) (by decide +kernel)
theorem m_i_X7_reads : Cond.instanceMethod yX7_reads ∈ kW := kwIn 985 (by decide +kernel) (by decide +kernel)
theorem m_c_X7_reads : Cond.code yX7_reads cX7_reads 3 (some .boolean) ∈ kW := kwIn 986 (by decide +kernel) (by decide +kernel)
theorem m_m_X7_104 : Cond.methodLink RX7 104 yX7_blanks ∈ kW := kwIn 987 (by decide +kernel) (by decide +kernel)
theorem m_i_X7_blanks : Cond.instanceMethod yX7_blanks ∈ kW := kwIn 989 (by decide +kernel) (by decide +kernel)
theorem m_c_X7_blanks : Cond.code yX7_blanks cX7_blanks 1 none ∈ kW := kwIn 990 (by decide +kernel) (by decide +kernel)
theorem m_m_X7_97 : Cond.methodLink RX7 97 yX7_letterAt ∈ kW := kwIn 991 (by decide +kernel) (by decide +kernel)
theorem m_i_X7_letterAt : Cond.instanceMethod yX7_letterAt ∈ kW := kwIn 993 (by decide +kernel) (by decide +kernel)
theorem m_c_X7_letterAt : Cond.code yX7_letterAt cX7_letterAt 2 (some .int) ∈ kW := kwIn 994 (by decide +kernel) (by decide +kernel)
theorem m_m_X7_160 : Cond.methodLink RX7 160 yX7_readsClause ∈ kW := kwIn 995 (by decide +kernel) (by decide +kernel)
theorem m_i_X7_readsClause : Cond.instanceMethod yX7_readsClause ∈ kW := kwIn 997 (by decide +kernel) (by decide +kernel)
theorem m_c_X7_readsClause : Cond.code yX7_readsClause cX7_readsClause 3 (some .boolean) ∈ kW := kwIn 998 (by decide +kernel) (by decide +kernel)
theorem m_m_X7_142 : Cond.methodLink RX7 142 yX7_readsHead ∈ kW := kwIn 999 (by decide +kernel) (by decide +kernel)
theorem m_i_X7_readsHead : Cond.instanceMethod yX7_readsHead ∈ kW := kwIn 1001 (by decide +kernel) (by decide +kernel)
theorem m_c_X7_readsHead : Cond.code yX7_readsHead cX7_readsHead 1 (some .boolean) ∈ kW := kwIn 1002 (by decide +kernel) (by decide +kernel)
theorem m_m_X7_115 : Cond.methodLink RX7 115 yX7_reads2 ∈ kW := kwIn 1003 (by decide +kernel) (by decide +kernel)
theorem m_i_X7_reads2 : Cond.instanceMethod yX7_reads2 ∈ kW := kwIn 1005 (by decide +kernel) (by decide +kernel)
theorem m_c_X7_reads2 : Cond.code yX7_reads2 cX7_reads2 7 (some .boolean) ∈ kW := kwIn 1006 (by decide +kernel) (by decide +kernel)
theorem m_m_X7_111 : Cond.methodLink RX7 111 yX7_number ∈ kW := kwIn 1007 (by decide +kernel) (by decide +kernel)
theorem m_i_X7_number : Cond.instanceMethod yX7_number ∈ kW := kwIn 1009 (by decide +kernel) (by decide +kernel)
theorem m_c_X7_number : Cond.code yX7_number cX7_number 6 (some .int) ∈ kW := kwIn 1010 (by decide +kernel) (by decide +kernel)
theorem m_m_X7_107 : Cond.methodLink RX7 107 yX7_fails ∈ kW := kwIn 1011 (by decide +kernel) (by decide +kernel)
theorem m_i_X7_fails : Cond.instanceMethod yX7_fails ∈ kW := kwIn 1013 (by decide +kernel) (by decide +kernel)
theorem m_c_X7_fails : Cond.code yX7_fails cX7_fails 2 (some .boolean) ∈ kW := kwIn 1014 (by decide +kernel) (by decide +kernel)
theorem m_m_X7_119 : Cond.methodLink RX7 119 yX7_ends ∈ kW := kwIn 1015 (by decide +kernel) (by decide +kernel)
theorem m_i_X7_ends : Cond.instanceMethod yX7_ends ∈ kW := kwIn 1017 (by decide +kernel) (by decide +kernel)
theorem m_c_X7_ends : Cond.code yX7_ends cX7_ends 1 (some .boolean) ∈ kW := kwIn 1018 (by decide +kernel) (by decide +kernel)
theorem m_m_X7_145 : Cond.methodLink RX7 145 yX7_readsHour ∈ kW := kwIn 1019 (by decide +kernel) (by decide +kernel)
theorem m_i_X7_readsHour : Cond.instanceMethod yX7_readsHour ∈ kW := kwIn 1021 (by decide +kernel) (by decide +kernel)
theorem m_c_X7_readsHour : Cond.code yX7_readsHour cX7_readsHour 1 (some .boolean) ∈ kW := kwIn 1022 (by decide +kernel) (by decide +kernel)
theorem m_m_X7_148 : Cond.methodLink RX7 148 yX7_readsPost ∈ kW := kwIn 1023 (by decide +kernel) (by decide +kernel)
theorem m_i_X7_readsPost : Cond.instanceMethod yX7_readsPost ∈ kW := kwIn 1025 (by decide +kernel) (by decide +kernel)
theorem m_c_X7_readsPost : Cond.code yX7_readsPost cX7_readsPost 4 (some .boolean) ∈ kW := kwIn 1026 (by decide +kernel) (by decide +kernel)
theorem m_m_X7_129 : Cond.methodLink RX7 129 yX7_isTaken ∈ kW := kwIn 1027 (by decide +kernel) (by decide +kernel)
theorem m_i_X7_isTaken : Cond.instanceMethod yX7_isTaken ∈ kW := kwIn 1029 (by decide +kernel) (by decide +kernel)
theorem m_c_X7_isTaken : Cond.code yX7_isTaken cX7_isTaken 4 (some .boolean) ∈ kW := kwIn 1030 (by decide +kernel) (by decide +kernel)
theorem m_m_X7_151 : Cond.methodLink RX7 151 yX7_readsDays ∈ kW := kwIn 1031 (by decide +kernel) (by decide +kernel)
theorem m_i_X7_readsDays : Cond.instanceMethod yX7_readsDays ∈ kW := kwIn 1033 (by decide +kernel) (by decide +kernel)
theorem m_c_X7_readsDays : Cond.code yX7_readsDays cX7_readsDays 1 (some .boolean) ∈ kW := kwIn 1034 (by decide +kernel) (by decide +kernel)
theorem m_m_X7_154 : Cond.methodLink RX7 154 yX7_readsUse ∈ kW := kwIn 1035 (by decide +kernel) (by decide +kernel)
theorem m_i_X7_readsUse : Cond.instanceMethod yX7_readsUse ∈ kW := kwIn 1037 (by decide +kernel) (by decide +kernel)
theorem m_c_X7_readsUse : Cond.code yX7_readsUse cX7_readsUse 1 (some .boolean) ∈ kW := kwIn 1038 (by decide +kernel) (by decide +kernel)
theorem m_m_X7_157 : Cond.methodLink RX7 157 yX7_readsGoat ∈ kW := kwIn 1039 (by decide +kernel) (by decide +kernel)
theorem m_i_X7_readsGoat : Cond.instanceMethod yX7_readsGoat ∈ kW := kwIn 1041 (by decide +kernel) (by decide +kernel)
theorem m_c_X7_readsGoat : Cond.code yX7_readsGoat cX7_readsGoat 1 (some .boolean) ∈ kW := kwIn 1042 (by decide +kernel) (by decide +kernel)
theorem m_m_L_30 : Cond.methodLink RL 30 yX7_told ∈ kW := kwIn 1043 (by decide +kernel) (by decide +kernel)
theorem m_i_X7_told : Cond.instanceMethod yX7_told ∈ kW := kwIn 1044 (by decide +kernel) (by decide +kernel)
theorem m_x_X7_told : Cond.selects RX7 yX7_told yX7_told ∈ kW := kwIn 1045 (by decide +kernel) (by decide +kernel)
theorem m_c_X7_told : Cond.code yX7_told cX7_told 2 (some .int) ∈ kW := kwIn 1046 (by decide +kernel) (by decide +kernel)
theorem m_m_X7_205 : Cond.methodLink RX7 205 yX7_dayLong ∈ kW := kwIn 1047 (by decide +kernel) (by decide +kernel)
theorem m_i_X7_dayLong : Cond.instanceMethod yX7_dayLong ∈ kW := kwIn 1049 (by decide +kernel) (by decide +kernel)
theorem m_c_X7_dayLong : Cond.code yX7_dayLong cX7_dayLong 1 (some .int) ∈ kW := kwIn 1050 (by decide +kernel) (by decide +kernel)
theorem m_m_X7_209 : Cond.methodLink RX7 209 yX7_hanging ∈ kW := kwIn 1051 (by decide +kernel) (by decide +kernel)
theorem m_i_X7_hanging : Cond.instanceMethod yX7_hanging ∈ kW := kwIn 1053 (by decide +kernel) (by decide +kernel)
theorem m_c_X7_hanging : Cond.code yX7_hanging cX7_hanging 4 (some .int) ∈ kW := kwIn 1054 (by decide +kernel) (by decide +kernel)
theorem m_m_X7_201 : Cond.methodLink RX7 201 yX7_isHanging ∈ kW := kwIn 1055 (by decide +kernel) (by decide +kernel)
theorem m_i_X7_isHanging : Cond.instanceMethod yX7_isHanging ∈ kW := kwIn 1057 (by decide +kernel) (by decide +kernel)
theorem m_c_X7_isHanging : Cond.code yX7_isHanging cX7_isHanging 3 (some .boolean) ∈ kW := kwIn 1058 (by decide +kernel) (by decide +kernel)
theorem m_m_X7_197 : Cond.methodLink RX7 197 yX7_has ∈ kW := kwIn 1059 (by decide +kernel) (by decide +kernel)
theorem m_s_X7_has : Cond.static yX7_has ∈ kW := kwIn 1060 (by decide +kernel) (by decide +kernel)
theorem m_c_X7_has : Cond.code yX7_has cX7_has 2 (some .boolean) ∈ kW := kwIn 1061 (by decide +kernel) (by decide +kernel)
theorem m_m_X7_213 : Cond.methodLink RX7 213 yX7_jars ∈ kW := kwIn 1062 (by decide +kernel) (by decide +kernel)
theorem m_i_X7_jars : Cond.instanceMethod yX7_jars ∈ kW := kwIn 1064 (by decide +kernel) (by decide +kernel)
theorem m_c_X7_jars : Cond.code yX7_jars cX7_jars 4 (some .int) ∈ kW := kwIn 1065 (by decide +kernel) (by decide +kernel)
theorem m_m_L_35 : Cond.methodLink RL 35 yX7_post ∈ kW := kwIn 1066 (by decide +kernel) (by decide +kernel)
theorem m_i_X7_post : Cond.instanceMethod yX7_post ∈ kW := kwIn 1067 (by decide +kernel) (by decide +kernel)
theorem m_x_X7_post : Cond.selects RX7 yX7_post yX7_post ∈ kW := kwIn 1068 (by decide +kernel) (by decide +kernel)
theorem m_c_X7_post : Cond.code yX7_post cX7_post 3 (some .int) ∈ kW := kwIn 1069 (by decide +kernel) (by decide +kernel)
theorem m_m_X7_216 : Cond.methodLink RX7 216 yX7_isPost ∈ kW := kwIn 1070 (by decide +kernel) (by decide +kernel)
theorem m_i_X7_isPost : Cond.instanceMethod yX7_isPost ∈ kW := kwIn 1072 (by decide +kernel) (by decide +kernel)
theorem m_c_X7_isPost : Cond.code yX7_isPost cX7_isPost 2 (some .boolean) ∈ kW := kwIn 1073 (by decide +kernel) (by decide +kernel)
theorem m_k_X7_219 : Cond.constant RX7 219 (-1000000001) ∈ kW := kwIn 1074 (by decide +kernel) (by decide +kernel)
theorem m_m_L_39 : Cond.methodLink RL 39 yX7_fog ∈ kW := kwIn 1075 (by decide +kernel) (by decide +kernel)
theorem m_i_X7_fog : Cond.instanceMethod yX7_fog ∈ kW := kwIn 1076 (by decide +kernel) (by decide +kernel)
theorem m_x_X7_fog : Cond.selects RX7 yX7_fog yX7_fog ∈ kW := kwIn 1077 (by decide +kernel) (by decide +kernel)
theorem m_c_X7_fog : Cond.code yX7_fog cX7_fog 3 (some .int) ∈ kW := kwIn 1078 (by decide +kernel) (by decide +kernel)
theorem m_k_X7_220 : Cond.constant RX7 220 (-1000000003) ∈ kW := kwIn 1079 (by decide +kernel) (by decide +kernel)
theorem m_m_X7_221 : Cond.methodLink RX7 221 yX7_sideOf ∈ kW := kwIn 1080 (by decide +kernel) (by decide +kernel)
theorem m_i_X7_sideOf : Cond.instanceMethod yX7_sideOf ∈ kW := kwIn 1082 (by decide +kernel) (by decide +kernel)
theorem m_c_X7_sideOf : Cond.code yX7_sideOf cX7_sideOf 2 (some .int) ∈ kW := kwIn 1083 (by decide +kernel) (by decide +kernel)
theorem m_m_X7_224 : Cond.methodLink RX7 224 yX7_fogOf ∈ kW := kwIn 1084 (by decide +kernel) (by decide +kernel)
theorem m_i_X7_fogOf : Cond.instanceMethod yX7_fogOf ∈ kW := kwIn 1086 (by decide +kernel) (by decide +kernel)
theorem m_c_X7_fogOf : Cond.code yX7_fogOf cX7_fogOf 2 (some .int) ∈ kW := kwIn 1087 (by decide +kernel) (by decide +kernel)
theorem m_m_L_43 : Cond.methodLink RL 43 yX7_village ∈ kW := kwIn 1088 (by decide +kernel) (by decide +kernel)
theorem m_i_X7_village : Cond.instanceMethod yX7_village ∈ kW := kwIn 1089 (by decide +kernel) (by decide +kernel)
theorem m_x_X7_village : Cond.selects RX7 yX7_village yX7_village ∈ kW := kwIn 1090 (by decide +kernel) (by decide +kernel)
theorem m_c_X7_village : Cond.code yX7_village cX7_village 3 (some .int) ∈ kW := kwIn 1091 (by decide +kernel) (by decide +kernel)
theorem m_m_X7_227 : Cond.methodLink RX7 227 yX7_isVillage ∈ kW := kwIn 1092 (by decide +kernel) (by decide +kernel)
theorem m_s_X7_isVillage : Cond.static yX7_isVillage ∈ kW := kwIn 1093 (by decide +kernel) (by decide +kernel)
theorem m_c_X7_isVillage : Cond.code yX7_isVillage cX7_isVillage 1 (some .boolean) ∈ kW := kwIn 1094 (by decide +kernel) (by decide +kernel)
theorem m_m_X7_230 : Cond.methodLink RX7 230 yX7_postsOf ∈ kW := kwIn 1095 (by decide +kernel) (by decide +kernel)
theorem m_i_X7_postsOf : Cond.instanceMethod yX7_postsOf ∈ kW := kwIn 1097 (by decide +kernel) (by decide +kernel)
theorem m_c_X7_postsOf : Cond.code yX7_postsOf cX7_postsOf 4 (some .int) ∈ kW := kwIn 1098 (by decide +kernel) (by decide +kernel)
theorem m_m_L_47 : Cond.methodLink RL 47 yX7_goat ∈ kW := kwIn 1099 (by decide +kernel) (by decide +kernel)
theorem m_i_X7_goat : Cond.instanceMethod yX7_goat ∈ kW := kwIn 1100 (by decide +kernel) (by decide +kernel)
theorem m_x_X7_goat : Cond.selects RX7 yX7_goat yX7_goat ∈ kW := kwIn 1101 (by decide +kernel) (by decide +kernel)
theorem m_c_X7_goat : Cond.code yX7_goat cX7_goat 3 (some .int) ∈ kW := kwIn 1102 (by decide +kernel) (by decide +kernel)
theorem m_m_L_51 : Cond.methodLink RL 51 yX7_hour ∈ kW := kwIn 1103 (by decide +kernel) (by decide +kernel)
theorem m_i_X7_hour : Cond.instanceMethod yX7_hour ∈ kW := kwIn 1104 (by decide +kernel) (by decide +kernel)
theorem m_x_X7_hour : Cond.selects RX7 yX7_hour yX7_hour ∈ kW := kwIn 1105 (by decide +kernel) (by decide +kernel)
theorem m_c_X7_hour : Cond.code yX7_hour cX7_hour 5 (some .int) ∈ kW := kwIn 1106 (by decide +kernel) (by decide +kernel)
theorem m_m_X7_273 : Cond.methodLink RX7 273 yX7_need ∈ kW := kwIn 1107 (by decide +kernel) (by decide +kernel)
theorem m_i_X7_need : Cond.instanceMethod yX7_need ∈ kW := kwIn 1109 (by decide +kernel) (by decide +kernel)
theorem m_c_X7_need : Cond.code yX7_need cX7_need 2 (some .int) ∈ kW := kwIn 1110 (by decide +kernel) (by decide +kernel)
theorem m_m_X7_277 : Cond.methodLink RX7 277 yX7_remember ∈ kW := kwIn 1111 (by decide +kernel) (by decide +kernel)
theorem m_i_X7_remember : Cond.instanceMethod yX7_remember ∈ kW := kwIn 1113 (by decide +kernel) (by decide +kernel)
theorem m_c_X7_remember : Cond.code yX7_remember cX7_remember 2 none ∈ kW := kwIn 1114 (by decide +kernel) (by decide +kernel)
theorem m_m_X7_280 : Cond.methodLink RX7 280 yX7_passesOn ∈ kW := kwIn 1115 (by decide +kernel) (by decide +kernel)
theorem m_i_X7_passesOn : Cond.instanceMethod yX7_passesOn ∈ kW := kwIn 1117 (by decide +kernel) (by decide +kernel)
theorem m_c_X7_passesOn : Cond.code yX7_passesOn cX7_passesOn 2 (some .int) ∈ kW := kwIn 1118 (by decide +kernel) (by decide +kernel)
theorem m_m_X7_266 : Cond.methodLink RX7 266 yX7_passes ∈ kW := kwIn 1119 (by decide +kernel) (by decide +kernel)
theorem m_i_X7_passes : Cond.instanceMethod yX7_passes ∈ kW := kwIn 1121 (by decide +kernel) (by decide +kernel)
theorem m_c_X7_passes : Cond.code yX7_passes cX7_passes 8 (some .int) ∈ kW := kwIn 1122 (by decide +kernel) (by decide +kernel)
theorem m_m_X7_245 : Cond.methodLink RX7 245 yX7_lit ∈ kW := kwIn 1123 (by decide +kernel) (by decide +kernel)
theorem m_s_X7_lit : Cond.static yX7_lit ∈ kW := kwIn 1124 (by decide +kernel) (by decide +kernel)
theorem m_c_X7_lit : Cond.code yX7_lit cX7_lit 4 (some .int) ∈ kW := kwIn 1125 (by decide +kernel) (by decide +kernel)
theorem m_m_X7_249 : Cond.methodLink RX7 249 yX7_leads ∈ kW := kwIn 1126 (by decide +kernel) (by decide +kernel)
theorem m_i_X7_leads : Cond.instanceMethod yX7_leads ∈ kW := kwIn 1128 (by decide +kernel) (by decide +kernel)
theorem m_c_X7_leads : Cond.code yX7_leads cX7_leads 8 (some .int) ∈ kW := kwIn 1129 (by decide +kernel) (by decide +kernel)
theorem m_m_X7_233 : Cond.methodLink RX7 233 yX7_postIn ∈ kW := kwIn 1130 (by decide +kernel) (by decide +kernel)
theorem m_i_X7_postIn : Cond.instanceMethod yX7_postIn ∈ kW := kwIn 1132 (by decide +kernel) (by decide +kernel)
theorem m_c_X7_postIn : Cond.code yX7_postIn cX7_postIn 5 (some .int) ∈ kW := kwIn 1133 (by decide +kernel) (by decide +kernel)
theorem m_m_X7_237 : Cond.methodLink RX7 237 yX7_takes ∈ kW := kwIn 1134 (by decide +kernel) (by decide +kernel)
theorem m_s_X7_takes : Cond.static yX7_takes ∈ kW := kwIn 1135 (by decide +kernel) (by decide +kernel)
theorem m_c_X7_takes : Cond.code yX7_takes cX7_takes 2 (some .int) ∈ kW := kwIn 1136 (by decide +kernel) (by decide +kernel)
theorem m_m_X7_241 : Cond.methodLink RX7 241 yX7_counted ∈ kW := kwIn 1137 (by decide +kernel) (by decide +kernel)
theorem m_s_X7_counted : Cond.static yX7_counted ∈ kW := kwIn 1138 (by decide +kernel) (by decide +kernel)
theorem m_c_X7_counted : Cond.code yX7_counted cX7_counted 1 (some .int) ∈ kW := kwIn 1139 (by decide +kernel) (by decide +kernel)
theorem m_k_X7_240 : Cond.constant RX7 240 (999999) ∈ kW := kwIn 1140 (by decide +kernel) (by decide +kernel)
theorem m_m_X7_253 : Cond.methodLink RX7 253 yX7_carries ∈ kW := kwIn 1141 (by decide +kernel) (by decide +kernel)
theorem m_i_X7_carries : Cond.instanceMethod yX7_carries ∈ kW := kwIn 1143 (by decide +kernel) (by decide +kernel)
theorem m_c_X7_carries : Cond.code yX7_carries cX7_carries 5 (some .int) ∈ kW := kwIn 1144 (by decide +kernel) (by decide +kernel)
theorem m_k_X7_244 : Cond.constant RX7 244 (99999) ∈ kW := kwIn 1145 (by decide +kernel) (by decide +kernel)
theorem m_m_X7_256 : Cond.methodLink RX7 256 yX7_drinks ∈ kW := kwIn 1146 (by decide +kernel) (by decide +kernel)
theorem m_i_X7_drinks : Cond.instanceMethod yX7_drinks ∈ kW := kwIn 1148 (by decide +kernel) (by decide +kernel)
theorem m_c_X7_drinks : Cond.code yX7_drinks cX7_drinks 5 none ∈ kW := kwIn 1149 (by decide +kernel) (by decide +kernel)
theorem m_m_X7_260 : Cond.methodLink RX7 260 yX7_usesUp ∈ kW := kwIn 1150 (by decide +kernel) (by decide +kernel)
theorem m_i_X7_usesUp : Cond.instanceMethod yX7_usesUp ∈ kW := kwIn 1152 (by decide +kernel) (by decide +kernel)
theorem m_c_X7_usesUp : Cond.code yX7_usesUp cX7_usesUp 4 none ∈ kW := kwIn 1153 (by decide +kernel) (by decide +kernel)
theorem m_m_X7_263 : Cond.methodLink RX7 263 yX7_allTook ∈ kW := kwIn 1154 (by decide +kernel) (by decide +kernel)
theorem m_i_X7_allTook : Cond.instanceMethod yX7_allTook ∈ kW := kwIn 1156 (by decide +kernel) (by decide +kernel)
theorem m_c_X7_allTook : Cond.code yX7_allTook cX7_allTook 3 (some .int) ∈ kW := kwIn 1157 (by decide +kernel) (by decide +kernel)
theorem m_m_L_55 : Cond.methodLink RL 55 yX7_carry ∈ kW := kwIn 1158 (by decide +kernel) (by decide +kernel)
theorem m_i_X7_carry : Cond.instanceMethod yX7_carry ∈ kW := kwIn 1159 (by decide +kernel) (by decide +kernel)
theorem m_x_X7_carry : Cond.selects RX7 yX7_carry yX7_carry ∈ kW := kwIn 1160 (by decide +kernel) (by decide +kernel)
theorem m_c_X7_carry : Cond.code yX7_carry cX7_carry 2 (some .int) ∈ kW := kwIn 1161 (by decide +kernel) (by decide +kernel)
theorem m_m_L_59 : Cond.methodLink RL 59 yX7_lick ∈ kW := kwIn 1162 (by decide +kernel) (by decide +kernel)
theorem m_i_X7_lick : Cond.instanceMethod yX7_lick ∈ kW := kwIn 1163 (by decide +kernel) (by decide +kernel)
theorem m_x_X7_lick : Cond.selects RX7 yX7_lick yX7_lick ∈ kW := kwIn 1164 (by decide +kernel) (by decide +kernel)
theorem m_c_X7_lick : Cond.code yX7_lick cX7_lick 3 (some .int) ∈ kW := kwIn 1165 (by decide +kernel) (by decide +kernel)
theorem m_m_X7_283 : Cond.methodLink RX7 283 yX7_licks ∈ kW := kwIn 1166 (by decide +kernel) (by decide +kernel)
theorem m_i_X7_licks : Cond.instanceMethod yX7_licks ∈ kW := kwIn 1168 (by decide +kernel) (by decide +kernel)
theorem m_c_X7_licks : Cond.code yX7_licks cX7_licks 3 none ∈ kW := kwIn 1169 (by decide +kernel) (by decide +kernel)
theorem m_m_L_63 : Cond.methodLink RL 63 yX7_mesh ∈ kW := kwIn 1170 (by decide +kernel) (by decide +kernel)
theorem m_i_X7_mesh : Cond.instanceMethod yX7_mesh ∈ kW := kwIn 1171 (by decide +kernel) (by decide +kernel)
theorem m_x_X7_mesh : Cond.selects RX7 yX7_mesh yX7_mesh ∈ kW := kwIn 1172 (by decide +kernel) (by decide +kernel)
theorem m_c_X7_mesh : Cond.code yX7_mesh cX7_mesh 4 (some .int) ∈ kW := kwIn 1173 (by decide +kernel) (by decide +kernel)
theorem m_m_L_67 : Cond.methodLink RL 67 yX7_move ∈ kW := kwIn 1174 (by decide +kernel) (by decide +kernel)
theorem m_i_X7_move : Cond.instanceMethod yX7_move ∈ kW := kwIn 1175 (by decide +kernel) (by decide +kernel)
theorem m_x_X7_move : Cond.selects RX7 yX7_move yX7_move ∈ kW := kwIn 1176 (by decide +kernel) (by decide +kernel)
theorem m_c_X7_move : Cond.code yX7_move cX7_move 4 (some .int) ∈ kW := kwIn 1177 (by decide +kernel) (by decide +kernel)
theorem m_m_X7_287 : Cond.methodLink RX7 287 yX7_isCell ∈ kW := kwIn 1178 (by decide +kernel) (by decide +kernel)
theorem m_i_X7_isCell : Cond.instanceMethod yX7_isCell ∈ kW := kwIn 1180 (by decide +kernel) (by decide +kernel)
theorem m_c_X7_isCell : Cond.code yX7_isCell cX7_isCell 2 (some .boolean) ∈ kW := kwIn 1181 (by decide +kernel) (by decide +kernel)
theorem m_m_L_72 : Cond.methodLink RL 72 yX7_lamp ∈ kW := kwIn 1182 (by decide +kernel) (by decide +kernel)
theorem m_i_X7_lamp : Cond.instanceMethod yX7_lamp ∈ kW := kwIn 1183 (by decide +kernel) (by decide +kernel)
theorem m_x_X7_lamp : Cond.selects RX7 yX7_lamp yX7_lamp ∈ kW := kwIn 1184 (by decide +kernel) (by decide +kernel)
theorem m_c_X7_lamp : Cond.code yX7_lamp cX7_lamp 3 (some .int) ∈ kW := kwIn 1185 (by decide +kernel) (by decide +kernel)
theorem m_m_L_76 : Cond.methodLink RL 76 yX7_drift ∈ kW := kwIn 1186 (by decide +kernel) (by decide +kernel)
theorem m_i_X7_drift : Cond.instanceMethod yX7_drift ∈ kW := kwIn 1187 (by decide +kernel) (by decide +kernel)
theorem m_x_X7_drift : Cond.selects RX7 yX7_drift yX7_drift ∈ kW := kwIn 1188 (by decide +kernel) (by decide +kernel)
theorem m_c_X7_drift : Cond.code yX7_drift cX7_drift 7 (some .int) ∈ kW := kwIn 1189 (by decide +kernel) (by decide +kernel)
theorem m_m_X7_302 : Cond.methodLink RX7 302 yX7_draw ∈ kW := kwIn 1190 (by decide +kernel) (by decide +kernel)
theorem m_i_X7_draw : Cond.instanceMethod yX7_draw ∈ kW := kwIn 1192 (by decide +kernel) (by decide +kernel)
theorem m_c_X7_draw : Cond.code yX7_draw cX7_draw 2 (some .int) ∈ kW := kwIn 1193 (by decide +kernel) (by decide +kernel)
theorem m_K_X7_294 : Cond.constantLong RX7 294 (1103515245) ∈ kW := kwIn 1194 (by decide +kernel) (by decide +kernel)
theorem m_K_X7_296 : Cond.constantLong RX7 296 (12345) ∈ kW := kwIn 1195 (by decide +kernel) (by decide +kernel)
theorem m_K_X7_298 : Cond.constantLong RX7 298 (2147483648) ∈ kW := kwIn 1196 (by decide +kernel) (by decide +kernel)
theorem m_K_X7_300 : Cond.constantLong RX7 300 (65536) ∈ kW := kwIn 1197 (by decide +kernel) (by decide +kernel)
theorem m_m_L_80 : Cond.methodLink RL 80 yX7_undo ∈ kW := kwIn 1198 (by decide +kernel) (by decide +kernel)
theorem m_i_X7_undo : Cond.instanceMethod yX7_undo ∈ kW := kwIn 1199 (by decide +kernel) (by decide +kernel)
theorem m_x_X7_undo : Cond.selects RX7 yX7_undo yX7_undo ∈ kW := kwIn 1200 (by decide +kernel) (by decide +kernel)
theorem m_c_X7_undo : Cond.code yX7_undo cX7_undo 3 (some .int) ∈ kW := kwIn 1201 (by decide +kernel) (by decide +kernel)
theorem m_m_L_84 : Cond.methodLink RL 84 yX7_gets ∈ kW := kwIn 1202 (by decide +kernel) (by decide +kernel)
theorem m_i_X7_gets : Cond.instanceMethod yX7_gets ∈ kW := kwIn 1203 (by decide +kernel) (by decide +kernel)
theorem m_x_X7_gets : Cond.selects RX7 yX7_gets yX7_gets ∈ kW := kwIn 1204 (by decide +kernel) (by decide +kernel)
theorem m_c_X7_gets : Cond.code yX7_gets cX7_gets 3 (some .int) ∈ kW := kwIn 1205 (by decide +kernel) (by decide +kernel)
theorem m_m_X7_305 : Cond.methodLink RX7 305 yX7_copyNow ∈ kW := kwIn 1206 (by decide +kernel) (by decide +kernel)
theorem m_i_X7_copyNow : Cond.instanceMethod yX7_copyNow ∈ kW := kwIn 1208 (by decide +kernel) (by decide +kernel)
theorem m_c_X7_copyNow : Cond.code yX7_copyNow cX7_copyNow 2 none ∈ kW := kwIn 1209 (by decide +kernel) (by decide +kernel)
theorem m_m_X7_308 : Cond.methodLink RX7 308 yX7_goesOn ∈ kW := kwIn 1210 (by decide +kernel) (by decide +kernel)
theorem m_i_X7_goesOn : Cond.instanceMethod yX7_goesOn ∈ kW := kwIn 1212 (by decide +kernel) (by decide +kernel)
theorem m_c_X7_goesOn : Cond.code yX7_goesOn cX7_goesOn 4 none ∈ kW := kwIn 1213 (by decide +kernel) (by decide +kernel)
theorem m_m_L_88 : Cond.methodLink RL 88 yX7_level ∈ kW := kwIn 1214 (by decide +kernel) (by decide +kernel)
theorem m_i_X7_level : Cond.instanceMethod yX7_level ∈ kW := kwIn 1215 (by decide +kernel) (by decide +kernel)
theorem m_x_X7_level : Cond.selects RX7 yX7_level yX7_level ∈ kW := kwIn 1216 (by decide +kernel) (by decide +kernel)
theorem m_c_X7_level : Cond.code yX7_level cX7_level 3 (some .int) ∈ kW := kwIn 1217 (by decide +kernel) (by decide +kernel)
theorem m_m_L_92 : Cond.methodLink RL 92 yX7_shadow ∈ kW := kwIn 1218 (by decide +kernel) (by decide +kernel)
theorem m_i_X7_shadow : Cond.instanceMethod yX7_shadow ∈ kW := kwIn 1219 (by decide +kernel) (by decide +kernel)
theorem m_x_X7_shadow : Cond.selects RX7 yX7_shadow yX7_shadow ∈ kW := kwIn 1220 (by decide +kernel) (by decide +kernel)
theorem m_c_X7_shadow : Cond.code yX7_shadow cX7_shadow 4 (some .int) ∈ kW := kwIn 1221 (by decide +kernel) (by decide +kernel)
theorem m_m_L_96 : Cond.methodLink RL 96 yX7_left ∈ kW := kwIn 1222 (by decide +kernel) (by decide +kernel)
theorem m_i_X7_left : Cond.instanceMethod yX7_left ∈ kW := kwIn 1223 (by decide +kernel) (by decide +kernel)
theorem m_x_X7_left : Cond.selects RX7 yX7_left yX7_left ∈ kW := kwIn 1224 (by decide +kernel) (by decide +kernel)
theorem m_c_X7_left : Cond.code yX7_left cX7_left 1 (some .int) ∈ kW := kwIn 1225 (by decide +kernel) (by decide +kernel)
theorem m_m_L_100 : Cond.methodLink RL 100 yX7_bestMesh ∈ kW := kwIn 1226 (by decide +kernel) (by decide +kernel)
theorem m_i_X7_bestMesh : Cond.instanceMethod yX7_bestMesh ∈ kW := kwIn 1227 (by decide +kernel) (by decide +kernel)
theorem m_x_X7_bestMesh : Cond.selects RX7 yX7_bestMesh yX7_bestMesh ∈ kW := kwIn 1228 (by decide +kernel) (by decide +kernel)
theorem m_c_X7_bestMesh : Cond.code yX7_bestMesh cX7_bestMesh 6 (some .int) ∈ kW := kwIn 1229 (by decide +kernel) (by decide +kernel)
theorem m_m_L_104 : Cond.methodLink RL 104 yX7_bestCell ∈ kW := kwIn 1230 (by decide +kernel) (by decide +kernel)
theorem m_i_X7_bestCell : Cond.instanceMethod yX7_bestCell ∈ kW := kwIn 1231 (by decide +kernel) (by decide +kernel)
theorem m_x_X7_bestCell : Cond.selects RX7 yX7_bestCell yX7_bestCell ∈ kW := kwIn 1232 (by decide +kernel) (by decide +kernel)
theorem m_c_X7_bestCell : Cond.code yX7_bestCell cX7_bestCell 7 (some .int) ∈ kW := kwIn 1233 (by decide +kernel) (by decide +kernel)
theorem m_m_L_109 : Cond.methodLink RL 109 yX7_bestTwo ∈ kW := kwIn 1234 (by decide +kernel) (by decide +kernel)
theorem m_i_X7_bestTwo : Cond.instanceMethod yX7_bestTwo ∈ kW := kwIn 1235 (by decide +kernel) (by decide +kernel)
theorem m_x_X7_bestTwo : Cond.selects RX7 yX7_bestTwo yX7_bestTwo ∈ kW := kwIn 1236 (by decide +kernel) (by decide +kernel)
theorem m_c_X7_bestTwo : Cond.code yX7_bestTwo cX7_bestTwo 9 (some .int) ∈ kW := kwIn 1237 (by decide +kernel) (by decide +kernel)
theorem m_m_X7_312 : Cond.methodLink RX7 312 yX7_isFor ∈ kW := kwIn 1238 (by decide +kernel) (by decide +kernel)
theorem m_i_X7_isFor : Cond.instanceMethod yX7_isFor ∈ kW := kwIn 1240 (by decide +kernel) (by decide +kernel)
theorem m_c_X7_isFor : Cond.code yX7_isFor cX7_isFor 5 (some .boolean) ∈ kW := kwIn 1241 (by decide +kernel) (by decide +kernel)
theorem m_m_X7_315 : Cond.methodLink RX7 315 yX7_sumOf ∈ kW := kwIn 1242 (by decide +kernel) (by decide +kernel)
theorem m_i_X7_sumOf : Cond.instanceMethod yX7_sumOf ∈ kW := kwIn 1244 (by decide +kernel) (by decide +kernel)
theorem m_c_X7_sumOf : Cond.code yX7_sumOf cX7_sumOf 4 (some .int) ∈ kW := kwIn 1245 (by decide +kernel) (by decide +kernel)
theorem m_m_L_113 : Cond.methodLink RL 113 yX7_lampCosts ∈ kW := kwIn 1246 (by decide +kernel) (by decide +kernel)
theorem m_i_X7_lampCosts : Cond.instanceMethod yX7_lampCosts ∈ kW := kwIn 1247 (by decide +kernel) (by decide +kernel)
theorem m_x_X7_lampCosts : Cond.selects RX7 yX7_lampCosts yX7_lampCosts ∈ kW := kwIn 1248 (by decide +kernel) (by decide +kernel)
theorem m_c_X7_lampCosts : Cond.code yX7_lampCosts cX7_lampCosts 3 (some .int) ∈ kW := kwIn 1249 (by decide +kernel) (by decide +kernel)
theorem m_m_X7_318 : Cond.methodLink RX7 318 yX7_tookWith ∈ kW := kwIn 1250 (by decide +kernel) (by decide +kernel)
theorem m_i_X7_tookWith : Cond.instanceMethod yX7_tookWith ∈ kW := kwIn 1252 (by decide +kernel) (by decide +kernel)
theorem m_c_X7_tookWith : Cond.code yX7_tookWith cX7_tookWith 3 (some .int) ∈ kW := kwIn 1253 (by decide +kernel) (by decide +kernel)
theorem m_m_L_117 : Cond.methodLink RL 117 yX7_thirsty ∈ kW := kwIn 1254 (by decide +kernel) (by decide +kernel)
theorem m_i_X7_thirsty : Cond.instanceMethod yX7_thirsty ∈ kW := kwIn 1255 (by decide +kernel) (by decide +kernel)
theorem m_x_X7_thirsty : Cond.selects RX7 yX7_thirsty yX7_thirsty ∈ kW := kwIn 1256 (by decide +kernel) (by decide +kernel)
theorem m_c_X7_thirsty : Cond.code yX7_thirsty cX7_thirsty 4 (some .int) ∈ kW := kwIn 1257 (by decide +kernel) (by decide +kernel)
theorem m_m_L_121 : Cond.methodLink RL 121 yX7_lasts ∈ kW := kwIn 1258 (by decide +kernel) (by decide +kernel)
theorem m_i_X7_lasts : Cond.instanceMethod yX7_lasts ∈ kW := kwIn 1259 (by decide +kernel) (by decide +kernel)
theorem m_x_X7_lasts : Cond.selects RX7 yX7_lasts yX7_lasts ∈ kW := kwIn 1260 (by decide +kernel) (by decide +kernel)
theorem m_c_X7_lasts : Cond.code yX7_lasts cX7_lasts 3 (some .int) ∈ kW := kwIn 1261 (by decide +kernel) (by decide +kernel)
theorem m_m_L_125 : Cond.methodLink RL 125 yX7_both ∈ kW := kwIn 1262 (by decide +kernel) (by decide +kernel)
theorem m_i_X7_both : Cond.instanceMethod yX7_both ∈ kW := kwIn 1263 (by decide +kernel) (by decide +kernel)
theorem m_x_X7_both : Cond.selects RX7 yX7_both yX7_both ∈ kW := kwIn 1264 (by decide +kernel) (by decide +kernel)
theorem m_c_X7_both : Cond.code yX7_both cX7_both 2 (some .int) ∈ kW := kwIn 1265 (by decide +kernel) (by decide +kernel)
theorem m_m_L_129 : Cond.methodLink RL 129 yX7_apart ∈ kW := kwIn 1266 (by decide +kernel) (by decide +kernel)
theorem m_i_X7_apart : Cond.instanceMethod yX7_apart ∈ kW := kwIn 1267 (by decide +kernel) (by decide +kernel)
theorem m_x_X7_apart : Cond.selects RX7 yX7_apart yX7_apart ∈ kW := kwIn 1268 (by decide +kernel) (by decide +kernel)
theorem m_c_X7_apart : Cond.code yX7_apart cX7_apart 5 (some .int) ∈ kW := kwIn 1269 (by decide +kernel) (by decide +kernel)
theorem m_m_L_133 : Cond.methodLink RL 133 yX7_share ∈ kW := kwIn 1270 (by decide +kernel) (by decide +kernel)
theorem m_i_X7_share : Cond.instanceMethod yX7_share ∈ kW := kwIn 1271 (by decide +kernel) (by decide +kernel)
theorem m_x_X7_share : Cond.selects RX7 yX7_share yX7_share ∈ kW := kwIn 1272 (by decide +kernel) (by decide +kernel)
theorem m_c_X7_share : Cond.code yX7_share cX7_share 5 (some .int) ∈ kW := kwIn 1273 (by decide +kernel) (by decide +kernel)
theorem m_m_X7_321 : Cond.methodLink RX7 321 yX7_ownedBy ∈ kW := kwIn 1274 (by decide +kernel) (by decide +kernel)
theorem m_i_X7_ownedBy : Cond.instanceMethod yX7_ownedBy ∈ kW := kwIn 1276 (by decide +kernel) (by decide +kernel)
theorem m_c_X7_ownedBy : Cond.code yX7_ownedBy cX7_ownedBy 4 (some .int) ∈ kW := kwIn 1277 (by decide +kernel) (by decide +kernel)
theorem m_m_L_137 : Cond.methodLink RL 137 yX7_led ∈ kW := kwIn 1278 (by decide +kernel) (by decide +kernel)
theorem m_i_X7_led : Cond.instanceMethod yX7_led ∈ kW := kwIn 1279 (by decide +kernel) (by decide +kernel)
theorem m_x_X7_led : Cond.selects RX7 yX7_led yX7_led ∈ kW := kwIn 1280 (by decide +kernel) (by decide +kernel)
theorem m_c_X7_led : Cond.code yX7_led cX7_led 8 (some .int) ∈ kW := kwIn 1281 (by decide +kernel) (by decide +kernel)
theorem m_m_L_141 : Cond.methodLink RL 141 yX7_yards ∈ kW := kwIn 1282 (by decide +kernel) (by decide +kernel)
theorem m_i_X7_yards : Cond.instanceMethod yX7_yards ∈ kW := kwIn 1283 (by decide +kernel) (by decide +kernel)
theorem m_x_X7_yards : Cond.selects RX7 yX7_yards yX7_yards ∈ kW := kwIn 1284 (by decide +kernel) (by decide +kernel)
theorem m_c_X7_yards : Cond.code yX7_yards cX7_yards 9 (some .int) ∈ kW := kwIn 1285 (by decide +kernel) (by decide +kernel)
theorem m_k_X7_324 : Cond.constant RX7 324 (100000000) ∈ kW := kwIn 1286 (by decide +kernel) (by decide +kernel)
theorem m_m_L_145 : Cond.methodLink RL 145 yX7_clear ∈ kW := kwIn 1287 (by decide +kernel) (by decide +kernel)
theorem m_i_X7_clear : Cond.instanceMethod yX7_clear ∈ kW := kwIn 1288 (by decide +kernel) (by decide +kernel)
theorem m_x_X7_clear : Cond.selects RX7 yX7_clear yX7_clear ∈ kW := kwIn 1289 (by decide +kernel) (by decide +kernel)
theorem m_c_X7_clear : Cond.code yX7_clear cX7_clear 6 (some .int) ∈ kW := kwIn 1290 (by decide +kernel) (by decide +kernel)
theorem m_K_X7_325 : Cond.constantLong RX7 325 (1000000000) ∈ kW := kwIn 1291 (by decide +kernel) (by decide +kernel)
theorem m_K_X7_327 : Cond.constantLong RX7 327 (100) ∈ kW := kwIn 1292 (by decide +kernel) (by decide +kernel)
theorem m_m_L_149 : Cond.methodLink RL 149 yX7_got ∈ kW := kwIn 1293 (by decide +kernel) (by decide +kernel)
theorem m_i_X7_got : Cond.instanceMethod yX7_got ∈ kW := kwIn 1294 (by decide +kernel) (by decide +kernel)
theorem m_x_X7_got : Cond.selects RX7 yX7_got yX7_got ∈ kW := kwIn 1295 (by decide +kernel) (by decide +kernel)
theorem m_c_X7_got : Cond.code yX7_got cX7_got 4 (some .int) ∈ kW := kwIn 1296 (by decide +kernel) (by decide +kernel)
theorem m_m_X7_329 : Cond.methodLink RX7 329 yX7_isSide ∈ kW := kwIn 1297 (by decide +kernel) (by decide +kernel)
theorem m_s_X7_isSide : Cond.static yX7_isSide ∈ kW := kwIn 1298 (by decide +kernel) (by decide +kernel)
theorem m_c_X7_isSide : Cond.code yX7_isSide cX7_isSide 1 (some .boolean) ∈ kW := kwIn 1299 (by decide +kernel) (by decide +kernel)
theorem m_m_L_153 : Cond.methodLink RL 153 yX7_thick ∈ kW := kwIn 1300 (by decide +kernel) (by decide +kernel)
theorem m_i_X7_thick : Cond.instanceMethod yX7_thick ∈ kW := kwIn 1301 (by decide +kernel) (by decide +kernel)
theorem m_x_X7_thick : Cond.selects RX7 yX7_thick yX7_thick ∈ kW := kwIn 1302 (by decide +kernel) (by decide +kernel)
theorem m_c_X7_thick : Cond.code yX7_thick cX7_thick 7 (some .int) ∈ kW := kwIn 1303 (by decide +kernel) (by decide +kernel)
theorem m_m_X7_335 : Cond.methodLink RX7 335 yX7_isSo ∈ kW := kwIn 1304 (by decide +kernel) (by decide +kernel)
theorem m_i_X7_isSo : Cond.instanceMethod yX7_isSo ∈ kW := kwIn 1306 (by decide +kernel) (by decide +kernel)
theorem m_c_X7_isSo : Cond.code yX7_isSo cX7_isSo 4 (some .boolean) ∈ kW := kwIn 1307 (by decide +kernel) (by decide +kernel)
theorem m_m_X7_332 : Cond.methodLink RX7 332 yX7_tookOf ∈ kW := kwIn 1308 (by decide +kernel) (by decide +kernel)
theorem m_i_X7_tookOf : Cond.instanceMethod yX7_tookOf ∈ kW := kwIn 1310 (by decide +kernel) (by decide +kernel)
theorem m_c_X7_tookOf : Cond.code yX7_tookOf cX7_tookOf 4 (some .int) ∈ kW := kwIn 1311 (by decide +kernel) (by decide +kernel)
theorem m_m_L_157 : Cond.methodLink RL 157 yX7_lookAt ∈ kW := kwIn 1312 (by decide +kernel) (by decide +kernel)
theorem m_i_X7_lookAt : Cond.instanceMethod yX7_lookAt ∈ kW := kwIn 1313 (by decide +kernel) (by decide +kernel)
theorem m_x_X7_lookAt : Cond.selects RX7 yX7_lookAt yX7_lookAt ∈ kW := kwIn 1314 (by decide +kernel) (by decide +kernel)
theorem m_c_X7_lookAt : Cond.code yX7_lookAt cX7_lookAt 7 (some .int) ∈ kW := kwIn 1315 (by decide +kernel) (by decide +kernel)
theorem m_m_X7_338 : Cond.methodLink RX7 338 yX7_thick ∈ kW := kwIn 1316 (by decide +kernel) (by decide +kernel)
theorem m_m_X7_341 : Cond.methodLink RX7 341 yX7_greatest ∈ kW := kwIn 1317 (by decide +kernel) (by decide +kernel)
theorem m_i_X7_greatest : Cond.instanceMethod yX7_greatest ∈ kW := kwIn 1319 (by decide +kernel) (by decide +kernel)
theorem m_c_X7_greatest : Cond.code yX7_greatest cX7_greatest 7 (some .int) ∈ kW := kwIn 1320 (by decide +kernel) (by decide +kernel)
theorem m_m_L_161 : Cond.methodLink RL 161 yX7_needs ∈ kW := kwIn 1321 (by decide +kernel) (by decide +kernel)
theorem m_i_X7_needs : Cond.instanceMethod yX7_needs ∈ kW := kwIn 1322 (by decide +kernel) (by decide +kernel)
theorem m_x_X7_needs : Cond.selects RX7 yX7_needs yX7_needs ∈ kW := kwIn 1323 (by decide +kernel) (by decide +kernel)
theorem m_c_X7_needs : Cond.code yX7_needs cX7_needs 5 (some .int) ∈ kW := kwIn 1324 (by decide +kernel) (by decide +kernel)
theorem m_m_L_165 : Cond.methodLink RL 165 yX7_write ∈ kW := kwIn 1325 (by decide +kernel) (by decide +kernel)
theorem m_i_X7_write : Cond.instanceMethod yX7_write ∈ kW := kwIn 1326 (by decide +kernel) (by decide +kernel)
theorem m_x_X7_write : Cond.selects RX7 yX7_write yX7_write ∈ kW := kwIn 1327 (by decide +kernel) (by decide +kernel)
theorem m_c_X7_write : Cond.code yX7_write cX7_write 3 (some .int) ∈ kW := kwIn 1328 (by decide +kernel) (by decide +kernel)
theorem m_m_L_169 : Cond.methodLink RL 169 yX7_judge ∈ kW := kwIn 1329 (by decide +kernel) (by decide +kernel)
theorem m_i_X7_judge : Cond.instanceMethod yX7_judge ∈ kW := kwIn 1330 (by decide +kernel) (by decide +kernel)
theorem m_x_X7_judge : Cond.selects RX7 yX7_judge yX7_judge ∈ kW := kwIn 1331 (by decide +kernel) (by decide +kernel)
theorem m_c_X7_judge : Cond.code yX7_judge cX7_judge 3 (some .int) ∈ kW := kwIn 1332 (by decide +kernel) (by decide +kernel)
theorem m_m_L_173 : Cond.methodLink RL 173 yX7_tear ∈ kW := kwIn 1333 (by decide +kernel) (by decide +kernel)
theorem m_i_X7_tear : Cond.instanceMethod yX7_tear ∈ kW := kwIn 1334 (by decide +kernel) (by decide +kernel)
theorem m_x_X7_tear : Cond.selects RX7 yX7_tear yX7_tear ∈ kW := kwIn 1335 (by decide +kernel) (by decide +kernel)
theorem m_c_X7_tear : Cond.code yX7_tear cX7_tear 2 (some .int) ∈ kW := kwIn 1336 (by decide +kernel) (by decide +kernel)
theorem m_m_L_177 : Cond.methodLink RL 177 yX7_seed ∈ kW := kwIn 1337 (by decide +kernel) (by decide +kernel)
theorem m_i_X7_seed : Cond.instanceMethod yX7_seed ∈ kW := kwIn 1338 (by decide +kernel) (by decide +kernel)
theorem m_x_X7_seed : Cond.selects RX7 yX7_seed yX7_seed ∈ kW := kwIn 1339 (by decide +kernel) (by decide +kernel)
theorem m_c_X7_seed : Cond.code yX7_seed cX7_seed 3 (some .int) ∈ kW := kwIn 1340 (by decide +kernel) (by decide +kernel)
theorem m_m_L_181 : Cond.methodLink RL 181 yX7_keep ∈ kW := kwIn 1341 (by decide +kernel) (by decide +kernel)
theorem m_i_X7_keep : Cond.instanceMethod yX7_keep ∈ kW := kwIn 1342 (by decide +kernel) (by decide +kernel)
theorem m_x_X7_keep : Cond.selects RX7 yX7_keep yX7_keep ∈ kW := kwIn 1343 (by decide +kernel) (by decide +kernel)
theorem m_c_X7_keep : Cond.code yX7_keep cX7_keep 3 (some .int) ∈ kW := kwIn 1344 (by decide +kernel) (by decide +kernel)
theorem m_m_L_185 : Cond.methodLink RL 185 yX7_goBack ∈ kW := kwIn 1345 (by decide +kernel) (by decide +kernel)
theorem m_i_X7_goBack : Cond.instanceMethod yX7_goBack ∈ kW := kwIn 1346 (by decide +kernel) (by decide +kernel)
theorem m_x_X7_goBack : Cond.selects RX7 yX7_goBack yX7_goBack ∈ kW := kwIn 1347 (by decide +kernel) (by decide +kernel)
theorem m_c_X7_goBack : Cond.code yX7_goBack cX7_goBack 3 (some .int) ∈ kW := kwIn 1348 (by decide +kernel) (by decide +kernel)
theorem inkX0 : ∀ w ∈ wsX00, w ∈ kW := kwAll [187, 189, 191, 193, 195, 197, 199, 201, 203, 205, 207, 209, 211, 213, 215] (by decide +kernel) (by decide +kernel)
theorem inkX1 : ∀ w ∈ wsX10, w ∈ kW := kwAll [323, 325, 327, 329] (by decide +kernel) (by decide +kernel)
theorem inkX2 : ∀ w ∈ wsX20, w ∈ kW := kwAll [299, 301, 303] (by decide +kernel) (by decide +kernel)
theorem inkX3 : ∀ w ∈ wsX30, w ∈ kW := kwAll [112, 114, 116, 118, 120, 122, 124, 126] (by decide +kernel) (by decide +kernel)
theorem inkX4 : ∀ w ∈ wsX40, w ∈ kW := kwAll [246, 248, 250, 252, 254, 256, 258, 260, 262, 264] (by decide +kernel) (by decide +kernel)
theorem inkX5 : ∀ w ∈ wsX50, w ∈ kW := kwAll [279, 281, 283] (by decide +kernel) (by decide +kernel)
theorem inkX6 : ∀ w ∈ wsX60, w ∈ kW := kwAll [346, 348, 350, 352, 354, 356, 358, 360, 362, 364, 366, 368, 370, 372] (by decide +kernel) (by decide +kernel)
theorem inkX7 : ∀ w ∈ wsX70, w ∈ kW := kwAll [875, 877, 879, 881, 883, 885, 887, 889, 891, 893, 895, 897, 899, 901, 903, 905, 907, 909, 911, 913, 915, 917, 919, 921, 923, 925, 927, 929, 931, 933, 935, 937, 939, 941, 943, 945, 947, 949, 951, 953, 955, 957, 959, 961] (by decide +kernel) (by decide +kernel)
end
section
/-! ===== the memory of one side: N cells at ad 0 .. ad (N - 1); what they hold is told by numbers ===== -/
def wl (N : Nat) (ad : Nat → Nat) (E : Nat → va_E) : va_W := (List.range N).map (fun k => (ad k, E k))
theorem wl_get {N : Nat} {ad : Nat → Nat} {E : Nat → va_E} {k : Nat} (h : k < N) : (wl N ad E)[k]? = some (ad k, E k) := by
  simp [wl, h]
theorem wl_some {N : Nat} {ad : Nat → Nat} {E : Nat → va_E} {k : Nat} {q : Nat × va_E} (h : (wl N ad E)[k]? = some q) : k < N ∧ q = (ad k, E k) := by
  have hl : k < N := by
    have h1 := (List.getElem?_eq_some_iff.mp h).1
    simpa [wl] using h1
  rw [wl_get hl] at h
  exact ⟨hl, (Option.some.inj h).symm⟩
theorem wl_congr {N : Nat} {ad : Nat → Nat} {E E' : Nat → va_E} (h : ∀ k, k < N → E k = E' k) : wl N ad E = wl N ad E' := by
  unfold wl
  exact List.map_congr_left (fun k hk => by rw [h k (List.mem_range.mp hk)])
theorem wl_set {N : Nat} {ad : Nat → Nat} {E : Nat → va_E} {k : Nat} (h : k < N) (e : va_E) : (wl N ad E).set k (ad k, e) = wl N ad (va_up E k e) := by
  apply List.ext_getElem?
  intro j
  by_cases hj : j < N
  · by_cases hk : j = k
    · subst hk
      rw [List.getElem?_set_self (by simpa [wl] using hj), wl_get hj]
      simp [va_up]
    · rw [List.getElem?_set_ne (Ne.symm hk), wl_get hj, wl_get hj]
      simp [va_up, hk]
  · rw [List.getElem?_eq_none (by simpa [wl] using Nat.le_of_not_lt hj), List.getElem?_eq_none (by simpa [wl] using Nat.le_of_not_lt hj)]
theorem wl_D {N : Nat} {ad : Nat → Nat} {E E' : Nat → va_E} {A B : Nat → Prop} (h : va_D A (wl N ad E)) (hAB : ∀ q, A q → B q) : va_D B (wl N ad E') := by
  refine ⟨fun i j p q hi hj hpq => ?_, fun k q hk => ?_⟩
  · obtain ⟨i1, rfl⟩ := wl_some hi
    obtain ⟨j1, rfl⟩ := wl_some hj
    exact h.1 i j _ _ (wl_get i1) (wl_get j1) hpq
  · obtain ⟨k1, rfl⟩ := wl_some hk
    exact hAB _ (h.2 k _ (wl_get k1))
theorem wl_A {N : Nat} {ad : Nat → Nat} {E : Nat → va_E} {sz q : Nat} (h : va_A (wl N ad E) sz q) : (∃ k, k < N ∧ q = ad k) ∨ sz ≤ q := by
  rcases h with ⟨k, e, h⟩ | h
  · obtain ⟨k1, h2⟩ := wl_some h
    exact Or.inl ⟨k, k1, congrArg Prod.fst h2⟩
  · exact Or.inr h
/-- numbers by cell and place; long numbers; references that change -/
abbrev Mem : Type := (Nat → Nat → Int32) × (Nat → Int64) × (Nat → Nat)
/-- a side: how many cells, the kind of each, the length of each row -/
abbrev Sd : Type := Nat × (Nat → Nat) × (Nat → Nat)
def sA (μ : Mem) (k : Nat) (f : Nat → Int32) : Mem := (fun a => if a = k then f else μ.1 a, μ.2)
def sI (μ : Mem) (k j : Nat) (v : Int32) : Mem := sA μ k (upd (μ.1 k) j v)
def sL (μ : Mem) (j : Nat) (v : Int64) : Mem := (μ.1, vp_updL μ.2.1 j v, μ.2.2)
def sR (μ : Mem) (j v : Nat) : Mem := (μ.1, μ.2.1, fun a => if a = j then v else μ.2.2 a)
def e0 : Nat → va_E := fun _ => .inr (0, [])
/-- what stands in a cell, by its kind: 0 Coast, 1 Notes, 2 Past, 3 Reader, 4 State, 5 Wind, 6 FogNets, 7 the reference, 9 long[], 10 boolean[], 11 the ring, 12 the images, 8 int[] -/
def enc (S : Sd) (C : Nat → ClassId) (ad : Nat → Nat) (μ : Mem) (k : Nat) : va_E := match S.2.1 k with
  | 0 => .inr (0, [.int (μ.1 k 0), .int (μ.1 k 1), .int (μ.1 k 2), .int (μ.1 k 3), .int (μ.1 k 4), .ref (ad (k + 1)), .ref (ad (k + 2)), .ref (ad (k + 3)), .ref (ad (k + 4)), .ref (ad (k + 5)), .ref (ad (k + 6)), .ref (ad (k + 7)), .ref (ad (k + 8)), .ref (ad (k + 9)), .ref (ad (k + 10))])
  | 1 => .inr (1, [.ref (ad (k + 1)), .ref (ad (k + 2)), .ref (ad (k + 3)), .int (μ.1 k 3)])
  | 2 => .inr (2, [.ref (ad (k + 1)), .int (μ.1 k 1), .int (μ.1 k 2)])
  | 3 => .inr (3, [.ref (ad (k + 1)), .int (μ.1 k 1), .int (μ.1 k 2), .int (μ.1 k 3), .int (μ.1 k 4), .int (μ.1 k 5), .int (μ.1 k 6), .int (μ.1 k 7)])
  | 4 => .inr (4, [.int (μ.1 k 0), .int (μ.1 k 1), .int (μ.1 k 2), .int (μ.1 k 3), .int (μ.1 k 4), .ref (ad (k + 1)), .ref (ad (k + 2)), .ref (ad (k + 3)), .ref (ad (k + 4)), .ref (ad (k + 5))])
  | 5 => .inr (5, [.ref (ad (k + 1)), .ref (ad (k + 2)), .int (μ.1 k 2)])
  | 6 => .inr (6, [.ref (ad 1), .ref (ad (μ.2.2 0)), .ref (ad (μ.2.2 1)), .ref (ad 25), .ref (ad 31), .ref (ad 37), .ref (ad 38), .ref (ad 41), .ref (ad 223), .ref (ad 236), .int (μ.1 k 10), .ref (ad 237), .ref (ad 241), .ref (ad 245)])
  | 7 => .inr (7, [.int (μ.1 k 0), .ref (ad 1), .int (μ.1 k 2), .int (μ.1 k 3), .int (μ.1 k 4), .int (μ.1 k 5), .int (μ.1 k 6), .int (μ.1 k 7), .int (μ.1 k 8), .int (μ.1 k 9), .int (μ.1 k 10), .ref (ad 2), .ref (ad 3), .ref (ad 4), .ref (ad 5), .ref (ad 6), .ref (ad 7), .int (μ.1 k 17), .int (μ.1 k 18), .int (μ.1 k 19), .int (μ.1 k 20), .int (μ.1 k 21), .int (μ.1 k 22), .ref (ad 8), .ref (ad 9), .ref (ad 10), .ref (ad 11), .ref (ad 12), .ref (ad 13), .ref (ad 14), .ref (ad 15), .ref (ad 16), .int (μ.1 k 32), .int (μ.1 k 33), .ref (ad 17), .long (μ.2.1 0), .ref (ad 18), .int (μ.1 k 37), .ref (ad 19), .int (μ.1 k 39), .ref (ad 20), .ref (ad 21), .ref (ad 22), .ref (ad 23)])
  | 9 => .inl (C 1, S.2.2 k, .inr (.inl (fun j => μ.2.1 (1 + j))))
  | 10 => .inl (C 2, S.2.2 k, .inl (μ.1 k))
  | 11 => .inl (C 3, S.2.2 k, .inr (.inr (.inr (.inr (fun j => some (ad (43 + 6 * j)))))))
  | 12 => .inl (C 3, S.2.2 k, .inr (.inr (.inr (.inr (fun j => some (ad (224 + 6 * j)))))))
  | _ => .inl (C 0, S.2.2 k, .inl (μ.1 k))
def tyL (C : Nat → ClassId) : List (ClassId × FieldType) := [(C 0, .int), (C 1, .long), (C 2, .boolean), (C 3, .object RX4)]
/-- the two references of FogNets that change are coasts -/
def wfS (S : Sd) (μ : Mem) : Prop := S.2.1 0 = 6 → S.2.1 (μ.2.2 0) = 0 ∧ S.2.1 (μ.2.2 1) = 0
def nestL : List (String × Nat × MethodName × String) := [("FogNets", 9, yX3_init, "FogNets"), ("FogNets", 18, yX0_init, "FogNets"), ("FogNets", 28, yX4_init, "FogNets"), ("FogNets", 42, yX5_init, "FogNets"), ("FogNets$Past", 24, yX4_init, "FogNets"), ("FogNets$Reader", 38, yX6_put, "FogNets"), ("FogNets$Reader", 140, yX6_within, "FogNets"), ("FogNets$Coast", 64, yX6_at, "FogNets"), ("FogNets$Wind", 38, yX6_put, "FogNets"), ("FogNets$State", 121, yX6_at, "FogNets"), ("FogNets$State", 141, yX6_put, "FogNets"), ("FogNets$Wind", 31, yX6_at, "FogNets"), ("FogNets$Notes", 29, yX6_put, "FogNets")]
def NW (U : State) : Prop := ∀ q ∈ nestL, va_Nw (.methodLinkNest q.1 q.2.1 q.2.2.1 q.2.2.2) U
theorem NW.warm {s U : State} (hW : s.WarmedH U.vm) (h : NW s) : NW U := fun q hq => va_Nw.warmM hW (h q hq)
theorem NW.same {u U : State} (hv : u.vm = U.vm) (h : NW u) : NW U := fun q hq => va_Nw.same rfl hv (h q hq)
def FU (S : Sd) (D : va_G) (C : Nat → ClassId) (ad : Nat → Nat) (μ : Mem) (U : State) : Prop :=
  wfS S μ ∧ va_P D vwCl (wl S.1 ad (enc S C ad μ)) U.heap ∧ va_K D vwCl (tyL C) U ∧ NW U ∧ va_D (fun _ => True) (wl S.1 ad e0)
def FW (S : Sd) (D : va_G) (C : Nat → ClassId) (ad : Nat → Nat) (A : Nat → Prop) (H0 : Heap) (μ : Mem) (H : Heap) (locs : List Loc) : Prop :=
  wfS S μ ∧ va_P D vwCl (wl S.1 ad (enc S C ad μ)) H ∧ va_S A H0 H locs
def CX (S : Sd) (D : va_G) (C : Nat → ClassId) (ad : Nat → Nat) (A : Nat → Prop) (H0 : Heap) (p : Program) (s : State) (m : MethodId) (args : Array Value) (c : Code) (cc : ByteArray) (nL : Nat) (own : String) : Prop :=
  p.tables.exec = Jvm.exec ∧ c.code = cc ∧ c.maxLocals = nL ∧ s.vm.findClass own = some m.cls ∧ (∀ w ∈ kW, w.before args s = true) ∧ NW s ∧ va_K D vwCl (tyL C) s ∧ va_D A (wl S.1 ad e0) ∧ (∀ k, S.2.1 k < 99 → k < S.1) ∧ ∀ q, H0.size ≤ q → A q
theorem FU.blind {S : Sd} {D : va_G} {C : Nat → ClassId} {ad : Nat → Nat} {μ : Mem} {av : List Value} {sz : Nat} : FrameBlind (va_Pc av (fun U => U.heap.size = sz ∧ FU S D C ad μ U)) := by
  intro a U g mk q
  obtain ⟨q0, q1, q2, q3, q4, q5, q6⟩ := q
  exact ⟨q0, q1, q2, q3, va_K.moved (u := U) (U := U.calling g mk a) (Vm.Alike.refl U.vm) q4, NW.same (u := U) (U := U.calling g mk a) rfl q5, q6⟩
abbrev WS (y : MethodName) (b : ByteArray) (n : Nat) (r : Option FieldType) : List Cond := Cond.code y b n r :: kW
/-- the contracts: from every memory, wherever it lies, the method returns, and Q holds of its answer and the new memory -/
def Mi (S : Sd) (l : Launch) (y : MethodName) (b : ByteArray) (n : Nat) (r : Option FieldType) (rm : Room) (D : va_G) (C : Nat → ClassId) (ad : Nat → Nat) (av : List Value) (μ : Mem) (Q : Int32 → Mem → Prop) : Prop :=
  ∀ sz : Nat, Met l y (WS y b n r) rm (va_Pc av (fun U => U.heap.size = sz ∧ FU S D C ad μ U)) (va_Qi Q (FU S D C ad) (va_A (wl S.1 ad e0) sz)) 0 0 (va_A (wl S.1 ad e0) sz)
def Ml (S : Sd) (l : Launch) (y : MethodName) (b : ByteArray) (n : Nat) (r : Option FieldType) (rm : Room) (D : va_G) (C : Nat → ClassId) (ad : Nat → Nat) (av : List Value) (μ : Mem) (Q : Int64 → Mem → Prop) : Prop :=
  ∀ sz : Nat, Met l y (WS y b n r) rm (va_Pc av (fun U => U.heap.size = sz ∧ FU S D C ad μ U)) (va_Ql Q (FU S D C ad) (va_A (wl S.1 ad e0) sz)) 0 0 (va_A (wl S.1 ad e0) sz)
def Mv (S : Sd) (l : Launch) (y : MethodName) (b : ByteArray) (n : Nat) (r : Option FieldType) (rm : Room) (D : va_G) (C : Nat → ClassId) (ad : Nat → Nat) (av : List Value) (μ : Mem) (Q : Mem → Prop) : Prop :=
  ∀ sz : Nat, Met l y (WS y b n r) rm (va_Pc av (fun U => U.heap.size = sz ∧ FU S D C ad μ U)) (va_Qv Q (FU S D C ad) (va_A (wl S.1 ad e0) sz)) 0 0 (va_A (wl S.1 ad e0) sz)
/-- the answer is a cell of the memory, by its number, or null -/
def Mq (S : Sd) (l : Launch) (y : MethodName) (b : ByteArray) (n : Nat) (r : Option FieldType) (rm : Room) (D : va_G) (C : Nat → ClassId) (ad : Nat → Nat) (av : List Value) (μ : Mem) (Q : Option Nat → Mem → Prop) : Prop :=
  ∀ sz : Nat, Met l y (WS y b n r) rm (va_Pc av (fun U => U.heap.size = sz ∧ FU S D C ad μ U)) (va_Qq (fun (o : Option Nat) (u : Option Nat × Mem) => o = u.1.map ad ∧ Q u.1 u.2) (fun u => FU S D C ad u.2) (va_A (wl S.1 ad e0) sz)) 0 0 (va_A (wl S.1 ad e0) sz)
end
section
/-! ===== the kit's rows over this memory ===== -/
theorem goodWS {y : MethodName} {b : ByteArray} {n : Nat} {r : Option FieldType} (h : Cond.code y b n r ∈ kW) : GoodIn kW (WS y b n r) := by
  intro w hw
  rcases List.mem_cons.mp hw with rfl | hw
  · exact ⟨h, allGood _ h⟩
  · exact ⟨hw, allGood _ hw⟩
theorem goodV {own C : String} {idx : Nat} {y : MethodName} {b : ByteArray} {n : Nat} {r : Option FieldType} (h1 : Cond.methodLink own idx y ∈ kW) (h2 : Cond.instanceMethod y ∈ kW) (h3 : Cond.selects C y y ∈ kW) (h4 : Cond.initialized C ∈ kW) (h5 : Cond.code y b n r ∈ kW) : GoodIn kW (wsV own idx C y (WS y b n r)) := by
  intro w hw
  unfold wsV at hw
  rcases List.mem_append.mp hw with hw | hw
  · have : w ∈ kW := by
      simp only [List.mem_cons, List.not_mem_nil, or_false] at hw
      rcases hw with rfl | rfl | rfl | rfl <;> assumption
    exact ⟨this, allGood _ this⟩
  · exact goodWS h5 w hw
theorem goodS {own : String} {idx : Nat} {y : MethodName} {b : ByteArray} {n : Nat} {r : Option FieldType} (h1 : Cond.methodLink own idx y ∈ kW) (h2 : Cond.static y ∈ kW) (h4 : Cond.initialized y.cls ∈ kW) (h5 : Cond.code y b n r ∈ kW) : GoodIn kW (va_wsS own idx y (WS y b n r)) := by
  intro w hw
  unfold va_wsS at hw
  rcases List.mem_append.mp hw with hw | hw
  · have : w ∈ kW := by
      simp only [List.mem_cons, List.not_mem_nil, or_false] at hw
      rcases hw with rfl | rfl | rfl <;> assumption
    exact ⟨this, allGood _ this⟩
  · exact goodWS h5 w hw
section ROWS
variable {S : Sd} {D : va_G} {C : Nat → ClassId} {ad : Nat → Nat} {A : Nat → Prop} {H0 : Heap}
variable {p : Program} {l : Launch} {e : Env} {R : Room} {s : State} {m : MethodId} {args : Array Value} {below : List Frame} {meth : Method} {c : Code} {H : Heap} {locs : List Loc} {cells slots : Nat} {Q : State → Prop}
variable {cc : ByteArray} {nL : Nat} {own : String} {pc : Nat} {ls : Array Slot} {rest : List Value} {μ : Mem}
theorem r_get (X : CX S D C ad A H0 p s m args c cc nL own) (hw : FW S D C ad A H0 μ H locs) {k ci N j index : Nat} {Cn : String} {T : u_T} {fs : List Value} {v : Value} (hk : k < S.1) (he : enc S C ad μ k = .inr (ci, fs)) (hc : vwCl[ci]? = some (Cn, T, N)) (hin : ∀ w ∈ u_ws Cn T N, w ∈ kW) (hj : j < N) (hl : Cond.fieldLink own index (T j).1 (T j).2.1 (T j).2.2.1 ∈ kW) (hv : fs[j]? = some v) (hdg : decode cc pc = .ok (.getfield index, 3))
    (kk : W p l e R s m args below meth c H locs cells slots Q (F0 m (pc + 3) ls (v :: rest))) : W p l e R s m args below meth c H locs cells slots Q (F0 m pc ls (.ref (ad k) :: rest)) := by
  obtain ⟨hx, hb, hml, hown, hts, hn, hK, hD, hN, hA⟩ := X
  exact va_get (D := D) hx hb hts hin hown hK hw.2.1 k (by rw [wl_get hk, he]) hc j hj (hts _ hl) (fun _ h => h) hv hdg kk
theorem wl_put {k : Nat} {μ' : Mem} {e1 : va_E} (hk : k < S.1) (h1 : e1 = enc S C ad μ' k) (h2 : ∀ k2, k2 ≠ k → enc S C ad μ' k2 = enc S C ad μ k2) : (wl S.1 ad (enc S C ad μ)).set k (ad k, e1) = wl S.1 ad (enc S C ad μ') := by
  rw [wl_set hk]
  refine wl_congr (fun j _ => ?_)
  by_cases h : j = k
  · subst h
    simp [va_up, h1]
  · simp [va_up, h, h2 j h]
theorem r_put (X : CX S D C ad A H0 p s m args c cc nL own) (hw : FW S D C ad A H0 μ H locs) {k ci N j index : Nat} {Cn : String} {T : u_T} {fs : List Value} {v : Value} {ty : FieldType} {μ' : Mem} (hk : k < S.1) (he : enc S C ad μ k = .inr (ci, fs)) (hc : vwCl[ci]? = some (Cn, T, N)) (hin : ∀ w ∈ u_ws Cn T N, w ∈ kW) (ty0 : Nat → FieldType) (hty : ∀ k, k < N → parseFieldDescriptor (T k).2.2.1 = some (ty0 k)) (hnm : ∀ a, a < N → ∀ b, b < N → a ≠ b → (T a).2.1 ≠ (T b).2.1) (hj : j < N) (hl : Cond.fieldLink own index (T j).1 (T j).2.1 (T j).2.2.1 ∈ kW) (hfin : (T j).2.2.2 = false) (hd : parseFieldDescriptor (T j).2.2.1 = some ty) (hn : narrow ty v = v) (hfit : fits ty v = true) (hlen : j < fs.length) (hwf : wfS S μ → wfS S μ') (h1 : Sum.inr (ci, fs.set j v) = enc S C ad μ' k) (h2 : ∀ k2, k2 ≠ k → enc S C ad μ' k2 = enc S C ad μ k2) (hdg : decode cc pc = .ok (.putfield index, 3))
    (kk : ∀ (H1 : Heap) (locs1 : List Loc), FW S D C ad A H0 μ' H1 locs1 → W p l e R s m args below meth c H1 locs1 cells slots Q (F0 m (pc + 3) ls rest)) : W p l e R s m args below meth c H locs cells slots Q (F0 m pc ls (v :: .ref (ad k) :: rest)) := by
  obtain ⟨hx, hb, hml, hown, hts, hnn, hK, hD, hN, hA⟩ := X
  refine va_put (D := D) hx hb hts hin ty0 hty hnm hown hK hw.2.1 (wl_D hD (fun _ h => h)) hw.2.2 k (by rw [wl_get hk, he]) hc j hj (hts _ hl) (fun _ h => h) hfin hd hn hfit hlen hdg (fun H1 locs1 hP hD1 hS => ?_)
  rw [wl_put hk h1 h2] at hP
  exact kk H1 locs1 ⟨hwf hw.1, hP, hS⟩
theorem sA_other {k k2 : Nat} {f : Nat → Int32} (h : k2 ≠ k) : enc S C ad (sA μ k f) k2 = enc S C ad μ k2 := by
  simp only [enc, sA, if_neg h]
theorem sA_wf {k : Nat} {f : Nat → Int32} (h : wfS S μ) : wfS S (sA μ k f) := h
theorem enc_8 {k : Nat} (h : S.2.1 k = 8) : enc S C ad μ k = .inl (C 0, S.2.2 k, .inl (μ.1 k)) := by simp only [enc, h]
theorem enc_9 {k : Nat} (h : S.2.1 k = 9) : enc S C ad μ k = .inl (C 1, S.2.2 k, .inr (.inl (fun j => μ.2.1 (1 + j)))) := by simp only [enc, h]
theorem enc_10 {k : Nat} (h : S.2.1 k = 10) : enc S C ad μ k = .inl (C 2, S.2.2 k, .inl (μ.1 k)) := by simp only [enc, h]
theorem enc_11 {k : Nat} (h : S.2.1 k = 11) : enc S C ad μ k = .inl (C 3, S.2.2 k, .inr (.inr (.inr (.inr (fun j => some (ad (43 + 6 * j))))))) := by simp only [enc, h]
theorem enc_12 {k : Nat} (h : S.2.1 k = 12) : enc S C ad μ k = .inl (C 3, S.2.2 k, .inr (.inr (.inr (.inr (fun j => some (ad (224 + 6 * j))))))) := by simp only [enc, h]
theorem r_iald (X : CX S D C ad A H0 p s m args c cc nL own) (hw : FW S D C ad A H0 μ H locs) {k n : Nat} {i : Int32} (hk : S.2.1 k = 8) (hn : S.2.2 k = n) (hi : vp_in i n) (hdg : decode cc pc = .ok (.iaload, 1))
    (kk : W p l e R s m args below meth c H locs cells slots Q (F0 m (pc + 1) ls (.int (μ.1 k i.toNatClampNeg) :: rest))) : W p l e R s m args below meth c H locs cells slots Q (F0 m pc ls (.int i :: .ref (ad k) :: rest)) := by
  obtain ⟨hx, hb, hml, hown, hts, hnn, hK, hD, hN, hA⟩ := X
  subst hn
  exact va_iald (D := D) hx hb hK hw.2.1 k 0 (by rw [wl_get (hN k (by omega)), enc_8 hk]) rfl hi hdg kk
theorem r_iast (X : CX S D C ad A H0 p s m args c cc nL own) (hw : FW S D C ad A H0 μ H locs) {k n : Nat} {i x : Int32} (hk : S.2.1 k = 8) (hn : S.2.2 k = n) (hi : vp_in i n) (hdg : decode cc pc = .ok (.iastore, 1))
    (kk : ∀ μ' : Mem, μ' = sI μ k i.toNatClampNeg x → ∀ (H1 : Heap) (locs1 : List Loc), FW S D C ad A H0 μ' H1 locs1 → W p l e R s m args below meth c H1 locs1 cells slots Q (F0 m (pc + 1) ls rest)) : W p l e R s m args below meth c H locs cells slots Q (F0 m pc ls (.int x :: .int i :: .ref (ad k) :: rest)) := by
  obtain ⟨hx, hb, hml, hown, hts, hnn, hK, hD, hN, hA⟩ := X
  subst hn
  refine va_iast (D := D) hx hb hK hw.2.1 (wl_D hD (fun _ h => h)) hw.2.2 k 0 (by rw [wl_get (hN k (by omega)), enc_8 hk]) rfl hi hdg (fun H1 locs1 hP hD1 hS => ?_)
  rw [wl_put (μ' := sI μ k i.toNatClampNeg x) (hN k (by omega)) (by rw [enc_8 hk]; simp [sI, sA]) (fun k2 h => sA_other h)] at hP
  exact kk _ rfl H1 locs1 ⟨sA_wf hw.1, hP, hS⟩
theorem r_zald (X : CX S D C ad A H0 p s m args c cc nL own) (hw : FW S D C ad A H0 μ H locs) {k n : Nat} {i : Int32} (hk : S.2.1 k = 10) (hn : S.2.2 k = n) (hi : vp_in i n) (hdg : decode cc pc = .ok (.baload, 1))
    (kk : W p l e R s m args below meth c H locs cells slots Q (F0 m (pc + 1) ls (.int (μ.1 k i.toNatClampNeg) :: rest))) : W p l e R s m args below meth c H locs cells slots Q (F0 m pc ls (.int i :: .ref (ad k) :: rest)) := by
  obtain ⟨hx, hb, hml, hown, hts, hnn, hK, hD, hN, hA⟩ := X
  subst hn
  exact va_zald (D := D) hx hb hK hw.2.1 k 2 (by rw [wl_get (hN k (by omega)), enc_10 hk]) rfl hi hdg kk
theorem nar_z {x : Int32} (h : x = 0 ∨ x = 1) : vp_nar .boolean x = x ∧ narrow .boolean (.int x) = .int x ∧ fits .boolean (.int x) = true := by
  rcases h with rfl | rfl <;> decide +kernel
theorem r_zast (X : CX S D C ad A H0 p s m args c cc nL own) (hw : FW S D C ad A H0 μ H locs) {k n : Nat} {i x : Int32} (hk : S.2.1 k = 10) (hn : S.2.2 k = n) (hi : vp_in i n) (h01 : x = 0 ∨ x = 1) (hdg : decode cc pc = .ok (.bastore, 1))
    (kk : ∀ μ' : Mem, μ' = sI μ k i.toNatClampNeg x → ∀ (H1 : Heap) (locs1 : List Loc), FW S D C ad A H0 μ' H1 locs1 → W p l e R s m args below meth c H1 locs1 cells slots Q (F0 m (pc + 1) ls rest)) : W p l e R s m args below meth c H locs cells slots Q (F0 m pc ls (.int x :: .int i :: .ref (ad k) :: rest)) := by
  obtain ⟨hx, hb, hml, hown, hts, hnn, hK, hD, hN, hA⟩ := X
  subst hn
  refine va_zast (D := D) hx hb hK hw.2.1 (wl_D hD (fun _ h => h)) hw.2.2 k 2 (by rw [wl_get (hN k (by omega)), enc_10 hk]) rfl hi hdg (fun H1 locs1 hP hD1 hS => ?_)
  rw [(nar_z h01).1] at hP
  rw [wl_put (μ' := sI μ k i.toNatClampNeg x) (hN k (by omega)) (by rw [enc_10 hk]; simp [sI, sA]) (fun k2 h => sA_other h)] at hP
  exact kk _ rfl H1 locs1 ⟨sA_wf hw.1, hP, hS⟩
theorem r_lald (X : CX S D C ad A H0 p s m args c cc nL own) (hw : FW S D C ad A H0 μ H locs) {k n : Nat} {i : Int32} (hk : S.2.1 k = 9) (hn : S.2.2 k = n) (hi : vp_in i n) (hdg : decode cc pc = .ok (.laload, 1))
    (kk : W p l e R s m args below meth c H locs cells slots Q (F0 m (pc + 1) ls (.long (μ.2.1 (1 + i.toNatClampNeg)) :: rest))) : W p l e R s m args below meth c H locs cells slots Q (F0 m pc ls (.int i :: .ref (ad k) :: rest)) := by
  obtain ⟨hx, hb, hml, hown, hts, hnn, hK, hD, hN, hA⟩ := X
  subst hn
  exact va_lald (D := D) (f := fun j => μ.2.1 (1 + j)) hx hb hK hw.2.1 k 1 (by rw [wl_get (hN k (by omega)), enc_9 hk]) rfl hi hdg kk
theorem sL_enc {k : Nat} {j : Nat} {x : Int64} (h : S.2.1 k = 9) : enc S C ad (sL μ (1 + j) x) k = .inl (C 1, S.2.2 k, .inr (.inl (vp_updL (fun j => μ.2.1 (1 + j)) j x))) := by
  rw [enc_9 h]
  congr 4
  funext q
  simp only [sL, vp_updL]
  by_cases hq : q = j
  · simp [hq]
  · have : ¬ 1 + q = 1 + j := by omega
    simp [hq, this]
theorem r_last (X : CX S D C ad A H0 p s m args c cc nL own) (hw : FW S D C ad A H0 μ H locs) {k n : Nat} {i : Int32} {x : Int64} (hk : S.2.1 k = 9) (hz : ∀ k2, k2 ≠ k → S.2.1 k2 ≠ 9) (hn : S.2.2 k = n) (hi : vp_in i n) (hdg : decode cc pc = .ok (.lastore, 1))
    (kk : ∀ μ' : Mem, μ' = sL μ (1 + i.toNatClampNeg) x → ∀ (H1 : Heap) (locs1 : List Loc), FW S D C ad A H0 μ' H1 locs1 → W p l e R s m args below meth c H1 locs1 cells slots Q (F0 m (pc + 1) ls rest)) : W p l e R s m args below meth c H locs cells slots Q (F0 m pc ls (.long x :: .int i :: .ref (ad k) :: rest)) := by
  obtain ⟨hx, hb, hml, hown, hts, hnn, hK, hD, hN, hA⟩ := X
  subst hn
  refine va_last (D := D) (f := fun j => μ.2.1 (1 + j)) hx hb hK hw.2.1 (wl_D hD (fun _ h => h)) hw.2.2 k 1 (by rw [wl_get (hN k (by omega)), enc_9 hk]) rfl hi hdg (fun H1 locs1 hP hD1 hS => ?_)
  have h2 : ∀ k2, k2 ≠ k → enc S C ad (sL μ (1 + i.toNatClampNeg) x) k2 = enc S C ad μ k2 := by
    intro k2 h
    have h9 := hz k2 h
    have e0 : (1 + i.toNatClampNeg = 0) = False := by simp
    simp only [enc, sL, vp_updL]
    split <;> first | rfl | (simp_all; done) | (exfalso; apply h9; assumption)
  rw [wl_put (μ' := sL μ (1 + i.toNatClampNeg) x) (hN k (by omega)) (sL_enc hk).symm h2] at hP
  exact kk _ rfl H1 locs1 ⟨hw.1, hP, hS⟩
theorem r_alen (X : CX S D C ad A H0 p s m args c cc nL own) (hw : FW S D C ad A H0 μ H locs) {k n : Nat} {v : Int32} (hk : S.2.1 k = 8) (hn : S.2.2 k = n) (hv : nI n = v) (hdg : decode cc pc = .ok (.arraylength, 1))
    (kk : W p l e R s m args below meth c H locs cells slots Q (F0 m (pc + 1) ls (.int v :: rest))) : W p l e R s m args below meth c H locs cells slots Q (F0 m pc ls (.ref (ad k) :: rest)) := by
  obtain ⟨hx, hb, hml, hown, hts, hnn, hK, hD, hN, hA⟩ := X
  subst hn
  exact va_alen (D := D) hx hb hK hw.2.1 k 0 (by rw [wl_get (hN k (by omega)), enc_8 hk]) rfl hv hdg kk
theorem r_alen12 (X : CX S D C ad A H0 p s m args c cc nL own) (hw : FW S D C ad A H0 μ H locs) {k n : Nat} {v : Int32} (hk : S.2.1 k = 12) (hn : S.2.2 k = n) (hv : nI n = v) (hdg : decode cc pc = .ok (.arraylength, 1))
    (kk : W p l e R s m args below meth c H locs cells slots Q (F0 m (pc + 1) ls (.int v :: rest))) : W p l e R s m args below meth c H locs cells slots Q (F0 m pc ls (.ref (ad k) :: rest)) := by
  obtain ⟨hx, hb, hml, hown, hts, hnn, hK, hD, hN, hA⟩ := X
  subst hn
  exact va_alen (D := D) hx hb hK hw.2.1 k 3 (by rw [wl_get (hN k (by omega)), enc_12 hk]) rfl hv hdg kk
theorem r_aald11 (X : CX S D C ad A H0 p s m args c cc nL own) (hw : FW S D C ad A H0 μ H locs) {k n : Nat} {i : Int32} (hk : S.2.1 k = 11) (hn : S.2.2 k = n) (hi : vp_in i n) (hdg : decode cc pc = .ok (.aaload, 1))
    (kk : W p l e R s m args below meth c H locs cells slots Q (F0 m (pc + 1) ls (.ref (ad (43 + 6 * i.toNatClampNeg)) :: rest))) : W p l e R s m args below meth c H locs cells slots Q (F0 m pc ls (.int i :: .ref (ad k) :: rest)) := by
  obtain ⟨hx, hb, hml, hown, hts, hnn, hK, hD, hN, hA⟩ := X
  subst hn
  exact va_aldq (D := D) (C := RX4) (f := fun j => some (ad (43 + 6 * j))) hx hb hK hw.2.1 k 3 (by rw [wl_get (hN k (by omega)), enc_11 hk]) rfl hi hdg kk
theorem r_aald12 (X : CX S D C ad A H0 p s m args c cc nL own) (hw : FW S D C ad A H0 μ H locs) {k n : Nat} {i : Int32} (hk : S.2.1 k = 12) (hn : S.2.2 k = n) (hi : vp_in i n) (hdg : decode cc pc = .ok (.aaload, 1))
    (kk : W p l e R s m args below meth c H locs cells slots Q (F0 m (pc + 1) ls (.ref (ad (224 + 6 * i.toNatClampNeg)) :: rest))) : W p l e R s m args below meth c H locs cells slots Q (F0 m pc ls (.int i :: .ref (ad k) :: rest)) := by
  obtain ⟨hx, hb, hml, hown, hts, hnn, hK, hD, hN, hA⟩ := X
  subst hn
  exact va_aldq (D := D) (C := RX4) (f := fun j => some (ad (224 + 6 * j))) hx hb hK hw.2.1 k 3 (by rw [wl_get (hN k (by omega)), enc_12 hk]) rfl hi hdg kk
/-- System.arraycopy of a whole row's first n numbers onto another's -/
theorem r_copy (X : CX S D C ad A H0 p s m args c cc nL own) (hw : FW S D C ad A H0 μ H locs) {k k1 n : Nat} {index : Nat} {N : Int32} (hk : S.2.1 k = 8) (hk1 : S.2.1 k1 = 8) (hn : S.2.2 k = n) (hn1 : S.2.2 k1 = n) (h0 : ¬ N < 0) (hN : N.toNatClampNeg = n) (hml : nL = ls.size) (hlink : Cond.methodLink own index arraycopyName ∈ kW) (hnat : Cond.native arraycopyName ∈ kW) (hstat : Cond.static arraycopyName ∈ kW) (hini : Cond.initialized "java/lang/System" ∈ kW)
    (hframes : 1 ≤ R.frames) (hlocals : (rest.map fun v => v.category).sum + (nativeFrameWords "java/lang/System" "arraycopy" 5 + 11) ≤ R.locals) (hdg : decode cc pc = .ok (.invokestatic index, 3))
    (kk : ∀ μ' : Mem, μ' = sA μ k1 (va_cpy (μ.1 k) (μ.1 k1) 0 0 n) → ∀ (H1 : Heap) (locs1 : List Loc), FW S D C ad A H0 μ' H1 locs1 → W p l e R s m args below meth c H1 locs1 cells slots Q (F0 m (pc + 3) ls rest)) : W p l e R s m args below meth c H locs cells slots Q (F0 m pc ls (.int N :: .int 0 :: .ref (ad k1) :: .int 0 :: .ref (ad k) :: rest)) := by
  obtain ⟨hx, hb, hml0, hown, hts, hnn, hK, hD, hN0, hA⟩ := X
  subst hn
  have e0 : (0 : Int32).toNatClampNeg = 0 := by decide +kernel
  refine va_copyi (D := D) (f := μ.1 k) (g := μ.1 k1) (sp := 0) (dp := 0) (n := N) (ty := .int) hx hb (hml0.trans hml) hown (hts _ hlink) (hts _ hnat) (hts _ hstat) (hts _ hini) hK hw.2.1 (wl_D hD (fun _ h => h)) hw.2.2 k k1 0 0 (by rw [wl_get (hN0 k (by omega)), enc_8 hk]) (by rw [wl_get (hN0 k1 (by omega)), enc_8 hk1]) rfl rfl rfl (by decide +kernel) (by decide +kernel) h0 (by rw [e0, hN]; omega) (by rw [e0, hN, hn1]; omega) (fun i _ => rfl) hframes hlocals hdg (fun H1 locs1 hP hD1 hS => ?_)
  rw [e0, hN] at hP
  rw [wl_put (μ' := sA μ k1 (va_cpy (μ.1 k) (μ.1 k1) 0 0 (S.2.2 k))) (hN0 k1 (by omega)) (by rw [enc_8 hk1]; simp [sA]) (fun k2 h => sA_other h)] at hP
  exact kk _ rfl H1 locs1 ⟨sA_wf hw.1, hP, hS⟩
/-! calls -/
theorem k_U (X : CX S D C ad A H0 p s m args c cc nL own) (hw : FW S D C ad A H0 μ H locs) {U : State} (hU : U.heap = H) (hW : s.WarmedH U.vm) : U.heap.size = H.size ∧ FU S D C ad μ U := by
  obtain ⟨hx, hb, hml, hown, hts, hn, hK, hD, hN, hA⟩ := X
  exact ⟨by rw [hU], hw.1, by rw [hU]; exact hw.2.1, va_K.moved hW.alike hK, NW.warm hW hn, wl_D hD (fun _ _ => trivial)⟩
theorem k_F (X : CX S D C ad A H0 p s m args c cc nL own) (hw : FW S D C ad A H0 μ H locs) : ∀ q, va_A (wl S.1 ad e0) H.size q → A q := by
  obtain ⟨hx, hb, hml, hown, hts, hn, hK, hD, hN, hA⟩ := X
  intro q h
  rcases wl_A h with ⟨k, h1, rfl⟩ | h
  · exact hD.2 k _ (wl_get h1)
  · exact hA q (Nat.le_trans hw.2.2.1 h)
theorem k_i (X : CX S D C ad A H0 p s m args c cc nL own) (hw : FW S D C ad A H0 μ H locs) {st0 : List Value} {a : Array Value} {Q1 : Int32 → Mem → Prop} (hr : va_Run p l e R s m args below meth c H locs cells slots 0 0 (F0 m pc ls st0) rest (va_Qi Q1 (FU S D C ad) (va_A (wl S.1 ad e0) H.size) a) (va_A (wl S.1 ad e0) H.size))
    (kk : ∀ (r : Int32) (μ' : Mem), Q1 r μ' → ∀ (H1 : Heap) (locs1 : List Loc), FW S D C ad A H0 μ' H1 locs1 → W p l e R s m args below meth c H1 locs1 cells slots Q (F0 m (pc + 3) ls (.int r :: rest))) : W p l e R s m args below meth c H locs cells slots Q (F0 m pc ls st0) := by
  refine va_calli hr hw.2.2 (fun q _ h => k_F X hw q h) (k_F X hw) (fun r u t H1 locs1 ht hvm hq hB hz hk hS => ?_)
  exact kk r u hq H1 locs1 ⟨hB.1, by rw [← ht]; exact hB.2.1, hS⟩
theorem k_l (X : CX S D C ad A H0 p s m args c cc nL own) (hw : FW S D C ad A H0 μ H locs) {st0 : List Value} {a : Array Value} {Q1 : Int64 → Mem → Prop} (hr : va_Run p l e R s m args below meth c H locs cells slots 0 0 (F0 m pc ls st0) rest (va_Ql Q1 (FU S D C ad) (va_A (wl S.1 ad e0) H.size) a) (va_A (wl S.1 ad e0) H.size))
    (kk : ∀ (r : Int64) (μ' : Mem), Q1 r μ' → ∀ (H1 : Heap) (locs1 : List Loc), FW S D C ad A H0 μ' H1 locs1 → W p l e R s m args below meth c H1 locs1 cells slots Q (F0 m (pc + 3) ls (.long r :: rest))) : W p l e R s m args below meth c H locs cells slots Q (F0 m pc ls st0) := by
  refine va_calll hr hw.2.2 (fun q _ h => k_F X hw q h) (k_F X hw) (fun r u t H1 locs1 ht hvm hq hB hz hk hS => ?_)
  exact kk r u hq H1 locs1 ⟨hB.1, by rw [← ht]; exact hB.2.1, hS⟩
theorem k_v (X : CX S D C ad A H0 p s m args c cc nL own) (hw : FW S D C ad A H0 μ H locs) {st0 : List Value} {a : Array Value} {Q1 : Mem → Prop} (hr : va_Run p l e R s m args below meth c H locs cells slots 0 0 (F0 m pc ls st0) rest (va_Qv Q1 (FU S D C ad) (va_A (wl S.1 ad e0) H.size) a) (va_A (wl S.1 ad e0) H.size))
    (kk : ∀ (μ' : Mem), Q1 μ' → ∀ (H1 : Heap) (locs1 : List Loc), FW S D C ad A H0 μ' H1 locs1 → W p l e R s m args below meth c H1 locs1 cells slots Q (F0 m (pc + 3) ls rest)) : W p l e R s m args below meth c H locs cells slots Q (F0 m pc ls st0) := by
  refine va_callv hr hw.2.2 (fun q _ h => k_F X hw q h) (k_F X hw) (fun u t H1 locs1 ht hvm hq hB hz hk hS => ?_)
  exact kk u hq H1 locs1 ⟨hB.1, by rw [← ht]; exact hB.2.1, hS⟩
theorem k_q (X : CX S D C ad A H0 p s m args c cc nL own) (hw : FW S D C ad A H0 μ H locs) {st0 : List Value} {a : Array Value} {Q1 : Option Nat → Mem → Prop} (hr : va_Run p l e R s m args below meth c H locs cells slots 0 0 (F0 m pc ls st0) rest (va_Qq (fun (o : Option Nat) (u : Option Nat × Mem) => o = u.1.map ad ∧ Q1 u.1 u.2) (fun u => FU S D C ad u.2) (va_A (wl S.1 ad e0) H.size) a) (va_A (wl S.1 ad e0) H.size))
    (kk : ∀ (r : Option Nat) (μ' : Mem), Q1 r μ' → ∀ (H1 : Heap) (locs1 : List Loc), FW S D C ad A H0 μ' H1 locs1 → W p l e R s m args below meth c H1 locs1 cells slots Q (F0 m (pc + 3) ls (va_rf (r.map ad) :: rest))) : W p l e R s m args below meth c H locs cells slots Q (F0 m pc ls st0) := by
  refine va_callq hr hw.2.2 (fun q _ h => k_F X hw q h) (k_F X hw) (fun r u t H1 locs1 ht hvm hq hB hz hk hS => ?_)
  rw [hq.1]
  exact kk u.1 u.2 hq.2 H1 locs1 ⟨hB.1, by rw [← ht]; exact hB.2.1, hS⟩
/-- the receiver of a call is an object of its class -/
theorem k_recv (X : CX S D C ad A H0 p s m args c cc nL own) (hw : FW S D C ad A H0 μ H locs) {k ci : Nat} {q : vw_C} {fs : List Value} (hk : k < S.1) (he : enc S C ad μ k = .inr (ci, fs)) (hc : vwCl[ci]? = some q) : ∃ cell : Cell, H[ad k]? = some cell ∧ cell.vm.isStatics = false ∧ s.vm.findClass q.1 = some cell.cls := by
  obtain ⟨hx, hb, hml, hown, hts, hn, hK, hD, hN, hA⟩ := X
  exact va_recv hK hw.2.1 hc (by rw [wl_get hk, he])
variable {y : MethodName} {b : ByteArray} {n : Nat} {r : Option FieldType} {rm : Room} {As : List Value} {k nA index : Nat} {Cn : String}
abbrev kD (y : MethodName) (nA : Nat) : Prop := y.cls ≠ "java/lang/invoke/MethodHandle" ∧ y.cls ≠ "java/lang/invoke/VarHandle" ∧ (parseMethodDescriptor y.desc).map (fun d => d.parameters.length) = some nA
abbrev kR (rm R : Room) (n : Nat) : Prop := rm.frames + 1 ≤ R.frames ∧ 8 + (n + 11) + rm.locals ≤ R.locals
theorem kVi (X : CX S D C ad A H0 p s m args c cc nL own) (hw : FW S D C ad A H0 μ H locs) {Q1 : Int32 → Mem → Prop} (hM : Mi S l y b n r rm D C ad (.ref (ad k) :: As) μ Q1) (hrc : ∃ cell : Cell, H[ad k]? = some cell ∧ cell.vm.isStatics = false ∧ s.vm.findClass Cn = some cell.cls) (hG : GoodIn kW (wsV own index Cn y (WS y b n r))) (hd : y.cls = Cn ∧ kD y nA) (hc0 : rm.cells = 0) (hs0 : rm.slots = 0) (hR : kR rm R n) (hn : As.length = nA) (hls : ls.size = nL) {st0 : List Value} (hst : st0 = As.reverse ++ .ref (ad k) :: rest) (hr : (rest.map fun v => v.category).sum ≤ 8) (hdg : decode cc pc = .ok (.invokevirtual index, 3)) (hf : cells ≤ R.cells ∧ slots ≤ R.slots)
    (kk : ∀ (r : Int32) (μ' : Mem), Q1 r μ' → ∀ (H1 : Heap) (locs1 : List Loc), FW S D C ad A H0 μ' H1 locs1 → W p l e R s m args below meth c H1 locs1 cells slots Q (F0 m (pc + 3) ls (.int r :: rest))) : W p l e R s m args below meth c H locs cells slots Q (F0 m pc ls st0) := by
  have X' := X
  obtain ⟨hx, hb, hml, hown, hts, hnn, hK, hD, hN, hA⟩ := X'
  exact k_i X hw (va_runV (rest := rest) ⟨hx, hb, hml, hown, hts⟩ (hM H.size) (cwV nA hts hG rfl hc0 hs0 hd hR) ⟨FU.blind, hrc, fun U hU hW => ⟨rfl, k_U X hw hU hW⟩⟩ rfl hn hls hst (lv_room hr) hdg hf) kk
theorem kVl (X : CX S D C ad A H0 p s m args c cc nL own) (hw : FW S D C ad A H0 μ H locs) {Q1 : Int64 → Mem → Prop} (hM : Ml S l y b n r rm D C ad (.ref (ad k) :: As) μ Q1) (hrc : ∃ cell : Cell, H[ad k]? = some cell ∧ cell.vm.isStatics = false ∧ s.vm.findClass Cn = some cell.cls) (hG : GoodIn kW (wsV own index Cn y (WS y b n r))) (hd : y.cls = Cn ∧ kD y nA) (hc0 : rm.cells = 0) (hs0 : rm.slots = 0) (hR : kR rm R n) (hn : As.length = nA) (hls : ls.size = nL) {st0 : List Value} (hst : st0 = As.reverse ++ .ref (ad k) :: rest) (hr : (rest.map fun v => v.category).sum ≤ 8) (hdg : decode cc pc = .ok (.invokevirtual index, 3)) (hf : cells ≤ R.cells ∧ slots ≤ R.slots)
    (kk : ∀ (r : Int64) (μ' : Mem), Q1 r μ' → ∀ (H1 : Heap) (locs1 : List Loc), FW S D C ad A H0 μ' H1 locs1 → W p l e R s m args below meth c H1 locs1 cells slots Q (F0 m (pc + 3) ls (.long r :: rest))) : W p l e R s m args below meth c H locs cells slots Q (F0 m pc ls st0) := by
  have X' := X
  obtain ⟨hx, hb, hml, hown, hts, hnn, hK, hD, hN, hA⟩ := X'
  exact k_l X hw (va_runV (rest := rest) ⟨hx, hb, hml, hown, hts⟩ (hM H.size) (cwV nA hts hG rfl hc0 hs0 hd hR) ⟨FU.blind, hrc, fun U hU hW => ⟨rfl, k_U X hw hU hW⟩⟩ rfl hn hls hst (lv_room hr) hdg hf) kk
theorem kVv (X : CX S D C ad A H0 p s m args c cc nL own) (hw : FW S D C ad A H0 μ H locs) {Q1 : Mem → Prop} (hM : Mv S l y b n r rm D C ad (.ref (ad k) :: As) μ Q1) (hrc : ∃ cell : Cell, H[ad k]? = some cell ∧ cell.vm.isStatics = false ∧ s.vm.findClass Cn = some cell.cls) (hG : GoodIn kW (wsV own index Cn y (WS y b n r))) (hd : y.cls = Cn ∧ kD y nA) (hc0 : rm.cells = 0) (hs0 : rm.slots = 0) (hR : kR rm R n) (hn : As.length = nA) (hls : ls.size = nL) {st0 : List Value} (hst : st0 = As.reverse ++ .ref (ad k) :: rest) (hr : (rest.map fun v => v.category).sum ≤ 8) (hdg : decode cc pc = .ok (.invokevirtual index, 3)) (hf : cells ≤ R.cells ∧ slots ≤ R.slots)
    (kk : ∀ (μ' : Mem), Q1 μ' → ∀ (H1 : Heap) (locs1 : List Loc), FW S D C ad A H0 μ' H1 locs1 → W p l e R s m args below meth c H1 locs1 cells slots Q (F0 m (pc + 3) ls rest)) : W p l e R s m args below meth c H locs cells slots Q (F0 m pc ls st0) := by
  have X' := X
  obtain ⟨hx, hb, hml, hown, hts, hnn, hK, hD, hN, hA⟩ := X'
  exact k_v X hw (va_runV (rest := rest) ⟨hx, hb, hml, hown, hts⟩ (hM H.size) (cwV nA hts hG rfl hc0 hs0 hd hR) ⟨FU.blind, hrc, fun U hU hW => ⟨rfl, k_U X hw hU hW⟩⟩ rfl hn hls hst (lv_room hr) hdg hf) kk
theorem kVq (X : CX S D C ad A H0 p s m args c cc nL own) (hw : FW S D C ad A H0 μ H locs) {Q1 : Option Nat → Mem → Prop} (hM : Mq S l y b n r rm D C ad (.ref (ad k) :: As) μ Q1) (hrc : ∃ cell : Cell, H[ad k]? = some cell ∧ cell.vm.isStatics = false ∧ s.vm.findClass Cn = some cell.cls) (hG : GoodIn kW (wsV own index Cn y (WS y b n r))) (hd : y.cls = Cn ∧ kD y nA) (hc0 : rm.cells = 0) (hs0 : rm.slots = 0) (hR : kR rm R n) (hn : As.length = nA) (hls : ls.size = nL) {st0 : List Value} (hst : st0 = As.reverse ++ .ref (ad k) :: rest) (hr : (rest.map fun v => v.category).sum ≤ 8) (hdg : decode cc pc = .ok (.invokevirtual index, 3)) (hf : cells ≤ R.cells ∧ slots ≤ R.slots)
    (kk : ∀ (r : Option Nat) (μ' : Mem), Q1 r μ' → ∀ (H1 : Heap) (locs1 : List Loc), FW S D C ad A H0 μ' H1 locs1 → W p l e R s m args below meth c H1 locs1 cells slots Q (F0 m (pc + 3) ls (va_rf (r.map ad) :: rest))) : W p l e R s m args below meth c H locs cells slots Q (F0 m pc ls st0) := by
  have X' := X
  obtain ⟨hx, hb, hml, hown, hts, hnn, hK, hD, hN, hA⟩ := X'
  exact k_q X hw (va_runV (rest := rest) ⟨hx, hb, hml, hown, hts⟩ (hM H.size) (cwV nA hts hG rfl hc0 hs0 hd hR) ⟨FU.blind, hrc, fun U hU hW => ⟨rfl, k_U X hw hU hW⟩⟩ rfl hn hls hst (lv_room hr) hdg hf) kk
theorem kSi (X : CX S D C ad A H0 p s m args c cc nL own) (hw : FW S D C ad A H0 μ H locs) {Q1 : Int32 → Mem → Prop} (hM : Mi S l y b n r rm D C ad As μ Q1) (hG : GoodIn kW (va_wsS own index y (WS y b n r))) (hd : kD y nA) (hc0 : rm.cells = 0) (hs0 : rm.slots = 0) (hR : kR rm R n) (hn : As.length = nA) (hls : ls.size = nL) {st0 : List Value} (hst : st0 = As.reverse ++ rest) (hr : (rest.map fun v => v.category).sum ≤ 8) (hdg : decode cc pc = .ok (.invokestatic index, 3)) (hf : cells ≤ R.cells ∧ slots ≤ R.slots)
    (kk : ∀ (r : Int32) (μ' : Mem), Q1 r μ' → ∀ (H1 : Heap) (locs1 : List Loc), FW S D C ad A H0 μ' H1 locs1 → W p l e R s m args below meth c H1 locs1 cells slots Q (F0 m (pc + 3) ls (.int r :: rest))) : W p l e R s m args below meth c H locs cells slots Q (F0 m pc ls st0) := by
  have X' := X
  obtain ⟨hx, hb, hml, hown, hts, hnn, hK, hD, hN, hA⟩ := X'
  exact k_i X hw (va_runS (rest := rest) ⟨hx, hb, hml, hown, hts⟩ (hM H.size) (va_cwS nA hts hG rfl hc0 hs0 hd hR) ⟨FU.blind, fun U hU hW => ⟨rfl, k_U X hw hU hW⟩⟩ rfl hn hls hst (lv_room hr) hdg hf) kk
theorem kSv (X : CX S D C ad A H0 p s m args c cc nL own) (hw : FW S D C ad A H0 μ H locs) {Q1 : Mem → Prop} (hM : Mv S l y b n r rm D C ad As μ Q1) (hG : GoodIn kW (va_wsS own index y (WS y b n r))) (hd : kD y nA) (hc0 : rm.cells = 0) (hs0 : rm.slots = 0) (hR : kR rm R n) (hn : As.length = nA) (hls : ls.size = nL) {st0 : List Value} (hst : st0 = As.reverse ++ rest) (hr : (rest.map fun v => v.category).sum ≤ 8) (hdg : decode cc pc = .ok (.invokestatic index, 3)) (hf : cells ≤ R.cells ∧ slots ≤ R.slots)
    (kk : ∀ (μ' : Mem), Q1 μ' → ∀ (H1 : Heap) (locs1 : List Loc), FW S D C ad A H0 μ' H1 locs1 → W p l e R s m args below meth c H1 locs1 cells slots Q (F0 m (pc + 3) ls rest)) : W p l e R s m args below meth c H locs cells slots Q (F0 m pc ls st0) := by
  have X' := X
  obtain ⟨hx, hb, hml, hown, hts, hnn, hK, hD, hN, hA⟩ := X'
  exact k_v X hw (va_runS (rest := rest) ⟨hx, hb, hml, hown, hts⟩ (hM H.size) (va_cwS nA hts hG rfl hc0 hs0 hd hR) ⟨FU.blind, fun U hU hW => ⟨rfl, k_U X hw hU hW⟩⟩ rfl hn hls hst (lv_room hr) hdg hf) kk
/-- private static methods of a nest mate -/
theorem kNi {host : String} (X : CX S D C ad A H0 p s m args c cc nL own) (hw : FW S D C ad A H0 μ H locs) {Q1 : Int32 → Mem → Prop} (hM : Mi S l y b n r rm D C ad As μ Q1) (hne : (own, index, y, host) ∈ nestL) (hst0 : Cond.static y ∈ kW) (hi0 : Cond.initialized y.cls ∈ kW) (hcd : Cond.code y b n r ∈ kW) (hd : kD y nA) (hc0 : rm.cells = 0) (hs0 : rm.slots = 0) (hR : kR rm R n) (hn : As.length = nA) (hls : ls.size = nL) {st0 : List Value} (hst : st0 = As.reverse ++ rest) (hr : (rest.map fun v => v.category).sum ≤ 8) (hdg : decode cc pc = .ok (.invokestatic index, 3)) (hf : cells ≤ R.cells ∧ slots ≤ R.slots)
    (kk : ∀ (r : Int32) (μ' : Mem), Q1 r μ' → ∀ (H1 : Heap) (locs1 : List Loc), FW S D C ad A H0 μ' H1 locs1 → W p l e R s m args below meth c H1 locs1 cells slots Q (F0 m (pc + 3) ls (.int r :: rest))) : W p l e R s m args below meth c H locs cells slots Q (F0 m pc ls st0) := by
  have X' := X
  obtain ⟨hx, hb, hml, hown, hts, hnn, hK, hD, hN, hA⟩ := X'
  exact k_i X hw (va_runSN (rest := rest) ⟨hx, hb, hml, hown, hts⟩ (hM H.size) ⟨va_cnB (host := host) nA hts (goodWS hcd) rfl hc0 hs0 (hnn _ hne) (hts _ hi0) hd hR, hts _ hst0, trivial⟩ ⟨FU.blind, fun U hU hW => ⟨rfl, k_U X hw hU hW⟩⟩ rfl hn hls hst (lv_room hr) hdg hf) kk
theorem kNv {host : String} (X : CX S D C ad A H0 p s m args c cc nL own) (hw : FW S D C ad A H0 μ H locs) {Q1 : Mem → Prop} (hM : Mv S l y b n r rm D C ad As μ Q1) (hne : (own, index, y, host) ∈ nestL) (hst0 : Cond.static y ∈ kW) (hi0 : Cond.initialized y.cls ∈ kW) (hcd : Cond.code y b n r ∈ kW) (hd : kD y nA) (hc0 : rm.cells = 0) (hs0 : rm.slots = 0) (hR : kR rm R n) (hn : As.length = nA) (hls : ls.size = nL) {st0 : List Value} (hst : st0 = As.reverse ++ rest) (hr : (rest.map fun v => v.category).sum ≤ 8) (hdg : decode cc pc = .ok (.invokestatic index, 3)) (hf : cells ≤ R.cells ∧ slots ≤ R.slots)
    (kk : ∀ (μ' : Mem), Q1 μ' → ∀ (H1 : Heap) (locs1 : List Loc), FW S D C ad A H0 μ' H1 locs1 → W p l e R s m args below meth c H1 locs1 cells slots Q (F0 m (pc + 3) ls rest)) : W p l e R s m args below meth c H locs cells slots Q (F0 m pc ls st0) := by
  have X' := X
  obtain ⟨hx, hb, hml, hown, hts, hnn, hK, hD, hN, hA⟩ := X'
  exact k_v X hw (va_runSN (rest := rest) ⟨hx, hb, hml, hown, hts⟩ (hM H.size) ⟨va_cnB (host := host) nA hts (goodWS hcd) rfl hc0 hs0 (hnn _ hne) (hts _ hi0) hd hR, hts _ hst0, trivial⟩ ⟨FU.blind, fun U hU hW => ⟨rfl, k_U X hw hU hW⟩⟩ rfl hn hls hst (lv_room hr) hdg hf) kk
end ROWS
end
section
theorem zz_last : True := trivial
end
