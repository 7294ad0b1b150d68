-- ===== PART A: goes FIRST, ahead of the names: the tables' words, and 'selects' of the private methods out of them =====
/-- a private method of a class that the tables say can be made, by its rows of tables_1 -/
def lw_okq (q : MethodName × Nat) : Prop := (q.1.cls ≠ "java/lang/invoke/MethodHandle" ∧ q.1.cls ≠ "java/lang/invoke/VarHandle") ∧ Cond.instantiable q.1.cls q.2 ∈ tables_1 ∧ Cond.privateMethod q.1 ∈ tables_1 ∧ Cond.instanceMethod q.1 ∈ tables_1
theorem lw_p0 : lw_okq (⟨"SmallFirst", "textOf", "(I)LSmallFirst$Text;"⟩, 10) := ⟨⟨by decide +kernel, by decide +kernel⟩, List.mem_of_getElem? (i := 17) (by decide +kernel), List.mem_of_getElem? (i := 207) (by decide +kernel), List.mem_of_getElem? (i := 208) (by decide +kernel)⟩
theorem lw_p1 : lw_okq (⟨"SmallFirst", "readAgain", "(I)V"⟩, 10) := ⟨⟨by decide +kernel, by decide +kernel⟩, List.mem_of_getElem? (i := 17) (by decide +kernel), List.mem_of_getElem? (i := 218) (by decide +kernel), List.mem_of_getElem? (i := 219) (by decide +kernel)⟩
theorem lw_p2 : lw_okq (⟨"SmallFirst$Dust", "beginDust", "(I)I"⟩, 5) := ⟨⟨by decide +kernel, by decide +kernel⟩, List.mem_of_getElem? (i := 74) (by decide +kernel), List.mem_of_getElem? (i := 242) (by decide +kernel), List.mem_of_getElem? (i := 243) (by decide +kernel)⟩
theorem lw_p3 : lw_okq (⟨"SmallFirst$Dust", "endDust", "(I)I"⟩, 5) := ⟨⟨by decide +kernel, by decide +kernel⟩, List.mem_of_getElem? (i := 74) (by decide +kernel), List.mem_of_getElem? (i := 255) (by decide +kernel), List.mem_of_getElem? (i := 256) (by decide +kernel)⟩
theorem lw_p4 : lw_okq (⟨"SmallFirst$Laws", "beginLaw", "(I)I"⟩, 7) := ⟨⟨by decide +kernel, by decide +kernel⟩, List.mem_of_getElem? (i := 42) (by decide +kernel), List.mem_of_getElem? (i := 271) (by decide +kernel), List.mem_of_getElem? (i := 272) (by decide +kernel)⟩
theorem lw_p5 : lw_okq (⟨"SmallFirst$Laws", "pairWith", "(I)I"⟩, 7) := ⟨⟨by decide +kernel, by decide +kernel⟩, List.mem_of_getElem? (i := 42) (by decide +kernel), List.mem_of_getElem? (i := 279) (by decide +kernel), List.mem_of_getElem? (i := 280) (by decide +kernel)⟩
theorem lw_p6 : lw_okq (⟨"SmallFirst$Laws", "takeSign", "(I)I"⟩, 7) := ⟨⟨by decide +kernel, by decide +kernel⟩, List.mem_of_getElem? (i := 42) (by decide +kernel), List.mem_of_getElem? (i := 283) (by decide +kernel), List.mem_of_getElem? (i := 284) (by decide +kernel)⟩
theorem lw_p7 : lw_okq (⟨"SmallFirst$Laws", "endLaw", "(I)I"⟩, 7) := ⟨⟨by decide +kernel, by decide +kernel⟩, List.mem_of_getElem? (i := 42) (by decide +kernel), List.mem_of_getElem? (i := 287) (by decide +kernel), List.mem_of_getElem? (i := 288) (by decide +kernel)⟩
theorem lw_p8 : lw_okq (⟨"SmallFirst", "freshHouse", "()LSmallFirst$House;"⟩, 10) := ⟨⟨by decide +kernel, by decide +kernel⟩, List.mem_of_getElem? (i := 17) (by decide +kernel), List.mem_of_getElem? (i := 377) (by decide +kernel), List.mem_of_getElem? (i := 378) (by decide +kernel)⟩
theorem lw_p9 : lw_okq (⟨"SmallFirst$Weeks", "withLayings", "(II)I"⟩, 7) := ⟨⟨by decide +kernel, by decide +kernel⟩, List.mem_of_getElem? (i := 108) (by decide +kernel), List.mem_of_getElem? (i := 446) (by decide +kernel), List.mem_of_getElem? (i := 447) (by decide +kernel)⟩
theorem lw_p10 : lw_okq (⟨"SmallFirst", "finding", "(I)I"⟩, 10) := ⟨⟨by decide +kernel, by decide +kernel⟩, List.mem_of_getElem? (i := 17) (by decide +kernel), List.mem_of_getElem? (i := 583) (by decide +kernel), List.mem_of_getElem? (i := 584) (by decide +kernel)⟩
theorem lw_p11 : lw_okq (⟨"SmallFirst$Seen", "mayStand", "(II)Z"⟩, 3) := ⟨⟨by decide +kernel, by decide +kernel⟩, List.mem_of_getElem? (i := 136) (by decide +kernel), List.mem_of_getElem? (i := 607) (by decide +kernel), List.mem_of_getElem? (i := 608) (by decide +kernel)⟩
theorem lw_p12 : lw_okq (⟨"SmallFirst$Seen", "howManyStandWith", "(II)I"⟩, 3) := ⟨⟨by decide +kernel, by decide +kernel⟩, List.mem_of_getElem? (i := 136) (by decide +kernel), List.mem_of_getElem? (i := 625) (by decide +kernel), List.mem_of_getElem? (i := 626) (by decide +kernel)⟩
theorem lw_p13 : lw_okq (⟨"SmallFirst", "itemRefusal", "(III)I"⟩, 10) := ⟨⟨by decide +kernel, by decide +kernel⟩, List.mem_of_getElem? (i := 17) (by decide +kernel), List.mem_of_getElem? (i := 687) (by decide +kernel), List.mem_of_getElem? (i := 688) (by decide +kernel)⟩
theorem lw_p14 : lw_okq (⟨"SmallFirst$Sheet", "asForm", "(I)I"⟩, 4) := ⟨⟨by decide +kernel, by decide +kernel⟩, List.mem_of_getElem? (i := 153) (by decide +kernel), List.mem_of_getElem? (i := 700) (by decide +kernel), List.mem_of_getElem? (i := 701) (by decide +kernel)⟩
theorem lw_p15 : lw_okq (⟨"SmallFirst", "digestTexts", "(J)J"⟩, 10) := ⟨⟨by decide +kernel, by decide +kernel⟩, List.mem_of_getElem? (i := 17) (by decide +kernel), List.mem_of_getElem? (i := 738) (by decide +kernel), List.mem_of_getElem? (i := 739) (by decide +kernel)⟩
def lw_privs_1 : List (MethodName × Nat) := [(⟨"SmallFirst", "textOf", "(I)LSmallFirst$Text;"⟩, 10), (⟨"SmallFirst", "readAgain", "(I)V"⟩, 10), (⟨"SmallFirst$Dust", "beginDust", "(I)I"⟩, 5), (⟨"SmallFirst$Dust", "endDust", "(I)I"⟩, 5), (⟨"SmallFirst$Laws", "beginLaw", "(I)I"⟩, 7), (⟨"SmallFirst$Laws", "pairWith", "(I)I"⟩, 7), (⟨"SmallFirst$Laws", "takeSign", "(I)I"⟩, 7), (⟨"SmallFirst$Laws", "endLaw", "(I)I"⟩, 7), (⟨"SmallFirst", "freshHouse", "()LSmallFirst$House;"⟩, 10), (⟨"SmallFirst$Weeks", "withLayings", "(II)I"⟩, 7), (⟨"SmallFirst", "finding", "(I)I"⟩, 10), (⟨"SmallFirst$Seen", "mayStand", "(II)Z"⟩, 3), (⟨"SmallFirst$Seen", "howManyStandWith", "(II)I"⟩, 3), (⟨"SmallFirst", "itemRefusal", "(III)I"⟩, 10), (⟨"SmallFirst$Sheet", "asForm", "(I)I"⟩, 4), (⟨"SmallFirst", "digestTexts", "(J)J"⟩, 10)]
theorem lw_r1 : ∀ q ∈ lw_privs_1, lw_okq q := List.forall_mem_cons.mpr ⟨lw_p0, List.forall_mem_cons.mpr ⟨lw_p1, List.forall_mem_cons.mpr ⟨lw_p2, List.forall_mem_cons.mpr ⟨lw_p3, List.forall_mem_cons.mpr ⟨lw_p4, List.forall_mem_cons.mpr ⟨lw_p5, List.forall_mem_cons.mpr ⟨lw_p6, List.forall_mem_cons.mpr ⟨lw_p7, List.forall_mem_cons.mpr ⟨lw_p8, List.forall_mem_cons.mpr ⟨lw_p9, List.forall_mem_cons.mpr ⟨lw_p10, List.forall_mem_cons.mpr ⟨lw_p11, List.forall_mem_cons.mpr ⟨lw_p12, List.forall_mem_cons.mpr ⟨lw_p13, List.forall_mem_cons.mpr ⟨lw_p14, List.forall_mem_cons.mpr ⟨lw_p15, fun _ h => absurd h List.not_mem_nil⟩⟩⟩⟩⟩⟩⟩⟩⟩⟩⟩⟩⟩⟩⟩⟩
theorem lw_p16 : lw_okq (⟨"SmallFirst", "digestBig", "(JI)J"⟩, 10) := ⟨⟨by decide +kernel, by decide +kernel⟩, List.mem_of_getElem? (i := 17) (by decide +kernel), List.mem_of_getElem? (i := 759) (by decide +kernel), List.mem_of_getElem? (i := 760) (by decide +kernel)⟩
theorem lw_p17 : lw_okq (⟨"SmallFirstModel", "met", "(I)I"⟩, 23) := ⟨⟨by decide +kernel, by decide +kernel⟩, List.mem_of_getElem? (i := 770) (by decide +kernel), List.mem_of_getElem? (i := 858) (by decide +kernel), List.mem_of_getElem? (i := 859) (by decide +kernel)⟩
theorem lw_p18 : lw_okq (⟨"SmallFirstModel", "lacks", "(III)I"⟩, 23) := ⟨⟨by decide +kernel, by decide +kernel⟩, List.mem_of_getElem? (i := 770) (by decide +kernel), List.mem_of_getElem? (i := 870) (by decide +kernel), List.mem_of_getElem? (i := 871) (by decide +kernel)⟩
theorem lw_p19 : lw_okq (⟨"SmallFirstModel", "readsLaws", "()I"⟩, 23) := ⟨⟨by decide +kernel, by decide +kernel⟩, List.mem_of_getElem? (i := 770) (by decide +kernel), List.mem_of_getElem? (i := 906) (by decide +kernel), List.mem_of_getElem? (i := 907) (by decide +kernel)⟩
theorem lw_p20 : lw_okq (⟨"SmallFirstModel", "readsLaw", "()Z"⟩, 23) := ⟨⟨by decide +kernel, by decide +kernel⟩, List.mem_of_getElem? (i := 770) (by decide +kernel), List.mem_of_getElem? (i := 910) (by decide +kernel), List.mem_of_getElem? (i := 911) (by decide +kernel)⟩
theorem lw_p21 : lw_okq (⟨"SmallFirstModel", "small", "(I)I"⟩, 23) := ⟨⟨by decide +kernel, by decide +kernel⟩, List.mem_of_getElem? (i := 770) (by decide +kernel), List.mem_of_getElem? (i := 914) (by decide +kernel), List.mem_of_getElem? (i := 915) (by decide +kernel)⟩
theorem lw_p22 : lw_okq (⟨"SmallFirstModel", "here", "(I)I"⟩, 23) := ⟨⟨by decide +kernel, by decide +kernel⟩, List.mem_of_getElem? (i := 770) (by decide +kernel), List.mem_of_getElem? (i := 918) (by decide +kernel), List.mem_of_getElem? (i := 919) (by decide +kernel)⟩
theorem lw_p23 : lw_okq (⟨"SmallFirstModel", "big", "(I)I"⟩, 23) := ⟨⟨by decide +kernel, by decide +kernel⟩, List.mem_of_getElem? (i := 770) (by decide +kernel), List.mem_of_getElem? (i := 924) (by decide +kernel), List.mem_of_getElem? (i := 925) (by decide +kernel)⟩
theorem lw_p24 : lw_okq (⟨"SmallFirstModel", "readsDust", "()I"⟩, 23) := ⟨⟨by decide +kernel, by decide +kernel⟩, List.mem_of_getElem? (i := 770) (by decide +kernel), List.mem_of_getElem? (i := 930) (by decide +kernel), List.mem_of_getElem? (i := 931) (by decide +kernel)⟩
theorem lw_p25 : lw_okq (⟨"SmallFirstModel", "readsOneDust", "()Z"⟩, 23) := ⟨⟨by decide +kernel, by decide +kernel⟩, List.mem_of_getElem? (i := 770) (by decide +kernel), List.mem_of_getElem? (i := 934) (by decide +kernel), List.mem_of_getElem? (i := 935) (by decide +kernel)⟩
theorem lw_p26 : lw_okq (⟨"SmallFirstModel", "reads", "()V"⟩, 23) := ⟨⟨by decide +kernel, by decide +kernel⟩, List.mem_of_getElem? (i := 770) (by decide +kernel), List.mem_of_getElem? (i := 957) (by decide +kernel), List.mem_of_getElem? (i := 958) (by decide +kernel)⟩
theorem lw_p27 : lw_okq (⟨"SmallFirstModel", "heldBy", "(II)I"⟩, 23) := ⟨⟨by decide +kernel, by decide +kernel⟩, List.mem_of_getElem? (i := 770) (by decide +kernel), List.mem_of_getElem? (i := 961) (by decide +kernel), List.mem_of_getElem? (i := 962) (by decide +kernel)⟩
theorem lw_p28 : lw_okq (⟨"SmallFirstModel", "holds", "(II)Z"⟩, 23) := ⟨⟨by decide +kernel, by decide +kernel⟩, List.mem_of_getElem? (i := 770) (by decide +kernel), List.mem_of_getElem? (i := 965) (by decide +kernel), List.mem_of_getElem? (i := 966) (by decide +kernel)⟩
theorem lw_p29 : lw_okq (⟨"SmallFirstModel", "lives", "()V"⟩, 23) := ⟨⟨by decide +kernel, by decide +kernel⟩, List.mem_of_getElem? (i := 770) (by decide +kernel), List.mem_of_getElem? (i := 993) (by decide +kernel), List.mem_of_getElem? (i := 994) (by decide +kernel)⟩
theorem lw_p30 : lw_okq (⟨"SmallFirstModel", "judgedNow", "()I"⟩, 23) := ⟨⟨by decide +kernel, by decide +kernel⟩, List.mem_of_getElem? (i := 770) (by decide +kernel), List.mem_of_getElem? (i := 1001) (by decide +kernel), List.mem_of_getElem? (i := 1002) (by decide +kernel)⟩
theorem lw_p31 : lw_okq (⟨"SmallFirstModel", "twoNow", "()I"⟩, 23) := ⟨⟨by decide +kernel, by decide +kernel⟩, List.mem_of_getElem? (i := 770) (by decide +kernel), List.mem_of_getElem? (i := 1009) (by decide +kernel), List.mem_of_getElem? (i := 1010) (by decide +kernel)⟩
def lw_privs_2 : List (MethodName × Nat) := [(⟨"SmallFirst", "digestBig", "(JI)J"⟩, 10), (⟨"SmallFirstModel", "met", "(I)I"⟩, 23), (⟨"SmallFirstModel", "lacks", "(III)I"⟩, 23), (⟨"SmallFirstModel", "readsLaws", "()I"⟩, 23), (⟨"SmallFirstModel", "readsLaw", "()Z"⟩, 23), (⟨"SmallFirstModel", "small", "(I)I"⟩, 23), (⟨"SmallFirstModel", "here", "(I)I"⟩, 23), (⟨"SmallFirstModel", "big", "(I)I"⟩, 23), (⟨"SmallFirstModel", "readsDust", "()I"⟩, 23), (⟨"SmallFirstModel", "readsOneDust", "()Z"⟩, 23), (⟨"SmallFirstModel", "reads", "()V"⟩, 23), (⟨"SmallFirstModel", "heldBy", "(II)I"⟩, 23), (⟨"SmallFirstModel", "holds", "(II)Z"⟩, 23), (⟨"SmallFirstModel", "lives", "()V"⟩, 23), (⟨"SmallFirstModel", "judgedNow", "()I"⟩, 23), (⟨"SmallFirstModel", "twoNow", "()I"⟩, 23)]
theorem lw_r2 : ∀ q ∈ lw_privs_2, lw_okq q := List.forall_mem_cons.mpr ⟨lw_p16, List.forall_mem_cons.mpr ⟨lw_p17, List.forall_mem_cons.mpr ⟨lw_p18, List.forall_mem_cons.mpr ⟨lw_p19, List.forall_mem_cons.mpr ⟨lw_p20, List.forall_mem_cons.mpr ⟨lw_p21, List.forall_mem_cons.mpr ⟨lw_p22, List.forall_mem_cons.mpr ⟨lw_p23, List.forall_mem_cons.mpr ⟨lw_p24, List.forall_mem_cons.mpr ⟨lw_p25, List.forall_mem_cons.mpr ⟨lw_p26, List.forall_mem_cons.mpr ⟨lw_p27, List.forall_mem_cons.mpr ⟨lw_p28, List.forall_mem_cons.mpr ⟨lw_p29, List.forall_mem_cons.mpr ⟨lw_p30, List.forall_mem_cons.mpr ⟨lw_p31, fun _ h => absurd h List.not_mem_nil⟩⟩⟩⟩⟩⟩⟩⟩⟩⟩⟩⟩⟩⟩⟩⟩
theorem lw_p32 : lw_okq (⟨"SmallFirstModel", "touchOf", "(III)I"⟩, 23) := ⟨⟨by decide +kernel, by decide +kernel⟩, List.mem_of_getElem? (i := 770) (by decide +kernel), List.mem_of_getElem? (i := 1025) (by decide +kernel), List.mem_of_getElem? (i := 1026) (by decide +kernel)⟩
theorem lw_p33 : lw_okq (⟨"SmallFirstModel", "comeIn", "(II)I"⟩, 23) := ⟨⟨by decide +kernel, by decide +kernel⟩, List.mem_of_getElem? (i := 770) (by decide +kernel), List.mem_of_getElem? (i := 1029) (by decide +kernel), List.mem_of_getElem? (i := 1030) (by decide +kernel)⟩
theorem lw_p34 : lw_okq (⟨"SmallFirstModel", "next", "(I)I"⟩, 23) := ⟨⟨by decide +kernel, by decide +kernel⟩, List.mem_of_getElem? (i := 770) (by decide +kernel), List.mem_of_getElem? (i := 1033) (by decide +kernel), List.mem_of_getElem? (i := 1034) (by decide +kernel)⟩
theorem lw_p35 : lw_okq (⟨"SmallFirstModel", "keepOffOf", "(II)I"⟩, 23) := ⟨⟨by decide +kernel, by decide +kernel⟩, List.mem_of_getElem? (i := 770) (by decide +kernel), List.mem_of_getElem? (i := 1044) (by decide +kernel), List.mem_of_getElem? (i := 1045) (by decide +kernel)⟩
theorem lw_p36 : lw_okq (⟨"SmallFirstModel", "isOff", "(III)Z"⟩, 23) := ⟨⟨by decide +kernel, by decide +kernel⟩, List.mem_of_getElem? (i := 770) (by decide +kernel), List.mem_of_getElem? (i := 1048) (by decide +kernel), List.mem_of_getElem? (i := 1049) (by decide +kernel)⟩
theorem lw_p37 : lw_okq (⟨"SmallFirstModel", "barsOf", "(I)I"⟩, 23) := ⟨⟨by decide +kernel, by decide +kernel⟩, List.mem_of_getElem? (i := 770) (by decide +kernel), List.mem_of_getElem? (i := 1056) (by decide +kernel), List.mem_of_getElem? (i := 1057) (by decide +kernel)⟩
theorem lw_p38 : lw_okq (⟨"SmallFirstModel", "playOf", "(III)I"⟩, 23) := ⟨⟨by decide +kernel, by decide +kernel⟩, List.mem_of_getElem? (i := 770) (by decide +kernel), List.mem_of_getElem? (i := 1065) (by decide +kernel), List.mem_of_getElem? (i := 1066) (by decide +kernel)⟩
theorem lw_p39 : lw_okq (⟨"SmallFirstModel", "findWins", "(II)V"⟩, 23) := ⟨⟨by decide +kernel, by decide +kernel⟩, List.mem_of_getElem? (i := 770) (by decide +kernel), List.mem_of_getElem? (i := 1069) (by decide +kernel), List.mem_of_getElem? (i := 1070) (by decide +kernel)⟩
theorem lw_p40 : lw_okq (⟨"SmallFirstModel", "steadyOf", "(I)I"⟩, 23) := ⟨⟨by decide +kernel, by decide +kernel⟩, List.mem_of_getElem? (i := 770) (by decide +kernel), List.mem_of_getElem? (i := 1078) (by decide +kernel), List.mem_of_getElem? (i := 1079) (by decide +kernel)⟩
theorem lw_p41 : lw_okq (⟨"SmallFirstModel", "roundOf", "(II)I"⟩, 23) := ⟨⟨by decide +kernel, by decide +kernel⟩, List.mem_of_getElem? (i := 770) (by decide +kernel), List.mem_of_getElem? (i := 1086) (by decide +kernel), List.mem_of_getElem? (i := 1087) (by decide +kernel)⟩
theorem lw_p42 : lw_okq (⟨"SmallFirstModel", "standsOf", "(II)I"⟩, 23) := ⟨⟨by decide +kernel, by decide +kernel⟩, List.mem_of_getElem? (i := 770) (by decide +kernel), List.mem_of_getElem? (i := 1107) (by decide +kernel), List.mem_of_getElem? (i := 1108) (by decide +kernel)⟩
theorem lw_p43 : lw_okq (⟨"SmallFirstModel", "standsFor", "(II)Z"⟩, 23) := ⟨⟨by decide +kernel, by decide +kernel⟩, List.mem_of_getElem? (i := 770) (by decide +kernel), List.mem_of_getElem? (i := 1111) (by decide +kernel), List.mem_of_getElem? (i := 1112) (by decide +kernel)⟩
theorem lw_p44 : lw_okq (⟨"SmallFirstModel", "watchOf", "(I)I"⟩, 23) := ⟨⟨by decide +kernel, by decide +kernel⟩, List.mem_of_getElem? (i := 770) (by decide +kernel), List.mem_of_getElem? (i := 1119) (by decide +kernel), List.mem_of_getElem? (i := 1120) (by decide +kernel)⟩
theorem lw_p45 : lw_okq (⟨"SmallFirstModel", "movedOf", "(I)I"⟩, 23) := ⟨⟨by decide +kernel, by decide +kernel⟩, List.mem_of_getElem? (i := 770) (by decide +kernel), List.mem_of_getElem? (i := 1127) (by decide +kernel), List.mem_of_getElem? (i := 1128) (by decide +kernel)⟩
theorem lw_p46 : lw_okq (⟨"SmallFirstModel", "catBy", "(II)I"⟩, 23) := ⟨⟨by decide +kernel, by decide +kernel⟩, List.mem_of_getElem? (i := 770) (by decide +kernel), List.mem_of_getElem? (i := 1136) (by decide +kernel), List.mem_of_getElem? (i := 1137) (by decide +kernel)⟩
theorem lw_p47 : lw_okq (⟨"SmallFirstModel", "letOf", "(II)I"⟩, 23) := ⟨⟨by decide +kernel, by decide +kernel⟩, List.mem_of_getElem? (i := 770) (by decide +kernel), List.mem_of_getElem? (i := 1152) (by decide +kernel), List.mem_of_getElem? (i := 1153) (by decide +kernel)⟩
def lw_privs_3 : List (MethodName × Nat) := [(⟨"SmallFirstModel", "touchOf", "(III)I"⟩, 23), (⟨"SmallFirstModel", "comeIn", "(II)I"⟩, 23), (⟨"SmallFirstModel", "next", "(I)I"⟩, 23), (⟨"SmallFirstModel", "keepOffOf", "(II)I"⟩, 23), (⟨"SmallFirstModel", "isOff", "(III)Z"⟩, 23), (⟨"SmallFirstModel", "barsOf", "(I)I"⟩, 23), (⟨"SmallFirstModel", "playOf", "(III)I"⟩, 23), (⟨"SmallFirstModel", "findWins", "(II)V"⟩, 23), (⟨"SmallFirstModel", "steadyOf", "(I)I"⟩, 23), (⟨"SmallFirstModel", "roundOf", "(II)I"⟩, 23), (⟨"SmallFirstModel", "standsOf", "(II)I"⟩, 23), (⟨"SmallFirstModel", "standsFor", "(II)Z"⟩, 23), (⟨"SmallFirstModel", "watchOf", "(I)I"⟩, 23), (⟨"SmallFirstModel", "movedOf", "(I)I"⟩, 23), (⟨"SmallFirstModel", "catBy", "(II)I"⟩, 23), (⟨"SmallFirstModel", "letOf", "(II)I"⟩, 23)]
theorem lw_r3 : ∀ q ∈ lw_privs_3, lw_okq q := List.forall_mem_cons.mpr ⟨lw_p32, List.forall_mem_cons.mpr ⟨lw_p33, List.forall_mem_cons.mpr ⟨lw_p34, List.forall_mem_cons.mpr ⟨lw_p35, List.forall_mem_cons.mpr ⟨lw_p36, List.forall_mem_cons.mpr ⟨lw_p37, List.forall_mem_cons.mpr ⟨lw_p38, List.forall_mem_cons.mpr ⟨lw_p39, List.forall_mem_cons.mpr ⟨lw_p40, List.forall_mem_cons.mpr ⟨lw_p41, List.forall_mem_cons.mpr ⟨lw_p42, List.forall_mem_cons.mpr ⟨lw_p43, List.forall_mem_cons.mpr ⟨lw_p44, List.forall_mem_cons.mpr ⟨lw_p45, List.forall_mem_cons.mpr ⟨lw_p46, List.forall_mem_cons.mpr ⟨lw_p47, fun _ h => absurd h List.not_mem_nil⟩⟩⟩⟩⟩⟩⟩⟩⟩⟩⟩⟩⟩⟩⟩⟩
theorem lw_p48 : lw_okq (⟨"SmallFirstModel", "lotOf", "(III)I"⟩, 23) := ⟨⟨by decide +kernel, by decide +kernel⟩, List.mem_of_getElem? (i := 770) (by decide +kernel), List.mem_of_getElem? (i := 1161) (by decide +kernel), List.mem_of_getElem? (i := 1162) (by decide +kernel)⟩
theorem lw_p49 : lw_okq (⟨"SmallFirstModel", "tellsBig", "(JI)J"⟩, 23) := ⟨⟨by decide +kernel, by decide +kernel⟩, List.mem_of_getElem? (i := 770) (by decide +kernel), List.mem_of_getElem? (i := 1182) (by decide +kernel), List.mem_of_getElem? (i := 1183) (by decide +kernel)⟩
def lw_privs_4 : List (MethodName × Nat) := [(⟨"SmallFirstModel", "lotOf", "(III)I"⟩, 23), (⟨"SmallFirstModel", "tellsBig", "(JI)J"⟩, 23)]
theorem lw_r4 : ∀ q ∈ lw_privs_4, lw_okq q := List.forall_mem_cons.mpr ⟨lw_p48, List.forall_mem_cons.mpr ⟨lw_p49, fun _ h => absurd h List.not_mem_nil⟩⟩
def lw_privs : List (MethodName × Nat) := lw_privs_1 ++ (lw_privs_2 ++ (lw_privs_3 ++ (lw_privs_4)))
def lw_tbl : List Cond := k2_sels lw_privs ++ tables_1
theorem lw_privs_ok : ∀ q ∈ lw_privs, lw_okq q := by
  show ∀ q ∈ lw_privs_1 ++ (lw_privs_2 ++ (lw_privs_3 ++ (lw_privs_4))), lw_okq q
  exact List.forall_mem_append.mpr ⟨lw_r1, List.forall_mem_append.mpr ⟨lw_r2, List.forall_mem_append.mpr ⟨lw_r3, lw_r4⟩⟩⟩
def RX0 : String := "SmallFirst$Chance"
def TX0 : u_T := fun k => match k with
  | _ => ("", "", "", false)
def tyX0 : Nat → FieldType := fun k => match k with
  | _ => .int
abbrev wsX00 : List Cond := u_ws RX0 TX0 0
theorem nmX0 : ∀ a, a < 0 → ∀ b, b < 0 → a ≠ b → (TX0 a).2.1 ≠ (TX0 b).2.1 := by decide +kernel
theorem tyX0_ok : ∀ k, k < 0 → parseFieldDescriptor (TX0 k).2.2.1 = some (tyX0 k) := by decide +kernel
abbrev cX0_withCat : ByteArray := prog_2_method_2_code
def yX0_withCat : MethodName := ⟨RX0, "withCat", "(LSmallFirst$House;III)I"⟩
abbrev cX0_lowest : ByteArray := prog_2_method_3_code
def yX0_lowest : MethodName := ⟨RX0, "lowest", "(III)I"⟩
def RX1 : String := "SmallFirst$Dust"
def TX1 : u_T := fun k => match k with
  | 0 => ("SmallFirst$Reading", "count", "I", false)
  | 1 => ("SmallFirst$Reading", "fault", "I", false)
  | 2 => ("SmallFirst$Dust", "big", "[I", true)
  | 3 => ("SmallFirst$Dust", "small", "[I", true)
  | _ => ("SmallFirst$Dust", "openBig", "I", false)
def tyX1 : Nat → FieldType := fun k => match k with
  | 0 => .int
  | 1 => .int
  | 2 => .array .int
  | 3 => .array .int
  | _ => .int
abbrev wsX10 : List Cond := u_ws RX1 TX1 5
theorem nmX1 : ∀ a, a < 5 → ∀ b, b < 5 → a ≠ b → (TX1 a).2.1 ≠ (TX1 b).2.1 := by decide +kernel
theorem tyX1_ok : ∀ k, k < 5 → parseFieldDescriptor (TX1 k).2.2.1 = some (tyX1 k) := by decide +kernel
abbrev cX1_init : ByteArray := prog_3_method_1_code
def yX1_init : MethodName := ⟨RX1, "<init>", "()V"⟩
abbrev cX1_bigOf : ByteArray := prog_3_method_2_code
def yX1_bigOf : MethodName := ⟨RX1, "bigOf", "(I)I"⟩
abbrev cX1_smallOf : ByteArray := prog_3_method_3_code
def yX1_smallOf : MethodName := ⟨RX1, "smallOf", "(I)I"⟩
abbrev cX1_laidBy : ByteArray := prog_3_method_4_code
def yX1_laidBy : MethodName := ⟨RX1, "laidBy", "(I)I"⟩
abbrev cX1_stateBehind : ByteArray := prog_3_method_5_code
def yX1_stateBehind : MethodName := ⟨RX1, "stateBehind", "(II)I"⟩
abbrev cX1_beginDust : ByteArray := prog_3_method_6_code
def yX1_beginDust : MethodName := ⟨RX1, "beginDust", "(I)I"⟩
abbrev cX1_endDust : ByteArray := prog_3_method_7_code
def yX1_endDust : MethodName := ⟨RX1, "endDust", "(I)I"⟩
def RX2 : String := "SmallFirst$House"
def TX2 : u_T := fun k => match k with
  | 0 => ("SmallFirst$House", "made", "[I", true)
  | 1 => ("SmallFirst$House", "barred", "[I", true)
  | _ => ("SmallFirst$House", "behind", "[I", true)
def tyX2 : Nat → FieldType := fun k => match k with
  | 0 => .array .int
  | 1 => .array .int
  | _ => .array .int
abbrev wsX20 : List Cond := u_ws RX2 TX2 3
theorem nmX2 : ∀ a, a < 3 → ∀ b, b < 3 → a ≠ b → (TX2 a).2.1 ≠ (TX2 b).2.1 := by decide +kernel
theorem tyX2_ok : ∀ k, k < 3 → parseFieldDescriptor (TX2 k).2.2.1 = some (tyX2 k) := by decide +kernel
abbrev cX2_init : ByteArray := prog_4_method_1_code
def yX2_init : MethodName := ⟨RX2, "<init>", "()V"⟩
abbrev cX2_fill : ByteArray := prog_4_method_2_code
def yX2_fill : MethodName := ⟨RX2, "fill", "(LSmallFirst$Laws;LSmallFirst$Dust;)V"⟩
abbrev cX2_comesBy : ByteArray := prog_4_method_3_code
def yX2_comesBy : MethodName := ⟨RX2, "comesBy", "(I)I"⟩
abbrev cX2_disagreeBy : ByteArray := prog_4_method_4_code
def yX2_disagreeBy : MethodName := ⟨RX2, "disagreeBy", "(I)I"⟩
abbrev cX2_weekBehind : ByteArray := prog_4_method_5_code
def yX2_weekBehind : MethodName := ⟨RX2, "weekBehind", "(I)I"⟩
def RX3 : String := "SmallFirst$Laws"
def TX3 : u_T := fun k => match k with
  | 0 => ("SmallFirst$Reading", "count", "I", false)
  | 1 => ("SmallFirst$Reading", "fault", "I", false)
  | 2 => ("SmallFirst$Laws", "small", "[I", true)
  | 3 => ("SmallFirst$Laws", "plus", "[Z", true)
  | 4 => ("SmallFirst$Laws", "big", "[I", true)
  | 5 => ("SmallFirst$Laws", "openSmall", "I", false)
  | _ => ("SmallFirst$Laws", "openPlus", "Z", false)
def tyX3 : Nat → FieldType := fun k => match k with
  | 0 => .int
  | 1 => .int
  | 2 => .array .int
  | 3 => .array .boolean
  | 4 => .array .int
  | 5 => .int
  | _ => .boolean
abbrev wsX30 : List Cond := u_ws RX3 TX3 7
theorem nmX3 : ∀ a, a < 7 → ∀ b, b < 7 → a ≠ b → (TX3 a).2.1 ≠ (TX3 b).2.1 := by decide +kernel
theorem tyX3_ok : ∀ k, k < 7 → parseFieldDescriptor (TX3 k).2.2.1 = some (tyX3 k) := by decide +kernel
abbrev cX3_init : ByteArray := prog_5_method_1_code
def yX3_init : MethodName := ⟨RX3, "<init>", "()V"⟩
abbrev cX3_smallOf : ByteArray := prog_5_method_2_code
def yX3_smallOf : MethodName := ⟨RX3, "smallOf", "(I)I"⟩
abbrev cX3_isPlus : ByteArray := prog_5_method_3_code
def yX3_isPlus : MethodName := ⟨RX3, "isPlus", "(I)Z"⟩
abbrev cX3_bigOf : ByteArray := prog_5_method_4_code
def yX3_bigOf : MethodName := ⟨RX3, "bigOf", "(I)I"⟩
abbrev cX3_plusCount : ByteArray := prog_5_method_5_code
def yX3_plusCount : MethodName := ⟨RX3, "plusCount", "()I"⟩
abbrev cX3_standsFor : ByteArray := prog_5_method_6_code
def yX3_standsFor : MethodName := ⟨RX3, "standsFor", "(I)I"⟩
abbrev cX3_heldBy : ByteArray := prog_5_method_7_code
def yX3_heldBy : MethodName := ⟨RX3, "heldBy", "(IZ)I"⟩
abbrev cX3_stateBehind : ByteArray := prog_5_method_8_code
def yX3_stateBehind : MethodName := ⟨RX3, "stateBehind", "(II)I"⟩
abbrev cX3_beginLaw : ByteArray := prog_5_method_9_code
def yX3_beginLaw : MethodName := ⟨RX3, "beginLaw", "(I)I"⟩
abbrev cX3_pairWith : ByteArray := prog_5_method_10_code
def yX3_pairWith : MethodName := ⟨RX3, "pairWith", "(I)I"⟩
abbrev cX3_takeSign : ByteArray := prog_5_method_11_code
def yX3_takeSign : MethodName := ⟨RX3, "takeSign", "(I)I"⟩
abbrev cX3_endLaw : ByteArray := prog_5_method_12_code
def yX3_endLaw : MethodName := ⟨RX3, "endLaw", "(I)I"⟩
def RX4 : String := "SmallFirst$Plans"
def TX4 : u_T := fun k => match k with
  | _ => ("", "", "", false)
def tyX4 : Nat → FieldType := fun k => match k with
  | _ => .int
abbrev wsX40 : List Cond := u_ws RX4 TX4 0
theorem nmX4 : ∀ a, a < 0 → ∀ b, b < 0 → a ≠ b → (TX4 a).2.1 ≠ (TX4 b).2.1 := by decide +kernel
theorem tyX4_ok : ∀ k, k < 0 → parseFieldDescriptor (TX4 k).2.2.1 = some (tyX4 k) := by decide +kernel
abbrev cX4_fewestTouched : ByteArray := prog_6_method_2_code
def yX4_fewestTouched : MethodName := ⟨RX4, "fewestTouched", "(LSmallFirst$House;IIII)I"⟩
abbrev cX4_fewestSwept : ByteArray := prog_6_method_3_code
def yX4_fewestSwept : MethodName := ⟨RX4, "fewestSwept", "(LSmallFirst$House;III)I"⟩
abbrev cX4_weeksToRepeat : ByteArray := prog_6_method_4_code
def yX4_weeksToRepeat : MethodName := ⟨RX4, "weeksToRepeat", "(LSmallFirst$House;I)I"⟩
abbrev cX4_roundLength : ByteArray := prog_6_method_5_code
def yX4_roundLength : MethodName := ⟨RX4, "roundLength", "(LSmallFirst$House;I)I"⟩
abbrev cX4_endsInComing : ByteArray := prog_6_method_6_code
def yX4_endsInComing : MethodName := ⟨RX4, "endsInComing", "(LSmallFirst$House;III)Z"⟩
abbrev cX4_itComes : ByteArray := prog_6_method_7_code
def yX4_itComes : MethodName := ⟨RX4, "itComes", "(LSmallFirst$House;IIIZ)Z"⟩
abbrev cX4_firstTouch : ByteArray := prog_6_method_8_code
def yX4_firstTouch : MethodName := ⟨RX4, "firstTouch", "(LSmallFirst$House;III)I"⟩
abbrev cX4_isFewer : ByteArray := prog_6_method_9_code
def yX4_isFewer : MethodName := ⟨RX4, "isFewer", "(II)Z"⟩
abbrev cX4_bigsIn : ByteArray := prog_6_method_10_code
def yX4_bigsIn : MethodName := ⟨RX4, "bigsIn", "(LSmallFirst$House;II)I"⟩
abbrev cX4_staysOff : ByteArray := prog_6_method_11_code
def yX4_staysOff : MethodName := ⟨RX4, "staysOff", "(LSmallFirst$House;III)Z"⟩
abbrev cX4_weekOf : ByteArray := prog_6_method_12_code
def yX4_weekOf : MethodName := ⟨RX4, "weekOf", "(LSmallFirst$House;III)I"⟩
def RX5 : String := "SmallFirst$Reading"
def TX5 : u_T := fun k => match k with
  | _ => ("", "", "", false)
def tyX5 : Nat → FieldType := fun k => match k with
  | _ => .int
abbrev wsX50 : List Cond := u_ws RX5 TX5 0
theorem nmX5 : ∀ a, a < 0 → ∀ b, b < 0 → a ≠ b → (TX5 a).2.1 ≠ (TX5 b).2.1 := by decide +kernel
theorem tyX5_ok : ∀ k, k < 0 → parseFieldDescriptor (TX5 k).2.2.1 = some (tyX5 k) := by decide +kernel
abbrev cX5_init : ByteArray := prog_7_method_1_code
def yX5_init : MethodName := ⟨RX5, "<init>", "()V"⟩
abbrev cX5_size : ByteArray := prog_7_method_3_code
def yX5_size : MethodName := ⟨RX5, "size", "()I"⟩
abbrev cX5_faultPlace : ByteArray := prog_7_method_4_code
def yX5_faultPlace : MethodName := ⟨RX5, "faultPlace", "()I"⟩
abbrev cX5_addOne : ByteArray := prog_7_method_5_code
def yX5_addOne : MethodName := ⟨RX5, "addOne", "()V"⟩
abbrev cX5_readFrom : ByteArray := prog_7_method_6_code
def yX5_readFrom : MethodName := ⟨RX5, "readFrom", "(LSmallFirst$Text;)V"⟩
def RX6 : String := "SmallFirst$Seen"
def TX6 : u_T := fun k => match k with
  | 0 => ("SmallFirst$Seen", "small", "[I", true)
  | 1 => ("SmallFirst$Seen", "big", "[I", true)
  | _ => ("SmallFirst$Seen", "count", "I", false)
def tyX6 : Nat → FieldType := fun k => match k with
  | 0 => .array .int
  | 1 => .array .int
  | _ => .int
abbrev wsX60 : List Cond := u_ws RX6 TX6 3
theorem nmX6 : ∀ a, a < 3 → ∀ b, b < 3 → a ≠ b → (TX6 a).2.1 ≠ (TX6 b).2.1 := by decide +kernel
theorem tyX6_ok : ∀ k, k < 3 → parseFieldDescriptor (TX6 k).2.2.1 = some (tyX6 k) := by decide +kernel
abbrev cX6_init : ByteArray := prog_8_method_1_code
def yX6_init : MethodName := ⟨RX6, "<init>", "()V"⟩
abbrev cX6_size : ByteArray := prog_8_method_2_code
def yX6_size : MethodName := ⟨RX6, "size", "()I"⟩
abbrev cX6_clear : ByteArray := prog_8_method_3_code
def yX6_clear : MethodName := ⟨RX6, "clear", "()V"⟩
abbrev cX6_addSight : ByteArray := prog_8_method_4_code
def yX6_addSight : MethodName := ⟨RX6, "addSight", "(II)Z"⟩
abbrev cX6_howManyStand : ByteArray := prog_8_method_5_code
def yX6_howManyStand : MethodName := ⟨RX6, "howManyStand", "(I)I"⟩
abbrev cX6_fewestStand : ByteArray := prog_8_method_6_code
def yX6_fewestStand : MethodName := ⟨RX6, "fewestStand", "(I)I"⟩
abbrev cX6_nearestHalf : ByteArray := prog_8_method_7_code
def yX6_nearestHalf : MethodName := ⟨RX6, "nearestHalf", "(I)I"⟩
abbrev cX6_howManyStandWith : ByteArray := prog_8_method_8_code
def yX6_howManyStandWith : MethodName := ⟨RX6, "howManyStandWith", "(II)I"⟩
abbrev cX6_mayStand : ByteArray := prog_8_method_9_code
def yX6_mayStand : MethodName := ⟨RX6, "mayStand", "(II)Z"⟩
def RX7 : String := "SmallFirst$Sheet"
def TX7 : u_T := fun k => match k with
  | 0 => ("SmallFirst$Sheet", "items", "[I", true)
  | 1 => ("SmallFirst$Sheet", "form", "I", false)
  | 2 => ("SmallFirst$Sheet", "length", "I", false)
  | _ => ("SmallFirst$Sheet", "lost", "Z", false)
def tyX7 : Nat → FieldType := fun k => match k with
  | 0 => .array .int
  | 1 => .int
  | 2 => .int
  | _ => .boolean
abbrev wsX70 : List Cond := u_ws RX7 TX7 4
theorem nmX7 : ∀ a, a < 4 → ∀ b, b < 4 → a ≠ b → (TX7 a).2.1 ≠ (TX7 b).2.1 := by decide +kernel
theorem tyX7_ok : ∀ k, k < 4 → parseFieldDescriptor (TX7 k).2.2.1 = some (tyX7 k) := by decide +kernel
abbrev cX7_init : ByteArray := prog_9_method_1_code
def yX7_init : MethodName := ⟨RX7, "<init>", "()V"⟩
abbrev cX7_isLost : ByteArray := prog_9_method_2_code
def yX7_isLost : MethodName := ⟨RX7, "isLost", "()Z"⟩
abbrev cX7_formOf : ByteArray := prog_9_method_3_code
def yX7_formOf : MethodName := ⟨RX7, "formOf", "()I"⟩
abbrev cX7_size : ByteArray := prog_9_method_4_code
def yX7_size : MethodName := ⟨RX7, "size", "()I"⟩
abbrev cX7_begin : ByteArray := prog_9_method_5_code
def yX7_begin : MethodName := ⟨RX7, "begin", "(II)V"⟩
abbrev cX7_end : ByteArray := prog_9_method_6_code
def yX7_end : MethodName := ⟨RX7, "end", "()V"⟩
abbrev cX7_hasItems : ByteArray := prog_9_method_7_code
def yX7_hasItems : MethodName := ⟨RX7, "hasItems", "(II)Z"⟩
abbrev cX7_item : ByteArray := prog_9_method_8_code
def yX7_item : MethodName := ⟨RX7, "item", "(I)I"⟩
abbrev cX7_setItem : ByteArray := prog_9_method_9_code
def yX7_setItem : MethodName := ⟨RX7, "setItem", "(II)V"⟩
abbrev cX7_takeFrom : ByteArray := prog_9_method_10_code
def yX7_takeFrom : MethodName := ⟨RX7, "takeFrom", "(LSmallFirst$Sheet;III)V"⟩
abbrev cX7_asForm : ByteArray := prog_9_method_11_code
def yX7_asForm : MethodName := ⟨RX7, "asForm", "(I)I"⟩
def RX8 : String := "SmallFirst$Text"
def TX8 : u_T := fun k => match k with
  | 0 => ("SmallFirst$Text", "bytes", "[I", true)
  | _ => ("SmallFirst$Text", "length", "I", false)
def tyX8 : Nat → FieldType := fun k => match k with
  | 0 => .array .int
  | _ => .int
abbrev wsX80 : List Cond := u_ws RX8 TX8 2
theorem nmX8 : ∀ a, a < 2 → ∀ b, b < 2 → a ≠ b → (TX8 a).2.1 ≠ (TX8 b).2.1 := by decide +kernel
theorem tyX8_ok : ∀ k, k < 2 → parseFieldDescriptor (TX8 k).2.2.1 = some (tyX8 k) := by decide +kernel
abbrev cX8_init : ByteArray := prog_10_method_1_code
def yX8_init : MethodName := ⟨RX8, "<init>", "(I)V"⟩
abbrev cX8_size : ByteArray := prog_10_method_2_code
def yX8_size : MethodName := ⟨RX8, "size", "()I"⟩
abbrev cX8_byteAt : ByteArray := prog_10_method_3_code
def yX8_byteAt : MethodName := ⟨RX8, "byteAt", "(I)I"⟩
abbrev cX8_append : ByteArray := prog_10_method_4_code
def yX8_append : MethodName := ⟨RX8, "append", "(I)Z"⟩
abbrev cX8_dropLast : ByteArray := prog_10_method_5_code
def yX8_dropLast : MethodName := ⟨RX8, "dropLast", "()Z"⟩
abbrev cX8_clear : ByteArray := prog_10_method_6_code
def yX8_clear : MethodName := ⟨RX8, "clear", "()V"⟩
def RX9 : String := "SmallFirst$Weeks"
def TX9 : u_T := fun k => match k with
  | 0 => ("SmallFirst$Weeks", "layWeek", "[I", true)
  | 1 => ("SmallFirst$Weeks", "layBit", "[I", true)
  | 2 => ("SmallFirst$Weeks", "layIs", "[Z", true)
  | 3 => ("SmallFirst$Weeks", "lies", "[I", true)
  | 4 => ("SmallFirst$Weeks", "came", "[I", true)
  | 5 => ("SmallFirst$Weeks", "first", "I", false)
  | _ => ("SmallFirst$Weeks", "count", "I", false)
def tyX9 : Nat → FieldType := fun k => match k with
  | 0 => .array .int
  | 1 => .array .int
  | 2 => .array .boolean
  | 3 => .array .int
  | 4 => .array .int
  | 5 => .int
  | _ => .int
abbrev wsX90 : List Cond := u_ws RX9 TX9 7
theorem nmX9 : ∀ a, a < 7 → ∀ b, b < 7 → a ≠ b → (TX9 a).2.1 ≠ (TX9 b).2.1 := by decide +kernel
theorem tyX9_ok : ∀ k, k < 7 → parseFieldDescriptor (TX9 k).2.2.1 = some (tyX9 k) := by decide +kernel
abbrev cX9_init : ByteArray := prog_11_method_1_code
def yX9_init : MethodName := ⟨RX9, "<init>", "()V"⟩
abbrev cX9_firstSet : ByteArray := prog_11_method_2_code
def yX9_firstSet : MethodName := ⟨RX9, "firstSet", "()I"⟩
abbrev cX9_setFirst : ByteArray := prog_11_method_3_code
def yX9_setFirst : MethodName := ⟨RX9, "setFirst", "(I)V"⟩
abbrev cX9_layings : ByteArray := prog_11_method_4_code
def yX9_layings : MethodName := ⟨RX9, "layings", "()I"⟩
abbrev cX9_addLaying : ByteArray := prog_11_method_5_code
def yX9_addLaying : MethodName := ⟨RX9, "addLaying", "(III)Z"⟩
abbrev cX9_dropLaying : ByteArray := prog_11_method_6_code
def yX9_dropLaying : MethodName := ⟨RX9, "dropLaying", "()Z"⟩
abbrev cX9_runTo : ByteArray := prog_11_method_7_code
def yX9_runTo : MethodName := ⟨RX9, "runTo", "(LSmallFirst$House;I)V"⟩
abbrev cX9_smallIn : ByteArray := prog_11_method_8_code
def yX9_smallIn : MethodName := ⟨RX9, "smallIn", "(I)I"⟩
abbrev cX9_bigIn : ByteArray := prog_11_method_9_code
def yX9_bigIn : MethodName := ⟨RX9, "bigIn", "(I)I"⟩
abbrev cX9_withLayings : ByteArray := prog_11_method_10_code
def yX9_withLayings : MethodName := ⟨RX9, "withLayings", "(II)I"⟩
def RX10 : String := "SmallFirst"
def TX10 : u_T := fun k => match k with
  | 0 => ("SmallFirst", "lawText", "LSmallFirst$Text;", true)
  | 1 => ("SmallFirst", "dustText", "LSmallFirst$Text;", true)
  | 2 => ("SmallFirst", "laws", "LSmallFirst$Laws;", true)
  | 3 => ("SmallFirst", "dusts", "LSmallFirst$Dust;", true)
  | 4 => ("SmallFirst", "tables", "LSmallFirst$House;", true)
  | 5 => ("SmallFirst", "weeks", "LSmallFirst$Weeks;", true)
  | 6 => ("SmallFirst", "sights", "LSmallFirst$Seen;", true)
  | 7 => ("SmallFirst", "sheets", "[LSmallFirst$Sheet;", true)
  | 8 => ("SmallFirst", "tablesStale", "Z", false)
  | _ => ("SmallFirst", "latestFinding", "I", false)
def tyX10 : Nat → FieldType := fun k => match k with
  | 0 => .object "SmallFirst$Text"
  | 1 => .object "SmallFirst$Text"
  | 2 => .object "SmallFirst$Laws"
  | 3 => .object "SmallFirst$Dust"
  | 4 => .object "SmallFirst$House"
  | 5 => .object "SmallFirst$Weeks"
  | 6 => .object "SmallFirst$Seen"
  | 7 => .array (.object "SmallFirst$Sheet")
  | 8 => .boolean
  | _ => .int
abbrev wsX100 : List Cond := u_ws RX10 TX10 10
theorem nmX10 : ∀ a, a < 10 → ∀ b, b < 10 → a ≠ b → (TX10 a).2.1 ≠ (TX10 b).2.1 := by decide +kernel
theorem tyX10_ok : ∀ k, k < 10 → parseFieldDescriptor (TX10 k).2.2.1 = some (tyX10 k) := by decide +kernel
abbrev cX10_init : ByteArray := prog_1_method_1_code
def yX10_init : MethodName := ⟨RX10, "<init>", "()V"⟩
abbrev cX10_type : ByteArray := prog_1_method_2_code
def yX10_type : MethodName := ⟨RX10, "type", "(II)I"⟩
abbrev cX10_wipe : ByteArray := prog_1_method_3_code
def yX10_wipe : MethodName := ⟨RX10, "wipe", "(I)I"⟩
abbrev cX10_undo : ByteArray := prog_1_method_4_code
def yX10_undo : MethodName := ⟨RX10, "undo", "(I)I"⟩
abbrev cX10_fault : ByteArray := prog_1_method_5_code
def yX10_fault : MethodName := ⟨RX10, "fault", "(I)I"⟩
abbrev cX10_rule : ByteArray := prog_1_method_6_code
def yX10_rule : MethodName := ⟨RX10, "rule", "(II)I"⟩
abbrev cX10_dust : ByteArray := prog_1_method_7_code
def yX10_dust : MethodName := ⟨RX10, "dust", "(II)I"⟩
abbrev cX10_first : ByteArray := prog_1_method_8_code
def yX10_first : MethodName := ⟨RX10, "first", "(I)I"⟩
abbrev cX10_comes : ByteArray := prog_1_method_9_code
def yX10_comes : MethodName := ⟨RX10, "comes", "(I)I"⟩
abbrev cX10_lays : ByteArray := prog_1_method_10_code
def yX10_lays : MethodName := ⟨RX10, "lays", "(I)I"⟩
abbrev cX10_lay : ByteArray := prog_1_method_11_code
def yX10_lay : MethodName := ⟨RX10, "lay", "(III)I"⟩
abbrev cX10_back : ByteArray := prog_1_method_12_code
def yX10_back : MethodName := ⟨RX10, "back", "()I"⟩
abbrev cX10_week : ByteArray := prog_1_method_13_code
def yX10_week : MethodName := ⟨RX10, "week", "(II)I"⟩
abbrev cX10_judged : ByteArray := prog_1_method_14_code
def yX10_judged : MethodName := ⟨RX10, "judged", "()I"⟩
abbrev cX10_two : ByteArray := prog_1_method_15_code
def yX10_two : MethodName := ⟨RX10, "two", "()I"⟩
abbrev cX10_second : ByteArray := prog_1_method_16_code
def yX10_second : MethodName := ⟨RX10, "second", "(I)I"⟩
abbrev cX10_touch : ByteArray := prog_1_method_17_code
def yX10_touch : MethodName := ⟨RX10, "touch", "(IIII)I"⟩
abbrev cX10_keepOff : ByteArray := prog_1_method_18_code
def yX10_keepOff : MethodName := ⟨RX10, "keepOff", "(III)I"⟩
abbrev cX10_bars : ByteArray := prog_1_method_19_code
def yX10_bars : MethodName := ⟨RX10, "bars", "(I)I"⟩
abbrev cX10_play : ByteArray := prog_1_method_20_code
def yX10_play : MethodName := ⟨RX10, "play", "(III)I"⟩
abbrev cX10_steady : ByteArray := prog_1_method_21_code
def yX10_steady : MethodName := ⟨RX10, "steady", "(I)I"⟩
abbrev cX10_round : ByteArray := prog_1_method_22_code
def yX10_round : MethodName := ⟨RX10, "round", "(II)I"⟩
abbrev cX10_seen : ByteArray := prog_1_method_23_code
def yX10_seen : MethodName := ⟨RX10, "seen", "(II)I"⟩
abbrev cX10_forget : ByteArray := prog_1_method_24_code
def yX10_forget : MethodName := ⟨RX10, "forget", "()I"⟩
abbrev cX10_read : ByteArray := prog_1_method_25_code
def yX10_read : MethodName := ⟨RX10, "read", "(I)I"⟩
abbrev cX10_stands : ByteArray := prog_1_method_26_code
def yX10_stands : MethodName := ⟨RX10, "stands", "(II)I"⟩
abbrev cX10_watch : ByteArray := prog_1_method_27_code
def yX10_watch : MethodName := ⟨RX10, "watch", "(I)I"⟩
abbrev cX10_moved : ByteArray := prog_1_method_28_code
def yX10_moved : MethodName := ⟨RX10, "moved", "(I)I"⟩
abbrev cX10_cat : ByteArray := prog_1_method_29_code
def yX10_cat : MethodName := ⟨RX10, "cat", "(III)J"⟩
abbrev cX10_let : ByteArray := prog_1_method_30_code
def yX10_let : MethodName := ⟨RX10, "let", "(II)I"⟩
abbrev cX10_lot : ByteArray := prog_1_method_31_code
def yX10_lot : MethodName := ⟨RX10, "lot", "(III)I"⟩
abbrev cX10_sheet : ByteArray := prog_1_method_32_code
def yX10_sheet : MethodName := ⟨RX10, "sheet", "(III)I"⟩
abbrev cX10_lose : ByteArray := prog_1_method_33_code
def yX10_lose : MethodName := ⟨RX10, "lose", "(I)I"⟩
abbrev cX10_put : ByteArray := prog_1_method_34_code
def yX10_put : MethodName := ⟨RX10, "put", "(IIII)I"⟩
abbrev cX10_get : ByteArray := prog_1_method_35_code
def yX10_get : MethodName := ⟨RX10, "get", "(III)I"⟩
abbrev cX10_copy : ByteArray := prog_1_method_36_code
def yX10_copy : MethodName := ⟨RX10, "copy", "(IIIII)I"⟩
abbrev cX10_write : ByteArray := prog_1_method_37_code
def yX10_write : MethodName := ⟨RX10, "write", "(II)I"⟩
abbrev cX10_count : ByteArray := prog_1_method_38_code
def yX10_count : MethodName := ⟨RX10, "count", "(I)I"⟩
abbrev cX10_digest : ByteArray := prog_1_method_39_code
def yX10_digest : MethodName := ⟨RX10, "digest", "()J"⟩
abbrev cX10_digestTexts : ByteArray := prog_1_method_40_code
def yX10_digestTexts : MethodName := ⟨RX10, "digestTexts", "(J)J"⟩
abbrev cX10_digestBig : ByteArray := prog_1_method_41_code
def yX10_digestBig : MethodName := ⟨RX10, "digestBig", "(JI)J"⟩
abbrev cX10_mix : ByteArray := prog_1_method_42_code
def yX10_mix : MethodName := ⟨RX10, "mix", "(JJ)J"⟩
abbrev cX10_textOf : ByteArray := prog_1_method_43_code
def yX10_textOf : MethodName := ⟨RX10, "textOf", "(I)LSmallFirst$Text;"⟩
abbrev cX10_readAgain : ByteArray := prog_1_method_44_code
def yX10_readAgain : MethodName := ⟨RX10, "readAgain", "(I)V"⟩
abbrev cX10_freshHouse : ByteArray := prog_1_method_45_code
def yX10_freshHouse : MethodName := ⟨RX10, "freshHouse", "()LSmallFirst$House;"⟩
abbrev cX10_finding : ByteArray := prog_1_method_46_code
def yX10_finding : MethodName := ⟨RX10, "finding", "(I)I"⟩
abbrev cX10_itemRefusal : ByteArray := prog_1_method_47_code
def yX10_itemRefusal : MethodName := ⟨RX10, "itemRefusal", "(III)I"⟩
abbrev cX10_numberOrBits : ByteArray := prog_1_method_48_code
def yX10_numberOrBits : MethodName := ⟨RX10, "numberOrBits", "(II)I"⟩
abbrev cX10_isBits : ByteArray := prog_1_method_49_code
def yX10_isBits : MethodName := ⟨RX10, "isBits", "(I)Z"⟩
abbrev cX10_isThing : ByteArray := prog_1_method_50_code
def yX10_isThing : MethodName := ⟨RX10, "isThing", "(I)Z"⟩
abbrev cX10_isEither : ByteArray := prog_1_method_51_code
def yX10_isEither : MethodName := ⟨RX10, "isEither", "(I)Z"⟩
abbrev cX10_isWeek : ByteArray := prog_1_method_52_code
def yX10_isWeek : MethodName := ⟨RX10, "isWeek", "(I)Z"⟩
abbrev cX10_isSpan : ByteArray := prog_1_method_53_code
def yX10_isSpan : MethodName := ⟨RX10, "isSpan", "(I)Z"⟩
abbrev cX10_isChance : ByteArray := prog_1_method_54_code
def yX10_isChance : MethodName := ⟨RX10, "isChance", "(I)Z"⟩
abbrev cX10_isSheet : ByteArray := prog_1_method_55_code
def yX10_isSheet : MethodName := ⟨RX10, "isSheet", "(I)Z"⟩
abbrev cX10_isForm : ByteArray := prog_1_method_56_code
def yX10_isForm : MethodName := ⟨RX10, "isForm", "(I)Z"⟩
abbrev cX10_isSmallLetter : ByteArray := prog_1_method_57_code
def yX10_isSmallLetter : MethodName := ⟨RX10, "isSmallLetter", "(I)Z"⟩
abbrev cX10_isBigLetter : ByteArray := prog_1_method_58_code
def yX10_isBigLetter : MethodName := ⟨RX10, "isBigLetter", "(I)Z"⟩
def RX11 : String := "SmallFirstModel"
def TX11 : u_T := fun k => match k with
  | 0 => ("SmallFirstModel", "forms", "[I", true)
  | 1 => ("SmallFirstModel", "sizes", "[I", true)
  | 2 => ("SmallFirstModel", "items", "[I", true)
  | 3 => ("SmallFirstModel", "shifted", "[I", true)
  | 4 => ("SmallFirstModel", "latest", "I", false)
  | 5 => ("SmallFirstModel", "bytes", "[I", true)
  | 6 => ("SmallFirstModel", "typed", "[I", true)
  | 7 => ("SmallFirstModel", "at", "I", false)
  | 8 => ("SmallFirstModel", "laws", "I", false)
  | 9 => ("SmallFirstModel", "law", "[I", true)
  | 10 => ("SmallFirstModel", "dusts", "I", false)
  | 11 => ("SmallFirstModel", "dust", "[I", true)
  | 12 => ("SmallFirstModel", "come", "[I", true)
  | 13 => ("SmallFirstModel", "laid", "[I", true)
  | 14 => ("SmallFirstModel", "firsts", "I", false)
  | 15 => ("SmallFirstModel", "layings", "I", false)
  | 16 => ("SmallFirstModel", "laying", "[I", true)
  | 17 => ("SmallFirstModel", "smalls", "[I", true)
  | 18 => ("SmallFirstModel", "bigs", "[I", true)
  | 19 => ("SmallFirstModel", "wins", "[Z", true)
  | 20 => ("SmallFirstModel", "when", "[I", true)
  | 21 => ("SmallFirstModel", "sights", "I", false)
  | _ => ("SmallFirstModel", "seen", "[I", true)
def tyX11 : Nat → FieldType := fun k => match k with
  | 0 => .array .int
  | 1 => .array .int
  | 2 => .array .int
  | 3 => .array .int
  | 4 => .int
  | 5 => .array .int
  | 6 => .array .int
  | 7 => .int
  | 8 => .int
  | 9 => .array .int
  | 10 => .int
  | 11 => .array .int
  | 12 => .array .int
  | 13 => .array .int
  | 14 => .int
  | 15 => .int
  | 16 => .array .int
  | 17 => .array .int
  | 18 => .array .int
  | 19 => .array .boolean
  | 20 => .array .int
  | 21 => .int
  | _ => .array .int
abbrev wsX110 : List Cond := u_ws RX11 TX11 23
theorem nmX11 : ∀ a, a < 23 → ∀ b, b < 23 → a ≠ b → (TX11 a).2.1 ≠ (TX11 b).2.1 := by decide +kernel
theorem tyX11_ok : ∀ k, k < 23 → parseFieldDescriptor (TX11 k).2.2.1 = some (tyX11 k) := by decide +kernel
abbrev cX11_init : ByteArray := prog_13_method_1_code
def yX11_init : MethodName := ⟨RX11, "<init>", "()V"⟩
abbrev cX11_in : ByteArray := prog_13_method_3_code
def yX11_in : MethodName := ⟨RX11, "in", "(JJJ)Z"⟩
abbrev cX11_no : ByteArray := prog_13_method_4_code
def yX11_no : MethodName := ⟨RX11, "no", "(I)J"⟩
abbrev cX11_isTwo : ByteArray := prog_13_method_5_code
def yX11_isTwo : MethodName := ⟨RX11, "isTwo", "(I)Z"⟩
abbrev cX11_isIn : ByteArray := prog_13_method_6_code
def yX11_isIn : MethodName := ⟨RX11, "isIn", "(II)Z"⟩
abbrev cX11_ones : ByteArray := prog_13_method_7_code
def yX11_ones : MethodName := ⟨RX11, "ones", "(I)I"⟩
abbrev cX11_part : ByteArray := prog_13_method_8_code
def yX11_part : MethodName := ⟨RX11, "part", "(JJI)J"⟩
abbrev cX11_met : ByteArray := prog_13_method_9_code
def yX11_met : MethodName := ⟨RX11, "met", "(I)I"⟩
abbrev cX11_isSheet : ByteArray := prog_13_method_10_code
def yX11_isSheet : MethodName := ⟨RX11, "isSheet", "(I)Z"⟩
abbrev cX11_sheet : ByteArray := prog_13_method_11_code
def yX11_sheet : MethodName := ⟨RX11, "sheet", "(III)I"⟩
abbrev cX11_lose : ByteArray := prog_13_method_12_code
def yX11_lose : MethodName := ⟨RX11, "lose", "(I)I"⟩
abbrev cX11_lacks : ByteArray := prog_13_method_13_code
def yX11_lacks : MethodName := ⟨RX11, "lacks", "(III)I"⟩
abbrev cX11_cut : ByteArray := prog_13_method_14_code
def yX11_cut : MethodName := ⟨RX11, "cut", "(II)I"⟩
abbrev cX11_put : ByteArray := prog_13_method_15_code
def yX11_put : MethodName := ⟨RX11, "put", "(IIII)I"⟩
abbrev cX11_get : ByteArray := prog_13_method_16_code
def yX11_get : MethodName := ⟨RX11, "get", "(III)I"⟩
abbrev cX11_copy : ByteArray := prog_13_method_17_code
def yX11_copy : MethodName := ⟨RX11, "copy", "(IIIII)I"⟩
abbrev cX11_type : ByteArray := prog_13_method_18_code
def yX11_type : MethodName := ⟨RX11, "type", "(II)I"⟩
abbrev cX11_wipe : ByteArray := prog_13_method_19_code
def yX11_wipe : MethodName := ⟨RX11, "wipe", "(I)I"⟩
abbrev cX11_undo : ByteArray := prog_13_method_20_code
def yX11_undo : MethodName := ⟨RX11, "undo", "(I)I"⟩
abbrev cX11_here : ByteArray := prog_13_method_21_code
def yX11_here : MethodName := ⟨RX11, "here", "(I)I"⟩
abbrev cX11_small : ByteArray := prog_13_method_22_code
def yX11_small : MethodName := ⟨RX11, "small", "(I)I"⟩
abbrev cX11_big : ByteArray := prog_13_method_23_code
def yX11_big : MethodName := ⟨RX11, "big", "(I)I"⟩
abbrev cX11_readsLaw : ByteArray := prog_13_method_24_code
def yX11_readsLaw : MethodName := ⟨RX11, "readsLaw", "()Z"⟩
abbrev cX11_readsLaws : ByteArray := prog_13_method_25_code
def yX11_readsLaws : MethodName := ⟨RX11, "readsLaws", "()I"⟩
abbrev cX11_readsOneDust : ByteArray := prog_13_method_26_code
def yX11_readsOneDust : MethodName := ⟨RX11, "readsOneDust", "()Z"⟩
abbrev cX11_readsDust : ByteArray := prog_13_method_27_code
def yX11_readsDust : MethodName := ⟨RX11, "readsDust", "()I"⟩
abbrev cX11_holds : ByteArray := prog_13_method_28_code
def yX11_holds : MethodName := ⟨RX11, "holds", "(II)Z"⟩
abbrev cX11_heldBy : ByteArray := prog_13_method_29_code
def yX11_heldBy : MethodName := ⟨RX11, "heldBy", "(II)I"⟩
abbrev cX11_reads : ByteArray := prog_13_method_30_code
def yX11_reads : MethodName := ⟨RX11, "reads", "()V"⟩
abbrev cX11_fault : ByteArray := prog_13_method_31_code
def yX11_fault : MethodName := ⟨RX11, "fault", "(I)I"⟩
abbrev cX11_rule : ByteArray := prog_13_method_32_code
def yX11_rule : MethodName := ⟨RX11, "rule", "(II)I"⟩
abbrev cX11_dust : ByteArray := prog_13_method_33_code
def yX11_dust : MethodName := ⟨RX11, "dust", "(II)I"⟩
abbrev cX11_isSet : ByteArray := prog_13_method_34_code
def yX11_isSet : MethodName := ⟨RX11, "isSet", "(I)Z"⟩
abbrev cX11_isThing : ByteArray := prog_13_method_35_code
def yX11_isThing : MethodName := ⟨RX11, "isThing", "(I)Z"⟩
abbrev cX11_first : ByteArray := prog_13_method_36_code
def yX11_first : MethodName := ⟨RX11, "first", "(I)I"⟩
abbrev cX11_comes : ByteArray := prog_13_method_37_code
def yX11_comes : MethodName := ⟨RX11, "comes", "(I)I"⟩
abbrev cX11_lays : ByteArray := prog_13_method_38_code
def yX11_lays : MethodName := ⟨RX11, "lays", "(I)I"⟩
abbrev cX11_next : ByteArray := prog_13_method_39_code
def yX11_next : MethodName := ⟨RX11, "next", "(I)I"⟩
abbrev cX11_lay : ByteArray := prog_13_method_40_code
def yX11_lay : MethodName := ⟨RX11, "lay", "(III)I"⟩
abbrev cX11_back : ByteArray := prog_13_method_41_code
def yX11_back : MethodName := ⟨RX11, "back", "()I"⟩
abbrev cX11_lives : ByteArray := prog_13_method_42_code
def yX11_lives : MethodName := ⟨RX11, "lives", "()V"⟩
abbrev cX11_week : ByteArray := prog_13_method_43_code
def yX11_week : MethodName := ⟨RX11, "week", "(II)I"⟩
abbrev cX11_judgedNow : ByteArray := prog_13_method_44_code
def yX11_judgedNow : MethodName := ⟨RX11, "judgedNow", "()I"⟩
abbrev cX11_judged : ByteArray := prog_13_method_45_code
def yX11_judged : MethodName := ⟨RX11, "judged", "()I"⟩
abbrev cX11_twoNow : ByteArray := prog_13_method_46_code
def yX11_twoNow : MethodName := ⟨RX11, "twoNow", "()I"⟩
abbrev cX11_two : ByteArray := prog_13_method_47_code
def yX11_two : MethodName := ⟨RX11, "two", "()I"⟩
abbrev cX11_second : ByteArray := prog_13_method_48_code
def yX11_second : MethodName := ⟨RX11, "second", "(I)I"⟩
abbrev cX11_comeIn : ByteArray := prog_13_method_49_code
def yX11_comeIn : MethodName := ⟨RX11, "comeIn", "(II)I"⟩
abbrev cX11_told : ByteArray := prog_13_method_50_code
def yX11_told : MethodName := ⟨RX11, "told", "(II)I"⟩
abbrev cX11_touchOf : ByteArray := prog_13_method_51_code
def yX11_touchOf : MethodName := ⟨RX11, "touchOf", "(III)I"⟩
abbrev cX11_touch : ByteArray := prog_13_method_52_code
def yX11_touch : MethodName := ⟨RX11, "touch", "(IIII)I"⟩
abbrev cX11_isOff : ByteArray := prog_13_method_53_code
def yX11_isOff : MethodName := ⟨RX11, "isOff", "(III)Z"⟩
abbrev cX11_keepOffOf : ByteArray := prog_13_method_54_code
def yX11_keepOffOf : MethodName := ⟨RX11, "keepOffOf", "(II)I"⟩
abbrev cX11_keepOff : ByteArray := prog_13_method_55_code
def yX11_keepOff : MethodName := ⟨RX11, "keepOff", "(III)I"⟩
abbrev cX11_barsOf : ByteArray := prog_13_method_56_code
def yX11_barsOf : MethodName := ⟨RX11, "barsOf", "(I)I"⟩
abbrev cX11_bars : ByteArray := prog_13_method_57_code
def yX11_bars : MethodName := ⟨RX11, "bars", "(I)I"⟩
abbrev cX11_findWins : ByteArray := prog_13_method_58_code
def yX11_findWins : MethodName := ⟨RX11, "findWins", "(II)V"⟩
abbrev cX11_playOf : ByteArray := prog_13_method_59_code
def yX11_playOf : MethodName := ⟨RX11, "playOf", "(III)I"⟩
abbrev cX11_play : ByteArray := prog_13_method_60_code
def yX11_play : MethodName := ⟨RX11, "play", "(III)I"⟩
abbrev cX11_steadyOf : ByteArray := prog_13_method_61_code
def yX11_steadyOf : MethodName := ⟨RX11, "steadyOf", "(I)I"⟩
abbrev cX11_steady : ByteArray := prog_13_method_62_code
def yX11_steady : MethodName := ⟨RX11, "steady", "(I)I"⟩
abbrev cX11_roundOf : ByteArray := prog_13_method_63_code
def yX11_roundOf : MethodName := ⟨RX11, "roundOf", "(II)I"⟩
abbrev cX11_round : ByteArray := prog_13_method_64_code
def yX11_round : MethodName := ⟨RX11, "round", "(II)I"⟩
abbrev cX11_seen : ByteArray := prog_13_method_65_code
def yX11_seen : MethodName := ⟨RX11, "seen", "(II)I"⟩
abbrev cX11_forget : ByteArray := prog_13_method_66_code
def yX11_forget : MethodName := ⟨RX11, "forget", "()I"⟩
abbrev cX11_read : ByteArray := prog_13_method_67_code
def yX11_read : MethodName := ⟨RX11, "read", "(I)I"⟩
abbrev cX11_standsFor : ByteArray := prog_13_method_68_code
def yX11_standsFor : MethodName := ⟨RX11, "standsFor", "(II)Z"⟩
abbrev cX11_standsOf : ByteArray := prog_13_method_69_code
def yX11_standsOf : MethodName := ⟨RX11, "standsOf", "(II)I"⟩
abbrev cX11_stands : ByteArray := prog_13_method_70_code
def yX11_stands : MethodName := ⟨RX11, "stands", "(II)I"⟩
abbrev cX11_watchOf : ByteArray := prog_13_method_71_code
def yX11_watchOf : MethodName := ⟨RX11, "watchOf", "(I)I"⟩
abbrev cX11_watch : ByteArray := prog_13_method_72_code
def yX11_watch : MethodName := ⟨RX11, "watch", "(I)I"⟩
abbrev cX11_movedOf : ByteArray := prog_13_method_73_code
def yX11_movedOf : MethodName := ⟨RX11, "movedOf", "(I)I"⟩
abbrev cX11_moved : ByteArray := prog_13_method_74_code
def yX11_moved : MethodName := ⟨RX11, "moved", "(I)I"⟩
abbrev cX11_catBy : ByteArray := prog_13_method_75_code
def yX11_catBy : MethodName := ⟨RX11, "catBy", "(II)I"⟩
abbrev cX11_cat : ByteArray := prog_13_method_76_code
def yX11_cat : MethodName := ⟨RX11, "cat", "(III)J"⟩
abbrev cX11_letOf : ByteArray := prog_13_method_77_code
def yX11_letOf : MethodName := ⟨RX11, "letOf", "(II)I"⟩
abbrev cX11_let : ByteArray := prog_13_method_78_code
def yX11_let : MethodName := ⟨RX11, "let", "(II)I"⟩
abbrev cX11_lotOf : ByteArray := prog_13_method_79_code
def yX11_lotOf : MethodName := ⟨RX11, "lotOf", "(III)I"⟩
abbrev cX11_lot : ByteArray := prog_13_method_80_code
def yX11_lot : MethodName := ⟨RX11, "lot", "(III)I"⟩
abbrev cX11_write : ByteArray := prog_13_method_81_code
def yX11_write : MethodName := ⟨RX11, "write", "(II)I"⟩
abbrev cX11_count : ByteArray := prog_13_method_82_code
def yX11_count : MethodName := ⟨RX11, "count", "(I)I"⟩
abbrev cX11_tellsBig : ByteArray := prog_13_method_83_code
def yX11_tellsBig : MethodName := ⟨RX11, "tellsBig", "(JI)J"⟩
abbrev cX11_digest : ByteArray := prog_13_method_84_code
def yX11_digest : MethodName := ⟨RX11, "digest", "()J"⟩
def RJ6 : String := "java/lang/Integer"
def TJ6 : u_T := fun k => match k with
  | _ => ("", "", "", false)
def tyJ6 : Nat → FieldType := fun k => match k with
  | _ => .int
abbrev wsJ60 : List Cond := u_ws RJ6 TJ6 0
theorem nmJ6 : ∀ a, a < 0 → ∀ b, b < 0 → a ≠ b → (TJ6 a).2.1 ≠ (TJ6 b).2.1 := by decide +kernel
theorem tyJ6_ok : ∀ k, k < 0 → parseFieldDescriptor (TJ6 k).2.2.1 = some (tyJ6 k) := by decide +kernel
abbrev cJ6_bitCount_0f7a4 : ByteArray := prog_14_method_49_code
def yJ6_bitCount_0f7a4 : MethodName := ⟨RJ6, "bitCount", "(I)I"⟩
def RJ9 : String := "java/lang/Math"
def TJ9 : u_T := fun k => match k with
  | _ => ("", "", "", false)
def tyJ9 : Nat → FieldType := fun k => match k with
  | _ => .int
abbrev wsJ90 : List Cond := u_ws RJ9 TJ9 0
theorem nmJ9 : ∀ a, a < 0 → ∀ b, b < 0 → a ≠ b → (TJ9 a).2.1 ≠ (TJ9 b).2.1 := by decide +kernel
theorem tyJ9_ok : ∀ k, k < 0 → parseFieldDescriptor (TJ9 k).2.2.1 = some (tyJ9 k) := by decide +kernel
abbrev cJ9_abs_0f7a4 : ByteArray := prog_15_method_59_code
def yJ9_abs_0f7a4 : MethodName := ⟨RJ9, "abs", "(I)I"⟩
abbrev cJ9_max_7cf53 : ByteArray := prog_15_method_65_code
def yJ9_max_7cf53 : MethodName := ⟨RJ9, "max", "(II)I"⟩
abbrev cJ9_min_7cf53 : ByteArray := prog_15_method_69_code
def yJ9_min_7cf53 : MethodName := ⟨RJ9, "min", "(II)I"⟩
def RJ10 : String := "java/lang/System"
def TJ10 : u_T := fun k => match k with
  | _ => ("", "", "", false)
def tyJ10 : Nat → FieldType := fun k => match k with
  | _ => .int
abbrev wsJ100 : List Cond := u_ws RJ10 TJ10 0
theorem nmJ10 : ∀ a, a < 0 → ∀ b, b < 0 → a ≠ b → (TJ10 a).2.1 ≠ (TJ10 b).2.1 := by decide +kernel
theorem tyJ10_ok : ∀ k, k < 0 → parseFieldDescriptor (TJ10 k).2.2.1 = some (tyJ10 k) := by decide +kernel
def RL : String := "SmallFirstLaw"
abbrev cL_law : ByteArray := code
def yL_law : MethodName := ⟨RL, "law", "([I)Z"⟩
abbrev vwCl : List vw_C := [(RX1, TX1, 5), (RX2, TX2, 3), (RX3, TX3, 7), (RX6, TX6, 3), (RX7, TX7, 4), (RX8, TX8, 2), (RX9, TX9, 7), (RX10, TX10, 10), (RX11, TX11, 23)]
