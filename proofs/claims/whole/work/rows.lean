section
-- ===== PART A: goes FIRST, ahead of the names: the tables' words, and 'selects' of the private methods out of them =====
/-- a private method of a class that the tables say can be made, by its rows of tables_1 -/
def lw_okq (q : MethodName × Nat) : Prop := (q.1.cls ≠ "java/lang/invoke/MethodHandle" ∧ q.1.cls ≠ "java/lang/invoke/VarHandle") ∧ Cond.instantiable q.1.cls q.2 ∈ tables_1 ∧ Cond.privateMethod q.1 ∈ tables_1 ∧ Cond.instanceMethod q.1 ∈ tables_1
theorem lw_p0 : lw_okq (⟨"SmallFirst", "textOf", "(I)LSmallFirst$Text;"⟩, 10) := ⟨⟨by decide +kernel, by decide +kernel⟩, List.mem_of_getElem? (i := 17) (by decide +kernel), List.mem_of_getElem? (i := 207) (by decide +kernel), List.mem_of_getElem? (i := 208) (by decide +kernel)⟩
theorem lw_p1 : lw_okq (⟨"SmallFirst", "readAgain", "(I)V"⟩, 10) := ⟨⟨by decide +kernel, by decide +kernel⟩, List.mem_of_getElem? (i := 17) (by decide +kernel), List.mem_of_getElem? (i := 218) (by decide +kernel), List.mem_of_getElem? (i := 219) (by decide +kernel)⟩
theorem lw_p2 : lw_okq (⟨"SmallFirst$Dust", "beginDust", "(I)I"⟩, 5) := ⟨⟨by decide +kernel, by decide +kernel⟩, List.mem_of_getElem? (i := 74) (by decide +kernel), List.mem_of_getElem? (i := 242) (by decide +kernel), List.mem_of_getElem? (i := 243) (by decide +kernel)⟩
theorem lw_p3 : lw_okq (⟨"SmallFirst$Dust", "endDust", "(I)I"⟩, 5) := ⟨⟨by decide +kernel, by decide +kernel⟩, List.mem_of_getElem? (i := 74) (by decide +kernel), List.mem_of_getElem? (i := 255) (by decide +kernel), List.mem_of_getElem? (i := 256) (by decide +kernel)⟩
theorem lw_p4 : lw_okq (⟨"SmallFirst$Laws", "beginLaw", "(I)I"⟩, 7) := ⟨⟨by decide +kernel, by decide +kernel⟩, List.mem_of_getElem? (i := 42) (by decide +kernel), List.mem_of_getElem? (i := 271) (by decide +kernel), List.mem_of_getElem? (i := 272) (by decide +kernel)⟩
theorem lw_p5 : lw_okq (⟨"SmallFirst$Laws", "pairWith", "(I)I"⟩, 7) := ⟨⟨by decide +kernel, by decide +kernel⟩, List.mem_of_getElem? (i := 42) (by decide +kernel), List.mem_of_getElem? (i := 279) (by decide +kernel), List.mem_of_getElem? (i := 280) (by decide +kernel)⟩
theorem lw_p6 : lw_okq (⟨"SmallFirst$Laws", "takeSign", "(I)I"⟩, 7) := ⟨⟨by decide +kernel, by decide +kernel⟩, List.mem_of_getElem? (i := 42) (by decide +kernel), List.mem_of_getElem? (i := 283) (by decide +kernel), List.mem_of_getElem? (i := 284) (by decide +kernel)⟩
theorem lw_p7 : lw_okq (⟨"SmallFirst$Laws", "endLaw", "(I)I"⟩, 7) := ⟨⟨by decide +kernel, by decide +kernel⟩, List.mem_of_getElem? (i := 42) (by decide +kernel), List.mem_of_getElem? (i := 287) (by decide +kernel), List.mem_of_getElem? (i := 288) (by decide +kernel)⟩
theorem lw_p8 : lw_okq (⟨"SmallFirst", "freshHouse", "()LSmallFirst$House;"⟩, 10) := ⟨⟨by decide +kernel, by decide +kernel⟩, List.mem_of_getElem? (i := 17) (by decide +kernel), List.mem_of_getElem? (i := 377) (by decide +kernel), List.mem_of_getElem? (i := 378) (by decide +kernel)⟩
theorem lw_p9 : lw_okq (⟨"SmallFirst$Weeks", "withLayings", "(II)I"⟩, 7) := ⟨⟨by decide +kernel, by decide +kernel⟩, List.mem_of_getElem? (i := 108) (by decide +kernel), List.mem_of_getElem? (i := 446) (by decide +kernel), List.mem_of_getElem? (i := 447) (by decide +kernel)⟩
theorem lw_p10 : lw_okq (⟨"SmallFirst", "finding", "(I)I"⟩, 10) := ⟨⟨by decide +kernel, by decide +kernel⟩, List.mem_of_getElem? (i := 17) (by decide +kernel), List.mem_of_getElem? (i := 583) (by decide +kernel), List.mem_of_getElem? (i := 584) (by decide +kernel)⟩
theorem lw_p11 : lw_okq (⟨"SmallFirst$Seen", "mayStand", "(II)Z"⟩, 3) := ⟨⟨by decide +kernel, by decide +kernel⟩, List.mem_of_getElem? (i := 136) (by decide +kernel), List.mem_of_getElem? (i := 607) (by decide +kernel), List.mem_of_getElem? (i := 608) (by decide +kernel)⟩
theorem lw_p12 : lw_okq (⟨"SmallFirst$Seen", "howManyStandWith", "(II)I"⟩, 3) := ⟨⟨by decide +kernel, by decide +kernel⟩, List.mem_of_getElem? (i := 136) (by decide +kernel), List.mem_of_getElem? (i := 625) (by decide +kernel), List.mem_of_getElem? (i := 626) (by decide +kernel)⟩
theorem lw_p13 : lw_okq (⟨"SmallFirst", "itemRefusal", "(III)I"⟩, 10) := ⟨⟨by decide +kernel, by decide +kernel⟩, List.mem_of_getElem? (i := 17) (by decide +kernel), List.mem_of_getElem? (i := 687) (by decide +kernel), List.mem_of_getElem? (i := 688) (by decide +kernel)⟩
theorem lw_p14 : lw_okq (⟨"SmallFirst$Sheet", "asForm", "(I)I"⟩, 4) := ⟨⟨by decide +kernel, by decide +kernel⟩, List.mem_of_getElem? (i := 153) (by decide +kernel), List.mem_of_getElem? (i := 700) (by decide +kernel), List.mem_of_getElem? (i := 701) (by decide +kernel)⟩
theorem lw_p15 : lw_okq (⟨"SmallFirst", "digestTexts", "(J)J"⟩, 10) := ⟨⟨by decide +kernel, by decide +kernel⟩, List.mem_of_getElem? (i := 17) (by decide +kernel), List.mem_of_getElem? (i := 738) (by decide +kernel), List.mem_of_getElem? (i := 739) (by decide +kernel)⟩
def lw_privs_1 : List (MethodName × Nat) := [(⟨"SmallFirst", "textOf", "(I)LSmallFirst$Text;"⟩, 10), (⟨"SmallFirst", "readAgain", "(I)V"⟩, 10), (⟨"SmallFirst$Dust", "beginDust", "(I)I"⟩, 5), (⟨"SmallFirst$Dust", "endDust", "(I)I"⟩, 5), (⟨"SmallFirst$Laws", "beginLaw", "(I)I"⟩, 7), (⟨"SmallFirst$Laws", "pairWith", "(I)I"⟩, 7), (⟨"SmallFirst$Laws", "takeSign", "(I)I"⟩, 7), (⟨"SmallFirst$Laws", "endLaw", "(I)I"⟩, 7), (⟨"SmallFirst", "freshHouse", "()LSmallFirst$House;"⟩, 10), (⟨"SmallFirst$Weeks", "withLayings", "(II)I"⟩, 7), (⟨"SmallFirst", "finding", "(I)I"⟩, 10), (⟨"SmallFirst$Seen", "mayStand", "(II)Z"⟩, 3), (⟨"SmallFirst$Seen", "howManyStandWith", "(II)I"⟩, 3), (⟨"SmallFirst", "itemRefusal", "(III)I"⟩, 10), (⟨"SmallFirst$Sheet", "asForm", "(I)I"⟩, 4), (⟨"SmallFirst", "digestTexts", "(J)J"⟩, 10)]
theorem lw_r1 : ∀ q ∈ lw_privs_1, lw_okq q := List.forall_mem_cons.mpr ⟨lw_p0, List.forall_mem_cons.mpr ⟨lw_p1, List.forall_mem_cons.mpr ⟨lw_p2, List.forall_mem_cons.mpr ⟨lw_p3, List.forall_mem_cons.mpr ⟨lw_p4, List.forall_mem_cons.mpr ⟨lw_p5, List.forall_mem_cons.mpr ⟨lw_p6, List.forall_mem_cons.mpr ⟨lw_p7, List.forall_mem_cons.mpr ⟨lw_p8, List.forall_mem_cons.mpr ⟨lw_p9, List.forall_mem_cons.mpr ⟨lw_p10, List.forall_mem_cons.mpr ⟨lw_p11, List.forall_mem_cons.mpr ⟨lw_p12, List.forall_mem_cons.mpr ⟨lw_p13, List.forall_mem_cons.mpr ⟨lw_p14, List.forall_mem_cons.mpr ⟨lw_p15, fun _ h => absurd h List.not_mem_nil⟩⟩⟩⟩⟩⟩⟩⟩⟩⟩⟩⟩⟩⟩⟩⟩
theorem lw_p16 : lw_okq (⟨"SmallFirst", "digestBig", "(JI)J"⟩, 10) := ⟨⟨by decide +kernel, by decide +kernel⟩, List.mem_of_getElem? (i := 17) (by decide +kernel), List.mem_of_getElem? (i := 759) (by decide +kernel), List.mem_of_getElem? (i := 760) (by decide +kernel)⟩
theorem lw_p17 : lw_okq (⟨"SmallFirstModel", "met", "(I)I"⟩, 23) := ⟨⟨by decide +kernel, by decide +kernel⟩, List.mem_of_getElem? (i := 770) (by decide +kernel), List.mem_of_getElem? (i := 858) (by decide +kernel), List.mem_of_getElem? (i := 859) (by decide +kernel)⟩
theorem lw_p18 : lw_okq (⟨"SmallFirstModel", "lacks", "(III)I"⟩, 23) := ⟨⟨by decide +kernel, by decide +kernel⟩, List.mem_of_getElem? (i := 770) (by decide +kernel), List.mem_of_getElem? (i := 870) (by decide +kernel), List.mem_of_getElem? (i := 871) (by decide +kernel)⟩
theorem lw_p19 : lw_okq (⟨"SmallFirstModel", "readsLaws", "()I"⟩, 23) := ⟨⟨by decide +kernel, by decide +kernel⟩, List.mem_of_getElem? (i := 770) (by decide +kernel), List.mem_of_getElem? (i := 906) (by decide +kernel), List.mem_of_getElem? (i := 907) (by decide +kernel)⟩
theorem lw_p20 : lw_okq (⟨"SmallFirstModel", "readsLaw", "()Z"⟩, 23) := ⟨⟨by decide +kernel, by decide +kernel⟩, List.mem_of_getElem? (i := 770) (by decide +kernel), List.mem_of_getElem? (i := 910) (by decide +kernel), List.mem_of_getElem? (i := 911) (by decide +kernel)⟩
theorem lw_p21 : lw_okq (⟨"SmallFirstModel", "small", "(I)I"⟩, 23) := ⟨⟨by decide +kernel, by decide +kernel⟩, List.mem_of_getElem? (i := 770) (by decide +kernel), List.mem_of_getElem? (i := 914) (by decide +kernel), List.mem_of_getElem? (i := 915) (by decide +kernel)⟩
theorem lw_p22 : lw_okq (⟨"SmallFirstModel", "here", "(I)I"⟩, 23) := ⟨⟨by decide +kernel, by decide +kernel⟩, List.mem_of_getElem? (i := 770) (by decide +kernel), List.mem_of_getElem? (i := 918) (by decide +kernel), List.mem_of_getElem? (i := 919) (by decide +kernel)⟩
theorem lw_p23 : lw_okq (⟨"SmallFirstModel", "big", "(I)I"⟩, 23) := ⟨⟨by decide +kernel, by decide +kernel⟩, List.mem_of_getElem? (i := 770) (by decide +kernel), List.mem_of_getElem? (i := 924) (by decide +kernel), List.mem_of_getElem? (i := 925) (by decide +kernel)⟩
theorem lw_p24 : lw_okq (⟨"SmallFirstModel", "readsDust", "()I"⟩, 23) := ⟨⟨by decide +kernel, by decide +kernel⟩, List.mem_of_getElem? (i := 770) (by decide +kernel), List.mem_of_getElem? (i := 930) (by decide +kernel), List.mem_of_getElem? (i := 931) (by decide +kernel)⟩
theorem lw_p25 : lw_okq (⟨"SmallFirstModel", "readsOneDust", "()Z"⟩, 23) := ⟨⟨by decide +kernel, by decide +kernel⟩, List.mem_of_getElem? (i := 770) (by decide +kernel), List.mem_of_getElem? (i := 934) (by decide +kernel), List.mem_of_getElem? (i := 935) (by decide +kernel)⟩
theorem lw_p26 : lw_okq (⟨"SmallFirstModel", "reads", "()V"⟩, 23) := ⟨⟨by decide +kernel, by decide +kernel⟩, List.mem_of_getElem? (i := 770) (by decide +kernel), List.mem_of_getElem? (i := 957) (by decide +kernel), List.mem_of_getElem? (i := 958) (by decide +kernel)⟩
theorem lw_p27 : lw_okq (⟨"SmallFirstModel", "heldBy", "(II)I"⟩, 23) := ⟨⟨by decide +kernel, by decide +kernel⟩, List.mem_of_getElem? (i := 770) (by decide +kernel), List.mem_of_getElem? (i := 961) (by decide +kernel), List.mem_of_getElem? (i := 962) (by decide +kernel)⟩
theorem lw_p28 : lw_okq (⟨"SmallFirstModel", "holds", "(II)Z"⟩, 23) := ⟨⟨by decide +kernel, by decide +kernel⟩, List.mem_of_getElem? (i := 770) (by decide +kernel), List.mem_of_getElem? (i := 965) (by decide +kernel), List.mem_of_getElem? (i := 966) (by decide +kernel)⟩
theorem lw_p29 : lw_okq (⟨"SmallFirstModel", "lives", "()V"⟩, 23) := ⟨⟨by decide +kernel, by decide +kernel⟩, List.mem_of_getElem? (i := 770) (by decide +kernel), List.mem_of_getElem? (i := 993) (by decide +kernel), List.mem_of_getElem? (i := 994) (by decide +kernel)⟩
theorem lw_p30 : lw_okq (⟨"SmallFirstModel", "judgedNow", "()I"⟩, 23) := ⟨⟨by decide +kernel, by decide +kernel⟩, List.mem_of_getElem? (i := 770) (by decide +kernel), List.mem_of_getElem? (i := 1001) (by decide +kernel), List.mem_of_getElem? (i := 1002) (by decide +kernel)⟩
theorem lw_p31 : lw_okq (⟨"SmallFirstModel", "twoNow", "()I"⟩, 23) := ⟨⟨by decide +kernel, by decide +kernel⟩, List.mem_of_getElem? (i := 770) (by decide +kernel), List.mem_of_getElem? (i := 1009) (by decide +kernel), List.mem_of_getElem? (i := 1010) (by decide +kernel)⟩
def lw_privs_2 : List (MethodName × Nat) := [(⟨"SmallFirst", "digestBig", "(JI)J"⟩, 10), (⟨"SmallFirstModel", "met", "(I)I"⟩, 23), (⟨"SmallFirstModel", "lacks", "(III)I"⟩, 23), (⟨"SmallFirstModel", "readsLaws", "()I"⟩, 23), (⟨"SmallFirstModel", "readsLaw", "()Z"⟩, 23), (⟨"SmallFirstModel", "small", "(I)I"⟩, 23), (⟨"SmallFirstModel", "here", "(I)I"⟩, 23), (⟨"SmallFirstModel", "big", "(I)I"⟩, 23), (⟨"SmallFirstModel", "readsDust", "()I"⟩, 23), (⟨"SmallFirstModel", "readsOneDust", "()Z"⟩, 23), (⟨"SmallFirstModel", "reads", "()V"⟩, 23), (⟨"SmallFirstModel", "heldBy", "(II)I"⟩, 23), (⟨"SmallFirstModel", "holds", "(II)Z"⟩, 23), (⟨"SmallFirstModel", "lives", "()V"⟩, 23), (⟨"SmallFirstModel", "judgedNow", "()I"⟩, 23), (⟨"SmallFirstModel", "twoNow", "()I"⟩, 23)]
theorem lw_r2 : ∀ q ∈ lw_privs_2, lw_okq q := List.forall_mem_cons.mpr ⟨lw_p16, List.forall_mem_cons.mpr ⟨lw_p17, List.forall_mem_cons.mpr ⟨lw_p18, List.forall_mem_cons.mpr ⟨lw_p19, List.forall_mem_cons.mpr ⟨lw_p20, List.forall_mem_cons.mpr ⟨lw_p21, List.forall_mem_cons.mpr ⟨lw_p22, List.forall_mem_cons.mpr ⟨lw_p23, List.forall_mem_cons.mpr ⟨lw_p24, List.forall_mem_cons.mpr ⟨lw_p25, List.forall_mem_cons.mpr ⟨lw_p26, List.forall_mem_cons.mpr ⟨lw_p27, List.forall_mem_cons.mpr ⟨lw_p28, List.forall_mem_cons.mpr ⟨lw_p29, List.forall_mem_cons.mpr ⟨lw_p30, List.forall_mem_cons.mpr ⟨lw_p31, fun _ h => absurd h List.not_mem_nil⟩⟩⟩⟩⟩⟩⟩⟩⟩⟩⟩⟩⟩⟩⟩⟩
theorem lw_p32 : lw_okq (⟨"SmallFirstModel", "touchOf", "(III)I"⟩, 23) := ⟨⟨by decide +kernel, by decide +kernel⟩, List.mem_of_getElem? (i := 770) (by decide +kernel), List.mem_of_getElem? (i := 1025) (by decide +kernel), List.mem_of_getElem? (i := 1026) (by decide +kernel)⟩
theorem lw_p33 : lw_okq (⟨"SmallFirstModel", "comeIn", "(II)I"⟩, 23) := ⟨⟨by decide +kernel, by decide +kernel⟩, List.mem_of_getElem? (i := 770) (by decide +kernel), List.mem_of_getElem? (i := 1029) (by decide +kernel), List.mem_of_getElem? (i := 1030) (by decide +kernel)⟩
theorem lw_p34 : lw_okq (⟨"SmallFirstModel", "next", "(I)I"⟩, 23) := ⟨⟨by decide +kernel, by decide +kernel⟩, List.mem_of_getElem? (i := 770) (by decide +kernel), List.mem_of_getElem? (i := 1033) (by decide +kernel), List.mem_of_getElem? (i := 1034) (by decide +kernel)⟩
theorem lw_p35 : lw_okq (⟨"SmallFirstModel", "keepOffOf", "(II)I"⟩, 23) := ⟨⟨by decide +kernel, by decide +kernel⟩, List.mem_of_getElem? (i := 770) (by decide +kernel), List.mem_of_getElem? (i := 1044) (by decide +kernel), List.mem_of_getElem? (i := 1045) (by decide +kernel)⟩
theorem lw_p36 : lw_okq (⟨"SmallFirstModel", "isOff", "(III)Z"⟩, 23) := ⟨⟨by decide +kernel, by decide +kernel⟩, List.mem_of_getElem? (i := 770) (by decide +kernel), List.mem_of_getElem? (i := 1048) (by decide +kernel), List.mem_of_getElem? (i := 1049) (by decide +kernel)⟩
theorem lw_p37 : lw_okq (⟨"SmallFirstModel", "barsOf", "(I)I"⟩, 23) := ⟨⟨by decide +kernel, by decide +kernel⟩, List.mem_of_getElem? (i := 770) (by decide +kernel), List.mem_of_getElem? (i := 1056) (by decide +kernel), List.mem_of_getElem? (i := 1057) (by decide +kernel)⟩
theorem lw_p38 : lw_okq (⟨"SmallFirstModel", "playOf", "(III)I"⟩, 23) := ⟨⟨by decide +kernel, by decide +kernel⟩, List.mem_of_getElem? (i := 770) (by decide +kernel), List.mem_of_getElem? (i := 1065) (by decide +kernel), List.mem_of_getElem? (i := 1066) (by decide +kernel)⟩
theorem lw_p39 : lw_okq (⟨"SmallFirstModel", "findWins", "(II)V"⟩, 23) := ⟨⟨by decide +kernel, by decide +kernel⟩, List.mem_of_getElem? (i := 770) (by decide +kernel), List.mem_of_getElem? (i := 1069) (by decide +kernel), List.mem_of_getElem? (i := 1070) (by decide +kernel)⟩
theorem lw_p40 : lw_okq (⟨"SmallFirstModel", "steadyOf", "(I)I"⟩, 23) := ⟨⟨by decide +kernel, by decide +kernel⟩, List.mem_of_getElem? (i := 770) (by decide +kernel), List.mem_of_getElem? (i := 1078) (by decide +kernel), List.mem_of_getElem? (i := 1079) (by decide +kernel)⟩
theorem lw_p41 : lw_okq (⟨"SmallFirstModel", "roundOf", "(II)I"⟩, 23) := ⟨⟨by decide +kernel, by decide +kernel⟩, List.mem_of_getElem? (i := 770) (by decide +kernel), List.mem_of_getElem? (i := 1086) (by decide +kernel), List.mem_of_getElem? (i := 1087) (by decide +kernel)⟩
theorem lw_p42 : lw_okq (⟨"SmallFirstModel", "standsOf", "(II)I"⟩, 23) := ⟨⟨by decide +kernel, by decide +kernel⟩, List.mem_of_getElem? (i := 770) (by decide +kernel), List.mem_of_getElem? (i := 1107) (by decide +kernel), List.mem_of_getElem? (i := 1108) (by decide +kernel)⟩
theorem lw_p43 : lw_okq (⟨"SmallFirstModel", "standsFor", "(II)Z"⟩, 23) := ⟨⟨by decide +kernel, by decide +kernel⟩, List.mem_of_getElem? (i := 770) (by decide +kernel), List.mem_of_getElem? (i := 1111) (by decide +kernel), List.mem_of_getElem? (i := 1112) (by decide +kernel)⟩
theorem lw_p44 : lw_okq (⟨"SmallFirstModel", "watchOf", "(I)I"⟩, 23) := ⟨⟨by decide +kernel, by decide +kernel⟩, List.mem_of_getElem? (i := 770) (by decide +kernel), List.mem_of_getElem? (i := 1119) (by decide +kernel), List.mem_of_getElem? (i := 1120) (by decide +kernel)⟩
theorem lw_p45 : lw_okq (⟨"SmallFirstModel", "movedOf", "(I)I"⟩, 23) := ⟨⟨by decide +kernel, by decide +kernel⟩, List.mem_of_getElem? (i := 770) (by decide +kernel), List.mem_of_getElem? (i := 1127) (by decide +kernel), List.mem_of_getElem? (i := 1128) (by decide +kernel)⟩
theorem lw_p46 : lw_okq (⟨"SmallFirstModel", "catBy", "(II)I"⟩, 23) := ⟨⟨by decide +kernel, by decide +kernel⟩, List.mem_of_getElem? (i := 770) (by decide +kernel), List.mem_of_getElem? (i := 1136) (by decide +kernel), List.mem_of_getElem? (i := 1137) (by decide +kernel)⟩
theorem lw_p47 : lw_okq (⟨"SmallFirstModel", "letOf", "(II)I"⟩, 23) := ⟨⟨by decide +kernel, by decide +kernel⟩, List.mem_of_getElem? (i := 770) (by decide +kernel), List.mem_of_getElem? (i := 1152) (by decide +kernel), List.mem_of_getElem? (i := 1153) (by decide +kernel)⟩
def lw_privs_3 : List (MethodName × Nat) := [(⟨"SmallFirstModel", "touchOf", "(III)I"⟩, 23), (⟨"SmallFirstModel", "comeIn", "(II)I"⟩, 23), (⟨"SmallFirstModel", "next", "(I)I"⟩, 23), (⟨"SmallFirstModel", "keepOffOf", "(II)I"⟩, 23), (⟨"SmallFirstModel", "isOff", "(III)Z"⟩, 23), (⟨"SmallFirstModel", "barsOf", "(I)I"⟩, 23), (⟨"SmallFirstModel", "playOf", "(III)I"⟩, 23), (⟨"SmallFirstModel", "findWins", "(II)V"⟩, 23), (⟨"SmallFirstModel", "steadyOf", "(I)I"⟩, 23), (⟨"SmallFirstModel", "roundOf", "(II)I"⟩, 23), (⟨"SmallFirstModel", "standsOf", "(II)I"⟩, 23), (⟨"SmallFirstModel", "standsFor", "(II)Z"⟩, 23), (⟨"SmallFirstModel", "watchOf", "(I)I"⟩, 23), (⟨"SmallFirstModel", "movedOf", "(I)I"⟩, 23), (⟨"SmallFirstModel", "catBy", "(II)I"⟩, 23), (⟨"SmallFirstModel", "letOf", "(II)I"⟩, 23)]
theorem lw_r3 : ∀ q ∈ lw_privs_3, lw_okq q := List.forall_mem_cons.mpr ⟨lw_p32, List.forall_mem_cons.mpr ⟨lw_p33, List.forall_mem_cons.mpr ⟨lw_p34, List.forall_mem_cons.mpr ⟨lw_p35, List.forall_mem_cons.mpr ⟨lw_p36, List.forall_mem_cons.mpr ⟨lw_p37, List.forall_mem_cons.mpr ⟨lw_p38, List.forall_mem_cons.mpr ⟨lw_p39, List.forall_mem_cons.mpr ⟨lw_p40, List.forall_mem_cons.mpr ⟨lw_p41, List.forall_mem_cons.mpr ⟨lw_p42, List.forall_mem_cons.mpr ⟨lw_p43, List.forall_mem_cons.mpr ⟨lw_p44, List.forall_mem_cons.mpr ⟨lw_p45, List.forall_mem_cons.mpr ⟨lw_p46, List.forall_mem_cons.mpr ⟨lw_p47, fun _ h => absurd h List.not_mem_nil⟩⟩⟩⟩⟩⟩⟩⟩⟩⟩⟩⟩⟩⟩⟩⟩
theorem lw_p48 : lw_okq (⟨"SmallFirstModel", "lotOf", "(III)I"⟩, 23) := ⟨⟨by decide +kernel, by decide +kernel⟩, List.mem_of_getElem? (i := 770) (by decide +kernel), List.mem_of_getElem? (i := 1161) (by decide +kernel), List.mem_of_getElem? (i := 1162) (by decide +kernel)⟩
theorem lw_p49 : lw_okq (⟨"SmallFirstModel", "tellsBig", "(JI)J"⟩, 23) := ⟨⟨by decide +kernel, by decide +kernel⟩, List.mem_of_getElem? (i := 770) (by decide +kernel), List.mem_of_getElem? (i := 1182) (by decide +kernel), List.mem_of_getElem? (i := 1183) (by decide +kernel)⟩
def lw_privs_4 : List (MethodName × Nat) := [(⟨"SmallFirstModel", "lotOf", "(III)I"⟩, 23), (⟨"SmallFirstModel", "tellsBig", "(JI)J"⟩, 23)]
theorem lw_r4 : ∀ q ∈ lw_privs_4, lw_okq q := List.forall_mem_cons.mpr ⟨lw_p48, List.forall_mem_cons.mpr ⟨lw_p49, fun _ h => absurd h List.not_mem_nil⟩⟩
def lw_privs : List (MethodName × Nat) := lw_privs_1 ++ (lw_privs_2 ++ (lw_privs_3 ++ (lw_privs_4)))
def lw_tbl : List Cond := k2_sels lw_privs ++ tables_1
theorem lw_privs_ok : ∀ q ∈ lw_privs, lw_okq q := by
  show ∀ q ∈ lw_privs_1 ++ (lw_privs_2 ++ (lw_privs_3 ++ (lw_privs_4))), lw_okq q
  exact List.forall_mem_append.mpr ⟨lw_r1, List.forall_mem_append.mpr ⟨lw_r2, List.forall_mem_append.mpr ⟨lw_r3, lw_r4⟩⟩⟩
def RX0 : String := "SmallFirst$Chance"
def TX0 : u_T := fun k => match k with
  | _ => ("", "", "", false)
def tyX0 : Nat → FieldType := fun k => match k with
  | _ => .int
abbrev wsX00 : List Cond := u_ws RX0 TX0 0
theorem nmX0 : ∀ a, a < 0 → ∀ b, b < 0 → a ≠ b → (TX0 a).2.1 ≠ (TX0 b).2.1 := by decide +kernel
theorem tyX0_ok : ∀ k, k < 0 → parseFieldDescriptor (TX0 k).2.2.1 = some (tyX0 k) := by decide +kernel
abbrev cX0_withCat : ByteArray := prog_2_method_2_code
def yX0_withCat : MethodName := ⟨RX0, "withCat", "(LSmallFirst$House;III)I"⟩
abbrev cX0_lowest : ByteArray := prog_2_method_3_code
def yX0_lowest : MethodName := ⟨RX0, "lowest", "(III)I"⟩
def RX1 : String := "SmallFirst$Dust"
def TX1 : u_T := fun k => match k with
  | 0 => ("SmallFirst$Reading", "count", "I", false)
  | 1 => ("SmallFirst$Reading", "fault", "I", false)
  | 2 => ("SmallFirst$Dust", "big", "[I", true)
  | 3 => ("SmallFirst$Dust", "small", "[I", true)
  | _ => ("SmallFirst$Dust", "openBig", "I", false)
def tyX1 : Nat → FieldType := fun k => match k with
  | 0 => .int
  | 1 => .int
  | 2 => .array .int
  | 3 => .array .int
  | _ => .int
abbrev wsX10 : List Cond := u_ws RX1 TX1 5
theorem nmX1 : ∀ a, a < 5 → ∀ b, b < 5 → a ≠ b → (TX1 a).2.1 ≠ (TX1 b).2.1 := by decide +kernel
theorem tyX1_ok : ∀ k, k < 5 → parseFieldDescriptor (TX1 k).2.2.1 = some (tyX1 k) := by decide +kernel
abbrev cX1_init : ByteArray := prog_3_method_1_code
def yX1_init : MethodName := ⟨RX1, "<init>", "()V"⟩
abbrev cX1_bigOf : ByteArray := prog_3_method_2_code
def yX1_bigOf : MethodName := ⟨RX1, "bigOf", "(I)I"⟩
abbrev cX1_smallOf : ByteArray := prog_3_method_3_code
def yX1_smallOf : MethodName := ⟨RX1, "smallOf", "(I)I"⟩
abbrev cX1_laidBy : ByteArray := prog_3_method_4_code
def yX1_laidBy : MethodName := ⟨RX1, "laidBy", "(I)I"⟩
abbrev cX1_stateBehind : ByteArray := prog_3_method_5_code
def yX1_stateBehind : MethodName := ⟨RX1, "stateBehind", "(II)I"⟩
abbrev cX1_beginDust : ByteArray := prog_3_method_6_code
def yX1_beginDust : MethodName := ⟨RX1, "beginDust", "(I)I"⟩
abbrev cX1_endDust : ByteArray := prog_3_method_7_code
def yX1_endDust : MethodName := ⟨RX1, "endDust", "(I)I"⟩
def RX2 : String := "SmallFirst$House"
def TX2 : u_T := fun k => match k with
  | 0 => ("SmallFirst$House", "made", "[I", true)
  | 1 => ("SmallFirst$House", "barred", "[I", true)
  | _ => ("SmallFirst$House", "behind", "[I", true)
def tyX2 : Nat → FieldType := fun k => match k with
  | 0 => .array .int
  | 1 => .array .int
  | _ => .array .int
abbrev wsX20 : List Cond := u_ws RX2 TX2 3
theorem nmX2 : ∀ a, a < 3 → ∀ b, b < 3 → a ≠ b → (TX2 a).2.1 ≠ (TX2 b).2.1 := by decide +kernel
theorem tyX2_ok : ∀ k, k < 3 → parseFieldDescriptor (TX2 k).2.2.1 = some (tyX2 k) := by decide +kernel
abbrev cX2_init : ByteArray := prog_4_method_1_code
def yX2_init : MethodName := ⟨RX2, "<init>", "()V"⟩
abbrev cX2_fill : ByteArray := prog_4_method_2_code
def yX2_fill : MethodName := ⟨RX2, "fill", "(LSmallFirst$Laws;LSmallFirst$Dust;)V"⟩
abbrev cX2_comesBy : ByteArray := prog_4_method_3_code
def yX2_comesBy : MethodName := ⟨RX2, "comesBy", "(I)I"⟩
abbrev cX2_disagreeBy : ByteArray := prog_4_method_4_code
def yX2_disagreeBy : MethodName := ⟨RX2, "disagreeBy", "(I)I"⟩
abbrev cX2_weekBehind : ByteArray := prog_4_method_5_code
def yX2_weekBehind : MethodName := ⟨RX2, "weekBehind", "(I)I"⟩
def RX3 : String := "SmallFirst$Laws"
def TX3 : u_T := fun k => match k with
  | 0 => ("SmallFirst$Reading", "count", "I", false)
  | 1 => ("SmallFirst$Reading", "fault", "I", false)
  | 2 => ("SmallFirst$Laws", "small", "[I", true)
  | 3 => ("SmallFirst$Laws", "plus", "[Z", true)
  | 4 => ("SmallFirst$Laws", "big", "[I", true)
  | 5 => ("SmallFirst$Laws", "openSmall", "I", false)
  | _ => ("SmallFirst$Laws", "openPlus", "Z", false)
def tyX3 : Nat → FieldType := fun k => match k with
  | 0 => .int
  | 1 => .int
  | 2 => .array .int
  | 3 => .array .boolean
  | 4 => .array .int
  | 5 => .int
  | _ => .boolean
abbrev wsX30 : List Cond := u_ws RX3 TX3 7
theorem nmX3 : ∀ a, a < 7 → ∀ b, b < 7 → a ≠ b → (TX3 a).2.1 ≠ (TX3 b).2.1 := by decide +kernel
theorem tyX3_ok : ∀ k, k < 7 → parseFieldDescriptor (TX3 k).2.2.1 = some (tyX3 k) := by decide +kernel
abbrev cX3_init : ByteArray := prog_5_method_1_code
def yX3_init : MethodName := ⟨RX3, "<init>", "()V"⟩
abbrev cX3_smallOf : ByteArray := prog_5_method_2_code
def yX3_smallOf : MethodName := ⟨RX3, "smallOf", "(I)I"⟩
abbrev cX3_isPlus : ByteArray := prog_5_method_3_code
def yX3_isPlus : MethodName := ⟨RX3, "isPlus", "(I)Z"⟩
abbrev cX3_bigOf : ByteArray := prog_5_method_4_code
def yX3_bigOf : MethodName := ⟨RX3, "bigOf", "(I)I"⟩
abbrev cX3_plusCount : ByteArray := prog_5_method_5_code
def yX3_plusCount : MethodName := ⟨RX3, "plusCount", "()I"⟩
abbrev cX3_standsFor : ByteArray := prog_5_method_6_code
def yX3_standsFor : MethodName := ⟨RX3, "standsFor", "(I)I"⟩
abbrev cX3_heldBy : ByteArray := prog_5_method_7_code
def yX3_heldBy : MethodName := ⟨RX3, "heldBy", "(IZ)I"⟩
abbrev cX3_stateBehind : ByteArray := prog_5_method_8_code
def yX3_stateBehind : MethodName := ⟨RX3, "stateBehind", "(II)I"⟩
abbrev cX3_beginLaw : ByteArray := prog_5_method_9_code
def yX3_beginLaw : MethodName := ⟨RX3, "beginLaw", "(I)I"⟩
abbrev cX3_pairWith : ByteArray := prog_5_method_10_code
def yX3_pairWith : MethodName := ⟨RX3, "pairWith", "(I)I"⟩
abbrev cX3_takeSign : ByteArray := prog_5_method_11_code
def yX3_takeSign : MethodName := ⟨RX3, "takeSign", "(I)I"⟩
abbrev cX3_endLaw : ByteArray := prog_5_method_12_code
def yX3_endLaw : MethodName := ⟨RX3, "endLaw", "(I)I"⟩
def RX4 : String := "SmallFirst$Plans"
def TX4 : u_T := fun k => match k with
  | _ => ("", "", "", false)
def tyX4 : Nat → FieldType := fun k => match k with
  | _ => .int
abbrev wsX40 : List Cond := u_ws RX4 TX4 0
theorem nmX4 : ∀ a, a < 0 → ∀ b, b < 0 → a ≠ b → (TX4 a).2.1 ≠ (TX4 b).2.1 := by decide +kernel
theorem tyX4_ok : ∀ k, k < 0 → parseFieldDescriptor (TX4 k).2.2.1 = some (tyX4 k) := by decide +kernel
abbrev cX4_fewestTouched : ByteArray := prog_6_method_2_code
def yX4_fewestTouched : MethodName := ⟨RX4, "fewestTouched", "(LSmallFirst$House;IIII)I"⟩
abbrev cX4_fewestSwept : ByteArray := prog_6_method_3_code
def yX4_fewestSwept : MethodName := ⟨RX4, "fewestSwept", "(LSmallFirst$House;III)I"⟩
abbrev cX4_weeksToRepeat : ByteArray := prog_6_method_4_code
def yX4_weeksToRepeat : MethodName := ⟨RX4, "weeksToRepeat", "(LSmallFirst$House;I)I"⟩
abbrev cX4_roundLength : ByteArray := prog_6_method_5_code
def yX4_roundLength : MethodName := ⟨RX4, "roundLength", "(LSmallFirst$House;I)I"⟩
abbrev cX4_endsInComing : ByteArray := prog_6_method_6_code
def yX4_endsInComing : MethodName := ⟨RX4, "endsInComing", "(LSmallFirst$House;III)Z"⟩
abbrev cX4_itComes : ByteArray := prog_6_method_7_code
def yX4_itComes : MethodName := ⟨RX4, "itComes", "(LSmallFirst$House;IIIZ)Z"⟩
abbrev cX4_firstTouch : ByteArray := prog_6_method_8_code
def yX4_firstTouch : MethodName := ⟨RX4, "firstTouch", "(LSmallFirst$House;III)I"⟩
abbrev cX4_isFewer : ByteArray := prog_6_method_9_code
def yX4_isFewer : MethodName := ⟨RX4, "isFewer", "(II)Z"⟩
abbrev cX4_bigsIn : ByteArray := prog_6_method_10_code
def yX4_bigsIn : MethodName := ⟨RX4, "bigsIn", "(LSmallFirst$House;II)I"⟩
abbrev cX4_staysOff : ByteArray := prog_6_method_11_code
def yX4_staysOff : MethodName := ⟨RX4, "staysOff", "(LSmallFirst$House;III)Z"⟩
abbrev cX4_weekOf : ByteArray := prog_6_method_12_code
def yX4_weekOf : MethodName := ⟨RX4, "weekOf", "(LSmallFirst$House;III)I"⟩
def RX5 : String := "SmallFirst$Reading"
def TX5 : u_T := fun k => match k with
  | _ => ("", "", "", false)
def tyX5 : Nat → FieldType := fun k => match k with
  | _ => .int
abbrev wsX50 : List Cond := u_ws RX5 TX5 0
theorem nmX5 : ∀ a, a < 0 → ∀ b, b < 0 → a ≠ b → (TX5 a).2.1 ≠ (TX5 b).2.1 := by decide +kernel
theorem tyX5_ok : ∀ k, k < 0 → parseFieldDescriptor (TX5 k).2.2.1 = some (tyX5 k) := by decide +kernel
abbrev cX5_init : ByteArray := prog_7_method_1_code
def yX5_init : MethodName := ⟨RX5, "<init>", "()V"⟩
abbrev cX5_size : ByteArray := prog_7_method_3_code
def yX5_size : MethodName := ⟨RX5, "size", "()I"⟩
abbrev cX5_faultPlace : ByteArray := prog_7_method_4_code
def yX5_faultPlace : MethodName := ⟨RX5, "faultPlace", "()I"⟩
abbrev cX5_addOne : ByteArray := prog_7_method_5_code
def yX5_addOne : MethodName := ⟨RX5, "addOne", "()V"⟩
abbrev cX5_readFrom : ByteArray := prog_7_method_6_code
def yX5_readFrom : MethodName := ⟨RX5, "readFrom", "(LSmallFirst$Text;)V"⟩
def RX6 : String := "SmallFirst$Seen"
def TX6 : u_T := fun k => match k with
  | 0 => ("SmallFirst$Seen", "small", "[I", true)
  | 1 => ("SmallFirst$Seen", "big", "[I", true)
  | _ => ("SmallFirst$Seen", "count", "I", false)
def tyX6 : Nat → FieldType := fun k => match k with
  | 0 => .array .int
  | 1 => .array .int
  | _ => .int
abbrev wsX60 : List Cond := u_ws RX6 TX6 3
theorem nmX6 : ∀ a, a < 3 → ∀ b, b < 3 → a ≠ b → (TX6 a).2.1 ≠ (TX6 b).2.1 := by decide +kernel
theorem tyX6_ok : ∀ k, k < 3 → parseFieldDescriptor (TX6 k).2.2.1 = some (tyX6 k) := by decide +kernel
abbrev cX6_init : ByteArray := prog_8_method_1_code
def yX6_init : MethodName := ⟨RX6, "<init>", "()V"⟩
abbrev cX6_size : ByteArray := prog_8_method_2_code
def yX6_size : MethodName := ⟨RX6, "size", "()I"⟩
abbrev cX6_clear : ByteArray := prog_8_method_3_code
def yX6_clear : MethodName := ⟨RX6, "clear", "()V"⟩
abbrev cX6_addSight : ByteArray := prog_8_method_4_code
def yX6_addSight : MethodName := ⟨RX6, "addSight", "(II)Z"⟩
abbrev cX6_howManyStand : ByteArray := prog_8_method_5_code
def yX6_howManyStand : MethodName := ⟨RX6, "howManyStand", "(I)I"⟩
abbrev cX6_fewestStand : ByteArray := prog_8_method_6_code
def yX6_fewestStand : MethodName := ⟨RX6, "fewestStand", "(I)I"⟩
abbrev cX6_nearestHalf : ByteArray := prog_8_method_7_code
def yX6_nearestHalf : MethodName := ⟨RX6, "nearestHalf", "(I)I"⟩
abbrev cX6_howManyStandWith : ByteArray := prog_8_method_8_code
def yX6_howManyStandWith : MethodName := ⟨RX6, "howManyStandWith", "(II)I"⟩
abbrev cX6_mayStand : ByteArray := prog_8_method_9_code
def yX6_mayStand : MethodName := ⟨RX6, "mayStand", "(II)Z"⟩
def RX7 : String := "SmallFirst$Sheet"
def TX7 : u_T := fun k => match k with
  | 0 => ("SmallFirst$Sheet", "items", "[I", true)
  | 1 => ("SmallFirst$Sheet", "form", "I", false)
  | 2 => ("SmallFirst$Sheet", "length", "I", false)
  | _ => ("SmallFirst$Sheet", "lost", "Z", false)
def tyX7 : Nat → FieldType := fun k => match k with
  | 0 => .array .int
  | 1 => .int
  | 2 => .int
  | _ => .boolean
abbrev wsX70 : List Cond := u_ws RX7 TX7 4
theorem nmX7 : ∀ a, a < 4 → ∀ b, b < 4 → a ≠ b → (TX7 a).2.1 ≠ (TX7 b).2.1 := by decide +kernel
theorem tyX7_ok : ∀ k, k < 4 → parseFieldDescriptor (TX7 k).2.2.1 = some (tyX7 k) := by decide +kernel
abbrev cX7_init : ByteArray := prog_9_method_1_code
def yX7_init : MethodName := ⟨RX7, "<init>", "()V"⟩
abbrev cX7_isLost : ByteArray := prog_9_method_2_code
def yX7_isLost : MethodName := ⟨RX7, "isLost", "()Z"⟩
abbrev cX7_formOf : ByteArray := prog_9_method_3_code
def yX7_formOf : MethodName := ⟨RX7, "formOf", "()I"⟩
abbrev cX7_size : ByteArray := prog_9_method_4_code
def yX7_size : MethodName := ⟨RX7, "size", "()I"⟩
abbrev cX7_begin : ByteArray := prog_9_method_5_code
def yX7_begin : MethodName := ⟨RX7, "begin", "(II)V"⟩
abbrev cX7_end : ByteArray := prog_9_method_6_code
def yX7_end : MethodName := ⟨RX7, "end", "()V"⟩
abbrev cX7_hasItems : ByteArray := prog_9_method_7_code
def yX7_hasItems : MethodName := ⟨RX7, "hasItems", "(II)Z"⟩
abbrev cX7_item : ByteArray := prog_9_method_8_code
def yX7_item : MethodName := ⟨RX7, "item", "(I)I"⟩
abbrev cX7_setItem : ByteArray := prog_9_method_9_code
def yX7_setItem : MethodName := ⟨RX7, "setItem", "(II)V"⟩
abbrev cX7_takeFrom : ByteArray := prog_9_method_10_code
def yX7_takeFrom : MethodName := ⟨RX7, "takeFrom", "(LSmallFirst$Sheet;III)V"⟩
abbrev cX7_asForm : ByteArray := prog_9_method_11_code
def yX7_asForm : MethodName := ⟨RX7, "asForm", "(I)I"⟩
def RX8 : String := "SmallFirst$Text"
def TX8 : u_T := fun k => match k with
  | 0 => ("SmallFirst$Text", "bytes", "[I", true)
  | _ => ("SmallFirst$Text", "length", "I", false)
def tyX8 : Nat → FieldType := fun k => match k with
  | 0 => .array .int
  | _ => .int
abbrev wsX80 : List Cond := u_ws RX8 TX8 2
theorem nmX8 : ∀ a, a < 2 → ∀ b, b < 2 → a ≠ b → (TX8 a).2.1 ≠ (TX8 b).2.1 := by decide +kernel
theorem tyX8_ok : ∀ k, k < 2 → parseFieldDescriptor (TX8 k).2.2.1 = some (tyX8 k) := by decide +kernel
abbrev cX8_init : ByteArray := prog_10_method_1_code
def yX8_init : MethodName := ⟨RX8, "<init>", "(I)V"⟩
abbrev cX8_size : ByteArray := prog_10_method_2_code
def yX8_size : MethodName := ⟨RX8, "size", "()I"⟩
abbrev cX8_byteAt : ByteArray := prog_10_method_3_code
def yX8_byteAt : MethodName := ⟨RX8, "byteAt", "(I)I"⟩
abbrev cX8_append : ByteArray := prog_10_method_4_code
def yX8_append : MethodName := ⟨RX8, "append", "(I)Z"⟩
abbrev cX8_dropLast : ByteArray := prog_10_method_5_code
def yX8_dropLast : MethodName := ⟨RX8, "dropLast", "()Z"⟩
abbrev cX8_clear : ByteArray := prog_10_method_6_code
def yX8_clear : MethodName := ⟨RX8, "clear", "()V"⟩
def RX9 : String := "SmallFirst$Weeks"
def TX9 : u_T := fun k => match k with
  | 0 => ("SmallFirst$Weeks", "layWeek", "[I", true)
  | 1 => ("SmallFirst$Weeks", "layBit", "[I", true)
  | 2 => ("SmallFirst$Weeks", "layIs", "[Z", true)
  | 3 => ("SmallFirst$Weeks", "lies", "[I", true)
  | 4 => ("SmallFirst$Weeks", "came", "[I", true)
  | 5 => ("SmallFirst$Weeks", "first", "I", false)
  | _ => ("SmallFirst$Weeks", "count", "I", false)
def tyX9 : Nat → FieldType := fun k => match k with
  | 0 => .array .int
  | 1 => .array .int
  | 2 => .array .boolean
  | 3 => .array .int
  | 4 => .array .int
  | 5 => .int
  | _ => .int
abbrev wsX90 : List Cond := u_ws RX9 TX9 7
theorem nmX9 : ∀ a, a < 7 → ∀ b, b < 7 → a ≠ b → (TX9 a).2.1 ≠ (TX9 b).2.1 := by decide +kernel
theorem tyX9_ok : ∀ k, k < 7 → parseFieldDescriptor (TX9 k).2.2.1 = some (tyX9 k) := by decide +kernel
abbrev cX9_init : ByteArray := prog_11_method_1_code
def yX9_init : MethodName := ⟨RX9, "<init>", "()V"⟩
abbrev cX9_firstSet : ByteArray := prog_11_method_2_code
def yX9_firstSet : MethodName := ⟨RX9, "firstSet", "()I"⟩
abbrev cX9_setFirst : ByteArray := prog_11_method_3_code
def yX9_setFirst : MethodName := ⟨RX9, "setFirst", "(I)V"⟩
abbrev cX9_layings : ByteArray := prog_11_method_4_code
def yX9_layings : MethodName := ⟨RX9, "layings", "()I"⟩
abbrev cX9_addLaying : ByteArray := prog_11_method_5_code
def yX9_addLaying : MethodName := ⟨RX9, "addLaying", "(III)Z"⟩
abbrev cX9_dropLaying : ByteArray := prog_11_method_6_code
def yX9_dropLaying : MethodName := ⟨RX9, "dropLaying", "()Z"⟩
abbrev cX9_runTo : ByteArray := prog_11_method_7_code
def yX9_runTo : MethodName := ⟨RX9, "runTo", "(LSmallFirst$House;I)V"⟩
abbrev cX9_smallIn : ByteArray := prog_11_method_8_code
def yX9_smallIn : MethodName := ⟨RX9, "smallIn", "(I)I"⟩
abbrev cX9_bigIn : ByteArray := prog_11_method_9_code
def yX9_bigIn : MethodName := ⟨RX9, "bigIn", "(I)I"⟩
abbrev cX9_withLayings : ByteArray := prog_11_method_10_code
def yX9_withLayings : MethodName := ⟨RX9, "withLayings", "(II)I"⟩
def RX10 : String := "SmallFirst"
def TX10 : u_T := fun k => match k with
  | 0 => ("SmallFirst", "lawText", "LSmallFirst$Text;", true)
  | 1 => ("SmallFirst", "dustText", "LSmallFirst$Text;", true)
  | 2 => ("SmallFirst", "laws", "LSmallFirst$Laws;", true)
  | 3 => ("SmallFirst", "dusts", "LSmallFirst$Dust;", true)
  | 4 => ("SmallFirst", "tables", "LSmallFirst$House;", true)
  | 5 => ("SmallFirst", "weeks", "LSmallFirst$Weeks;", true)
  | 6 => ("SmallFirst", "sights", "LSmallFirst$Seen;", true)
  | 7 => ("SmallFirst", "sheets", "[LSmallFirst$Sheet;", true)
  | 8 => ("SmallFirst", "tablesStale", "Z", false)
  | _ => ("SmallFirst", "latestFinding", "I", false)
def tyX10 : Nat → FieldType := fun k => match k with
  | 0 => .object "SmallFirst$Text"
  | 1 => .object "SmallFirst$Text"
  | 2 => .object "SmallFirst$Laws"
  | 3 => .object "SmallFirst$Dust"
  | 4 => .object "SmallFirst$House"
  | 5 => .object "SmallFirst$Weeks"
  | 6 => .object "SmallFirst$Seen"
  | 7 => .array (.object "SmallFirst$Sheet")
  | 8 => .boolean
  | _ => .int
abbrev wsX100 : List Cond := u_ws RX10 TX10 10
theorem nmX10 : ∀ a, a < 10 → ∀ b, b < 10 → a ≠ b → (TX10 a).2.1 ≠ (TX10 b).2.1 := by decide +kernel
theorem tyX10_ok : ∀ k, k < 10 → parseFieldDescriptor (TX10 k).2.2.1 = some (tyX10 k) := by decide +kernel
abbrev cX10_init : ByteArray := prog_1_method_1_code
def yX10_init : MethodName := ⟨RX10, "<init>", "()V"⟩
abbrev cX10_type : ByteArray := prog_1_method_2_code
def yX10_type : MethodName := ⟨RX10, "type", "(II)I"⟩
abbrev cX10_wipe : ByteArray := prog_1_method_3_code
def yX10_wipe : MethodName := ⟨RX10, "wipe", "(I)I"⟩
abbrev cX10_undo : ByteArray := prog_1_method_4_code
def yX10_undo : MethodName := ⟨RX10, "undo", "(I)I"⟩
abbrev cX10_fault : ByteArray := prog_1_method_5_code
def yX10_fault : MethodName := ⟨RX10, "fault", "(I)I"⟩
abbrev cX10_rule : ByteArray := prog_1_method_6_code
def yX10_rule : MethodName := ⟨RX10, "rule", "(II)I"⟩
abbrev cX10_dust : ByteArray := prog_1_method_7_code
def yX10_dust : MethodName := ⟨RX10, "dust", "(II)I"⟩
abbrev cX10_first : ByteArray := prog_1_method_8_code
def yX10_first : MethodName := ⟨RX10, "first", "(I)I"⟩
abbrev cX10_comes : ByteArray := prog_1_method_9_code
def yX10_comes : MethodName := ⟨RX10, "comes", "(I)I"⟩
abbrev cX10_lays : ByteArray := prog_1_method_10_code
def yX10_lays : MethodName := ⟨RX10, "lays", "(I)I"⟩
abbrev cX10_lay : ByteArray := prog_1_method_11_code
def yX10_lay : MethodName := ⟨RX10, "lay", "(III)I"⟩
abbrev cX10_back : ByteArray := prog_1_method_12_code
def yX10_back : MethodName := ⟨RX10, "back", "()I"⟩
abbrev cX10_week : ByteArray := prog_1_method_13_code
def yX10_week : MethodName := ⟨RX10, "week", "(II)I"⟩
abbrev cX10_judged : ByteArray := prog_1_method_14_code
def yX10_judged : MethodName := ⟨RX10, "judged", "()I"⟩
abbrev cX10_two : ByteArray := prog_1_method_15_code
def yX10_two : MethodName := ⟨RX10, "two", "()I"⟩
abbrev cX10_second : ByteArray := prog_1_method_16_code
def yX10_second : MethodName := ⟨RX10, "second", "(I)I"⟩
abbrev cX10_touch : ByteArray := prog_1_method_17_code
def yX10_touch : MethodName := ⟨RX10, "touch", "(IIII)I"⟩
abbrev cX10_keepOff : ByteArray := prog_1_method_18_code
def yX10_keepOff : MethodName := ⟨RX10, "keepOff", "(III)I"⟩
abbrev cX10_bars : ByteArray := prog_1_method_19_code
def yX10_bars : MethodName := ⟨RX10, "bars", "(I)I"⟩
abbrev cX10_play : ByteArray := prog_1_method_20_code
def yX10_play : MethodName := ⟨RX10, "play", "(III)I"⟩
abbrev cX10_steady : ByteArray := prog_1_method_21_code
def yX10_steady : MethodName := ⟨RX10, "steady", "(I)I"⟩
abbrev cX10_round : ByteArray := prog_1_method_22_code
def yX10_round : MethodName := ⟨RX10, "round", "(II)I"⟩
abbrev cX10_seen : ByteArray := prog_1_method_23_code
def yX10_seen : MethodName := ⟨RX10, "seen", "(II)I"⟩
abbrev cX10_forget : ByteArray := prog_1_method_24_code
def yX10_forget : MethodName := ⟨RX10, "forget", "()I"⟩
abbrev cX10_read : ByteArray := prog_1_method_25_code
def yX10_read : MethodName := ⟨RX10, "read", "(I)I"⟩
abbrev cX10_stands : ByteArray := prog_1_method_26_code
def yX10_stands : MethodName := ⟨RX10, "stands", "(II)I"⟩
abbrev cX10_watch : ByteArray := prog_1_method_27_code
def yX10_watch : MethodName := ⟨RX10, "watch", "(I)I"⟩
abbrev cX10_moved : ByteArray := prog_1_method_28_code
def yX10_moved : MethodName := ⟨RX10, "moved", "(I)I"⟩
abbrev cX10_cat : ByteArray := prog_1_method_29_code
def yX10_cat : MethodName := ⟨RX10, "cat", "(III)J"⟩
abbrev cX10_let : ByteArray := prog_1_method_30_code
def yX10_let : MethodName := ⟨RX10, "let", "(II)I"⟩
abbrev cX10_lot : ByteArray := prog_1_method_31_code
def yX10_lot : MethodName := ⟨RX10, "lot", "(III)I"⟩
abbrev cX10_sheet : ByteArray := prog_1_method_32_code
def yX10_sheet : MethodName := ⟨RX10, "sheet", "(III)I"⟩
abbrev cX10_lose : ByteArray := prog_1_method_33_code
def yX10_lose : MethodName := ⟨RX10, "lose", "(I)I"⟩
abbrev cX10_put : ByteArray := prog_1_method_34_code
def yX10_put : MethodName := ⟨RX10, "put", "(IIII)I"⟩
abbrev cX10_get : ByteArray := prog_1_method_35_code
def yX10_get : MethodName := ⟨RX10, "get", "(III)I"⟩
abbrev cX10_copy : ByteArray := prog_1_method_36_code
def yX10_copy : MethodName := ⟨RX10, "copy", "(IIIII)I"⟩
abbrev cX10_write : ByteArray := prog_1_method_37_code
def yX10_write : MethodName := ⟨RX10, "write", "(II)I"⟩
abbrev cX10_count : ByteArray := prog_1_method_38_code
def yX10_count : MethodName := ⟨RX10, "count", "(I)I"⟩
abbrev cX10_digest : ByteArray := prog_1_method_39_code
def yX10_digest : MethodName := ⟨RX10, "digest", "()J"⟩
abbrev cX10_digestTexts : ByteArray := prog_1_method_40_code
def yX10_digestTexts : MethodName := ⟨RX10, "digestTexts", "(J)J"⟩
abbrev cX10_digestBig : ByteArray := prog_1_method_41_code
def yX10_digestBig : MethodName := ⟨RX10, "digestBig", "(JI)J"⟩
abbrev cX10_mix : ByteArray := prog_1_method_42_code
def yX10_mix : MethodName := ⟨RX10, "mix", "(JJ)J"⟩
abbrev cX10_textOf : ByteArray := prog_1_method_43_code
def yX10_textOf : MethodName := ⟨RX10, "textOf", "(I)LSmallFirst$Text;"⟩
abbrev cX10_readAgain : ByteArray := prog_1_method_44_code
def yX10_readAgain : MethodName := ⟨RX10, "readAgain", "(I)V"⟩
abbrev cX10_freshHouse : ByteArray := prog_1_method_45_code
def yX10_freshHouse : MethodName := ⟨RX10, "freshHouse", "()LSmallFirst$House;"⟩
abbrev cX10_finding : ByteArray := prog_1_method_46_code
def yX10_finding : MethodName := ⟨RX10, "finding", "(I)I"⟩
abbrev cX10_itemRefusal : ByteArray := prog_1_method_47_code
def yX10_itemRefusal : MethodName := ⟨RX10, "itemRefusal", "(III)I"⟩
abbrev cX10_numberOrBits : ByteArray := prog_1_method_48_code
def yX10_numberOrBits : MethodName := ⟨RX10, "numberOrBits", "(II)I"⟩
abbrev cX10_isBits : ByteArray := prog_1_method_49_code
def yX10_isBits : MethodName := ⟨RX10, "isBits", "(I)Z"⟩
abbrev cX10_isThing : ByteArray := prog_1_method_50_code
def yX10_isThing : MethodName := ⟨RX10, "isThing", "(I)Z"⟩
abbrev cX10_isEither : ByteArray := prog_1_method_51_code
def yX10_isEither : MethodName := ⟨RX10, "isEither", "(I)Z"⟩
abbrev cX10_isWeek : ByteArray := prog_1_method_52_code
def yX10_isWeek : MethodName := ⟨RX10, "isWeek", "(I)Z"⟩
abbrev cX10_isSpan : ByteArray := prog_1_method_53_code
def yX10_isSpan : MethodName := ⟨RX10, "isSpan", "(I)Z"⟩
abbrev cX10_isChance : ByteArray := prog_1_method_54_code
def yX10_isChance : MethodName := ⟨RX10, "isChance", "(I)Z"⟩
abbrev cX10_isSheet : ByteArray := prog_1_method_55_code
def yX10_isSheet : MethodName := ⟨RX10, "isSheet", "(I)Z"⟩
abbrev cX10_isForm : ByteArray := prog_1_method_56_code
def yX10_isForm : MethodName := ⟨RX10, "isForm", "(I)Z"⟩
abbrev cX10_isSmallLetter : ByteArray := prog_1_method_57_code
def yX10_isSmallLetter : MethodName := ⟨RX10, "isSmallLetter", "(I)Z"⟩
abbrev cX10_isBigLetter : ByteArray := prog_1_method_58_code
def yX10_isBigLetter : MethodName := ⟨RX10, "isBigLetter", "(I)Z"⟩
def RX11 : String := "SmallFirstModel"
def TX11 : u_T := fun k => match k with
  | 0 => ("SmallFirstModel", "forms", "[I", true)
  | 1 => ("SmallFirstModel", "sizes", "[I", true)
  | 2 => ("SmallFirstModel", "items", "[I", true)
  | 3 => ("SmallFirstModel", "shifted", "[I", true)
  | 4 => ("SmallFirstModel", "latest", "I", false)
  | 5 => ("SmallFirstModel", "bytes", "[I", true)
  | 6 => ("SmallFirstModel", "typed", "[I", true)
  | 7 => ("SmallFirstModel", "at", "I", false)
  | 8 => ("SmallFirstModel", "laws", "I", false)
  | 9 => ("SmallFirstModel", "law", "[I", true)
  | 10 => ("SmallFirstModel", "dusts", "I", false)
  | 11 => ("SmallFirstModel", "dust", "[I", true)
  | 12 => ("SmallFirstModel", "come", "[I", true)
  | 13 => ("SmallFirstModel", "laid", "[I", true)
  | 14 => ("SmallFirstModel", "firsts", "I", false)
  | 15 => ("SmallFirstModel", "layings", "I", false)
  | 16 => ("SmallFirstModel", "laying", "[I", true)
  | 17 => ("SmallFirstModel", "smalls", "[I", true)
  | 18 => ("SmallFirstModel", "bigs", "[I", true)
  | 19 => ("SmallFirstModel", "wins", "[Z", true)
  | 20 => ("SmallFirstModel", "when", "[I", true)
  | 21 => ("SmallFirstModel", "sights", "I", false)
  | _ => ("SmallFirstModel", "seen", "[I", true)
def tyX11 : Nat → FieldType := fun k => match k with
  | 0 => .array .int
  | 1 => .array .int
  | 2 => .array .int
  | 3 => .array .int
  | 4 => .int
  | 5 => .array .int
  | 6 => .array .int
  | 7 => .int
  | 8 => .int
  | 9 => .array .int
  | 10 => .int
  | 11 => .array .int
  | 12 => .array .int
  | 13 => .array .int
  | 14 => .int
  | 15 => .int
  | 16 => .array .int
  | 17 => .array .int
  | 18 => .array .int
  | 19 => .array .boolean
  | 20 => .array .int
  | 21 => .int
  | _ => .array .int
abbrev wsX110 : List Cond := u_ws RX11 TX11 23
theorem nmX11 : ∀ a, a < 23 → ∀ b, b < 23 → a ≠ b → (TX11 a).2.1 ≠ (TX11 b).2.1 := by decide +kernel
theorem tyX11_ok : ∀ k, k < 23 → parseFieldDescriptor (TX11 k).2.2.1 = some (tyX11 k) := by decide +kernel
abbrev cX11_init : ByteArray := prog_13_method_1_code
def yX11_init : MethodName := ⟨RX11, "<init>", "()V"⟩
abbrev cX11_in : ByteArray := prog_13_method_3_code
def yX11_in : MethodName := ⟨RX11, "in", "(JJJ)Z"⟩
abbrev cX11_no : ByteArray := prog_13_method_4_code
def yX11_no : MethodName := ⟨RX11, "no", "(I)J"⟩
abbrev cX11_isTwo : ByteArray := prog_13_method_5_code
def yX11_isTwo : MethodName := ⟨RX11, "isTwo", "(I)Z"⟩
abbrev cX11_isIn : ByteArray := prog_13_method_6_code
def yX11_isIn : MethodName := ⟨RX11, "isIn", "(II)Z"⟩
abbrev cX11_ones : ByteArray := prog_13_method_7_code
def yX11_ones : MethodName := ⟨RX11, "ones", "(I)I"⟩
abbrev cX11_part : ByteArray := prog_13_method_8_code
def yX11_part : MethodName := ⟨RX11, "part", "(JJI)J"⟩
abbrev cX11_met : ByteArray := prog_13_method_9_code
def yX11_met : MethodName := ⟨RX11, "met", "(I)I"⟩
abbrev cX11_isSheet : ByteArray := prog_13_method_10_code
def yX11_isSheet : MethodName := ⟨RX11, "isSheet", "(I)Z"⟩
abbrev cX11_sheet : ByteArray := prog_13_method_11_code
def yX11_sheet : MethodName := ⟨RX11, "sheet", "(III)I"⟩
abbrev cX11_lose : ByteArray := prog_13_method_12_code
def yX11_lose : MethodName := ⟨RX11, "lose", "(I)I"⟩
abbrev cX11_lacks : ByteArray := prog_13_method_13_code
def yX11_lacks : MethodName := ⟨RX11, "lacks", "(III)I"⟩
abbrev cX11_cut : ByteArray := prog_13_method_14_code
def yX11_cut : MethodName := ⟨RX11, "cut", "(II)I"⟩
abbrev cX11_put : ByteArray := prog_13_method_15_code
def yX11_put : MethodName := ⟨RX11, "put", "(IIII)I"⟩
abbrev cX11_get : ByteArray := prog_13_method_16_code
def yX11_get : MethodName := ⟨RX11, "get", "(III)I"⟩
abbrev cX11_copy : ByteArray := prog_13_method_17_code
def yX11_copy : MethodName := ⟨RX11, "copy", "(IIIII)I"⟩
abbrev cX11_type : ByteArray := prog_13_method_18_code
def yX11_type : MethodName := ⟨RX11, "type", "(II)I"⟩
abbrev cX11_wipe : ByteArray := prog_13_method_19_code
def yX11_wipe : MethodName := ⟨RX11, "wipe", "(I)I"⟩
abbrev cX11_undo : ByteArray := prog_13_method_20_code
def yX11_undo : MethodName := ⟨RX11, "undo", "(I)I"⟩
abbrev cX11_here : ByteArray := prog_13_method_21_code
def yX11_here : MethodName := ⟨RX11, "here", "(I)I"⟩
abbrev cX11_small : ByteArray := prog_13_method_22_code
def yX11_small : MethodName := ⟨RX11, "small", "(I)I"⟩
abbrev cX11_big : ByteArray := prog_13_method_23_code
def yX11_big : MethodName := ⟨RX11, "big", "(I)I"⟩
abbrev cX11_readsLaw : ByteArray := prog_13_method_24_code
def yX11_readsLaw : MethodName := ⟨RX11, "readsLaw", "()Z"⟩
abbrev cX11_readsLaws : ByteArray := prog_13_method_25_code
def yX11_readsLaws : MethodName := ⟨RX11, "readsLaws", "()I"⟩
abbrev cX11_readsOneDust : ByteArray := prog_13_method_26_code
def yX11_readsOneDust : MethodName := ⟨RX11, "readsOneDust", "()Z"⟩
abbrev cX11_readsDust : ByteArray := prog_13_method_27_code
def yX11_readsDust : MethodName := ⟨RX11, "readsDust", "()I"⟩
abbrev cX11_holds : ByteArray := prog_13_method_28_code
def yX11_holds : MethodName := ⟨RX11, "holds", "(II)Z"⟩
abbrev cX11_heldBy : ByteArray := prog_13_method_29_code
def yX11_heldBy : MethodName := ⟨RX11, "heldBy", "(II)I"⟩
abbrev cX11_reads : ByteArray := prog_13_method_30_code
def yX11_reads : MethodName := ⟨RX11, "reads", "()V"⟩
abbrev cX11_fault : ByteArray := prog_13_method_31_code
def yX11_fault : MethodName := ⟨RX11, "fault", "(I)I"⟩
abbrev cX11_rule : ByteArray := prog_13_method_32_code
def yX11_rule : MethodName := ⟨RX11, "rule", "(II)I"⟩
abbrev cX11_dust : ByteArray := prog_13_method_33_code
def yX11_dust : MethodName := ⟨RX11, "dust", "(II)I"⟩
abbrev cX11_isSet : ByteArray := prog_13_method_34_code
def yX11_isSet : MethodName := ⟨RX11, "isSet", "(I)Z"⟩
abbrev cX11_isThing : ByteArray := prog_13_method_35_code
def yX11_isThing : MethodName := ⟨RX11, "isThing", "(I)Z"⟩
abbrev cX11_first : ByteArray := prog_13_method_36_code
def yX11_first : MethodName := ⟨RX11, "first", "(I)I"⟩
abbrev cX11_comes : ByteArray := prog_13_method_37_code
def yX11_comes : MethodName := ⟨RX11, "comes", "(I)I"⟩
abbrev cX11_lays : ByteArray := prog_13_method_38_code
def yX11_lays : MethodName := ⟨RX11, "lays", "(I)I"⟩
abbrev cX11_next : ByteArray := prog_13_method_39_code
def yX11_next : MethodName := ⟨RX11, "next", "(I)I"⟩
abbrev cX11_lay : ByteArray := prog_13_method_40_code
def yX11_lay : MethodName := ⟨RX11, "lay", "(III)I"⟩
abbrev cX11_back : ByteArray := prog_13_method_41_code
def yX11_back : MethodName := ⟨RX11, "back", "()I"⟩
abbrev cX11_lives : ByteArray := prog_13_method_42_code
def yX11_lives : MethodName := ⟨RX11, "lives", "()V"⟩
abbrev cX11_week : ByteArray := prog_13_method_43_code
def yX11_week : MethodName := ⟨RX11, "week", "(II)I"⟩
abbrev cX11_judgedNow : ByteArray := prog_13_method_44_code
def yX11_judgedNow : MethodName := ⟨RX11, "judgedNow", "()I"⟩
abbrev cX11_judged : ByteArray := prog_13_method_45_code
def yX11_judged : MethodName := ⟨RX11, "judged", "()I"⟩
abbrev cX11_twoNow : ByteArray := prog_13_method_46_code
def yX11_twoNow : MethodName := ⟨RX11, "twoNow", "()I"⟩
abbrev cX11_two : ByteArray := prog_13_method_47_code
def yX11_two : MethodName := ⟨RX11, "two", "()I"⟩
abbrev cX11_second : ByteArray := prog_13_method_48_code
def yX11_second : MethodName := ⟨RX11, "second", "(I)I"⟩
abbrev cX11_comeIn : ByteArray := prog_13_method_49_code
def yX11_comeIn : MethodName := ⟨RX11, "comeIn", "(II)I"⟩
abbrev cX11_told : ByteArray := prog_13_method_50_code
def yX11_told : MethodName := ⟨RX11, "told", "(II)I"⟩
abbrev cX11_touchOf : ByteArray := prog_13_method_51_code
def yX11_touchOf : MethodName := ⟨RX11, "touchOf", "(III)I"⟩
abbrev cX11_touch : ByteArray := prog_13_method_52_code
def yX11_touch : MethodName := ⟨RX11, "touch", "(IIII)I"⟩
abbrev cX11_isOff : ByteArray := prog_13_method_53_code
def yX11_isOff : MethodName := ⟨RX11, "isOff", "(III)Z"⟩
abbrev cX11_keepOffOf : ByteArray := prog_13_method_54_code
def yX11_keepOffOf : MethodName := ⟨RX11, "keepOffOf", "(II)I"⟩
abbrev cX11_keepOff : ByteArray := prog_13_method_55_code
def yX11_keepOff : MethodName := ⟨RX11, "keepOff", "(III)I"⟩
abbrev cX11_barsOf : ByteArray := prog_13_method_56_code
def yX11_barsOf : MethodName := ⟨RX11, "barsOf", "(I)I"⟩
abbrev cX11_bars : ByteArray := prog_13_method_57_code
def yX11_bars : MethodName := ⟨RX11, "bars", "(I)I"⟩
abbrev cX11_findWins : ByteArray := prog_13_method_58_code
def yX11_findWins : MethodName := ⟨RX11, "findWins", "(II)V"⟩
abbrev cX11_playOf : ByteArray := prog_13_method_59_code
def yX11_playOf : MethodName := ⟨RX11, "playOf", "(III)I"⟩
abbrev cX11_play : ByteArray := prog_13_method_60_code
def yX11_play : MethodName := ⟨RX11, "play", "(III)I"⟩
abbrev cX11_steadyOf : ByteArray := prog_13_method_61_code
def yX11_steadyOf : MethodName := ⟨RX11, "steadyOf", "(I)I"⟩
abbrev cX11_steady : ByteArray := prog_13_method_62_code
def yX11_steady : MethodName := ⟨RX11, "steady", "(I)I"⟩
abbrev cX11_roundOf : ByteArray := prog_13_method_63_code
def yX11_roundOf : MethodName := ⟨RX11, "roundOf", "(II)I"⟩
abbrev cX11_round : ByteArray := prog_13_method_64_code
def yX11_round : MethodName := ⟨RX11, "round", "(II)I"⟩
abbrev cX11_seen : ByteArray := prog_13_method_65_code
def yX11_seen : MethodName := ⟨RX11, "seen", "(II)I"⟩
abbrev cX11_forget : ByteArray := prog_13_method_66_code
def yX11_forget : MethodName := ⟨RX11, "forget", "()I"⟩
abbrev cX11_read : ByteArray := prog_13_method_67_code
def yX11_read : MethodName := ⟨RX11, "read", "(I)I"⟩
abbrev cX11_standsFor : ByteArray := prog_13_method_68_code
def yX11_standsFor : MethodName := ⟨RX11, "standsFor", "(II)Z"⟩
abbrev cX11_standsOf : ByteArray := prog_13_method_69_code
def yX11_standsOf : MethodName := ⟨RX11, "standsOf", "(II)I"⟩
abbrev cX11_stands : ByteArray := prog_13_method_70_code
def yX11_stands : MethodName := ⟨RX11, "stands", "(II)I"⟩
abbrev cX11_watchOf : ByteArray := prog_13_method_71_code
def yX11_watchOf : MethodName := ⟨RX11, "watchOf", "(I)I"⟩
abbrev cX11_watch : ByteArray := prog_13_method_72_code
def yX11_watch : MethodName := ⟨RX11, "watch", "(I)I"⟩
abbrev cX11_movedOf : ByteArray := prog_13_method_73_code
def yX11_movedOf : MethodName := ⟨RX11, "movedOf", "(I)I"⟩
abbrev cX11_moved : ByteArray := prog_13_method_74_code
def yX11_moved : MethodName := ⟨RX11, "moved", "(I)I"⟩
abbrev cX11_catBy : ByteArray := prog_13_method_75_code
def yX11_catBy : MethodName := ⟨RX11, "catBy", "(II)I"⟩
abbrev cX11_cat : ByteArray := prog_13_method_76_code
def yX11_cat : MethodName := ⟨RX11, "cat", "(III)J"⟩
abbrev cX11_letOf : ByteArray := prog_13_method_77_code
def yX11_letOf : MethodName := ⟨RX11, "letOf", "(II)I"⟩
abbrev cX11_let : ByteArray := prog_13_method_78_code
def yX11_let : MethodName := ⟨RX11, "let", "(II)I"⟩
abbrev cX11_lotOf : ByteArray := prog_13_method_79_code
def yX11_lotOf : MethodName := ⟨RX11, "lotOf", "(III)I"⟩
abbrev cX11_lot : ByteArray := prog_13_method_80_code
def yX11_lot : MethodName := ⟨RX11, "lot", "(III)I"⟩
abbrev cX11_write : ByteArray := prog_13_method_81_code
def yX11_write : MethodName := ⟨RX11, "write", "(II)I"⟩
abbrev cX11_count : ByteArray := prog_13_method_82_code
def yX11_count : MethodName := ⟨RX11, "count", "(I)I"⟩
abbrev cX11_tellsBig : ByteArray := prog_13_method_83_code
def yX11_tellsBig : MethodName := ⟨RX11, "tellsBig", "(JI)J"⟩
abbrev cX11_digest : ByteArray := prog_13_method_84_code
def yX11_digest : MethodName := ⟨RX11, "digest", "()J"⟩
def RJ6 : String := "java/lang/Integer"
def TJ6 : u_T := fun k => match k with
  | _ => ("", "", "", false)
def tyJ6 : Nat → FieldType := fun k => match k with
  | _ => .int
abbrev wsJ60 : List Cond := u_ws RJ6 TJ6 0
theorem nmJ6 : ∀ a, a < 0 → ∀ b, b < 0 → a ≠ b → (TJ6 a).2.1 ≠ (TJ6 b).2.1 := by decide +kernel
theorem tyJ6_ok : ∀ k, k < 0 → parseFieldDescriptor (TJ6 k).2.2.1 = some (tyJ6 k) := by decide +kernel
abbrev cJ6_bitCount_0f7a4 : ByteArray := prog_14_method_49_code
def yJ6_bitCount_0f7a4 : MethodName := ⟨RJ6, "bitCount", "(I)I"⟩
def RJ9 : String := "java/lang/Math"
def TJ9 : u_T := fun k => match k with
  | _ => ("", "", "", false)
def tyJ9 : Nat → FieldType := fun k => match k with
  | _ => .int
abbrev wsJ90 : List Cond := u_ws RJ9 TJ9 0
theorem nmJ9 : ∀ a, a < 0 → ∀ b, b < 0 → a ≠ b → (TJ9 a).2.1 ≠ (TJ9 b).2.1 := by decide +kernel
theorem tyJ9_ok : ∀ k, k < 0 → parseFieldDescriptor (TJ9 k).2.2.1 = some (tyJ9 k) := by decide +kernel
abbrev cJ9_abs_0f7a4 : ByteArray := prog_15_method_59_code
def yJ9_abs_0f7a4 : MethodName := ⟨RJ9, "abs", "(I)I"⟩
abbrev cJ9_max_7cf53 : ByteArray := prog_15_method_65_code
def yJ9_max_7cf53 : MethodName := ⟨RJ9, "max", "(II)I"⟩
abbrev cJ9_min_7cf53 : ByteArray := prog_15_method_69_code
def yJ9_min_7cf53 : MethodName := ⟨RJ9, "min", "(II)I"⟩
def RJ10 : String := "java/lang/System"
def TJ10 : u_T := fun k => match k with
  | _ => ("", "", "", false)
def tyJ10 : Nat → FieldType := fun k => match k with
  | _ => .int
abbrev wsJ100 : List Cond := u_ws RJ10 TJ10 0
theorem nmJ10 : ∀ a, a < 0 → ∀ b, b < 0 → a ≠ b → (TJ10 a).2.1 ≠ (TJ10 b).2.1 := by decide +kernel
theorem tyJ10_ok : ∀ k, k < 0 → parseFieldDescriptor (TJ10 k).2.2.1 = some (tyJ10 k) := by decide +kernel
def RL : String := "SmallFirstLaw"
abbrev cL_law : ByteArray := code
def yL_law : MethodName := ⟨RL, "law", "([I)Z"⟩
abbrev vwCl : List vw_C := [(RX1, TX1, 5), (RX2, TX2, 3), (RX3, TX3, 7), (RX6, TX6, 3), (RX7, TX7, 4), (RX8, TX8, 2), (RX9, TX9, 7), (RX10, TX10, 10), (RX11, TX11, 23)]
end
section
theorem dX0_withCat_0 : decode cX0_withCat 0 = .ok (.iconst 0, 1) := by decide +kernel
theorem dX0_withCat_1 : decode cX0_withCat 1 = .ok (.istore 4, 2) := by decide +kernel
theorem dX0_withCat_3 : decode cX0_withCat 3 = .ok (.aload_n 0, 1) := by decide +kernel
theorem dX0_withCat_4 : decode cX0_withCat 4 = .ok (.iload_n 1, 1) := by decide +kernel
theorem dX0_withCat_5 : decode cX0_withCat 5 = .ok (.invokevirtual 9, 3) := by decide +kernel
theorem dX0_withCat_8 : decode cX0_withCat 8 = .ok (.iload_n 2, 1) := by decide +kernel
theorem dX0_withCat_9 : decode cX0_withCat 9 = .ok (.iand, 1) := by decide +kernel
theorem dX0_withCat_10 : decode cX0_withCat 10 = .ok (.ifCond .eq 15, 3) := by decide +kernel
theorem dX0_withCat_13 : decode cX0_withCat 13 = .ok (.iload 4, 2) := by decide +kernel
theorem dX0_withCat_15 : decode cX0_withCat 15 = .ok (.bipush 16, 2) := by decide +kernel
theorem dX0_withCat_17 : decode cX0_withCat 17 = .ok (.iload_n 3, 1) := by decide +kernel
theorem dX0_withCat_18 : decode cX0_withCat 18 = .ok (.isub, 1) := by decide +kernel
theorem dX0_withCat_19 : decode cX0_withCat 19 = .ok (.bipush 8, 2) := by decide +kernel
theorem dX0_withCat_21 : decode cX0_withCat 21 = .ok (.imul, 1) := by decide +kernel
theorem dX0_withCat_22 : decode cX0_withCat 22 = .ok (.iadd, 1) := by decide +kernel
theorem dX0_withCat_23 : decode cX0_withCat 23 = .ok (.istore 4, 2) := by decide +kernel
theorem dX0_withCat_25 : decode cX0_withCat 25 = .ok (.iconst 0, 1) := by decide +kernel
theorem dX0_withCat_26 : decode cX0_withCat 26 = .ok (.istore 5, 2) := by decide +kernel
theorem dX0_withCat_28 : decode cX0_withCat 28 = .ok (.iload 5, 2) := by decide +kernel
theorem dX0_withCat_30 : decode cX0_withCat 30 = .ok (.bipush 8, 2) := by decide +kernel
theorem dX0_withCat_32 : decode cX0_withCat 32 = .ok (.if_icmp .ge 30, 3) := by decide +kernel
theorem dX0_withCat_35 : decode cX0_withCat 35 = .ok (.aload_n 0, 1) := by decide +kernel
theorem dX0_withCat_36 : decode cX0_withCat 36 = .ok (.iload_n 1, 1) := by decide +kernel
theorem dX0_withCat_37 : decode cX0_withCat 37 = .ok (.iconst 1, 1) := by decide +kernel
theorem dX0_withCat_38 : decode cX0_withCat 38 = .ok (.iload 5, 2) := by decide +kernel
theorem dX0_withCat_40 : decode cX0_withCat 40 = .ok (.ishl, 1) := by decide +kernel
theorem dX0_withCat_41 : decode cX0_withCat 41 = .ok (.ixor, 1) := by decide +kernel
theorem dX0_withCat_42 : decode cX0_withCat 42 = .ok (.invokevirtual 9, 3) := by decide +kernel
theorem dX0_withCat_45 : decode cX0_withCat 45 = .ok (.iload_n 2, 1) := by decide +kernel
theorem dX0_withCat_46 : decode cX0_withCat 46 = .ok (.iand, 1) := by decide +kernel
theorem dX0_withCat_47 : decode cX0_withCat 47 = .ok (.ifCond .eq 9, 3) := by decide +kernel
theorem dX0_withCat_50 : decode cX0_withCat 50 = .ok (.iload 4, 2) := by decide +kernel
theorem dX0_withCat_52 : decode cX0_withCat 52 = .ok (.iload_n 3, 1) := by decide +kernel
theorem dX0_withCat_53 : decode cX0_withCat 53 = .ok (.iadd, 1) := by decide +kernel
theorem dX0_withCat_54 : decode cX0_withCat 54 = .ok (.istore 4, 2) := by decide +kernel
theorem dX0_withCat_56 : decode cX0_withCat 56 = .ok (.iinc 5 1, 3) := by decide +kernel
theorem dX0_withCat_59 : decode cX0_withCat 59 = .ok (.goto (-31), 3) := by decide +kernel
theorem dX0_withCat_62 : decode cX0_withCat 62 = .ok (.iload 4, 2) := by decide +kernel
theorem dX0_withCat_64 : decode cX0_withCat 64 = .ok (.ireturn, 1) := by decide +kernel
theorem dX0_lowest_0 : decode cX0_lowest 0 = .ok (.iload_n 2, 1) := by decide +kernel
theorem dX0_lowest_1 : decode cX0_lowest 1 = .ok (.istore_n 3, 1) := by decide +kernel
theorem dX0_lowest_2 : decode cX0_lowest 2 = .ok (.iload_n 1, 1) := by decide +kernel
theorem dX0_lowest_3 : decode cX0_lowest 3 = .ok (.istore 4, 2) := by decide +kernel
theorem dX0_lowest_5 : decode cX0_lowest 5 = .ok (.iconst 0, 1) := by decide +kernel
theorem dX0_lowest_6 : decode cX0_lowest 6 = .ok (.istore 5, 2) := by decide +kernel
theorem dX0_lowest_8 : decode cX0_lowest 8 = .ok (.iload 5, 2) := by decide +kernel
theorem dX0_lowest_10 : decode cX0_lowest 10 = .ok (.sipush 128, 3) := by decide +kernel
theorem dX0_lowest_13 : decode cX0_lowest 13 = .ok (.if_icmp .ge 27, 3) := by decide +kernel
theorem dX0_lowest_16 : decode cX0_lowest 16 = .ok (.iload 4, 2) := by decide +kernel
theorem dX0_lowest_18 : decode cX0_lowest 18 = .ok (.ifCond .eq 22, 3) := by decide +kernel
theorem dX0_lowest_21 : decode cX0_lowest 21 = .ok (.iload_n 3, 1) := by decide +kernel
theorem dX0_lowest_22 : decode cX0_lowest 22 = .ok (.iload 4, 2) := by decide +kernel
theorem dX0_lowest_24 : decode cX0_lowest 24 = .ok (.irem, 1) := by decide +kernel
theorem dX0_lowest_25 : decode cX0_lowest 25 = .ok (.istore 6, 2) := by decide +kernel
theorem dX0_lowest_27 : decode cX0_lowest 27 = .ok (.iload 4, 2) := by decide +kernel
theorem dX0_lowest_29 : decode cX0_lowest 29 = .ok (.istore_n 3, 1) := by decide +kernel
theorem dX0_lowest_30 : decode cX0_lowest 30 = .ok (.iload 6, 2) := by decide +kernel
theorem dX0_lowest_32 : decode cX0_lowest 32 = .ok (.istore 4, 2) := by decide +kernel
theorem dX0_lowest_34 : decode cX0_lowest 34 = .ok (.iinc 5 1, 3) := by decide +kernel
theorem dX0_lowest_37 : decode cX0_lowest 37 = .ok (.goto (-29), 3) := by decide +kernel
theorem dX0_lowest_40 : decode cX0_lowest 40 = .ok (.iload_n 3, 1) := by decide +kernel
theorem dX0_lowest_41 : decode cX0_lowest 41 = .ok (.ifCond .ne 7, 3) := by decide +kernel
theorem dX0_lowest_44 : decode cX0_lowest 44 = .ok (.iload_n 0, 1) := by decide +kernel
theorem dX0_lowest_45 : decode cX0_lowest 45 = .ok (.goto 6, 3) := by decide +kernel
theorem dX0_lowest_48 : decode cX0_lowest 48 = .ok (.iload_n 0, 1) := by decide +kernel
theorem dX0_lowest_49 : decode cX0_lowest 49 = .ok (.iload_n 3, 1) := by decide +kernel
theorem dX0_lowest_50 : decode cX0_lowest 50 = .ok (.idiv, 1) := by decide +kernel
theorem dX0_lowest_51 : decode cX0_lowest 51 = .ok (.ireturn, 1) := by decide +kernel
theorem dX1_init_0 : decode cX1_init 0 = .ok (.aload_n 0, 1) := by decide +kernel
theorem dX1_init_1 : decode cX1_init 1 = .ok (.invokespecial 3, 3) := by decide +kernel
theorem dX1_init_4 : decode cX1_init 4 = .ok (.aload_n 0, 1) := by decide +kernel
theorem dX1_init_5 : decode cX1_init 5 = .ok (.bipush 12, 2) := by decide +kernel
theorem dX1_init_7 : decode cX1_init 7 = .ok (.newarray .int, 2) := by decide +kernel
theorem dX1_init_9 : decode cX1_init 9 = .ok (.putfield 9, 3) := by decide +kernel
theorem dX1_init_12 : decode cX1_init 12 = .ok (.aload_n 0, 1) := by decide +kernel
theorem dX1_init_13 : decode cX1_init 13 = .ok (.bipush 12, 2) := by decide +kernel
theorem dX1_init_15 : decode cX1_init 15 = .ok (.newarray .int, 2) := by decide +kernel
theorem dX1_init_17 : decode cX1_init 17 = .ok (.putfield 15, 3) := by decide +kernel
theorem dX1_init_20 : decode cX1_init 20 = .ok (.return_, 1) := by decide +kernel
theorem dX1_bigOf_0 : decode cX1_bigOf 0 = .ok (.iload_n 1, 1) := by decide +kernel
theorem dX1_bigOf_1 : decode cX1_bigOf 1 = .ok (.ifCond .lt 18, 3) := by decide +kernel
theorem dX1_bigOf_4 : decode cX1_bigOf 4 = .ok (.iload_n 1, 1) := by decide +kernel
theorem dX1_bigOf_5 : decode cX1_bigOf 5 = .ok (.bipush 12, 2) := by decide +kernel
theorem dX1_bigOf_7 : decode cX1_bigOf 7 = .ok (.if_icmp .ge 12, 3) := by decide +kernel
theorem dX1_bigOf_10 : decode cX1_bigOf 10 = .ok (.aload_n 0, 1) := by decide +kernel
theorem dX1_bigOf_11 : decode cX1_bigOf 11 = .ok (.getfield 9, 3) := by decide +kernel
theorem dX1_bigOf_14 : decode cX1_bigOf 14 = .ok (.iload_n 1, 1) := by decide +kernel
theorem dX1_bigOf_15 : decode cX1_bigOf 15 = .ok (.iaload, 1) := by decide +kernel
theorem dX1_bigOf_16 : decode cX1_bigOf 16 = .ok (.goto 4, 3) := by decide +kernel
theorem dX1_bigOf_19 : decode cX1_bigOf 19 = .ok (.iconst 0, 1) := by decide +kernel
theorem dX1_bigOf_20 : decode cX1_bigOf 20 = .ok (.ireturn, 1) := by decide +kernel
theorem dX1_smallOf_0 : decode cX1_smallOf 0 = .ok (.iload_n 1, 1) := by decide +kernel
theorem dX1_smallOf_1 : decode cX1_smallOf 1 = .ok (.ifCond .lt 18, 3) := by decide +kernel
theorem dX1_smallOf_4 : decode cX1_smallOf 4 = .ok (.iload_n 1, 1) := by decide +kernel
theorem dX1_smallOf_5 : decode cX1_smallOf 5 = .ok (.bipush 12, 2) := by decide +kernel
theorem dX1_smallOf_7 : decode cX1_smallOf 7 = .ok (.if_icmp .ge 12, 3) := by decide +kernel
theorem dX1_smallOf_10 : decode cX1_smallOf 10 = .ok (.aload_n 0, 1) := by decide +kernel
theorem dX1_smallOf_11 : decode cX1_smallOf 11 = .ok (.getfield 15, 3) := by decide +kernel
theorem dX1_smallOf_14 : decode cX1_smallOf 14 = .ok (.iload_n 1, 1) := by decide +kernel
theorem dX1_smallOf_15 : decode cX1_smallOf 15 = .ok (.iaload, 1) := by decide +kernel
theorem dX1_smallOf_16 : decode cX1_smallOf 16 = .ok (.goto 4, 3) := by decide +kernel
theorem dX1_smallOf_19 : decode cX1_smallOf 19 = .ok (.iconst 0, 1) := by decide +kernel
theorem dX1_smallOf_20 : decode cX1_smallOf 20 = .ok (.ireturn, 1) := by decide +kernel
theorem dX1_laidBy_0 : decode cX1_laidBy 0 = .ok (.iconst 0, 1) := by decide +kernel
theorem dX1_laidBy_1 : decode cX1_laidBy 1 = .ok (.istore_n 2, 1) := by decide +kernel
theorem dX1_laidBy_2 : decode cX1_laidBy 2 = .ok (.iconst 0, 1) := by decide +kernel
theorem dX1_laidBy_3 : decode cX1_laidBy 3 = .ok (.istore_n 3, 1) := by decide +kernel
theorem dX1_laidBy_4 : decode cX1_laidBy 4 = .ok (.iload_n 3, 1) := by decide +kernel
theorem dX1_laidBy_5 : decode cX1_laidBy 5 = .ok (.aload_n 0, 1) := by decide +kernel
theorem dX1_laidBy_6 : decode cX1_laidBy 6 = .ok (.invokevirtual 18, 3) := by decide +kernel
theorem dX1_laidBy_9 : decode cX1_laidBy 9 = .ok (.if_icmp .ge 32, 3) := by decide +kernel
theorem dX1_laidBy_12 : decode cX1_laidBy 12 = .ok (.iload_n 1, 1) := by decide +kernel
theorem dX1_laidBy_13 : decode cX1_laidBy 13 = .ok (.aload_n 0, 1) := by decide +kernel
theorem dX1_laidBy_14 : decode cX1_laidBy 14 = .ok (.iload_n 3, 1) := by decide +kernel
theorem dX1_laidBy_15 : decode cX1_laidBy 15 = .ok (.invokevirtual 22, 3) := by decide +kernel
theorem dX1_laidBy_18 : decode cX1_laidBy 18 = .ok (.ishr, 1) := by decide +kernel
theorem dX1_laidBy_19 : decode cX1_laidBy 19 = .ok (.iconst 1, 1) := by decide +kernel
theorem dX1_laidBy_20 : decode cX1_laidBy 20 = .ok (.iand, 1) := by decide +kernel
theorem dX1_laidBy_21 : decode cX1_laidBy 21 = .ok (.iconst 1, 1) := by decide +kernel
theorem dX1_laidBy_22 : decode cX1_laidBy 22 = .ok (.if_icmp .ne 13, 3) := by decide +kernel
theorem dX1_laidBy_25 : decode cX1_laidBy 25 = .ok (.iload_n 2, 1) := by decide +kernel
theorem dX1_laidBy_26 : decode cX1_laidBy 26 = .ok (.iconst 1, 1) := by decide +kernel
theorem dX1_laidBy_27 : decode cX1_laidBy 27 = .ok (.aload_n 0, 1) := by decide +kernel
theorem dX1_laidBy_28 : decode cX1_laidBy 28 = .ok (.iload_n 3, 1) := by decide +kernel
theorem dX1_laidBy_29 : decode cX1_laidBy 29 = .ok (.invokevirtual 26, 3) := by decide +kernel
theorem dX1_laidBy_32 : decode cX1_laidBy 32 = .ok (.ishl, 1) := by decide +kernel
theorem dX1_laidBy_33 : decode cX1_laidBy 33 = .ok (.ior, 1) := by decide +kernel
theorem dX1_laidBy_34 : decode cX1_laidBy 34 = .ok (.istore_n 2, 1) := by decide +kernel
theorem dX1_laidBy_35 : decode cX1_laidBy 35 = .ok (.iinc 3 1, 3) := by decide +kernel
theorem dX1_laidBy_38 : decode cX1_laidBy 38 = .ok (.goto (-34), 3) := by decide +kernel
theorem dX1_laidBy_41 : decode cX1_laidBy 41 = .ok (.iload_n 2, 1) := by decide +kernel
theorem dX1_laidBy_42 : decode cX1_laidBy 42 = .ok (.ireturn, 1) := by decide +kernel
theorem dX1_stateBehind_0 : decode cX1_stateBehind 0 = .ok (.iload_n 1, 1) := by decide +kernel
theorem dX1_stateBehind_1 : decode cX1_stateBehind 1 = .ok (.tableswitch 51 0 2 #[27, 39, 33], 27) := by decide +kernel
theorem dX1_stateBehind_28 : decode cX1_stateBehind 28 = .ok (.aload_n 0, 1) := by decide +kernel
theorem dX1_stateBehind_29 : decode cX1_stateBehind 29 = .ok (.iload_n 2, 1) := by decide +kernel
theorem dX1_stateBehind_30 : decode cX1_stateBehind 30 = .ok (.invokevirtual 29, 3) := by decide +kernel
theorem dX1_stateBehind_33 : decode cX1_stateBehind 33 = .ok (.ireturn, 1) := by decide +kernel
theorem dX1_stateBehind_34 : decode cX1_stateBehind 34 = .ok (.aload_n 0, 1) := by decide +kernel
theorem dX1_stateBehind_35 : decode cX1_stateBehind 35 = .ok (.iload_n 2, 1) := by decide +kernel
theorem dX1_stateBehind_36 : decode cX1_stateBehind 36 = .ok (.invokevirtual 32, 3) := by decide +kernel
theorem dX1_stateBehind_39 : decode cX1_stateBehind 39 = .ok (.ireturn, 1) := by decide +kernel
theorem dX1_stateBehind_40 : decode cX1_stateBehind 40 = .ok (.iload_n 2, 1) := by decide +kernel
theorem dX1_stateBehind_41 : decode cX1_stateBehind 41 = .ok (.bipush 59, 2) := by decide +kernel
theorem dX1_stateBehind_43 : decode cX1_stateBehind 43 = .ok (.if_icmp .ne 7, 3) := by decide +kernel
theorem dX1_stateBehind_46 : decode cX1_stateBehind 46 = .ok (.iconst 0, 1) := by decide +kernel
theorem dX1_stateBehind_47 : decode cX1_stateBehind 47 = .ok (.goto 4, 3) := by decide +kernel
theorem dX1_stateBehind_50 : decode cX1_stateBehind 50 = .ok (.iconst (-1), 1) := by decide +kernel
theorem dX1_stateBehind_51 : decode cX1_stateBehind 51 = .ok (.ireturn, 1) := by decide +kernel
theorem dX1_stateBehind_52 : decode cX1_stateBehind 52 = .ok (.iconst (-1), 1) := by decide +kernel
theorem dX1_stateBehind_53 : decode cX1_stateBehind 53 = .ok (.ireturn, 1) := by decide +kernel
theorem dX1_beginDust_0 : decode cX1_beginDust 0 = .ok (.aload_n 0, 1) := by decide +kernel
theorem dX1_beginDust_1 : decode cX1_beginDust 1 = .ok (.invokevirtual 18, 3) := by decide +kernel
theorem dX1_beginDust_4 : decode cX1_beginDust 4 = .ok (.bipush 12, 2) := by decide +kernel
theorem dX1_beginDust_6 : decode cX1_beginDust 6 = .ok (.if_icmp .ge 10, 3) := by decide +kernel
theorem dX1_beginDust_9 : decode cX1_beginDust 9 = .ok (.iload_n 1, 1) := by decide +kernel
theorem dX1_beginDust_10 : decode cX1_beginDust 10 = .ok (.invokestatic 35, 3) := by decide +kernel
theorem dX1_beginDust_13 : decode cX1_beginDust 13 = .ok (.ifCond .ne 5, 3) := by decide +kernel
theorem dX1_beginDust_16 : decode cX1_beginDust 16 = .ok (.iconst (-1), 1) := by decide +kernel
theorem dX1_beginDust_17 : decode cX1_beginDust 17 = .ok (.ireturn, 1) := by decide +kernel
theorem dX1_beginDust_18 : decode cX1_beginDust 18 = .ok (.aload_n 0, 1) := by decide +kernel
theorem dX1_beginDust_19 : decode cX1_beginDust 19 = .ok (.iload_n 1, 1) := by decide +kernel
theorem dX1_beginDust_20 : decode cX1_beginDust 20 = .ok (.bipush 65, 2) := by decide +kernel
theorem dX1_beginDust_22 : decode cX1_beginDust 22 = .ok (.isub, 1) := by decide +kernel
theorem dX1_beginDust_23 : decode cX1_beginDust 23 = .ok (.putfield 39, 3) := by decide +kernel
theorem dX1_beginDust_26 : decode cX1_beginDust 26 = .ok (.iconst 2, 1) := by decide +kernel
theorem dX1_beginDust_27 : decode cX1_beginDust 27 = .ok (.ireturn, 1) := by decide +kernel
theorem dX1_endDust_0 : decode cX1_endDust 0 = .ok (.aload_n 0, 1) := by decide +kernel
theorem dX1_endDust_1 : decode cX1_endDust 1 = .ok (.invokevirtual 18, 3) := by decide +kernel
theorem dX1_endDust_4 : decode cX1_endDust 4 = .ok (.istore_n 2, 1) := by decide +kernel
theorem dX1_endDust_5 : decode cX1_endDust 5 = .ok (.iload_n 1, 1) := by decide +kernel
theorem dX1_endDust_6 : decode cX1_endDust 6 = .ok (.invokestatic 43, 3) := by decide +kernel
theorem dX1_endDust_9 : decode cX1_endDust 9 = .ok (.ifCond .eq 13, 3) := by decide +kernel
theorem dX1_endDust_12 : decode cX1_endDust 12 = .ok (.iload_n 2, 1) := by decide +kernel
theorem dX1_endDust_13 : decode cX1_endDust 13 = .ok (.ifCond .lt 9, 3) := by decide +kernel
theorem dX1_endDust_16 : decode cX1_endDust 16 = .ok (.iload_n 2, 1) := by decide +kernel
theorem dX1_endDust_17 : decode cX1_endDust 17 = .ok (.bipush 12, 2) := by decide +kernel
theorem dX1_endDust_19 : decode cX1_endDust 19 = .ok (.if_icmp .lt 5, 3) := by decide +kernel
theorem dX1_endDust_22 : decode cX1_endDust 22 = .ok (.iconst (-1), 1) := by decide +kernel
theorem dX1_endDust_23 : decode cX1_endDust 23 = .ok (.ireturn, 1) := by decide +kernel
theorem dX1_endDust_24 : decode cX1_endDust 24 = .ok (.aload_n 0, 1) := by decide +kernel
theorem dX1_endDust_25 : decode cX1_endDust 25 = .ok (.getfield 9, 3) := by decide +kernel
theorem dX1_endDust_28 : decode cX1_endDust 28 = .ok (.iload_n 2, 1) := by decide +kernel
theorem dX1_endDust_29 : decode cX1_endDust 29 = .ok (.aload_n 0, 1) := by decide +kernel
theorem dX1_endDust_30 : decode cX1_endDust 30 = .ok (.getfield 39, 3) := by decide +kernel
theorem dX1_endDust_33 : decode cX1_endDust 33 = .ok (.iastore, 1) := by decide +kernel
theorem dX1_endDust_34 : decode cX1_endDust 34 = .ok (.aload_n 0, 1) := by decide +kernel
theorem dX1_endDust_35 : decode cX1_endDust 35 = .ok (.getfield 15, 3) := by decide +kernel
theorem dX1_endDust_38 : decode cX1_endDust 38 = .ok (.iload_n 2, 1) := by decide +kernel
theorem dX1_endDust_39 : decode cX1_endDust 39 = .ok (.iload_n 1, 1) := by decide +kernel
theorem dX1_endDust_40 : decode cX1_endDust 40 = .ok (.bipush 97, 2) := by decide +kernel
theorem dX1_endDust_42 : decode cX1_endDust 42 = .ok (.isub, 1) := by decide +kernel
theorem dX1_endDust_43 : decode cX1_endDust 43 = .ok (.iastore, 1) := by decide +kernel
theorem dX1_endDust_44 : decode cX1_endDust 44 = .ok (.aload_n 0, 1) := by decide +kernel
theorem dX1_endDust_45 : decode cX1_endDust 45 = .ok (.invokevirtual 46, 3) := by decide +kernel
theorem dX1_endDust_48 : decode cX1_endDust 48 = .ok (.iconst 1, 1) := by decide +kernel
theorem dX1_endDust_49 : decode cX1_endDust 49 = .ok (.ireturn, 1) := by decide +kernel
theorem dX2_init_0 : decode cX2_init 0 = .ok (.aload_n 0, 1) := by decide +kernel
theorem dX2_init_1 : decode cX2_init 1 = .ok (.invokespecial 3, 3) := by decide +kernel
theorem dX2_init_4 : decode cX2_init 4 = .ok (.aload_n 0, 1) := by decide +kernel
theorem dX2_init_5 : decode cX2_init 5 = .ok (.sipush 256, 3) := by decide +kernel
theorem dX2_init_8 : decode cX2_init 8 = .ok (.newarray .int, 2) := by decide +kernel
theorem dX2_init_10 : decode cX2_init 10 = .ok (.putfield 9, 3) := by decide +kernel
theorem dX2_init_13 : decode cX2_init 13 = .ok (.aload_n 0, 1) := by decide +kernel
theorem dX2_init_14 : decode cX2_init 14 = .ok (.sipush 256, 3) := by decide +kernel
theorem dX2_init_17 : decode cX2_init 17 = .ok (.newarray .int, 2) := by decide +kernel
theorem dX2_init_19 : decode cX2_init 19 = .ok (.putfield 15, 3) := by decide +kernel
theorem dX2_init_22 : decode cX2_init 22 = .ok (.aload_n 0, 1) := by decide +kernel
theorem dX2_init_23 : decode cX2_init 23 = .ok (.sipush 256, 3) := by decide +kernel
theorem dX2_init_26 : decode cX2_init 26 = .ok (.newarray .int, 2) := by decide +kernel
theorem dX2_init_28 : decode cX2_init 28 = .ok (.putfield 18, 3) := by decide +kernel
theorem dX2_init_31 : decode cX2_init 31 = .ok (.return_, 1) := by decide +kernel
theorem dX2_fill_0 : decode cX2_fill 0 = .ok (.iconst 0, 1) := by decide +kernel
theorem dX2_fill_1 : decode cX2_fill 1 = .ok (.istore_n 3, 1) := by decide +kernel
theorem dX2_fill_2 : decode cX2_fill 2 = .ok (.iload_n 3, 1) := by decide +kernel
theorem dX2_fill_3 : decode cX2_fill 3 = .ok (.sipush 256, 3) := by decide +kernel
theorem dX2_fill_6 : decode cX2_fill 6 = .ok (.if_icmp .ge 58, 3) := by decide +kernel
theorem dX2_fill_9 : decode cX2_fill 9 = .ok (.aload_n 0, 1) := by decide +kernel
theorem dX2_fill_10 : decode cX2_fill 10 = .ok (.getfield 9, 3) := by decide +kernel
theorem dX2_fill_13 : decode cX2_fill 13 = .ok (.iload_n 3, 1) := by decide +kernel
theorem dX2_fill_14 : decode cX2_fill 14 = .ok (.aload_n 1, 1) := by decide +kernel
theorem dX2_fill_15 : decode cX2_fill 15 = .ok (.iload_n 3, 1) := by decide +kernel
theorem dX2_fill_16 : decode cX2_fill 16 = .ok (.iconst 1, 1) := by decide +kernel
theorem dX2_fill_17 : decode cX2_fill 17 = .ok (.invokevirtual 21, 3) := by decide +kernel
theorem dX2_fill_20 : decode cX2_fill 20 = .ok (.iastore, 1) := by decide +kernel
theorem dX2_fill_21 : decode cX2_fill 21 = .ok (.aload_n 0, 1) := by decide +kernel
theorem dX2_fill_22 : decode cX2_fill 22 = .ok (.getfield 15, 3) := by decide +kernel
theorem dX2_fill_25 : decode cX2_fill 25 = .ok (.iload_n 3, 1) := by decide +kernel
theorem dX2_fill_26 : decode cX2_fill 26 = .ok (.aload_n 1, 1) := by decide +kernel
theorem dX2_fill_27 : decode cX2_fill 27 = .ok (.iload_n 3, 1) := by decide +kernel
theorem dX2_fill_28 : decode cX2_fill 28 = .ok (.iconst 0, 1) := by decide +kernel
theorem dX2_fill_29 : decode cX2_fill 29 = .ok (.invokevirtual 21, 3) := by decide +kernel
theorem dX2_fill_32 : decode cX2_fill 32 = .ok (.iastore, 1) := by decide +kernel
theorem dX2_fill_33 : decode cX2_fill 33 = .ok (.aload_n 0, 1) := by decide +kernel
theorem dX2_fill_34 : decode cX2_fill 34 = .ok (.getfield 18, 3) := by decide +kernel
theorem dX2_fill_37 : decode cX2_fill 37 = .ok (.iload_n 3, 1) := by decide +kernel
theorem dX2_fill_38 : decode cX2_fill 38 = .ok (.aload_n 2, 1) := by decide +kernel
theorem dX2_fill_39 : decode cX2_fill 39 = .ok (.aload_n 0, 1) := by decide +kernel
theorem dX2_fill_40 : decode cX2_fill 40 = .ok (.getfield 9, 3) := by decide +kernel
theorem dX2_fill_43 : decode cX2_fill 43 = .ok (.iload_n 3, 1) := by decide +kernel
theorem dX2_fill_44 : decode cX2_fill 44 = .ok (.iaload, 1) := by decide +kernel
theorem dX2_fill_45 : decode cX2_fill 45 = .ok (.aload_n 0, 1) := by decide +kernel
theorem dX2_fill_46 : decode cX2_fill 46 = .ok (.getfield 15, 3) := by decide +kernel
theorem dX2_fill_49 : decode cX2_fill 49 = .ok (.iload_n 3, 1) := by decide +kernel
theorem dX2_fill_50 : decode cX2_fill 50 = .ok (.iaload, 1) := by decide +kernel
theorem dX2_fill_51 : decode cX2_fill 51 = .ok (.iconst (-1), 1) := by decide +kernel
theorem dX2_fill_52 : decode cX2_fill 52 = .ok (.ixor, 1) := by decide +kernel
theorem dX2_fill_53 : decode cX2_fill 53 = .ok (.iand, 1) := by decide +kernel
theorem dX2_fill_54 : decode cX2_fill 54 = .ok (.invokevirtual 27, 3) := by decide +kernel
theorem dX2_fill_57 : decode cX2_fill 57 = .ok (.iastore, 1) := by decide +kernel
theorem dX2_fill_58 : decode cX2_fill 58 = .ok (.iinc 3 1, 3) := by decide +kernel
theorem dX2_fill_61 : decode cX2_fill 61 = .ok (.goto (-59), 3) := by decide +kernel
theorem dX2_fill_64 : decode cX2_fill 64 = .ok (.return_, 1) := by decide +kernel
theorem dX2_comesBy_0 : decode cX2_comesBy 0 = .ok (.aload_n 0, 1) := by decide +kernel
theorem dX2_comesBy_1 : decode cX2_comesBy 1 = .ok (.getfield 9, 3) := by decide +kernel
theorem dX2_comesBy_4 : decode cX2_comesBy 4 = .ok (.iload_n 1, 1) := by decide +kernel
theorem dX2_comesBy_5 : decode cX2_comesBy 5 = .ok (.sipush 255, 3) := by decide +kernel
theorem dX2_comesBy_8 : decode cX2_comesBy 8 = .ok (.iand, 1) := by decide +kernel
theorem dX2_comesBy_9 : decode cX2_comesBy 9 = .ok (.iaload, 1) := by decide +kernel
theorem dX2_comesBy_10 : decode cX2_comesBy 10 = .ok (.aload_n 0, 1) := by decide +kernel
theorem dX2_comesBy_11 : decode cX2_comesBy 11 = .ok (.getfield 15, 3) := by decide +kernel
theorem dX2_comesBy_14 : decode cX2_comesBy 14 = .ok (.iload_n 1, 1) := by decide +kernel
theorem dX2_comesBy_15 : decode cX2_comesBy 15 = .ok (.sipush 255, 3) := by decide +kernel
theorem dX2_comesBy_18 : decode cX2_comesBy 18 = .ok (.iand, 1) := by decide +kernel
theorem dX2_comesBy_19 : decode cX2_comesBy 19 = .ok (.iaload, 1) := by decide +kernel
theorem dX2_comesBy_20 : decode cX2_comesBy 20 = .ok (.iconst (-1), 1) := by decide +kernel
theorem dX2_comesBy_21 : decode cX2_comesBy 21 = .ok (.ixor, 1) := by decide +kernel
theorem dX2_comesBy_22 : decode cX2_comesBy 22 = .ok (.iand, 1) := by decide +kernel
theorem dX2_comesBy_23 : decode cX2_comesBy 23 = .ok (.ireturn, 1) := by decide +kernel
theorem dX2_disagreeBy_0 : decode cX2_disagreeBy 0 = .ok (.aload_n 0, 1) := by decide +kernel
theorem dX2_disagreeBy_1 : decode cX2_disagreeBy 1 = .ok (.getfield 9, 3) := by decide +kernel
theorem dX2_disagreeBy_4 : decode cX2_disagreeBy 4 = .ok (.iload_n 1, 1) := by decide +kernel
theorem dX2_disagreeBy_5 : decode cX2_disagreeBy 5 = .ok (.sipush 255, 3) := by decide +kernel
theorem dX2_disagreeBy_8 : decode cX2_disagreeBy 8 = .ok (.iand, 1) := by decide +kernel
theorem dX2_disagreeBy_9 : decode cX2_disagreeBy 9 = .ok (.iaload, 1) := by decide +kernel
theorem dX2_disagreeBy_10 : decode cX2_disagreeBy 10 = .ok (.aload_n 0, 1) := by decide +kernel
theorem dX2_disagreeBy_11 : decode cX2_disagreeBy 11 = .ok (.getfield 15, 3) := by decide +kernel
theorem dX2_disagreeBy_14 : decode cX2_disagreeBy 14 = .ok (.iload_n 1, 1) := by decide +kernel
theorem dX2_disagreeBy_15 : decode cX2_disagreeBy 15 = .ok (.sipush 255, 3) := by decide +kernel
theorem dX2_disagreeBy_18 : decode cX2_disagreeBy 18 = .ok (.iand, 1) := by decide +kernel
theorem dX2_disagreeBy_19 : decode cX2_disagreeBy 19 = .ok (.iaload, 1) := by decide +kernel
theorem dX2_disagreeBy_20 : decode cX2_disagreeBy 20 = .ok (.iand, 1) := by decide +kernel
theorem dX2_disagreeBy_21 : decode cX2_disagreeBy 21 = .ok (.ireturn, 1) := by decide +kernel
theorem dX2_weekBehind_0 : decode cX2_weekBehind 0 = .ok (.aload_n 0, 1) := by decide +kernel
theorem dX2_weekBehind_1 : decode cX2_weekBehind 1 = .ok (.getfield 18, 3) := by decide +kernel
theorem dX2_weekBehind_4 : decode cX2_weekBehind 4 = .ok (.iload_n 1, 1) := by decide +kernel
theorem dX2_weekBehind_5 : decode cX2_weekBehind 5 = .ok (.sipush 255, 3) := by decide +kernel
theorem dX2_weekBehind_8 : decode cX2_weekBehind 8 = .ok (.iand, 1) := by decide +kernel
theorem dX2_weekBehind_9 : decode cX2_weekBehind 9 = .ok (.iaload, 1) := by decide +kernel
theorem dX2_weekBehind_10 : decode cX2_weekBehind 10 = .ok (.ireturn, 1) := by decide +kernel
theorem dX3_init_0 : decode cX3_init 0 = .ok (.aload_n 0, 1) := by decide +kernel
theorem dX3_init_1 : decode cX3_init 1 = .ok (.invokespecial 3, 3) := by decide +kernel
theorem dX3_init_4 : decode cX3_init 4 = .ok (.aload_n 0, 1) := by decide +kernel
theorem dX3_init_5 : decode cX3_init 5 = .ok (.bipush 16, 2) := by decide +kernel
theorem dX3_init_7 : decode cX3_init 7 = .ok (.newarray .int, 2) := by decide +kernel
theorem dX3_init_9 : decode cX3_init 9 = .ok (.putfield 9, 3) := by decide +kernel
theorem dX3_init_12 : decode cX3_init 12 = .ok (.aload_n 0, 1) := by decide +kernel
theorem dX3_init_13 : decode cX3_init 13 = .ok (.bipush 16, 2) := by decide +kernel
theorem dX3_init_15 : decode cX3_init 15 = .ok (.newarray .boolean, 2) := by decide +kernel
theorem dX3_init_17 : decode cX3_init 17 = .ok (.putfield 15, 3) := by decide +kernel
theorem dX3_init_20 : decode cX3_init 20 = .ok (.aload_n 0, 1) := by decide +kernel
theorem dX3_init_21 : decode cX3_init 21 = .ok (.bipush 16, 2) := by decide +kernel
theorem dX3_init_23 : decode cX3_init 23 = .ok (.newarray .int, 2) := by decide +kernel
theorem dX3_init_25 : decode cX3_init 25 = .ok (.putfield 19, 3) := by decide +kernel
theorem dX3_init_28 : decode cX3_init 28 = .ok (.return_, 1) := by decide +kernel
theorem dX3_smallOf_0 : decode cX3_smallOf 0 = .ok (.iload_n 1, 1) := by decide +kernel
theorem dX3_smallOf_1 : decode cX3_smallOf 1 = .ok (.ifCond .lt 18, 3) := by decide +kernel
theorem dX3_smallOf_4 : decode cX3_smallOf 4 = .ok (.iload_n 1, 1) := by decide +kernel
theorem dX3_smallOf_5 : decode cX3_smallOf 5 = .ok (.bipush 16, 2) := by decide +kernel
theorem dX3_smallOf_7 : decode cX3_smallOf 7 = .ok (.if_icmp .ge 12, 3) := by decide +kernel
theorem dX3_smallOf_10 : decode cX3_smallOf 10 = .ok (.aload_n 0, 1) := by decide +kernel
theorem dX3_smallOf_11 : decode cX3_smallOf 11 = .ok (.getfield 9, 3) := by decide +kernel
theorem dX3_smallOf_14 : decode cX3_smallOf 14 = .ok (.iload_n 1, 1) := by decide +kernel
theorem dX3_smallOf_15 : decode cX3_smallOf 15 = .ok (.iaload, 1) := by decide +kernel
theorem dX3_smallOf_16 : decode cX3_smallOf 16 = .ok (.goto 4, 3) := by decide +kernel
theorem dX3_smallOf_19 : decode cX3_smallOf 19 = .ok (.iconst 0, 1) := by decide +kernel
theorem dX3_smallOf_20 : decode cX3_smallOf 20 = .ok (.ireturn, 1) := by decide +kernel
theorem dX3_isPlus_0 : decode cX3_isPlus 0 = .ok (.iload_n 1, 1) := by decide +kernel
theorem dX3_isPlus_1 : decode cX3_isPlus 1 = .ok (.ifCond .lt 22, 3) := by decide +kernel
theorem dX3_isPlus_4 : decode cX3_isPlus 4 = .ok (.iload_n 1, 1) := by decide +kernel
theorem dX3_isPlus_5 : decode cX3_isPlus 5 = .ok (.bipush 16, 2) := by decide +kernel
theorem dX3_isPlus_7 : decode cX3_isPlus 7 = .ok (.if_icmp .ge 16, 3) := by decide +kernel
theorem dX3_isPlus_10 : decode cX3_isPlus 10 = .ok (.aload_n 0, 1) := by decide +kernel
theorem dX3_isPlus_11 : decode cX3_isPlus 11 = .ok (.getfield 15, 3) := by decide +kernel
theorem dX3_isPlus_14 : decode cX3_isPlus 14 = .ok (.iload_n 1, 1) := by decide +kernel
theorem dX3_isPlus_15 : decode cX3_isPlus 15 = .ok (.baload, 1) := by decide +kernel
theorem dX3_isPlus_16 : decode cX3_isPlus 16 = .ok (.ifCond .eq 7, 3) := by decide +kernel
theorem dX3_isPlus_19 : decode cX3_isPlus 19 = .ok (.iconst 1, 1) := by decide +kernel
theorem dX3_isPlus_20 : decode cX3_isPlus 20 = .ok (.goto 4, 3) := by decide +kernel
theorem dX3_isPlus_23 : decode cX3_isPlus 23 = .ok (.iconst 0, 1) := by decide +kernel
theorem dX3_isPlus_24 : decode cX3_isPlus 24 = .ok (.ireturn, 1) := by decide +kernel
theorem dX3_bigOf_0 : decode cX3_bigOf 0 = .ok (.iload_n 1, 1) := by decide +kernel
theorem dX3_bigOf_1 : decode cX3_bigOf 1 = .ok (.ifCond .lt 18, 3) := by decide +kernel
theorem dX3_bigOf_4 : decode cX3_bigOf 4 = .ok (.iload_n 1, 1) := by decide +kernel
theorem dX3_bigOf_5 : decode cX3_bigOf 5 = .ok (.bipush 16, 2) := by decide +kernel
theorem dX3_bigOf_7 : decode cX3_bigOf 7 = .ok (.if_icmp .ge 12, 3) := by decide +kernel
theorem dX3_bigOf_10 : decode cX3_bigOf 10 = .ok (.aload_n 0, 1) := by decide +kernel
theorem dX3_bigOf_11 : decode cX3_bigOf 11 = .ok (.getfield 19, 3) := by decide +kernel
theorem dX3_bigOf_14 : decode cX3_bigOf 14 = .ok (.iload_n 1, 1) := by decide +kernel
theorem dX3_bigOf_15 : decode cX3_bigOf 15 = .ok (.iaload, 1) := by decide +kernel
theorem dX3_bigOf_16 : decode cX3_bigOf 16 = .ok (.goto 4, 3) := by decide +kernel
theorem dX3_bigOf_19 : decode cX3_bigOf 19 = .ok (.iconst 0, 1) := by decide +kernel
theorem dX3_bigOf_20 : decode cX3_bigOf 20 = .ok (.ireturn, 1) := by decide +kernel
theorem dX3_plusCount_0 : decode cX3_plusCount 0 = .ok (.iconst 0, 1) := by decide +kernel
theorem dX3_plusCount_1 : decode cX3_plusCount 1 = .ok (.istore_n 1, 1) := by decide +kernel
theorem dX3_plusCount_2 : decode cX3_plusCount 2 = .ok (.iconst 0, 1) := by decide +kernel
theorem dX3_plusCount_3 : decode cX3_plusCount 3 = .ok (.istore_n 2, 1) := by decide +kernel
theorem dX3_plusCount_4 : decode cX3_plusCount 4 = .ok (.iload_n 2, 1) := by decide +kernel
theorem dX3_plusCount_5 : decode cX3_plusCount 5 = .ok (.aload_n 0, 1) := by decide +kernel
theorem dX3_plusCount_6 : decode cX3_plusCount 6 = .ok (.invokevirtual 22, 3) := by decide +kernel
theorem dX3_plusCount_9 : decode cX3_plusCount 9 = .ok (.if_icmp .ge 20, 3) := by decide +kernel
theorem dX3_plusCount_12 : decode cX3_plusCount 12 = .ok (.aload_n 0, 1) := by decide +kernel
theorem dX3_plusCount_13 : decode cX3_plusCount 13 = .ok (.iload_n 2, 1) := by decide +kernel
theorem dX3_plusCount_14 : decode cX3_plusCount 14 = .ok (.invokevirtual 26, 3) := by decide +kernel
theorem dX3_plusCount_17 : decode cX3_plusCount 17 = .ok (.ifCond .eq 6, 3) := by decide +kernel
theorem dX3_plusCount_20 : decode cX3_plusCount 20 = .ok (.iinc 1 1, 3) := by decide +kernel
theorem dX3_plusCount_23 : decode cX3_plusCount 23 = .ok (.iinc 2 1, 3) := by decide +kernel
theorem dX3_plusCount_26 : decode cX3_plusCount 26 = .ok (.goto (-22), 3) := by decide +kernel
theorem dX3_plusCount_29 : decode cX3_plusCount 29 = .ok (.iload_n 1, 1) := by decide +kernel
theorem dX3_plusCount_30 : decode cX3_plusCount 30 = .ok (.ireturn, 1) := by decide +kernel
theorem dX3_standsFor_0 : decode cX3_standsFor 0 = .ok (.iconst 0, 1) := by decide +kernel
theorem dX3_standsFor_1 : decode cX3_standsFor 1 = .ok (.istore_n 2, 1) := by decide +kernel
theorem dX3_standsFor_2 : decode cX3_standsFor 2 = .ok (.iconst 0, 1) := by decide +kernel
theorem dX3_standsFor_3 : decode cX3_standsFor 3 = .ok (.istore_n 3, 1) := by decide +kernel
theorem dX3_standsFor_4 : decode cX3_standsFor 4 = .ok (.iload_n 3, 1) := by decide +kernel
theorem dX3_standsFor_5 : decode cX3_standsFor 5 = .ok (.aload_n 0, 1) := by decide +kernel
theorem dX3_standsFor_6 : decode cX3_standsFor 6 = .ok (.invokevirtual 22, 3) := by decide +kernel
theorem dX3_standsFor_9 : decode cX3_standsFor 9 = .ok (.if_icmp .ge 40, 3) := by decide +kernel
theorem dX3_standsFor_12 : decode cX3_standsFor 12 = .ok (.aload_n 0, 1) := by decide +kernel
theorem dX3_standsFor_13 : decode cX3_standsFor 13 = .ok (.iload_n 3, 1) := by decide +kernel
theorem dX3_standsFor_14 : decode cX3_standsFor 14 = .ok (.invokevirtual 26, 3) := by decide +kernel
theorem dX3_standsFor_17 : decode cX3_standsFor 17 = .ok (.ifCond .eq 26, 3) := by decide +kernel
theorem dX3_standsFor_20 : decode cX3_standsFor 20 = .ok (.aload_n 0, 1) := by decide +kernel
theorem dX3_standsFor_21 : decode cX3_standsFor 21 = .ok (.iload_n 3, 1) := by decide +kernel
theorem dX3_standsFor_22 : decode cX3_standsFor 22 = .ok (.invokevirtual 30, 3) := by decide +kernel
theorem dX3_standsFor_25 : decode cX3_standsFor 25 = .ok (.iload_n 1, 1) := by decide +kernel
theorem dX3_standsFor_26 : decode cX3_standsFor 26 = .ok (.ishr, 1) := by decide +kernel
theorem dX3_standsFor_27 : decode cX3_standsFor 27 = .ok (.iconst 1, 1) := by decide +kernel
theorem dX3_standsFor_28 : decode cX3_standsFor 28 = .ok (.iand, 1) := by decide +kernel
theorem dX3_standsFor_29 : decode cX3_standsFor 29 = .ok (.iconst 1, 1) := by decide +kernel
theorem dX3_standsFor_30 : decode cX3_standsFor 30 = .ok (.if_icmp .ne 13, 3) := by decide +kernel
theorem dX3_standsFor_33 : decode cX3_standsFor 33 = .ok (.iload_n 2, 1) := by decide +kernel
theorem dX3_standsFor_34 : decode cX3_standsFor 34 = .ok (.iconst 1, 1) := by decide +kernel
theorem dX3_standsFor_35 : decode cX3_standsFor 35 = .ok (.aload_n 0, 1) := by decide +kernel
theorem dX3_standsFor_36 : decode cX3_standsFor 36 = .ok (.iload_n 3, 1) := by decide +kernel
theorem dX3_standsFor_37 : decode cX3_standsFor 37 = .ok (.invokevirtual 34, 3) := by decide +kernel
theorem dX3_standsFor_40 : decode cX3_standsFor 40 = .ok (.ishl, 1) := by decide +kernel
theorem dX3_standsFor_41 : decode cX3_standsFor 41 = .ok (.ior, 1) := by decide +kernel
theorem dX3_standsFor_42 : decode cX3_standsFor 42 = .ok (.istore_n 2, 1) := by decide +kernel
theorem dX3_standsFor_43 : decode cX3_standsFor 43 = .ok (.iinc 3 1, 3) := by decide +kernel
theorem dX3_standsFor_46 : decode cX3_standsFor 46 = .ok (.goto (-42), 3) := by decide +kernel
theorem dX3_standsFor_49 : decode cX3_standsFor 49 = .ok (.iload_n 2, 1) := by decide +kernel
theorem dX3_standsFor_50 : decode cX3_standsFor 50 = .ok (.ireturn, 1) := by decide +kernel
theorem dX3_heldBy_0 : decode cX3_heldBy 0 = .ok (.iconst 0, 1) := by decide +kernel
theorem dX3_heldBy_1 : decode cX3_heldBy 1 = .ok (.istore_n 3, 1) := by decide +kernel
theorem dX3_heldBy_2 : decode cX3_heldBy 2 = .ok (.iconst 0, 1) := by decide +kernel
theorem dX3_heldBy_3 : decode cX3_heldBy 3 = .ok (.istore 4, 2) := by decide +kernel
theorem dX3_heldBy_5 : decode cX3_heldBy 5 = .ok (.iload 4, 2) := by decide +kernel
theorem dX3_heldBy_7 : decode cX3_heldBy 7 = .ok (.aload_n 0, 1) := by decide +kernel
theorem dX3_heldBy_8 : decode cX3_heldBy 8 = .ok (.invokevirtual 22, 3) := by decide +kernel
theorem dX3_heldBy_11 : decode cX3_heldBy 11 = .ok (.if_icmp .ge 43, 3) := by decide +kernel
theorem dX3_heldBy_14 : decode cX3_heldBy 14 = .ok (.aload_n 0, 1) := by decide +kernel
theorem dX3_heldBy_15 : decode cX3_heldBy 15 = .ok (.iload 4, 2) := by decide +kernel
theorem dX3_heldBy_17 : decode cX3_heldBy 17 = .ok (.invokevirtual 26, 3) := by decide +kernel
theorem dX3_heldBy_20 : decode cX3_heldBy 20 = .ok (.iload_n 2, 1) := by decide +kernel
theorem dX3_heldBy_21 : decode cX3_heldBy 21 = .ok (.if_icmp .ne 27, 3) := by decide +kernel
theorem dX3_heldBy_24 : decode cX3_heldBy 24 = .ok (.aload_n 0, 1) := by decide +kernel
theorem dX3_heldBy_25 : decode cX3_heldBy 25 = .ok (.iload 4, 2) := by decide +kernel
theorem dX3_heldBy_27 : decode cX3_heldBy 27 = .ok (.invokevirtual 30, 3) := by decide +kernel
theorem dX3_heldBy_30 : decode cX3_heldBy 30 = .ok (.iload_n 1, 1) := by decide +kernel
theorem dX3_heldBy_31 : decode cX3_heldBy 31 = .ok (.iconst (-1), 1) := by decide +kernel
theorem dX3_heldBy_32 : decode cX3_heldBy 32 = .ok (.ixor, 1) := by decide +kernel
theorem dX3_heldBy_33 : decode cX3_heldBy 33 = .ok (.iand, 1) := by decide +kernel
theorem dX3_heldBy_34 : decode cX3_heldBy 34 = .ok (.ifCond .ne 14, 3) := by decide +kernel
theorem dX3_heldBy_37 : decode cX3_heldBy 37 = .ok (.iload_n 3, 1) := by decide +kernel
theorem dX3_heldBy_38 : decode cX3_heldBy 38 = .ok (.iconst 1, 1) := by decide +kernel
theorem dX3_heldBy_39 : decode cX3_heldBy 39 = .ok (.aload_n 0, 1) := by decide +kernel
theorem dX3_heldBy_40 : decode cX3_heldBy 40 = .ok (.iload 4, 2) := by decide +kernel
theorem dX3_heldBy_42 : decode cX3_heldBy 42 = .ok (.invokevirtual 34, 3) := by decide +kernel
theorem dX3_heldBy_45 : decode cX3_heldBy 45 = .ok (.ishl, 1) := by decide +kernel
theorem dX3_heldBy_46 : decode cX3_heldBy 46 = .ok (.ior, 1) := by decide +kernel
theorem dX3_heldBy_47 : decode cX3_heldBy 47 = .ok (.istore_n 3, 1) := by decide +kernel
theorem dX3_heldBy_48 : decode cX3_heldBy 48 = .ok (.iinc 4 1, 3) := by decide +kernel
theorem dX3_heldBy_51 : decode cX3_heldBy 51 = .ok (.goto (-46), 3) := by decide +kernel
theorem dX3_heldBy_54 : decode cX3_heldBy 54 = .ok (.iload_n 3, 1) := by decide +kernel
theorem dX3_heldBy_55 : decode cX3_heldBy 55 = .ok (.ireturn, 1) := by decide +kernel
theorem dX3_stateBehind_0 : decode cX3_stateBehind 0 = .ok (.iload_n 1, 1) := by decide +kernel
theorem dX3_stateBehind_1 : decode cX3_stateBehind 1 = .ok (.tableswitch 86 0 4 #[35, 74, 41, 62, 68], 35) := by decide +kernel
theorem dX3_stateBehind_36 : decode cX3_stateBehind 36 = .ok (.aload_n 0, 1) := by decide +kernel
theorem dX3_stateBehind_37 : decode cX3_stateBehind 37 = .ok (.iload_n 2, 1) := by decide +kernel
theorem dX3_stateBehind_38 : decode cX3_stateBehind 38 = .ok (.invokevirtual 37, 3) := by decide +kernel
theorem dX3_stateBehind_41 : decode cX3_stateBehind 41 = .ok (.ireturn, 1) := by decide +kernel
theorem dX3_stateBehind_42 : decode cX3_stateBehind 42 = .ok (.iload_n 2, 1) := by decide +kernel
theorem dX3_stateBehind_43 : decode cX3_stateBehind 43 = .ok (.invokestatic 40, 3) := by decide +kernel
theorem dX3_stateBehind_46 : decode cX3_stateBehind 46 = .ok (.ifCond .eq 11, 3) := by decide +kernel
theorem dX3_stateBehind_49 : decode cX3_stateBehind 49 = .ok (.aload_n 0, 1) := by decide +kernel
theorem dX3_stateBehind_50 : decode cX3_stateBehind 50 = .ok (.iload_n 2, 1) := by decide +kernel
theorem dX3_stateBehind_51 : decode cX3_stateBehind 51 = .ok (.invokevirtual 43, 3) := by decide +kernel
theorem dX3_stateBehind_54 : decode cX3_stateBehind 54 = .ok (.goto 8, 3) := by decide +kernel
theorem dX3_stateBehind_57 : decode cX3_stateBehind 57 = .ok (.aload_n 0, 1) := by decide +kernel
theorem dX3_stateBehind_58 : decode cX3_stateBehind 58 = .ok (.iload_n 2, 1) := by decide +kernel
theorem dX3_stateBehind_59 : decode cX3_stateBehind 59 = .ok (.invokevirtual 46, 3) := by decide +kernel
theorem dX3_stateBehind_62 : decode cX3_stateBehind 62 = .ok (.ireturn, 1) := by decide +kernel
theorem dX3_stateBehind_63 : decode cX3_stateBehind 63 = .ok (.aload_n 0, 1) := by decide +kernel
theorem dX3_stateBehind_64 : decode cX3_stateBehind 64 = .ok (.iload_n 2, 1) := by decide +kernel
theorem dX3_stateBehind_65 : decode cX3_stateBehind 65 = .ok (.invokevirtual 46, 3) := by decide +kernel
theorem dX3_stateBehind_68 : decode cX3_stateBehind 68 = .ok (.ireturn, 1) := by decide +kernel
theorem dX3_stateBehind_69 : decode cX3_stateBehind 69 = .ok (.aload_n 0, 1) := by decide +kernel
theorem dX3_stateBehind_70 : decode cX3_stateBehind 70 = .ok (.iload_n 2, 1) := by decide +kernel
theorem dX3_stateBehind_71 : decode cX3_stateBehind 71 = .ok (.invokevirtual 49, 3) := by decide +kernel
theorem dX3_stateBehind_74 : decode cX3_stateBehind 74 = .ok (.ireturn, 1) := by decide +kernel
theorem dX3_stateBehind_75 : decode cX3_stateBehind 75 = .ok (.iload_n 2, 1) := by decide +kernel
theorem dX3_stateBehind_76 : decode cX3_stateBehind 76 = .ok (.bipush 59, 2) := by decide +kernel
theorem dX3_stateBehind_78 : decode cX3_stateBehind 78 = .ok (.if_icmp .ne 7, 3) := by decide +kernel
theorem dX3_stateBehind_81 : decode cX3_stateBehind 81 = .ok (.iconst 0, 1) := by decide +kernel
theorem dX3_stateBehind_82 : decode cX3_stateBehind 82 = .ok (.goto 4, 3) := by decide +kernel
theorem dX3_stateBehind_85 : decode cX3_stateBehind 85 = .ok (.iconst (-1), 1) := by decide +kernel
theorem dX3_stateBehind_86 : decode cX3_stateBehind 86 = .ok (.ireturn, 1) := by decide +kernel
theorem dX3_stateBehind_87 : decode cX3_stateBehind 87 = .ok (.iconst (-1), 1) := by decide +kernel
theorem dX3_stateBehind_88 : decode cX3_stateBehind 88 = .ok (.ireturn, 1) := by decide +kernel
theorem dX3_beginLaw_0 : decode cX3_beginLaw 0 = .ok (.aload_n 0, 1) := by decide +kernel
theorem dX3_beginLaw_1 : decode cX3_beginLaw 1 = .ok (.invokevirtual 22, 3) := by decide +kernel
theorem dX3_beginLaw_4 : decode cX3_beginLaw 4 = .ok (.bipush 16, 2) := by decide +kernel
theorem dX3_beginLaw_6 : decode cX3_beginLaw 6 = .ok (.if_icmp .ge 10, 3) := by decide +kernel
theorem dX3_beginLaw_9 : decode cX3_beginLaw 9 = .ok (.iload_n 1, 1) := by decide +kernel
theorem dX3_beginLaw_10 : decode cX3_beginLaw 10 = .ok (.invokestatic 40, 3) := by decide +kernel
theorem dX3_beginLaw_13 : decode cX3_beginLaw 13 = .ok (.ifCond .ne 5, 3) := by decide +kernel
theorem dX3_beginLaw_16 : decode cX3_beginLaw 16 = .ok (.iconst (-1), 1) := by decide +kernel
theorem dX3_beginLaw_17 : decode cX3_beginLaw 17 = .ok (.ireturn, 1) := by decide +kernel
theorem dX3_beginLaw_18 : decode cX3_beginLaw 18 = .ok (.aload_n 0, 1) := by decide +kernel
theorem dX3_beginLaw_19 : decode cX3_beginLaw 19 = .ok (.iconst 1, 1) := by decide +kernel
theorem dX3_beginLaw_20 : decode cX3_beginLaw 20 = .ok (.iload_n 1, 1) := by decide +kernel
theorem dX3_beginLaw_21 : decode cX3_beginLaw 21 = .ok (.bipush 97, 2) := by decide +kernel
theorem dX3_beginLaw_23 : decode cX3_beginLaw 23 = .ok (.isub, 1) := by decide +kernel
theorem dX3_beginLaw_24 : decode cX3_beginLaw 24 = .ok (.ishl, 1) := by decide +kernel
theorem dX3_beginLaw_25 : decode cX3_beginLaw 25 = .ok (.putfield 52, 3) := by decide +kernel
theorem dX3_beginLaw_28 : decode cX3_beginLaw 28 = .ok (.iconst 2, 1) := by decide +kernel
theorem dX3_beginLaw_29 : decode cX3_beginLaw 29 = .ok (.ireturn, 1) := by decide +kernel
theorem dX3_pairWith_0 : decode cX3_pairWith 0 = .ok (.iconst 1, 1) := by decide +kernel
theorem dX3_pairWith_1 : decode cX3_pairWith 1 = .ok (.iload_n 1, 1) := by decide +kernel
theorem dX3_pairWith_2 : decode cX3_pairWith 2 = .ok (.bipush 97, 2) := by decide +kernel
theorem dX3_pairWith_4 : decode cX3_pairWith 4 = .ok (.isub, 1) := by decide +kernel
theorem dX3_pairWith_5 : decode cX3_pairWith 5 = .ok (.ishl, 1) := by decide +kernel
theorem dX3_pairWith_6 : decode cX3_pairWith 6 = .ok (.istore_n 2, 1) := by decide +kernel
theorem dX3_pairWith_7 : decode cX3_pairWith 7 = .ok (.iload_n 2, 1) := by decide +kernel
theorem dX3_pairWith_8 : decode cX3_pairWith 8 = .ok (.aload_n 0, 1) := by decide +kernel
theorem dX3_pairWith_9 : decode cX3_pairWith 9 = .ok (.getfield 52, 3) := by decide +kernel
theorem dX3_pairWith_12 : decode cX3_pairWith 12 = .ok (.if_icmp .gt 5, 3) := by decide +kernel
theorem dX3_pairWith_15 : decode cX3_pairWith 15 = .ok (.iconst (-1), 1) := by decide +kernel
theorem dX3_pairWith_16 : decode cX3_pairWith 16 = .ok (.ireturn, 1) := by decide +kernel
theorem dX3_pairWith_17 : decode cX3_pairWith 17 = .ok (.aload_n 0, 1) := by decide +kernel
theorem dX3_pairWith_18 : decode cX3_pairWith 18 = .ok (.dup, 1) := by decide +kernel
theorem dX3_pairWith_19 : decode cX3_pairWith 19 = .ok (.getfield 52, 3) := by decide +kernel
theorem dX3_pairWith_22 : decode cX3_pairWith 22 = .ok (.iload_n 2, 1) := by decide +kernel
theorem dX3_pairWith_23 : decode cX3_pairWith 23 = .ok (.ior, 1) := by decide +kernel
theorem dX3_pairWith_24 : decode cX3_pairWith 24 = .ok (.putfield 52, 3) := by decide +kernel
theorem dX3_pairWith_27 : decode cX3_pairWith 27 = .ok (.iconst 3, 1) := by decide +kernel
theorem dX3_pairWith_28 : decode cX3_pairWith 28 = .ok (.ireturn, 1) := by decide +kernel
theorem dX3_takeSign_0 : decode cX3_takeSign 0 = .ok (.aload_n 0, 1) := by decide +kernel
theorem dX3_takeSign_1 : decode cX3_takeSign 1 = .ok (.iload_n 1, 1) := by decide +kernel
theorem dX3_takeSign_2 : decode cX3_takeSign 2 = .ok (.bipush 43, 2) := by decide +kernel
theorem dX3_takeSign_4 : decode cX3_takeSign 4 = .ok (.if_icmp .ne 7, 3) := by decide +kernel
theorem dX3_takeSign_7 : decode cX3_takeSign 7 = .ok (.iconst 1, 1) := by decide +kernel
theorem dX3_takeSign_8 : decode cX3_takeSign 8 = .ok (.goto 4, 3) := by decide +kernel
theorem dX3_takeSign_11 : decode cX3_takeSign 11 = .ok (.iconst 0, 1) := by decide +kernel
theorem dX3_takeSign_12 : decode cX3_takeSign 12 = .ok (.putfield 56, 3) := by decide +kernel
theorem dX3_takeSign_15 : decode cX3_takeSign 15 = .ok (.aload_n 0, 1) := by decide +kernel
theorem dX3_takeSign_16 : decode cX3_takeSign 16 = .ok (.getfield 56, 3) := by decide +kernel
theorem dX3_takeSign_19 : decode cX3_takeSign 19 = .ok (.ifCond .ne 9, 3) := by decide +kernel
theorem dX3_takeSign_22 : decode cX3_takeSign 22 = .ok (.iload_n 1, 1) := by decide +kernel
theorem dX3_takeSign_23 : decode cX3_takeSign 23 = .ok (.bipush 45, 2) := by decide +kernel
theorem dX3_takeSign_25 : decode cX3_takeSign 25 = .ok (.if_icmp .ne 7, 3) := by decide +kernel
theorem dX3_takeSign_28 : decode cX3_takeSign 28 = .ok (.iconst 4, 1) := by decide +kernel
theorem dX3_takeSign_29 : decode cX3_takeSign 29 = .ok (.goto 4, 3) := by decide +kernel
theorem dX3_takeSign_32 : decode cX3_takeSign 32 = .ok (.iconst (-1), 1) := by decide +kernel
theorem dX3_takeSign_33 : decode cX3_takeSign 33 = .ok (.ireturn, 1) := by decide +kernel
theorem dX3_endLaw_0 : decode cX3_endLaw 0 = .ok (.aload_n 0, 1) := by decide +kernel
theorem dX3_endLaw_1 : decode cX3_endLaw 1 = .ok (.invokevirtual 22, 3) := by decide +kernel
theorem dX3_endLaw_4 : decode cX3_endLaw 4 = .ok (.istore_n 2, 1) := by decide +kernel
theorem dX3_endLaw_5 : decode cX3_endLaw 5 = .ok (.iload_n 1, 1) := by decide +kernel
theorem dX3_endLaw_6 : decode cX3_endLaw 6 = .ok (.invokestatic 60, 3) := by decide +kernel
theorem dX3_endLaw_9 : decode cX3_endLaw 9 = .ok (.ifCond .eq 13, 3) := by decide +kernel
theorem dX3_endLaw_12 : decode cX3_endLaw 12 = .ok (.iload_n 2, 1) := by decide +kernel
theorem dX3_endLaw_13 : decode cX3_endLaw 13 = .ok (.ifCond .lt 9, 3) := by decide +kernel
theorem dX3_endLaw_16 : decode cX3_endLaw 16 = .ok (.iload_n 2, 1) := by decide +kernel
theorem dX3_endLaw_17 : decode cX3_endLaw 17 = .ok (.bipush 16, 2) := by decide +kernel
theorem dX3_endLaw_19 : decode cX3_endLaw 19 = .ok (.if_icmp .lt 5, 3) := by decide +kernel
theorem dX3_endLaw_22 : decode cX3_endLaw 22 = .ok (.iconst (-1), 1) := by decide +kernel
theorem dX3_endLaw_23 : decode cX3_endLaw 23 = .ok (.ireturn, 1) := by decide +kernel
theorem dX3_endLaw_24 : decode cX3_endLaw 24 = .ok (.aload_n 0, 1) := by decide +kernel
theorem dX3_endLaw_25 : decode cX3_endLaw 25 = .ok (.getfield 9, 3) := by decide +kernel
theorem dX3_endLaw_28 : decode cX3_endLaw 28 = .ok (.iload_n 2, 1) := by decide +kernel
theorem dX3_endLaw_29 : decode cX3_endLaw 29 = .ok (.aload_n 0, 1) := by decide +kernel
theorem dX3_endLaw_30 : decode cX3_endLaw 30 = .ok (.getfield 52, 3) := by decide +kernel
theorem dX3_endLaw_33 : decode cX3_endLaw 33 = .ok (.iastore, 1) := by decide +kernel
theorem dX3_endLaw_34 : decode cX3_endLaw 34 = .ok (.aload_n 0, 1) := by decide +kernel
theorem dX3_endLaw_35 : decode cX3_endLaw 35 = .ok (.getfield 15, 3) := by decide +kernel
theorem dX3_endLaw_38 : decode cX3_endLaw 38 = .ok (.iload_n 2, 1) := by decide +kernel
theorem dX3_endLaw_39 : decode cX3_endLaw 39 = .ok (.aload_n 0, 1) := by decide +kernel
theorem dX3_endLaw_40 : decode cX3_endLaw 40 = .ok (.getfield 56, 3) := by decide +kernel
theorem dX3_endLaw_43 : decode cX3_endLaw 43 = .ok (.bastore, 1) := by decide +kernel
theorem dX3_endLaw_44 : decode cX3_endLaw 44 = .ok (.aload_n 0, 1) := by decide +kernel
theorem dX3_endLaw_45 : decode cX3_endLaw 45 = .ok (.getfield 19, 3) := by decide +kernel
theorem dX3_endLaw_48 : decode cX3_endLaw 48 = .ok (.iload_n 2, 1) := by decide +kernel
theorem dX3_endLaw_49 : decode cX3_endLaw 49 = .ok (.iload_n 1, 1) := by decide +kernel
theorem dX3_endLaw_50 : decode cX3_endLaw 50 = .ok (.bipush 65, 2) := by decide +kernel
theorem dX3_endLaw_52 : decode cX3_endLaw 52 = .ok (.isub, 1) := by decide +kernel
theorem dX3_endLaw_53 : decode cX3_endLaw 53 = .ok (.iastore, 1) := by decide +kernel
theorem dX3_endLaw_54 : decode cX3_endLaw 54 = .ok (.aload_n 0, 1) := by decide +kernel
theorem dX3_endLaw_55 : decode cX3_endLaw 55 = .ok (.invokevirtual 63, 3) := by decide +kernel
theorem dX3_endLaw_58 : decode cX3_endLaw 58 = .ok (.iconst 1, 1) := by decide +kernel
theorem dX3_endLaw_59 : decode cX3_endLaw 59 = .ok (.ireturn, 1) := by decide +kernel
theorem dX4_fewestTouched_0 : decode cX4_fewestTouched 0 = .ok (.iconst (-1), 1) := by decide +kernel
theorem dX4_fewestTouched_1 : decode cX4_fewestTouched 1 = .ok (.istore 5, 2) := by decide +kernel
theorem dX4_fewestTouched_3 : decode cX4_fewestTouched 3 = .ok (.iconst 0, 1) := by decide +kernel
theorem dX4_fewestTouched_4 : decode cX4_fewestTouched 4 = .ok (.istore 6, 2) := by decide +kernel
theorem dX4_fewestTouched_6 : decode cX4_fewestTouched 6 = .ok (.iload 6, 2) := by decide +kernel
theorem dX4_fewestTouched_8 : decode cX4_fewestTouched 8 = .ok (.sipush 256, 3) := by decide +kernel
theorem dX4_fewestTouched_11 : decode cX4_fewestTouched 11 = .ok (.if_icmp .ge 50, 3) := by decide +kernel
theorem dX4_fewestTouched_14 : decode cX4_fewestTouched 14 = .ok (.iload 6, 2) := by decide +kernel
theorem dX4_fewestTouched_16 : decode cX4_fewestTouched 16 = .ok (.iload 5, 2) := by decide +kernel
theorem dX4_fewestTouched_18 : decode cX4_fewestTouched 18 = .ok (.invokestatic 9, 3) := by decide +kernel
theorem dX4_fewestTouched_21 : decode cX4_fewestTouched 21 = .ok (.ifCond .eq 34, 3) := by decide +kernel
theorem dX4_fewestTouched_24 : decode cX4_fewestTouched 24 = .ok (.aload_n 0, 1) := by decide +kernel
theorem dX4_fewestTouched_25 : decode cX4_fewestTouched 25 = .ok (.iload_n 1, 1) := by decide +kernel
theorem dX4_fewestTouched_26 : decode cX4_fewestTouched 26 = .ok (.iload 6, 2) := by decide +kernel
theorem dX4_fewestTouched_28 : decode cX4_fewestTouched 28 = .ok (.ixor, 1) := by decide +kernel
theorem dX4_fewestTouched_29 : decode cX4_fewestTouched 29 = .ok (.iload_n 2, 1) := by decide +kernel
theorem dX4_fewestTouched_30 : decode cX4_fewestTouched 30 = .ok (.invokestatic 15, 3) := by decide +kernel
theorem dX4_fewestTouched_33 : decode cX4_fewestTouched 33 = .ok (.istore 7, 2) := by decide +kernel
theorem dX4_fewestTouched_35 : decode cX4_fewestTouched 35 = .ok (.iload 7, 2) := by decide +kernel
theorem dX4_fewestTouched_37 : decode cX4_fewestTouched 37 = .ok (.iload_n 3, 1) := by decide +kernel
theorem dX4_fewestTouched_38 : decode cX4_fewestTouched 38 = .ok (.iand, 1) := by decide +kernel
theorem dX4_fewestTouched_39 : decode cX4_fewestTouched 39 = .ok (.iload_n 3, 1) := by decide +kernel
theorem dX4_fewestTouched_40 : decode cX4_fewestTouched 40 = .ok (.if_icmp .ne 15, 3) := by decide +kernel
theorem dX4_fewestTouched_43 : decode cX4_fewestTouched 43 = .ok (.iload 7, 2) := by decide +kernel
theorem dX4_fewestTouched_45 : decode cX4_fewestTouched 45 = .ok (.iload 4, 2) := by decide +kernel
theorem dX4_fewestTouched_47 : decode cX4_fewestTouched 47 = .ok (.iand, 1) := by decide +kernel
theorem dX4_fewestTouched_48 : decode cX4_fewestTouched 48 = .ok (.ifCond .ne 7, 3) := by decide +kernel
theorem dX4_fewestTouched_51 : decode cX4_fewestTouched 51 = .ok (.iload 6, 2) := by decide +kernel
theorem dX4_fewestTouched_53 : decode cX4_fewestTouched 53 = .ok (.istore 5, 2) := by decide +kernel
theorem dX4_fewestTouched_55 : decode cX4_fewestTouched 55 = .ok (.iinc 6 1, 3) := by decide +kernel
theorem dX4_fewestTouched_58 : decode cX4_fewestTouched 58 = .ok (.goto (-52), 3) := by decide +kernel
theorem dX4_fewestTouched_61 : decode cX4_fewestTouched 61 = .ok (.iload 5, 2) := by decide +kernel
theorem dX4_fewestTouched_63 : decode cX4_fewestTouched 63 = .ok (.ireturn, 1) := by decide +kernel
theorem dX4_fewestSwept_0 : decode cX4_fewestSwept 0 = .ok (.iconst (-1), 1) := by decide +kernel
theorem dX4_fewestSwept_1 : decode cX4_fewestSwept 1 = .ok (.istore 4, 2) := by decide +kernel
theorem dX4_fewestSwept_3 : decode cX4_fewestSwept 3 = .ok (.iconst 0, 1) := by decide +kernel
theorem dX4_fewestSwept_4 : decode cX4_fewestSwept 4 = .ok (.istore 5, 2) := by decide +kernel
theorem dX4_fewestSwept_6 : decode cX4_fewestSwept 6 = .ok (.iload 5, 2) := by decide +kernel
theorem dX4_fewestSwept_8 : decode cX4_fewestSwept 8 = .ok (.sipush 256, 3) := by decide +kernel
theorem dX4_fewestSwept_11 : decode cX4_fewestSwept 11 = .ok (.if_icmp .ge 59, 3) := by decide +kernel
theorem dX4_fewestSwept_14 : decode cX4_fewestSwept 14 = .ok (.iload 5, 2) := by decide +kernel
theorem dX4_fewestSwept_16 : decode cX4_fewestSwept 16 = .ok (.iload_n 1, 1) := by decide +kernel
theorem dX4_fewestSwept_17 : decode cX4_fewestSwept 17 = .ok (.iconst (-1), 1) := by decide +kernel
theorem dX4_fewestSwept_18 : decode cX4_fewestSwept 18 = .ok (.ixor, 1) := by decide +kernel
theorem dX4_fewestSwept_19 : decode cX4_fewestSwept 19 = .ok (.iand, 1) := by decide +kernel
theorem dX4_fewestSwept_20 : decode cX4_fewestSwept 20 = .ok (.ifCond .ne 7, 3) := by decide +kernel
theorem dX4_fewestSwept_23 : decode cX4_fewestSwept 23 = .ok (.iconst 1, 1) := by decide +kernel
theorem dX4_fewestSwept_24 : decode cX4_fewestSwept 24 = .ok (.goto 4, 3) := by decide +kernel
theorem dX4_fewestSwept_27 : decode cX4_fewestSwept 27 = .ok (.iconst 0, 1) := by decide +kernel
theorem dX4_fewestSwept_28 : decode cX4_fewestSwept 28 = .ok (.istore 6, 2) := by decide +kernel
theorem dX4_fewestSwept_30 : decode cX4_fewestSwept 30 = .ok (.iload 6, 2) := by decide +kernel
theorem dX4_fewestSwept_32 : decode cX4_fewestSwept 32 = .ok (.ifCond .eq 32, 3) := by decide +kernel
theorem dX4_fewestSwept_35 : decode cX4_fewestSwept 35 = .ok (.iload 5, 2) := by decide +kernel
theorem dX4_fewestSwept_37 : decode cX4_fewestSwept 37 = .ok (.iload 4, 2) := by decide +kernel
theorem dX4_fewestSwept_39 : decode cX4_fewestSwept 39 = .ok (.invokestatic 9, 3) := by decide +kernel
theorem dX4_fewestSwept_42 : decode cX4_fewestSwept 42 = .ok (.ifCond .eq 22, 3) := by decide +kernel
theorem dX4_fewestSwept_45 : decode cX4_fewestSwept 45 = .ok (.aload_n 0, 1) := by decide +kernel
theorem dX4_fewestSwept_46 : decode cX4_fewestSwept 46 = .ok (.iload_n 1, 1) := by decide +kernel
theorem dX4_fewestSwept_47 : decode cX4_fewestSwept 47 = .ok (.iload 5, 2) := by decide +kernel
theorem dX4_fewestSwept_49 : decode cX4_fewestSwept 49 = .ok (.iconst (-1), 1) := by decide +kernel
theorem dX4_fewestSwept_50 : decode cX4_fewestSwept 50 = .ok (.ixor, 1) := by decide +kernel
theorem dX4_fewestSwept_51 : decode cX4_fewestSwept 51 = .ok (.iand, 1) := by decide +kernel
theorem dX4_fewestSwept_52 : decode cX4_fewestSwept 52 = .ok (.iload_n 2, 1) := by decide +kernel
theorem dX4_fewestSwept_53 : decode cX4_fewestSwept 53 = .ok (.iload_n 3, 1) := by decide +kernel
theorem dX4_fewestSwept_54 : decode cX4_fewestSwept 54 = .ok (.invokestatic 19, 3) := by decide +kernel
theorem dX4_fewestSwept_57 : decode cX4_fewestSwept 57 = .ok (.ifCond .eq 7, 3) := by decide +kernel
theorem dX4_fewestSwept_60 : decode cX4_fewestSwept 60 = .ok (.iload 5, 2) := by decide +kernel
theorem dX4_fewestSwept_62 : decode cX4_fewestSwept 62 = .ok (.istore 4, 2) := by decide +kernel
theorem dX4_fewestSwept_64 : decode cX4_fewestSwept 64 = .ok (.iinc 5 1, 3) := by decide +kernel
theorem dX4_fewestSwept_67 : decode cX4_fewestSwept 67 = .ok (.goto (-61), 3) := by decide +kernel
theorem dX4_fewestSwept_70 : decode cX4_fewestSwept 70 = .ok (.iload 4, 2) := by decide +kernel
theorem dX4_fewestSwept_72 : decode cX4_fewestSwept 72 = .ok (.ireturn, 1) := by decide +kernel
theorem dX4_weeksToRepeat_0 : decode cX4_weeksToRepeat 0 = .ok (.iload_n 1, 1) := by decide +kernel
theorem dX4_weeksToRepeat_1 : decode cX4_weeksToRepeat 1 = .ok (.istore_n 2, 1) := by decide +kernel
theorem dX4_weeksToRepeat_2 : decode cX4_weeksToRepeat 2 = .ok (.iconst 1, 1) := by decide +kernel
theorem dX4_weeksToRepeat_3 : decode cX4_weeksToRepeat 3 = .ok (.istore_n 3, 1) := by decide +kernel
theorem dX4_weeksToRepeat_4 : decode cX4_weeksToRepeat 4 = .ok (.iload_n 3, 1) := by decide +kernel
theorem dX4_weeksToRepeat_5 : decode cX4_weeksToRepeat 5 = .ok (.sipush 256, 3) := by decide +kernel
theorem dX4_weeksToRepeat_8 : decode cX4_weeksToRepeat 8 = .ok (.if_icmp .gt 28, 3) := by decide +kernel
theorem dX4_weeksToRepeat_11 : decode cX4_weeksToRepeat 11 = .ok (.aload_n 0, 1) := by decide +kernel
theorem dX4_weeksToRepeat_12 : decode cX4_weeksToRepeat 12 = .ok (.iload_n 2, 1) := by decide +kernel
theorem dX4_weeksToRepeat_13 : decode cX4_weeksToRepeat 13 = .ok (.invokevirtual 23, 3) := by decide +kernel
theorem dX4_weeksToRepeat_16 : decode cX4_weeksToRepeat 16 = .ok (.istore_n 2, 1) := by decide +kernel
theorem dX4_weeksToRepeat_17 : decode cX4_weeksToRepeat 17 = .ok (.aload_n 0, 1) := by decide +kernel
theorem dX4_weeksToRepeat_18 : decode cX4_weeksToRepeat 18 = .ok (.iload_n 1, 1) := by decide +kernel
theorem dX4_weeksToRepeat_19 : decode cX4_weeksToRepeat 19 = .ok (.iload_n 2, 1) := by decide +kernel
theorem dX4_weeksToRepeat_20 : decode cX4_weeksToRepeat 20 = .ok (.iload_n 3, 1) := by decide +kernel
theorem dX4_weeksToRepeat_21 : decode cX4_weeksToRepeat 21 = .ok (.invokestatic 29, 3) := by decide +kernel
theorem dX4_weeksToRepeat_24 : decode cX4_weeksToRepeat 24 = .ok (.iconst (-1), 1) := by decide +kernel
theorem dX4_weeksToRepeat_25 : decode cX4_weeksToRepeat 25 = .ok (.if_icmp .eq 5, 3) := by decide +kernel
theorem dX4_weeksToRepeat_28 : decode cX4_weeksToRepeat 28 = .ok (.iload_n 3, 1) := by decide +kernel
theorem dX4_weeksToRepeat_29 : decode cX4_weeksToRepeat 29 = .ok (.ireturn, 1) := by decide +kernel
theorem dX4_weeksToRepeat_30 : decode cX4_weeksToRepeat 30 = .ok (.iinc 3 1, 3) := by decide +kernel
theorem dX4_weeksToRepeat_33 : decode cX4_weeksToRepeat 33 = .ok (.goto (-29), 3) := by decide +kernel
theorem dX4_weeksToRepeat_36 : decode cX4_weeksToRepeat 36 = .ok (.iconst (-1), 1) := by decide +kernel
theorem dX4_weeksToRepeat_37 : decode cX4_weeksToRepeat 37 = .ok (.ireturn, 1) := by decide +kernel
theorem dX4_roundLength_0 : decode cX4_roundLength 0 = .ok (.aload_n 0, 1) := by decide +kernel
theorem dX4_roundLength_1 : decode cX4_roundLength 1 = .ok (.iload_n 1, 1) := by decide +kernel
theorem dX4_roundLength_2 : decode cX4_roundLength 2 = .ok (.invokestatic 33, 3) := by decide +kernel
theorem dX4_roundLength_5 : decode cX4_roundLength 5 = .ok (.istore_n 2, 1) := by decide +kernel
theorem dX4_roundLength_6 : decode cX4_roundLength 6 = .ok (.iload_n 1, 1) := by decide +kernel
theorem dX4_roundLength_7 : decode cX4_roundLength 7 = .ok (.istore_n 3, 1) := by decide +kernel
theorem dX4_roundLength_8 : decode cX4_roundLength 8 = .ok (.iconst 0, 1) := by decide +kernel
theorem dX4_roundLength_9 : decode cX4_roundLength 9 = .ok (.istore 4, 2) := by decide +kernel
theorem dX4_roundLength_11 : decode cX4_roundLength 11 = .ok (.iload 4, 2) := by decide +kernel
theorem dX4_roundLength_13 : decode cX4_roundLength 13 = .ok (.iload_n 2, 1) := by decide +kernel
theorem dX4_roundLength_14 : decode cX4_roundLength 14 = .ok (.if_icmp .ge 15, 3) := by decide +kernel
theorem dX4_roundLength_17 : decode cX4_roundLength 17 = .ok (.aload_n 0, 1) := by decide +kernel
theorem dX4_roundLength_18 : decode cX4_roundLength 18 = .ok (.iload_n 3, 1) := by decide +kernel
theorem dX4_roundLength_19 : decode cX4_roundLength 19 = .ok (.invokevirtual 23, 3) := by decide +kernel
theorem dX4_roundLength_22 : decode cX4_roundLength 22 = .ok (.istore_n 3, 1) := by decide +kernel
theorem dX4_roundLength_23 : decode cX4_roundLength 23 = .ok (.iinc 4 1, 3) := by decide +kernel
theorem dX4_roundLength_26 : decode cX4_roundLength 26 = .ok (.goto (-15), 3) := by decide +kernel
theorem dX4_roundLength_29 : decode cX4_roundLength 29 = .ok (.iload_n 2, 1) := by decide +kernel
theorem dX4_roundLength_30 : decode cX4_roundLength 30 = .ok (.aload_n 0, 1) := by decide +kernel
theorem dX4_roundLength_31 : decode cX4_roundLength 31 = .ok (.iload_n 1, 1) := by decide +kernel
theorem dX4_roundLength_32 : decode cX4_roundLength 32 = .ok (.iload_n 3, 1) := by decide +kernel
theorem dX4_roundLength_33 : decode cX4_roundLength 33 = .ok (.iload_n 2, 1) := by decide +kernel
theorem dX4_roundLength_34 : decode cX4_roundLength 34 = .ok (.invokestatic 29, 3) := by decide +kernel
theorem dX4_roundLength_37 : decode cX4_roundLength 37 = .ok (.isub, 1) := by decide +kernel
theorem dX4_roundLength_38 : decode cX4_roundLength 38 = .ok (.ireturn, 1) := by decide +kernel
theorem dX4_endsInComing_0 : decode cX4_endsInComing 0 = .ok (.aload_n 0, 1) := by decide +kernel
theorem dX4_endsInComing_1 : decode cX4_endsInComing 1 = .ok (.iload_n 1, 1) := by decide +kernel
theorem dX4_endsInComing_2 : decode cX4_endsInComing 2 = .ok (.iload_n 2, 1) := by decide +kernel
theorem dX4_endsInComing_3 : decode cX4_endsInComing 3 = .ok (.iload_n 3, 1) := by decide +kernel
theorem dX4_endsInComing_4 : decode cX4_endsInComing 4 = .ok (.iconst 1, 1) := by decide +kernel
theorem dX4_endsInComing_5 : decode cX4_endsInComing 5 = .ok (.invokestatic 37, 3) := by decide +kernel
theorem dX4_endsInComing_8 : decode cX4_endsInComing 8 = .ok (.ireturn, 1) := by decide +kernel
theorem dX4_itComes_0 : decode cX4_itComes 0 = .ok (.iload_n 3, 1) := by decide +kernel
theorem dX4_itComes_1 : decode cX4_itComes 1 = .ok (.ifCond .le 8, 3) := by decide +kernel
theorem dX4_itComes_4 : decode cX4_itComes 4 = .ok (.iload_n 3, 1) := by decide +kernel
theorem dX4_itComes_5 : decode cX4_itComes 5 = .ok (.iconst 4, 1) := by decide +kernel
theorem dX4_itComes_6 : decode cX4_itComes 6 = .ok (.if_icmp .le 19, 3) := by decide +kernel
theorem dX4_itComes_9 : decode cX4_itComes 9 = .ok (.aload_n 0, 1) := by decide +kernel
theorem dX4_itComes_10 : decode cX4_itComes 10 = .ok (.iload_n 1, 1) := by decide +kernel
theorem dX4_itComes_11 : decode cX4_itComes 11 = .ok (.invokevirtual 41, 3) := by decide +kernel
theorem dX4_itComes_14 : decode cX4_itComes 14 = .ok (.iload_n 2, 1) := by decide +kernel
theorem dX4_itComes_15 : decode cX4_itComes 15 = .ok (.iand, 1) := by decide +kernel
theorem dX4_itComes_16 : decode cX4_itComes 16 = .ok (.ifCond .eq 7, 3) := by decide +kernel
theorem dX4_itComes_19 : decode cX4_itComes 19 = .ok (.iconst 1, 1) := by decide +kernel
theorem dX4_itComes_20 : decode cX4_itComes 20 = .ok (.goto 4, 3) := by decide +kernel
theorem dX4_itComes_23 : decode cX4_itComes 23 = .ok (.iconst 0, 1) := by decide +kernel
theorem dX4_itComes_24 : decode cX4_itComes 24 = .ok (.ireturn, 1) := by decide +kernel
theorem dX4_itComes_25 : decode cX4_itComes 25 = .ok (.aload_n 0, 1) := by decide +kernel
theorem dX4_itComes_26 : decode cX4_itComes 26 = .ok (.iload_n 1, 1) := by decide +kernel
theorem dX4_itComes_27 : decode cX4_itComes 27 = .ok (.iload_n 2, 1) := by decide +kernel
theorem dX4_itComes_28 : decode cX4_itComes 28 = .ok (.iload_n 3, 1) := by decide +kernel
theorem dX4_itComes_29 : decode cX4_itComes 29 = .ok (.iconst 1, 1) := by decide +kernel
theorem dX4_itComes_30 : decode cX4_itComes 30 = .ok (.isub, 1) := by decide +kernel
theorem dX4_itComes_31 : decode cX4_itComes 31 = .ok (.iload 4, 2) := by decide +kernel
theorem dX4_itComes_33 : decode cX4_itComes 33 = .ok (.ifCond .ne 7, 3) := by decide +kernel
theorem dX4_itComes_36 : decode cX4_itComes 36 = .ok (.iconst 1, 1) := by decide +kernel
theorem dX4_itComes_37 : decode cX4_itComes 37 = .ok (.goto 4, 3) := by decide +kernel
theorem dX4_itComes_40 : decode cX4_itComes 40 = .ok (.iconst 0, 1) := by decide +kernel
theorem dX4_itComes_41 : decode cX4_itComes 41 = .ok (.invokestatic 37, 3) := by decide +kernel
theorem dX4_itComes_44 : decode cX4_itComes 44 = .ok (.iload 4, 2) := by decide +kernel
theorem dX4_itComes_46 : decode cX4_itComes 46 = .ok (.if_icmp .ne 6, 3) := by decide +kernel
theorem dX4_itComes_49 : decode cX4_itComes 49 = .ok (.iload 4, 2) := by decide +kernel
theorem dX4_itComes_51 : decode cX4_itComes 51 = .ok (.ireturn, 1) := by decide +kernel
theorem dX4_itComes_52 : decode cX4_itComes 52 = .ok (.iconst 0, 1) := by decide +kernel
theorem dX4_itComes_53 : decode cX4_itComes 53 = .ok (.istore 5, 2) := by decide +kernel
theorem dX4_itComes_55 : decode cX4_itComes 55 = .ok (.iload 5, 2) := by decide +kernel
theorem dX4_itComes_57 : decode cX4_itComes 57 = .ok (.bipush 8, 2) := by decide +kernel
theorem dX4_itComes_59 : decode cX4_itComes 59 = .ok (.if_icmp .ge 41, 3) := by decide +kernel
theorem dX4_itComes_62 : decode cX4_itComes 62 = .ok (.aload_n 0, 1) := by decide +kernel
theorem dX4_itComes_63 : decode cX4_itComes 63 = .ok (.iload_n 1, 1) := by decide +kernel
theorem dX4_itComes_64 : decode cX4_itComes 64 = .ok (.iconst 1, 1) := by decide +kernel
theorem dX4_itComes_65 : decode cX4_itComes 65 = .ok (.iload 5, 2) := by decide +kernel
theorem dX4_itComes_67 : decode cX4_itComes 67 = .ok (.ishl, 1) := by decide +kernel
theorem dX4_itComes_68 : decode cX4_itComes 68 = .ok (.ixor, 1) := by decide +kernel
theorem dX4_itComes_69 : decode cX4_itComes 69 = .ok (.iload_n 2, 1) := by decide +kernel
theorem dX4_itComes_70 : decode cX4_itComes 70 = .ok (.iload_n 3, 1) := by decide +kernel
theorem dX4_itComes_71 : decode cX4_itComes 71 = .ok (.iconst 1, 1) := by decide +kernel
theorem dX4_itComes_72 : decode cX4_itComes 72 = .ok (.isub, 1) := by decide +kernel
theorem dX4_itComes_73 : decode cX4_itComes 73 = .ok (.iload 4, 2) := by decide +kernel
theorem dX4_itComes_75 : decode cX4_itComes 75 = .ok (.ifCond .ne 7, 3) := by decide +kernel
theorem dX4_itComes_78 : decode cX4_itComes 78 = .ok (.iconst 1, 1) := by decide +kernel
theorem dX4_itComes_79 : decode cX4_itComes 79 = .ok (.goto 4, 3) := by decide +kernel
theorem dX4_itComes_82 : decode cX4_itComes 82 = .ok (.iconst 0, 1) := by decide +kernel
theorem dX4_itComes_83 : decode cX4_itComes 83 = .ok (.invokestatic 37, 3) := by decide +kernel
theorem dX4_itComes_86 : decode cX4_itComes 86 = .ok (.iload 4, 2) := by decide +kernel
theorem dX4_itComes_88 : decode cX4_itComes 88 = .ok (.if_icmp .ne 6, 3) := by decide +kernel
theorem dX4_itComes_91 : decode cX4_itComes 91 = .ok (.iload 4, 2) := by decide +kernel
theorem dX4_itComes_93 : decode cX4_itComes 93 = .ok (.ireturn, 1) := by decide +kernel
theorem dX4_itComes_94 : decode cX4_itComes 94 = .ok (.iinc 5 1, 3) := by decide +kernel
theorem dX4_itComes_97 : decode cX4_itComes 97 = .ok (.goto (-42), 3) := by decide +kernel
theorem dX4_itComes_100 : decode cX4_itComes 100 = .ok (.iload 4, 2) := by decide +kernel
theorem dX4_itComes_102 : decode cX4_itComes 102 = .ok (.ifCond .ne 7, 3) := by decide +kernel
theorem dX4_itComes_105 : decode cX4_itComes 105 = .ok (.iconst 1, 1) := by decide +kernel
theorem dX4_itComes_106 : decode cX4_itComes 106 = .ok (.goto 4, 3) := by decide +kernel
theorem dX4_itComes_109 : decode cX4_itComes 109 = .ok (.iconst 0, 1) := by decide +kernel
theorem dX4_itComes_110 : decode cX4_itComes 110 = .ok (.ireturn, 1) := by decide +kernel
theorem dX4_firstTouch_0 : decode cX4_firstTouch 0 = .ok (.iload_n 3, 1) := by decide +kernel
theorem dX4_firstTouch_1 : decode cX4_firstTouch 1 = .ok (.ifCond .le 16, 3) := by decide +kernel
theorem dX4_firstTouch_4 : decode cX4_firstTouch 4 = .ok (.aload_n 0, 1) := by decide +kernel
theorem dX4_firstTouch_5 : decode cX4_firstTouch 5 = .ok (.iload_n 1, 1) := by decide +kernel
theorem dX4_firstTouch_6 : decode cX4_firstTouch 6 = .ok (.iload_n 2, 1) := by decide +kernel
theorem dX4_firstTouch_7 : decode cX4_firstTouch 7 = .ok (.iload_n 3, 1) := by decide +kernel
theorem dX4_firstTouch_8 : decode cX4_firstTouch 8 = .ok (.iconst 1, 1) := by decide +kernel
theorem dX4_firstTouch_9 : decode cX4_firstTouch 9 = .ok (.isub, 1) := by decide +kernel
theorem dX4_firstTouch_10 : decode cX4_firstTouch 10 = .ok (.iconst 0, 1) := by decide +kernel
theorem dX4_firstTouch_11 : decode cX4_firstTouch 11 = .ok (.invokestatic 37, 3) := by decide +kernel
theorem dX4_firstTouch_14 : decode cX4_firstTouch 14 = .ok (.ifCond .eq 5, 3) := by decide +kernel
theorem dX4_firstTouch_17 : decode cX4_firstTouch 17 = .ok (.iconst (-1), 1) := by decide +kernel
theorem dX4_firstTouch_18 : decode cX4_firstTouch 18 = .ok (.ireturn, 1) := by decide +kernel
theorem dX4_firstTouch_19 : decode cX4_firstTouch 19 = .ok (.iconst 0, 1) := by decide +kernel
theorem dX4_firstTouch_20 : decode cX4_firstTouch 20 = .ok (.istore 4, 2) := by decide +kernel
theorem dX4_firstTouch_22 : decode cX4_firstTouch 22 = .ok (.iload 4, 2) := by decide +kernel
theorem dX4_firstTouch_24 : decode cX4_firstTouch 24 = .ok (.bipush 8, 2) := by decide +kernel
theorem dX4_firstTouch_26 : decode cX4_firstTouch 26 = .ok (.if_icmp .ge 30, 3) := by decide +kernel
theorem dX4_firstTouch_29 : decode cX4_firstTouch 29 = .ok (.aload_n 0, 1) := by decide +kernel
theorem dX4_firstTouch_30 : decode cX4_firstTouch 30 = .ok (.iload_n 1, 1) := by decide +kernel
theorem dX4_firstTouch_31 : decode cX4_firstTouch 31 = .ok (.iconst 1, 1) := by decide +kernel
theorem dX4_firstTouch_32 : decode cX4_firstTouch 32 = .ok (.iload 4, 2) := by decide +kernel
theorem dX4_firstTouch_34 : decode cX4_firstTouch 34 = .ok (.ishl, 1) := by decide +kernel
theorem dX4_firstTouch_35 : decode cX4_firstTouch 35 = .ok (.ixor, 1) := by decide +kernel
theorem dX4_firstTouch_36 : decode cX4_firstTouch 36 = .ok (.iload_n 2, 1) := by decide +kernel
theorem dX4_firstTouch_37 : decode cX4_firstTouch 37 = .ok (.iload_n 3, 1) := by decide +kernel
theorem dX4_firstTouch_38 : decode cX4_firstTouch 38 = .ok (.iconst 1, 1) := by decide +kernel
theorem dX4_firstTouch_39 : decode cX4_firstTouch 39 = .ok (.isub, 1) := by decide +kernel
theorem dX4_firstTouch_40 : decode cX4_firstTouch 40 = .ok (.iconst 0, 1) := by decide +kernel
theorem dX4_firstTouch_41 : decode cX4_firstTouch 41 = .ok (.invokestatic 37, 3) := by decide +kernel
theorem dX4_firstTouch_44 : decode cX4_firstTouch 44 = .ok (.ifCond .eq 6, 3) := by decide +kernel
theorem dX4_firstTouch_47 : decode cX4_firstTouch 47 = .ok (.iload 4, 2) := by decide +kernel
theorem dX4_firstTouch_49 : decode cX4_firstTouch 49 = .ok (.ireturn, 1) := by decide +kernel
theorem dX4_firstTouch_50 : decode cX4_firstTouch 50 = .ok (.iinc 4 1, 3) := by decide +kernel
theorem dX4_firstTouch_53 : decode cX4_firstTouch 53 = .ok (.goto (-31), 3) := by decide +kernel
theorem dX4_firstTouch_56 : decode cX4_firstTouch 56 = .ok (.iconst (-1), 1) := by decide +kernel
theorem dX4_firstTouch_57 : decode cX4_firstTouch 57 = .ok (.ireturn, 1) := by decide +kernel
theorem dX4_isFewer_0 : decode cX4_isFewer 0 = .ok (.iload_n 1, 1) := by decide +kernel
theorem dX4_isFewer_1 : decode cX4_isFewer 1 = .ok (.iconst (-1), 1) := by decide +kernel
theorem dX4_isFewer_2 : decode cX4_isFewer 2 = .ok (.if_icmp .eq 14, 3) := by decide +kernel
theorem dX4_isFewer_5 : decode cX4_isFewer 5 = .ok (.iload_n 0, 1) := by decide +kernel
theorem dX4_isFewer_6 : decode cX4_isFewer 6 = .ok (.invokestatic 44, 3) := by decide +kernel
theorem dX4_isFewer_9 : decode cX4_isFewer 9 = .ok (.iload_n 1, 1) := by decide +kernel
theorem dX4_isFewer_10 : decode cX4_isFewer 10 = .ok (.invokestatic 44, 3) := by decide +kernel
theorem dX4_isFewer_13 : decode cX4_isFewer 13 = .ok (.if_icmp .ge 7, 3) := by decide +kernel
theorem dX4_isFewer_16 : decode cX4_isFewer 16 = .ok (.iconst 1, 1) := by decide +kernel
theorem dX4_isFewer_17 : decode cX4_isFewer 17 = .ok (.goto 4, 3) := by decide +kernel
theorem dX4_isFewer_20 : decode cX4_isFewer 20 = .ok (.iconst 0, 1) := by decide +kernel
theorem dX4_isFewer_21 : decode cX4_isFewer 21 = .ok (.ireturn, 1) := by decide +kernel
theorem dX4_bigsIn_0 : decode cX4_bigsIn 0 = .ok (.iload_n 1, 1) := by decide +kernel
theorem dX4_bigsIn_1 : decode cX4_bigsIn 1 = .ok (.istore_n 3, 1) := by decide +kernel
theorem dX4_bigsIn_2 : decode cX4_bigsIn 2 = .ok (.iconst 1, 1) := by decide +kernel
theorem dX4_bigsIn_3 : decode cX4_bigsIn 3 = .ok (.istore 4, 2) := by decide +kernel
theorem dX4_bigsIn_5 : decode cX4_bigsIn 5 = .ok (.iload 4, 2) := by decide +kernel
theorem dX4_bigsIn_7 : decode cX4_bigsIn 7 = .ok (.iload_n 2, 1) := by decide +kernel
theorem dX4_bigsIn_8 : decode cX4_bigsIn 8 = .ok (.if_icmp .ge 15, 3) := by decide +kernel
theorem dX4_bigsIn_11 : decode cX4_bigsIn 11 = .ok (.aload_n 0, 1) := by decide +kernel
theorem dX4_bigsIn_12 : decode cX4_bigsIn 12 = .ok (.iload_n 3, 1) := by decide +kernel
theorem dX4_bigsIn_13 : decode cX4_bigsIn 13 = .ok (.invokevirtual 23, 3) := by decide +kernel
theorem dX4_bigsIn_16 : decode cX4_bigsIn 16 = .ok (.istore_n 3, 1) := by decide +kernel
theorem dX4_bigsIn_17 : decode cX4_bigsIn 17 = .ok (.iinc 4 1, 3) := by decide +kernel
theorem dX4_bigsIn_20 : decode cX4_bigsIn 20 = .ok (.goto (-15), 3) := by decide +kernel
theorem dX4_bigsIn_23 : decode cX4_bigsIn 23 = .ok (.aload_n 0, 1) := by decide +kernel
theorem dX4_bigsIn_24 : decode cX4_bigsIn 24 = .ok (.iload_n 3, 1) := by decide +kernel
theorem dX4_bigsIn_25 : decode cX4_bigsIn 25 = .ok (.invokevirtual 41, 3) := by decide +kernel
theorem dX4_bigsIn_28 : decode cX4_bigsIn 28 = .ok (.ireturn, 1) := by decide +kernel
theorem dX4_staysOff_0 : decode cX4_staysOff 0 = .ok (.iload_n 1, 1) := by decide +kernel
theorem dX4_staysOff_1 : decode cX4_staysOff 1 = .ok (.istore 4, 2) := by decide +kernel
theorem dX4_staysOff_3 : decode cX4_staysOff 3 = .ok (.iconst 1, 1) := by decide +kernel
theorem dX4_staysOff_4 : decode cX4_staysOff 4 = .ok (.istore 5, 2) := by decide +kernel
theorem dX4_staysOff_6 : decode cX4_staysOff 6 = .ok (.iload 5, 2) := by decide +kernel
theorem dX4_staysOff_8 : decode cX4_staysOff 8 = .ok (.iload_n 2, 1) := by decide +kernel
theorem dX4_staysOff_9 : decode cX4_staysOff 9 = .ok (.if_icmp .gt 30, 3) := by decide +kernel
theorem dX4_staysOff_12 : decode cX4_staysOff 12 = .ok (.aload_n 0, 1) := by decide +kernel
theorem dX4_staysOff_13 : decode cX4_staysOff 13 = .ok (.iload 4, 2) := by decide +kernel
theorem dX4_staysOff_15 : decode cX4_staysOff 15 = .ok (.invokevirtual 41, 3) := by decide +kernel
theorem dX4_staysOff_18 : decode cX4_staysOff 18 = .ok (.iload_n 3, 1) := by decide +kernel
theorem dX4_staysOff_19 : decode cX4_staysOff 19 = .ok (.iand, 1) := by decide +kernel
theorem dX4_staysOff_20 : decode cX4_staysOff 20 = .ok (.ifCond .eq 5, 3) := by decide +kernel
theorem dX4_staysOff_23 : decode cX4_staysOff 23 = .ok (.iconst 0, 1) := by decide +kernel
theorem dX4_staysOff_24 : decode cX4_staysOff 24 = .ok (.ireturn, 1) := by decide +kernel
theorem dX4_staysOff_25 : decode cX4_staysOff 25 = .ok (.aload_n 0, 1) := by decide +kernel
theorem dX4_staysOff_26 : decode cX4_staysOff 26 = .ok (.iload 4, 2) := by decide +kernel
theorem dX4_staysOff_28 : decode cX4_staysOff 28 = .ok (.invokevirtual 23, 3) := by decide +kernel
theorem dX4_staysOff_31 : decode cX4_staysOff 31 = .ok (.istore 4, 2) := by decide +kernel
theorem dX4_staysOff_33 : decode cX4_staysOff 33 = .ok (.iinc 5 1, 3) := by decide +kernel
theorem dX4_staysOff_36 : decode cX4_staysOff 36 = .ok (.goto (-30), 3) := by decide +kernel
theorem dX4_staysOff_39 : decode cX4_staysOff 39 = .ok (.iconst 1, 1) := by decide +kernel
theorem dX4_staysOff_40 : decode cX4_staysOff 40 = .ok (.ireturn, 1) := by decide +kernel
theorem dX4_weekOf_0 : decode cX4_weekOf 0 = .ok (.iload_n 1, 1) := by decide +kernel
theorem dX4_weekOf_1 : decode cX4_weekOf 1 = .ok (.istore 4, 2) := by decide +kernel
theorem dX4_weekOf_3 : decode cX4_weekOf 3 = .ok (.iconst 0, 1) := by decide +kernel
theorem dX4_weekOf_4 : decode cX4_weekOf 4 = .ok (.istore 5, 2) := by decide +kernel
theorem dX4_weekOf_6 : decode cX4_weekOf 6 = .ok (.iload 5, 2) := by decide +kernel
theorem dX4_weekOf_8 : decode cX4_weekOf 8 = .ok (.iload_n 3, 1) := by decide +kernel
theorem dX4_weekOf_9 : decode cX4_weekOf 9 = .ok (.if_icmp .ge 26, 3) := by decide +kernel
theorem dX4_weekOf_12 : decode cX4_weekOf 12 = .ok (.iload 4, 2) := by decide +kernel
theorem dX4_weekOf_14 : decode cX4_weekOf 14 = .ok (.iload_n 2, 1) := by decide +kernel
theorem dX4_weekOf_15 : decode cX4_weekOf 15 = .ok (.if_icmp .ne 6, 3) := by decide +kernel
theorem dX4_weekOf_18 : decode cX4_weekOf 18 = .ok (.iload 5, 2) := by decide +kernel
theorem dX4_weekOf_20 : decode cX4_weekOf 20 = .ok (.ireturn, 1) := by decide +kernel
theorem dX4_weekOf_21 : decode cX4_weekOf 21 = .ok (.aload_n 0, 1) := by decide +kernel
theorem dX4_weekOf_22 : decode cX4_weekOf 22 = .ok (.iload 4, 2) := by decide +kernel
theorem dX4_weekOf_24 : decode cX4_weekOf 24 = .ok (.invokevirtual 23, 3) := by decide +kernel
theorem dX4_weekOf_27 : decode cX4_weekOf 27 = .ok (.istore 4, 2) := by decide +kernel
theorem dX4_weekOf_29 : decode cX4_weekOf 29 = .ok (.iinc 5 1, 3) := by decide +kernel
theorem dX4_weekOf_32 : decode cX4_weekOf 32 = .ok (.goto (-26), 3) := by decide +kernel
theorem dX4_weekOf_35 : decode cX4_weekOf 35 = .ok (.iconst (-1), 1) := by decide +kernel
theorem dX4_weekOf_36 : decode cX4_weekOf 36 = .ok (.ireturn, 1) := by decide +kernel
theorem dX5_init_0 : decode cX5_init 0 = .ok (.aload_n 0, 1) := by decide +kernel
theorem dX5_init_1 : decode cX5_init 1 = .ok (.invokespecial 3, 3) := by decide +kernel
theorem dX5_init_4 : decode cX5_init 4 = .ok (.aload_n 0, 1) := by decide +kernel
theorem dX5_init_5 : decode cX5_init 5 = .ok (.iconst 0, 1) := by decide +kernel
theorem dX5_init_6 : decode cX5_init 6 = .ok (.putfield 9, 3) := by decide +kernel
theorem dX5_init_9 : decode cX5_init 9 = .ok (.aload_n 0, 1) := by decide +kernel
theorem dX5_init_10 : decode cX5_init 10 = .ok (.iconst (-1), 1) := by decide +kernel
theorem dX5_init_11 : decode cX5_init 11 = .ok (.putfield 15, 3) := by decide +kernel
theorem dX5_init_14 : decode cX5_init 14 = .ok (.return_, 1) := by decide +kernel
theorem dX5_size_0 : decode cX5_size 0 = .ok (.aload_n 0, 1) := by decide +kernel
theorem dX5_size_1 : decode cX5_size 1 = .ok (.getfield 9, 3) := by decide +kernel
theorem dX5_size_4 : decode cX5_size 4 = .ok (.ireturn, 1) := by decide +kernel
theorem dX5_faultPlace_0 : decode cX5_faultPlace 0 = .ok (.aload_n 0, 1) := by decide +kernel
theorem dX5_faultPlace_1 : decode cX5_faultPlace 1 = .ok (.getfield 15, 3) := by decide +kernel
theorem dX5_faultPlace_4 : decode cX5_faultPlace 4 = .ok (.ireturn, 1) := by decide +kernel
theorem dX5_addOne_0 : decode cX5_addOne 0 = .ok (.aload_n 0, 1) := by decide +kernel
theorem dX5_addOne_1 : decode cX5_addOne 1 = .ok (.dup, 1) := by decide +kernel
theorem dX5_addOne_2 : decode cX5_addOne 2 = .ok (.getfield 9, 3) := by decide +kernel
theorem dX5_addOne_5 : decode cX5_addOne 5 = .ok (.iconst 1, 1) := by decide +kernel
theorem dX5_addOne_6 : decode cX5_addOne 6 = .ok (.iadd, 1) := by decide +kernel
theorem dX5_addOne_7 : decode cX5_addOne 7 = .ok (.putfield 9, 3) := by decide +kernel
theorem dX5_addOne_10 : decode cX5_addOne 10 = .ok (.return_, 1) := by decide +kernel
theorem dX5_readFrom_0 : decode cX5_readFrom 0 = .ok (.aload_n 0, 1) := by decide +kernel
theorem dX5_readFrom_1 : decode cX5_readFrom 1 = .ok (.iconst 0, 1) := by decide +kernel
theorem dX5_readFrom_2 : decode cX5_readFrom 2 = .ok (.putfield 9, 3) := by decide +kernel
theorem dX5_readFrom_5 : decode cX5_readFrom 5 = .ok (.aload_n 0, 1) := by decide +kernel
theorem dX5_readFrom_6 : decode cX5_readFrom 6 = .ok (.iconst (-1), 1) := by decide +kernel
theorem dX5_readFrom_7 : decode cX5_readFrom 7 = .ok (.putfield 15, 3) := by decide +kernel
theorem dX5_readFrom_10 : decode cX5_readFrom 10 = .ok (.iconst 0, 1) := by decide +kernel
theorem dX5_readFrom_11 : decode cX5_readFrom 11 = .ok (.istore_n 2, 1) := by decide +kernel
theorem dX5_readFrom_12 : decode cX5_readFrom 12 = .ok (.iconst 0, 1) := by decide +kernel
theorem dX5_readFrom_13 : decode cX5_readFrom 13 = .ok (.istore_n 3, 1) := by decide +kernel
theorem dX5_readFrom_14 : decode cX5_readFrom 14 = .ok (.iload_n 3, 1) := by decide +kernel
theorem dX5_readFrom_15 : decode cX5_readFrom 15 = .ok (.aload_n 1, 1) := by decide +kernel
theorem dX5_readFrom_16 : decode cX5_readFrom 16 = .ok (.invokevirtual 18, 3) := by decide +kernel
theorem dX5_readFrom_19 : decode cX5_readFrom 19 = .ok (.if_icmp .ge 38, 3) := by decide +kernel
theorem dX5_readFrom_22 : decode cX5_readFrom 22 = .ok (.aload_n 0, 1) := by decide +kernel
theorem dX5_readFrom_23 : decode cX5_readFrom 23 = .ok (.getfield 15, 3) := by decide +kernel
theorem dX5_readFrom_26 : decode cX5_readFrom 26 = .ok (.iconst (-1), 1) := by decide +kernel
theorem dX5_readFrom_27 : decode cX5_readFrom 27 = .ok (.if_icmp .ne 30, 3) := by decide +kernel
theorem dX5_readFrom_30 : decode cX5_readFrom 30 = .ok (.aload_n 0, 1) := by decide +kernel
theorem dX5_readFrom_31 : decode cX5_readFrom 31 = .ok (.iload_n 2, 1) := by decide +kernel
theorem dX5_readFrom_32 : decode cX5_readFrom 32 = .ok (.aload_n 1, 1) := by decide +kernel
theorem dX5_readFrom_33 : decode cX5_readFrom 33 = .ok (.iload_n 3, 1) := by decide +kernel
theorem dX5_readFrom_34 : decode cX5_readFrom 34 = .ok (.invokevirtual 24, 3) := by decide +kernel
theorem dX5_readFrom_37 : decode cX5_readFrom 37 = .ok (.invokevirtual 28, 3) := by decide +kernel
theorem dX5_readFrom_40 : decode cX5_readFrom 40 = .ok (.istore_n 2, 1) := by decide +kernel
theorem dX5_readFrom_41 : decode cX5_readFrom 41 = .ok (.iload_n 2, 1) := by decide +kernel
theorem dX5_readFrom_42 : decode cX5_readFrom 42 = .ok (.iconst (-1), 1) := by decide +kernel
theorem dX5_readFrom_43 : decode cX5_readFrom 43 = .ok (.if_icmp .ne 8, 3) := by decide +kernel
theorem dX5_readFrom_46 : decode cX5_readFrom 46 = .ok (.aload_n 0, 1) := by decide +kernel
theorem dX5_readFrom_47 : decode cX5_readFrom 47 = .ok (.iload_n 3, 1) := by decide +kernel
theorem dX5_readFrom_48 : decode cX5_readFrom 48 = .ok (.putfield 15, 3) := by decide +kernel
theorem dX5_readFrom_51 : decode cX5_readFrom 51 = .ok (.iinc 3 1, 3) := by decide +kernel
theorem dX5_readFrom_54 : decode cX5_readFrom 54 = .ok (.goto (-40), 3) := by decide +kernel
theorem dX5_readFrom_57 : decode cX5_readFrom 57 = .ok (.aload_n 0, 1) := by decide +kernel
theorem dX5_readFrom_58 : decode cX5_readFrom 58 = .ok (.getfield 15, 3) := by decide +kernel
theorem dX5_readFrom_61 : decode cX5_readFrom 61 = .ok (.iconst (-1), 1) := by decide +kernel
theorem dX5_readFrom_62 : decode cX5_readFrom 62 = .ok (.if_icmp .ne 23, 3) := by decide +kernel
theorem dX5_readFrom_65 : decode cX5_readFrom 65 = .ok (.iload_n 2, 1) := by decide +kernel
theorem dX5_readFrom_66 : decode cX5_readFrom 66 = .ok (.iconst 1, 1) := by decide +kernel
theorem dX5_readFrom_67 : decode cX5_readFrom 67 = .ok (.if_icmp .eq 18, 3) := by decide +kernel
theorem dX5_readFrom_70 : decode cX5_readFrom 70 = .ok (.aload_n 1, 1) := by decide +kernel
theorem dX5_readFrom_71 : decode cX5_readFrom 71 = .ok (.invokevirtual 18, 3) := by decide +kernel
theorem dX5_readFrom_74 : decode cX5_readFrom 74 = .ok (.ifCond .le 11, 3) := by decide +kernel
theorem dX5_readFrom_77 : decode cX5_readFrom 77 = .ok (.aload_n 0, 1) := by decide +kernel
theorem dX5_readFrom_78 : decode cX5_readFrom 78 = .ok (.aload_n 1, 1) := by decide +kernel
theorem dX5_readFrom_79 : decode cX5_readFrom 79 = .ok (.invokevirtual 18, 3) := by decide +kernel
theorem dX5_readFrom_82 : decode cX5_readFrom 82 = .ok (.putfield 15, 3) := by decide +kernel
theorem dX5_readFrom_85 : decode cX5_readFrom 85 = .ok (.aload_n 0, 1) := by decide +kernel
theorem dX5_readFrom_86 : decode cX5_readFrom 86 = .ok (.getfield 15, 3) := by decide +kernel
theorem dX5_readFrom_89 : decode cX5_readFrom 89 = .ok (.iconst (-1), 1) := by decide +kernel
theorem dX5_readFrom_90 : decode cX5_readFrom 90 = .ok (.if_icmp .eq 8, 3) := by decide +kernel
theorem dX5_readFrom_93 : decode cX5_readFrom 93 = .ok (.aload_n 0, 1) := by decide +kernel
theorem dX5_readFrom_94 : decode cX5_readFrom 94 = .ok (.iconst 0, 1) := by decide +kernel
theorem dX5_readFrom_95 : decode cX5_readFrom 95 = .ok (.putfield 9, 3) := by decide +kernel
theorem dX5_readFrom_98 : decode cX5_readFrom 98 = .ok (.return_, 1) := by decide +kernel
theorem dX6_init_0 : decode cX6_init 0 = .ok (.aload_n 0, 1) := by decide +kernel
theorem dX6_init_1 : decode cX6_init 1 = .ok (.invokespecial 3, 3) := by decide +kernel
theorem dX6_init_4 : decode cX6_init 4 = .ok (.aload_n 0, 1) := by decide +kernel
theorem dX6_init_5 : decode cX6_init 5 = .ok (.bipush 8, 2) := by decide +kernel
theorem dX6_init_7 : decode cX6_init 7 = .ok (.newarray .int, 2) := by decide +kernel
theorem dX6_init_9 : decode cX6_init 9 = .ok (.putfield 9, 3) := by decide +kernel
theorem dX6_init_12 : decode cX6_init 12 = .ok (.aload_n 0, 1) := by decide +kernel
theorem dX6_init_13 : decode cX6_init 13 = .ok (.bipush 8, 2) := by decide +kernel
theorem dX6_init_15 : decode cX6_init 15 = .ok (.newarray .int, 2) := by decide +kernel
theorem dX6_init_17 : decode cX6_init 17 = .ok (.putfield 15, 3) := by decide +kernel
theorem dX6_init_20 : decode cX6_init 20 = .ok (.aload_n 0, 1) := by decide +kernel
theorem dX6_init_21 : decode cX6_init 21 = .ok (.iconst 0, 1) := by decide +kernel
theorem dX6_init_22 : decode cX6_init 22 = .ok (.putfield 18, 3) := by decide +kernel
theorem dX6_init_25 : decode cX6_init 25 = .ok (.return_, 1) := by decide +kernel
theorem dX6_size_0 : decode cX6_size 0 = .ok (.aload_n 0, 1) := by decide +kernel
theorem dX6_size_1 : decode cX6_size 1 = .ok (.getfield 18, 3) := by decide +kernel
theorem dX6_size_4 : decode cX6_size 4 = .ok (.ireturn, 1) := by decide +kernel
theorem dX6_clear_0 : decode cX6_clear 0 = .ok (.aload_n 0, 1) := by decide +kernel
theorem dX6_clear_1 : decode cX6_clear 1 = .ok (.iconst 0, 1) := by decide +kernel
theorem dX6_clear_2 : decode cX6_clear 2 = .ok (.putfield 18, 3) := by decide +kernel
theorem dX6_clear_5 : decode cX6_clear 5 = .ok (.return_, 1) := by decide +kernel
theorem dX6_addSight_0 : decode cX6_addSight 0 = .ok (.aload_n 0, 1) := by decide +kernel
theorem dX6_addSight_1 : decode cX6_addSight 1 = .ok (.getfield 18, 3) := by decide +kernel
theorem dX6_addSight_4 : decode cX6_addSight 4 = .ok (.ifCond .lt 12, 3) := by decide +kernel
theorem dX6_addSight_7 : decode cX6_addSight 7 = .ok (.aload_n 0, 1) := by decide +kernel
theorem dX6_addSight_8 : decode cX6_addSight 8 = .ok (.getfield 18, 3) := by decide +kernel
theorem dX6_addSight_11 : decode cX6_addSight 11 = .ok (.bipush 8, 2) := by decide +kernel
theorem dX6_addSight_13 : decode cX6_addSight 13 = .ok (.if_icmp .lt 5, 3) := by decide +kernel
theorem dX6_addSight_16 : decode cX6_addSight 16 = .ok (.iconst 0, 1) := by decide +kernel
theorem dX6_addSight_17 : decode cX6_addSight 17 = .ok (.ireturn, 1) := by decide +kernel
theorem dX6_addSight_18 : decode cX6_addSight 18 = .ok (.aload_n 0, 1) := by decide +kernel
theorem dX6_addSight_19 : decode cX6_addSight 19 = .ok (.getfield 9, 3) := by decide +kernel
theorem dX6_addSight_22 : decode cX6_addSight 22 = .ok (.aload_n 0, 1) := by decide +kernel
theorem dX6_addSight_23 : decode cX6_addSight 23 = .ok (.getfield 18, 3) := by decide +kernel
theorem dX6_addSight_26 : decode cX6_addSight 26 = .ok (.iload_n 1, 1) := by decide +kernel
theorem dX6_addSight_27 : decode cX6_addSight 27 = .ok (.iastore, 1) := by decide +kernel
theorem dX6_addSight_28 : decode cX6_addSight 28 = .ok (.aload_n 0, 1) := by decide +kernel
theorem dX6_addSight_29 : decode cX6_addSight 29 = .ok (.getfield 15, 3) := by decide +kernel
theorem dX6_addSight_32 : decode cX6_addSight 32 = .ok (.aload_n 0, 1) := by decide +kernel
theorem dX6_addSight_33 : decode cX6_addSight 33 = .ok (.getfield 18, 3) := by decide +kernel
theorem dX6_addSight_36 : decode cX6_addSight 36 = .ok (.iload_n 2, 1) := by decide +kernel
theorem dX6_addSight_37 : decode cX6_addSight 37 = .ok (.iastore, 1) := by decide +kernel
theorem dX6_addSight_38 : decode cX6_addSight 38 = .ok (.aload_n 0, 1) := by decide +kernel
theorem dX6_addSight_39 : decode cX6_addSight 39 = .ok (.dup, 1) := by decide +kernel
theorem dX6_addSight_40 : decode cX6_addSight 40 = .ok (.getfield 18, 3) := by decide +kernel
theorem dX6_addSight_43 : decode cX6_addSight 43 = .ok (.iconst 1, 1) := by decide +kernel
theorem dX6_addSight_44 : decode cX6_addSight 44 = .ok (.iadd, 1) := by decide +kernel
theorem dX6_addSight_45 : decode cX6_addSight 45 = .ok (.putfield 18, 3) := by decide +kernel
theorem dX6_addSight_48 : decode cX6_addSight 48 = .ok (.iconst 1, 1) := by decide +kernel
theorem dX6_addSight_49 : decode cX6_addSight 49 = .ok (.ireturn, 1) := by decide +kernel
theorem dX6_howManyStand_0 : decode cX6_howManyStand 0 = .ok (.iconst 0, 1) := by decide +kernel
theorem dX6_howManyStand_1 : decode cX6_howManyStand 1 = .ok (.istore_n 2, 1) := by decide +kernel
theorem dX6_howManyStand_2 : decode cX6_howManyStand 2 = .ok (.iconst 0, 1) := by decide +kernel
theorem dX6_howManyStand_3 : decode cX6_howManyStand 3 = .ok (.istore_n 3, 1) := by decide +kernel
theorem dX6_howManyStand_4 : decode cX6_howManyStand 4 = .ok (.iload_n 3, 1) := by decide +kernel
theorem dX6_howManyStand_5 : decode cX6_howManyStand 5 = .ok (.sipush 256, 3) := by decide +kernel
theorem dX6_howManyStand_8 : decode cX6_howManyStand 8 = .ok (.if_icmp .ge 21, 3) := by decide +kernel
theorem dX6_howManyStand_11 : decode cX6_howManyStand 11 = .ok (.aload_n 0, 1) := by decide +kernel
theorem dX6_howManyStand_12 : decode cX6_howManyStand 12 = .ok (.iload_n 3, 1) := by decide +kernel
theorem dX6_howManyStand_13 : decode cX6_howManyStand 13 = .ok (.iload_n 1, 1) := by decide +kernel
theorem dX6_howManyStand_14 : decode cX6_howManyStand 14 = .ok (.invokevirtual 22, 3) := by decide +kernel
theorem dX6_howManyStand_17 : decode cX6_howManyStand 17 = .ok (.ifCond .eq 6, 3) := by decide +kernel
theorem dX6_howManyStand_20 : decode cX6_howManyStand 20 = .ok (.iinc 2 1, 3) := by decide +kernel
theorem dX6_howManyStand_23 : decode cX6_howManyStand 23 = .ok (.iinc 3 1, 3) := by decide +kernel
theorem dX6_howManyStand_26 : decode cX6_howManyStand 26 = .ok (.goto (-22), 3) := by decide +kernel
theorem dX6_howManyStand_29 : decode cX6_howManyStand 29 = .ok (.iload_n 2, 1) := by decide +kernel
theorem dX6_howManyStand_30 : decode cX6_howManyStand 30 = .ok (.ireturn, 1) := by decide +kernel
theorem dX6_fewestStand_0 : decode cX6_fewestStand 0 = .ok (.iconst (-1), 1) := by decide +kernel
theorem dX6_fewestStand_1 : decode cX6_fewestStand 1 = .ok (.istore_n 2, 1) := by decide +kernel
theorem dX6_fewestStand_2 : decode cX6_fewestStand 2 = .ok (.iconst 0, 1) := by decide +kernel
theorem dX6_fewestStand_3 : decode cX6_fewestStand 3 = .ok (.istore_n 3, 1) := by decide +kernel
theorem dX6_fewestStand_4 : decode cX6_fewestStand 4 = .ok (.iload_n 3, 1) := by decide +kernel
theorem dX6_fewestStand_5 : decode cX6_fewestStand 5 = .ok (.sipush 256, 3) := by decide +kernel
theorem dX6_fewestStand_8 : decode cX6_fewestStand 8 = .ok (.if_icmp .ge 36, 3) := by decide +kernel
theorem dX6_fewestStand_11 : decode cX6_fewestStand 11 = .ok (.iload_n 2, 1) := by decide +kernel
theorem dX6_fewestStand_12 : decode cX6_fewestStand 12 = .ok (.iconst (-1), 1) := by decide +kernel
theorem dX6_fewestStand_13 : decode cX6_fewestStand 13 = .ok (.if_icmp .eq 14, 3) := by decide +kernel
theorem dX6_fewestStand_16 : decode cX6_fewestStand 16 = .ok (.iload_n 3, 1) := by decide +kernel
theorem dX6_fewestStand_17 : decode cX6_fewestStand 17 = .ok (.invokestatic 26, 3) := by decide +kernel
theorem dX6_fewestStand_20 : decode cX6_fewestStand 20 = .ok (.iload_n 2, 1) := by decide +kernel
theorem dX6_fewestStand_21 : decode cX6_fewestStand 21 = .ok (.invokestatic 26, 3) := by decide +kernel
theorem dX6_fewestStand_24 : decode cX6_fewestStand 24 = .ok (.if_icmp .ge 14, 3) := by decide +kernel
theorem dX6_fewestStand_27 : decode cX6_fewestStand 27 = .ok (.aload_n 0, 1) := by decide +kernel
theorem dX6_fewestStand_28 : decode cX6_fewestStand 28 = .ok (.iload_n 3, 1) := by decide +kernel
theorem dX6_fewestStand_29 : decode cX6_fewestStand 29 = .ok (.iload_n 1, 1) := by decide +kernel
theorem dX6_fewestStand_30 : decode cX6_fewestStand 30 = .ok (.invokevirtual 22, 3) := by decide +kernel
theorem dX6_fewestStand_33 : decode cX6_fewestStand 33 = .ok (.ifCond .eq 5, 3) := by decide +kernel
theorem dX6_fewestStand_36 : decode cX6_fewestStand 36 = .ok (.iload_n 3, 1) := by decide +kernel
theorem dX6_fewestStand_37 : decode cX6_fewestStand 37 = .ok (.istore_n 2, 1) := by decide +kernel
theorem dX6_fewestStand_38 : decode cX6_fewestStand 38 = .ok (.iinc 3 1, 3) := by decide +kernel
theorem dX6_fewestStand_41 : decode cX6_fewestStand 41 = .ok (.goto (-37), 3) := by decide +kernel
theorem dX6_fewestStand_44 : decode cX6_fewestStand 44 = .ok (.iload_n 2, 1) := by decide +kernel
theorem dX6_fewestStand_45 : decode cX6_fewestStand 45 = .ok (.ireturn, 1) := by decide +kernel
theorem dX6_nearestHalf_0 : decode cX6_nearestHalf 0 = .ok (.aload_n 0, 1) := by decide +kernel
theorem dX6_nearestHalf_1 : decode cX6_nearestHalf 1 = .ok (.iload_n 1, 1) := by decide +kernel
theorem dX6_nearestHalf_2 : decode cX6_nearestHalf 2 = .ok (.invokevirtual 32, 3) := by decide +kernel
theorem dX6_nearestHalf_5 : decode cX6_nearestHalf 5 = .ok (.istore_n 2, 1) := by decide +kernel
theorem dX6_nearestHalf_6 : decode cX6_nearestHalf 6 = .ok (.iload_n 2, 1) := by decide +kernel
theorem dX6_nearestHalf_7 : decode cX6_nearestHalf 7 = .ok (.ifCond .ne 5, 3) := by decide +kernel
theorem dX6_nearestHalf_10 : decode cX6_nearestHalf 10 = .ok (.iconst (-1), 1) := by decide +kernel
theorem dX6_nearestHalf_11 : decode cX6_nearestHalf 11 = .ok (.ireturn, 1) := by decide +kernel
theorem dX6_nearestHalf_12 : decode cX6_nearestHalf 12 = .ok (.iconst (-1), 1) := by decide +kernel
theorem dX6_nearestHalf_13 : decode cX6_nearestHalf 13 = .ok (.istore_n 3, 1) := by decide +kernel
theorem dX6_nearestHalf_14 : decode cX6_nearestHalf 14 = .ok (.iconst 0, 1) := by decide +kernel
theorem dX6_nearestHalf_15 : decode cX6_nearestHalf 15 = .ok (.istore 4, 2) := by decide +kernel
theorem dX6_nearestHalf_17 : decode cX6_nearestHalf 17 = .ok (.iconst 0, 1) := by decide +kernel
theorem dX6_nearestHalf_18 : decode cX6_nearestHalf 18 = .ok (.istore 5, 2) := by decide +kernel
theorem dX6_nearestHalf_20 : decode cX6_nearestHalf 20 = .ok (.iload 5, 2) := by decide +kernel
theorem dX6_nearestHalf_22 : decode cX6_nearestHalf 22 = .ok (.bipush 8, 2) := by decide +kernel
theorem dX6_nearestHalf_24 : decode cX6_nearestHalf 24 = .ok (.if_icmp .ge 44, 3) := by decide +kernel
theorem dX6_nearestHalf_27 : decode cX6_nearestHalf 27 = .ok (.iconst 2, 1) := by decide +kernel
theorem dX6_nearestHalf_28 : decode cX6_nearestHalf 28 = .ok (.aload_n 0, 1) := by decide +kernel
theorem dX6_nearestHalf_29 : decode cX6_nearestHalf 29 = .ok (.iload_n 1, 1) := by decide +kernel
theorem dX6_nearestHalf_30 : decode cX6_nearestHalf 30 = .ok (.iload 5, 2) := by decide +kernel
theorem dX6_nearestHalf_32 : decode cX6_nearestHalf 32 = .ok (.invokevirtual 35, 3) := by decide +kernel
theorem dX6_nearestHalf_35 : decode cX6_nearestHalf 35 = .ok (.imul, 1) := by decide +kernel
theorem dX6_nearestHalf_36 : decode cX6_nearestHalf 36 = .ok (.iload_n 2, 1) := by decide +kernel
theorem dX6_nearestHalf_37 : decode cX6_nearestHalf 37 = .ok (.isub, 1) := by decide +kernel
theorem dX6_nearestHalf_38 : decode cX6_nearestHalf 38 = .ok (.invokestatic 39, 3) := by decide +kernel
theorem dX6_nearestHalf_41 : decode cX6_nearestHalf 41 = .ok (.istore 6, 2) := by decide +kernel
theorem dX6_nearestHalf_43 : decode cX6_nearestHalf 43 = .ok (.iload_n 3, 1) := by decide +kernel
theorem dX6_nearestHalf_44 : decode cX6_nearestHalf 44 = .ok (.iconst (-1), 1) := by decide +kernel
theorem dX6_nearestHalf_45 : decode cX6_nearestHalf 45 = .ok (.if_icmp .eq 10, 3) := by decide +kernel
theorem dX6_nearestHalf_48 : decode cX6_nearestHalf 48 = .ok (.iload 6, 2) := by decide +kernel
theorem dX6_nearestHalf_50 : decode cX6_nearestHalf 50 = .ok (.iload 4, 2) := by decide +kernel
theorem dX6_nearestHalf_52 : decode cX6_nearestHalf 52 = .ok (.if_icmp .ge 10, 3) := by decide +kernel
theorem dX6_nearestHalf_55 : decode cX6_nearestHalf 55 = .ok (.iload 5, 2) := by decide +kernel
theorem dX6_nearestHalf_57 : decode cX6_nearestHalf 57 = .ok (.istore_n 3, 1) := by decide +kernel
theorem dX6_nearestHalf_58 : decode cX6_nearestHalf 58 = .ok (.iload 6, 2) := by decide +kernel
theorem dX6_nearestHalf_60 : decode cX6_nearestHalf 60 = .ok (.istore 4, 2) := by decide +kernel
theorem dX6_nearestHalf_62 : decode cX6_nearestHalf 62 = .ok (.iinc 5 1, 3) := by decide +kernel
theorem dX6_nearestHalf_65 : decode cX6_nearestHalf 65 = .ok (.goto (-45), 3) := by decide +kernel
theorem dX6_nearestHalf_68 : decode cX6_nearestHalf 68 = .ok (.iload_n 3, 1) := by decide +kernel
theorem dX6_nearestHalf_69 : decode cX6_nearestHalf 69 = .ok (.ireturn, 1) := by decide +kernel
theorem dX6_howManyStandWith_0 : decode cX6_howManyStandWith 0 = .ok (.iconst 0, 1) := by decide +kernel
theorem dX6_howManyStandWith_1 : decode cX6_howManyStandWith 1 = .ok (.istore_n 3, 1) := by decide +kernel
theorem dX6_howManyStandWith_2 : decode cX6_howManyStandWith 2 = .ok (.iconst 0, 1) := by decide +kernel
theorem dX6_howManyStandWith_3 : decode cX6_howManyStandWith 3 = .ok (.istore 4, 2) := by decide +kernel
theorem dX6_howManyStandWith_5 : decode cX6_howManyStandWith 5 = .ok (.iload 4, 2) := by decide +kernel
theorem dX6_howManyStandWith_7 : decode cX6_howManyStandWith 7 = .ok (.sipush 256, 3) := by decide +kernel
theorem dX6_howManyStandWith_10 : decode cX6_howManyStandWith 10 = .ok (.if_icmp .ge 32, 3) := by decide +kernel
theorem dX6_howManyStandWith_13 : decode cX6_howManyStandWith 13 = .ok (.iload 4, 2) := by decide +kernel
theorem dX6_howManyStandWith_15 : decode cX6_howManyStandWith 15 = .ok (.iload_n 2, 1) := by decide +kernel
theorem dX6_howManyStandWith_16 : decode cX6_howManyStandWith 16 = .ok (.ishr, 1) := by decide +kernel
theorem dX6_howManyStandWith_17 : decode cX6_howManyStandWith 17 = .ok (.iconst 1, 1) := by decide +kernel
theorem dX6_howManyStandWith_18 : decode cX6_howManyStandWith 18 = .ok (.iand, 1) := by decide +kernel
theorem dX6_howManyStandWith_19 : decode cX6_howManyStandWith 19 = .ok (.iconst 1, 1) := by decide +kernel
theorem dX6_howManyStandWith_20 : decode cX6_howManyStandWith 20 = .ok (.if_icmp .ne 16, 3) := by decide +kernel
theorem dX6_howManyStandWith_23 : decode cX6_howManyStandWith 23 = .ok (.aload_n 0, 1) := by decide +kernel
theorem dX6_howManyStandWith_24 : decode cX6_howManyStandWith 24 = .ok (.iload 4, 2) := by decide +kernel
theorem dX6_howManyStandWith_26 : decode cX6_howManyStandWith 26 = .ok (.iload_n 1, 1) := by decide +kernel
theorem dX6_howManyStandWith_27 : decode cX6_howManyStandWith 27 = .ok (.invokevirtual 22, 3) := by decide +kernel
theorem dX6_howManyStandWith_30 : decode cX6_howManyStandWith 30 = .ok (.ifCond .eq 6, 3) := by decide +kernel
theorem dX6_howManyStandWith_33 : decode cX6_howManyStandWith 33 = .ok (.iinc 3 1, 3) := by decide +kernel
theorem dX6_howManyStandWith_36 : decode cX6_howManyStandWith 36 = .ok (.iinc 4 1, 3) := by decide +kernel
theorem dX6_howManyStandWith_39 : decode cX6_howManyStandWith 39 = .ok (.goto (-34), 3) := by decide +kernel
theorem dX6_howManyStandWith_42 : decode cX6_howManyStandWith 42 = .ok (.iload_n 3, 1) := by decide +kernel
theorem dX6_howManyStandWith_43 : decode cX6_howManyStandWith 43 = .ok (.ireturn, 1) := by decide +kernel
theorem dX6_mayStand_0 : decode cX6_mayStand 0 = .ok (.iconst 0, 1) := by decide +kernel
theorem dX6_mayStand_1 : decode cX6_mayStand 1 = .ok (.istore_n 3, 1) := by decide +kernel
theorem dX6_mayStand_2 : decode cX6_mayStand 2 = .ok (.iload_n 3, 1) := by decide +kernel
theorem dX6_mayStand_3 : decode cX6_mayStand 3 = .ok (.aload_n 0, 1) := by decide +kernel
theorem dX6_mayStand_4 : decode cX6_mayStand 4 = .ok (.getfield 18, 3) := by decide +kernel
theorem dX6_mayStand_7 : decode cX6_mayStand 7 = .ok (.if_icmp .ge 59, 3) := by decide +kernel
theorem dX6_mayStand_10 : decode cX6_mayStand 10 = .ok (.iload_n 3, 1) := by decide +kernel
theorem dX6_mayStand_11 : decode cX6_mayStand 11 = .ok (.bipush 8, 2) := by decide +kernel
theorem dX6_mayStand_13 : decode cX6_mayStand 13 = .ok (.if_icmp .ge 53, 3) := by decide +kernel
theorem dX6_mayStand_16 : decode cX6_mayStand 16 = .ok (.aload_n 0, 1) := by decide +kernel
theorem dX6_mayStand_17 : decode cX6_mayStand 17 = .ok (.getfield 15, 3) := by decide +kernel
theorem dX6_mayStand_20 : decode cX6_mayStand 20 = .ok (.iload_n 3, 1) := by decide +kernel
theorem dX6_mayStand_21 : decode cX6_mayStand 21 = .ok (.iaload, 1) := by decide +kernel
theorem dX6_mayStand_22 : decode cX6_mayStand 22 = .ok (.iload_n 2, 1) := by decide +kernel
theorem dX6_mayStand_23 : decode cX6_mayStand 23 = .ok (.ishr, 1) := by decide +kernel
theorem dX6_mayStand_24 : decode cX6_mayStand 24 = .ok (.iconst 1, 1) := by decide +kernel
theorem dX6_mayStand_25 : decode cX6_mayStand 25 = .ok (.iand, 1) := by decide +kernel
theorem dX6_mayStand_26 : decode cX6_mayStand 26 = .ok (.iconst 1, 1) := by decide +kernel
theorem dX6_mayStand_27 : decode cX6_mayStand 27 = .ok (.if_icmp .ne 7, 3) := by decide +kernel
theorem dX6_mayStand_30 : decode cX6_mayStand 30 = .ok (.iconst 1, 1) := by decide +kernel
theorem dX6_mayStand_31 : decode cX6_mayStand 31 = .ok (.goto 4, 3) := by decide +kernel
theorem dX6_mayStand_34 : decode cX6_mayStand 34 = .ok (.iconst 0, 1) := by decide +kernel
theorem dX6_mayStand_35 : decode cX6_mayStand 35 = .ok (.istore 4, 2) := by decide +kernel
theorem dX6_mayStand_37 : decode cX6_mayStand 37 = .ok (.iload 4, 2) := by decide +kernel
theorem dX6_mayStand_39 : decode cX6_mayStand 39 = .ok (.aload_n 0, 1) := by decide +kernel
theorem dX6_mayStand_40 : decode cX6_mayStand 40 = .ok (.getfield 9, 3) := by decide +kernel
theorem dX6_mayStand_43 : decode cX6_mayStand 43 = .ok (.iload_n 3, 1) := by decide +kernel
theorem dX6_mayStand_44 : decode cX6_mayStand 44 = .ok (.iaload, 1) := by decide +kernel
theorem dX6_mayStand_45 : decode cX6_mayStand 45 = .ok (.iload_n 1, 1) := by decide +kernel
theorem dX6_mayStand_46 : decode cX6_mayStand 46 = .ok (.iand, 1) := by decide +kernel
theorem dX6_mayStand_47 : decode cX6_mayStand 47 = .ok (.ifCond .eq 7, 3) := by decide +kernel
theorem dX6_mayStand_50 : decode cX6_mayStand 50 = .ok (.iconst 1, 1) := by decide +kernel
theorem dX6_mayStand_51 : decode cX6_mayStand 51 = .ok (.goto 4, 3) := by decide +kernel
theorem dX6_mayStand_54 : decode cX6_mayStand 54 = .ok (.iconst 0, 1) := by decide +kernel
theorem dX6_mayStand_55 : decode cX6_mayStand 55 = .ok (.if_icmp .eq 5, 3) := by decide +kernel
theorem dX6_mayStand_58 : decode cX6_mayStand 58 = .ok (.iconst 0, 1) := by decide +kernel
theorem dX6_mayStand_59 : decode cX6_mayStand 59 = .ok (.ireturn, 1) := by decide +kernel
theorem dX6_mayStand_60 : decode cX6_mayStand 60 = .ok (.iinc 3 1, 3) := by decide +kernel
theorem dX6_mayStand_63 : decode cX6_mayStand 63 = .ok (.goto (-61), 3) := by decide +kernel
theorem dX6_mayStand_66 : decode cX6_mayStand 66 = .ok (.iconst 1, 1) := by decide +kernel
theorem dX6_mayStand_67 : decode cX6_mayStand 67 = .ok (.ireturn, 1) := by decide +kernel
theorem dX7_init_0 : decode cX7_init 0 = .ok (.aload_n 0, 1) := by decide +kernel
theorem dX7_init_1 : decode cX7_init 1 = .ok (.invokespecial 3, 3) := by decide +kernel
theorem dX7_init_4 : decode cX7_init 4 = .ok (.aload_n 0, 1) := by decide +kernel
theorem dX7_init_5 : decode cX7_init 5 = .ok (.bipush 60, 2) := by decide +kernel
theorem dX7_init_7 : decode cX7_init 7 = .ok (.newarray .int, 2) := by decide +kernel
theorem dX7_init_9 : decode cX7_init 9 = .ok (.putfield 9, 3) := by decide +kernel
theorem dX7_init_12 : decode cX7_init 12 = .ok (.aload_n 0, 1) := by decide +kernel
theorem dX7_init_13 : decode cX7_init 13 = .ok (.iconst 0, 1) := by decide +kernel
theorem dX7_init_14 : decode cX7_init 14 = .ok (.putfield 15, 3) := by decide +kernel
theorem dX7_init_17 : decode cX7_init 17 = .ok (.aload_n 0, 1) := by decide +kernel
theorem dX7_init_18 : decode cX7_init 18 = .ok (.iconst 0, 1) := by decide +kernel
theorem dX7_init_19 : decode cX7_init 19 = .ok (.putfield 19, 3) := by decide +kernel
theorem dX7_init_22 : decode cX7_init 22 = .ok (.aload_n 0, 1) := by decide +kernel
theorem dX7_init_23 : decode cX7_init 23 = .ok (.iconst 1, 1) := by decide +kernel
theorem dX7_init_24 : decode cX7_init 24 = .ok (.putfield 22, 3) := by decide +kernel
theorem dX7_init_27 : decode cX7_init 27 = .ok (.return_, 1) := by decide +kernel
theorem dX7_isLost_0 : decode cX7_isLost 0 = .ok (.aload_n 0, 1) := by decide +kernel
theorem dX7_isLost_1 : decode cX7_isLost 1 = .ok (.getfield 22, 3) := by decide +kernel
theorem dX7_isLost_4 : decode cX7_isLost 4 = .ok (.ireturn, 1) := by decide +kernel
theorem dX7_formOf_0 : decode cX7_formOf 0 = .ok (.aload_n 0, 1) := by decide +kernel
theorem dX7_formOf_1 : decode cX7_formOf 1 = .ok (.getfield 15, 3) := by decide +kernel
theorem dX7_formOf_4 : decode cX7_formOf 4 = .ok (.ireturn, 1) := by decide +kernel
theorem dX7_size_0 : decode cX7_size 0 = .ok (.aload_n 0, 1) := by decide +kernel
theorem dX7_size_1 : decode cX7_size 1 = .ok (.getfield 19, 3) := by decide +kernel
theorem dX7_size_4 : decode cX7_size 4 = .ok (.ireturn, 1) := by decide +kernel
theorem dX7_begin_0 : decode cX7_begin 0 = .ok (.aload_n 0, 1) := by decide +kernel
theorem dX7_begin_1 : decode cX7_begin 1 = .ok (.iload_n 1, 1) := by decide +kernel
theorem dX7_begin_2 : decode cX7_begin 2 = .ok (.putfield 15, 3) := by decide +kernel
theorem dX7_begin_5 : decode cX7_begin 5 = .ok (.aload_n 0, 1) := by decide +kernel
theorem dX7_begin_6 : decode cX7_begin 6 = .ok (.iconst 0, 1) := by decide +kernel
theorem dX7_begin_7 : decode cX7_begin 7 = .ok (.iload_n 2, 1) := by decide +kernel
theorem dX7_begin_8 : decode cX7_begin 8 = .ok (.bipush 60, 2) := by decide +kernel
theorem dX7_begin_10 : decode cX7_begin 10 = .ok (.invokestatic 26, 3) := by decide +kernel
theorem dX7_begin_13 : decode cX7_begin 13 = .ok (.invokestatic 32, 3) := by decide +kernel
theorem dX7_begin_16 : decode cX7_begin 16 = .ok (.putfield 19, 3) := by decide +kernel
theorem dX7_begin_19 : decode cX7_begin 19 = .ok (.aload_n 0, 1) := by decide +kernel
theorem dX7_begin_20 : decode cX7_begin 20 = .ok (.iconst 0, 1) := by decide +kernel
theorem dX7_begin_21 : decode cX7_begin 21 = .ok (.putfield 22, 3) := by decide +kernel
theorem dX7_begin_24 : decode cX7_begin 24 = .ok (.iconst 0, 1) := by decide +kernel
theorem dX7_begin_25 : decode cX7_begin 25 = .ok (.istore_n 3, 1) := by decide +kernel
theorem dX7_begin_26 : decode cX7_begin 26 = .ok (.iload_n 3, 1) := by decide +kernel
theorem dX7_begin_27 : decode cX7_begin 27 = .ok (.aload_n 0, 1) := by decide +kernel
theorem dX7_begin_28 : decode cX7_begin 28 = .ok (.getfield 19, 3) := by decide +kernel
theorem dX7_begin_31 : decode cX7_begin 31 = .ok (.if_icmp .ge 16, 3) := by decide +kernel
theorem dX7_begin_34 : decode cX7_begin 34 = .ok (.aload_n 0, 1) := by decide +kernel
theorem dX7_begin_35 : decode cX7_begin 35 = .ok (.getfield 9, 3) := by decide +kernel
theorem dX7_begin_38 : decode cX7_begin 38 = .ok (.iload_n 3, 1) := by decide +kernel
theorem dX7_begin_39 : decode cX7_begin 39 = .ok (.iconst 0, 1) := by decide +kernel
theorem dX7_begin_40 : decode cX7_begin 40 = .ok (.iastore, 1) := by decide +kernel
theorem dX7_begin_41 : decode cX7_begin 41 = .ok (.iinc 3 1, 3) := by decide +kernel
theorem dX7_begin_44 : decode cX7_begin 44 = .ok (.goto (-18), 3) := by decide +kernel
theorem dX7_begin_47 : decode cX7_begin 47 = .ok (.return_, 1) := by decide +kernel
theorem dX7_end_0 : decode cX7_end 0 = .ok (.aload_n 0, 1) := by decide +kernel
theorem dX7_end_1 : decode cX7_end 1 = .ok (.iconst 0, 1) := by decide +kernel
theorem dX7_end_2 : decode cX7_end 2 = .ok (.putfield 19, 3) := by decide +kernel
theorem dX7_end_5 : decode cX7_end 5 = .ok (.aload_n 0, 1) := by decide +kernel
theorem dX7_end_6 : decode cX7_end 6 = .ok (.iconst 1, 1) := by decide +kernel
theorem dX7_end_7 : decode cX7_end 7 = .ok (.putfield 22, 3) := by decide +kernel
theorem dX7_end_10 : decode cX7_end 10 = .ok (.return_, 1) := by decide +kernel
theorem dX7_hasItems_0 : decode cX7_hasItems 0 = .ok (.iload_n 1, 1) := by decide +kernel
theorem dX7_hasItems_1 : decode cX7_hasItems 1 = .ok (.ifCond .lt 29, 3) := by decide +kernel
theorem dX7_hasItems_4 : decode cX7_hasItems 4 = .ok (.iload_n 2, 1) := by decide +kernel
theorem dX7_hasItems_5 : decode cX7_hasItems 5 = .ok (.ifCond .lt 25, 3) := by decide +kernel
theorem dX7_hasItems_8 : decode cX7_hasItems 8 = .ok (.iload_n 1, 1) := by decide +kernel
theorem dX7_hasItems_9 : decode cX7_hasItems 9 = .ok (.aload_n 0, 1) := by decide +kernel
theorem dX7_hasItems_10 : decode cX7_hasItems 10 = .ok (.getfield 19, 3) := by decide +kernel
theorem dX7_hasItems_13 : decode cX7_hasItems 13 = .ok (.if_icmp .gt 17, 3) := by decide +kernel
theorem dX7_hasItems_16 : decode cX7_hasItems 16 = .ok (.iload_n 2, 1) := by decide +kernel
theorem dX7_hasItems_17 : decode cX7_hasItems 17 = .ok (.aload_n 0, 1) := by decide +kernel
theorem dX7_hasItems_18 : decode cX7_hasItems 18 = .ok (.getfield 19, 3) := by decide +kernel
theorem dX7_hasItems_21 : decode cX7_hasItems 21 = .ok (.iload_n 1, 1) := by decide +kernel
theorem dX7_hasItems_22 : decode cX7_hasItems 22 = .ok (.isub, 1) := by decide +kernel
theorem dX7_hasItems_23 : decode cX7_hasItems 23 = .ok (.if_icmp .gt 7, 3) := by decide +kernel
theorem dX7_hasItems_26 : decode cX7_hasItems 26 = .ok (.iconst 1, 1) := by decide +kernel
theorem dX7_hasItems_27 : decode cX7_hasItems 27 = .ok (.goto 4, 3) := by decide +kernel
theorem dX7_hasItems_30 : decode cX7_hasItems 30 = .ok (.iconst 0, 1) := by decide +kernel
theorem dX7_hasItems_31 : decode cX7_hasItems 31 = .ok (.ireturn, 1) := by decide +kernel
theorem dX7_item_0 : decode cX7_item 0 = .ok (.aload_n 0, 1) := by decide +kernel
theorem dX7_item_1 : decode cX7_item 1 = .ok (.iload_n 1, 1) := by decide +kernel
theorem dX7_item_2 : decode cX7_item 2 = .ok (.iconst 1, 1) := by decide +kernel
theorem dX7_item_3 : decode cX7_item 3 = .ok (.invokevirtual 35, 3) := by decide +kernel
theorem dX7_item_6 : decode cX7_item 6 = .ok (.ifCond .eq 18, 3) := by decide +kernel
theorem dX7_item_9 : decode cX7_item 9 = .ok (.iload_n 1, 1) := by decide +kernel
theorem dX7_item_10 : decode cX7_item 10 = .ok (.bipush 60, 2) := by decide +kernel
theorem dX7_item_12 : decode cX7_item 12 = .ok (.if_icmp .ge 12, 3) := by decide +kernel
theorem dX7_item_15 : decode cX7_item 15 = .ok (.aload_n 0, 1) := by decide +kernel
theorem dX7_item_16 : decode cX7_item 16 = .ok (.getfield 9, 3) := by decide +kernel
theorem dX7_item_19 : decode cX7_item 19 = .ok (.iload_n 1, 1) := by decide +kernel
theorem dX7_item_20 : decode cX7_item 20 = .ok (.iaload, 1) := by decide +kernel
theorem dX7_item_21 : decode cX7_item 21 = .ok (.goto 4, 3) := by decide +kernel
theorem dX7_item_24 : decode cX7_item 24 = .ok (.iconst 0, 1) := by decide +kernel
theorem dX7_item_25 : decode cX7_item 25 = .ok (.ireturn, 1) := by decide +kernel
theorem dX7_setItem_0 : decode cX7_setItem 0 = .ok (.aload_n 0, 1) := by decide +kernel
theorem dX7_setItem_1 : decode cX7_setItem 1 = .ok (.iload_n 1, 1) := by decide +kernel
theorem dX7_setItem_2 : decode cX7_setItem 2 = .ok (.iconst 1, 1) := by decide +kernel
theorem dX7_setItem_3 : decode cX7_setItem 3 = .ok (.invokevirtual 35, 3) := by decide +kernel
theorem dX7_setItem_6 : decode cX7_setItem 6 = .ok (.ifCond .eq 20, 3) := by decide +kernel
theorem dX7_setItem_9 : decode cX7_setItem 9 = .ok (.iload_n 1, 1) := by decide +kernel
theorem dX7_setItem_10 : decode cX7_setItem 10 = .ok (.bipush 60, 2) := by decide +kernel
theorem dX7_setItem_12 : decode cX7_setItem 12 = .ok (.if_icmp .ge 14, 3) := by decide +kernel
theorem dX7_setItem_15 : decode cX7_setItem 15 = .ok (.aload_n 0, 1) := by decide +kernel
theorem dX7_setItem_16 : decode cX7_setItem 16 = .ok (.getfield 9, 3) := by decide +kernel
theorem dX7_setItem_19 : decode cX7_setItem 19 = .ok (.iload_n 1, 1) := by decide +kernel
theorem dX7_setItem_20 : decode cX7_setItem 20 = .ok (.aload_n 0, 1) := by decide +kernel
theorem dX7_setItem_21 : decode cX7_setItem 21 = .ok (.iload_n 2, 1) := by decide +kernel
theorem dX7_setItem_22 : decode cX7_setItem 22 = .ok (.invokevirtual 39, 3) := by decide +kernel
theorem dX7_setItem_25 : decode cX7_setItem 25 = .ok (.iastore, 1) := by decide +kernel
theorem dX7_setItem_26 : decode cX7_setItem 26 = .ok (.return_, 1) := by decide +kernel
theorem dX7_takeFrom_0 : decode cX7_takeFrom 0 = .ok (.aload_n 1, 1) := by decide +kernel
theorem dX7_takeFrom_1 : decode cX7_takeFrom 1 = .ok (.iload_n 2, 1) := by decide +kernel
theorem dX7_takeFrom_2 : decode cX7_takeFrom 2 = .ok (.iload 4, 2) := by decide +kernel
theorem dX7_takeFrom_4 : decode cX7_takeFrom 4 = .ok (.invokevirtual 35, 3) := by decide +kernel
theorem dX7_takeFrom_7 : decode cX7_takeFrom 7 = .ok (.ifCond .eq 28, 3) := by decide +kernel
theorem dX7_takeFrom_10 : decode cX7_takeFrom 10 = .ok (.aload_n 0, 1) := by decide +kernel
theorem dX7_takeFrom_11 : decode cX7_takeFrom 11 = .ok (.iload_n 3, 1) := by decide +kernel
theorem dX7_takeFrom_12 : decode cX7_takeFrom 12 = .ok (.iload 4, 2) := by decide +kernel
theorem dX7_takeFrom_14 : decode cX7_takeFrom 14 = .ok (.invokevirtual 35, 3) := by decide +kernel
theorem dX7_takeFrom_17 : decode cX7_takeFrom 17 = .ok (.ifCond .eq 18, 3) := by decide +kernel
theorem dX7_takeFrom_20 : decode cX7_takeFrom 20 = .ok (.aload_n 1, 1) := by decide +kernel
theorem dX7_takeFrom_21 : decode cX7_takeFrom 21 = .ok (.getfield 9, 3) := by decide +kernel
theorem dX7_takeFrom_24 : decode cX7_takeFrom 24 = .ok (.iload_n 2, 1) := by decide +kernel
theorem dX7_takeFrom_25 : decode cX7_takeFrom 25 = .ok (.aload_n 0, 1) := by decide +kernel
theorem dX7_takeFrom_26 : decode cX7_takeFrom 26 = .ok (.getfield 9, 3) := by decide +kernel
theorem dX7_takeFrom_29 : decode cX7_takeFrom 29 = .ok (.iload_n 3, 1) := by decide +kernel
theorem dX7_takeFrom_30 : decode cX7_takeFrom 30 = .ok (.iload 4, 2) := by decide +kernel
theorem dX7_takeFrom_32 : decode cX7_takeFrom 32 = .ok (.invokestatic 43, 3) := by decide +kernel
theorem dX7_takeFrom_35 : decode cX7_takeFrom 35 = .ok (.return_, 1) := by decide +kernel
theorem dX7_asForm_0 : decode cX7_asForm 0 = .ok (.aload_n 0, 1) := by decide +kernel
theorem dX7_asForm_1 : decode cX7_asForm 1 = .ok (.getfield 15, 3) := by decide +kernel
theorem dX7_asForm_4 : decode cX7_asForm 4 = .ok (.ifCond .ne 6, 3) := by decide +kernel
theorem dX7_asForm_7 : decode cX7_asForm 7 = .ok (.iload_n 1, 1) := by decide +kernel
theorem dX7_asForm_8 : decode cX7_asForm 8 = .ok (.i2b, 1) := by decide +kernel
theorem dX7_asForm_9 : decode cX7_asForm 9 = .ok (.ireturn, 1) := by decide +kernel
theorem dX7_asForm_10 : decode cX7_asForm 10 = .ok (.aload_n 0, 1) := by decide +kernel
theorem dX7_asForm_11 : decode cX7_asForm 11 = .ok (.getfield 15, 3) := by decide +kernel
theorem dX7_asForm_14 : decode cX7_asForm 14 = .ok (.iconst 1, 1) := by decide +kernel
theorem dX7_asForm_15 : decode cX7_asForm 15 = .ok (.if_icmp .ne 8, 3) := by decide +kernel
theorem dX7_asForm_18 : decode cX7_asForm 18 = .ok (.iload_n 1, 1) := by decide +kernel
theorem dX7_asForm_19 : decode cX7_asForm 19 = .ok (.i2s, 1) := by decide +kernel
theorem dX7_asForm_20 : decode cX7_asForm 20 = .ok (.goto 4, 3) := by decide +kernel
theorem dX7_asForm_23 : decode cX7_asForm 23 = .ok (.iload_n 1, 1) := by decide +kernel
theorem dX7_asForm_24 : decode cX7_asForm 24 = .ok (.ireturn, 1) := by decide +kernel
theorem dX8_init_0 : decode cX8_init 0 = .ok (.aload_n 0, 1) := by decide +kernel
theorem dX8_init_1 : decode cX8_init 1 = .ok (.invokespecial 3, 3) := by decide +kernel
theorem dX8_init_4 : decode cX8_init 4 = .ok (.aload_n 0, 1) := by decide +kernel
theorem dX8_init_5 : decode cX8_init 5 = .ok (.iload_n 1, 1) := by decide +kernel
theorem dX8_init_6 : decode cX8_init 6 = .ok (.iconst 0, 1) := by decide +kernel
theorem dX8_init_7 : decode cX8_init 7 = .ok (.invokestatic 9, 3) := by decide +kernel
theorem dX8_init_10 : decode cX8_init 10 = .ok (.newarray .int, 2) := by decide +kernel
theorem dX8_init_12 : decode cX8_init 12 = .ok (.putfield 15, 3) := by decide +kernel
theorem dX8_init_15 : decode cX8_init 15 = .ok (.aload_n 0, 1) := by decide +kernel
theorem dX8_init_16 : decode cX8_init 16 = .ok (.iconst 0, 1) := by decide +kernel
theorem dX8_init_17 : decode cX8_init 17 = .ok (.putfield 21, 3) := by decide +kernel
theorem dX8_init_20 : decode cX8_init 20 = .ok (.return_, 1) := by decide +kernel
theorem dX8_size_0 : decode cX8_size 0 = .ok (.aload_n 0, 1) := by decide +kernel
theorem dX8_size_1 : decode cX8_size 1 = .ok (.getfield 21, 3) := by decide +kernel
theorem dX8_size_4 : decode cX8_size 4 = .ok (.ireturn, 1) := by decide +kernel
theorem dX8_byteAt_0 : decode cX8_byteAt 0 = .ok (.iload_n 1, 1) := by decide +kernel
theorem dX8_byteAt_1 : decode cX8_byteAt 1 = .ok (.ifCond .lt 29, 3) := by decide +kernel
theorem dX8_byteAt_4 : decode cX8_byteAt 4 = .ok (.iload_n 1, 1) := by decide +kernel
theorem dX8_byteAt_5 : decode cX8_byteAt 5 = .ok (.aload_n 0, 1) := by decide +kernel
theorem dX8_byteAt_6 : decode cX8_byteAt 6 = .ok (.getfield 21, 3) := by decide +kernel
theorem dX8_byteAt_9 : decode cX8_byteAt 9 = .ok (.if_icmp .ge 21, 3) := by decide +kernel
theorem dX8_byteAt_12 : decode cX8_byteAt 12 = .ok (.iload_n 1, 1) := by decide +kernel
theorem dX8_byteAt_13 : decode cX8_byteAt 13 = .ok (.aload_n 0, 1) := by decide +kernel
theorem dX8_byteAt_14 : decode cX8_byteAt 14 = .ok (.getfield 15, 3) := by decide +kernel
theorem dX8_byteAt_17 : decode cX8_byteAt 17 = .ok (.arraylength, 1) := by decide +kernel
theorem dX8_byteAt_18 : decode cX8_byteAt 18 = .ok (.if_icmp .ge 12, 3) := by decide +kernel
theorem dX8_byteAt_21 : decode cX8_byteAt 21 = .ok (.aload_n 0, 1) := by decide +kernel
theorem dX8_byteAt_22 : decode cX8_byteAt 22 = .ok (.getfield 15, 3) := by decide +kernel
theorem dX8_byteAt_25 : decode cX8_byteAt 25 = .ok (.iload_n 1, 1) := by decide +kernel
theorem dX8_byteAt_26 : decode cX8_byteAt 26 = .ok (.iaload, 1) := by decide +kernel
theorem dX8_byteAt_27 : decode cX8_byteAt 27 = .ok (.goto 4, 3) := by decide +kernel
theorem dX8_byteAt_30 : decode cX8_byteAt 30 = .ok (.iconst (-1), 1) := by decide +kernel
theorem dX8_byteAt_31 : decode cX8_byteAt 31 = .ok (.ireturn, 1) := by decide +kernel
theorem dX8_append_0 : decode cX8_append 0 = .ok (.aload_n 0, 1) := by decide +kernel
theorem dX8_append_1 : decode cX8_append 1 = .ok (.getfield 21, 3) := by decide +kernel
theorem dX8_append_4 : decode cX8_append 4 = .ok (.ifCond .lt 15, 3) := by decide +kernel
theorem dX8_append_7 : decode cX8_append 7 = .ok (.aload_n 0, 1) := by decide +kernel
theorem dX8_append_8 : decode cX8_append 8 = .ok (.getfield 21, 3) := by decide +kernel
theorem dX8_append_11 : decode cX8_append 11 = .ok (.aload_n 0, 1) := by decide +kernel
theorem dX8_append_12 : decode cX8_append 12 = .ok (.getfield 15, 3) := by decide +kernel
theorem dX8_append_15 : decode cX8_append 15 = .ok (.arraylength, 1) := by decide +kernel
theorem dX8_append_16 : decode cX8_append 16 = .ok (.if_icmp .lt 5, 3) := by decide +kernel
theorem dX8_append_19 : decode cX8_append 19 = .ok (.iconst 0, 1) := by decide +kernel
theorem dX8_append_20 : decode cX8_append 20 = .ok (.ireturn, 1) := by decide +kernel
theorem dX8_append_21 : decode cX8_append 21 = .ok (.aload_n 0, 1) := by decide +kernel
theorem dX8_append_22 : decode cX8_append 22 = .ok (.getfield 15, 3) := by decide +kernel
theorem dX8_append_25 : decode cX8_append 25 = .ok (.aload_n 0, 1) := by decide +kernel
theorem dX8_append_26 : decode cX8_append 26 = .ok (.getfield 21, 3) := by decide +kernel
theorem dX8_append_29 : decode cX8_append 29 = .ok (.iload_n 1, 1) := by decide +kernel
theorem dX8_append_30 : decode cX8_append 30 = .ok (.iastore, 1) := by decide +kernel
theorem dX8_append_31 : decode cX8_append 31 = .ok (.aload_n 0, 1) := by decide +kernel
theorem dX8_append_32 : decode cX8_append 32 = .ok (.dup, 1) := by decide +kernel
theorem dX8_append_33 : decode cX8_append 33 = .ok (.getfield 21, 3) := by decide +kernel
theorem dX8_append_36 : decode cX8_append 36 = .ok (.iconst 1, 1) := by decide +kernel
theorem dX8_append_37 : decode cX8_append 37 = .ok (.iadd, 1) := by decide +kernel
theorem dX8_append_38 : decode cX8_append 38 = .ok (.putfield 21, 3) := by decide +kernel
theorem dX8_append_41 : decode cX8_append 41 = .ok (.iconst 1, 1) := by decide +kernel
theorem dX8_append_42 : decode cX8_append 42 = .ok (.ireturn, 1) := by decide +kernel
theorem dX8_dropLast_0 : decode cX8_dropLast 0 = .ok (.aload_n 0, 1) := by decide +kernel
theorem dX8_dropLast_1 : decode cX8_dropLast 1 = .ok (.getfield 21, 3) := by decide +kernel
theorem dX8_dropLast_4 : decode cX8_dropLast 4 = .ok (.ifCond .gt 5, 3) := by decide +kernel
theorem dX8_dropLast_7 : decode cX8_dropLast 7 = .ok (.iconst 0, 1) := by decide +kernel
theorem dX8_dropLast_8 : decode cX8_dropLast 8 = .ok (.ireturn, 1) := by decide +kernel
theorem dX8_dropLast_9 : decode cX8_dropLast 9 = .ok (.aload_n 0, 1) := by decide +kernel
theorem dX8_dropLast_10 : decode cX8_dropLast 10 = .ok (.dup, 1) := by decide +kernel
theorem dX8_dropLast_11 : decode cX8_dropLast 11 = .ok (.getfield 21, 3) := by decide +kernel
theorem dX8_dropLast_14 : decode cX8_dropLast 14 = .ok (.iconst 1, 1) := by decide +kernel
theorem dX8_dropLast_15 : decode cX8_dropLast 15 = .ok (.isub, 1) := by decide +kernel
theorem dX8_dropLast_16 : decode cX8_dropLast 16 = .ok (.putfield 21, 3) := by decide +kernel
theorem dX8_dropLast_19 : decode cX8_dropLast 19 = .ok (.iconst 1, 1) := by decide +kernel
theorem dX8_dropLast_20 : decode cX8_dropLast 20 = .ok (.ireturn, 1) := by decide +kernel
theorem dX8_clear_0 : decode cX8_clear 0 = .ok (.aload_n 0, 1) := by decide +kernel
theorem dX8_clear_1 : decode cX8_clear 1 = .ok (.iconst 0, 1) := by decide +kernel
theorem dX8_clear_2 : decode cX8_clear 2 = .ok (.putfield 21, 3) := by decide +kernel
theorem dX8_clear_5 : decode cX8_clear 5 = .ok (.return_, 1) := by decide +kernel
theorem dX9_init_0 : decode cX9_init 0 = .ok (.aload_n 0, 1) := by decide +kernel
theorem dX9_init_1 : decode cX9_init 1 = .ok (.invokespecial 3, 3) := by decide +kernel
theorem dX9_init_4 : decode cX9_init 4 = .ok (.aload_n 0, 1) := by decide +kernel
theorem dX9_init_5 : decode cX9_init 5 = .ok (.bipush 12, 2) := by decide +kernel
theorem dX9_init_7 : decode cX9_init 7 = .ok (.newarray .int, 2) := by decide +kernel
theorem dX9_init_9 : decode cX9_init 9 = .ok (.putfield 9, 3) := by decide +kernel
theorem dX9_init_12 : decode cX9_init 12 = .ok (.aload_n 0, 1) := by decide +kernel
theorem dX9_init_13 : decode cX9_init 13 = .ok (.bipush 12, 2) := by decide +kernel
theorem dX9_init_15 : decode cX9_init 15 = .ok (.newarray .int, 2) := by decide +kernel
theorem dX9_init_17 : decode cX9_init 17 = .ok (.putfield 15, 3) := by decide +kernel
theorem dX9_init_20 : decode cX9_init 20 = .ok (.aload_n 0, 1) := by decide +kernel
theorem dX9_init_21 : decode cX9_init 21 = .ok (.bipush 12, 2) := by decide +kernel
theorem dX9_init_23 : decode cX9_init 23 = .ok (.newarray .boolean, 2) := by decide +kernel
theorem dX9_init_25 : decode cX9_init 25 = .ok (.putfield 18, 3) := by decide +kernel
theorem dX9_init_28 : decode cX9_init 28 = .ok (.aload_n 0, 1) := by decide +kernel
theorem dX9_init_29 : decode cX9_init 29 = .ok (.bipush 30, 2) := by decide +kernel
theorem dX9_init_31 : decode cX9_init 31 = .ok (.newarray .int, 2) := by decide +kernel
theorem dX9_init_33 : decode cX9_init 33 = .ok (.putfield 22, 3) := by decide +kernel
theorem dX9_init_36 : decode cX9_init 36 = .ok (.aload_n 0, 1) := by decide +kernel
theorem dX9_init_37 : decode cX9_init 37 = .ok (.bipush 30, 2) := by decide +kernel
theorem dX9_init_39 : decode cX9_init 39 = .ok (.newarray .int, 2) := by decide +kernel
theorem dX9_init_41 : decode cX9_init 41 = .ok (.putfield 25, 3) := by decide +kernel
theorem dX9_init_44 : decode cX9_init 44 = .ok (.aload_n 0, 1) := by decide +kernel
theorem dX9_init_45 : decode cX9_init 45 = .ok (.iconst 0, 1) := by decide +kernel
theorem dX9_init_46 : decode cX9_init 46 = .ok (.putfield 28, 3) := by decide +kernel
theorem dX9_init_49 : decode cX9_init 49 = .ok (.aload_n 0, 1) := by decide +kernel
theorem dX9_init_50 : decode cX9_init 50 = .ok (.iconst 0, 1) := by decide +kernel
theorem dX9_init_51 : decode cX9_init 51 = .ok (.putfield 32, 3) := by decide +kernel
theorem dX9_init_54 : decode cX9_init 54 = .ok (.return_, 1) := by decide +kernel
theorem dX9_firstSet_0 : decode cX9_firstSet 0 = .ok (.aload_n 0, 1) := by decide +kernel
theorem dX9_firstSet_1 : decode cX9_firstSet 1 = .ok (.getfield 28, 3) := by decide +kernel
theorem dX9_firstSet_4 : decode cX9_firstSet 4 = .ok (.ireturn, 1) := by decide +kernel
theorem dX9_setFirst_0 : decode cX9_setFirst 0 = .ok (.aload_n 0, 1) := by decide +kernel
theorem dX9_setFirst_1 : decode cX9_setFirst 1 = .ok (.iload_n 1, 1) := by decide +kernel
theorem dX9_setFirst_2 : decode cX9_setFirst 2 = .ok (.sipush 255, 3) := by decide +kernel
theorem dX9_setFirst_5 : decode cX9_setFirst 5 = .ok (.iand, 1) := by decide +kernel
theorem dX9_setFirst_6 : decode cX9_setFirst 6 = .ok (.putfield 28, 3) := by decide +kernel
theorem dX9_setFirst_9 : decode cX9_setFirst 9 = .ok (.return_, 1) := by decide +kernel
theorem dX9_layings_0 : decode cX9_layings 0 = .ok (.aload_n 0, 1) := by decide +kernel
theorem dX9_layings_1 : decode cX9_layings 1 = .ok (.getfield 32, 3) := by decide +kernel
theorem dX9_layings_4 : decode cX9_layings 4 = .ok (.ireturn, 1) := by decide +kernel
theorem dX9_addLaying_0 : decode cX9_addLaying 0 = .ok (.aload_n 0, 1) := by decide +kernel
theorem dX9_addLaying_1 : decode cX9_addLaying 1 = .ok (.getfield 32, 3) := by decide +kernel
theorem dX9_addLaying_4 : decode cX9_addLaying 4 = .ok (.ifCond .lt 12, 3) := by decide +kernel
theorem dX9_addLaying_7 : decode cX9_addLaying 7 = .ok (.aload_n 0, 1) := by decide +kernel
theorem dX9_addLaying_8 : decode cX9_addLaying 8 = .ok (.getfield 32, 3) := by decide +kernel
theorem dX9_addLaying_11 : decode cX9_addLaying 11 = .ok (.bipush 12, 2) := by decide +kernel
theorem dX9_addLaying_13 : decode cX9_addLaying 13 = .ok (.if_icmp .lt 5, 3) := by decide +kernel
theorem dX9_addLaying_16 : decode cX9_addLaying 16 = .ok (.iconst 0, 1) := by decide +kernel
theorem dX9_addLaying_17 : decode cX9_addLaying 17 = .ok (.ireturn, 1) := by decide +kernel
theorem dX9_addLaying_18 : decode cX9_addLaying 18 = .ok (.aload_n 0, 1) := by decide +kernel
theorem dX9_addLaying_19 : decode cX9_addLaying 19 = .ok (.getfield 9, 3) := by decide +kernel
theorem dX9_addLaying_22 : decode cX9_addLaying 22 = .ok (.aload_n 0, 1) := by decide +kernel
theorem dX9_addLaying_23 : decode cX9_addLaying 23 = .ok (.getfield 32, 3) := by decide +kernel
theorem dX9_addLaying_26 : decode cX9_addLaying 26 = .ok (.iload_n 1, 1) := by decide +kernel
theorem dX9_addLaying_27 : decode cX9_addLaying 27 = .ok (.iastore, 1) := by decide +kernel
theorem dX9_addLaying_28 : decode cX9_addLaying 28 = .ok (.aload_n 0, 1) := by decide +kernel
theorem dX9_addLaying_29 : decode cX9_addLaying 29 = .ok (.getfield 15, 3) := by decide +kernel
theorem dX9_addLaying_32 : decode cX9_addLaying 32 = .ok (.aload_n 0, 1) := by decide +kernel
theorem dX9_addLaying_33 : decode cX9_addLaying 33 = .ok (.getfield 32, 3) := by decide +kernel
theorem dX9_addLaying_36 : decode cX9_addLaying 36 = .ok (.iconst 1, 1) := by decide +kernel
theorem dX9_addLaying_37 : decode cX9_addLaying 37 = .ok (.iload_n 2, 1) := by decide +kernel
theorem dX9_addLaying_38 : decode cX9_addLaying 38 = .ok (.ishl, 1) := by decide +kernel
theorem dX9_addLaying_39 : decode cX9_addLaying 39 = .ok (.iastore, 1) := by decide +kernel
theorem dX9_addLaying_40 : decode cX9_addLaying 40 = .ok (.aload_n 0, 1) := by decide +kernel
theorem dX9_addLaying_41 : decode cX9_addLaying 41 = .ok (.getfield 18, 3) := by decide +kernel
theorem dX9_addLaying_44 : decode cX9_addLaying 44 = .ok (.aload_n 0, 1) := by decide +kernel
theorem dX9_addLaying_45 : decode cX9_addLaying 45 = .ok (.getfield 32, 3) := by decide +kernel
theorem dX9_addLaying_48 : decode cX9_addLaying 48 = .ok (.iload_n 3, 1) := by decide +kernel
theorem dX9_addLaying_49 : decode cX9_addLaying 49 = .ok (.iconst 1, 1) := by decide +kernel
theorem dX9_addLaying_50 : decode cX9_addLaying 50 = .ok (.if_icmp .ne 7, 3) := by decide +kernel
theorem dX9_addLaying_53 : decode cX9_addLaying 53 = .ok (.iconst 1, 1) := by decide +kernel
theorem dX9_addLaying_54 : decode cX9_addLaying 54 = .ok (.goto 4, 3) := by decide +kernel
theorem dX9_addLaying_57 : decode cX9_addLaying 57 = .ok (.iconst 0, 1) := by decide +kernel
theorem dX9_addLaying_58 : decode cX9_addLaying 58 = .ok (.bastore, 1) := by decide +kernel
theorem dX9_addLaying_59 : decode cX9_addLaying 59 = .ok (.aload_n 0, 1) := by decide +kernel
theorem dX9_addLaying_60 : decode cX9_addLaying 60 = .ok (.dup, 1) := by decide +kernel
theorem dX9_addLaying_61 : decode cX9_addLaying 61 = .ok (.getfield 32, 3) := by decide +kernel
theorem dX9_addLaying_64 : decode cX9_addLaying 64 = .ok (.iconst 1, 1) := by decide +kernel
theorem dX9_addLaying_65 : decode cX9_addLaying 65 = .ok (.iadd, 1) := by decide +kernel
theorem dX9_addLaying_66 : decode cX9_addLaying 66 = .ok (.putfield 32, 3) := by decide +kernel
theorem dX9_addLaying_69 : decode cX9_addLaying 69 = .ok (.iconst 1, 1) := by decide +kernel
theorem dX9_addLaying_70 : decode cX9_addLaying 70 = .ok (.ireturn, 1) := by decide +kernel
theorem dX9_dropLaying_0 : decode cX9_dropLaying 0 = .ok (.aload_n 0, 1) := by decide +kernel
theorem dX9_dropLaying_1 : decode cX9_dropLaying 1 = .ok (.getfield 32, 3) := by decide +kernel
theorem dX9_dropLaying_4 : decode cX9_dropLaying 4 = .ok (.ifCond .gt 5, 3) := by decide +kernel
theorem dX9_dropLaying_7 : decode cX9_dropLaying 7 = .ok (.iconst 0, 1) := by decide +kernel
theorem dX9_dropLaying_8 : decode cX9_dropLaying 8 = .ok (.ireturn, 1) := by decide +kernel
theorem dX9_dropLaying_9 : decode cX9_dropLaying 9 = .ok (.aload_n 0, 1) := by decide +kernel
theorem dX9_dropLaying_10 : decode cX9_dropLaying 10 = .ok (.dup, 1) := by decide +kernel
theorem dX9_dropLaying_11 : decode cX9_dropLaying 11 = .ok (.getfield 32, 3) := by decide +kernel
theorem dX9_dropLaying_14 : decode cX9_dropLaying 14 = .ok (.iconst 1, 1) := by decide +kernel
theorem dX9_dropLaying_15 : decode cX9_dropLaying 15 = .ok (.isub, 1) := by decide +kernel
theorem dX9_dropLaying_16 : decode cX9_dropLaying 16 = .ok (.putfield 32, 3) := by decide +kernel
theorem dX9_dropLaying_19 : decode cX9_dropLaying 19 = .ok (.iconst 1, 1) := by decide +kernel
theorem dX9_dropLaying_20 : decode cX9_dropLaying 20 = .ok (.ireturn, 1) := by decide +kernel
theorem dX9_runTo_0 : decode cX9_runTo 0 = .ok (.aload_n 0, 1) := by decide +kernel
theorem dX9_runTo_1 : decode cX9_runTo 1 = .ok (.getfield 28, 3) := by decide +kernel
theorem dX9_runTo_4 : decode cX9_runTo 4 = .ok (.istore_n 3, 1) := by decide +kernel
theorem dX9_runTo_5 : decode cX9_runTo 5 = .ok (.iconst 0, 1) := by decide +kernel
theorem dX9_runTo_6 : decode cX9_runTo 6 = .ok (.istore 4, 2) := by decide +kernel
theorem dX9_runTo_8 : decode cX9_runTo 8 = .ok (.iconst 0, 1) := by decide +kernel
theorem dX9_runTo_9 : decode cX9_runTo 9 = .ok (.istore 5, 2) := by decide +kernel
theorem dX9_runTo_11 : decode cX9_runTo 11 = .ok (.iload 5, 2) := by decide +kernel
theorem dX9_runTo_13 : decode cX9_runTo 13 = .ok (.iload_n 2, 1) := by decide +kernel
theorem dX9_runTo_14 : decode cX9_runTo 14 = .ok (.if_icmp .gt 59, 3) := by decide +kernel
theorem dX9_runTo_17 : decode cX9_runTo 17 = .ok (.iload 5, 2) := by decide +kernel
theorem dX9_runTo_19 : decode cX9_runTo 19 = .ok (.bipush 30, 2) := by decide +kernel
theorem dX9_runTo_21 : decode cX9_runTo 21 = .ok (.if_icmp .ge 52, 3) := by decide +kernel
theorem dX9_runTo_24 : decode cX9_runTo 24 = .ok (.iload 5, 2) := by decide +kernel
theorem dX9_runTo_26 : decode cX9_runTo 26 = .ok (.ifCond .le 16, 3) := by decide +kernel
theorem dX9_runTo_29 : decode cX9_runTo 29 = .ok (.aload_n 1, 1) := by decide +kernel
theorem dX9_runTo_30 : decode cX9_runTo 30 = .ok (.iload_n 3, 1) := by decide +kernel
theorem dX9_runTo_31 : decode cX9_runTo 31 = .ok (.invokevirtual 35, 3) := by decide +kernel
theorem dX9_runTo_34 : decode cX9_runTo 34 = .ok (.istore 4, 2) := by decide +kernel
theorem dX9_runTo_36 : decode cX9_runTo 36 = .ok (.aload_n 1, 1) := by decide +kernel
theorem dX9_runTo_37 : decode cX9_runTo 37 = .ok (.iload_n 3, 1) := by decide +kernel
theorem dX9_runTo_38 : decode cX9_runTo 38 = .ok (.invokevirtual 41, 3) := by decide +kernel
theorem dX9_runTo_41 : decode cX9_runTo 41 = .ok (.istore_n 3, 1) := by decide +kernel
theorem dX9_runTo_42 : decode cX9_runTo 42 = .ok (.aload_n 0, 1) := by decide +kernel
theorem dX9_runTo_43 : decode cX9_runTo 43 = .ok (.iload 5, 2) := by decide +kernel
theorem dX9_runTo_45 : decode cX9_runTo 45 = .ok (.iload_n 3, 1) := by decide +kernel
theorem dX9_runTo_46 : decode cX9_runTo 46 = .ok (.invokevirtual 44, 3) := by decide +kernel
theorem dX9_runTo_49 : decode cX9_runTo 49 = .ok (.istore_n 3, 1) := by decide +kernel
theorem dX9_runTo_50 : decode cX9_runTo 50 = .ok (.aload_n 0, 1) := by decide +kernel
theorem dX9_runTo_51 : decode cX9_runTo 51 = .ok (.getfield 25, 3) := by decide +kernel
theorem dX9_runTo_54 : decode cX9_runTo 54 = .ok (.iload 5, 2) := by decide +kernel
theorem dX9_runTo_56 : decode cX9_runTo 56 = .ok (.iload 4, 2) := by decide +kernel
theorem dX9_runTo_58 : decode cX9_runTo 58 = .ok (.iastore, 1) := by decide +kernel
theorem dX9_runTo_59 : decode cX9_runTo 59 = .ok (.aload_n 0, 1) := by decide +kernel
theorem dX9_runTo_60 : decode cX9_runTo 60 = .ok (.getfield 22, 3) := by decide +kernel
theorem dX9_runTo_63 : decode cX9_runTo 63 = .ok (.iload 5, 2) := by decide +kernel
theorem dX9_runTo_65 : decode cX9_runTo 65 = .ok (.iload_n 3, 1) := by decide +kernel
theorem dX9_runTo_66 : decode cX9_runTo 66 = .ok (.iastore, 1) := by decide +kernel
theorem dX9_runTo_67 : decode cX9_runTo 67 = .ok (.iinc 5 1, 3) := by decide +kernel
theorem dX9_runTo_70 : decode cX9_runTo 70 = .ok (.goto (-59), 3) := by decide +kernel
theorem dX9_runTo_73 : decode cX9_runTo 73 = .ok (.return_, 1) := by decide +kernel
theorem dX9_smallIn_0 : decode cX9_smallIn 0 = .ok (.iload_n 1, 1) := by decide +kernel
theorem dX9_smallIn_1 : decode cX9_smallIn 1 = .ok (.ifCond .lt 18, 3) := by decide +kernel
theorem dX9_smallIn_4 : decode cX9_smallIn 4 = .ok (.iload_n 1, 1) := by decide +kernel
theorem dX9_smallIn_5 : decode cX9_smallIn 5 = .ok (.bipush 30, 2) := by decide +kernel
theorem dX9_smallIn_7 : decode cX9_smallIn 7 = .ok (.if_icmp .ge 12, 3) := by decide +kernel
theorem dX9_smallIn_10 : decode cX9_smallIn 10 = .ok (.aload_n 0, 1) := by decide +kernel
theorem dX9_smallIn_11 : decode cX9_smallIn 11 = .ok (.getfield 22, 3) := by decide +kernel
theorem dX9_smallIn_14 : decode cX9_smallIn 14 = .ok (.iload_n 1, 1) := by decide +kernel
theorem dX9_smallIn_15 : decode cX9_smallIn 15 = .ok (.iaload, 1) := by decide +kernel
theorem dX9_smallIn_16 : decode cX9_smallIn 16 = .ok (.goto 4, 3) := by decide +kernel
theorem dX9_smallIn_19 : decode cX9_smallIn 19 = .ok (.iconst 0, 1) := by decide +kernel
theorem dX9_smallIn_20 : decode cX9_smallIn 20 = .ok (.ireturn, 1) := by decide +kernel
theorem dX9_bigIn_0 : decode cX9_bigIn 0 = .ok (.iload_n 1, 1) := by decide +kernel
theorem dX9_bigIn_1 : decode cX9_bigIn 1 = .ok (.ifCond .lt 18, 3) := by decide +kernel
theorem dX9_bigIn_4 : decode cX9_bigIn 4 = .ok (.iload_n 1, 1) := by decide +kernel
theorem dX9_bigIn_5 : decode cX9_bigIn 5 = .ok (.bipush 30, 2) := by decide +kernel
theorem dX9_bigIn_7 : decode cX9_bigIn 7 = .ok (.if_icmp .ge 12, 3) := by decide +kernel
theorem dX9_bigIn_10 : decode cX9_bigIn 10 = .ok (.aload_n 0, 1) := by decide +kernel
theorem dX9_bigIn_11 : decode cX9_bigIn 11 = .ok (.getfield 25, 3) := by decide +kernel
theorem dX9_bigIn_14 : decode cX9_bigIn 14 = .ok (.iload_n 1, 1) := by decide +kernel
theorem dX9_bigIn_15 : decode cX9_bigIn 15 = .ok (.iaload, 1) := by decide +kernel
theorem dX9_bigIn_16 : decode cX9_bigIn 16 = .ok (.goto 4, 3) := by decide +kernel
theorem dX9_bigIn_19 : decode cX9_bigIn 19 = .ok (.iconst 0, 1) := by decide +kernel
theorem dX9_bigIn_20 : decode cX9_bigIn 20 = .ok (.ireturn, 1) := by decide +kernel
theorem dX9_withLayings_0 : decode cX9_withLayings 0 = .ok (.iload_n 2, 1) := by decide +kernel
theorem dX9_withLayings_1 : decode cX9_withLayings 1 = .ok (.istore_n 3, 1) := by decide +kernel
theorem dX9_withLayings_2 : decode cX9_withLayings 2 = .ok (.iconst 0, 1) := by decide +kernel
theorem dX9_withLayings_3 : decode cX9_withLayings 3 = .ok (.istore 4, 2) := by decide +kernel
theorem dX9_withLayings_5 : decode cX9_withLayings 5 = .ok (.iload 4, 2) := by decide +kernel
theorem dX9_withLayings_7 : decode cX9_withLayings 7 = .ok (.aload_n 0, 1) := by decide +kernel
theorem dX9_withLayings_8 : decode cX9_withLayings 8 = .ok (.getfield 32, 3) := by decide +kernel
theorem dX9_withLayings_11 : decode cX9_withLayings 11 = .ok (.if_icmp .ge 61, 3) := by decide +kernel
theorem dX9_withLayings_14 : decode cX9_withLayings 14 = .ok (.iload 4, 2) := by decide +kernel
theorem dX9_withLayings_16 : decode cX9_withLayings 16 = .ok (.bipush 12, 2) := by decide +kernel
theorem dX9_withLayings_18 : decode cX9_withLayings 18 = .ok (.if_icmp .ge 54, 3) := by decide +kernel
theorem dX9_withLayings_21 : decode cX9_withLayings 21 = .ok (.aload_n 0, 1) := by decide +kernel
theorem dX9_withLayings_22 : decode cX9_withLayings 22 = .ok (.getfield 9, 3) := by decide +kernel
theorem dX9_withLayings_25 : decode cX9_withLayings 25 = .ok (.iload 4, 2) := by decide +kernel
theorem dX9_withLayings_27 : decode cX9_withLayings 27 = .ok (.iaload, 1) := by decide +kernel
theorem dX9_withLayings_28 : decode cX9_withLayings 28 = .ok (.iload_n 1, 1) := by decide +kernel
theorem dX9_withLayings_29 : decode cX9_withLayings 29 = .ok (.if_icmp .ne 37, 3) := by decide +kernel
theorem dX9_withLayings_32 : decode cX9_withLayings 32 = .ok (.aload_n 0, 1) := by decide +kernel
theorem dX9_withLayings_33 : decode cX9_withLayings 33 = .ok (.getfield 18, 3) := by decide +kernel
theorem dX9_withLayings_36 : decode cX9_withLayings 36 = .ok (.iload 4, 2) := by decide +kernel
theorem dX9_withLayings_38 : decode cX9_withLayings 38 = .ok (.baload, 1) := by decide +kernel
theorem dX9_withLayings_39 : decode cX9_withLayings 39 = .ok (.ifCond .eq 15, 3) := by decide +kernel
theorem dX9_withLayings_42 : decode cX9_withLayings 42 = .ok (.iload_n 3, 1) := by decide +kernel
theorem dX9_withLayings_43 : decode cX9_withLayings 43 = .ok (.aload_n 0, 1) := by decide +kernel
theorem dX9_withLayings_44 : decode cX9_withLayings 44 = .ok (.getfield 15, 3) := by decide +kernel
theorem dX9_withLayings_47 : decode cX9_withLayings 47 = .ok (.iload 4, 2) := by decide +kernel
theorem dX9_withLayings_49 : decode cX9_withLayings 49 = .ok (.iaload, 1) := by decide +kernel
theorem dX9_withLayings_50 : decode cX9_withLayings 50 = .ok (.ior, 1) := by decide +kernel
theorem dX9_withLayings_51 : decode cX9_withLayings 51 = .ok (.goto 14, 3) := by decide +kernel
theorem dX9_withLayings_54 : decode cX9_withLayings 54 = .ok (.iload_n 3, 1) := by decide +kernel
theorem dX9_withLayings_55 : decode cX9_withLayings 55 = .ok (.aload_n 0, 1) := by decide +kernel
theorem dX9_withLayings_56 : decode cX9_withLayings 56 = .ok (.getfield 15, 3) := by decide +kernel
theorem dX9_withLayings_59 : decode cX9_withLayings 59 = .ok (.iload 4, 2) := by decide +kernel
theorem dX9_withLayings_61 : decode cX9_withLayings 61 = .ok (.iaload, 1) := by decide +kernel
theorem dX9_withLayings_62 : decode cX9_withLayings 62 = .ok (.iconst (-1), 1) := by decide +kernel
theorem dX9_withLayings_63 : decode cX9_withLayings 63 = .ok (.ixor, 1) := by decide +kernel
theorem dX9_withLayings_64 : decode cX9_withLayings 64 = .ok (.iand, 1) := by decide +kernel
theorem dX9_withLayings_65 : decode cX9_withLayings 65 = .ok (.istore_n 3, 1) := by decide +kernel
theorem dX9_withLayings_66 : decode cX9_withLayings 66 = .ok (.iinc 4 1, 3) := by decide +kernel
theorem dX9_withLayings_69 : decode cX9_withLayings 69 = .ok (.goto (-64), 3) := by decide +kernel
theorem dX9_withLayings_72 : decode cX9_withLayings 72 = .ok (.iload_n 3, 1) := by decide +kernel
theorem dX9_withLayings_73 : decode cX9_withLayings 73 = .ok (.ireturn, 1) := by decide +kernel
theorem dX10_init_0 : decode cX10_init 0 = .ok (.aload_n 0, 1) := by decide +kernel
theorem dX10_init_1 : decode cX10_init 1 = .ok (.invokespecial 1, 3) := by decide +kernel
theorem dX10_init_4 : decode cX10_init 4 = .ok (.aload_n 0, 1) := by decide +kernel
theorem dX10_init_5 : decode cX10_init 5 = .ok (.new 7, 3) := by decide +kernel
theorem dX10_init_8 : decode cX10_init 8 = .ok (.dup, 1) := by decide +kernel
theorem dX10_init_9 : decode cX10_init 9 = .ok (.bipush 79, 2) := by decide +kernel
theorem dX10_init_11 : decode cX10_init 11 = .ok (.invokespecial 11, 3) := by decide +kernel
theorem dX10_init_14 : decode cX10_init 14 = .ok (.putfield 14, 3) := by decide +kernel
theorem dX10_init_17 : decode cX10_init 17 = .ok (.aload_n 0, 1) := by decide +kernel
theorem dX10_init_18 : decode cX10_init 18 = .ok (.new 7, 3) := by decide +kernel
theorem dX10_init_21 : decode cX10_init 21 = .ok (.dup, 1) := by decide +kernel
theorem dX10_init_22 : decode cX10_init 22 = .ok (.bipush 35, 2) := by decide +kernel
theorem dX10_init_24 : decode cX10_init 24 = .ok (.invokespecial 11, 3) := by decide +kernel
theorem dX10_init_27 : decode cX10_init 27 = .ok (.putfield 18, 3) := by decide +kernel
theorem dX10_init_30 : decode cX10_init 30 = .ok (.aload_n 0, 1) := by decide +kernel
theorem dX10_init_31 : decode cX10_init 31 = .ok (.new 21, 3) := by decide +kernel
theorem dX10_init_34 : decode cX10_init 34 = .ok (.dup, 1) := by decide +kernel
theorem dX10_init_35 : decode cX10_init 35 = .ok (.invokespecial 23, 3) := by decide +kernel
theorem dX10_init_38 : decode cX10_init 38 = .ok (.putfield 24, 3) := by decide +kernel
theorem dX10_init_41 : decode cX10_init 41 = .ok (.aload_n 0, 1) := by decide +kernel
theorem dX10_init_42 : decode cX10_init 42 = .ok (.new 28, 3) := by decide +kernel
theorem dX10_init_45 : decode cX10_init 45 = .ok (.dup, 1) := by decide +kernel
theorem dX10_init_46 : decode cX10_init 46 = .ok (.invokespecial 30, 3) := by decide +kernel
theorem dX10_init_49 : decode cX10_init 49 = .ok (.putfield 31, 3) := by decide +kernel
theorem dX10_init_52 : decode cX10_init 52 = .ok (.aload_n 0, 1) := by decide +kernel
theorem dX10_init_53 : decode cX10_init 53 = .ok (.new 35, 3) := by decide +kernel
theorem dX10_init_56 : decode cX10_init 56 = .ok (.dup, 1) := by decide +kernel
theorem dX10_init_57 : decode cX10_init 57 = .ok (.invokespecial 37, 3) := by decide +kernel
theorem dX10_init_60 : decode cX10_init 60 = .ok (.putfield 38, 3) := by decide +kernel
theorem dX10_init_63 : decode cX10_init 63 = .ok (.aload_n 0, 1) := by decide +kernel
theorem dX10_init_64 : decode cX10_init 64 = .ok (.iconst 0, 1) := by decide +kernel
theorem dX10_init_65 : decode cX10_init 65 = .ok (.putfield 42, 3) := by decide +kernel
theorem dX10_init_68 : decode cX10_init 68 = .ok (.aload_n 0, 1) := by decide +kernel
theorem dX10_init_69 : decode cX10_init 69 = .ok (.new 46, 3) := by decide +kernel
theorem dX10_init_72 : decode cX10_init 72 = .ok (.dup, 1) := by decide +kernel
theorem dX10_init_73 : decode cX10_init 73 = .ok (.invokespecial 48, 3) := by decide +kernel
theorem dX10_init_76 : decode cX10_init 76 = .ok (.putfield 49, 3) := by decide +kernel
theorem dX10_init_79 : decode cX10_init 79 = .ok (.aload_n 0, 1) := by decide +kernel
theorem dX10_init_80 : decode cX10_init 80 = .ok (.new 53, 3) := by decide +kernel
theorem dX10_init_83 : decode cX10_init 83 = .ok (.dup, 1) := by decide +kernel
theorem dX10_init_84 : decode cX10_init 84 = .ok (.invokespecial 55, 3) := by decide +kernel
theorem dX10_init_87 : decode cX10_init 87 = .ok (.putfield 56, 3) := by decide +kernel
theorem dX10_init_90 : decode cX10_init 90 = .ok (.aload_n 0, 1) := by decide +kernel
theorem dX10_init_91 : decode cX10_init 91 = .ok (.iconst 4, 1) := by decide +kernel
theorem dX10_init_92 : decode cX10_init 92 = .ok (.anewarray 60, 3) := by decide +kernel
theorem dX10_init_95 : decode cX10_init 95 = .ok (.putfield 62, 3) := by decide +kernel
theorem dX10_init_98 : decode cX10_init 98 = .ok (.iconst 0, 1) := by decide +kernel
theorem dX10_init_99 : decode cX10_init 99 = .ok (.istore_n 1, 1) := by decide +kernel
theorem dX10_init_100 : decode cX10_init 100 = .ok (.iload_n 1, 1) := by decide +kernel
theorem dX10_init_101 : decode cX10_init 101 = .ok (.iconst 4, 1) := by decide +kernel
theorem dX10_init_102 : decode cX10_init 102 = .ok (.if_icmp .ge 22, 3) := by decide +kernel
theorem dX10_init_105 : decode cX10_init 105 = .ok (.aload_n 0, 1) := by decide +kernel
theorem dX10_init_106 : decode cX10_init 106 = .ok (.getfield 62, 3) := by decide +kernel
theorem dX10_init_109 : decode cX10_init 109 = .ok (.iload_n 1, 1) := by decide +kernel
theorem dX10_init_110 : decode cX10_init 110 = .ok (.new 60, 3) := by decide +kernel
theorem dX10_init_113 : decode cX10_init 113 = .ok (.dup, 1) := by decide +kernel
theorem dX10_init_114 : decode cX10_init 114 = .ok (.invokespecial 66, 3) := by decide +kernel
theorem dX10_init_117 : decode cX10_init 117 = .ok (.aastore, 1) := by decide +kernel
theorem dX10_init_118 : decode cX10_init 118 = .ok (.iinc 1 1, 3) := by decide +kernel
theorem dX10_init_121 : decode cX10_init 121 = .ok (.goto (-21), 3) := by decide +kernel
theorem dX10_init_124 : decode cX10_init 124 = .ok (.aload_n 0, 1) := by decide +kernel
theorem dX10_init_125 : decode cX10_init 125 = .ok (.iconst 0, 1) := by decide +kernel
theorem dX10_init_126 : decode cX10_init 126 = .ok (.putfield 67, 3) := by decide +kernel
theorem dX10_init_129 : decode cX10_init 129 = .ok (.return_, 1) := by decide +kernel
theorem dX10_type_0 : decode cX10_type 0 = .ok (.aload_n 0, 1) := by decide +kernel
theorem dX10_type_1 : decode cX10_type 1 = .ok (.iload_n 1, 1) := by decide +kernel
theorem dX10_type_2 : decode cX10_type 2 = .ok (.invokevirtual 71, 3) := by decide +kernel
theorem dX10_type_5 : decode cX10_type 5 = .ok (.astore_n 3, 1) := by decide +kernel
theorem dX10_type_6 : decode cX10_type 6 = .ok (.aload_n 3, 1) := by decide +kernel
theorem dX10_type_7 : decode cX10_type 7 = .ok (.ifnull 10, 3) := by decide +kernel
theorem dX10_type_10 : decode cX10_type 10 = .ok (.iload_n 2, 1) := by decide +kernel
theorem dX10_type_11 : decode cX10_type 11 = .ok (.invokestatic 75, 3) := by decide +kernel
theorem dX10_type_14 : decode cX10_type 14 = .ok (.ifCond .ne 6, 3) := by decide +kernel
theorem dX10_type_17 : decode cX10_type 17 = .ok (.bipush (-2), 2) := by decide +kernel
theorem dX10_type_19 : decode cX10_type 19 = .ok (.ireturn, 1) := by decide +kernel
theorem dX10_type_20 : decode cX10_type 20 = .ok (.aload_n 3, 1) := by decide +kernel
theorem dX10_type_21 : decode cX10_type 21 = .ok (.iload_n 2, 1) := by decide +kernel
theorem dX10_type_22 : decode cX10_type 22 = .ok (.invokevirtual 79, 3) := by decide +kernel
theorem dX10_type_25 : decode cX10_type 25 = .ok (.ifCond .ne 6, 3) := by decide +kernel
theorem dX10_type_28 : decode cX10_type 28 = .ok (.bipush (-4), 2) := by decide +kernel
theorem dX10_type_30 : decode cX10_type 30 = .ok (.ireturn, 1) := by decide +kernel
theorem dX10_type_31 : decode cX10_type 31 = .ok (.aload_n 0, 1) := by decide +kernel
theorem dX10_type_32 : decode cX10_type 32 = .ok (.iload_n 1, 1) := by decide +kernel
theorem dX10_type_33 : decode cX10_type 33 = .ok (.invokevirtual 82, 3) := by decide +kernel
theorem dX10_type_36 : decode cX10_type 36 = .ok (.aload_n 3, 1) := by decide +kernel
theorem dX10_type_37 : decode cX10_type 37 = .ok (.invokevirtual 85, 3) := by decide +kernel
theorem dX10_type_40 : decode cX10_type 40 = .ok (.ireturn, 1) := by decide +kernel
theorem dX10_wipe_0 : decode cX10_wipe 0 = .ok (.aload_n 0, 1) := by decide +kernel
theorem dX10_wipe_1 : decode cX10_wipe 1 = .ok (.iload_n 1, 1) := by decide +kernel
theorem dX10_wipe_2 : decode cX10_wipe 2 = .ok (.invokevirtual 71, 3) := by decide +kernel
theorem dX10_wipe_5 : decode cX10_wipe 5 = .ok (.astore_n 2, 1) := by decide +kernel
theorem dX10_wipe_6 : decode cX10_wipe 6 = .ok (.aload_n 2, 1) := by decide +kernel
theorem dX10_wipe_7 : decode cX10_wipe 7 = .ok (.ifnonnull 6, 3) := by decide +kernel
theorem dX10_wipe_10 : decode cX10_wipe 10 = .ok (.bipush (-2), 2) := by decide +kernel
theorem dX10_wipe_12 : decode cX10_wipe 12 = .ok (.ireturn, 1) := by decide +kernel
theorem dX10_wipe_13 : decode cX10_wipe 13 = .ok (.aload_n 2, 1) := by decide +kernel
theorem dX10_wipe_14 : decode cX10_wipe 14 = .ok (.invokevirtual 85, 3) := by decide +kernel
theorem dX10_wipe_17 : decode cX10_wipe 17 = .ok (.istore_n 3, 1) := by decide +kernel
theorem dX10_wipe_18 : decode cX10_wipe 18 = .ok (.aload_n 2, 1) := by decide +kernel
theorem dX10_wipe_19 : decode cX10_wipe 19 = .ok (.invokevirtual 89, 3) := by decide +kernel
theorem dX10_wipe_22 : decode cX10_wipe 22 = .ok (.aload_n 0, 1) := by decide +kernel
theorem dX10_wipe_23 : decode cX10_wipe 23 = .ok (.iload_n 1, 1) := by decide +kernel
theorem dX10_wipe_24 : decode cX10_wipe 24 = .ok (.invokevirtual 82, 3) := by decide +kernel
theorem dX10_wipe_27 : decode cX10_wipe 27 = .ok (.iload_n 3, 1) := by decide +kernel
theorem dX10_wipe_28 : decode cX10_wipe 28 = .ok (.ireturn, 1) := by decide +kernel
theorem dX10_undo_0 : decode cX10_undo 0 = .ok (.aload_n 0, 1) := by decide +kernel
theorem dX10_undo_1 : decode cX10_undo 1 = .ok (.iload_n 1, 1) := by decide +kernel
theorem dX10_undo_2 : decode cX10_undo 2 = .ok (.invokevirtual 71, 3) := by decide +kernel
theorem dX10_undo_5 : decode cX10_undo 5 = .ok (.astore_n 2, 1) := by decide +kernel
theorem dX10_undo_6 : decode cX10_undo 6 = .ok (.aload_n 2, 1) := by decide +kernel
theorem dX10_undo_7 : decode cX10_undo 7 = .ok (.ifnonnull 6, 3) := by decide +kernel
theorem dX10_undo_10 : decode cX10_undo 10 = .ok (.bipush (-2), 2) := by decide +kernel
theorem dX10_undo_12 : decode cX10_undo 12 = .ok (.ireturn, 1) := by decide +kernel
theorem dX10_undo_13 : decode cX10_undo 13 = .ok (.aload_n 2, 1) := by decide +kernel
theorem dX10_undo_14 : decode cX10_undo 14 = .ok (.invokevirtual 92, 3) := by decide +kernel
theorem dX10_undo_17 : decode cX10_undo 17 = .ok (.ifCond .ne 6, 3) := by decide +kernel
theorem dX10_undo_20 : decode cX10_undo 20 = .ok (.bipush (-3), 2) := by decide +kernel
theorem dX10_undo_22 : decode cX10_undo 22 = .ok (.ireturn, 1) := by decide +kernel
theorem dX10_undo_23 : decode cX10_undo 23 = .ok (.aload_n 0, 1) := by decide +kernel
theorem dX10_undo_24 : decode cX10_undo 24 = .ok (.iload_n 1, 1) := by decide +kernel
theorem dX10_undo_25 : decode cX10_undo 25 = .ok (.invokevirtual 82, 3) := by decide +kernel
theorem dX10_undo_28 : decode cX10_undo 28 = .ok (.aload_n 2, 1) := by decide +kernel
theorem dX10_undo_29 : decode cX10_undo 29 = .ok (.invokevirtual 85, 3) := by decide +kernel
theorem dX10_undo_32 : decode cX10_undo 32 = .ok (.ireturn, 1) := by decide +kernel
theorem dX10_fault_0 : decode cX10_fault 0 = .ok (.aload_n 0, 1) := by decide +kernel
theorem dX10_fault_1 : decode cX10_fault 1 = .ok (.iload_n 1, 1) := by decide +kernel
theorem dX10_fault_2 : decode cX10_fault 2 = .ok (.invokevirtual 71, 3) := by decide +kernel
theorem dX10_fault_5 : decode cX10_fault 5 = .ok (.ifnonnull 6, 3) := by decide +kernel
theorem dX10_fault_8 : decode cX10_fault 8 = .ok (.bipush (-2), 2) := by decide +kernel
theorem dX10_fault_10 : decode cX10_fault 10 = .ok (.ireturn, 1) := by decide +kernel
theorem dX10_fault_11 : decode cX10_fault 11 = .ok (.iload_n 1, 1) := by decide +kernel
theorem dX10_fault_12 : decode cX10_fault 12 = .ok (.ifCond .ne 13, 3) := by decide +kernel
theorem dX10_fault_15 : decode cX10_fault 15 = .ok (.aload_n 0, 1) := by decide +kernel
theorem dX10_fault_16 : decode cX10_fault 16 = .ok (.getfield 24, 3) := by decide +kernel
theorem dX10_fault_19 : decode cX10_fault 19 = .ok (.invokevirtual 96, 3) := by decide +kernel
theorem dX10_fault_22 : decode cX10_fault 22 = .ok (.goto 10, 3) := by decide +kernel
theorem dX10_fault_25 : decode cX10_fault 25 = .ok (.aload_n 0, 1) := by decide +kernel
theorem dX10_fault_26 : decode cX10_fault 26 = .ok (.getfield 31, 3) := by decide +kernel
theorem dX10_fault_29 : decode cX10_fault 29 = .ok (.invokevirtual 99, 3) := by decide +kernel
theorem dX10_fault_32 : decode cX10_fault 32 = .ok (.ireturn, 1) := by decide +kernel
theorem dX10_rule_0 : decode cX10_rule 0 = .ok (.iload_n 1, 1) := by decide +kernel
theorem dX10_rule_1 : decode cX10_rule 1 = .ok (.ifCond .lt 23, 3) := by decide +kernel
theorem dX10_rule_4 : decode cX10_rule 4 = .ok (.iload_n 1, 1) := by decide +kernel
theorem dX10_rule_5 : decode cX10_rule 5 = .ok (.aload_n 0, 1) := by decide +kernel
theorem dX10_rule_6 : decode cX10_rule 6 = .ok (.getfield 24, 3) := by decide +kernel
theorem dX10_rule_9 : decode cX10_rule 9 = .ok (.invokevirtual 100, 3) := by decide +kernel
theorem dX10_rule_12 : decode cX10_rule 12 = .ok (.if_icmp .ge 12, 3) := by decide +kernel
theorem dX10_rule_15 : decode cX10_rule 15 = .ok (.iload_n 2, 1) := by decide +kernel
theorem dX10_rule_16 : decode cX10_rule 16 = .ok (.ifCond .lt 8, 3) := by decide +kernel
theorem dX10_rule_19 : decode cX10_rule 19 = .ok (.iload_n 2, 1) := by decide +kernel
theorem dX10_rule_20 : decode cX10_rule 20 = .ok (.iconst 2, 1) := by decide +kernel
theorem dX10_rule_21 : decode cX10_rule 21 = .ok (.if_icmp .le 6, 3) := by decide +kernel
theorem dX10_rule_24 : decode cX10_rule 24 = .ok (.bipush (-2), 2) := by decide +kernel
theorem dX10_rule_26 : decode cX10_rule 26 = .ok (.ireturn, 1) := by decide +kernel
theorem dX10_rule_27 : decode cX10_rule 27 = .ok (.iload_n 2, 1) := by decide +kernel
theorem dX10_rule_28 : decode cX10_rule 28 = .ok (.ifCond .ne 12, 3) := by decide +kernel
theorem dX10_rule_31 : decode cX10_rule 31 = .ok (.aload_n 0, 1) := by decide +kernel
theorem dX10_rule_32 : decode cX10_rule 32 = .ok (.getfield 24, 3) := by decide +kernel
theorem dX10_rule_35 : decode cX10_rule 35 = .ok (.iload_n 1, 1) := by decide +kernel
theorem dX10_rule_36 : decode cX10_rule 36 = .ok (.invokevirtual 101, 3) := by decide +kernel
theorem dX10_rule_39 : decode cX10_rule 39 = .ok (.ireturn, 1) := by decide +kernel
theorem dX10_rule_40 : decode cX10_rule 40 = .ok (.iload_n 2, 1) := by decide +kernel
theorem dX10_rule_41 : decode cX10_rule 41 = .ok (.iconst 1, 1) := by decide +kernel
theorem dX10_rule_42 : decode cX10_rule 42 = .ok (.if_icmp .ne 20, 3) := by decide +kernel
theorem dX10_rule_45 : decode cX10_rule 45 = .ok (.aload_n 0, 1) := by decide +kernel
theorem dX10_rule_46 : decode cX10_rule 46 = .ok (.getfield 24, 3) := by decide +kernel
theorem dX10_rule_49 : decode cX10_rule 49 = .ok (.iload_n 1, 1) := by decide +kernel
theorem dX10_rule_50 : decode cX10_rule 50 = .ok (.invokevirtual 105, 3) := by decide +kernel
theorem dX10_rule_53 : decode cX10_rule 53 = .ok (.ifCond .eq 7, 3) := by decide +kernel
theorem dX10_rule_56 : decode cX10_rule 56 = .ok (.iconst 1, 1) := by decide +kernel
theorem dX10_rule_57 : decode cX10_rule 57 = .ok (.goto 4, 3) := by decide +kernel
theorem dX10_rule_60 : decode cX10_rule 60 = .ok (.iconst 0, 1) := by decide +kernel
theorem dX10_rule_61 : decode cX10_rule 61 = .ok (.ireturn, 1) := by decide +kernel
theorem dX10_rule_62 : decode cX10_rule 62 = .ok (.aload_n 0, 1) := by decide +kernel
theorem dX10_rule_63 : decode cX10_rule 63 = .ok (.getfield 24, 3) := by decide +kernel
theorem dX10_rule_66 : decode cX10_rule 66 = .ok (.iload_n 1, 1) := by decide +kernel
theorem dX10_rule_67 : decode cX10_rule 67 = .ok (.invokevirtual 108, 3) := by decide +kernel
theorem dX10_rule_70 : decode cX10_rule 70 = .ok (.ireturn, 1) := by decide +kernel
theorem dX10_dust_0 : decode cX10_dust 0 = .ok (.iload_n 1, 1) := by decide +kernel
theorem dX10_dust_1 : decode cX10_dust 1 = .ok (.ifCond .lt 21, 3) := by decide +kernel
theorem dX10_dust_4 : decode cX10_dust 4 = .ok (.iload_n 1, 1) := by decide +kernel
theorem dX10_dust_5 : decode cX10_dust 5 = .ok (.aload_n 0, 1) := by decide +kernel
theorem dX10_dust_6 : decode cX10_dust 6 = .ok (.getfield 31, 3) := by decide +kernel
theorem dX10_dust_9 : decode cX10_dust 9 = .ok (.invokevirtual 111, 3) := by decide +kernel
theorem dX10_dust_12 : decode cX10_dust 12 = .ok (.if_icmp .ge 10, 3) := by decide +kernel
theorem dX10_dust_15 : decode cX10_dust 15 = .ok (.iload_n 2, 1) := by decide +kernel
theorem dX10_dust_16 : decode cX10_dust 16 = .ok (.invokestatic 112, 3) := by decide +kernel
theorem dX10_dust_19 : decode cX10_dust 19 = .ok (.ifCond .ne 6, 3) := by decide +kernel
theorem dX10_dust_22 : decode cX10_dust 22 = .ok (.bipush (-2), 2) := by decide +kernel
theorem dX10_dust_24 : decode cX10_dust 24 = .ok (.ireturn, 1) := by decide +kernel
theorem dX10_dust_25 : decode cX10_dust 25 = .ok (.iload_n 2, 1) := by decide +kernel
theorem dX10_dust_26 : decode cX10_dust 26 = .ok (.ifCond .ne 14, 3) := by decide +kernel
theorem dX10_dust_29 : decode cX10_dust 29 = .ok (.aload_n 0, 1) := by decide +kernel
theorem dX10_dust_30 : decode cX10_dust 30 = .ok (.getfield 31, 3) := by decide +kernel
theorem dX10_dust_33 : decode cX10_dust 33 = .ok (.iload_n 1, 1) := by decide +kernel
theorem dX10_dust_34 : decode cX10_dust 34 = .ok (.invokevirtual 115, 3) := by decide +kernel
theorem dX10_dust_37 : decode cX10_dust 37 = .ok (.goto 11, 3) := by decide +kernel
theorem dX10_dust_40 : decode cX10_dust 40 = .ok (.aload_n 0, 1) := by decide +kernel
theorem dX10_dust_41 : decode cX10_dust 41 = .ok (.getfield 31, 3) := by decide +kernel
theorem dX10_dust_44 : decode cX10_dust 44 = .ok (.iload_n 1, 1) := by decide +kernel
theorem dX10_dust_45 : decode cX10_dust 45 = .ok (.invokevirtual 116, 3) := by decide +kernel
theorem dX10_dust_48 : decode cX10_dust 48 = .ok (.ireturn, 1) := by decide +kernel
theorem dX10_first_0 : decode cX10_first 0 = .ok (.iload_n 1, 1) := by decide +kernel
theorem dX10_first_1 : decode cX10_first 1 = .ok (.invokestatic 75, 3) := by decide +kernel
theorem dX10_first_4 : decode cX10_first 4 = .ok (.ifCond .ne 6, 3) := by decide +kernel
theorem dX10_first_7 : decode cX10_first 7 = .ok (.bipush (-2), 2) := by decide +kernel
theorem dX10_first_9 : decode cX10_first 9 = .ok (.ireturn, 1) := by decide +kernel
theorem dX10_first_10 : decode cX10_first 10 = .ok (.aload_n 0, 1) := by decide +kernel
theorem dX10_first_11 : decode cX10_first 11 = .ok (.getfield 49, 3) := by decide +kernel
theorem dX10_first_14 : decode cX10_first 14 = .ok (.invokevirtual 117, 3) := by decide +kernel
theorem dX10_first_17 : decode cX10_first 17 = .ok (.istore_n 2, 1) := by decide +kernel
theorem dX10_first_18 : decode cX10_first 18 = .ok (.aload_n 0, 1) := by decide +kernel
theorem dX10_first_19 : decode cX10_first 19 = .ok (.getfield 49, 3) := by decide +kernel
theorem dX10_first_22 : decode cX10_first 22 = .ok (.iload_n 1, 1) := by decide +kernel
theorem dX10_first_23 : decode cX10_first 23 = .ok (.invokevirtual 120, 3) := by decide +kernel
theorem dX10_first_26 : decode cX10_first 26 = .ok (.iload_n 2, 1) := by decide +kernel
theorem dX10_first_27 : decode cX10_first 27 = .ok (.ireturn, 1) := by decide +kernel
theorem dX10_comes_0 : decode cX10_comes 0 = .ok (.iload_n 1, 1) := by decide +kernel
theorem dX10_comes_1 : decode cX10_comes 1 = .ok (.invokestatic 75, 3) := by decide +kernel
theorem dX10_comes_4 : decode cX10_comes 4 = .ok (.ifCond .eq 14, 3) := by decide +kernel
theorem dX10_comes_7 : decode cX10_comes 7 = .ok (.aload_n 0, 1) := by decide +kernel
theorem dX10_comes_8 : decode cX10_comes 8 = .ok (.invokevirtual 123, 3) := by decide +kernel
theorem dX10_comes_11 : decode cX10_comes 11 = .ok (.iload_n 1, 1) := by decide +kernel
theorem dX10_comes_12 : decode cX10_comes 12 = .ok (.invokevirtual 127, 3) := by decide +kernel
theorem dX10_comes_15 : decode cX10_comes 15 = .ok (.goto 5, 3) := by decide +kernel
theorem dX10_comes_18 : decode cX10_comes 18 = .ok (.bipush (-2), 2) := by decide +kernel
theorem dX10_comes_20 : decode cX10_comes 20 = .ok (.ireturn, 1) := by decide +kernel
theorem dX10_lays_0 : decode cX10_lays 0 = .ok (.iload_n 1, 1) := by decide +kernel
theorem dX10_lays_1 : decode cX10_lays 1 = .ok (.invokestatic 75, 3) := by decide +kernel
theorem dX10_lays_4 : decode cX10_lays 4 = .ok (.ifCond .eq 14, 3) := by decide +kernel
theorem dX10_lays_7 : decode cX10_lays 7 = .ok (.aload_n 0, 1) := by decide +kernel
theorem dX10_lays_8 : decode cX10_lays 8 = .ok (.getfield 31, 3) := by decide +kernel
theorem dX10_lays_11 : decode cX10_lays 11 = .ok (.iload_n 1, 1) := by decide +kernel
theorem dX10_lays_12 : decode cX10_lays 12 = .ok (.invokevirtual 130, 3) := by decide +kernel
theorem dX10_lays_15 : decode cX10_lays 15 = .ok (.goto 5, 3) := by decide +kernel
theorem dX10_lays_18 : decode cX10_lays 18 = .ok (.bipush (-2), 2) := by decide +kernel
theorem dX10_lays_20 : decode cX10_lays 20 = .ok (.ireturn, 1) := by decide +kernel
theorem dX10_lay_0 : decode cX10_lay 0 = .ok (.iload_n 1, 1) := by decide +kernel
theorem dX10_lay_1 : decode cX10_lay 1 = .ok (.invokestatic 133, 3) := by decide +kernel
theorem dX10_lay_4 : decode cX10_lay 4 = .ok (.ifCond .eq 17, 3) := by decide +kernel
theorem dX10_lay_7 : decode cX10_lay 7 = .ok (.iload_n 2, 1) := by decide +kernel
theorem dX10_lay_8 : decode cX10_lay 8 = .ok (.invokestatic 136, 3) := by decide +kernel
theorem dX10_lay_11 : decode cX10_lay 11 = .ok (.ifCond .eq 10, 3) := by decide +kernel
theorem dX10_lay_14 : decode cX10_lay 14 = .ok (.iload_n 3, 1) := by decide +kernel
theorem dX10_lay_15 : decode cX10_lay 15 = .ok (.invokestatic 112, 3) := by decide +kernel
theorem dX10_lay_18 : decode cX10_lay 18 = .ok (.ifCond .ne 6, 3) := by decide +kernel
theorem dX10_lay_21 : decode cX10_lay 21 = .ok (.bipush (-2), 2) := by decide +kernel
theorem dX10_lay_23 : decode cX10_lay 23 = .ok (.ireturn, 1) := by decide +kernel
theorem dX10_lay_24 : decode cX10_lay 24 = .ok (.aload_n 0, 1) := by decide +kernel
theorem dX10_lay_25 : decode cX10_lay 25 = .ok (.getfield 49, 3) := by decide +kernel
theorem dX10_lay_28 : decode cX10_lay 28 = .ok (.iload_n 1, 1) := by decide +kernel
end
section
theorem dX10_lay_29 : decode cX10_lay 29 = .ok (.iload_n 2, 1) := by decide +kernel
theorem dX10_lay_30 : decode cX10_lay 30 = .ok (.iload_n 3, 1) := by decide +kernel
theorem dX10_lay_31 : decode cX10_lay 31 = .ok (.invokevirtual 139, 3) := by decide +kernel
theorem dX10_lay_34 : decode cX10_lay 34 = .ok (.ifCond .ne 6, 3) := by decide +kernel
theorem dX10_lay_37 : decode cX10_lay 37 = .ok (.bipush (-4), 2) := by decide +kernel
theorem dX10_lay_39 : decode cX10_lay 39 = .ok (.ireturn, 1) := by decide +kernel
theorem dX10_lay_40 : decode cX10_lay 40 = .ok (.aload_n 0, 1) := by decide +kernel
theorem dX10_lay_41 : decode cX10_lay 41 = .ok (.getfield 49, 3) := by decide +kernel
theorem dX10_lay_44 : decode cX10_lay 44 = .ok (.invokevirtual 143, 3) := by decide +kernel
theorem dX10_lay_47 : decode cX10_lay 47 = .ok (.ireturn, 1) := by decide +kernel
theorem dX10_back_0 : decode cX10_back 0 = .ok (.aload_n 0, 1) := by decide +kernel
theorem dX10_back_1 : decode cX10_back 1 = .ok (.getfield 49, 3) := by decide +kernel
theorem dX10_back_4 : decode cX10_back 4 = .ok (.invokevirtual 146, 3) := by decide +kernel
theorem dX10_back_7 : decode cX10_back 7 = .ok (.ifCond .ne 6, 3) := by decide +kernel
theorem dX10_back_10 : decode cX10_back 10 = .ok (.bipush (-3), 2) := by decide +kernel
theorem dX10_back_12 : decode cX10_back 12 = .ok (.ireturn, 1) := by decide +kernel
theorem dX10_back_13 : decode cX10_back 13 = .ok (.aload_n 0, 1) := by decide +kernel
theorem dX10_back_14 : decode cX10_back 14 = .ok (.getfield 49, 3) := by decide +kernel
theorem dX10_back_17 : decode cX10_back 17 = .ok (.invokevirtual 143, 3) := by decide +kernel
theorem dX10_back_20 : decode cX10_back 20 = .ok (.ireturn, 1) := by decide +kernel
theorem dX10_week_0 : decode cX10_week 0 = .ok (.iload_n 1, 1) := by decide +kernel
theorem dX10_week_1 : decode cX10_week 1 = .ok (.invokestatic 133, 3) := by decide +kernel
theorem dX10_week_4 : decode cX10_week 4 = .ok (.ifCond .eq 10, 3) := by decide +kernel
theorem dX10_week_7 : decode cX10_week 7 = .ok (.iload_n 2, 1) := by decide +kernel
theorem dX10_week_8 : decode cX10_week 8 = .ok (.invokestatic 112, 3) := by decide +kernel
theorem dX10_week_11 : decode cX10_week 11 = .ok (.ifCond .ne 6, 3) := by decide +kernel
theorem dX10_week_14 : decode cX10_week 14 = .ok (.bipush (-2), 2) := by decide +kernel
theorem dX10_week_16 : decode cX10_week 16 = .ok (.ireturn, 1) := by decide +kernel
theorem dX10_week_17 : decode cX10_week 17 = .ok (.aload_n 0, 1) := by decide +kernel
theorem dX10_week_18 : decode cX10_week 18 = .ok (.getfield 49, 3) := by decide +kernel
theorem dX10_week_21 : decode cX10_week 21 = .ok (.aload_n 0, 1) := by decide +kernel
theorem dX10_week_22 : decode cX10_week 22 = .ok (.invokevirtual 123, 3) := by decide +kernel
theorem dX10_week_25 : decode cX10_week 25 = .ok (.iload_n 1, 1) := by decide +kernel
theorem dX10_week_26 : decode cX10_week 26 = .ok (.invokevirtual 149, 3) := by decide +kernel
theorem dX10_week_29 : decode cX10_week 29 = .ok (.iload_n 2, 1) := by decide +kernel
theorem dX10_week_30 : decode cX10_week 30 = .ok (.ifCond .ne 14, 3) := by decide +kernel
theorem dX10_week_33 : decode cX10_week 33 = .ok (.aload_n 0, 1) := by decide +kernel
theorem dX10_week_34 : decode cX10_week 34 = .ok (.getfield 49, 3) := by decide +kernel
theorem dX10_week_37 : decode cX10_week 37 = .ok (.iload_n 1, 1) := by decide +kernel
theorem dX10_week_38 : decode cX10_week 38 = .ok (.invokevirtual 153, 3) := by decide +kernel
theorem dX10_week_41 : decode cX10_week 41 = .ok (.goto 11, 3) := by decide +kernel
theorem dX10_week_44 : decode cX10_week 44 = .ok (.aload_n 0, 1) := by decide +kernel
theorem dX10_week_45 : decode cX10_week 45 = .ok (.getfield 49, 3) := by decide +kernel
theorem dX10_week_48 : decode cX10_week 48 = .ok (.iload_n 1, 1) := by decide +kernel
theorem dX10_week_49 : decode cX10_week 49 = .ok (.invokevirtual 156, 3) := by decide +kernel
theorem dX10_week_52 : decode cX10_week 52 = .ok (.ireturn, 1) := by decide +kernel
theorem dX10_judged_0 : decode cX10_judged 0 = .ok (.aload_n 0, 1) := by decide +kernel
theorem dX10_judged_1 : decode cX10_judged 1 = .ok (.invokevirtual 123, 3) := by decide +kernel
theorem dX10_judged_4 : decode cX10_judged 4 = .ok (.astore_n 1, 1) := by decide +kernel
theorem dX10_judged_5 : decode cX10_judged 5 = .ok (.aload_n 0, 1) := by decide +kernel
theorem dX10_judged_6 : decode cX10_judged 6 = .ok (.getfield 49, 3) := by decide +kernel
theorem dX10_judged_9 : decode cX10_judged 9 = .ok (.aload_n 1, 1) := by decide +kernel
theorem dX10_judged_10 : decode cX10_judged 10 = .ok (.bipush 29, 2) := by decide +kernel
theorem dX10_judged_12 : decode cX10_judged 12 = .ok (.invokevirtual 149, 3) := by decide +kernel
theorem dX10_judged_15 : decode cX10_judged 15 = .ok (.iconst 0, 1) := by decide +kernel
theorem dX10_judged_16 : decode cX10_judged 16 = .ok (.istore_n 2, 1) := by decide +kernel
theorem dX10_judged_17 : decode cX10_judged 17 = .ok (.iload_n 2, 1) := by decide +kernel
theorem dX10_judged_18 : decode cX10_judged 18 = .ok (.bipush 30, 2) := by decide +kernel
theorem dX10_judged_20 : decode cX10_judged 20 = .ok (.if_icmp .ge 26, 3) := by decide +kernel
theorem dX10_judged_23 : decode cX10_judged 23 = .ok (.aload_n 1, 1) := by decide +kernel
theorem dX10_judged_24 : decode cX10_judged 24 = .ok (.aload_n 0, 1) := by decide +kernel
theorem dX10_judged_25 : decode cX10_judged 25 = .ok (.getfield 49, 3) := by decide +kernel
theorem dX10_judged_28 : decode cX10_judged 28 = .ok (.iload_n 2, 1) := by decide +kernel
theorem dX10_judged_29 : decode cX10_judged 29 = .ok (.invokevirtual 153, 3) := by decide +kernel
theorem dX10_judged_32 : decode cX10_judged 32 = .ok (.invokevirtual 159, 3) := by decide +kernel
theorem dX10_judged_35 : decode cX10_judged 35 = .ok (.ifCond .eq 5, 3) := by decide +kernel
theorem dX10_judged_38 : decode cX10_judged 38 = .ok (.iload_n 2, 1) := by decide +kernel
theorem dX10_judged_39 : decode cX10_judged 39 = .ok (.ireturn, 1) := by decide +kernel
theorem dX10_judged_40 : decode cX10_judged 40 = .ok (.iinc 2 1, 3) := by decide +kernel
theorem dX10_judged_43 : decode cX10_judged 43 = .ok (.goto (-26), 3) := by decide +kernel
theorem dX10_judged_46 : decode cX10_judged 46 = .ok (.iconst (-1), 1) := by decide +kernel
theorem dX10_judged_47 : decode cX10_judged 47 = .ok (.ireturn, 1) := by decide +kernel
theorem dX10_two_0 : decode cX10_two 0 = .ok (.iconst 0, 1) := by decide +kernel
theorem dX10_two_1 : decode cX10_two 1 = .ok (.istore_n 1, 1) := by decide +kernel
theorem dX10_two_2 : decode cX10_two 2 = .ok (.iload_n 1, 1) := by decide +kernel
theorem dX10_two_3 : decode cX10_two 3 = .ok (.bipush 8, 2) := by decide +kernel
theorem dX10_two_5 : decode cX10_two 5 = .ok (.if_icmp .ge 26, 3) := by decide +kernel
theorem dX10_two_8 : decode cX10_two 8 = .ok (.aload_n 0, 1) := by decide +kernel
theorem dX10_two_9 : decode cX10_two 9 = .ok (.getfield 24, 3) := by decide +kernel
theorem dX10_two_12 : decode cX10_two 12 = .ok (.iload_n 1, 1) := by decide +kernel
theorem dX10_two_13 : decode cX10_two 13 = .ok (.invokevirtual 162, 3) := by decide +kernel
theorem dX10_two_16 : decode cX10_two 16 = .ok (.invokestatic 165, 3) := by decide +kernel
theorem dX10_two_19 : decode cX10_two 19 = .ok (.iconst 2, 1) := by decide +kernel
theorem dX10_two_20 : decode cX10_two 20 = .ok (.if_icmp .lt 5, 3) := by decide +kernel
theorem dX10_two_23 : decode cX10_two 23 = .ok (.iload_n 1, 1) := by decide +kernel
theorem dX10_two_24 : decode cX10_two 24 = .ok (.ireturn, 1) := by decide +kernel
theorem dX10_two_25 : decode cX10_two 25 = .ok (.iinc 1 1, 3) := by decide +kernel
theorem dX10_two_28 : decode cX10_two 28 = .ok (.goto (-26), 3) := by decide +kernel
theorem dX10_two_31 : decode cX10_two 31 = .ok (.iconst (-1), 1) := by decide +kernel
theorem dX10_two_32 : decode cX10_two 32 = .ok (.ireturn, 1) := by decide +kernel
theorem dX10_second_0 : decode cX10_second 0 = .ok (.iload_n 1, 1) := by decide +kernel
theorem dX10_second_1 : decode cX10_second 1 = .ok (.invokestatic 75, 3) := by decide +kernel
theorem dX10_second_4 : decode cX10_second 4 = .ok (.ifCond .ne 6, 3) := by decide +kernel
theorem dX10_second_7 : decode cX10_second 7 = .ok (.bipush (-2), 2) := by decide +kernel
theorem dX10_second_9 : decode cX10_second 9 = .ok (.ireturn, 1) := by decide +kernel
theorem dX10_second_10 : decode cX10_second 10 = .ok (.aload_n 0, 1) := by decide +kernel
theorem dX10_second_11 : decode cX10_second 11 = .ok (.invokevirtual 123, 3) := by decide +kernel
theorem dX10_second_14 : decode cX10_second 14 = .ok (.astore_n 2, 1) := by decide +kernel
theorem dX10_second_15 : decode cX10_second 15 = .ok (.aload_n 2, 1) := by decide +kernel
theorem dX10_second_16 : decode cX10_second 16 = .ok (.aload_n 2, 1) := by decide +kernel
theorem dX10_second_17 : decode cX10_second 17 = .ok (.iload_n 1, 1) := by decide +kernel
theorem dX10_second_18 : decode cX10_second 18 = .ok (.invokevirtual 127, 3) := by decide +kernel
theorem dX10_second_21 : decode cX10_second 21 = .ok (.invokevirtual 127, 3) := by decide +kernel
theorem dX10_second_24 : decode cX10_second 24 = .ok (.ireturn, 1) := by decide +kernel
theorem dX10_touch_0 : decode cX10_touch 0 = .ok (.iload_n 1, 1) := by decide +kernel
theorem dX10_touch_1 : decode cX10_touch 1 = .ok (.invokestatic 170, 3) := by decide +kernel
theorem dX10_touch_4 : decode cX10_touch 4 = .ok (.ifCond .eq 31, 3) := by decide +kernel
theorem dX10_touch_7 : decode cX10_touch 7 = .ok (.iload_n 2, 1) := by decide +kernel
theorem dX10_touch_8 : decode cX10_touch 8 = .ok (.invokestatic 75, 3) := by decide +kernel
theorem dX10_touch_11 : decode cX10_touch 11 = .ok (.ifCond .eq 24, 3) := by decide +kernel
theorem dX10_touch_14 : decode cX10_touch 14 = .ok (.iload_n 3, 1) := by decide +kernel
theorem dX10_touch_15 : decode cX10_touch 15 = .ok (.invokestatic 75, 3) := by decide +kernel
theorem dX10_touch_18 : decode cX10_touch 18 = .ok (.ifCond .eq 17, 3) := by decide +kernel
theorem dX10_touch_21 : decode cX10_touch 21 = .ok (.iload 4, 2) := by decide +kernel
theorem dX10_touch_23 : decode cX10_touch 23 = .ok (.invokestatic 112, 3) := by decide +kernel
theorem dX10_touch_26 : decode cX10_touch 26 = .ok (.ifCond .eq 9, 3) := by decide +kernel
theorem dX10_touch_29 : decode cX10_touch 29 = .ok (.iload_n 2, 1) := by decide +kernel
theorem dX10_touch_30 : decode cX10_touch 30 = .ok (.iload_n 3, 1) := by decide +kernel
theorem dX10_touch_31 : decode cX10_touch 31 = .ok (.iand, 1) := by decide +kernel
theorem dX10_touch_32 : decode cX10_touch 32 = .ok (.ifCond .eq 6, 3) := by decide +kernel
theorem dX10_touch_35 : decode cX10_touch 35 = .ok (.bipush (-2), 2) := by decide +kernel
theorem dX10_touch_37 : decode cX10_touch 37 = .ok (.ireturn, 1) := by decide +kernel
theorem dX10_touch_38 : decode cX10_touch 38 = .ok (.aload_n 0, 1) := by decide +kernel
theorem dX10_touch_39 : decode cX10_touch 39 = .ok (.invokevirtual 123, 3) := by decide +kernel
theorem dX10_touch_42 : decode cX10_touch 42 = .ok (.aload_n 0, 1) := by decide +kernel
theorem dX10_touch_43 : decode cX10_touch 43 = .ok (.getfield 49, 3) := by decide +kernel
theorem dX10_touch_46 : decode cX10_touch 46 = .ok (.invokevirtual 117, 3) := by decide +kernel
theorem dX10_touch_49 : decode cX10_touch 49 = .ok (.iload_n 1, 1) := by decide +kernel
theorem dX10_touch_50 : decode cX10_touch 50 = .ok (.iload_n 2, 1) := by decide +kernel
theorem dX10_touch_51 : decode cX10_touch 51 = .ok (.iload_n 3, 1) := by decide +kernel
theorem dX10_touch_52 : decode cX10_touch 52 = .ok (.invokestatic 173, 3) := by decide +kernel
theorem dX10_touch_55 : decode cX10_touch 55 = .ok (.iload 4, 2) := by decide +kernel
theorem dX10_touch_57 : decode cX10_touch 57 = .ok (.invokestatic 179, 3) := by decide +kernel
theorem dX10_touch_60 : decode cX10_touch 60 = .ok (.ireturn, 1) := by decide +kernel
theorem dX10_keepOff_0 : decode cX10_keepOff 0 = .ok (.iload_n 1, 1) := by decide +kernel
theorem dX10_keepOff_1 : decode cX10_keepOff 1 = .ok (.invokestatic 170, 3) := by decide +kernel
theorem dX10_keepOff_4 : decode cX10_keepOff 4 = .ok (.ifCond .eq 17, 3) := by decide +kernel
theorem dX10_keepOff_7 : decode cX10_keepOff 7 = .ok (.iload_n 2, 1) := by decide +kernel
theorem dX10_keepOff_8 : decode cX10_keepOff 8 = .ok (.invokestatic 136, 3) := by decide +kernel
theorem dX10_keepOff_11 : decode cX10_keepOff 11 = .ok (.ifCond .eq 10, 3) := by decide +kernel
theorem dX10_keepOff_14 : decode cX10_keepOff 14 = .ok (.iload_n 3, 1) := by decide +kernel
theorem dX10_keepOff_15 : decode cX10_keepOff 15 = .ok (.invokestatic 112, 3) := by decide +kernel
theorem dX10_keepOff_18 : decode cX10_keepOff 18 = .ok (.ifCond .ne 6, 3) := by decide +kernel
theorem dX10_keepOff_21 : decode cX10_keepOff 21 = .ok (.bipush (-2), 2) := by decide +kernel
theorem dX10_keepOff_23 : decode cX10_keepOff 23 = .ok (.ireturn, 1) := by decide +kernel
theorem dX10_keepOff_24 : decode cX10_keepOff 24 = .ok (.aload_n 0, 1) := by decide +kernel
theorem dX10_keepOff_25 : decode cX10_keepOff 25 = .ok (.invokevirtual 123, 3) := by decide +kernel
theorem dX10_keepOff_28 : decode cX10_keepOff 28 = .ok (.aload_n 0, 1) := by decide +kernel
theorem dX10_keepOff_29 : decode cX10_keepOff 29 = .ok (.getfield 49, 3) := by decide +kernel
theorem dX10_keepOff_32 : decode cX10_keepOff 32 = .ok (.invokevirtual 117, 3) := by decide +kernel
theorem dX10_keepOff_35 : decode cX10_keepOff 35 = .ok (.iload_n 1, 1) := by decide +kernel
theorem dX10_keepOff_36 : decode cX10_keepOff 36 = .ok (.iconst 1, 1) := by decide +kernel
theorem dX10_keepOff_37 : decode cX10_keepOff 37 = .ok (.iload_n 2, 1) := by decide +kernel
theorem dX10_keepOff_38 : decode cX10_keepOff 38 = .ok (.ishl, 1) := by decide +kernel
theorem dX10_keepOff_39 : decode cX10_keepOff 39 = .ok (.invokestatic 183, 3) := by decide +kernel
theorem dX10_keepOff_42 : decode cX10_keepOff 42 = .ok (.iload_n 3, 1) := by decide +kernel
theorem dX10_keepOff_43 : decode cX10_keepOff 43 = .ok (.invokestatic 179, 3) := by decide +kernel
theorem dX10_keepOff_46 : decode cX10_keepOff 46 = .ok (.ireturn, 1) := by decide +kernel
theorem dX10_bars_0 : decode cX10_bars 0 = .ok (.iload_n 1, 1) := by decide +kernel
theorem dX10_bars_1 : decode cX10_bars 1 = .ok (.invokestatic 136, 3) := by decide +kernel
theorem dX10_bars_4 : decode cX10_bars 4 = .ok (.ifCond .ne 6, 3) := by decide +kernel
theorem dX10_bars_7 : decode cX10_bars 7 = .ok (.bipush (-2), 2) := by decide +kernel
theorem dX10_bars_9 : decode cX10_bars 9 = .ok (.ireturn, 1) := by decide +kernel
theorem dX10_bars_10 : decode cX10_bars 10 = .ok (.aload_n 0, 1) := by decide +kernel
theorem dX10_bars_11 : decode cX10_bars 11 = .ok (.invokevirtual 123, 3) := by decide +kernel
theorem dX10_bars_14 : decode cX10_bars 14 = .ok (.astore_n 2, 1) := by decide +kernel
theorem dX10_bars_15 : decode cX10_bars 15 = .ok (.iconst 0, 1) := by decide +kernel
theorem dX10_bars_16 : decode cX10_bars 16 = .ok (.istore_n 3, 1) := by decide +kernel
theorem dX10_bars_17 : decode cX10_bars 17 = .ok (.iconst 0, 1) := by decide +kernel
theorem dX10_bars_18 : decode cX10_bars 18 = .ok (.istore 4, 2) := by decide +kernel
theorem dX10_bars_20 : decode cX10_bars 20 = .ok (.iload 4, 2) := by decide +kernel
theorem dX10_bars_22 : decode cX10_bars 22 = .ok (.sipush 256, 3) := by decide +kernel
theorem dX10_bars_25 : decode cX10_bars 25 = .ok (.if_icmp .ge 22, 3) := by decide +kernel
theorem dX10_bars_28 : decode cX10_bars 28 = .ok (.iload_n 3, 1) := by decide +kernel
theorem dX10_bars_29 : decode cX10_bars 29 = .ok (.aload_n 2, 1) := by decide +kernel
theorem dX10_bars_30 : decode cX10_bars 30 = .ok (.iload 4, 2) := by decide +kernel
theorem dX10_bars_32 : decode cX10_bars 32 = .ok (.invokevirtual 159, 3) := by decide +kernel
theorem dX10_bars_35 : decode cX10_bars 35 = .ok (.iload_n 1, 1) := by decide +kernel
theorem dX10_bars_36 : decode cX10_bars 36 = .ok (.ishr, 1) := by decide +kernel
theorem dX10_bars_37 : decode cX10_bars 37 = .ok (.iconst 1, 1) := by decide +kernel
theorem dX10_bars_38 : decode cX10_bars 38 = .ok (.iand, 1) := by decide +kernel
theorem dX10_bars_39 : decode cX10_bars 39 = .ok (.iadd, 1) := by decide +kernel
theorem dX10_bars_40 : decode cX10_bars 40 = .ok (.istore_n 3, 1) := by decide +kernel
theorem dX10_bars_41 : decode cX10_bars 41 = .ok (.iinc 4 1, 3) := by decide +kernel
theorem dX10_bars_44 : decode cX10_bars 44 = .ok (.goto (-24), 3) := by decide +kernel
theorem dX10_bars_47 : decode cX10_bars 47 = .ok (.iload_n 3, 1) := by decide +kernel
theorem dX10_bars_48 : decode cX10_bars 48 = .ok (.ireturn, 1) := by decide +kernel
theorem dX10_play_0 : decode cX10_play 0 = .ok (.iload_n 1, 1) := by decide +kernel
theorem dX10_play_1 : decode cX10_play 1 = .ok (.ifCond .lt 22, 3) := by decide +kernel
theorem dX10_play_4 : decode cX10_play 4 = .ok (.iload_n 1, 1) := by decide +kernel
theorem dX10_play_5 : decode cX10_play 5 = .ok (.iconst 4, 1) := by decide +kernel
theorem dX10_play_6 : decode cX10_play 6 = .ok (.if_icmp .gt 17, 3) := by decide +kernel
theorem dX10_play_9 : decode cX10_play 9 = .ok (.iload_n 2, 1) := by decide +kernel
theorem dX10_play_10 : decode cX10_play 10 = .ok (.invokestatic 136, 3) := by decide +kernel
theorem dX10_play_13 : decode cX10_play 13 = .ok (.ifCond .eq 10, 3) := by decide +kernel
theorem dX10_play_16 : decode cX10_play 16 = .ok (.iload_n 3, 1) := by decide +kernel
theorem dX10_play_17 : decode cX10_play 17 = .ok (.invokestatic 112, 3) := by decide +kernel
theorem dX10_play_20 : decode cX10_play 20 = .ok (.ifCond .ne 6, 3) := by decide +kernel
theorem dX10_play_23 : decode cX10_play 23 = .ok (.bipush (-2), 2) := by decide +kernel
theorem dX10_play_25 : decode cX10_play 25 = .ok (.ireturn, 1) := by decide +kernel
theorem dX10_play_26 : decode cX10_play 26 = .ok (.aload_n 0, 1) := by decide +kernel
theorem dX10_play_27 : decode cX10_play 27 = .ok (.invokevirtual 123, 3) := by decide +kernel
theorem dX10_play_30 : decode cX10_play 30 = .ok (.astore 4, 2) := by decide +kernel
theorem dX10_play_32 : decode cX10_play 32 = .ok (.iconst 1, 1) := by decide +kernel
theorem dX10_play_33 : decode cX10_play 33 = .ok (.iload_n 2, 1) := by decide +kernel
theorem dX10_play_34 : decode cX10_play 34 = .ok (.ishl, 1) := by decide +kernel
theorem dX10_play_35 : decode cX10_play 35 = .ok (.istore 5, 2) := by decide +kernel
theorem dX10_play_37 : decode cX10_play 37 = .ok (.iload_n 3, 1) := by decide +kernel
theorem dX10_play_38 : decode cX10_play 38 = .ok (.ifCond .ne 27, 3) := by decide +kernel
theorem dX10_play_41 : decode cX10_play 41 = .ok (.aload 4, 2) := by decide +kernel
theorem dX10_play_43 : decode cX10_play 43 = .ok (.aload_n 0, 1) := by decide +kernel
theorem dX10_play_44 : decode cX10_play 44 = .ok (.getfield 49, 3) := by decide +kernel
theorem dX10_play_47 : decode cX10_play 47 = .ok (.invokevirtual 117, 3) := by decide +kernel
theorem dX10_play_50 : decode cX10_play 50 = .ok (.iload 5, 2) := by decide +kernel
theorem dX10_play_52 : decode cX10_play 52 = .ok (.iload_n 1, 1) := by decide +kernel
theorem dX10_play_53 : decode cX10_play 53 = .ok (.invokestatic 187, 3) := by decide +kernel
theorem dX10_play_56 : decode cX10_play 56 = .ok (.ifCond .eq 7, 3) := by decide +kernel
theorem dX10_play_59 : decode cX10_play 59 = .ok (.iconst 1, 1) := by decide +kernel
theorem dX10_play_60 : decode cX10_play 60 = .ok (.goto 4, 3) := by decide +kernel
theorem dX10_play_63 : decode cX10_play 63 = .ok (.iconst 0, 1) := by decide +kernel
theorem dX10_play_64 : decode cX10_play 64 = .ok (.ireturn, 1) := by decide +kernel
theorem dX10_play_65 : decode cX10_play 65 = .ok (.aload 4, 2) := by decide +kernel
theorem dX10_play_67 : decode cX10_play 67 = .ok (.aload_n 0, 1) := by decide +kernel
theorem dX10_play_68 : decode cX10_play 68 = .ok (.getfield 49, 3) := by decide +kernel
theorem dX10_play_71 : decode cX10_play 71 = .ok (.invokevirtual 117, 3) := by decide +kernel
theorem dX10_play_74 : decode cX10_play 74 = .ok (.iload 5, 2) := by decide +kernel
theorem dX10_play_76 : decode cX10_play 76 = .ok (.iload_n 1, 1) := by decide +kernel
theorem dX10_play_77 : decode cX10_play 77 = .ok (.invokestatic 191, 3) := by decide +kernel
theorem dX10_play_80 : decode cX10_play 80 = .ok (.ireturn, 1) := by decide +kernel
theorem dX10_steady_0 : decode cX10_steady 0 = .ok (.iload_n 1, 1) := by decide +kernel
theorem dX10_steady_1 : decode cX10_steady 1 = .ok (.iconst (-1), 1) := by decide +kernel
theorem dX10_steady_2 : decode cX10_steady 2 = .ok (.if_icmp .lt 10, 3) := by decide +kernel
theorem dX10_steady_5 : decode cX10_steady 5 = .ok (.iload_n 1, 1) := by decide +kernel
theorem dX10_steady_6 : decode cX10_steady 6 = .ok (.sipush 255, 3) := by decide +kernel
theorem dX10_steady_9 : decode cX10_steady 9 = .ok (.if_icmp .le 6, 3) := by decide +kernel
theorem dX10_steady_12 : decode cX10_steady 12 = .ok (.bipush (-2), 2) := by decide +kernel
theorem dX10_steady_14 : decode cX10_steady 14 = .ok (.ireturn, 1) := by decide +kernel
theorem dX10_steady_15 : decode cX10_steady 15 = .ok (.aload_n 0, 1) := by decide +kernel
theorem dX10_steady_16 : decode cX10_steady 16 = .ok (.invokevirtual 123, 3) := by decide +kernel
theorem dX10_steady_19 : decode cX10_steady 19 = .ok (.astore_n 2, 1) := by decide +kernel
theorem dX10_steady_20 : decode cX10_steady 20 = .ok (.iconst 0, 1) := by decide +kernel
theorem dX10_steady_21 : decode cX10_steady 21 = .ok (.istore_n 3, 1) := by decide +kernel
theorem dX10_steady_22 : decode cX10_steady 22 = .ok (.iconst 0, 1) := by decide +kernel
theorem dX10_steady_23 : decode cX10_steady 23 = .ok (.istore 4, 2) := by decide +kernel
theorem dX10_steady_25 : decode cX10_steady 25 = .ok (.iload 4, 2) := by decide +kernel
theorem dX10_steady_27 : decode cX10_steady 27 = .ok (.sipush 256, 3) := by decide +kernel
theorem dX10_steady_30 : decode cX10_steady 30 = .ok (.if_icmp .ge 31, 3) := by decide +kernel
theorem dX10_steady_33 : decode cX10_steady 33 = .ok (.aload_n 2, 1) := by decide +kernel
theorem dX10_steady_34 : decode cX10_steady 34 = .ok (.iload 4, 2) := by decide +kernel
theorem dX10_steady_36 : decode cX10_steady 36 = .ok (.invokevirtual 194, 3) := by decide +kernel
theorem dX10_steady_39 : decode cX10_steady 39 = .ok (.iload 4, 2) := by decide +kernel
theorem dX10_steady_41 : decode cX10_steady 41 = .ok (.if_icmp .ne 14, 3) := by decide +kernel
theorem dX10_steady_44 : decode cX10_steady 44 = .ok (.iload_n 3, 1) := by decide +kernel
theorem dX10_steady_45 : decode cX10_steady 45 = .ok (.iload_n 1, 1) := by decide +kernel
theorem dX10_steady_46 : decode cX10_steady 46 = .ok (.if_icmp .ne 6, 3) := by decide +kernel
theorem dX10_steady_49 : decode cX10_steady 49 = .ok (.iload 4, 2) := by decide +kernel
theorem dX10_steady_51 : decode cX10_steady 51 = .ok (.ireturn, 1) := by decide +kernel
theorem dX10_steady_52 : decode cX10_steady 52 = .ok (.iinc 3 1, 3) := by decide +kernel
theorem dX10_steady_55 : decode cX10_steady 55 = .ok (.iinc 4 1, 3) := by decide +kernel
theorem dX10_steady_58 : decode cX10_steady 58 = .ok (.goto (-33), 3) := by decide +kernel
theorem dX10_steady_61 : decode cX10_steady 61 = .ok (.iload_n 1, 1) := by decide +kernel
theorem dX10_steady_62 : decode cX10_steady 62 = .ok (.iconst (-1), 1) := by decide +kernel
theorem dX10_steady_63 : decode cX10_steady 63 = .ok (.if_icmp .ne 7, 3) := by decide +kernel
theorem dX10_steady_66 : decode cX10_steady 66 = .ok (.iload_n 3, 1) := by decide +kernel
theorem dX10_steady_67 : decode cX10_steady 67 = .ok (.goto 4, 3) := by decide +kernel
theorem dX10_steady_70 : decode cX10_steady 70 = .ok (.iconst (-1), 1) := by decide +kernel
theorem dX10_steady_71 : decode cX10_steady 71 = .ok (.ireturn, 1) := by decide +kernel
theorem dX10_round_0 : decode cX10_round 0 = .ok (.iload_n 1, 1) := by decide +kernel
theorem dX10_round_1 : decode cX10_round 1 = .ok (.invokestatic 75, 3) := by decide +kernel
theorem dX10_round_4 : decode cX10_round 4 = .ok (.ifCond .eq 10, 3) := by decide +kernel
theorem dX10_round_7 : decode cX10_round 7 = .ok (.iload_n 2, 1) := by decide +kernel
theorem dX10_round_8 : decode cX10_round 8 = .ok (.invokestatic 112, 3) := by decide +kernel
theorem dX10_round_11 : decode cX10_round 11 = .ok (.ifCond .ne 6, 3) := by decide +kernel
theorem dX10_round_14 : decode cX10_round 14 = .ok (.bipush (-2), 2) := by decide +kernel
theorem dX10_round_16 : decode cX10_round 16 = .ok (.ireturn, 1) := by decide +kernel
theorem dX10_round_17 : decode cX10_round 17 = .ok (.aload_n 0, 1) := by decide +kernel
theorem dX10_round_18 : decode cX10_round 18 = .ok (.invokevirtual 123, 3) := by decide +kernel
theorem dX10_round_21 : decode cX10_round 21 = .ok (.astore_n 3, 1) := by decide +kernel
theorem dX10_round_22 : decode cX10_round 22 = .ok (.iload_n 2, 1) := by decide +kernel
theorem dX10_round_23 : decode cX10_round 23 = .ok (.ifCond .ne 11, 3) := by decide +kernel
theorem dX10_round_26 : decode cX10_round 26 = .ok (.aload_n 3, 1) := by decide +kernel
theorem dX10_round_27 : decode cX10_round 27 = .ok (.iload_n 1, 1) := by decide +kernel
theorem dX10_round_28 : decode cX10_round 28 = .ok (.invokestatic 197, 3) := by decide +kernel
theorem dX10_round_31 : decode cX10_round 31 = .ok (.goto 8, 3) := by decide +kernel
theorem dX10_round_34 : decode cX10_round 34 = .ok (.aload_n 3, 1) := by decide +kernel
theorem dX10_round_35 : decode cX10_round 35 = .ok (.iload_n 1, 1) := by decide +kernel
theorem dX10_round_36 : decode cX10_round 36 = .ok (.invokestatic 201, 3) := by decide +kernel
theorem dX10_round_39 : decode cX10_round 39 = .ok (.ireturn, 1) := by decide +kernel
theorem dX10_seen_0 : decode cX10_seen 0 = .ok (.iload_n 1, 1) := by decide +kernel
theorem dX10_seen_1 : decode cX10_seen 1 = .ok (.invokestatic 75, 3) := by decide +kernel
theorem dX10_seen_4 : decode cX10_seen 4 = .ok (.ifCond .eq 10, 3) := by decide +kernel
theorem dX10_seen_7 : decode cX10_seen 7 = .ok (.iload_n 2, 1) := by decide +kernel
theorem dX10_seen_8 : decode cX10_seen 8 = .ok (.invokestatic 75, 3) := by decide +kernel
theorem dX10_seen_11 : decode cX10_seen 11 = .ok (.ifCond .ne 6, 3) := by decide +kernel
theorem dX10_seen_14 : decode cX10_seen 14 = .ok (.bipush (-2), 2) := by decide +kernel
theorem dX10_seen_16 : decode cX10_seen 16 = .ok (.ireturn, 1) := by decide +kernel
theorem dX10_seen_17 : decode cX10_seen 17 = .ok (.aload_n 0, 1) := by decide +kernel
theorem dX10_seen_18 : decode cX10_seen 18 = .ok (.getfield 56, 3) := by decide +kernel
theorem dX10_seen_21 : decode cX10_seen 21 = .ok (.iload_n 1, 1) := by decide +kernel
theorem dX10_seen_22 : decode cX10_seen 22 = .ok (.iload_n 2, 1) := by decide +kernel
theorem dX10_seen_23 : decode cX10_seen 23 = .ok (.invokevirtual 204, 3) := by decide +kernel
theorem dX10_seen_26 : decode cX10_seen 26 = .ok (.ifCond .ne 6, 3) := by decide +kernel
theorem dX10_seen_29 : decode cX10_seen 29 = .ok (.bipush (-4), 2) := by decide +kernel
theorem dX10_seen_31 : decode cX10_seen 31 = .ok (.ireturn, 1) := by decide +kernel
theorem dX10_seen_32 : decode cX10_seen 32 = .ok (.aload_n 0, 1) := by decide +kernel
theorem dX10_seen_33 : decode cX10_seen 33 = .ok (.getfield 56, 3) := by decide +kernel
theorem dX10_seen_36 : decode cX10_seen 36 = .ok (.invokevirtual 208, 3) := by decide +kernel
theorem dX10_seen_39 : decode cX10_seen 39 = .ok (.ireturn, 1) := by decide +kernel
theorem dX10_forget_0 : decode cX10_forget 0 = .ok (.aload_n 0, 1) := by decide +kernel
theorem dX10_forget_1 : decode cX10_forget 1 = .ok (.getfield 56, 3) := by decide +kernel
theorem dX10_forget_4 : decode cX10_forget 4 = .ok (.invokevirtual 208, 3) := by decide +kernel
theorem dX10_forget_7 : decode cX10_forget 7 = .ok (.istore_n 1, 1) := by decide +kernel
theorem dX10_forget_8 : decode cX10_forget 8 = .ok (.aload_n 0, 1) := by decide +kernel
theorem dX10_forget_9 : decode cX10_forget 9 = .ok (.getfield 56, 3) := by decide +kernel
theorem dX10_forget_12 : decode cX10_forget 12 = .ok (.invokevirtual 209, 3) := by decide +kernel
theorem dX10_forget_15 : decode cX10_forget 15 = .ok (.iload_n 1, 1) := by decide +kernel
theorem dX10_forget_16 : decode cX10_forget 16 = .ok (.ireturn, 1) := by decide +kernel
theorem dX10_read_0 : decode cX10_read 0 = .ok (.iload_n 1, 1) := by decide +kernel
theorem dX10_read_1 : decode cX10_read 1 = .ok (.invokestatic 210, 3) := by decide +kernel
theorem dX10_read_4 : decode cX10_read 4 = .ok (.ifCond .ne 6, 3) := by decide +kernel
theorem dX10_read_7 : decode cX10_read 7 = .ok (.bipush (-2), 2) := by decide +kernel
theorem dX10_read_9 : decode cX10_read 9 = .ok (.ireturn, 1) := by decide +kernel
theorem dX10_read_10 : decode cX10_read 10 = .ok (.aload_n 0, 1) := by decide +kernel
theorem dX10_read_11 : decode cX10_read 11 = .ok (.getfield 62, 3) := by decide +kernel
theorem dX10_read_14 : decode cX10_read 14 = .ok (.iload_n 1, 1) := by decide +kernel
theorem dX10_read_15 : decode cX10_read 15 = .ok (.aaload, 1) := by decide +kernel
theorem dX10_read_16 : decode cX10_read 16 = .ok (.invokevirtual 213, 3) := by decide +kernel
theorem dX10_read_19 : decode cX10_read 19 = .ok (.ifCond .eq 9, 3) := by decide +kernel
theorem dX10_read_22 : decode cX10_read 22 = .ok (.aload_n 0, 1) := by decide +kernel
theorem dX10_read_23 : decode cX10_read 23 = .ok (.iconst 1, 1) := by decide +kernel
theorem dX10_read_24 : decode cX10_read 24 = .ok (.invokevirtual 216, 3) := by decide +kernel
theorem dX10_read_27 : decode cX10_read 27 = .ok (.ireturn, 1) := by decide +kernel
theorem dX10_read_28 : decode cX10_read 28 = .ok (.aload_n 0, 1) := by decide +kernel
theorem dX10_read_29 : decode cX10_read 29 = .ok (.getfield 62, 3) := by decide +kernel
theorem dX10_read_32 : decode cX10_read 32 = .ok (.iload_n 1, 1) := by decide +kernel
theorem dX10_read_33 : decode cX10_read 33 = .ok (.aaload, 1) := by decide +kernel
theorem dX10_read_34 : decode cX10_read 34 = .ok (.astore_n 2, 1) := by decide +kernel
theorem dX10_read_35 : decode cX10_read 35 = .ok (.iconst 0, 1) := by decide +kernel
theorem dX10_read_36 : decode cX10_read 36 = .ok (.istore_n 3, 1) := by decide +kernel
theorem dX10_read_37 : decode cX10_read 37 = .ok (.iconst 0, 1) := by decide +kernel
theorem dX10_read_38 : decode cX10_read 38 = .ok (.istore 4, 2) := by decide +kernel
theorem dX10_read_40 : decode cX10_read 40 = .ok (.iload 4, 2) := by decide +kernel
theorem dX10_read_42 : decode cX10_read 42 = .ok (.iconst 1, 1) := by decide +kernel
theorem dX10_read_43 : decode cX10_read 43 = .ok (.iadd, 1) := by decide +kernel
theorem dX10_read_44 : decode cX10_read 44 = .ok (.aload_n 2, 1) := by decide +kernel
theorem dX10_read_45 : decode cX10_read 45 = .ok (.invokevirtual 219, 3) := by decide +kernel
theorem dX10_read_48 : decode cX10_read 48 = .ok (.if_icmp .ge 62, 3) := by decide +kernel
theorem dX10_read_51 : decode cX10_read 51 = .ok (.aload_n 2, 1) := by decide +kernel
theorem dX10_read_52 : decode cX10_read 52 = .ok (.iload 4, 2) := by decide +kernel
theorem dX10_read_54 : decode cX10_read 54 = .ok (.invokevirtual 220, 3) := by decide +kernel
theorem dX10_read_57 : decode cX10_read 57 = .ok (.istore 5, 2) := by decide +kernel
theorem dX10_read_59 : decode cX10_read 59 = .ok (.aload_n 2, 1) := by decide +kernel
theorem dX10_read_60 : decode cX10_read 60 = .ok (.iload 4, 2) := by decide +kernel
theorem dX10_read_62 : decode cX10_read 62 = .ok (.iconst 1, 1) := by decide +kernel
theorem dX10_read_63 : decode cX10_read 63 = .ok (.iadd, 1) := by decide +kernel
theorem dX10_read_64 : decode cX10_read 64 = .ok (.invokevirtual 220, 3) := by decide +kernel
theorem dX10_read_67 : decode cX10_read 67 = .ok (.istore 6, 2) := by decide +kernel
theorem dX10_read_69 : decode cX10_read 69 = .ok (.iload 5, 2) := by decide +kernel
theorem dX10_read_71 : decode cX10_read 71 = .ok (.invokestatic 75, 3) := by decide +kernel
theorem dX10_read_74 : decode cX10_read 74 = .ok (.ifCond .eq 25, 3) := by decide +kernel
theorem dX10_read_77 : decode cX10_read 77 = .ok (.iload 6, 2) := by decide +kernel
theorem dX10_read_79 : decode cX10_read 79 = .ok (.invokestatic 75, 3) := by decide +kernel
theorem dX10_read_82 : decode cX10_read 82 = .ok (.ifCond .eq 17, 3) := by decide +kernel
theorem dX10_read_85 : decode cX10_read 85 = .ok (.aload_n 0, 1) := by decide +kernel
theorem dX10_read_86 : decode cX10_read 86 = .ok (.getfield 56, 3) := by decide +kernel
theorem dX10_read_89 : decode cX10_read 89 = .ok (.iload 5, 2) := by decide +kernel
theorem dX10_read_91 : decode cX10_read 91 = .ok (.iload 6, 2) := by decide +kernel
theorem dX10_read_93 : decode cX10_read 93 = .ok (.invokevirtual 204, 3) := by decide +kernel
theorem dX10_read_96 : decode cX10_read 96 = .ok (.ifCond .ne 5, 3) := by decide +kernel
theorem dX10_read_99 : decode cX10_read 99 = .ok (.iload_n 3, 1) := by decide +kernel
theorem dX10_read_100 : decode cX10_read 100 = .ok (.ireturn, 1) := by decide +kernel
theorem dX10_read_101 : decode cX10_read 101 = .ok (.iinc 3 1, 3) := by decide +kernel
theorem dX10_read_104 : decode cX10_read 104 = .ok (.iinc 4 2, 3) := by decide +kernel
theorem dX10_read_107 : decode cX10_read 107 = .ok (.goto (-67), 3) := by decide +kernel
theorem dX10_read_110 : decode cX10_read 110 = .ok (.iload_n 3, 1) := by decide +kernel
theorem dX10_read_111 : decode cX10_read 111 = .ok (.ireturn, 1) := by decide +kernel
theorem dX10_stands_0 : decode cX10_stands 0 = .ok (.iload_n 1, 1) := by decide +kernel
theorem dX10_stands_1 : decode cX10_stands 1 = .ok (.invokestatic 136, 3) := by decide +kernel
theorem dX10_stands_4 : decode cX10_stands 4 = .ok (.ifCond .eq 10, 3) := by decide +kernel
theorem dX10_stands_7 : decode cX10_stands 7 = .ok (.iload_n 2, 1) := by decide +kernel
theorem dX10_stands_8 : decode cX10_stands 8 = .ok (.invokestatic 112, 3) := by decide +kernel
theorem dX10_stands_11 : decode cX10_stands 11 = .ok (.ifCond .ne 6, 3) := by decide +kernel
theorem dX10_stands_14 : decode cX10_stands 14 = .ok (.bipush (-2), 2) := by decide +kernel
theorem dX10_stands_16 : decode cX10_stands 16 = .ok (.ireturn, 1) := by decide +kernel
theorem dX10_stands_17 : decode cX10_stands 17 = .ok (.iload_n 2, 1) := by decide +kernel
theorem dX10_stands_18 : decode cX10_stands 18 = .ok (.ifCond .ne 14, 3) := by decide +kernel
theorem dX10_stands_21 : decode cX10_stands 21 = .ok (.aload_n 0, 1) := by decide +kernel
theorem dX10_stands_22 : decode cX10_stands 22 = .ok (.getfield 56, 3) := by decide +kernel
theorem dX10_stands_25 : decode cX10_stands 25 = .ok (.iload_n 1, 1) := by decide +kernel
theorem dX10_stands_26 : decode cX10_stands 26 = .ok (.invokevirtual 223, 3) := by decide +kernel
theorem dX10_stands_29 : decode cX10_stands 29 = .ok (.goto 11, 3) := by decide +kernel
theorem dX10_stands_32 : decode cX10_stands 32 = .ok (.aload_n 0, 1) := by decide +kernel
theorem dX10_stands_33 : decode cX10_stands 33 = .ok (.getfield 56, 3) := by decide +kernel
theorem dX10_stands_36 : decode cX10_stands 36 = .ok (.iload_n 1, 1) := by decide +kernel
theorem dX10_stands_37 : decode cX10_stands 37 = .ok (.invokevirtual 226, 3) := by decide +kernel
theorem dX10_stands_40 : decode cX10_stands 40 = .ok (.ireturn, 1) := by decide +kernel
theorem dX10_watch_0 : decode cX10_watch 0 = .ok (.iload_n 1, 1) := by decide +kernel
theorem dX10_watch_1 : decode cX10_watch 1 = .ok (.invokestatic 136, 3) := by decide +kernel
theorem dX10_watch_4 : decode cX10_watch 4 = .ok (.ifCond .eq 14, 3) := by decide +kernel
theorem dX10_watch_7 : decode cX10_watch 7 = .ok (.aload_n 0, 1) := by decide +kernel
theorem dX10_watch_8 : decode cX10_watch 8 = .ok (.getfield 56, 3) := by decide +kernel
theorem dX10_watch_11 : decode cX10_watch 11 = .ok (.iload_n 1, 1) := by decide +kernel
theorem dX10_watch_12 : decode cX10_watch 12 = .ok (.invokevirtual 229, 3) := by decide +kernel
theorem dX10_watch_15 : decode cX10_watch 15 = .ok (.goto 5, 3) := by decide +kernel
theorem dX10_watch_18 : decode cX10_watch 18 = .ok (.bipush (-2), 2) := by decide +kernel
theorem dX10_watch_20 : decode cX10_watch 20 = .ok (.ireturn, 1) := by decide +kernel
theorem dX10_moved_0 : decode cX10_moved 0 = .ok (.iload_n 1, 1) := by decide +kernel
theorem dX10_moved_1 : decode cX10_moved 1 = .ok (.invokestatic 75, 3) := by decide +kernel
theorem dX10_moved_4 : decode cX10_moved 4 = .ok (.ifCond .ne 6, 3) := by decide +kernel
theorem dX10_moved_7 : decode cX10_moved 7 = .ok (.bipush (-2), 2) := by decide +kernel
theorem dX10_moved_9 : decode cX10_moved 9 = .ok (.ireturn, 1) := by decide +kernel
theorem dX10_moved_10 : decode cX10_moved 10 = .ok (.aload_n 0, 1) := by decide +kernel
theorem dX10_moved_11 : decode cX10_moved 11 = .ok (.invokevirtual 123, 3) := by decide +kernel
theorem dX10_moved_14 : decode cX10_moved 14 = .ok (.astore_n 2, 1) := by decide +kernel
theorem dX10_moved_15 : decode cX10_moved 15 = .ok (.iconst 0, 1) := by decide +kernel
theorem dX10_moved_16 : decode cX10_moved 16 = .ok (.istore_n 3, 1) := by decide +kernel
theorem dX10_moved_17 : decode cX10_moved 17 = .ok (.iconst 0, 1) := by decide +kernel
theorem dX10_moved_18 : decode cX10_moved 18 = .ok (.istore 4, 2) := by decide +kernel
theorem dX10_moved_20 : decode cX10_moved 20 = .ok (.iload 4, 2) := by decide +kernel
theorem dX10_moved_22 : decode cX10_moved 22 = .ok (.bipush 8, 2) := by decide +kernel
theorem dX10_moved_24 : decode cX10_moved 24 = .ok (.if_icmp .ge 36, 3) := by decide +kernel
theorem dX10_moved_27 : decode cX10_moved 27 = .ok (.aload_n 2, 1) := by decide +kernel
theorem dX10_moved_28 : decode cX10_moved 28 = .ok (.aload_n 0, 1) := by decide +kernel
theorem dX10_moved_29 : decode cX10_moved 29 = .ok (.getfield 49, 3) := by decide +kernel
theorem dX10_moved_32 : decode cX10_moved 32 = .ok (.invokevirtual 117, 3) := by decide +kernel
theorem dX10_moved_35 : decode cX10_moved 35 = .ok (.iconst 1, 1) := by decide +kernel
theorem dX10_moved_36 : decode cX10_moved 36 = .ok (.iload 4, 2) := by decide +kernel
theorem dX10_moved_38 : decode cX10_moved 38 = .ok (.ishl, 1) := by decide +kernel
theorem dX10_moved_39 : decode cX10_moved 39 = .ok (.ixor, 1) := by decide +kernel
theorem dX10_moved_40 : decode cX10_moved 40 = .ok (.invokevirtual 127, 3) := by decide +kernel
theorem dX10_moved_43 : decode cX10_moved 43 = .ok (.iload_n 1, 1) := by decide +kernel
theorem dX10_moved_44 : decode cX10_moved 44 = .ok (.if_icmp .ne 10, 3) := by decide +kernel
theorem dX10_moved_47 : decode cX10_moved 47 = .ok (.iload_n 3, 1) := by decide +kernel
theorem dX10_moved_48 : decode cX10_moved 48 = .ok (.iconst 1, 1) := by decide +kernel
theorem dX10_moved_49 : decode cX10_moved 49 = .ok (.iload 4, 2) := by decide +kernel
theorem dX10_moved_51 : decode cX10_moved 51 = .ok (.ishl, 1) := by decide +kernel
theorem dX10_moved_52 : decode cX10_moved 52 = .ok (.ior, 1) := by decide +kernel
theorem dX10_moved_53 : decode cX10_moved 53 = .ok (.istore_n 3, 1) := by decide +kernel
theorem dX10_moved_54 : decode cX10_moved 54 = .ok (.iinc 4 1, 3) := by decide +kernel
theorem dX10_moved_57 : decode cX10_moved 57 = .ok (.goto (-37), 3) := by decide +kernel
theorem dX10_moved_60 : decode cX10_moved 60 = .ok (.iload_n 3, 1) := by decide +kernel
theorem dX10_moved_61 : decode cX10_moved 61 = .ok (.ireturn, 1) := by decide +kernel
theorem dX10_cat_0 : decode cX10_cat 0 = .ok (.iload_n 1, 1) := by decide +kernel
theorem dX10_cat_1 : decode cX10_cat 1 = .ok (.invokestatic 232, 3) := by decide +kernel
theorem dX10_cat_4 : decode cX10_cat 4 = .ok (.ifCond .eq 17, 3) := by decide +kernel
theorem dX10_cat_7 : decode cX10_cat 7 = .ok (.iload_n 2, 1) := by decide +kernel
theorem dX10_cat_8 : decode cX10_cat 8 = .ok (.invokestatic 136, 3) := by decide +kernel
theorem dX10_cat_11 : decode cX10_cat 11 = .ok (.ifCond .eq 10, 3) := by decide +kernel
theorem dX10_cat_14 : decode cX10_cat 14 = .ok (.iload_n 3, 1) := by decide +kernel
theorem dX10_cat_15 : decode cX10_cat 15 = .ok (.invokestatic 112, 3) := by decide +kernel
theorem dX10_cat_18 : decode cX10_cat 18 = .ok (.ifCond .ne 7, 3) := by decide +kernel
theorem dX10_cat_21 : decode cX10_cat 21 = .ok (.ldc2_w 235, 3) := by decide +kernel
theorem dX10_cat_24 : decode cX10_cat 24 = .ok (.lreturn, 1) := by decide +kernel
theorem dX10_cat_25 : decode cX10_cat 25 = .ok (.sipush 128, 3) := by decide +kernel
theorem dX10_cat_28 : decode cX10_cat 28 = .ok (.istore 4, 2) := by decide +kernel
theorem dX10_cat_30 : decode cX10_cat 30 = .ok (.aload_n 0, 1) := by decide +kernel
theorem dX10_cat_31 : decode cX10_cat 31 = .ok (.invokevirtual 123, 3) := by decide +kernel
theorem dX10_cat_34 : decode cX10_cat 34 = .ok (.aload_n 0, 1) := by decide +kernel
theorem dX10_cat_35 : decode cX10_cat 35 = .ok (.getfield 49, 3) := by decide +kernel
theorem dX10_cat_38 : decode cX10_cat 38 = .ok (.invokevirtual 117, 3) := by decide +kernel
theorem dX10_cat_41 : decode cX10_cat 41 = .ok (.iconst 1, 1) := by decide +kernel
theorem dX10_cat_42 : decode cX10_cat 42 = .ok (.iload_n 2, 1) := by decide +kernel
theorem dX10_cat_43 : decode cX10_cat 43 = .ok (.ishl, 1) := by decide +kernel
theorem dX10_cat_44 : decode cX10_cat 44 = .ok (.iload_n 1, 1) := by decide +kernel
theorem dX10_cat_45 : decode cX10_cat 45 = .ok (.invokestatic 239, 3) := by decide +kernel
theorem dX10_cat_48 : decode cX10_cat 48 = .ok (.istore 5, 2) := by decide +kernel
theorem dX10_cat_50 : decode cX10_cat 50 = .ok (.iload_n 3, 1) := by decide +kernel
theorem dX10_cat_51 : decode cX10_cat 51 = .ok (.ifCond .ne 8, 3) := by decide +kernel
theorem dX10_cat_54 : decode cX10_cat 54 = .ok (.iload 5, 2) := by decide +kernel
theorem dX10_cat_56 : decode cX10_cat 56 = .ok (.goto 5, 3) := by decide +kernel
theorem dX10_cat_59 : decode cX10_cat 59 = .ok (.iload 4, 2) := by decide +kernel
theorem dX10_cat_61 : decode cX10_cat 61 = .ok (.iload 5, 2) := by decide +kernel
theorem dX10_cat_63 : decode cX10_cat 63 = .ok (.iload 4, 2) := by decide +kernel
theorem dX10_cat_65 : decode cX10_cat 65 = .ok (.invokestatic 242, 3) := by decide +kernel
theorem dX10_cat_68 : decode cX10_cat 68 = .ok (.i2l, 1) := by decide +kernel
theorem dX10_cat_69 : decode cX10_cat 69 = .ok (.lreturn, 1) := by decide +kernel
theorem dX10_let_0 : decode cX10_let 0 = .ok (.iload_n 1, 1) := by decide +kernel
theorem dX10_let_1 : decode cX10_let 1 = .ok (.invokestatic 232, 3) := by decide +kernel
theorem dX10_let_4 : decode cX10_let 4 = .ok (.ifCond .eq 10, 3) := by decide +kernel
theorem dX10_let_7 : decode cX10_let 7 = .ok (.iload_n 2, 1) := by decide +kernel
theorem dX10_let_8 : decode cX10_let 8 = .ok (.invokestatic 136, 3) := by decide +kernel
theorem dX10_let_11 : decode cX10_let 11 = .ok (.ifCond .ne 6, 3) := by decide +kernel
theorem dX10_let_14 : decode cX10_let 14 = .ok (.bipush (-2), 2) := by decide +kernel
theorem dX10_let_16 : decode cX10_let 16 = .ok (.ireturn, 1) := by decide +kernel
theorem dX10_let_17 : decode cX10_let 17 = .ok (.aload_n 0, 1) := by decide +kernel
theorem dX10_let_18 : decode cX10_let 18 = .ok (.invokevirtual 123, 3) := by decide +kernel
theorem dX10_let_21 : decode cX10_let 21 = .ok (.astore_n 3, 1) := by decide +kernel
theorem dX10_let_22 : decode cX10_let 22 = .ok (.iconst 1, 1) := by decide +kernel
theorem dX10_let_23 : decode cX10_let 23 = .ok (.iload_n 2, 1) := by decide +kernel
theorem dX10_let_24 : decode cX10_let 24 = .ok (.ishl, 1) := by decide +kernel
theorem dX10_let_25 : decode cX10_let 25 = .ok (.istore 4, 2) := by decide +kernel
theorem dX10_let_27 : decode cX10_let 27 = .ok (.aload_n 3, 1) := by decide +kernel
theorem dX10_let_28 : decode cX10_let 28 = .ok (.aload_n 0, 1) := by decide +kernel
theorem dX10_let_29 : decode cX10_let 29 = .ok (.getfield 49, 3) := by decide +kernel
theorem dX10_let_32 : decode cX10_let 32 = .ok (.invokevirtual 117, 3) := by decide +kernel
theorem dX10_let_35 : decode cX10_let 35 = .ok (.iload 4, 2) := by decide +kernel
theorem dX10_let_37 : decode cX10_let 37 = .ok (.iload_n 1, 1) := by decide +kernel
theorem dX10_let_38 : decode cX10_let 38 = .ok (.invokestatic 239, 3) := by decide +kernel
theorem dX10_let_41 : decode cX10_let 41 = .ok (.istore 5, 2) := by decide +kernel
theorem dX10_let_43 : decode cX10_let 43 = .ok (.aload_n 3, 1) := by decide +kernel
theorem dX10_let_44 : decode cX10_let 44 = .ok (.aload_n 0, 1) := by decide +kernel
theorem dX10_let_45 : decode cX10_let 45 = .ok (.getfield 49, 3) := by decide +kernel
theorem dX10_let_48 : decode cX10_let 48 = .ok (.invokevirtual 117, 3) := by decide +kernel
theorem dX10_let_51 : decode cX10_let 51 = .ok (.iload 4, 2) := by decide +kernel
theorem dX10_let_53 : decode cX10_let 53 = .ok (.iconst 0, 1) := by decide +kernel
theorem dX10_let_54 : decode cX10_let 54 = .ok (.invokestatic 239, 3) := by decide +kernel
theorem dX10_let_57 : decode cX10_let 57 = .ok (.istore 6, 2) := by decide +kernel
theorem dX10_let_59 : decode cX10_let 59 = .ok (.iload 5, 2) := by decide +kernel
theorem dX10_let_61 : decode cX10_let 61 = .ok (.iload 6, 2) := by decide +kernel
theorem dX10_let_63 : decode cX10_let 63 = .ok (.if_icmp .ge 7, 3) := by decide +kernel
theorem dX10_let_66 : decode cX10_let 66 = .ok (.iconst 1, 1) := by decide +kernel
theorem dX10_let_67 : decode cX10_let 67 = .ok (.goto 4, 3) := by decide +kernel
theorem dX10_let_70 : decode cX10_let 70 = .ok (.iconst 0, 1) := by decide +kernel
theorem dX10_let_71 : decode cX10_let 71 = .ok (.ireturn, 1) := by decide +kernel
theorem dX10_lot_0 : decode cX10_lot 0 = .ok (.iload_n 2, 1) := by decide +kernel
theorem dX10_lot_1 : decode cX10_lot 1 = .ok (.ifCond .lt 21, 3) := by decide +kernel
theorem dX10_lot_4 : decode cX10_lot 4 = .ok (.iload_n 2, 1) := by decide +kernel
theorem dX10_lot_5 : decode cX10_lot 5 = .ok (.bipush 99, 2) := by decide +kernel
theorem dX10_lot_7 : decode cX10_lot 7 = .ok (.if_icmp .gt 15, 3) := by decide +kernel
theorem dX10_lot_10 : decode cX10_lot 10 = .ok (.iload_n 3, 1) := by decide +kernel
theorem dX10_lot_11 : decode cX10_lot 11 = .ok (.iconst (-1), 1) := by decide +kernel
theorem dX10_lot_12 : decode cX10_lot 12 = .ok (.if_icmp .eq 13, 3) := by decide +kernel
theorem dX10_lot_15 : decode cX10_lot 15 = .ok (.iload_n 3, 1) := by decide +kernel
theorem dX10_lot_16 : decode cX10_lot 16 = .ok (.invokestatic 136, 3) := by decide +kernel
theorem dX10_lot_19 : decode cX10_lot 19 = .ok (.ifCond .ne 6, 3) := by decide +kernel
theorem dX10_lot_22 : decode cX10_lot 22 = .ok (.bipush (-2), 2) := by decide +kernel
theorem dX10_lot_24 : decode cX10_lot 24 = .ok (.ireturn, 1) := by decide +kernel
theorem dX10_lot_25 : decode cX10_lot 25 = .ok (.aload_n 0, 1) := by decide +kernel
theorem dX10_lot_26 : decode cX10_lot 26 = .ok (.invokevirtual 123, 3) := by decide +kernel
theorem dX10_lot_29 : decode cX10_lot 29 = .ok (.astore 4, 2) := by decide +kernel
theorem dX10_lot_31 : decode cX10_lot 31 = .ok (.aload_n 0, 1) := by decide +kernel
theorem dX10_lot_32 : decode cX10_lot 32 = .ok (.getfield 49, 3) := by decide +kernel
theorem dX10_lot_35 : decode cX10_lot 35 = .ok (.invokevirtual 117, 3) := by decide +kernel
theorem dX10_lot_38 : decode cX10_lot 38 = .ok (.istore 5, 2) := by decide +kernel
theorem dX10_lot_40 : decode cX10_lot 40 = .ok (.iload_n 1, 1) := by decide +kernel
theorem dX10_lot_41 : decode cX10_lot 41 = .ok (.istore 6, 2) := by decide +kernel
theorem dX10_lot_43 : decode cX10_lot 43 = .ok (.iconst 0, 1) := by decide +kernel
theorem dX10_lot_44 : decode cX10_lot 44 = .ok (.istore 7, 2) := by decide +kernel
theorem dX10_lot_46 : decode cX10_lot 46 = .ok (.iconst 0, 1) := by decide +kernel
theorem dX10_lot_47 : decode cX10_lot 47 = .ok (.istore 8, 2) := by decide +kernel
theorem dX10_lot_49 : decode cX10_lot 49 = .ok (.iload 8, 2) := by decide +kernel
theorem dX10_lot_51 : decode cX10_lot 51 = .ok (.iload_n 2, 1) := by decide +kernel
theorem dX10_lot_52 : decode cX10_lot 52 = .ok (.if_icmp .ge 65, 3) := by decide +kernel
theorem dX10_lot_55 : decode cX10_lot 55 = .ok (.ldc 246, 2) := by decide +kernel
theorem dX10_lot_57 : decode cX10_lot 57 = .ok (.iload 6, 2) := by decide +kernel
theorem dX10_lot_59 : decode cX10_lot 59 = .ok (.imul, 1) := by decide +kernel
theorem dX10_lot_60 : decode cX10_lot 60 = .ok (.sipush 12345, 3) := by decide +kernel
theorem dX10_lot_63 : decode cX10_lot 63 = .ok (.iadd, 1) := by decide +kernel
theorem dX10_lot_64 : decode cX10_lot 64 = .ok (.istore 6, 2) := by decide +kernel
theorem dX10_lot_66 : decode cX10_lot 66 = .ok (.iload 5, 2) := by decide +kernel
theorem dX10_lot_68 : decode cX10_lot 68 = .ok (.iconst 1, 1) := by decide +kernel
theorem dX10_lot_69 : decode cX10_lot 69 = .ok (.iload 6, 2) := by decide +kernel
theorem dX10_lot_71 : decode cX10_lot 71 = .ok (.bipush 16, 2) := by decide +kernel
theorem dX10_lot_73 : decode cX10_lot 73 = .ok (.iushr, 1) := by decide +kernel
theorem dX10_lot_74 : decode cX10_lot 74 = .ok (.bipush 8, 2) := by decide +kernel
theorem dX10_lot_76 : decode cX10_lot 76 = .ok (.irem, 1) := by decide +kernel
theorem dX10_lot_77 : decode cX10_lot 77 = .ok (.ishl, 1) := by decide +kernel
theorem dX10_lot_78 : decode cX10_lot 78 = .ok (.ixor, 1) := by decide +kernel
theorem dX10_lot_79 : decode cX10_lot 79 = .ok (.istore 5, 2) := by decide +kernel
theorem dX10_lot_81 : decode cX10_lot 81 = .ok (.iload_n 3, 1) := by decide +kernel
theorem dX10_lot_82 : decode cX10_lot 82 = .ok (.iconst (-1), 1) := by decide +kernel
theorem dX10_lot_83 : decode cX10_lot 83 = .ok (.if_icmp .eq 19, 3) := by decide +kernel
theorem dX10_lot_86 : decode cX10_lot 86 = .ok (.iload 7, 2) := by decide +kernel
theorem dX10_lot_88 : decode cX10_lot 88 = .ok (.aload 4, 2) := by decide +kernel
theorem dX10_lot_90 : decode cX10_lot 90 = .ok (.iload 5, 2) := by decide +kernel
theorem dX10_lot_92 : decode cX10_lot 92 = .ok (.invokevirtual 127, 3) := by decide +kernel
theorem dX10_lot_95 : decode cX10_lot 95 = .ok (.iload_n 3, 1) := by decide +kernel
theorem dX10_lot_96 : decode cX10_lot 96 = .ok (.ishr, 1) := by decide +kernel
theorem dX10_lot_97 : decode cX10_lot 97 = .ok (.iconst 1, 1) := by decide +kernel
theorem dX10_lot_98 : decode cX10_lot 98 = .ok (.iand, 1) := by decide +kernel
theorem dX10_lot_99 : decode cX10_lot 99 = .ok (.iadd, 1) := by decide +kernel
theorem dX10_lot_100 : decode cX10_lot 100 = .ok (.istore 7, 2) := by decide +kernel
theorem dX10_lot_102 : decode cX10_lot 102 = .ok (.aload 4, 2) := by decide +kernel
theorem dX10_lot_104 : decode cX10_lot 104 = .ok (.iload 5, 2) := by decide +kernel
theorem dX10_lot_106 : decode cX10_lot 106 = .ok (.invokevirtual 194, 3) := by decide +kernel
theorem dX10_lot_109 : decode cX10_lot 109 = .ok (.istore 5, 2) := by decide +kernel
theorem dX10_lot_111 : decode cX10_lot 111 = .ok (.iinc 8 1, 3) := by decide +kernel
theorem dX10_lot_114 : decode cX10_lot 114 = .ok (.goto (-65), 3) := by decide +kernel
theorem dX10_lot_117 : decode cX10_lot 117 = .ok (.iload_n 3, 1) := by decide +kernel
theorem dX10_lot_118 : decode cX10_lot 118 = .ok (.iconst (-1), 1) := by decide +kernel
theorem dX10_lot_119 : decode cX10_lot 119 = .ok (.if_icmp .ne 8, 3) := by decide +kernel
theorem dX10_lot_122 : decode cX10_lot 122 = .ok (.iload 5, 2) := by decide +kernel
theorem dX10_lot_124 : decode cX10_lot 124 = .ok (.goto 5, 3) := by decide +kernel
theorem dX10_lot_127 : decode cX10_lot 127 = .ok (.iload 7, 2) := by decide +kernel
theorem dX10_lot_129 : decode cX10_lot 129 = .ok (.ireturn, 1) := by decide +kernel
theorem dX10_sheet_0 : decode cX10_sheet 0 = .ok (.iload_n 1, 1) := by decide +kernel
theorem dX10_sheet_1 : decode cX10_sheet 1 = .ok (.invokestatic 210, 3) := by decide +kernel
theorem dX10_sheet_4 : decode cX10_sheet 4 = .ok (.ifCond .eq 16, 3) := by decide +kernel
theorem dX10_sheet_7 : decode cX10_sheet 7 = .ok (.iload_n 2, 1) := by decide +kernel
theorem dX10_sheet_8 : decode cX10_sheet 8 = .ok (.invokestatic 247, 3) := by decide +kernel
theorem dX10_sheet_11 : decode cX10_sheet 11 = .ok (.ifCond .eq 9, 3) := by decide +kernel
theorem dX10_sheet_14 : decode cX10_sheet 14 = .ok (.iload_n 3, 1) := by decide +kernel
theorem dX10_sheet_15 : decode cX10_sheet 15 = .ok (.bipush 60, 2) := by decide +kernel
theorem dX10_sheet_17 : decode cX10_sheet 17 = .ok (.if_icmp .le 6, 3) := by decide +kernel
theorem dX10_sheet_20 : decode cX10_sheet 20 = .ok (.bipush (-2), 2) := by decide +kernel
theorem dX10_sheet_22 : decode cX10_sheet 22 = .ok (.ireturn, 1) := by decide +kernel
theorem dX10_sheet_23 : decode cX10_sheet 23 = .ok (.iload_n 3, 1) := by decide +kernel
theorem dX10_sheet_24 : decode cX10_sheet 24 = .ok (.ifCond .ge 9, 3) := by decide +kernel
theorem dX10_sheet_27 : decode cX10_sheet 27 = .ok (.aload_n 0, 1) := by decide +kernel
theorem dX10_sheet_28 : decode cX10_sheet 28 = .ok (.iconst 5, 1) := by decide +kernel
theorem dX10_sheet_29 : decode cX10_sheet 29 = .ok (.invokevirtual 216, 3) := by decide +kernel
theorem dX10_sheet_32 : decode cX10_sheet 32 = .ok (.ireturn, 1) := by decide +kernel
theorem dX10_sheet_33 : decode cX10_sheet 33 = .ok (.aload_n 0, 1) := by decide +kernel
theorem dX10_sheet_34 : decode cX10_sheet 34 = .ok (.getfield 62, 3) := by decide +kernel
theorem dX10_sheet_37 : decode cX10_sheet 37 = .ok (.iload_n 1, 1) := by decide +kernel
theorem dX10_sheet_38 : decode cX10_sheet 38 = .ok (.aaload, 1) := by decide +kernel
theorem dX10_sheet_39 : decode cX10_sheet 39 = .ok (.iload_n 2, 1) := by decide +kernel
theorem dX10_sheet_40 : decode cX10_sheet 40 = .ok (.iload_n 3, 1) := by decide +kernel
theorem dX10_sheet_41 : decode cX10_sheet 41 = .ok (.invokevirtual 250, 3) := by decide +kernel
theorem dX10_sheet_44 : decode cX10_sheet 44 = .ok (.iload_n 3, 1) := by decide +kernel
theorem dX10_sheet_45 : decode cX10_sheet 45 = .ok (.ireturn, 1) := by decide +kernel
theorem dX10_lose_0 : decode cX10_lose 0 = .ok (.iload_n 1, 1) := by decide +kernel
theorem dX10_lose_1 : decode cX10_lose 1 = .ok (.invokestatic 210, 3) := by decide +kernel
theorem dX10_lose_4 : decode cX10_lose 4 = .ok (.ifCond .ne 6, 3) := by decide +kernel
theorem dX10_lose_7 : decode cX10_lose 7 = .ok (.bipush (-2), 2) := by decide +kernel
theorem dX10_lose_9 : decode cX10_lose 9 = .ok (.ireturn, 1) := by decide +kernel
theorem dX10_lose_10 : decode cX10_lose 10 = .ok (.aload_n 0, 1) := by decide +kernel
theorem dX10_lose_11 : decode cX10_lose 11 = .ok (.getfield 62, 3) := by decide +kernel
theorem dX10_lose_14 : decode cX10_lose 14 = .ok (.iload_n 1, 1) := by decide +kernel
theorem dX10_lose_15 : decode cX10_lose 15 = .ok (.aaload, 1) := by decide +kernel
theorem dX10_lose_16 : decode cX10_lose 16 = .ok (.invokevirtual 213, 3) := by decide +kernel
theorem dX10_lose_19 : decode cX10_lose 19 = .ok (.ifCond .eq 9, 3) := by decide +kernel
theorem dX10_lose_22 : decode cX10_lose 22 = .ok (.aload_n 0, 1) := by decide +kernel
theorem dX10_lose_23 : decode cX10_lose 23 = .ok (.iconst 1, 1) := by decide +kernel
theorem dX10_lose_24 : decode cX10_lose 24 = .ok (.invokevirtual 216, 3) := by decide +kernel
theorem dX10_lose_27 : decode cX10_lose 27 = .ok (.ireturn, 1) := by decide +kernel
theorem dX10_lose_28 : decode cX10_lose 28 = .ok (.aload_n 0, 1) := by decide +kernel
theorem dX10_lose_29 : decode cX10_lose 29 = .ok (.getfield 62, 3) := by decide +kernel
theorem dX10_lose_32 : decode cX10_lose 32 = .ok (.iload_n 1, 1) := by decide +kernel
theorem dX10_lose_33 : decode cX10_lose 33 = .ok (.aaload, 1) := by decide +kernel
theorem dX10_lose_34 : decode cX10_lose 34 = .ok (.invokevirtual 219, 3) := by decide +kernel
theorem dX10_lose_37 : decode cX10_lose 37 = .ok (.istore_n 2, 1) := by decide +kernel
theorem dX10_lose_38 : decode cX10_lose 38 = .ok (.aload_n 0, 1) := by decide +kernel
theorem dX10_lose_39 : decode cX10_lose 39 = .ok (.getfield 62, 3) := by decide +kernel
theorem dX10_lose_42 : decode cX10_lose 42 = .ok (.iload_n 1, 1) := by decide +kernel
theorem dX10_lose_43 : decode cX10_lose 43 = .ok (.aaload, 1) := by decide +kernel
theorem dX10_lose_44 : decode cX10_lose 44 = .ok (.invokevirtual 254, 3) := by decide +kernel
theorem dX10_lose_47 : decode cX10_lose 47 = .ok (.iload_n 2, 1) := by decide +kernel
theorem dX10_lose_48 : decode cX10_lose 48 = .ok (.ireturn, 1) := by decide +kernel
theorem dX10_put_0 : decode cX10_put 0 = .ok (.aload_n 0, 1) := by decide +kernel
theorem dX10_put_1 : decode cX10_put 1 = .ok (.iload_n 1, 1) := by decide +kernel
theorem dX10_put_2 : decode cX10_put 2 = .ok (.iload_n 2, 1) := by decide +kernel
theorem dX10_put_3 : decode cX10_put 3 = .ok (.iload_n 3, 1) := by decide +kernel
theorem dX10_put_4 : decode cX10_put 4 = .ok (.invokevirtual 257, 3) := by decide +kernel
theorem dX10_put_7 : decode cX10_put 7 = .ok (.istore 5, 2) := by decide +kernel
theorem dX10_put_9 : decode cX10_put 9 = .ok (.iload 5, 2) := by decide +kernel
theorem dX10_put_11 : decode cX10_put 11 = .ok (.ifCond .eq 6, 3) := by decide +kernel
theorem dX10_put_14 : decode cX10_put 14 = .ok (.iload 5, 2) := by decide +kernel
theorem dX10_put_16 : decode cX10_put 16 = .ok (.ireturn, 1) := by decide +kernel
theorem dX10_put_17 : decode cX10_put 17 = .ok (.aload_n 0, 1) := by decide +kernel
theorem dX10_put_18 : decode cX10_put 18 = .ok (.getfield 62, 3) := by decide +kernel
theorem dX10_put_21 : decode cX10_put 21 = .ok (.iload_n 1, 1) := by decide +kernel
theorem dX10_put_22 : decode cX10_put 22 = .ok (.aaload, 1) := by decide +kernel
theorem dX10_put_23 : decode cX10_put 23 = .ok (.iload_n 3, 1) := by decide +kernel
theorem dX10_put_24 : decode cX10_put 24 = .ok (.iload 4, 2) := by decide +kernel
theorem dX10_put_26 : decode cX10_put 26 = .ok (.invokevirtual 260, 3) := by decide +kernel
theorem dX10_put_29 : decode cX10_put 29 = .ok (.iconst 1, 1) := by decide +kernel
theorem dX10_put_30 : decode cX10_put 30 = .ok (.ireturn, 1) := by decide +kernel
theorem dX10_get_0 : decode cX10_get 0 = .ok (.aload_n 0, 1) := by decide +kernel
theorem dX10_get_1 : decode cX10_get 1 = .ok (.iload_n 1, 1) := by decide +kernel
theorem dX10_get_2 : decode cX10_get 2 = .ok (.iload_n 2, 1) := by decide +kernel
theorem dX10_get_3 : decode cX10_get 3 = .ok (.iload_n 3, 1) := by decide +kernel
theorem dX10_get_4 : decode cX10_get 4 = .ok (.invokevirtual 257, 3) := by decide +kernel
theorem dX10_get_7 : decode cX10_get 7 = .ok (.ifCond .eq 7, 3) := by decide +kernel
theorem dX10_get_10 : decode cX10_get 10 = .ok (.ldc_w 263, 3) := by decide +kernel
theorem dX10_get_13 : decode cX10_get 13 = .ok (.ireturn, 1) := by decide +kernel
theorem dX10_get_14 : decode cX10_get 14 = .ok (.aload_n 0, 1) := by decide +kernel
theorem dX10_get_15 : decode cX10_get 15 = .ok (.getfield 62, 3) := by decide +kernel
theorem dX10_get_18 : decode cX10_get 18 = .ok (.iload_n 1, 1) := by decide +kernel
theorem dX10_get_19 : decode cX10_get 19 = .ok (.aaload, 1) := by decide +kernel
theorem dX10_get_20 : decode cX10_get 20 = .ok (.iload_n 3, 1) := by decide +kernel
theorem dX10_get_21 : decode cX10_get 21 = .ok (.invokevirtual 220, 3) := by decide +kernel
theorem dX10_get_24 : decode cX10_get 24 = .ok (.ireturn, 1) := by decide +kernel
theorem dX10_copy_0 : decode cX10_copy 0 = .ok (.iload_n 1, 1) := by decide +kernel
theorem dX10_copy_1 : decode cX10_copy 1 = .ok (.invokestatic 210, 3) := by decide +kernel
theorem dX10_copy_4 : decode cX10_copy 4 = .ok (.ifCond .eq 10, 3) := by decide +kernel
theorem dX10_copy_7 : decode cX10_copy 7 = .ok (.iload_n 3, 1) := by decide +kernel
theorem dX10_copy_8 : decode cX10_copy 8 = .ok (.invokestatic 210, 3) := by decide +kernel
theorem dX10_copy_11 : decode cX10_copy 11 = .ok (.ifCond .ne 6, 3) := by decide +kernel
theorem dX10_copy_14 : decode cX10_copy 14 = .ok (.bipush (-2), 2) := by decide +kernel
theorem dX10_copy_16 : decode cX10_copy 16 = .ok (.ireturn, 1) := by decide +kernel
theorem dX10_copy_17 : decode cX10_copy 17 = .ok (.aload_n 0, 1) := by decide +kernel
theorem dX10_copy_18 : decode cX10_copy 18 = .ok (.getfield 62, 3) := by decide +kernel
theorem dX10_copy_21 : decode cX10_copy 21 = .ok (.iload_n 1, 1) := by decide +kernel
theorem dX10_copy_22 : decode cX10_copy 22 = .ok (.aaload, 1) := by decide +kernel
theorem dX10_copy_23 : decode cX10_copy 23 = .ok (.astore 6, 2) := by decide +kernel
theorem dX10_copy_25 : decode cX10_copy 25 = .ok (.aload_n 0, 1) := by decide +kernel
theorem dX10_copy_26 : decode cX10_copy 26 = .ok (.getfield 62, 3) := by decide +kernel
theorem dX10_copy_29 : decode cX10_copy 29 = .ok (.iload_n 3, 1) := by decide +kernel
theorem dX10_copy_30 : decode cX10_copy 30 = .ok (.aaload, 1) := by decide +kernel
theorem dX10_copy_31 : decode cX10_copy 31 = .ok (.astore 7, 2) := by decide +kernel
theorem dX10_copy_33 : decode cX10_copy 33 = .ok (.aload 6, 2) := by decide +kernel
theorem dX10_copy_35 : decode cX10_copy 35 = .ok (.invokevirtual 213, 3) := by decide +kernel
theorem dX10_copy_38 : decode cX10_copy 38 = .ok (.ifCond .ne 11, 3) := by decide +kernel
theorem dX10_copy_41 : decode cX10_copy 41 = .ok (.aload 7, 2) := by decide +kernel
theorem dX10_copy_43 : decode cX10_copy 43 = .ok (.invokevirtual 213, 3) := by decide +kernel
theorem dX10_copy_46 : decode cX10_copy 46 = .ok (.ifCond .eq 9, 3) := by decide +kernel
theorem dX10_copy_49 : decode cX10_copy 49 = .ok (.aload_n 0, 1) := by decide +kernel
theorem dX10_copy_50 : decode cX10_copy 50 = .ok (.iconst 1, 1) := by decide +kernel
theorem dX10_copy_51 : decode cX10_copy 51 = .ok (.invokevirtual 216, 3) := by decide +kernel
theorem dX10_copy_54 : decode cX10_copy 54 = .ok (.ireturn, 1) := by decide +kernel
theorem dX10_copy_55 : decode cX10_copy 55 = .ok (.aload 6, 2) := by decide +kernel
theorem dX10_copy_57 : decode cX10_copy 57 = .ok (.invokevirtual 264, 3) := by decide +kernel
theorem dX10_copy_60 : decode cX10_copy 60 = .ok (.aload 7, 2) := by decide +kernel
theorem dX10_copy_62 : decode cX10_copy 62 = .ok (.invokevirtual 264, 3) := by decide +kernel
theorem dX10_copy_65 : decode cX10_copy 65 = .ok (.if_icmp .eq 9, 3) := by decide +kernel
theorem dX10_copy_68 : decode cX10_copy 68 = .ok (.aload_n 0, 1) := by decide +kernel
theorem dX10_copy_69 : decode cX10_copy 69 = .ok (.iconst 4, 1) := by decide +kernel
theorem dX10_copy_70 : decode cX10_copy 70 = .ok (.invokevirtual 216, 3) := by decide +kernel
theorem dX10_copy_73 : decode cX10_copy 73 = .ok (.ireturn, 1) := by decide +kernel
theorem dX10_copy_74 : decode cX10_copy 74 = .ok (.aload 6, 2) := by decide +kernel
theorem dX10_copy_76 : decode cX10_copy 76 = .ok (.iload_n 2, 1) := by decide +kernel
theorem dX10_copy_77 : decode cX10_copy 77 = .ok (.iload 5, 2) := by decide +kernel
theorem dX10_copy_79 : decode cX10_copy 79 = .ok (.invokevirtual 267, 3) := by decide +kernel
theorem dX10_copy_82 : decode cX10_copy 82 = .ok (.ifCond .eq 15, 3) := by decide +kernel
theorem dX10_copy_85 : decode cX10_copy 85 = .ok (.aload 7, 2) := by decide +kernel
theorem dX10_copy_87 : decode cX10_copy 87 = .ok (.iload 4, 2) := by decide +kernel
theorem dX10_copy_89 : decode cX10_copy 89 = .ok (.iload 5, 2) := by decide +kernel
theorem dX10_copy_91 : decode cX10_copy 91 = .ok (.invokevirtual 267, 3) := by decide +kernel
theorem dX10_copy_94 : decode cX10_copy 94 = .ok (.ifCond .ne 9, 3) := by decide +kernel
theorem dX10_copy_97 : decode cX10_copy 97 = .ok (.aload_n 0, 1) := by decide +kernel
theorem dX10_copy_98 : decode cX10_copy 98 = .ok (.iconst 2, 1) := by decide +kernel
theorem dX10_copy_99 : decode cX10_copy 99 = .ok (.invokevirtual 216, 3) := by decide +kernel
theorem dX10_copy_102 : decode cX10_copy 102 = .ok (.ireturn, 1) := by decide +kernel
theorem dX10_copy_103 : decode cX10_copy 103 = .ok (.aload 7, 2) := by decide +kernel
theorem dX10_copy_105 : decode cX10_copy 105 = .ok (.aload 6, 2) := by decide +kernel
theorem dX10_copy_107 : decode cX10_copy 107 = .ok (.iload_n 2, 1) := by decide +kernel
theorem dX10_copy_108 : decode cX10_copy 108 = .ok (.iload 4, 2) := by decide +kernel
theorem dX10_copy_110 : decode cX10_copy 110 = .ok (.iload 5, 2) := by decide +kernel
theorem dX10_copy_112 : decode cX10_copy 112 = .ok (.invokevirtual 270, 3) := by decide +kernel
theorem dX10_copy_115 : decode cX10_copy 115 = .ok (.iconst 1, 1) := by decide +kernel
theorem dX10_copy_116 : decode cX10_copy 116 = .ok (.ireturn, 1) := by decide +kernel
theorem dX10_write_0 : decode cX10_write 0 = .ok (.iload_n 1, 1) := by decide +kernel
theorem dX10_write_1 : decode cX10_write 1 = .ok (.invokestatic 112, 3) := by decide +kernel
theorem dX10_write_4 : decode cX10_write 4 = .ok (.ifCond .eq 10, 3) := by decide +kernel
theorem dX10_write_7 : decode cX10_write 7 = .ok (.iload_n 2, 1) := by decide +kernel
theorem dX10_write_8 : decode cX10_write 8 = .ok (.invokestatic 210, 3) := by decide +kernel
theorem dX10_write_11 : decode cX10_write 11 = .ok (.ifCond .ne 6, 3) := by decide +kernel
theorem dX10_write_14 : decode cX10_write 14 = .ok (.bipush (-2), 2) := by decide +kernel
theorem dX10_write_16 : decode cX10_write 16 = .ok (.ireturn, 1) := by decide +kernel
theorem dX10_write_17 : decode cX10_write 17 = .ok (.aload_n 0, 1) := by decide +kernel
theorem dX10_write_18 : decode cX10_write 18 = .ok (.getfield 62, 3) := by decide +kernel
theorem dX10_write_21 : decode cX10_write 21 = .ok (.iload_n 2, 1) := by decide +kernel
theorem dX10_write_22 : decode cX10_write 22 = .ok (.aaload, 1) := by decide +kernel
theorem dX10_write_23 : decode cX10_write 23 = .ok (.invokevirtual 213, 3) := by decide +kernel
theorem dX10_write_26 : decode cX10_write 26 = .ok (.ifCond .eq 9, 3) := by decide +kernel
theorem dX10_write_29 : decode cX10_write 29 = .ok (.aload_n 0, 1) := by decide +kernel
theorem dX10_write_30 : decode cX10_write 30 = .ok (.iconst 1, 1) := by decide +kernel
theorem dX10_write_31 : decode cX10_write 31 = .ok (.invokevirtual 216, 3) := by decide +kernel
theorem dX10_write_34 : decode cX10_write 34 = .ok (.ireturn, 1) := by decide +kernel
theorem dX10_write_35 : decode cX10_write 35 = .ok (.aload_n 0, 1) := by decide +kernel
theorem dX10_write_36 : decode cX10_write 36 = .ok (.getfield 62, 3) := by decide +kernel
theorem dX10_write_39 : decode cX10_write 39 = .ok (.iload_n 2, 1) := by decide +kernel
theorem dX10_write_40 : decode cX10_write 40 = .ok (.aaload, 1) := by decide +kernel
theorem dX10_write_41 : decode cX10_write 41 = .ok (.invokevirtual 219, 3) := by decide +kernel
theorem dX10_write_44 : decode cX10_write 44 = .ok (.bipush 30, 2) := by decide +kernel
theorem dX10_write_46 : decode cX10_write 46 = .ok (.invokestatic 274, 3) := by decide +kernel
theorem dX10_write_49 : decode cX10_write 49 = .ok (.istore_n 3, 1) := by decide +kernel
theorem dX10_write_50 : decode cX10_write 50 = .ok (.aload_n 0, 1) := by decide +kernel
theorem dX10_write_51 : decode cX10_write 51 = .ok (.getfield 49, 3) := by decide +kernel
theorem dX10_write_54 : decode cX10_write 54 = .ok (.aload_n 0, 1) := by decide +kernel
theorem dX10_write_55 : decode cX10_write 55 = .ok (.invokevirtual 123, 3) := by decide +kernel
theorem dX10_write_58 : decode cX10_write 58 = .ok (.iload_n 3, 1) := by decide +kernel
theorem dX10_write_59 : decode cX10_write 59 = .ok (.iconst 1, 1) := by decide +kernel
theorem dX10_write_60 : decode cX10_write 60 = .ok (.isub, 1) := by decide +kernel
theorem dX10_write_61 : decode cX10_write 61 = .ok (.invokevirtual 149, 3) := by decide +kernel
theorem dX10_write_64 : decode cX10_write 64 = .ok (.iconst 0, 1) := by decide +kernel
theorem dX10_write_65 : decode cX10_write 65 = .ok (.istore 4, 2) := by decide +kernel
theorem dX10_write_67 : decode cX10_write 67 = .ok (.iload 4, 2) := by decide +kernel
theorem dX10_write_69 : decode cX10_write 69 = .ok (.iload_n 3, 1) := by decide +kernel
theorem dX10_write_70 : decode cX10_write 70 = .ok (.if_icmp .ge 45, 3) := by decide +kernel
theorem dX10_write_73 : decode cX10_write 73 = .ok (.aload_n 0, 1) := by decide +kernel
theorem dX10_write_74 : decode cX10_write 74 = .ok (.getfield 62, 3) := by decide +kernel
theorem dX10_write_77 : decode cX10_write 77 = .ok (.iload_n 2, 1) := by decide +kernel
theorem dX10_write_78 : decode cX10_write 78 = .ok (.aaload, 1) := by decide +kernel
theorem dX10_write_79 : decode cX10_write 79 = .ok (.iload 4, 2) := by decide +kernel
theorem dX10_write_81 : decode cX10_write 81 = .ok (.iload_n 1, 1) := by decide +kernel
theorem dX10_write_82 : decode cX10_write 82 = .ok (.ifCond .ne 15, 3) := by decide +kernel
theorem dX10_write_85 : decode cX10_write 85 = .ok (.aload_n 0, 1) := by decide +kernel
theorem dX10_write_86 : decode cX10_write 86 = .ok (.getfield 49, 3) := by decide +kernel
theorem dX10_write_89 : decode cX10_write 89 = .ok (.iload 4, 2) := by decide +kernel
theorem dX10_write_91 : decode cX10_write 91 = .ok (.invokevirtual 153, 3) := by decide +kernel
theorem dX10_write_94 : decode cX10_write 94 = .ok (.goto 12, 3) := by decide +kernel
theorem dX10_write_97 : decode cX10_write 97 = .ok (.aload_n 0, 1) := by decide +kernel
theorem dX10_write_98 : decode cX10_write 98 = .ok (.getfield 49, 3) := by decide +kernel
theorem dX10_write_101 : decode cX10_write 101 = .ok (.iload 4, 2) := by decide +kernel
theorem dX10_write_103 : decode cX10_write 103 = .ok (.invokevirtual 156, 3) := by decide +kernel
theorem dX10_write_106 : decode cX10_write 106 = .ok (.invokevirtual 260, 3) := by decide +kernel
theorem dX10_write_109 : decode cX10_write 109 = .ok (.iinc 4 1, 3) := by decide +kernel
theorem dX10_write_112 : decode cX10_write 112 = .ok (.goto (-45), 3) := by decide +kernel
theorem dX10_write_115 : decode cX10_write 115 = .ok (.iload_n 3, 1) := by decide +kernel
theorem dX10_write_116 : decode cX10_write 116 = .ok (.ireturn, 1) := by decide +kernel
theorem dX10_count_0 : decode cX10_count 0 = .ok (.iload_n 1, 1) := by decide +kernel
theorem dX10_count_1 : decode cX10_count 1 = .ok (.tableswitch 120 0 8 #[51, 59, 67, 75, 83, 91, 99, 107, 115], 51) := by decide +kernel
theorem dX10_count_52 : decode cX10_count 52 = .ok (.aload_n 0, 1) := by decide +kernel
theorem dX10_count_53 : decode cX10_count 53 = .ok (.getfield 24, 3) := by decide +kernel
theorem dX10_count_56 : decode cX10_count 56 = .ok (.invokevirtual 100, 3) := by decide +kernel
theorem dX10_count_59 : decode cX10_count 59 = .ok (.ireturn, 1) := by decide +kernel
theorem dX10_count_60 : decode cX10_count 60 = .ok (.aload_n 0, 1) := by decide +kernel
theorem dX10_count_61 : decode cX10_count 61 = .ok (.getfield 31, 3) := by decide +kernel
theorem dX10_count_64 : decode cX10_count 64 = .ok (.invokevirtual 111, 3) := by decide +kernel
theorem dX10_count_67 : decode cX10_count 67 = .ok (.ireturn, 1) := by decide +kernel
theorem dX10_count_68 : decode cX10_count 68 = .ok (.aload_n 0, 1) := by decide +kernel
theorem dX10_count_69 : decode cX10_count 69 = .ok (.getfield 14, 3) := by decide +kernel
theorem dX10_count_72 : decode cX10_count 72 = .ok (.invokevirtual 85, 3) := by decide +kernel
theorem dX10_count_75 : decode cX10_count 75 = .ok (.ireturn, 1) := by decide +kernel
theorem dX10_count_76 : decode cX10_count 76 = .ok (.aload_n 0, 1) := by decide +kernel
theorem dX10_count_77 : decode cX10_count 77 = .ok (.getfield 18, 3) := by decide +kernel
theorem dX10_count_80 : decode cX10_count 80 = .ok (.invokevirtual 85, 3) := by decide +kernel
theorem dX10_count_83 : decode cX10_count 83 = .ok (.ireturn, 1) := by decide +kernel
theorem dX10_count_84 : decode cX10_count 84 = .ok (.aload_n 0, 1) := by decide +kernel
theorem dX10_count_85 : decode cX10_count 85 = .ok (.getfield 49, 3) := by decide +kernel
theorem dX10_count_88 : decode cX10_count 88 = .ok (.invokevirtual 143, 3) := by decide +kernel
theorem dX10_count_91 : decode cX10_count 91 = .ok (.ireturn, 1) := by decide +kernel
theorem dX10_count_92 : decode cX10_count 92 = .ok (.aload_n 0, 1) := by decide +kernel
theorem dX10_count_93 : decode cX10_count 93 = .ok (.getfield 56, 3) := by decide +kernel
theorem dX10_count_96 : decode cX10_count 96 = .ok (.invokevirtual 208, 3) := by decide +kernel
theorem dX10_count_99 : decode cX10_count 99 = .ok (.ireturn, 1) := by decide +kernel
theorem dX10_count_100 : decode cX10_count 100 = .ok (.aload_n 0, 1) := by decide +kernel
theorem dX10_count_101 : decode cX10_count 101 = .ok (.getfield 24, 3) := by decide +kernel
theorem dX10_count_104 : decode cX10_count 104 = .ok (.invokevirtual 279, 3) := by decide +kernel
theorem dX10_count_107 : decode cX10_count 107 = .ok (.ireturn, 1) := by decide +kernel
theorem dX10_count_108 : decode cX10_count 108 = .ok (.aload_n 0, 1) := by decide +kernel
theorem dX10_count_109 : decode cX10_count 109 = .ok (.getfield 49, 3) := by decide +kernel
theorem dX10_count_112 : decode cX10_count 112 = .ok (.invokevirtual 117, 3) := by decide +kernel
theorem dX10_count_115 : decode cX10_count 115 = .ok (.ireturn, 1) := by decide +kernel
theorem dX10_count_116 : decode cX10_count 116 = .ok (.aload_n 0, 1) := by decide +kernel
theorem dX10_count_117 : decode cX10_count 117 = .ok (.getfield 67, 3) := by decide +kernel
theorem dX10_count_120 : decode cX10_count 120 = .ok (.ireturn, 1) := by decide +kernel
theorem dX10_count_121 : decode cX10_count 121 = .ok (.bipush (-2), 2) := by decide +kernel
theorem dX10_count_123 : decode cX10_count 123 = .ok (.ireturn, 1) := by decide +kernel
theorem dX10_digest_0 : decode cX10_digest 0 = .ok (.aload_n 0, 1) := by decide +kernel
theorem dX10_digest_1 : decode cX10_digest 1 = .ok (.ldc2_w 282, 3) := by decide +kernel
theorem dX10_digest_4 : decode cX10_digest 4 = .ok (.invokevirtual 284, 3) := by decide +kernel
theorem dX10_digest_7 : decode cX10_digest 7 = .ok (.lstore_n 1, 1) := by decide +kernel
theorem dX10_digest_8 : decode cX10_digest 8 = .ok (.iconst 0, 1) := by decide +kernel
theorem dX10_digest_9 : decode cX10_digest 9 = .ok (.istore_n 3, 1) := by decide +kernel
theorem dX10_digest_10 : decode cX10_digest 10 = .ok (.iload_n 3, 1) := by decide +kernel
theorem dX10_digest_11 : decode cX10_digest 11 = .ok (.iconst 4, 1) := by decide +kernel
theorem dX10_digest_12 : decode cX10_digest 12 = .ok (.if_icmp .ge 48, 3) := by decide +kernel
theorem dX10_digest_15 : decode cX10_digest 15 = .ok (.iload_n 3, 1) := by decide +kernel
theorem dX10_digest_16 : decode cX10_digest 16 = .ok (.iconst 3, 1) := by decide +kernel
theorem dX10_digest_17 : decode cX10_digest 17 = .ok (.if_icmp .ge 7, 3) := by decide +kernel
theorem dX10_digest_20 : decode cX10_digest 20 = .ok (.iload_n 3, 1) := by decide +kernel
theorem dX10_digest_21 : decode cX10_digest 21 = .ok (.goto 5, 3) := by decide +kernel
theorem dX10_digest_24 : decode cX10_digest 24 = .ok (.bipush 9, 2) := by decide +kernel
theorem dX10_digest_26 : decode cX10_digest 26 = .ok (.istore 4, 2) := by decide +kernel
theorem dX10_digest_28 : decode cX10_digest 28 = .ok (.lload_n 1, 1) := by decide +kernel
theorem dX10_digest_29 : decode cX10_digest 29 = .ok (.aload_n 0, 1) := by decide +kernel
theorem dX10_digest_30 : decode cX10_digest 30 = .ok (.iload 4, 2) := by decide +kernel
theorem dX10_digest_32 : decode cX10_digest 32 = .ok (.iconst 0, 1) := by decide +kernel
theorem dX10_digest_33 : decode cX10_digest 33 = .ok (.invokevirtual 288, 3) := by decide +kernel
theorem dX10_digest_36 : decode cX10_digest 36 = .ok (.i2l, 1) := by decide +kernel
theorem dX10_digest_37 : decode cX10_digest 37 = .ok (.invokestatic 291, 3) := by decide +kernel
theorem dX10_digest_40 : decode cX10_digest 40 = .ok (.lstore_n 1, 1) := by decide +kernel
theorem dX10_digest_41 : decode cX10_digest 41 = .ok (.lload_n 1, 1) := by decide +kernel
theorem dX10_digest_42 : decode cX10_digest 42 = .ok (.aload_n 0, 1) := by decide +kernel
theorem dX10_digest_43 : decode cX10_digest 43 = .ok (.iload 4, 2) := by decide +kernel
theorem dX10_digest_45 : decode cX10_digest 45 = .ok (.iconst 1, 1) := by decide +kernel
theorem dX10_digest_46 : decode cX10_digest 46 = .ok (.invokevirtual 288, 3) := by decide +kernel
theorem dX10_digest_49 : decode cX10_digest 49 = .ok (.i2l, 1) := by decide +kernel
theorem dX10_digest_50 : decode cX10_digest 50 = .ok (.invokestatic 291, 3) := by decide +kernel
theorem dX10_digest_53 : decode cX10_digest 53 = .ok (.lstore_n 1, 1) := by decide +kernel
theorem dX10_digest_54 : decode cX10_digest 54 = .ok (.iinc 3 1, 3) := by decide +kernel
theorem dX10_digest_57 : decode cX10_digest 57 = .ok (.goto (-47), 3) := by decide +kernel
theorem dX10_digest_60 : decode cX10_digest 60 = .ok (.lload_n 1, 1) := by decide +kernel
theorem dX10_digest_61 : decode cX10_digest 61 = .ok (.aload_n 0, 1) := by decide +kernel
theorem dX10_digest_62 : decode cX10_digest 62 = .ok (.invokevirtual 295, 3) := by decide +kernel
theorem dX10_digest_65 : decode cX10_digest 65 = .ok (.i2l, 1) := by decide +kernel
theorem dX10_digest_66 : decode cX10_digest 66 = .ok (.invokestatic 291, 3) := by decide +kernel
theorem dX10_digest_69 : decode cX10_digest 69 = .ok (.lstore_n 1, 1) := by decide +kernel
theorem dX10_digest_70 : decode cX10_digest 70 = .ok (.lload_n 1, 1) := by decide +kernel
theorem dX10_digest_71 : decode cX10_digest 71 = .ok (.aload_n 0, 1) := by decide +kernel
theorem dX10_digest_72 : decode cX10_digest 72 = .ok (.invokevirtual 298, 3) := by decide +kernel
theorem dX10_digest_75 : decode cX10_digest 75 = .ok (.i2l, 1) := by decide +kernel
theorem dX10_digest_76 : decode cX10_digest 76 = .ok (.invokestatic 291, 3) := by decide +kernel
theorem dX10_digest_79 : decode cX10_digest 79 = .ok (.lstore_n 1, 1) := by decide +kernel
theorem dX10_digest_80 : decode cX10_digest 80 = .ok (.lload_n 1, 1) := by decide +kernel
theorem dX10_digest_81 : decode cX10_digest 81 = .ok (.aload_n 0, 1) := by decide +kernel
theorem dX10_digest_82 : decode cX10_digest 82 = .ok (.iconst 3, 1) := by decide +kernel
theorem dX10_digest_83 : decode cX10_digest 83 = .ok (.invokevirtual 301, 3) := by decide +kernel
theorem dX10_digest_86 : decode cX10_digest 86 = .ok (.i2l, 1) := by decide +kernel
theorem dX10_digest_87 : decode cX10_digest 87 = .ok (.invokestatic 291, 3) := by decide +kernel
theorem dX10_digest_90 : decode cX10_digest 90 = .ok (.lstore_n 1, 1) := by decide +kernel
theorem dX10_digest_91 : decode cX10_digest 91 = .ok (.lload_n 1, 1) := by decide +kernel
theorem dX10_digest_92 : decode cX10_digest 92 = .ok (.aload_n 0, 1) := by decide +kernel
theorem dX10_digest_93 : decode cX10_digest 93 = .ok (.iconst 2, 1) := by decide +kernel
theorem dX10_digest_94 : decode cX10_digest 94 = .ok (.iconst 1, 1) := by decide +kernel
theorem dX10_digest_95 : decode cX10_digest 95 = .ok (.iconst 2, 1) := by decide +kernel
theorem dX10_digest_96 : decode cX10_digest 96 = .ok (.iconst 0, 1) := by decide +kernel
theorem dX10_digest_97 : decode cX10_digest 97 = .ok (.invokevirtual 304, 3) := by decide +kernel
theorem dX10_digest_100 : decode cX10_digest 100 = .ok (.i2l, 1) := by decide +kernel
theorem dX10_digest_101 : decode cX10_digest 101 = .ok (.invokestatic 291, 3) := by decide +kernel
theorem dX10_digest_104 : decode cX10_digest 104 = .ok (.lstore_n 1, 1) := by decide +kernel
theorem dX10_digest_105 : decode cX10_digest 105 = .ok (.lload_n 1, 1) := by decide +kernel
theorem dX10_digest_106 : decode cX10_digest 106 = .ok (.aload_n 0, 1) := by decide +kernel
theorem dX10_digest_107 : decode cX10_digest 107 = .ok (.iconst 2, 1) := by decide +kernel
theorem dX10_digest_108 : decode cX10_digest 108 = .ok (.iconst 1, 1) := by decide +kernel
theorem dX10_digest_109 : decode cX10_digest 109 = .ok (.iconst 2, 1) := by decide +kernel
theorem dX10_digest_110 : decode cX10_digest 110 = .ok (.iconst 1, 1) := by decide +kernel
theorem dX10_digest_111 : decode cX10_digest 111 = .ok (.invokevirtual 304, 3) := by decide +kernel
theorem dX10_digest_114 : decode cX10_digest 114 = .ok (.i2l, 1) := by decide +kernel
theorem dX10_digest_115 : decode cX10_digest 115 = .ok (.invokestatic 291, 3) := by decide +kernel
theorem dX10_digest_118 : decode cX10_digest 118 = .ok (.lstore_n 1, 1) := by decide +kernel
theorem dX10_digest_119 : decode cX10_digest 119 = .ok (.lload_n 1, 1) := by decide +kernel
theorem dX10_digest_120 : decode cX10_digest 120 = .ok (.aload_n 0, 1) := by decide +kernel
theorem dX10_digest_121 : decode cX10_digest 121 = .ok (.iconst (-1), 1) := by decide +kernel
theorem dX10_digest_122 : decode cX10_digest 122 = .ok (.invokevirtual 308, 3) := by decide +kernel
theorem dX10_digest_125 : decode cX10_digest 125 = .ok (.i2l, 1) := by decide +kernel
theorem dX10_digest_126 : decode cX10_digest 126 = .ok (.invokestatic 291, 3) := by decide +kernel
theorem dX10_digest_129 : decode cX10_digest 129 = .ok (.lstore_n 1, 1) := by decide +kernel
theorem dX10_digest_130 : decode cX10_digest 130 = .ok (.lload_n 1, 1) := by decide +kernel
theorem dX10_digest_131 : decode cX10_digest 131 = .ok (.aload_n 0, 1) := by decide +kernel
theorem dX10_digest_132 : decode cX10_digest 132 = .ok (.iconst 0, 1) := by decide +kernel
theorem dX10_digest_133 : decode cX10_digest 133 = .ok (.invokevirtual 308, 3) := by decide +kernel
theorem dX10_digest_136 : decode cX10_digest 136 = .ok (.i2l, 1) := by decide +kernel
theorem dX10_digest_137 : decode cX10_digest 137 = .ok (.invokestatic 291, 3) := by decide +kernel
theorem dX10_digest_140 : decode cX10_digest 140 = .ok (.lstore_n 1, 1) := by decide +kernel
theorem dX10_digest_141 : decode cX10_digest 141 = .ok (.lload_n 1, 1) := by decide +kernel
theorem dX10_digest_142 : decode cX10_digest 142 = .ok (.aload_n 0, 1) := by decide +kernel
theorem dX10_digest_143 : decode cX10_digest 143 = .ok (.iconst 5, 1) := by decide +kernel
theorem dX10_digest_144 : decode cX10_digest 144 = .ok (.iconst 0, 1) := by decide +kernel
theorem dX10_digest_145 : decode cX10_digest 145 = .ok (.invokevirtual 311, 3) := by decide +kernel
theorem dX10_digest_148 : decode cX10_digest 148 = .ok (.i2l, 1) := by decide +kernel
theorem dX10_digest_149 : decode cX10_digest 149 = .ok (.invokestatic 291, 3) := by decide +kernel
theorem dX10_digest_152 : decode cX10_digest 152 = .ok (.lstore_n 1, 1) := by decide +kernel
theorem dX10_digest_153 : decode cX10_digest 153 = .ok (.lload_n 1, 1) := by decide +kernel
theorem dX10_digest_154 : decode cX10_digest 154 = .ok (.aload_n 0, 1) := by decide +kernel
theorem dX10_digest_155 : decode cX10_digest 155 = .ok (.iconst 5, 1) := by decide +kernel
theorem dX10_digest_156 : decode cX10_digest 156 = .ok (.iconst 1, 1) := by decide +kernel
theorem dX10_digest_157 : decode cX10_digest 157 = .ok (.invokevirtual 311, 3) := by decide +kernel
theorem dX10_digest_160 : decode cX10_digest 160 = .ok (.i2l, 1) := by decide +kernel
theorem dX10_digest_161 : decode cX10_digest 161 = .ok (.invokestatic 291, 3) := by decide +kernel
theorem dX10_digest_164 : decode cX10_digest 164 = .ok (.lstore_n 1, 1) := by decide +kernel
theorem dX10_digest_165 : decode cX10_digest 165 = .ok (.lload_n 1, 1) := by decide +kernel
theorem dX10_digest_166 : decode cX10_digest 166 = .ok (.aload_n 0, 1) := by decide +kernel
theorem dX10_digest_167 : decode cX10_digest 167 = .ok (.iconst 1, 1) := by decide +kernel
theorem dX10_digest_168 : decode cX10_digest 168 = .ok (.invokevirtual 314, 3) := by decide +kernel
theorem dX10_digest_171 : decode cX10_digest 171 = .ok (.i2l, 1) := by decide +kernel
theorem dX10_digest_172 : decode cX10_digest 172 = .ok (.invokestatic 291, 3) := by decide +kernel
theorem dX10_digest_175 : decode cX10_digest 175 = .ok (.lstore_n 1, 1) := by decide +kernel
theorem dX10_digest_176 : decode cX10_digest 176 = .ok (.lload_n 1, 1) := by decide +kernel
theorem dX10_digest_177 : decode cX10_digest 177 = .ok (.aload_n 0, 1) := by decide +kernel
theorem dX10_digest_178 : decode cX10_digest 178 = .ok (.bipush 7, 2) := by decide +kernel
theorem dX10_digest_180 : decode cX10_digest 180 = .ok (.bipush 9, 2) := by decide +kernel
theorem dX10_digest_182 : decode cX10_digest 182 = .ok (.iconst (-1), 1) := by decide +kernel
theorem dX10_digest_183 : decode cX10_digest 183 = .ok (.invokevirtual 317, 3) := by decide +kernel
theorem dX10_digest_186 : decode cX10_digest 186 = .ok (.i2l, 1) := by decide +kernel
theorem dX10_digest_187 : decode cX10_digest 187 = .ok (.invokestatic 291, 3) := by decide +kernel
theorem dX10_digest_190 : decode cX10_digest 190 = .ok (.lstore_n 1, 1) := by decide +kernel
theorem dX10_digest_191 : decode cX10_digest 191 = .ok (.iconst 0, 1) := by decide +kernel
theorem dX10_digest_192 : decode cX10_digest 192 = .ok (.istore_n 3, 1) := by decide +kernel
theorem dX10_digest_193 : decode cX10_digest 193 = .ok (.iload_n 3, 1) := by decide +kernel
theorem dX10_digest_194 : decode cX10_digest 194 = .ok (.bipush 8, 2) := by decide +kernel
theorem dX10_digest_196 : decode cX10_digest 196 = .ok (.if_icmp .ge 16, 3) := by decide +kernel
theorem dX10_digest_199 : decode cX10_digest 199 = .ok (.aload_n 0, 1) := by decide +kernel
theorem dX10_digest_200 : decode cX10_digest 200 = .ok (.lload_n 1, 1) := by decide +kernel
theorem dX10_digest_201 : decode cX10_digest 201 = .ok (.iload_n 3, 1) := by decide +kernel
theorem dX10_digest_202 : decode cX10_digest 202 = .ok (.invokevirtual 320, 3) := by decide +kernel
theorem dX10_digest_205 : decode cX10_digest 205 = .ok (.lstore_n 1, 1) := by decide +kernel
theorem dX10_digest_206 : decode cX10_digest 206 = .ok (.iinc 3 1, 3) := by decide +kernel
theorem dX10_digest_209 : decode cX10_digest 209 = .ok (.goto (-16), 3) := by decide +kernel
theorem dX10_digest_212 : decode cX10_digest 212 = .ok (.lload_n 1, 1) := by decide +kernel
theorem dX10_digest_213 : decode cX10_digest 213 = .ok (.lreturn, 1) := by decide +kernel
theorem dX10_digestTexts_0 : decode cX10_digestTexts 0 = .ok (.lload_n 1, 1) := by decide +kernel
theorem dX10_digestTexts_1 : decode cX10_digestTexts 1 = .ok (.lstore_n 3, 1) := by decide +kernel
theorem dX10_digestTexts_2 : decode cX10_digestTexts 2 = .ok (.iconst 0, 1) := by decide +kernel
theorem dX10_digestTexts_3 : decode cX10_digestTexts 3 = .ok (.istore 5, 2) := by decide +kernel
theorem dX10_digestTexts_5 : decode cX10_digestTexts 5 = .ok (.iload 5, 2) := by decide +kernel
theorem dX10_digestTexts_7 : decode cX10_digestTexts 7 = .ok (.bipush 8, 2) := by decide +kernel
theorem dX10_digestTexts_9 : decode cX10_digestTexts 9 = .ok (.if_icmp .ge 21, 3) := by decide +kernel
theorem dX10_digestTexts_12 : decode cX10_digestTexts 12 = .ok (.lload_n 3, 1) := by decide +kernel
theorem dX10_digestTexts_13 : decode cX10_digestTexts 13 = .ok (.aload_n 0, 1) := by decide +kernel
theorem dX10_digestTexts_14 : decode cX10_digestTexts 14 = .ok (.iload 5, 2) := by decide +kernel
theorem dX10_digestTexts_16 : decode cX10_digestTexts 16 = .ok (.invokevirtual 324, 3) := by decide +kernel
theorem dX10_digestTexts_19 : decode cX10_digestTexts 19 = .ok (.i2l, 1) := by decide +kernel
theorem dX10_digestTexts_20 : decode cX10_digestTexts 20 = .ok (.invokestatic 291, 3) := by decide +kernel
theorem dX10_digestTexts_23 : decode cX10_digestTexts 23 = .ok (.lstore_n 3, 1) := by decide +kernel
theorem dX10_digestTexts_24 : decode cX10_digestTexts 24 = .ok (.iinc 5 1, 3) := by decide +kernel
theorem dX10_digestTexts_27 : decode cX10_digestTexts 27 = .ok (.goto (-22), 3) := by decide +kernel
theorem dX10_digestTexts_30 : decode cX10_digestTexts 30 = .ok (.lload_n 3, 1) := by decide +kernel
theorem dX10_digestTexts_31 : decode cX10_digestTexts 31 = .ok (.aload_n 0, 1) := by decide +kernel
theorem dX10_digestTexts_32 : decode cX10_digestTexts 32 = .ok (.iconst 0, 1) := by decide +kernel
theorem dX10_digestTexts_33 : decode cX10_digestTexts 33 = .ok (.invokevirtual 327, 3) := by decide +kernel
theorem dX10_digestTexts_36 : decode cX10_digestTexts 36 = .ok (.i2l, 1) := by decide +kernel
theorem dX10_digestTexts_37 : decode cX10_digestTexts 37 = .ok (.invokestatic 291, 3) := by decide +kernel
theorem dX10_digestTexts_40 : decode cX10_digestTexts 40 = .ok (.lstore_n 3, 1) := by decide +kernel
theorem dX10_digestTexts_41 : decode cX10_digestTexts 41 = .ok (.lload_n 3, 1) := by decide +kernel
theorem dX10_digestTexts_42 : decode cX10_digestTexts 42 = .ok (.aload_n 0, 1) := by decide +kernel
theorem dX10_digestTexts_43 : decode cX10_digestTexts 43 = .ok (.iconst 1, 1) := by decide +kernel
theorem dX10_digestTexts_44 : decode cX10_digestTexts 44 = .ok (.invokevirtual 327, 3) := by decide +kernel
theorem dX10_digestTexts_47 : decode cX10_digestTexts 47 = .ok (.i2l, 1) := by decide +kernel
theorem dX10_digestTexts_48 : decode cX10_digestTexts 48 = .ok (.invokestatic 291, 3) := by decide +kernel
theorem dX10_digestTexts_51 : decode cX10_digestTexts 51 = .ok (.lstore_n 3, 1) := by decide +kernel
theorem dX10_digestTexts_52 : decode cX10_digestTexts 52 = .ok (.iconst 0, 1) := by decide +kernel
theorem dX10_digestTexts_53 : decode cX10_digestTexts 53 = .ok (.istore 5, 2) := by decide +kernel
theorem dX10_digestTexts_55 : decode cX10_digestTexts 55 = .ok (.iload 5, 2) := by decide +kernel
theorem dX10_digestTexts_57 : decode cX10_digestTexts 57 = .ok (.aload_n 0, 1) := by decide +kernel
theorem dX10_digestTexts_58 : decode cX10_digestTexts 58 = .ok (.getfield 24, 3) := by decide +kernel
theorem dX10_digestTexts_61 : decode cX10_digestTexts 61 = .ok (.invokevirtual 100, 3) := by decide +kernel
theorem dX10_digestTexts_64 : decode cX10_digestTexts 64 = .ok (.if_icmp .ge 48, 3) := by decide +kernel
theorem dX10_digestTexts_67 : decode cX10_digestTexts 67 = .ok (.lload_n 3, 1) := by decide +kernel
theorem dX10_digestTexts_68 : decode cX10_digestTexts 68 = .ok (.aload_n 0, 1) := by decide +kernel
theorem dX10_digestTexts_69 : decode cX10_digestTexts 69 = .ok (.iload 5, 2) := by decide +kernel
theorem dX10_digestTexts_71 : decode cX10_digestTexts 71 = .ok (.iconst 0, 1) := by decide +kernel
theorem dX10_digestTexts_72 : decode cX10_digestTexts 72 = .ok (.invokevirtual 330, 3) := by decide +kernel
theorem dX10_digestTexts_75 : decode cX10_digestTexts 75 = .ok (.i2l, 1) := by decide +kernel
theorem dX10_digestTexts_76 : decode cX10_digestTexts 76 = .ok (.invokestatic 291, 3) := by decide +kernel
theorem dX10_digestTexts_79 : decode cX10_digestTexts 79 = .ok (.lstore_n 3, 1) := by decide +kernel
theorem dX10_digestTexts_80 : decode cX10_digestTexts 80 = .ok (.lload_n 3, 1) := by decide +kernel
theorem dX10_digestTexts_81 : decode cX10_digestTexts 81 = .ok (.aload_n 0, 1) := by decide +kernel
theorem dX10_digestTexts_82 : decode cX10_digestTexts 82 = .ok (.iload 5, 2) := by decide +kernel
theorem dX10_digestTexts_84 : decode cX10_digestTexts 84 = .ok (.iconst 1, 1) := by decide +kernel
theorem dX10_digestTexts_85 : decode cX10_digestTexts 85 = .ok (.invokevirtual 330, 3) := by decide +kernel
theorem dX10_digestTexts_88 : decode cX10_digestTexts 88 = .ok (.i2l, 1) := by decide +kernel
theorem dX10_digestTexts_89 : decode cX10_digestTexts 89 = .ok (.invokestatic 291, 3) := by decide +kernel
theorem dX10_digestTexts_92 : decode cX10_digestTexts 92 = .ok (.lstore_n 3, 1) := by decide +kernel
theorem dX10_digestTexts_93 : decode cX10_digestTexts 93 = .ok (.lload_n 3, 1) := by decide +kernel
theorem dX10_digestTexts_94 : decode cX10_digestTexts 94 = .ok (.aload_n 0, 1) := by decide +kernel
theorem dX10_digestTexts_95 : decode cX10_digestTexts 95 = .ok (.iload 5, 2) := by decide +kernel
theorem dX10_digestTexts_97 : decode cX10_digestTexts 97 = .ok (.iconst 2, 1) := by decide +kernel
theorem dX10_digestTexts_98 : decode cX10_digestTexts 98 = .ok (.invokevirtual 330, 3) := by decide +kernel
theorem dX10_digestTexts_101 : decode cX10_digestTexts 101 = .ok (.i2l, 1) := by decide +kernel
theorem dX10_digestTexts_102 : decode cX10_digestTexts 102 = .ok (.invokestatic 291, 3) := by decide +kernel
theorem dX10_digestTexts_105 : decode cX10_digestTexts 105 = .ok (.lstore_n 3, 1) := by decide +kernel
theorem dX10_digestTexts_106 : decode cX10_digestTexts 106 = .ok (.iinc 5 1, 3) := by decide +kernel
theorem dX10_digestTexts_109 : decode cX10_digestTexts 109 = .ok (.goto (-54), 3) := by decide +kernel
theorem dX10_digestTexts_112 : decode cX10_digestTexts 112 = .ok (.iconst 0, 1) := by decide +kernel
theorem dX10_digestTexts_113 : decode cX10_digestTexts 113 = .ok (.istore 5, 2) := by decide +kernel
theorem dX10_digestTexts_115 : decode cX10_digestTexts 115 = .ok (.iload 5, 2) := by decide +kernel
theorem dX10_digestTexts_117 : decode cX10_digestTexts 117 = .ok (.aload_n 0, 1) := by decide +kernel
theorem dX10_digestTexts_118 : decode cX10_digestTexts 118 = .ok (.getfield 31, 3) := by decide +kernel
theorem dX10_digestTexts_121 : decode cX10_digestTexts 121 = .ok (.invokevirtual 111, 3) := by decide +kernel
theorem dX10_digestTexts_124 : decode cX10_digestTexts 124 = .ok (.if_icmp .ge 35, 3) := by decide +kernel
theorem dX10_digestTexts_127 : decode cX10_digestTexts 127 = .ok (.lload_n 3, 1) := by decide +kernel
theorem dX10_digestTexts_128 : decode cX10_digestTexts 128 = .ok (.aload_n 0, 1) := by decide +kernel
theorem dX10_digestTexts_129 : decode cX10_digestTexts 129 = .ok (.iload 5, 2) := by decide +kernel
theorem dX10_digestTexts_131 : decode cX10_digestTexts 131 = .ok (.iconst 0, 1) := by decide +kernel
theorem dX10_digestTexts_132 : decode cX10_digestTexts 132 = .ok (.invokevirtual 333, 3) := by decide +kernel
theorem dX10_digestTexts_135 : decode cX10_digestTexts 135 = .ok (.i2l, 1) := by decide +kernel
theorem dX10_digestTexts_136 : decode cX10_digestTexts 136 = .ok (.invokestatic 291, 3) := by decide +kernel
theorem dX10_digestTexts_139 : decode cX10_digestTexts 139 = .ok (.lstore_n 3, 1) := by decide +kernel
theorem dX10_digestTexts_140 : decode cX10_digestTexts 140 = .ok (.lload_n 3, 1) := by decide +kernel
theorem dX10_digestTexts_141 : decode cX10_digestTexts 141 = .ok (.aload_n 0, 1) := by decide +kernel
theorem dX10_digestTexts_142 : decode cX10_digestTexts 142 = .ok (.iload 5, 2) := by decide +kernel
theorem dX10_digestTexts_144 : decode cX10_digestTexts 144 = .ok (.iconst 1, 1) := by decide +kernel
theorem dX10_digestTexts_145 : decode cX10_digestTexts 145 = .ok (.invokevirtual 333, 3) := by decide +kernel
theorem dX10_digestTexts_148 : decode cX10_digestTexts 148 = .ok (.i2l, 1) := by decide +kernel
theorem dX10_digestTexts_149 : decode cX10_digestTexts 149 = .ok (.invokestatic 291, 3) := by decide +kernel
theorem dX10_digestTexts_152 : decode cX10_digestTexts 152 = .ok (.lstore_n 3, 1) := by decide +kernel
theorem dX10_digestTexts_153 : decode cX10_digestTexts 153 = .ok (.iinc 5 1, 3) := by decide +kernel
theorem dX10_digestTexts_156 : decode cX10_digestTexts 156 = .ok (.goto (-41), 3) := by decide +kernel
theorem dX10_digestTexts_159 : decode cX10_digestTexts 159 = .ok (.lload_n 3, 1) := by decide +kernel
theorem dX10_digestTexts_160 : decode cX10_digestTexts 160 = .ok (.lreturn, 1) := by decide +kernel
theorem dX10_digestBig_0 : decode cX10_digestBig 0 = .ok (.lload_n 1, 1) := by decide +kernel
theorem dX10_digestBig_1 : decode cX10_digestBig 1 = .ok (.lstore 4, 2) := by decide +kernel
theorem dX10_digestBig_3 : decode cX10_digestBig 3 = .ok (.lload 4, 2) := by decide +kernel
theorem dX10_digestBig_5 : decode cX10_digestBig 5 = .ok (.aload_n 0, 1) := by decide +kernel
theorem dX10_digestBig_6 : decode cX10_digestBig 6 = .ok (.iconst 3, 1) := by decide +kernel
theorem dX10_digestBig_7 : decode cX10_digestBig 7 = .ok (.iload_n 3, 1) := by decide +kernel
theorem dX10_digestBig_8 : decode cX10_digestBig 8 = .ok (.iconst 0, 1) := by decide +kernel
theorem dX10_digestBig_9 : decode cX10_digestBig 9 = .ok (.invokevirtual 336, 3) := by decide +kernel
theorem dX10_digestBig_12 : decode cX10_digestBig 12 = .ok (.i2l, 1) := by decide +kernel
theorem dX10_digestBig_13 : decode cX10_digestBig 13 = .ok (.invokestatic 291, 3) := by decide +kernel
theorem dX10_digestBig_16 : decode cX10_digestBig 16 = .ok (.lstore 4, 2) := by decide +kernel
theorem dX10_digestBig_18 : decode cX10_digestBig 18 = .ok (.lload 4, 2) := by decide +kernel
theorem dX10_digestBig_20 : decode cX10_digestBig 20 = .ok (.aload_n 0, 1) := by decide +kernel
theorem dX10_digestBig_21 : decode cX10_digestBig 21 = .ok (.iconst 3, 1) := by decide +kernel
theorem dX10_digestBig_22 : decode cX10_digestBig 22 = .ok (.iload_n 3, 1) := by decide +kernel
theorem dX10_digestBig_23 : decode cX10_digestBig 23 = .ok (.iconst 1, 1) := by decide +kernel
theorem dX10_digestBig_24 : decode cX10_digestBig 24 = .ok (.invokevirtual 336, 3) := by decide +kernel
theorem dX10_digestBig_27 : decode cX10_digestBig 27 = .ok (.i2l, 1) := by decide +kernel
theorem dX10_digestBig_28 : decode cX10_digestBig 28 = .ok (.invokestatic 291, 3) := by decide +kernel
theorem dX10_digestBig_31 : decode cX10_digestBig 31 = .ok (.lstore 4, 2) := by decide +kernel
theorem dX10_digestBig_33 : decode cX10_digestBig 33 = .ok (.lload 4, 2) := by decide +kernel
theorem dX10_digestBig_35 : decode cX10_digestBig 35 = .ok (.aload_n 0, 1) := by decide +kernel
theorem dX10_digestBig_36 : decode cX10_digestBig 36 = .ok (.iload_n 3, 1) := by decide +kernel
theorem dX10_digestBig_37 : decode cX10_digestBig 37 = .ok (.invokevirtual 339, 3) := by decide +kernel
theorem dX10_digestBig_40 : decode cX10_digestBig 40 = .ok (.i2l, 1) := by decide +kernel
theorem dX10_digestBig_41 : decode cX10_digestBig 41 = .ok (.invokestatic 291, 3) := by decide +kernel
theorem dX10_digestBig_44 : decode cX10_digestBig 44 = .ok (.lstore 4, 2) := by decide +kernel
theorem dX10_digestBig_46 : decode cX10_digestBig 46 = .ok (.lload 4, 2) := by decide +kernel
theorem dX10_digestBig_48 : decode cX10_digestBig 48 = .ok (.aload_n 0, 1) := by decide +kernel
theorem dX10_digestBig_49 : decode cX10_digestBig 49 = .ok (.iconst 2, 1) := by decide +kernel
theorem dX10_digestBig_50 : decode cX10_digestBig 50 = .ok (.iload_n 3, 1) := by decide +kernel
theorem dX10_digestBig_51 : decode cX10_digestBig 51 = .ok (.iconst 0, 1) := by decide +kernel
theorem dX10_digestBig_52 : decode cX10_digestBig 52 = .ok (.invokevirtual 342, 3) := by decide +kernel
theorem dX10_digestBig_55 : decode cX10_digestBig 55 = .ok (.i2l, 1) := by decide +kernel
theorem dX10_digestBig_56 : decode cX10_digestBig 56 = .ok (.invokestatic 291, 3) := by decide +kernel
theorem dX10_digestBig_59 : decode cX10_digestBig 59 = .ok (.lstore 4, 2) := by decide +kernel
theorem dX10_digestBig_61 : decode cX10_digestBig 61 = .ok (.lload 4, 2) := by decide +kernel
theorem dX10_digestBig_63 : decode cX10_digestBig 63 = .ok (.aload_n 0, 1) := by decide +kernel
theorem dX10_digestBig_64 : decode cX10_digestBig 64 = .ok (.iconst 2, 1) := by decide +kernel
theorem dX10_digestBig_65 : decode cX10_digestBig 65 = .ok (.iload_n 3, 1) := by decide +kernel
theorem dX10_digestBig_66 : decode cX10_digestBig 66 = .ok (.iconst 1, 1) := by decide +kernel
theorem dX10_digestBig_67 : decode cX10_digestBig 67 = .ok (.invokevirtual 342, 3) := by decide +kernel
theorem dX10_digestBig_70 : decode cX10_digestBig 70 = .ok (.i2l, 1) := by decide +kernel
theorem dX10_digestBig_71 : decode cX10_digestBig 71 = .ok (.invokestatic 291, 3) := by decide +kernel
theorem dX10_digestBig_74 : decode cX10_digestBig 74 = .ok (.lstore 4, 2) := by decide +kernel
theorem dX10_digestBig_76 : decode cX10_digestBig 76 = .ok (.lload 4, 2) := by decide +kernel
theorem dX10_digestBig_78 : decode cX10_digestBig 78 = .ok (.aload_n 0, 1) := by decide +kernel
theorem dX10_digestBig_79 : decode cX10_digestBig 79 = .ok (.iload_n 3, 1) := by decide +kernel
theorem dX10_digestBig_80 : decode cX10_digestBig 80 = .ok (.iconst 0, 1) := by decide +kernel
theorem dX10_digestBig_81 : decode cX10_digestBig 81 = .ok (.invokevirtual 345, 3) := by decide +kernel
theorem dX10_digestBig_84 : decode cX10_digestBig 84 = .ok (.i2l, 1) := by decide +kernel
theorem dX10_digestBig_85 : decode cX10_digestBig 85 = .ok (.invokestatic 291, 3) := by decide +kernel
theorem dX10_digestBig_88 : decode cX10_digestBig 88 = .ok (.lstore 4, 2) := by decide +kernel
theorem dX10_digestBig_90 : decode cX10_digestBig 90 = .ok (.lload 4, 2) := by decide +kernel
theorem dX10_digestBig_92 : decode cX10_digestBig 92 = .ok (.aload_n 0, 1) := by decide +kernel
theorem dX10_digestBig_93 : decode cX10_digestBig 93 = .ok (.iload_n 3, 1) := by decide +kernel
theorem dX10_digestBig_94 : decode cX10_digestBig 94 = .ok (.iconst 1, 1) := by decide +kernel
theorem dX10_digestBig_95 : decode cX10_digestBig 95 = .ok (.invokevirtual 345, 3) := by decide +kernel
theorem dX10_digestBig_98 : decode cX10_digestBig 98 = .ok (.i2l, 1) := by decide +kernel
theorem dX10_digestBig_99 : decode cX10_digestBig 99 = .ok (.invokestatic 291, 3) := by decide +kernel
theorem dX10_digestBig_102 : decode cX10_digestBig 102 = .ok (.lstore 4, 2) := by decide +kernel
theorem dX10_digestBig_104 : decode cX10_digestBig 104 = .ok (.lload 4, 2) := by decide +kernel
theorem dX10_digestBig_106 : decode cX10_digestBig 106 = .ok (.aload_n 0, 1) := by decide +kernel
theorem dX10_digestBig_107 : decode cX10_digestBig 107 = .ok (.iload_n 3, 1) := by decide +kernel
theorem dX10_digestBig_108 : decode cX10_digestBig 108 = .ok (.invokevirtual 348, 3) := by decide +kernel
theorem dX10_digestBig_111 : decode cX10_digestBig 111 = .ok (.i2l, 1) := by decide +kernel
theorem dX10_digestBig_112 : decode cX10_digestBig 112 = .ok (.invokestatic 291, 3) := by decide +kernel
theorem dX10_digestBig_115 : decode cX10_digestBig 115 = .ok (.lstore 4, 2) := by decide +kernel
theorem dX10_digestBig_117 : decode cX10_digestBig 117 = .ok (.lload 4, 2) := by decide +kernel
theorem dX10_digestBig_119 : decode cX10_digestBig 119 = .ok (.aload_n 0, 1) := by decide +kernel
theorem dX10_digestBig_120 : decode cX10_digestBig 120 = .ok (.iconst 4, 1) := by decide +kernel
theorem dX10_digestBig_121 : decode cX10_digestBig 121 = .ok (.iload_n 3, 1) := by decide +kernel
theorem dX10_digestBig_122 : decode cX10_digestBig 122 = .ok (.iconst 0, 1) := by decide +kernel
theorem dX10_digestBig_123 : decode cX10_digestBig 123 = .ok (.invokevirtual 351, 3) := by decide +kernel
theorem dX10_digestBig_126 : decode cX10_digestBig 126 = .ok (.invokestatic 291, 3) := by decide +kernel
theorem dX10_digestBig_129 : decode cX10_digestBig 129 = .ok (.lstore 4, 2) := by decide +kernel
theorem dX10_digestBig_131 : decode cX10_digestBig 131 = .ok (.lload 4, 2) := by decide +kernel
theorem dX10_digestBig_133 : decode cX10_digestBig 133 = .ok (.aload_n 0, 1) := by decide +kernel
theorem dX10_digestBig_134 : decode cX10_digestBig 134 = .ok (.iconst 4, 1) := by decide +kernel
theorem dX10_digestBig_135 : decode cX10_digestBig 135 = .ok (.iload_n 3, 1) := by decide +kernel
theorem dX10_digestBig_136 : decode cX10_digestBig 136 = .ok (.iconst 1, 1) := by decide +kernel
theorem dX10_digestBig_137 : decode cX10_digestBig 137 = .ok (.invokevirtual 351, 3) := by decide +kernel
theorem dX10_digestBig_140 : decode cX10_digestBig 140 = .ok (.invokestatic 291, 3) := by decide +kernel
theorem dX10_digestBig_143 : decode cX10_digestBig 143 = .ok (.lstore 4, 2) := by decide +kernel
theorem dX10_digestBig_145 : decode cX10_digestBig 145 = .ok (.lload 4, 2) := by decide +kernel
theorem dX10_digestBig_147 : decode cX10_digestBig 147 = .ok (.aload_n 0, 1) := by decide +kernel
theorem dX10_digestBig_148 : decode cX10_digestBig 148 = .ok (.iconst 4, 1) := by decide +kernel
theorem dX10_digestBig_149 : decode cX10_digestBig 149 = .ok (.iload_n 3, 1) := by decide +kernel
theorem dX10_digestBig_150 : decode cX10_digestBig 150 = .ok (.invokevirtual 355, 3) := by decide +kernel
theorem dX10_digestBig_153 : decode cX10_digestBig 153 = .ok (.i2l, 1) := by decide +kernel
theorem dX10_digestBig_154 : decode cX10_digestBig 154 = .ok (.invokestatic 291, 3) := by decide +kernel
theorem dX10_digestBig_157 : decode cX10_digestBig 157 = .ok (.lstore 4, 2) := by decide +kernel
theorem dX10_digestBig_159 : decode cX10_digestBig 159 = .ok (.lload 4, 2) := by decide +kernel
theorem dX10_digestBig_161 : decode cX10_digestBig 161 = .ok (.lreturn, 1) := by decide +kernel
theorem dX10_mix_0 : decode cX10_mix 0 = .ok (.ldc2_w 358, 3) := by decide +kernel
theorem dX10_mix_3 : decode cX10_mix 3 = .ok (.lload_n 0, 1) := by decide +kernel
theorem dX10_mix_4 : decode cX10_mix 4 = .ok (.lmul, 1) := by decide +kernel
theorem dX10_mix_5 : decode cX10_mix 5 = .ok (.lload_n 2, 1) := by decide +kernel
theorem dX10_mix_6 : decode cX10_mix 6 = .ok (.ladd, 1) := by decide +kernel
theorem dX10_mix_7 : decode cX10_mix 7 = .ok (.lreturn, 1) := by decide +kernel
theorem dX10_textOf_0 : decode cX10_textOf 0 = .ok (.iload_n 1, 1) := by decide +kernel
theorem dX10_textOf_1 : decode cX10_textOf 1 = .ok (.ifCond .ne 8, 3) := by decide +kernel
theorem dX10_textOf_4 : decode cX10_textOf 4 = .ok (.aload_n 0, 1) := by decide +kernel
theorem dX10_textOf_5 : decode cX10_textOf 5 = .ok (.getfield 14, 3) := by decide +kernel
theorem dX10_textOf_8 : decode cX10_textOf 8 = .ok (.areturn, 1) := by decide +kernel
theorem dX10_textOf_9 : decode cX10_textOf 9 = .ok (.iload_n 1, 1) := by decide +kernel
theorem dX10_textOf_10 : decode cX10_textOf 10 = .ok (.iconst 1, 1) := by decide +kernel
theorem dX10_textOf_11 : decode cX10_textOf 11 = .ok (.if_icmp .ne 10, 3) := by decide +kernel
theorem dX10_textOf_14 : decode cX10_textOf 14 = .ok (.aload_n 0, 1) := by decide +kernel
theorem dX10_textOf_15 : decode cX10_textOf 15 = .ok (.getfield 18, 3) := by decide +kernel
theorem dX10_textOf_18 : decode cX10_textOf 18 = .ok (.goto 4, 3) := by decide +kernel
theorem dX10_textOf_21 : decode cX10_textOf 21 = .ok (.aconst_null, 1) := by decide +kernel
theorem dX10_textOf_22 : decode cX10_textOf 22 = .ok (.areturn, 1) := by decide +kernel
theorem dX10_readAgain_0 : decode cX10_readAgain 0 = .ok (.iload_n 1, 1) := by decide +kernel
theorem dX10_readAgain_1 : decode cX10_readAgain 1 = .ok (.ifCond .ne 17, 3) := by decide +kernel
theorem dX10_readAgain_4 : decode cX10_readAgain 4 = .ok (.aload_n 0, 1) := by decide +kernel
theorem dX10_readAgain_5 : decode cX10_readAgain 5 = .ok (.getfield 24, 3) := by decide +kernel
theorem dX10_readAgain_8 : decode cX10_readAgain 8 = .ok (.aload_n 0, 1) := by decide +kernel
theorem dX10_readAgain_9 : decode cX10_readAgain 9 = .ok (.getfield 14, 3) := by decide +kernel
theorem dX10_readAgain_12 : decode cX10_readAgain 12 = .ok (.invokevirtual 360, 3) := by decide +kernel
theorem dX10_readAgain_15 : decode cX10_readAgain 15 = .ok (.goto 14, 3) := by decide +kernel
theorem dX10_readAgain_18 : decode cX10_readAgain 18 = .ok (.aload_n 0, 1) := by decide +kernel
theorem dX10_readAgain_19 : decode cX10_readAgain 19 = .ok (.getfield 31, 3) := by decide +kernel
theorem dX10_readAgain_22 : decode cX10_readAgain 22 = .ok (.aload_n 0, 1) := by decide +kernel
theorem dX10_readAgain_23 : decode cX10_readAgain 23 = .ok (.getfield 18, 3) := by decide +kernel
theorem dX10_readAgain_26 : decode cX10_readAgain 26 = .ok (.invokevirtual 364, 3) := by decide +kernel
theorem dX10_readAgain_29 : decode cX10_readAgain 29 = .ok (.aload_n 0, 1) := by decide +kernel
theorem dX10_readAgain_30 : decode cX10_readAgain 30 = .ok (.iconst 1, 1) := by decide +kernel
theorem dX10_readAgain_31 : decode cX10_readAgain 31 = .ok (.putfield 42, 3) := by decide +kernel
theorem dX10_readAgain_34 : decode cX10_readAgain 34 = .ok (.return_, 1) := by decide +kernel
theorem dX10_freshHouse_0 : decode cX10_freshHouse 0 = .ok (.aload_n 0, 1) := by decide +kernel
theorem dX10_freshHouse_1 : decode cX10_freshHouse 1 = .ok (.getfield 42, 3) := by decide +kernel
theorem dX10_freshHouse_4 : decode cX10_freshHouse 4 = .ok (.ifCond .eq 23, 3) := by decide +kernel
theorem dX10_freshHouse_7 : decode cX10_freshHouse 7 = .ok (.aload_n 0, 1) := by decide +kernel
theorem dX10_freshHouse_8 : decode cX10_freshHouse 8 = .ok (.getfield 38, 3) := by decide +kernel
theorem dX10_freshHouse_11 : decode cX10_freshHouse 11 = .ok (.aload_n 0, 1) := by decide +kernel
theorem dX10_freshHouse_12 : decode cX10_freshHouse 12 = .ok (.getfield 24, 3) := by decide +kernel
theorem dX10_freshHouse_15 : decode cX10_freshHouse 15 = .ok (.aload_n 0, 1) := by decide +kernel
theorem dX10_freshHouse_16 : decode cX10_freshHouse 16 = .ok (.getfield 31, 3) := by decide +kernel
theorem dX10_freshHouse_19 : decode cX10_freshHouse 19 = .ok (.invokevirtual 365, 3) := by decide +kernel
theorem dX10_freshHouse_22 : decode cX10_freshHouse 22 = .ok (.aload_n 0, 1) := by decide +kernel
theorem dX10_freshHouse_23 : decode cX10_freshHouse 23 = .ok (.iconst 0, 1) := by decide +kernel
theorem dX10_freshHouse_24 : decode cX10_freshHouse 24 = .ok (.putfield 42, 3) := by decide +kernel
theorem dX10_freshHouse_27 : decode cX10_freshHouse 27 = .ok (.aload_n 0, 1) := by decide +kernel
theorem dX10_freshHouse_28 : decode cX10_freshHouse 28 = .ok (.getfield 38, 3) := by decide +kernel
theorem dX10_freshHouse_31 : decode cX10_freshHouse 31 = .ok (.areturn, 1) := by decide +kernel
theorem dX10_finding_0 : decode cX10_finding 0 = .ok (.aload_n 0, 1) := by decide +kernel
theorem dX10_finding_1 : decode cX10_finding 1 = .ok (.iload_n 1, 1) := by decide +kernel
theorem dX10_finding_2 : decode cX10_finding 2 = .ok (.putfield 67, 3) := by decide +kernel
theorem dX10_finding_5 : decode cX10_finding 5 = .ok (.bipush (-10), 2) := by decide +kernel
theorem dX10_finding_7 : decode cX10_finding 7 = .ok (.iload_n 1, 1) := by decide +kernel
theorem dX10_finding_8 : decode cX10_finding 8 = .ok (.isub, 1) := by decide +kernel
theorem dX10_finding_9 : decode cX10_finding 9 = .ok (.ireturn, 1) := by decide +kernel
theorem dX10_itemRefusal_0 : decode cX10_itemRefusal 0 = .ok (.iload_n 1, 1) := by decide +kernel
theorem dX10_itemRefusal_1 : decode cX10_itemRefusal 1 = .ok (.invokestatic 210, 3) := by decide +kernel
theorem dX10_itemRefusal_4 : decode cX10_itemRefusal 4 = .ok (.ifCond .eq 10, 3) := by decide +kernel
theorem dX10_itemRefusal_7 : decode cX10_itemRefusal 7 = .ok (.iload_n 2, 1) := by decide +kernel
theorem dX10_itemRefusal_8 : decode cX10_itemRefusal 8 = .ok (.invokestatic 247, 3) := by decide +kernel
theorem dX10_itemRefusal_11 : decode cX10_itemRefusal 11 = .ok (.ifCond .ne 6, 3) := by decide +kernel
theorem dX10_itemRefusal_14 : decode cX10_itemRefusal 14 = .ok (.bipush (-2), 2) := by decide +kernel
theorem dX10_itemRefusal_16 : decode cX10_itemRefusal 16 = .ok (.ireturn, 1) := by decide +kernel
theorem dX10_itemRefusal_17 : decode cX10_itemRefusal 17 = .ok (.aload_n 0, 1) := by decide +kernel
theorem dX10_itemRefusal_18 : decode cX10_itemRefusal 18 = .ok (.getfield 62, 3) := by decide +kernel
theorem dX10_itemRefusal_21 : decode cX10_itemRefusal 21 = .ok (.iload_n 1, 1) := by decide +kernel
theorem dX10_itemRefusal_22 : decode cX10_itemRefusal 22 = .ok (.aaload, 1) := by decide +kernel
theorem dX10_itemRefusal_23 : decode cX10_itemRefusal 23 = .ok (.invokevirtual 213, 3) := by decide +kernel
theorem dX10_itemRefusal_26 : decode cX10_itemRefusal 26 = .ok (.ifCond .eq 9, 3) := by decide +kernel
theorem dX10_itemRefusal_29 : decode cX10_itemRefusal 29 = .ok (.aload_n 0, 1) := by decide +kernel
theorem dX10_itemRefusal_30 : decode cX10_itemRefusal 30 = .ok (.iconst 1, 1) := by decide +kernel
theorem dX10_itemRefusal_31 : decode cX10_itemRefusal 31 = .ok (.invokevirtual 216, 3) := by decide +kernel
theorem dX10_itemRefusal_34 : decode cX10_itemRefusal 34 = .ok (.ireturn, 1) := by decide +kernel
theorem dX10_itemRefusal_35 : decode cX10_itemRefusal 35 = .ok (.aload_n 0, 1) := by decide +kernel
theorem dX10_itemRefusal_36 : decode cX10_itemRefusal 36 = .ok (.getfield 62, 3) := by decide +kernel
theorem dX10_itemRefusal_39 : decode cX10_itemRefusal 39 = .ok (.iload_n 1, 1) := by decide +kernel
theorem dX10_itemRefusal_40 : decode cX10_itemRefusal 40 = .ok (.aaload, 1) := by decide +kernel
theorem dX10_itemRefusal_41 : decode cX10_itemRefusal 41 = .ok (.invokevirtual 264, 3) := by decide +kernel
theorem dX10_itemRefusal_44 : decode cX10_itemRefusal 44 = .ok (.iload_n 2, 1) := by decide +kernel
theorem dX10_itemRefusal_45 : decode cX10_itemRefusal 45 = .ok (.if_icmp .eq 9, 3) := by decide +kernel
theorem dX10_itemRefusal_48 : decode cX10_itemRefusal 48 = .ok (.aload_n 0, 1) := by decide +kernel
theorem dX10_itemRefusal_49 : decode cX10_itemRefusal 49 = .ok (.iconst 3, 1) := by decide +kernel
theorem dX10_itemRefusal_50 : decode cX10_itemRefusal 50 = .ok (.invokevirtual 216, 3) := by decide +kernel
theorem dX10_itemRefusal_53 : decode cX10_itemRefusal 53 = .ok (.ireturn, 1) := by decide +kernel
theorem dX10_itemRefusal_54 : decode cX10_itemRefusal 54 = .ok (.aload_n 0, 1) := by decide +kernel
theorem dX10_itemRefusal_55 : decode cX10_itemRefusal 55 = .ok (.getfield 62, 3) := by decide +kernel
theorem dX10_itemRefusal_58 : decode cX10_itemRefusal 58 = .ok (.iload_n 1, 1) := by decide +kernel
theorem dX10_itemRefusal_59 : decode cX10_itemRefusal 59 = .ok (.aaload, 1) := by decide +kernel
theorem dX10_itemRefusal_60 : decode cX10_itemRefusal 60 = .ok (.iload_n 3, 1) := by decide +kernel
theorem dX10_itemRefusal_61 : decode cX10_itemRefusal 61 = .ok (.iconst 1, 1) := by decide +kernel
theorem dX10_itemRefusal_62 : decode cX10_itemRefusal 62 = .ok (.invokevirtual 267, 3) := by decide +kernel
theorem dX10_itemRefusal_65 : decode cX10_itemRefusal 65 = .ok (.ifCond .eq 7, 3) := by decide +kernel
theorem dX10_itemRefusal_68 : decode cX10_itemRefusal 68 = .ok (.iconst 0, 1) := by decide +kernel
theorem dX10_itemRefusal_69 : decode cX10_itemRefusal 69 = .ok (.goto 8, 3) := by decide +kernel
theorem dX10_itemRefusal_72 : decode cX10_itemRefusal 72 = .ok (.aload_n 0, 1) := by decide +kernel
theorem dX10_itemRefusal_73 : decode cX10_itemRefusal 73 = .ok (.iconst 2, 1) := by decide +kernel
theorem dX10_itemRefusal_74 : decode cX10_itemRefusal 74 = .ok (.invokevirtual 216, 3) := by decide +kernel
theorem dX10_itemRefusal_77 : decode cX10_itemRefusal 77 = .ok (.ireturn, 1) := by decide +kernel
theorem dX10_numberOrBits_0 : decode cX10_numberOrBits 0 = .ok (.iload_n 0, 1) := by decide +kernel
theorem dX10_numberOrBits_1 : decode cX10_numberOrBits 1 = .ok (.iconst (-1), 1) := by decide +kernel
theorem dX10_numberOrBits_2 : decode cX10_numberOrBits 2 = .ok (.if_icmp .eq 8, 3) := by decide +kernel
theorem dX10_numberOrBits_5 : decode cX10_numberOrBits 5 = .ok (.iload_n 1, 1) := by decide +kernel
theorem dX10_numberOrBits_6 : decode cX10_numberOrBits 6 = .ok (.iconst 1, 1) := by decide +kernel
theorem dX10_numberOrBits_7 : decode cX10_numberOrBits 7 = .ok (.if_icmp .ne 7, 3) := by decide +kernel
theorem dX10_numberOrBits_10 : decode cX10_numberOrBits 10 = .ok (.iload_n 0, 1) := by decide +kernel
theorem dX10_numberOrBits_11 : decode cX10_numberOrBits 11 = .ok (.goto 7, 3) := by decide +kernel
theorem dX10_numberOrBits_14 : decode cX10_numberOrBits 14 = .ok (.iload_n 0, 1) := by decide +kernel
theorem dX10_numberOrBits_15 : decode cX10_numberOrBits 15 = .ok (.invokestatic 165, 3) := by decide +kernel
theorem dX10_numberOrBits_18 : decode cX10_numberOrBits 18 = .ok (.ireturn, 1) := by decide +kernel
theorem dX10_isBits_0 : decode cX10_isBits 0 = .ok (.iload_n 0, 1) := by decide +kernel
theorem dX10_isBits_1 : decode cX10_isBits 1 = .ok (.ifCond .lt 14, 3) := by decide +kernel
theorem dX10_isBits_4 : decode cX10_isBits 4 = .ok (.iload_n 0, 1) := by decide +kernel
theorem dX10_isBits_5 : decode cX10_isBits 5 = .ok (.sipush 255, 3) := by decide +kernel
theorem dX10_isBits_8 : decode cX10_isBits 8 = .ok (.if_icmp .gt 7, 3) := by decide +kernel
theorem dX10_isBits_11 : decode cX10_isBits 11 = .ok (.iconst 1, 1) := by decide +kernel
theorem dX10_isBits_12 : decode cX10_isBits 12 = .ok (.goto 4, 3) := by decide +kernel
theorem dX10_isBits_15 : decode cX10_isBits 15 = .ok (.iconst 0, 1) := by decide +kernel
theorem dX10_isBits_16 : decode cX10_isBits 16 = .ok (.ireturn, 1) := by decide +kernel
theorem dX10_isThing_0 : decode cX10_isThing 0 = .ok (.iload_n 0, 1) := by decide +kernel
theorem dX10_isThing_1 : decode cX10_isThing 1 = .ok (.ifCond .lt 13, 3) := by decide +kernel
theorem dX10_isThing_4 : decode cX10_isThing 4 = .ok (.iload_n 0, 1) := by decide +kernel
theorem dX10_isThing_5 : decode cX10_isThing 5 = .ok (.bipush 8, 2) := by decide +kernel
theorem dX10_isThing_7 : decode cX10_isThing 7 = .ok (.if_icmp .ge 7, 3) := by decide +kernel
theorem dX10_isThing_10 : decode cX10_isThing 10 = .ok (.iconst 1, 1) := by decide +kernel
theorem dX10_isThing_11 : decode cX10_isThing 11 = .ok (.goto 4, 3) := by decide +kernel
theorem dX10_isThing_14 : decode cX10_isThing 14 = .ok (.iconst 0, 1) := by decide +kernel
theorem dX10_isThing_15 : decode cX10_isThing 15 = .ok (.ireturn, 1) := by decide +kernel
theorem dX10_isEither_0 : decode cX10_isEither 0 = .ok (.iload_n 0, 1) := by decide +kernel
theorem dX10_isEither_1 : decode cX10_isEither 1 = .ok (.ifCond .eq 8, 3) := by decide +kernel
theorem dX10_isEither_4 : decode cX10_isEither 4 = .ok (.iload_n 0, 1) := by decide +kernel
theorem dX10_isEither_5 : decode cX10_isEither 5 = .ok (.iconst 1, 1) := by decide +kernel
theorem dX10_isEither_6 : decode cX10_isEither 6 = .ok (.if_icmp .ne 7, 3) := by decide +kernel
theorem dX10_isEither_9 : decode cX10_isEither 9 = .ok (.iconst 1, 1) := by decide +kernel
theorem dX10_isEither_10 : decode cX10_isEither 10 = .ok (.goto 4, 3) := by decide +kernel
theorem dX10_isEither_13 : decode cX10_isEither 13 = .ok (.iconst 0, 1) := by decide +kernel
theorem dX10_isEither_14 : decode cX10_isEither 14 = .ok (.ireturn, 1) := by decide +kernel
theorem dX10_isWeek_0 : decode cX10_isWeek 0 = .ok (.iload_n 0, 1) := by decide +kernel
theorem dX10_isWeek_1 : decode cX10_isWeek 1 = .ok (.ifCond .lt 13, 3) := by decide +kernel
theorem dX10_isWeek_4 : decode cX10_isWeek 4 = .ok (.iload_n 0, 1) := by decide +kernel
theorem dX10_isWeek_5 : decode cX10_isWeek 5 = .ok (.bipush 30, 2) := by decide +kernel
theorem dX10_isWeek_7 : decode cX10_isWeek 7 = .ok (.if_icmp .ge 7, 3) := by decide +kernel
theorem dX10_isWeek_10 : decode cX10_isWeek 10 = .ok (.iconst 1, 1) := by decide +kernel
theorem dX10_isWeek_11 : decode cX10_isWeek 11 = .ok (.goto 4, 3) := by decide +kernel
theorem dX10_isWeek_14 : decode cX10_isWeek 14 = .ok (.iconst 0, 1) := by decide +kernel
theorem dX10_isWeek_15 : decode cX10_isWeek 15 = .ok (.ireturn, 1) := by decide +kernel
theorem dX10_isSpan_0 : decode cX10_isSpan 0 = .ok (.iload_n 0, 1) := by decide +kernel
theorem dX10_isSpan_1 : decode cX10_isSpan 1 = .ok (.iconst 1, 1) := by decide +kernel
theorem dX10_isSpan_2 : decode cX10_isSpan 2 = .ok (.if_icmp .lt 13, 3) := by decide +kernel
theorem dX10_isSpan_5 : decode cX10_isSpan 5 = .ok (.iload_n 0, 1) := by decide +kernel
theorem dX10_isSpan_6 : decode cX10_isSpan 6 = .ok (.bipush 9, 2) := by decide +kernel
theorem dX10_isSpan_8 : decode cX10_isSpan 8 = .ok (.if_icmp .gt 7, 3) := by decide +kernel
theorem dX10_isSpan_11 : decode cX10_isSpan 11 = .ok (.iconst 1, 1) := by decide +kernel
theorem dX10_isSpan_12 : decode cX10_isSpan 12 = .ok (.goto 4, 3) := by decide +kernel
theorem dX10_isSpan_15 : decode cX10_isSpan 15 = .ok (.iconst 0, 1) := by decide +kernel
theorem dX10_isSpan_16 : decode cX10_isSpan 16 = .ok (.ireturn, 1) := by decide +kernel
theorem dX10_isChance_0 : decode cX10_isChance 0 = .ok (.iload_n 0, 1) := by decide +kernel
theorem dX10_isChance_1 : decode cX10_isChance 1 = .ok (.ifCond .lt 13, 3) := by decide +kernel
theorem dX10_isChance_4 : decode cX10_isChance 4 = .ok (.iload_n 0, 1) := by decide +kernel
theorem dX10_isChance_5 : decode cX10_isChance 5 = .ok (.bipush 16, 2) := by decide +kernel
theorem dX10_isChance_7 : decode cX10_isChance 7 = .ok (.if_icmp .gt 7, 3) := by decide +kernel
theorem dX10_isChance_10 : decode cX10_isChance 10 = .ok (.iconst 1, 1) := by decide +kernel
theorem dX10_isChance_11 : decode cX10_isChance 11 = .ok (.goto 4, 3) := by decide +kernel
theorem dX10_isChance_14 : decode cX10_isChance 14 = .ok (.iconst 0, 1) := by decide +kernel
theorem dX10_isChance_15 : decode cX10_isChance 15 = .ok (.ireturn, 1) := by decide +kernel
theorem dX10_isSheet_0 : decode cX10_isSheet 0 = .ok (.iload_n 0, 1) := by decide +kernel
theorem dX10_isSheet_1 : decode cX10_isSheet 1 = .ok (.ifCond .lt 12, 3) := by decide +kernel
theorem dX10_isSheet_4 : decode cX10_isSheet 4 = .ok (.iload_n 0, 1) := by decide +kernel
theorem dX10_isSheet_5 : decode cX10_isSheet 5 = .ok (.iconst 4, 1) := by decide +kernel
theorem dX10_isSheet_6 : decode cX10_isSheet 6 = .ok (.if_icmp .ge 7, 3) := by decide +kernel
theorem dX10_isSheet_9 : decode cX10_isSheet 9 = .ok (.iconst 1, 1) := by decide +kernel
theorem dX10_isSheet_10 : decode cX10_isSheet 10 = .ok (.goto 4, 3) := by decide +kernel
theorem dX10_isSheet_13 : decode cX10_isSheet 13 = .ok (.iconst 0, 1) := by decide +kernel
theorem dX10_isSheet_14 : decode cX10_isSheet 14 = .ok (.ireturn, 1) := by decide +kernel
theorem dX10_isForm_0 : decode cX10_isForm 0 = .ok (.iload_n 0, 1) := by decide +kernel
theorem dX10_isForm_1 : decode cX10_isForm 1 = .ok (.ifCond .lt 12, 3) := by decide +kernel
theorem dX10_isForm_4 : decode cX10_isForm 4 = .ok (.iload_n 0, 1) := by decide +kernel
theorem dX10_isForm_5 : decode cX10_isForm 5 = .ok (.iconst 3, 1) := by decide +kernel
theorem dX10_isForm_6 : decode cX10_isForm 6 = .ok (.if_icmp .ge 7, 3) := by decide +kernel
theorem dX10_isForm_9 : decode cX10_isForm 9 = .ok (.iconst 1, 1) := by decide +kernel
theorem dX10_isForm_10 : decode cX10_isForm 10 = .ok (.goto 4, 3) := by decide +kernel
theorem dX10_isForm_13 : decode cX10_isForm 13 = .ok (.iconst 0, 1) := by decide +kernel
theorem dX10_isForm_14 : decode cX10_isForm 14 = .ok (.ireturn, 1) := by decide +kernel
theorem dX10_isSmallLetter_0 : decode cX10_isSmallLetter 0 = .ok (.iload_n 0, 1) := by decide +kernel
theorem dX10_isSmallLetter_1 : decode cX10_isSmallLetter 1 = .ok (.bipush 97, 2) := by decide +kernel
theorem dX10_isSmallLetter_3 : decode cX10_isSmallLetter 3 = .ok (.if_icmp .lt 13, 3) := by decide +kernel
theorem dX10_isSmallLetter_6 : decode cX10_isSmallLetter 6 = .ok (.iload_n 0, 1) := by decide +kernel
theorem dX10_isSmallLetter_7 : decode cX10_isSmallLetter 7 = .ok (.bipush 104, 2) := by decide +kernel
theorem dX10_isSmallLetter_9 : decode cX10_isSmallLetter 9 = .ok (.if_icmp .gt 7, 3) := by decide +kernel
theorem dX10_isSmallLetter_12 : decode cX10_isSmallLetter 12 = .ok (.iconst 1, 1) := by decide +kernel
theorem dX10_isSmallLetter_13 : decode cX10_isSmallLetter 13 = .ok (.goto 4, 3) := by decide +kernel
theorem dX10_isSmallLetter_16 : decode cX10_isSmallLetter 16 = .ok (.iconst 0, 1) := by decide +kernel
theorem dX10_isSmallLetter_17 : decode cX10_isSmallLetter 17 = .ok (.ireturn, 1) := by decide +kernel
theorem dX10_isBigLetter_0 : decode cX10_isBigLetter 0 = .ok (.iload_n 0, 1) := by decide +kernel
theorem dX10_isBigLetter_1 : decode cX10_isBigLetter 1 = .ok (.bipush 65, 2) := by decide +kernel
theorem dX10_isBigLetter_3 : decode cX10_isBigLetter 3 = .ok (.if_icmp .lt 13, 3) := by decide +kernel
theorem dX10_isBigLetter_6 : decode cX10_isBigLetter 6 = .ok (.iload_n 0, 1) := by decide +kernel
theorem dX10_isBigLetter_7 : decode cX10_isBigLetter 7 = .ok (.bipush 72, 2) := by decide +kernel
theorem dX10_isBigLetter_9 : decode cX10_isBigLetter 9 = .ok (.if_icmp .gt 7, 3) := by decide +kernel
theorem dX10_isBigLetter_12 : decode cX10_isBigLetter 12 = .ok (.iconst 1, 1) := by decide +kernel
theorem dX10_isBigLetter_13 : decode cX10_isBigLetter 13 = .ok (.goto 4, 3) := by decide +kernel
theorem dX10_isBigLetter_16 : decode cX10_isBigLetter 16 = .ok (.iconst 0, 1) := by decide +kernel
theorem dX10_isBigLetter_17 : decode cX10_isBigLetter 17 = .ok (.ireturn, 1) := by decide +kernel
theorem dX11_init_0 : decode cX11_init 0 = .ok (.aload_n 0, 1) := by decide +kernel
theorem dX11_init_1 : decode cX11_init 1 = .ok (.invokespecial 1, 3) := by decide +kernel
theorem dX11_init_4 : decode cX11_init 4 = .ok (.aload_n 0, 1) := by decide +kernel
theorem dX11_init_5 : decode cX11_init 5 = .ok (.iconst 4, 1) := by decide +kernel
theorem dX11_init_6 : decode cX11_init 6 = .ok (.newarray .int, 2) := by decide +kernel
theorem dX11_init_8 : decode cX11_init 8 = .ok (.putfield 7, 3) := by decide +kernel
theorem dX11_init_11 : decode cX11_init 11 = .ok (.aload_n 0, 1) := by decide +kernel
theorem dX11_init_12 : decode cX11_init 12 = .ok (.iconst 4, 1) := by decide +kernel
theorem dX11_init_13 : decode cX11_init 13 = .ok (.newarray .int, 2) := by decide +kernel
theorem dX11_init_15 : decode cX11_init 15 = .ok (.putfield 13, 3) := by decide +kernel
theorem dX11_init_18 : decode cX11_init 18 = .ok (.aload_n 0, 1) := by decide +kernel
theorem dX11_init_19 : decode cX11_init 19 = .ok (.sipush 240, 3) := by decide +kernel
theorem dX11_init_22 : decode cX11_init 22 = .ok (.newarray .int, 2) := by decide +kernel
theorem dX11_init_24 : decode cX11_init 24 = .ok (.putfield 16, 3) := by decide +kernel
theorem dX11_init_27 : decode cX11_init 27 = .ok (.aload_n 0, 1) := by decide +kernel
theorem dX11_init_28 : decode cX11_init 28 = .ok (.bipush 60, 2) := by decide +kernel
theorem dX11_init_30 : decode cX11_init 30 = .ok (.newarray .int, 2) := by decide +kernel
theorem dX11_init_32 : decode cX11_init 32 = .ok (.putfield 19, 3) := by decide +kernel
theorem dX11_init_35 : decode cX11_init 35 = .ok (.aload_n 0, 1) := by decide +kernel
theorem dX11_init_36 : decode cX11_init 36 = .ok (.bipush 120, 2) := by decide +kernel
theorem dX11_init_38 : decode cX11_init 38 = .ok (.newarray .int, 2) := by decide +kernel
theorem dX11_init_40 : decode cX11_init 40 = .ok (.putfield 22, 3) := by decide +kernel
theorem dX11_init_43 : decode cX11_init 43 = .ok (.aload_n 0, 1) := by decide +kernel
theorem dX11_init_44 : decode cX11_init 44 = .ok (.iconst 2, 1) := by decide +kernel
theorem dX11_init_45 : decode cX11_init 45 = .ok (.newarray .int, 2) := by decide +kernel
theorem dX11_init_47 : decode cX11_init 47 = .ok (.putfield 25, 3) := by decide +kernel
theorem dX11_init_50 : decode cX11_init 50 = .ok (.aload_n 0, 1) := by decide +kernel
theorem dX11_init_51 : decode cX11_init 51 = .ok (.bipush 48, 2) := by decide +kernel
theorem dX11_init_53 : decode cX11_init 53 = .ok (.newarray .int, 2) := by decide +kernel
theorem dX11_init_55 : decode cX11_init 55 = .ok (.putfield 28, 3) := by decide +kernel
theorem dX11_init_58 : decode cX11_init 58 = .ok (.aload_n 0, 1) := by decide +kernel
theorem dX11_init_59 : decode cX11_init 59 = .ok (.bipush 24, 2) := by decide +kernel
theorem dX11_init_61 : decode cX11_init 61 = .ok (.newarray .int, 2) := by decide +kernel
theorem dX11_init_63 : decode cX11_init 63 = .ok (.putfield 31, 3) := by decide +kernel
theorem dX11_init_66 : decode cX11_init 66 = .ok (.aload_n 0, 1) := by decide +kernel
theorem dX11_init_67 : decode cX11_init 67 = .ok (.sipush 256, 3) := by decide +kernel
theorem dX11_init_70 : decode cX11_init 70 = .ok (.newarray .int, 2) := by decide +kernel
theorem dX11_init_72 : decode cX11_init 72 = .ok (.putfield 34, 3) := by decide +kernel
theorem dX11_init_75 : decode cX11_init 75 = .ok (.aload_n 0, 1) := by decide +kernel
theorem dX11_init_76 : decode cX11_init 76 = .ok (.sipush 256, 3) := by decide +kernel
theorem dX11_init_79 : decode cX11_init 79 = .ok (.newarray .int, 2) := by decide +kernel
theorem dX11_init_81 : decode cX11_init 81 = .ok (.putfield 37, 3) := by decide +kernel
theorem dX11_init_84 : decode cX11_init 84 = .ok (.aload_n 0, 1) := by decide +kernel
theorem dX11_init_85 : decode cX11_init 85 = .ok (.bipush 36, 2) := by decide +kernel
theorem dX11_init_87 : decode cX11_init 87 = .ok (.newarray .int, 2) := by decide +kernel
theorem dX11_init_89 : decode cX11_init 89 = .ok (.putfield 40, 3) := by decide +kernel
theorem dX11_init_92 : decode cX11_init 92 = .ok (.aload_n 0, 1) := by decide +kernel
theorem dX11_init_93 : decode cX11_init 93 = .ok (.bipush 30, 2) := by decide +kernel
theorem dX11_init_95 : decode cX11_init 95 = .ok (.newarray .int, 2) := by decide +kernel
theorem dX11_init_97 : decode cX11_init 97 = .ok (.putfield 43, 3) := by decide +kernel
theorem dX11_init_100 : decode cX11_init 100 = .ok (.aload_n 0, 1) := by decide +kernel
theorem dX11_init_101 : decode cX11_init 101 = .ok (.bipush 30, 2) := by decide +kernel
theorem dX11_init_103 : decode cX11_init 103 = .ok (.newarray .int, 2) := by decide +kernel
theorem dX11_init_105 : decode cX11_init 105 = .ok (.putfield 46, 3) := by decide +kernel
theorem dX11_init_108 : decode cX11_init 108 = .ok (.aload_n 0, 1) := by decide +kernel
theorem dX11_init_109 : decode cX11_init 109 = .ok (.sipush 1280, 3) := by decide +kernel
theorem dX11_init_112 : decode cX11_init 112 = .ok (.newarray .boolean, 2) := by decide +kernel
theorem dX11_init_114 : decode cX11_init 114 = .ok (.putfield 49, 3) := by decide +kernel
theorem dX11_init_117 : decode cX11_init 117 = .ok (.aload_n 0, 1) := by decide +kernel
theorem dX11_init_118 : decode cX11_init 118 = .ok (.sipush 256, 3) := by decide +kernel
theorem dX11_init_121 : decode cX11_init 121 = .ok (.newarray .int, 2) := by decide +kernel
theorem dX11_init_123 : decode cX11_init 123 = .ok (.putfield 53, 3) := by decide +kernel
theorem dX11_init_126 : decode cX11_init 126 = .ok (.aload_n 0, 1) := by decide +kernel
theorem dX11_init_127 : decode cX11_init 127 = .ok (.bipush 16, 2) := by decide +kernel
theorem dX11_init_129 : decode cX11_init 129 = .ok (.newarray .int, 2) := by decide +kernel
theorem dX11_init_131 : decode cX11_init 131 = .ok (.putfield 56, 3) := by decide +kernel
theorem dX11_init_134 : decode cX11_init 134 = .ok (.iconst 0, 1) := by decide +kernel
theorem dX11_init_135 : decode cX11_init 135 = .ok (.istore_n 1, 1) := by decide +kernel
theorem dX11_init_136 : decode cX11_init 136 = .ok (.iload_n 1, 1) := by decide +kernel
theorem dX11_init_137 : decode cX11_init 137 = .ok (.iconst 4, 1) := by decide +kernel
theorem dX11_init_138 : decode cX11_init 138 = .ok (.if_icmp .ge 16, 3) := by decide +kernel
theorem dX11_init_141 : decode cX11_init 141 = .ok (.aload_n 0, 1) := by decide +kernel
theorem dX11_init_142 : decode cX11_init 142 = .ok (.getfield 7, 3) := by decide +kernel
theorem dX11_init_145 : decode cX11_init 145 = .ok (.iload_n 1, 1) := by decide +kernel
theorem dX11_init_146 : decode cX11_init 146 = .ok (.iconst (-1), 1) := by decide +kernel
theorem dX11_init_147 : decode cX11_init 147 = .ok (.iastore, 1) := by decide +kernel
theorem dX11_init_148 : decode cX11_init 148 = .ok (.iinc 1 1, 3) := by decide +kernel
theorem dX11_init_151 : decode cX11_init 151 = .ok (.goto (-15), 3) := by decide +kernel
theorem dX11_init_154 : decode cX11_init 154 = .ok (.return_, 1) := by decide +kernel
theorem dX11_in_0 : decode cX11_in 0 = .ok (.lload_n 0, 1) := by decide +kernel
theorem dX11_in_1 : decode cX11_in 1 = .ok (.lload_n 2, 1) := by decide +kernel
theorem dX11_in_2 : decode cX11_in 2 = .ok (.lcmp, 1) := by decide +kernel
theorem dX11_in_3 : decode cX11_in 3 = .ok (.ifCond .lt 14, 3) := by decide +kernel
theorem dX11_in_6 : decode cX11_in 6 = .ok (.lload_n 0, 1) := by decide +kernel
theorem dX11_in_7 : decode cX11_in 7 = .ok (.lload 4, 2) := by decide +kernel
theorem dX11_in_9 : decode cX11_in 9 = .ok (.lcmp, 1) := by decide +kernel
theorem dX11_in_10 : decode cX11_in 10 = .ok (.ifCond .gt 7, 3) := by decide +kernel
theorem dX11_in_13 : decode cX11_in 13 = .ok (.iconst 1, 1) := by decide +kernel
theorem dX11_in_14 : decode cX11_in 14 = .ok (.goto 4, 3) := by decide +kernel
theorem dX11_in_17 : decode cX11_in 17 = .ok (.iconst 0, 1) := by decide +kernel
theorem dX11_in_18 : decode cX11_in 18 = .ok (.ireturn, 1) := by decide +kernel
theorem dX11_no_0 : decode cX11_no 0 = .ok (.ldc2_w 59, 3) := by decide +kernel
theorem dX11_no_3 : decode cX11_no 3 = .ok (.iload_n 0, 1) := by decide +kernel
theorem dX11_no_4 : decode cX11_no 4 = .ok (.i2l, 1) := by decide +kernel
theorem dX11_no_5 : decode cX11_no 5 = .ok (.lsub, 1) := by decide +kernel
theorem dX11_no_6 : decode cX11_no 6 = .ok (.lreturn, 1) := by decide +kernel
theorem dX11_isTwo_0 : decode cX11_isTwo 0 = .ok (.iload_n 0, 1) := by decide +kernel
theorem dX11_isTwo_1 : decode cX11_isTwo 1 = .ok (.i2l, 1) := by decide +kernel
theorem dX11_isTwo_2 : decode cX11_isTwo 2 = .ok (.lconst 0, 1) := by decide +kernel
theorem dX11_isTwo_3 : decode cX11_isTwo 3 = .ok (.lconst 1, 1) := by decide +kernel
theorem dX11_isTwo_4 : decode cX11_isTwo 4 = .ok (.invokestatic 61, 3) := by decide +kernel
theorem dX11_isTwo_7 : decode cX11_isTwo 7 = .ok (.ireturn, 1) := by decide +kernel
theorem dX11_isIn_0 : decode cX11_isIn 0 = .ok (.iload_n 0, 1) := by decide +kernel
theorem dX11_isIn_1 : decode cX11_isIn 1 = .ok (.iload_n 1, 1) := by decide +kernel
theorem dX11_isIn_2 : decode cX11_isIn 2 = .ok (.ishr, 1) := by decide +kernel
theorem dX11_isIn_3 : decode cX11_isIn 3 = .ok (.iconst 1, 1) := by decide +kernel
theorem dX11_isIn_4 : decode cX11_isIn 4 = .ok (.iand, 1) := by decide +kernel
theorem dX11_isIn_5 : decode cX11_isIn 5 = .ok (.iconst 1, 1) := by decide +kernel
theorem dX11_isIn_6 : decode cX11_isIn 6 = .ok (.if_icmp .ne 7, 3) := by decide +kernel
theorem dX11_isIn_9 : decode cX11_isIn 9 = .ok (.iconst 1, 1) := by decide +kernel
theorem dX11_isIn_10 : decode cX11_isIn 10 = .ok (.goto 4, 3) := by decide +kernel
theorem dX11_isIn_13 : decode cX11_isIn 13 = .ok (.iconst 0, 1) := by decide +kernel
theorem dX11_isIn_14 : decode cX11_isIn 14 = .ok (.ireturn, 1) := by decide +kernel
theorem dX11_ones_0 : decode cX11_ones 0 = .ok (.iconst 0, 1) := by decide +kernel
theorem dX11_ones_1 : decode cX11_ones 1 = .ok (.istore_n 1, 1) := by decide +kernel
theorem dX11_ones_2 : decode cX11_ones 2 = .ok (.iload_n 0, 1) := by decide +kernel
theorem dX11_ones_3 : decode cX11_ones 3 = .ok (.istore_n 2, 1) := by decide +kernel
theorem dX11_ones_4 : decode cX11_ones 4 = .ok (.iload_n 2, 1) := by decide +kernel
theorem dX11_ones_5 : decode cX11_ones 5 = .ok (.ifCond .eq 15, 3) := by decide +kernel
theorem dX11_ones_8 : decode cX11_ones 8 = .ok (.iinc 1 1, 3) := by decide +kernel
theorem dX11_ones_11 : decode cX11_ones 11 = .ok (.iload_n 2, 1) := by decide +kernel
theorem dX11_ones_12 : decode cX11_ones 12 = .ok (.iload_n 2, 1) := by decide +kernel
theorem dX11_ones_13 : decode cX11_ones 13 = .ok (.iconst 1, 1) := by decide +kernel
theorem dX11_ones_14 : decode cX11_ones 14 = .ok (.isub, 1) := by decide +kernel
theorem dX11_ones_15 : decode cX11_ones 15 = .ok (.iand, 1) := by decide +kernel
theorem dX11_ones_16 : decode cX11_ones 16 = .ok (.istore_n 2, 1) := by decide +kernel
theorem dX11_ones_17 : decode cX11_ones 17 = .ok (.goto (-13), 3) := by decide +kernel
theorem dX11_ones_20 : decode cX11_ones 20 = .ok (.iload_n 1, 1) := by decide +kernel
theorem dX11_ones_21 : decode cX11_ones 21 = .ok (.ireturn, 1) := by decide +kernel
theorem dX11_part_0 : decode cX11_part 0 = .ok (.lload_n 0, 1) := by decide +kernel
theorem dX11_part_1 : decode cX11_part 1 = .ok (.lstore 5, 2) := by decide +kernel
theorem dX11_part_3 : decode cX11_part 3 = .ok (.lload_n 2, 1) := by decide +kernel
theorem dX11_part_4 : decode cX11_part 4 = .ok (.lstore 7, 2) := by decide +kernel
theorem dX11_part_6 : decode cX11_part 6 = .ok (.lload 7, 2) := by decide +kernel
theorem dX11_part_8 : decode cX11_part 8 = .ok (.lconst 0, 1) := by decide +kernel
theorem dX11_part_9 : decode cX11_part 9 = .ok (.lcmp, 1) := by decide +kernel
theorem dX11_part_10 : decode cX11_part 10 = .ok (.ifCond .eq 21, 3) := by decide +kernel
theorem dX11_part_13 : decode cX11_part 13 = .ok (.lload 5, 2) := by decide +kernel
theorem dX11_part_15 : decode cX11_part 15 = .ok (.lload 7, 2) := by decide +kernel
theorem dX11_part_17 : decode cX11_part 17 = .ok (.lrem, 1) := by decide +kernel
theorem dX11_part_18 : decode cX11_part 18 = .ok (.lstore 9, 2) := by decide +kernel
theorem dX11_part_20 : decode cX11_part 20 = .ok (.lload 7, 2) := by decide +kernel
theorem dX11_part_22 : decode cX11_part 22 = .ok (.lstore 5, 2) := by decide +kernel
theorem dX11_part_24 : decode cX11_part 24 = .ok (.lload 9, 2) := by decide +kernel
theorem dX11_part_26 : decode cX11_part 26 = .ok (.lstore 7, 2) := by decide +kernel
theorem dX11_part_28 : decode cX11_part 28 = .ok (.goto (-22), 3) := by decide +kernel
theorem dX11_part_31 : decode cX11_part 31 = .ok (.iload 4, 2) := by decide +kernel
theorem dX11_part_33 : decode cX11_part 33 = .ok (.ifCond .ne 7, 3) := by decide +kernel
theorem dX11_part_36 : decode cX11_part 36 = .ok (.lload_n 0, 1) := by decide +kernel
theorem dX11_part_37 : decode cX11_part 37 = .ok (.goto 4, 3) := by decide +kernel
theorem dX11_part_40 : decode cX11_part 40 = .ok (.lload_n 2, 1) := by decide +kernel
theorem dX11_part_41 : decode cX11_part 41 = .ok (.lload 5, 2) := by decide +kernel
theorem dX11_part_43 : decode cX11_part 43 = .ok (.ldiv, 1) := by decide +kernel
theorem dX11_part_44 : decode cX11_part 44 = .ok (.lreturn, 1) := by decide +kernel
theorem dX11_met_0 : decode cX11_met 0 = .ok (.aload_n 0, 1) := by decide +kernel
theorem dX11_met_1 : decode cX11_met 1 = .ok (.iload_n 1, 1) := by decide +kernel
theorem dX11_met_2 : decode cX11_met 2 = .ok (.putfield 65, 3) := by decide +kernel
theorem dX11_met_5 : decode cX11_met 5 = .ok (.bipush (-10), 2) := by decide +kernel
theorem dX11_met_7 : decode cX11_met 7 = .ok (.iload_n 1, 1) := by decide +kernel
theorem dX11_met_8 : decode cX11_met 8 = .ok (.isub, 1) := by decide +kernel
theorem dX11_met_9 : decode cX11_met 9 = .ok (.ireturn, 1) := by decide +kernel
theorem dX11_isSheet_0 : decode cX11_isSheet 0 = .ok (.iload_n 0, 1) := by decide +kernel
theorem dX11_isSheet_1 : decode cX11_isSheet 1 = .ok (.i2l, 1) := by decide +kernel
theorem dX11_isSheet_2 : decode cX11_isSheet 2 = .ok (.lconst 0, 1) := by decide +kernel
theorem dX11_isSheet_3 : decode cX11_isSheet 3 = .ok (.ldc2_w 69, 3) := by decide +kernel
theorem dX11_isSheet_6 : decode cX11_isSheet 6 = .ok (.invokestatic 61, 3) := by decide +kernel
theorem dX11_isSheet_9 : decode cX11_isSheet 9 = .ok (.ireturn, 1) := by decide +kernel
theorem dX11_sheet_0 : decode cX11_sheet 0 = .ok (.iload_n 1, 1) := by decide +kernel
theorem dX11_sheet_1 : decode cX11_sheet 1 = .ok (.invokestatic 71, 3) := by decide +kernel
theorem dX11_sheet_4 : decode cX11_sheet 4 = .ok (.ifCond .eq 21, 3) := by decide +kernel
theorem dX11_sheet_7 : decode cX11_sheet 7 = .ok (.iload_n 2, 1) := by decide +kernel
theorem dX11_sheet_8 : decode cX11_sheet 8 = .ok (.i2l, 1) := by decide +kernel
theorem dX11_sheet_9 : decode cX11_sheet 9 = .ok (.lconst 0, 1) := by decide +kernel
theorem dX11_sheet_10 : decode cX11_sheet 10 = .ok (.ldc2_w 75, 3) := by decide +kernel
theorem dX11_sheet_13 : decode cX11_sheet 13 = .ok (.invokestatic 61, 3) := by decide +kernel
theorem dX11_sheet_16 : decode cX11_sheet 16 = .ok (.ifCond .eq 9, 3) := by decide +kernel
theorem dX11_sheet_19 : decode cX11_sheet 19 = .ok (.iload_n 3, 1) := by decide +kernel
theorem dX11_sheet_20 : decode cX11_sheet 20 = .ok (.bipush 60, 2) := by decide +kernel
theorem dX11_sheet_22 : decode cX11_sheet 22 = .ok (.if_icmp .le 6, 3) := by decide +kernel
theorem dX11_sheet_25 : decode cX11_sheet 25 = .ok (.bipush (-2), 2) := by decide +kernel
theorem dX11_sheet_27 : decode cX11_sheet 27 = .ok (.ireturn, 1) := by decide +kernel
theorem dX11_sheet_28 : decode cX11_sheet 28 = .ok (.iload_n 3, 1) := by decide +kernel
theorem dX11_sheet_29 : decode cX11_sheet 29 = .ok (.ifCond .ge 9, 3) := by decide +kernel
theorem dX11_sheet_32 : decode cX11_sheet 32 = .ok (.aload_n 0, 1) := by decide +kernel
theorem dX11_sheet_33 : decode cX11_sheet 33 = .ok (.iconst 5, 1) := by decide +kernel
theorem dX11_sheet_34 : decode cX11_sheet 34 = .ok (.invokevirtual 77, 3) := by decide +kernel
theorem dX11_sheet_37 : decode cX11_sheet 37 = .ok (.ireturn, 1) := by decide +kernel
theorem dX11_sheet_38 : decode cX11_sheet 38 = .ok (.aload_n 0, 1) := by decide +kernel
theorem dX11_sheet_39 : decode cX11_sheet 39 = .ok (.getfield 7, 3) := by decide +kernel
theorem dX11_sheet_42 : decode cX11_sheet 42 = .ok (.iload_n 1, 1) := by decide +kernel
theorem dX11_sheet_43 : decode cX11_sheet 43 = .ok (.iload_n 2, 1) := by decide +kernel
theorem dX11_sheet_44 : decode cX11_sheet 44 = .ok (.iastore, 1) := by decide +kernel
theorem dX11_sheet_45 : decode cX11_sheet 45 = .ok (.aload_n 0, 1) := by decide +kernel
theorem dX11_sheet_46 : decode cX11_sheet 46 = .ok (.getfield 13, 3) := by decide +kernel
theorem dX11_sheet_49 : decode cX11_sheet 49 = .ok (.iload_n 1, 1) := by decide +kernel
theorem dX11_sheet_50 : decode cX11_sheet 50 = .ok (.iload_n 3, 1) := by decide +kernel
theorem dX11_sheet_51 : decode cX11_sheet 51 = .ok (.iastore, 1) := by decide +kernel
theorem dX11_sheet_52 : decode cX11_sheet 52 = .ok (.iconst 0, 1) := by decide +kernel
theorem dX11_sheet_53 : decode cX11_sheet 53 = .ok (.istore 4, 2) := by decide +kernel
theorem dX11_sheet_55 : decode cX11_sheet 55 = .ok (.iload 4, 2) := by decide +kernel
theorem dX11_sheet_57 : decode cX11_sheet 57 = .ok (.iload_n 3, 1) := by decide +kernel
theorem dX11_sheet_58 : decode cX11_sheet 58 = .ok (.if_icmp .ge 22, 3) := by decide +kernel
theorem dX11_sheet_61 : decode cX11_sheet 61 = .ok (.aload_n 0, 1) := by decide +kernel
theorem dX11_sheet_62 : decode cX11_sheet 62 = .ok (.getfield 16, 3) := by decide +kernel
theorem dX11_sheet_65 : decode cX11_sheet 65 = .ok (.bipush 60, 2) := by decide +kernel
theorem dX11_sheet_67 : decode cX11_sheet 67 = .ok (.iload_n 1, 1) := by decide +kernel
theorem dX11_sheet_68 : decode cX11_sheet 68 = .ok (.imul, 1) := by decide +kernel
theorem dX11_sheet_69 : decode cX11_sheet 69 = .ok (.iload 4, 2) := by decide +kernel
theorem dX11_sheet_71 : decode cX11_sheet 71 = .ok (.iadd, 1) := by decide +kernel
theorem dX11_sheet_72 : decode cX11_sheet 72 = .ok (.iconst 0, 1) := by decide +kernel
theorem dX11_sheet_73 : decode cX11_sheet 73 = .ok (.iastore, 1) := by decide +kernel
theorem dX11_sheet_74 : decode cX11_sheet 74 = .ok (.iinc 4 1, 3) := by decide +kernel
theorem dX11_sheet_77 : decode cX11_sheet 77 = .ok (.goto (-22), 3) := by decide +kernel
theorem dX11_sheet_80 : decode cX11_sheet 80 = .ok (.iload_n 3, 1) := by decide +kernel
theorem dX11_sheet_81 : decode cX11_sheet 81 = .ok (.ireturn, 1) := by decide +kernel
theorem dX11_lose_0 : decode cX11_lose 0 = .ok (.iload_n 1, 1) := by decide +kernel
theorem dX11_lose_1 : decode cX11_lose 1 = .ok (.invokestatic 71, 3) := by decide +kernel
theorem dX11_lose_4 : decode cX11_lose 4 = .ok (.ifCond .ne 6, 3) := by decide +kernel
theorem dX11_lose_7 : decode cX11_lose 7 = .ok (.bipush (-2), 2) := by decide +kernel
theorem dX11_lose_9 : decode cX11_lose 9 = .ok (.ireturn, 1) := by decide +kernel
theorem dX11_lose_10 : decode cX11_lose 10 = .ok (.aload_n 0, 1) := by decide +kernel
theorem dX11_lose_11 : decode cX11_lose 11 = .ok (.getfield 7, 3) := by decide +kernel
theorem dX11_lose_14 : decode cX11_lose 14 = .ok (.iload_n 1, 1) := by decide +kernel
theorem dX11_lose_15 : decode cX11_lose 15 = .ok (.iaload, 1) := by decide +kernel
theorem dX11_lose_16 : decode cX11_lose 16 = .ok (.ifCond .ge 9, 3) := by decide +kernel
theorem dX11_lose_19 : decode cX11_lose 19 = .ok (.aload_n 0, 1) := by decide +kernel
theorem dX11_lose_20 : decode cX11_lose 20 = .ok (.iconst 1, 1) := by decide +kernel
theorem dX11_lose_21 : decode cX11_lose 21 = .ok (.invokevirtual 77, 3) := by decide +kernel
theorem dX11_lose_24 : decode cX11_lose 24 = .ok (.ireturn, 1) := by decide +kernel
theorem dX11_lose_25 : decode cX11_lose 25 = .ok (.aload_n 0, 1) := by decide +kernel
theorem dX11_lose_26 : decode cX11_lose 26 = .ok (.getfield 7, 3) := by decide +kernel
theorem dX11_lose_29 : decode cX11_lose 29 = .ok (.iload_n 1, 1) := by decide +kernel
theorem dX11_lose_30 : decode cX11_lose 30 = .ok (.iconst (-1), 1) := by decide +kernel
theorem dX11_lose_31 : decode cX11_lose 31 = .ok (.iastore, 1) := by decide +kernel
theorem dX11_lose_32 : decode cX11_lose 32 = .ok (.aload_n 0, 1) := by decide +kernel
theorem dX11_lose_33 : decode cX11_lose 33 = .ok (.getfield 13, 3) := by decide +kernel
theorem dX11_lose_36 : decode cX11_lose 36 = .ok (.iload_n 1, 1) := by decide +kernel
theorem dX11_lose_37 : decode cX11_lose 37 = .ok (.iaload, 1) := by decide +kernel
theorem dX11_lose_38 : decode cX11_lose 38 = .ok (.ireturn, 1) := by decide +kernel
theorem dX11_lacks_0 : decode cX11_lacks 0 = .ok (.aload_n 0, 1) := by decide +kernel
theorem dX11_lacks_1 : decode cX11_lacks 1 = .ok (.getfield 7, 3) := by decide +kernel
theorem dX11_lacks_4 : decode cX11_lacks 4 = .ok (.iload_n 1, 1) := by decide +kernel
theorem dX11_lacks_5 : decode cX11_lacks 5 = .ok (.iaload, 1) := by decide +kernel
theorem dX11_lacks_6 : decode cX11_lacks 6 = .ok (.ifCond .ge 9, 3) := by decide +kernel
theorem dX11_lacks_9 : decode cX11_lacks 9 = .ok (.aload_n 0, 1) := by decide +kernel
theorem dX11_lacks_10 : decode cX11_lacks 10 = .ok (.iconst 1, 1) := by decide +kernel
theorem dX11_lacks_11 : decode cX11_lacks 11 = .ok (.invokevirtual 77, 3) := by decide +kernel
theorem dX11_lacks_14 : decode cX11_lacks 14 = .ok (.ireturn, 1) := by decide +kernel
theorem dX11_lacks_15 : decode cX11_lacks 15 = .ok (.aload_n 0, 1) := by decide +kernel
theorem dX11_lacks_16 : decode cX11_lacks 16 = .ok (.getfield 7, 3) := by decide +kernel
theorem dX11_lacks_19 : decode cX11_lacks 19 = .ok (.iload_n 1, 1) := by decide +kernel
theorem dX11_lacks_20 : decode cX11_lacks 20 = .ok (.iaload, 1) := by decide +kernel
theorem dX11_lacks_21 : decode cX11_lacks 21 = .ok (.iload_n 2, 1) := by decide +kernel
theorem dX11_lacks_22 : decode cX11_lacks 22 = .ok (.if_icmp .eq 9, 3) := by decide +kernel
theorem dX11_lacks_25 : decode cX11_lacks 25 = .ok (.aload_n 0, 1) := by decide +kernel
theorem dX11_lacks_26 : decode cX11_lacks 26 = .ok (.iconst 3, 1) := by decide +kernel
theorem dX11_lacks_27 : decode cX11_lacks 27 = .ok (.invokevirtual 77, 3) := by decide +kernel
theorem dX11_lacks_30 : decode cX11_lacks 30 = .ok (.ireturn, 1) := by decide +kernel
theorem dX11_lacks_31 : decode cX11_lacks 31 = .ok (.iload_n 3, 1) := by decide +kernel
theorem dX11_lacks_32 : decode cX11_lacks 32 = .ok (.i2l, 1) := by decide +kernel
theorem dX11_lacks_33 : decode cX11_lacks 33 = .ok (.lconst 0, 1) := by decide +kernel
theorem dX11_lacks_34 : decode cX11_lacks 34 = .ok (.aload_n 0, 1) := by decide +kernel
theorem dX11_lacks_35 : decode cX11_lacks 35 = .ok (.getfield 13, 3) := by decide +kernel
theorem dX11_lacks_38 : decode cX11_lacks 38 = .ok (.iload_n 1, 1) := by decide +kernel
theorem dX11_lacks_39 : decode cX11_lacks 39 = .ok (.iaload, 1) := by decide +kernel
theorem dX11_lacks_40 : decode cX11_lacks 40 = .ok (.iconst 1, 1) := by decide +kernel
theorem dX11_lacks_41 : decode cX11_lacks 41 = .ok (.isub, 1) := by decide +kernel
theorem dX11_lacks_42 : decode cX11_lacks 42 = .ok (.i2l, 1) := by decide +kernel
theorem dX11_lacks_43 : decode cX11_lacks 43 = .ok (.invokestatic 61, 3) := by decide +kernel
theorem dX11_lacks_46 : decode cX11_lacks 46 = .ok (.ifCond .eq 7, 3) := by decide +kernel
theorem dX11_lacks_49 : decode cX11_lacks 49 = .ok (.iconst 0, 1) := by decide +kernel
theorem dX11_lacks_50 : decode cX11_lacks 50 = .ok (.goto 8, 3) := by decide +kernel
theorem dX11_lacks_53 : decode cX11_lacks 53 = .ok (.aload_n 0, 1) := by decide +kernel
theorem dX11_lacks_54 : decode cX11_lacks 54 = .ok (.iconst 2, 1) := by decide +kernel
theorem dX11_lacks_55 : decode cX11_lacks 55 = .ok (.invokevirtual 77, 3) := by decide +kernel
theorem dX11_lacks_58 : decode cX11_lacks 58 = .ok (.ireturn, 1) := by decide +kernel
theorem dX11_cut_0 : decode cX11_cut 0 = .ok (.iload_n 0, 1) := by decide +kernel
theorem dX11_cut_1 : decode cX11_cut 1 = .ok (.ifCond .ne 8, 3) := by decide +kernel
theorem dX11_cut_4 : decode cX11_cut 4 = .ok (.iload_n 1, 1) := by decide +kernel
theorem dX11_cut_5 : decode cX11_cut 5 = .ok (.i2b, 1) := by decide +kernel
theorem dX11_cut_6 : decode cX11_cut 6 = .ok (.goto 14, 3) := by decide +kernel
theorem dX11_cut_9 : decode cX11_cut 9 = .ok (.iload_n 0, 1) := by decide +kernel
theorem dX11_cut_10 : decode cX11_cut 10 = .ok (.iconst 1, 1) := by decide +kernel
theorem dX11_cut_11 : decode cX11_cut 11 = .ok (.if_icmp .ne 8, 3) := by decide +kernel
theorem dX11_cut_14 : decode cX11_cut 14 = .ok (.iload_n 1, 1) := by decide +kernel
theorem dX11_cut_15 : decode cX11_cut 15 = .ok (.i2s, 1) := by decide +kernel
theorem dX11_cut_16 : decode cX11_cut 16 = .ok (.goto 4, 3) := by decide +kernel
theorem dX11_cut_19 : decode cX11_cut 19 = .ok (.iload_n 1, 1) := by decide +kernel
theorem dX11_cut_20 : decode cX11_cut 20 = .ok (.ireturn, 1) := by decide +kernel
theorem dX11_put_0 : decode cX11_put 0 = .ok (.iload_n 1, 1) := by decide +kernel
theorem dX11_put_1 : decode cX11_put 1 = .ok (.invokestatic 71, 3) := by decide +kernel
theorem dX11_put_4 : decode cX11_put 4 = .ok (.ifCond .eq 15, 3) := by decide +kernel
theorem dX11_put_7 : decode cX11_put 7 = .ok (.iload_n 2, 1) := by decide +kernel
theorem dX11_put_8 : decode cX11_put 8 = .ok (.i2l, 1) := by decide +kernel
theorem dX11_put_9 : decode cX11_put 9 = .ok (.lconst 0, 1) := by decide +kernel
theorem dX11_put_10 : decode cX11_put 10 = .ok (.ldc2_w 75, 3) := by decide +kernel
theorem dX11_put_13 : decode cX11_put 13 = .ok (.invokestatic 61, 3) := by decide +kernel
theorem dX11_put_16 : decode cX11_put 16 = .ok (.ifCond .ne 6, 3) := by decide +kernel
theorem dX11_put_19 : decode cX11_put 19 = .ok (.bipush (-2), 2) := by decide +kernel
theorem dX11_put_21 : decode cX11_put 21 = .ok (.ireturn, 1) := by decide +kernel
theorem dX11_put_22 : decode cX11_put 22 = .ok (.aload_n 0, 1) := by decide +kernel
theorem dX11_put_23 : decode cX11_put 23 = .ok (.iload_n 1, 1) := by decide +kernel
theorem dX11_put_24 : decode cX11_put 24 = .ok (.iload_n 2, 1) := by decide +kernel
theorem dX11_put_25 : decode cX11_put 25 = .ok (.iload_n 3, 1) := by decide +kernel
theorem dX11_put_26 : decode cX11_put 26 = .ok (.invokevirtual 81, 3) := by decide +kernel
theorem dX11_put_29 : decode cX11_put 29 = .ok (.istore 5, 2) := by decide +kernel
theorem dX11_put_31 : decode cX11_put 31 = .ok (.iload 5, 2) := by decide +kernel
theorem dX11_put_33 : decode cX11_put 33 = .ok (.ifCond .eq 6, 3) := by decide +kernel
theorem dX11_put_36 : decode cX11_put 36 = .ok (.iload 5, 2) := by decide +kernel
theorem dX11_put_38 : decode cX11_put 38 = .ok (.ireturn, 1) := by decide +kernel
theorem dX11_put_39 : decode cX11_put 39 = .ok (.aload_n 0, 1) := by decide +kernel
theorem dX11_put_40 : decode cX11_put 40 = .ok (.getfield 16, 3) := by decide +kernel
theorem dX11_put_43 : decode cX11_put 43 = .ok (.bipush 60, 2) := by decide +kernel
theorem dX11_put_45 : decode cX11_put 45 = .ok (.iload_n 1, 1) := by decide +kernel
theorem dX11_put_46 : decode cX11_put 46 = .ok (.imul, 1) := by decide +kernel
theorem dX11_put_47 : decode cX11_put 47 = .ok (.iload_n 3, 1) := by decide +kernel
theorem dX11_put_48 : decode cX11_put 48 = .ok (.iadd, 1) := by decide +kernel
theorem dX11_put_49 : decode cX11_put 49 = .ok (.iload_n 2, 1) := by decide +kernel
theorem dX11_put_50 : decode cX11_put 50 = .ok (.iload 4, 2) := by decide +kernel
theorem dX11_put_52 : decode cX11_put 52 = .ok (.invokestatic 85, 3) := by decide +kernel
theorem dX11_put_55 : decode cX11_put 55 = .ok (.iastore, 1) := by decide +kernel
theorem dX11_put_56 : decode cX11_put 56 = .ok (.iconst 1, 1) := by decide +kernel
theorem dX11_put_57 : decode cX11_put 57 = .ok (.ireturn, 1) := by decide +kernel
theorem dX11_get_0 : decode cX11_get 0 = .ok (.iload_n 1, 1) := by decide +kernel
theorem dX11_get_1 : decode cX11_get 1 = .ok (.invokestatic 71, 3) := by decide +kernel
theorem dX11_get_4 : decode cX11_get 4 = .ok (.ifCond .eq 25, 3) := by decide +kernel
theorem dX11_get_7 : decode cX11_get 7 = .ok (.iload_n 2, 1) := by decide +kernel
theorem dX11_get_8 : decode cX11_get 8 = .ok (.i2l, 1) := by decide +kernel
theorem dX11_get_9 : decode cX11_get 9 = .ok (.lconst 0, 1) := by decide +kernel
theorem dX11_get_10 : decode cX11_get 10 = .ok (.ldc2_w 75, 3) := by decide +kernel
theorem dX11_get_13 : decode cX11_get 13 = .ok (.invokestatic 61, 3) := by decide +kernel
theorem dX11_get_16 : decode cX11_get 16 = .ok (.ifCond .eq 13, 3) := by decide +kernel
theorem dX11_get_19 : decode cX11_get 19 = .ok (.aload_n 0, 1) := by decide +kernel
theorem dX11_get_20 : decode cX11_get 20 = .ok (.iload_n 1, 1) := by decide +kernel
theorem dX11_get_21 : decode cX11_get 21 = .ok (.iload_n 2, 1) := by decide +kernel
theorem dX11_get_22 : decode cX11_get 22 = .ok (.iload_n 3, 1) := by decide +kernel
theorem dX11_get_23 : decode cX11_get 23 = .ok (.invokevirtual 81, 3) := by decide +kernel
theorem dX11_get_26 : decode cX11_get 26 = .ok (.ifCond .eq 6, 3) := by decide +kernel
theorem dX11_get_29 : decode cX11_get 29 = .ok (.ldc 89, 2) := by decide +kernel
theorem dX11_get_31 : decode cX11_get 31 = .ok (.ireturn, 1) := by decide +kernel
theorem dX11_get_32 : decode cX11_get 32 = .ok (.aload_n 0, 1) := by decide +kernel
theorem dX11_get_33 : decode cX11_get 33 = .ok (.getfield 16, 3) := by decide +kernel
theorem dX11_get_36 : decode cX11_get 36 = .ok (.bipush 60, 2) := by decide +kernel
theorem dX11_get_38 : decode cX11_get 38 = .ok (.iload_n 1, 1) := by decide +kernel
theorem dX11_get_39 : decode cX11_get 39 = .ok (.imul, 1) := by decide +kernel
theorem dX11_get_40 : decode cX11_get 40 = .ok (.iload_n 3, 1) := by decide +kernel
theorem dX11_get_41 : decode cX11_get 41 = .ok (.iadd, 1) := by decide +kernel
theorem dX11_get_42 : decode cX11_get 42 = .ok (.iaload, 1) := by decide +kernel
theorem dX11_get_43 : decode cX11_get 43 = .ok (.ireturn, 1) := by decide +kernel
theorem dX11_copy_0 : decode cX11_copy 0 = .ok (.iload_n 1, 1) := by decide +kernel
theorem dX11_copy_1 : decode cX11_copy 1 = .ok (.invokestatic 71, 3) := by decide +kernel
theorem dX11_copy_4 : decode cX11_copy 4 = .ok (.ifCond .eq 10, 3) := by decide +kernel
theorem dX11_copy_7 : decode cX11_copy 7 = .ok (.iload_n 3, 1) := by decide +kernel
theorem dX11_copy_8 : decode cX11_copy 8 = .ok (.invokestatic 71, 3) := by decide +kernel
theorem dX11_copy_11 : decode cX11_copy 11 = .ok (.ifCond .ne 6, 3) := by decide +kernel
theorem dX11_copy_14 : decode cX11_copy 14 = .ok (.bipush (-2), 2) := by decide +kernel
theorem dX11_copy_16 : decode cX11_copy 16 = .ok (.ireturn, 1) := by decide +kernel
theorem dX11_copy_17 : decode cX11_copy 17 = .ok (.aload_n 0, 1) := by decide +kernel
theorem dX11_copy_18 : decode cX11_copy 18 = .ok (.getfield 7, 3) := by decide +kernel
theorem dX11_copy_21 : decode cX11_copy 21 = .ok (.iload_n 1, 1) := by decide +kernel
theorem dX11_copy_22 : decode cX11_copy 22 = .ok (.iaload, 1) := by decide +kernel
theorem dX11_copy_23 : decode cX11_copy 23 = .ok (.ifCond .lt 12, 3) := by decide +kernel
theorem dX11_copy_26 : decode cX11_copy 26 = .ok (.aload_n 0, 1) := by decide +kernel
theorem dX11_copy_27 : decode cX11_copy 27 = .ok (.getfield 7, 3) := by decide +kernel
theorem dX11_copy_30 : decode cX11_copy 30 = .ok (.iload_n 3, 1) := by decide +kernel
theorem dX11_copy_31 : decode cX11_copy 31 = .ok (.iaload, 1) := by decide +kernel
theorem dX11_copy_32 : decode cX11_copy 32 = .ok (.ifCond .ge 9, 3) := by decide +kernel
theorem dX11_copy_35 : decode cX11_copy 35 = .ok (.aload_n 0, 1) := by decide +kernel
theorem dX11_copy_36 : decode cX11_copy 36 = .ok (.iconst 1, 1) := by decide +kernel
theorem dX11_copy_37 : decode cX11_copy 37 = .ok (.invokevirtual 77, 3) := by decide +kernel
theorem dX11_copy_40 : decode cX11_copy 40 = .ok (.ireturn, 1) := by decide +kernel
theorem dX11_copy_41 : decode cX11_copy 41 = .ok (.aload_n 0, 1) := by decide +kernel
theorem dX11_copy_42 : decode cX11_copy 42 = .ok (.getfield 7, 3) := by decide +kernel
theorem dX11_copy_45 : decode cX11_copy 45 = .ok (.iload_n 1, 1) := by decide +kernel
theorem dX11_copy_46 : decode cX11_copy 46 = .ok (.iaload, 1) := by decide +kernel
theorem dX11_copy_47 : decode cX11_copy 47 = .ok (.aload_n 0, 1) := by decide +kernel
theorem dX11_copy_48 : decode cX11_copy 48 = .ok (.getfield 7, 3) := by decide +kernel
theorem dX11_copy_51 : decode cX11_copy 51 = .ok (.iload_n 3, 1) := by decide +kernel
theorem dX11_copy_52 : decode cX11_copy 52 = .ok (.iaload, 1) := by decide +kernel
theorem dX11_copy_53 : decode cX11_copy 53 = .ok (.if_icmp .eq 9, 3) := by decide +kernel
theorem dX11_copy_56 : decode cX11_copy 56 = .ok (.aload_n 0, 1) := by decide +kernel
theorem dX11_copy_57 : decode cX11_copy 57 = .ok (.iconst 4, 1) := by decide +kernel
theorem dX11_copy_58 : decode cX11_copy 58 = .ok (.invokevirtual 77, 3) := by decide +kernel
theorem dX11_copy_61 : decode cX11_copy 61 = .ok (.ireturn, 1) := by decide +kernel
theorem dX11_copy_62 : decode cX11_copy 62 = .ok (.iload_n 2, 1) := by decide +kernel
theorem dX11_copy_63 : decode cX11_copy 63 = .ok (.ifCond .lt 48, 3) := by decide +kernel
theorem dX11_copy_66 : decode cX11_copy 66 = .ok (.iload 4, 2) := by decide +kernel
theorem dX11_copy_68 : decode cX11_copy 68 = .ok (.ifCond .lt 43, 3) := by decide +kernel
theorem dX11_copy_71 : decode cX11_copy 71 = .ok (.iload 5, 2) := by decide +kernel
theorem dX11_copy_73 : decode cX11_copy 73 = .ok (.ifCond .lt 38, 3) := by decide +kernel
theorem dX11_copy_76 : decode cX11_copy 76 = .ok (.iload_n 2, 1) := by decide +kernel
theorem dX11_copy_77 : decode cX11_copy 77 = .ok (.i2l, 1) := by decide +kernel
theorem dX11_copy_78 : decode cX11_copy 78 = .ok (.iload 5, 2) := by decide +kernel
theorem dX11_copy_80 : decode cX11_copy 80 = .ok (.i2l, 1) := by decide +kernel
theorem dX11_copy_81 : decode cX11_copy 81 = .ok (.ladd, 1) := by decide +kernel
theorem dX11_copy_82 : decode cX11_copy 82 = .ok (.aload_n 0, 1) := by decide +kernel
theorem dX11_copy_83 : decode cX11_copy 83 = .ok (.getfield 13, 3) := by decide +kernel
theorem dX11_copy_86 : decode cX11_copy 86 = .ok (.iload_n 1, 1) := by decide +kernel
theorem dX11_copy_87 : decode cX11_copy 87 = .ok (.iaload, 1) := by decide +kernel
theorem dX11_copy_88 : decode cX11_copy 88 = .ok (.i2l, 1) := by decide +kernel
theorem dX11_copy_89 : decode cX11_copy 89 = .ok (.lcmp, 1) := by decide +kernel
theorem dX11_copy_90 : decode cX11_copy 90 = .ok (.ifCond .gt 21, 3) := by decide +kernel
theorem dX11_copy_93 : decode cX11_copy 93 = .ok (.iload 4, 2) := by decide +kernel
theorem dX11_copy_95 : decode cX11_copy 95 = .ok (.i2l, 1) := by decide +kernel
theorem dX11_copy_96 : decode cX11_copy 96 = .ok (.iload 5, 2) := by decide +kernel
theorem dX11_copy_98 : decode cX11_copy 98 = .ok (.i2l, 1) := by decide +kernel
theorem dX11_copy_99 : decode cX11_copy 99 = .ok (.ladd, 1) := by decide +kernel
theorem dX11_copy_100 : decode cX11_copy 100 = .ok (.aload_n 0, 1) := by decide +kernel
theorem dX11_copy_101 : decode cX11_copy 101 = .ok (.getfield 13, 3) := by decide +kernel
theorem dX11_copy_104 : decode cX11_copy 104 = .ok (.iload_n 3, 1) := by decide +kernel
theorem dX11_copy_105 : decode cX11_copy 105 = .ok (.iaload, 1) := by decide +kernel
theorem dX11_copy_106 : decode cX11_copy 106 = .ok (.i2l, 1) := by decide +kernel
theorem dX11_copy_107 : decode cX11_copy 107 = .ok (.lcmp, 1) := by decide +kernel
theorem dX11_copy_108 : decode cX11_copy 108 = .ok (.ifCond .le 9, 3) := by decide +kernel
theorem dX11_copy_111 : decode cX11_copy 111 = .ok (.aload_n 0, 1) := by decide +kernel
theorem dX11_copy_112 : decode cX11_copy 112 = .ok (.iconst 2, 1) := by decide +kernel
theorem dX11_copy_113 : decode cX11_copy 113 = .ok (.invokevirtual 77, 3) := by decide +kernel
theorem dX11_copy_116 : decode cX11_copy 116 = .ok (.ireturn, 1) := by decide +kernel
theorem dX11_copy_117 : decode cX11_copy 117 = .ok (.iconst 0, 1) := by decide +kernel
theorem dX11_copy_118 : decode cX11_copy 118 = .ok (.istore 6, 2) := by decide +kernel
theorem dX11_copy_120 : decode cX11_copy 120 = .ok (.iload 6, 2) := by decide +kernel
theorem dX11_copy_122 : decode cX11_copy 122 = .ok (.iload 5, 2) := by decide +kernel
theorem dX11_copy_124 : decode cX11_copy 124 = .ok (.if_icmp .ge 30, 3) := by decide +kernel
theorem dX11_copy_127 : decode cX11_copy 127 = .ok (.aload_n 0, 1) := by decide +kernel
theorem dX11_copy_128 : decode cX11_copy 128 = .ok (.getfield 19, 3) := by decide +kernel
theorem dX11_copy_131 : decode cX11_copy 131 = .ok (.iload 6, 2) := by decide +kernel
theorem dX11_copy_133 : decode cX11_copy 133 = .ok (.aload_n 0, 1) := by decide +kernel
theorem dX11_copy_134 : decode cX11_copy 134 = .ok (.getfield 16, 3) := by decide +kernel
theorem dX11_copy_137 : decode cX11_copy 137 = .ok (.bipush 60, 2) := by decide +kernel
theorem dX11_copy_139 : decode cX11_copy 139 = .ok (.iload_n 1, 1) := by decide +kernel
theorem dX11_copy_140 : decode cX11_copy 140 = .ok (.imul, 1) := by decide +kernel
theorem dX11_copy_141 : decode cX11_copy 141 = .ok (.iload_n 2, 1) := by decide +kernel
theorem dX11_copy_142 : decode cX11_copy 142 = .ok (.iadd, 1) := by decide +kernel
theorem dX11_copy_143 : decode cX11_copy 143 = .ok (.iload 6, 2) := by decide +kernel
theorem dX11_copy_145 : decode cX11_copy 145 = .ok (.iadd, 1) := by decide +kernel
theorem dX11_copy_146 : decode cX11_copy 146 = .ok (.iaload, 1) := by decide +kernel
theorem dX11_copy_147 : decode cX11_copy 147 = .ok (.iastore, 1) := by decide +kernel
theorem dX11_copy_148 : decode cX11_copy 148 = .ok (.iinc 6 1, 3) := by decide +kernel
theorem dX11_copy_151 : decode cX11_copy 151 = .ok (.goto (-31), 3) := by decide +kernel
theorem dX11_copy_154 : decode cX11_copy 154 = .ok (.iconst 0, 1) := by decide +kernel
theorem dX11_copy_155 : decode cX11_copy 155 = .ok (.istore 6, 2) := by decide +kernel
theorem dX11_copy_157 : decode cX11_copy 157 = .ok (.iload 6, 2) := by decide +kernel
theorem dX11_copy_159 : decode cX11_copy 159 = .ok (.iload 5, 2) := by decide +kernel
theorem dX11_copy_161 : decode cX11_copy 161 = .ok (.if_icmp .ge 31, 3) := by decide +kernel
theorem dX11_copy_164 : decode cX11_copy 164 = .ok (.aload_n 0, 1) := by decide +kernel
theorem dX11_copy_165 : decode cX11_copy 165 = .ok (.getfield 16, 3) := by decide +kernel
end
section
theorem dX11_copy_168 : decode cX11_copy 168 = .ok (.bipush 60, 2) := by decide +kernel
theorem dX11_copy_170 : decode cX11_copy 170 = .ok (.iload_n 3, 1) := by decide +kernel
theorem dX11_copy_171 : decode cX11_copy 171 = .ok (.imul, 1) := by decide +kernel
theorem dX11_copy_172 : decode cX11_copy 172 = .ok (.iload 4, 2) := by decide +kernel
theorem dX11_copy_174 : decode cX11_copy 174 = .ok (.iadd, 1) := by decide +kernel
theorem dX11_copy_175 : decode cX11_copy 175 = .ok (.iload 6, 2) := by decide +kernel
theorem dX11_copy_177 : decode cX11_copy 177 = .ok (.iadd, 1) := by decide +kernel
theorem dX11_copy_178 : decode cX11_copy 178 = .ok (.aload_n 0, 1) := by decide +kernel
theorem dX11_copy_179 : decode cX11_copy 179 = .ok (.getfield 19, 3) := by decide +kernel
theorem dX11_copy_182 : decode cX11_copy 182 = .ok (.iload 6, 2) := by decide +kernel
theorem dX11_copy_184 : decode cX11_copy 184 = .ok (.iaload, 1) := by decide +kernel
theorem dX11_copy_185 : decode cX11_copy 185 = .ok (.iastore, 1) := by decide +kernel
theorem dX11_copy_186 : decode cX11_copy 186 = .ok (.iinc 6 1, 3) := by decide +kernel
theorem dX11_copy_189 : decode cX11_copy 189 = .ok (.goto (-32), 3) := by decide +kernel
theorem dX11_copy_192 : decode cX11_copy 192 = .ok (.iconst 1, 1) := by decide +kernel
theorem dX11_copy_193 : decode cX11_copy 193 = .ok (.ireturn, 1) := by decide +kernel
theorem dX11_type_0 : decode cX11_type 0 = .ok (.iload_n 1, 1) := by decide +kernel
theorem dX11_type_1 : decode cX11_type 1 = .ok (.invokestatic 90, 3) := by decide +kernel
theorem dX11_type_4 : decode cX11_type 4 = .ok (.ifCond .eq 15, 3) := by decide +kernel
theorem dX11_type_7 : decode cX11_type 7 = .ok (.iload_n 2, 1) := by decide +kernel
theorem dX11_type_8 : decode cX11_type 8 = .ok (.i2l, 1) := by decide +kernel
theorem dX11_type_9 : decode cX11_type 9 = .ok (.lconst 0, 1) := by decide +kernel
theorem dX11_type_10 : decode cX11_type 10 = .ok (.ldc2_w 93, 3) := by decide +kernel
theorem dX11_type_13 : decode cX11_type 13 = .ok (.invokestatic 61, 3) := by decide +kernel
theorem dX11_type_16 : decode cX11_type 16 = .ok (.ifCond .ne 6, 3) := by decide +kernel
theorem dX11_type_19 : decode cX11_type 19 = .ok (.bipush (-2), 2) := by decide +kernel
theorem dX11_type_21 : decode cX11_type 21 = .ok (.ireturn, 1) := by decide +kernel
theorem dX11_type_22 : decode cX11_type 22 = .ok (.aload_n 0, 1) := by decide +kernel
theorem dX11_type_23 : decode cX11_type 23 = .ok (.getfield 25, 3) := by decide +kernel
theorem dX11_type_26 : decode cX11_type 26 = .ok (.iload_n 1, 1) := by decide +kernel
theorem dX11_type_27 : decode cX11_type 27 = .ok (.iaload, 1) := by decide +kernel
theorem dX11_type_28 : decode cX11_type 28 = .ok (.iload_n 1, 1) := by decide +kernel
theorem dX11_type_29 : decode cX11_type 29 = .ok (.ifCond .ne 8, 3) := by decide +kernel
theorem dX11_type_32 : decode cX11_type 32 = .ok (.bipush 79, 2) := by decide +kernel
theorem dX11_type_34 : decode cX11_type 34 = .ok (.goto 5, 3) := by decide +kernel
theorem dX11_type_37 : decode cX11_type 37 = .ok (.bipush 35, 2) := by decide +kernel
theorem dX11_type_39 : decode cX11_type 39 = .ok (.if_icmp .ne 6, 3) := by decide +kernel
theorem dX11_type_42 : decode cX11_type 42 = .ok (.bipush (-4), 2) := by decide +kernel
theorem dX11_type_44 : decode cX11_type 44 = .ok (.ireturn, 1) := by decide +kernel
theorem dX11_type_45 : decode cX11_type 45 = .ok (.aload_n 0, 1) := by decide +kernel
theorem dX11_type_46 : decode cX11_type 46 = .ok (.getfield 22, 3) := by decide +kernel
theorem dX11_type_49 : decode cX11_type 49 = .ok (.bipush 80, 2) := by decide +kernel
theorem dX11_type_51 : decode cX11_type 51 = .ok (.iload_n 1, 1) := by decide +kernel
theorem dX11_type_52 : decode cX11_type 52 = .ok (.imul, 1) := by decide +kernel
theorem dX11_type_53 : decode cX11_type 53 = .ok (.aload_n 0, 1) := by decide +kernel
theorem dX11_type_54 : decode cX11_type 54 = .ok (.getfield 25, 3) := by decide +kernel
theorem dX11_type_57 : decode cX11_type 57 = .ok (.iload_n 1, 1) := by decide +kernel
theorem dX11_type_58 : decode cX11_type 58 = .ok (.iaload, 1) := by decide +kernel
theorem dX11_type_59 : decode cX11_type 59 = .ok (.iadd, 1) := by decide +kernel
theorem dX11_type_60 : decode cX11_type 60 = .ok (.iload_n 2, 1) := by decide +kernel
theorem dX11_type_61 : decode cX11_type 61 = .ok (.iastore, 1) := by decide +kernel
theorem dX11_type_62 : decode cX11_type 62 = .ok (.aload_n 0, 1) := by decide +kernel
theorem dX11_type_63 : decode cX11_type 63 = .ok (.getfield 25, 3) := by decide +kernel
theorem dX11_type_66 : decode cX11_type 66 = .ok (.iload_n 1, 1) := by decide +kernel
theorem dX11_type_67 : decode cX11_type 67 = .ok (.dup2, 1) := by decide +kernel
theorem dX11_type_68 : decode cX11_type 68 = .ok (.iaload, 1) := by decide +kernel
theorem dX11_type_69 : decode cX11_type 69 = .ok (.iconst 1, 1) := by decide +kernel
theorem dX11_type_70 : decode cX11_type 70 = .ok (.iadd, 1) := by decide +kernel
theorem dX11_type_71 : decode cX11_type 71 = .ok (.iastore, 1) := by decide +kernel
theorem dX11_type_72 : decode cX11_type 72 = .ok (.aload_n 0, 1) := by decide +kernel
theorem dX11_type_73 : decode cX11_type 73 = .ok (.getfield 25, 3) := by decide +kernel
theorem dX11_type_76 : decode cX11_type 76 = .ok (.iload_n 1, 1) := by decide +kernel
theorem dX11_type_77 : decode cX11_type 77 = .ok (.iaload, 1) := by decide +kernel
theorem dX11_type_78 : decode cX11_type 78 = .ok (.ireturn, 1) := by decide +kernel
theorem dX11_wipe_0 : decode cX11_wipe 0 = .ok (.iload_n 1, 1) := by decide +kernel
theorem dX11_wipe_1 : decode cX11_wipe 1 = .ok (.invokestatic 90, 3) := by decide +kernel
theorem dX11_wipe_4 : decode cX11_wipe 4 = .ok (.ifCond .ne 6, 3) := by decide +kernel
theorem dX11_wipe_7 : decode cX11_wipe 7 = .ok (.bipush (-2), 2) := by decide +kernel
theorem dX11_wipe_9 : decode cX11_wipe 9 = .ok (.ireturn, 1) := by decide +kernel
theorem dX11_wipe_10 : decode cX11_wipe 10 = .ok (.aload_n 0, 1) := by decide +kernel
theorem dX11_wipe_11 : decode cX11_wipe 11 = .ok (.getfield 25, 3) := by decide +kernel
theorem dX11_wipe_14 : decode cX11_wipe 14 = .ok (.iload_n 1, 1) := by decide +kernel
theorem dX11_wipe_15 : decode cX11_wipe 15 = .ok (.iaload, 1) := by decide +kernel
theorem dX11_wipe_16 : decode cX11_wipe 16 = .ok (.istore_n 2, 1) := by decide +kernel
theorem dX11_wipe_17 : decode cX11_wipe 17 = .ok (.aload_n 0, 1) := by decide +kernel
theorem dX11_wipe_18 : decode cX11_wipe 18 = .ok (.getfield 25, 3) := by decide +kernel
theorem dX11_wipe_21 : decode cX11_wipe 21 = .ok (.iload_n 1, 1) := by decide +kernel
theorem dX11_wipe_22 : decode cX11_wipe 22 = .ok (.iconst 0, 1) := by decide +kernel
theorem dX11_wipe_23 : decode cX11_wipe 23 = .ok (.iastore, 1) := by decide +kernel
theorem dX11_wipe_24 : decode cX11_wipe 24 = .ok (.iload_n 2, 1) := by decide +kernel
theorem dX11_wipe_25 : decode cX11_wipe 25 = .ok (.ireturn, 1) := by decide +kernel
theorem dX11_undo_0 : decode cX11_undo 0 = .ok (.iload_n 1, 1) := by decide +kernel
theorem dX11_undo_1 : decode cX11_undo 1 = .ok (.invokestatic 90, 3) := by decide +kernel
theorem dX11_undo_4 : decode cX11_undo 4 = .ok (.ifCond .ne 6, 3) := by decide +kernel
theorem dX11_undo_7 : decode cX11_undo 7 = .ok (.bipush (-2), 2) := by decide +kernel
theorem dX11_undo_9 : decode cX11_undo 9 = .ok (.ireturn, 1) := by decide +kernel
theorem dX11_undo_10 : decode cX11_undo 10 = .ok (.aload_n 0, 1) := by decide +kernel
theorem dX11_undo_11 : decode cX11_undo 11 = .ok (.getfield 25, 3) := by decide +kernel
theorem dX11_undo_14 : decode cX11_undo 14 = .ok (.iload_n 1, 1) := by decide +kernel
theorem dX11_undo_15 : decode cX11_undo 15 = .ok (.iaload, 1) := by decide +kernel
theorem dX11_undo_16 : decode cX11_undo 16 = .ok (.ifCond .ne 6, 3) := by decide +kernel
theorem dX11_undo_19 : decode cX11_undo 19 = .ok (.bipush (-3), 2) := by decide +kernel
theorem dX11_undo_21 : decode cX11_undo 21 = .ok (.ireturn, 1) := by decide +kernel
theorem dX11_undo_22 : decode cX11_undo 22 = .ok (.aload_n 0, 1) := by decide +kernel
theorem dX11_undo_23 : decode cX11_undo 23 = .ok (.getfield 25, 3) := by decide +kernel
theorem dX11_undo_26 : decode cX11_undo 26 = .ok (.iload_n 1, 1) := by decide +kernel
theorem dX11_undo_27 : decode cX11_undo 27 = .ok (.dup2, 1) := by decide +kernel
theorem dX11_undo_28 : decode cX11_undo 28 = .ok (.iaload, 1) := by decide +kernel
theorem dX11_undo_29 : decode cX11_undo 29 = .ok (.iconst 1, 1) := by decide +kernel
theorem dX11_undo_30 : decode cX11_undo 30 = .ok (.isub, 1) := by decide +kernel
theorem dX11_undo_31 : decode cX11_undo 31 = .ok (.iastore, 1) := by decide +kernel
theorem dX11_undo_32 : decode cX11_undo 32 = .ok (.aload_n 0, 1) := by decide +kernel
theorem dX11_undo_33 : decode cX11_undo 33 = .ok (.getfield 25, 3) := by decide +kernel
theorem dX11_undo_36 : decode cX11_undo 36 = .ok (.iload_n 1, 1) := by decide +kernel
theorem dX11_undo_37 : decode cX11_undo 37 = .ok (.iaload, 1) := by decide +kernel
theorem dX11_undo_38 : decode cX11_undo 38 = .ok (.ireturn, 1) := by decide +kernel
theorem dX11_here_0 : decode cX11_here 0 = .ok (.aload_n 0, 1) := by decide +kernel
theorem dX11_here_1 : decode cX11_here 1 = .ok (.getfield 95, 3) := by decide +kernel
theorem dX11_here_4 : decode cX11_here 4 = .ok (.aload_n 0, 1) := by decide +kernel
theorem dX11_here_5 : decode cX11_here 5 = .ok (.getfield 25, 3) := by decide +kernel
theorem dX11_here_8 : decode cX11_here 8 = .ok (.iload_n 1, 1) := by decide +kernel
theorem dX11_here_9 : decode cX11_here 9 = .ok (.iaload, 1) := by decide +kernel
theorem dX11_here_10 : decode cX11_here 10 = .ok (.if_icmp .ge 20, 3) := by decide +kernel
theorem dX11_here_13 : decode cX11_here 13 = .ok (.aload_n 0, 1) := by decide +kernel
theorem dX11_here_14 : decode cX11_here 14 = .ok (.getfield 22, 3) := by decide +kernel
theorem dX11_here_17 : decode cX11_here 17 = .ok (.bipush 80, 2) := by decide +kernel
theorem dX11_here_19 : decode cX11_here 19 = .ok (.iload_n 1, 1) := by decide +kernel
theorem dX11_here_20 : decode cX11_here 20 = .ok (.imul, 1) := by decide +kernel
theorem dX11_here_21 : decode cX11_here 21 = .ok (.aload_n 0, 1) := by decide +kernel
theorem dX11_here_22 : decode cX11_here 22 = .ok (.getfield 95, 3) := by decide +kernel
theorem dX11_here_25 : decode cX11_here 25 = .ok (.iadd, 1) := by decide +kernel
theorem dX11_here_26 : decode cX11_here 26 = .ok (.iaload, 1) := by decide +kernel
theorem dX11_here_27 : decode cX11_here 27 = .ok (.goto 4, 3) := by decide +kernel
theorem dX11_here_30 : decode cX11_here 30 = .ok (.iconst (-1), 1) := by decide +kernel
theorem dX11_here_31 : decode cX11_here 31 = .ok (.ireturn, 1) := by decide +kernel
theorem dX11_small_0 : decode cX11_small 0 = .ok (.aload_n 0, 1) := by decide +kernel
theorem dX11_small_1 : decode cX11_small 1 = .ok (.iload_n 1, 1) := by decide +kernel
theorem dX11_small_2 : decode cX11_small 2 = .ok (.invokevirtual 98, 3) := by decide +kernel
theorem dX11_small_5 : decode cX11_small 5 = .ok (.i2l, 1) := by decide +kernel
theorem dX11_small_6 : decode cX11_small 6 = .ok (.ldc2_w 101, 3) := by decide +kernel
theorem dX11_small_9 : decode cX11_small 9 = .ok (.ldc2_w 103, 3) := by decide +kernel
theorem dX11_small_12 : decode cX11_small 12 = .ok (.invokestatic 61, 3) := by decide +kernel
theorem dX11_small_15 : decode cX11_small 15 = .ok (.ifCond .eq 14, 3) := by decide +kernel
theorem dX11_small_18 : decode cX11_small 18 = .ok (.aload_n 0, 1) := by decide +kernel
theorem dX11_small_19 : decode cX11_small 19 = .ok (.iload_n 1, 1) := by decide +kernel
theorem dX11_small_20 : decode cX11_small 20 = .ok (.invokevirtual 98, 3) := by decide +kernel
theorem dX11_small_23 : decode cX11_small 23 = .ok (.bipush 97, 2) := by decide +kernel
theorem dX11_small_25 : decode cX11_small 25 = .ok (.isub, 1) := by decide +kernel
theorem dX11_small_26 : decode cX11_small 26 = .ok (.goto 4, 3) := by decide +kernel
theorem dX11_small_29 : decode cX11_small 29 = .ok (.iconst (-1), 1) := by decide +kernel
theorem dX11_small_30 : decode cX11_small 30 = .ok (.ireturn, 1) := by decide +kernel
theorem dX11_big_0 : decode cX11_big 0 = .ok (.aload_n 0, 1) := by decide +kernel
theorem dX11_big_1 : decode cX11_big 1 = .ok (.iload_n 1, 1) := by decide +kernel
theorem dX11_big_2 : decode cX11_big 2 = .ok (.invokevirtual 98, 3) := by decide +kernel
theorem dX11_big_5 : decode cX11_big 5 = .ok (.i2l, 1) := by decide +kernel
theorem dX11_big_6 : decode cX11_big 6 = .ok (.ldc2_w 105, 3) := by decide +kernel
theorem dX11_big_9 : decode cX11_big 9 = .ok (.ldc2_w 107, 3) := by decide +kernel
theorem dX11_big_12 : decode cX11_big 12 = .ok (.invokestatic 61, 3) := by decide +kernel
theorem dX11_big_15 : decode cX11_big 15 = .ok (.ifCond .eq 14, 3) := by decide +kernel
theorem dX11_big_18 : decode cX11_big 18 = .ok (.aload_n 0, 1) := by decide +kernel
theorem dX11_big_19 : decode cX11_big 19 = .ok (.iload_n 1, 1) := by decide +kernel
theorem dX11_big_20 : decode cX11_big 20 = .ok (.invokevirtual 98, 3) := by decide +kernel
theorem dX11_big_23 : decode cX11_big 23 = .ok (.bipush 65, 2) := by decide +kernel
theorem dX11_big_25 : decode cX11_big 25 = .ok (.isub, 1) := by decide +kernel
theorem dX11_big_26 : decode cX11_big 26 = .ok (.goto 4, 3) := by decide +kernel
theorem dX11_big_29 : decode cX11_big 29 = .ok (.iconst (-1), 1) := by decide +kernel
theorem dX11_big_30 : decode cX11_big 30 = .ok (.ireturn, 1) := by decide +kernel
theorem dX11_readsLaw_0 : decode cX11_readsLaw 0 = .ok (.aload_n 0, 1) := by decide +kernel
theorem dX11_readsLaw_1 : decode cX11_readsLaw 1 = .ok (.iconst 0, 1) := by decide +kernel
theorem dX11_readsLaw_2 : decode cX11_readsLaw 2 = .ok (.invokevirtual 109, 3) := by decide +kernel
theorem dX11_readsLaw_5 : decode cX11_readsLaw 5 = .ok (.istore_n 1, 1) := by decide +kernel
theorem dX11_readsLaw_6 : decode cX11_readsLaw 6 = .ok (.aload_n 0, 1) := by decide +kernel
theorem dX11_readsLaw_7 : decode cX11_readsLaw 7 = .ok (.getfield 112, 3) := by decide +kernel
theorem dX11_readsLaw_10 : decode cX11_readsLaw 10 = .ok (.bipush 16, 2) := by decide +kernel
theorem dX11_readsLaw_12 : decode cX11_readsLaw 12 = .ok (.if_icmp .eq 8, 3) := by decide +kernel
theorem dX11_readsLaw_15 : decode cX11_readsLaw 15 = .ok (.iload_n 1, 1) := by decide +kernel
theorem dX11_readsLaw_16 : decode cX11_readsLaw 16 = .ok (.iconst (-1), 1) := by decide +kernel
theorem dX11_readsLaw_17 : decode cX11_readsLaw 17 = .ok (.if_icmp .ne 5, 3) := by decide +kernel
theorem dX11_readsLaw_20 : decode cX11_readsLaw 20 = .ok (.iconst 0, 1) := by decide +kernel
theorem dX11_readsLaw_21 : decode cX11_readsLaw 21 = .ok (.ireturn, 1) := by decide +kernel
theorem dX11_readsLaw_22 : decode cX11_readsLaw 22 = .ok (.iconst 1, 1) := by decide +kernel
theorem dX11_readsLaw_23 : decode cX11_readsLaw 23 = .ok (.iload_n 1, 1) := by decide +kernel
theorem dX11_readsLaw_24 : decode cX11_readsLaw 24 = .ok (.ishl, 1) := by decide +kernel
theorem dX11_readsLaw_25 : decode cX11_readsLaw 25 = .ok (.istore_n 2, 1) := by decide +kernel
theorem dX11_readsLaw_26 : decode cX11_readsLaw 26 = .ok (.aload_n 0, 1) := by decide +kernel
theorem dX11_readsLaw_27 : decode cX11_readsLaw 27 = .ok (.dup, 1) := by decide +kernel
theorem dX11_readsLaw_28 : decode cX11_readsLaw 28 = .ok (.getfield 95, 3) := by decide +kernel
theorem dX11_readsLaw_31 : decode cX11_readsLaw 31 = .ok (.iconst 1, 1) := by decide +kernel
theorem dX11_readsLaw_32 : decode cX11_readsLaw 32 = .ok (.iadd, 1) := by decide +kernel
theorem dX11_readsLaw_33 : decode cX11_readsLaw 33 = .ok (.putfield 95, 3) := by decide +kernel
theorem dX11_readsLaw_36 : decode cX11_readsLaw 36 = .ok (.aload_n 0, 1) := by decide +kernel
theorem dX11_readsLaw_37 : decode cX11_readsLaw 37 = .ok (.iconst 0, 1) := by decide +kernel
theorem dX11_readsLaw_38 : decode cX11_readsLaw 38 = .ok (.invokevirtual 109, 3) := by decide +kernel
theorem dX11_readsLaw_41 : decode cX11_readsLaw 41 = .ok (.istore_n 3, 1) := by decide +kernel
theorem dX11_readsLaw_42 : decode cX11_readsLaw 42 = .ok (.iload_n 3, 1) := by decide +kernel
theorem dX11_readsLaw_43 : decode cX11_readsLaw 43 = .ok (.iconst (-1), 1) := by decide +kernel
theorem dX11_readsLaw_44 : decode cX11_readsLaw 44 = .ok (.if_icmp .eq 26, 3) := by decide +kernel
theorem dX11_readsLaw_47 : decode cX11_readsLaw 47 = .ok (.iload_n 3, 1) := by decide +kernel
theorem dX11_readsLaw_48 : decode cX11_readsLaw 48 = .ok (.iload_n 1, 1) := by decide +kernel
theorem dX11_readsLaw_49 : decode cX11_readsLaw 49 = .ok (.if_icmp .gt 5, 3) := by decide +kernel
theorem dX11_readsLaw_52 : decode cX11_readsLaw 52 = .ok (.iconst 0, 1) := by decide +kernel
theorem dX11_readsLaw_53 : decode cX11_readsLaw 53 = .ok (.ireturn, 1) := by decide +kernel
theorem dX11_readsLaw_54 : decode cX11_readsLaw 54 = .ok (.iload_n 2, 1) := by decide +kernel
theorem dX11_readsLaw_55 : decode cX11_readsLaw 55 = .ok (.iconst 1, 1) := by decide +kernel
theorem dX11_readsLaw_56 : decode cX11_readsLaw 56 = .ok (.iload_n 3, 1) := by decide +kernel
theorem dX11_readsLaw_57 : decode cX11_readsLaw 57 = .ok (.ishl, 1) := by decide +kernel
theorem dX11_readsLaw_58 : decode cX11_readsLaw 58 = .ok (.ior, 1) := by decide +kernel
theorem dX11_readsLaw_59 : decode cX11_readsLaw 59 = .ok (.istore_n 2, 1) := by decide +kernel
theorem dX11_readsLaw_60 : decode cX11_readsLaw 60 = .ok (.aload_n 0, 1) := by decide +kernel
theorem dX11_readsLaw_61 : decode cX11_readsLaw 61 = .ok (.dup, 1) := by decide +kernel
theorem dX11_readsLaw_62 : decode cX11_readsLaw 62 = .ok (.getfield 95, 3) := by decide +kernel
theorem dX11_readsLaw_65 : decode cX11_readsLaw 65 = .ok (.iconst 1, 1) := by decide +kernel
theorem dX11_readsLaw_66 : decode cX11_readsLaw 66 = .ok (.iadd, 1) := by decide +kernel
theorem dX11_readsLaw_67 : decode cX11_readsLaw 67 = .ok (.putfield 95, 3) := by decide +kernel
theorem dX11_readsLaw_70 : decode cX11_readsLaw 70 = .ok (.aload_n 0, 1) := by decide +kernel
theorem dX11_readsLaw_71 : decode cX11_readsLaw 71 = .ok (.iconst 0, 1) := by decide +kernel
theorem dX11_readsLaw_72 : decode cX11_readsLaw 72 = .ok (.invokevirtual 98, 3) := by decide +kernel
theorem dX11_readsLaw_75 : decode cX11_readsLaw 75 = .ok (.istore 4, 2) := by decide +kernel
theorem dX11_readsLaw_77 : decode cX11_readsLaw 77 = .ok (.iload 4, 2) := by decide +kernel
theorem dX11_readsLaw_79 : decode cX11_readsLaw 79 = .ok (.bipush 43, 2) := by decide +kernel
theorem dX11_readsLaw_81 : decode cX11_readsLaw 81 = .ok (.if_icmp .eq 12, 3) := by decide +kernel
theorem dX11_readsLaw_84 : decode cX11_readsLaw 84 = .ok (.iload 4, 2) := by decide +kernel
theorem dX11_readsLaw_86 : decode cX11_readsLaw 86 = .ok (.bipush 45, 2) := by decide +kernel
theorem dX11_readsLaw_88 : decode cX11_readsLaw 88 = .ok (.if_icmp .eq 5, 3) := by decide +kernel
theorem dX11_readsLaw_91 : decode cX11_readsLaw 91 = .ok (.iconst 0, 1) := by decide +kernel
theorem dX11_readsLaw_92 : decode cX11_readsLaw 92 = .ok (.ireturn, 1) := by decide +kernel
theorem dX11_readsLaw_93 : decode cX11_readsLaw 93 = .ok (.aload_n 0, 1) := by decide +kernel
theorem dX11_readsLaw_94 : decode cX11_readsLaw 94 = .ok (.dup, 1) := by decide +kernel
theorem dX11_readsLaw_95 : decode cX11_readsLaw 95 = .ok (.getfield 95, 3) := by decide +kernel
theorem dX11_readsLaw_98 : decode cX11_readsLaw 98 = .ok (.iconst 1, 1) := by decide +kernel
theorem dX11_readsLaw_99 : decode cX11_readsLaw 99 = .ok (.iadd, 1) := by decide +kernel
theorem dX11_readsLaw_100 : decode cX11_readsLaw 100 = .ok (.putfield 95, 3) := by decide +kernel
theorem dX11_readsLaw_103 : decode cX11_readsLaw 103 = .ok (.aload_n 0, 1) := by decide +kernel
theorem dX11_readsLaw_104 : decode cX11_readsLaw 104 = .ok (.iconst 0, 1) := by decide +kernel
theorem dX11_readsLaw_105 : decode cX11_readsLaw 105 = .ok (.invokevirtual 115, 3) := by decide +kernel
theorem dX11_readsLaw_108 : decode cX11_readsLaw 108 = .ok (.istore 5, 2) := by decide +kernel
theorem dX11_readsLaw_110 : decode cX11_readsLaw 110 = .ok (.iload 5, 2) := by decide +kernel
theorem dX11_readsLaw_112 : decode cX11_readsLaw 112 = .ok (.iconst (-1), 1) := by decide +kernel
theorem dX11_readsLaw_113 : decode cX11_readsLaw 113 = .ok (.if_icmp .ne 5, 3) := by decide +kernel
theorem dX11_readsLaw_116 : decode cX11_readsLaw 116 = .ok (.iconst 0, 1) := by decide +kernel
theorem dX11_readsLaw_117 : decode cX11_readsLaw 117 = .ok (.ireturn, 1) := by decide +kernel
theorem dX11_readsLaw_118 : decode cX11_readsLaw 118 = .ok (.aload_n 0, 1) := by decide +kernel
theorem dX11_readsLaw_119 : decode cX11_readsLaw 119 = .ok (.dup, 1) := by decide +kernel
theorem dX11_readsLaw_120 : decode cX11_readsLaw 120 = .ok (.getfield 95, 3) := by decide +kernel
theorem dX11_readsLaw_123 : decode cX11_readsLaw 123 = .ok (.iconst 1, 1) := by decide +kernel
theorem dX11_readsLaw_124 : decode cX11_readsLaw 124 = .ok (.iadd, 1) := by decide +kernel
theorem dX11_readsLaw_125 : decode cX11_readsLaw 125 = .ok (.putfield 95, 3) := by decide +kernel
theorem dX11_readsLaw_128 : decode cX11_readsLaw 128 = .ok (.aload_n 0, 1) := by decide +kernel
theorem dX11_readsLaw_129 : decode cX11_readsLaw 129 = .ok (.getfield 28, 3) := by decide +kernel
theorem dX11_readsLaw_132 : decode cX11_readsLaw 132 = .ok (.iconst 3, 1) := by decide +kernel
theorem dX11_readsLaw_133 : decode cX11_readsLaw 133 = .ok (.aload_n 0, 1) := by decide +kernel
theorem dX11_readsLaw_134 : decode cX11_readsLaw 134 = .ok (.getfield 112, 3) := by decide +kernel
theorem dX11_readsLaw_137 : decode cX11_readsLaw 137 = .ok (.imul, 1) := by decide +kernel
theorem dX11_readsLaw_138 : decode cX11_readsLaw 138 = .ok (.iload_n 2, 1) := by decide +kernel
theorem dX11_readsLaw_139 : decode cX11_readsLaw 139 = .ok (.iastore, 1) := by decide +kernel
theorem dX11_readsLaw_140 : decode cX11_readsLaw 140 = .ok (.aload_n 0, 1) := by decide +kernel
theorem dX11_readsLaw_141 : decode cX11_readsLaw 141 = .ok (.getfield 28, 3) := by decide +kernel
theorem dX11_readsLaw_144 : decode cX11_readsLaw 144 = .ok (.iconst 3, 1) := by decide +kernel
theorem dX11_readsLaw_145 : decode cX11_readsLaw 145 = .ok (.aload_n 0, 1) := by decide +kernel
theorem dX11_readsLaw_146 : decode cX11_readsLaw 146 = .ok (.getfield 112, 3) := by decide +kernel
theorem dX11_readsLaw_149 : decode cX11_readsLaw 149 = .ok (.imul, 1) := by decide +kernel
theorem dX11_readsLaw_150 : decode cX11_readsLaw 150 = .ok (.iconst 1, 1) := by decide +kernel
theorem dX11_readsLaw_151 : decode cX11_readsLaw 151 = .ok (.iadd, 1) := by decide +kernel
theorem dX11_readsLaw_152 : decode cX11_readsLaw 152 = .ok (.iload 4, 2) := by decide +kernel
theorem dX11_readsLaw_154 : decode cX11_readsLaw 154 = .ok (.bipush 43, 2) := by decide +kernel
theorem dX11_readsLaw_156 : decode cX11_readsLaw 156 = .ok (.if_icmp .ne 7, 3) := by decide +kernel
theorem dX11_readsLaw_159 : decode cX11_readsLaw 159 = .ok (.iconst 1, 1) := by decide +kernel
theorem dX11_readsLaw_160 : decode cX11_readsLaw 160 = .ok (.goto 4, 3) := by decide +kernel
theorem dX11_readsLaw_163 : decode cX11_readsLaw 163 = .ok (.iconst 0, 1) := by decide +kernel
theorem dX11_readsLaw_164 : decode cX11_readsLaw 164 = .ok (.iastore, 1) := by decide +kernel
theorem dX11_readsLaw_165 : decode cX11_readsLaw 165 = .ok (.aload_n 0, 1) := by decide +kernel
theorem dX11_readsLaw_166 : decode cX11_readsLaw 166 = .ok (.getfield 28, 3) := by decide +kernel
theorem dX11_readsLaw_169 : decode cX11_readsLaw 169 = .ok (.iconst 3, 1) := by decide +kernel
theorem dX11_readsLaw_170 : decode cX11_readsLaw 170 = .ok (.aload_n 0, 1) := by decide +kernel
theorem dX11_readsLaw_171 : decode cX11_readsLaw 171 = .ok (.getfield 112, 3) := by decide +kernel
theorem dX11_readsLaw_174 : decode cX11_readsLaw 174 = .ok (.imul, 1) := by decide +kernel
theorem dX11_readsLaw_175 : decode cX11_readsLaw 175 = .ok (.iconst 2, 1) := by decide +kernel
theorem dX11_readsLaw_176 : decode cX11_readsLaw 176 = .ok (.iadd, 1) := by decide +kernel
theorem dX11_readsLaw_177 : decode cX11_readsLaw 177 = .ok (.iload 5, 2) := by decide +kernel
theorem dX11_readsLaw_179 : decode cX11_readsLaw 179 = .ok (.iastore, 1) := by decide +kernel
theorem dX11_readsLaw_180 : decode cX11_readsLaw 180 = .ok (.aload_n 0, 1) := by decide +kernel
theorem dX11_readsLaw_181 : decode cX11_readsLaw 181 = .ok (.dup, 1) := by decide +kernel
theorem dX11_readsLaw_182 : decode cX11_readsLaw 182 = .ok (.getfield 112, 3) := by decide +kernel
theorem dX11_readsLaw_185 : decode cX11_readsLaw 185 = .ok (.iconst 1, 1) := by decide +kernel
theorem dX11_readsLaw_186 : decode cX11_readsLaw 186 = .ok (.iadd, 1) := by decide +kernel
theorem dX11_readsLaw_187 : decode cX11_readsLaw 187 = .ok (.putfield 112, 3) := by decide +kernel
theorem dX11_readsLaw_190 : decode cX11_readsLaw 190 = .ok (.iconst 1, 1) := by decide +kernel
theorem dX11_readsLaw_191 : decode cX11_readsLaw 191 = .ok (.ireturn, 1) := by decide +kernel
theorem dX11_readsLaws_0 : decode cX11_readsLaws 0 = .ok (.aload_n 0, 1) := by decide +kernel
theorem dX11_readsLaws_1 : decode cX11_readsLaws 1 = .ok (.iconst 0, 1) := by decide +kernel
theorem dX11_readsLaws_2 : decode cX11_readsLaws 2 = .ok (.putfield 95, 3) := by decide +kernel
theorem dX11_readsLaws_5 : decode cX11_readsLaws 5 = .ok (.aload_n 0, 1) := by decide +kernel
theorem dX11_readsLaws_6 : decode cX11_readsLaws 6 = .ok (.iconst 0, 1) := by decide +kernel
theorem dX11_readsLaws_7 : decode cX11_readsLaws 7 = .ok (.putfield 112, 3) := by decide +kernel
theorem dX11_readsLaws_10 : decode cX11_readsLaws 10 = .ok (.aload_n 0, 1) := by decide +kernel
theorem dX11_readsLaws_11 : decode cX11_readsLaws 11 = .ok (.getfield 25, 3) := by decide +kernel
theorem dX11_readsLaws_14 : decode cX11_readsLaws 14 = .ok (.iconst 0, 1) := by decide +kernel
theorem dX11_readsLaws_15 : decode cX11_readsLaws 15 = .ok (.iaload, 1) := by decide +kernel
theorem dX11_readsLaws_16 : decode cX11_readsLaws 16 = .ok (.ifCond .le 7, 3) := by decide +kernel
theorem dX11_readsLaws_19 : decode cX11_readsLaws 19 = .ok (.iconst 1, 1) := by decide +kernel
theorem dX11_readsLaws_20 : decode cX11_readsLaws 20 = .ok (.goto 4, 3) := by decide +kernel
theorem dX11_readsLaws_23 : decode cX11_readsLaws 23 = .ok (.iconst 0, 1) := by decide +kernel
theorem dX11_readsLaws_24 : decode cX11_readsLaws 24 = .ok (.istore_n 1, 1) := by decide +kernel
theorem dX11_readsLaws_25 : decode cX11_readsLaws 25 = .ok (.iload_n 1, 1) := by decide +kernel
theorem dX11_readsLaws_26 : decode cX11_readsLaws 26 = .ok (.ifCond .eq 80, 3) := by decide +kernel
theorem dX11_readsLaws_29 : decode cX11_readsLaws 29 = .ok (.aload_n 0, 1) := by decide +kernel
theorem dX11_readsLaws_30 : decode cX11_readsLaws 30 = .ok (.invokevirtual 118, 3) := by decide +kernel
theorem dX11_readsLaws_33 : decode cX11_readsLaws 33 = .ok (.istore_n 2, 1) := by decide +kernel
theorem dX11_readsLaws_34 : decode cX11_readsLaws 34 = .ok (.iload_n 2, 1) := by decide +kernel
theorem dX11_readsLaws_35 : decode cX11_readsLaws 35 = .ok (.ifCond .eq 20, 3) := by decide +kernel
theorem dX11_readsLaws_38 : decode cX11_readsLaws 38 = .ok (.aload_n 0, 1) := by decide +kernel
theorem dX11_readsLaws_39 : decode cX11_readsLaws 39 = .ok (.getfield 95, 3) := by decide +kernel
theorem dX11_readsLaws_42 : decode cX11_readsLaws 42 = .ok (.aload_n 0, 1) := by decide +kernel
theorem dX11_readsLaws_43 : decode cX11_readsLaws 43 = .ok (.getfield 25, 3) := by decide +kernel
theorem dX11_readsLaws_46 : decode cX11_readsLaws 46 = .ok (.iconst 0, 1) := by decide +kernel
theorem dX11_readsLaws_47 : decode cX11_readsLaws 47 = .ok (.iaload, 1) := by decide +kernel
theorem dX11_readsLaws_48 : decode cX11_readsLaws 48 = .ok (.if_icmp .ge 7, 3) := by decide +kernel
theorem dX11_readsLaws_51 : decode cX11_readsLaws 51 = .ok (.iconst 1, 1) := by decide +kernel
theorem dX11_readsLaws_52 : decode cX11_readsLaws 52 = .ok (.goto 4, 3) := by decide +kernel
theorem dX11_readsLaws_55 : decode cX11_readsLaws 55 = .ok (.iconst 0, 1) := by decide +kernel
theorem dX11_readsLaws_56 : decode cX11_readsLaws 56 = .ok (.istore_n 1, 1) := by decide +kernel
theorem dX11_readsLaws_57 : decode cX11_readsLaws 57 = .ok (.iload_n 2, 1) := by decide +kernel
theorem dX11_readsLaws_58 : decode cX11_readsLaws 58 = .ok (.ifCond .eq 17, 3) := by decide +kernel
theorem dX11_readsLaws_61 : decode cX11_readsLaws 61 = .ok (.iload_n 1, 1) := by decide +kernel
theorem dX11_readsLaws_62 : decode cX11_readsLaws 62 = .ok (.ifCond .eq 23, 3) := by decide +kernel
theorem dX11_readsLaws_65 : decode cX11_readsLaws 65 = .ok (.aload_n 0, 1) := by decide +kernel
theorem dX11_readsLaws_66 : decode cX11_readsLaws 66 = .ok (.iconst 0, 1) := by decide +kernel
theorem dX11_readsLaws_67 : decode cX11_readsLaws 67 = .ok (.invokevirtual 98, 3) := by decide +kernel
theorem dX11_readsLaws_70 : decode cX11_readsLaws 70 = .ok (.bipush 59, 2) := by decide +kernel
theorem dX11_readsLaws_72 : decode cX11_readsLaws 72 = .ok (.if_icmp .eq 13, 3) := by decide +kernel
theorem dX11_readsLaws_75 : decode cX11_readsLaws 75 = .ok (.aload_n 0, 1) := by decide +kernel
theorem dX11_readsLaws_76 : decode cX11_readsLaws 76 = .ok (.iconst 0, 1) := by decide +kernel
theorem dX11_readsLaws_77 : decode cX11_readsLaws 77 = .ok (.putfield 112, 3) := by decide +kernel
theorem dX11_readsLaws_80 : decode cX11_readsLaws 80 = .ok (.aload_n 0, 1) := by decide +kernel
theorem dX11_readsLaws_81 : decode cX11_readsLaws 81 = .ok (.getfield 95, 3) := by decide +kernel
theorem dX11_readsLaws_84 : decode cX11_readsLaws 84 = .ok (.ireturn, 1) := by decide +kernel
theorem dX11_readsLaws_85 : decode cX11_readsLaws 85 = .ok (.aload_n 0, 1) := by decide +kernel
theorem dX11_readsLaws_86 : decode cX11_readsLaws 86 = .ok (.dup, 1) := by decide +kernel
theorem dX11_readsLaws_87 : decode cX11_readsLaws 87 = .ok (.getfield 95, 3) := by decide +kernel
theorem dX11_readsLaws_90 : decode cX11_readsLaws 90 = .ok (.iload_n 1, 1) := by decide +kernel
theorem dX11_readsLaws_91 : decode cX11_readsLaws 91 = .ok (.ifCond .eq 7, 3) := by decide +kernel
theorem dX11_readsLaws_94 : decode cX11_readsLaws 94 = .ok (.iconst 1, 1) := by decide +kernel
theorem dX11_readsLaws_95 : decode cX11_readsLaws 95 = .ok (.goto 4, 3) := by decide +kernel
theorem dX11_readsLaws_98 : decode cX11_readsLaws 98 = .ok (.iconst 0, 1) := by decide +kernel
theorem dX11_readsLaws_99 : decode cX11_readsLaws 99 = .ok (.iadd, 1) := by decide +kernel
theorem dX11_readsLaws_100 : decode cX11_readsLaws 100 = .ok (.putfield 95, 3) := by decide +kernel
theorem dX11_readsLaws_103 : decode cX11_readsLaws 103 = .ok (.goto (-78), 3) := by decide +kernel
theorem dX11_readsLaws_106 : decode cX11_readsLaws 106 = .ok (.iconst (-1), 1) := by decide +kernel
theorem dX11_readsLaws_107 : decode cX11_readsLaws 107 = .ok (.ireturn, 1) := by decide +kernel
theorem dX11_readsOneDust_0 : decode cX11_readsOneDust 0 = .ok (.aload_n 0, 1) := by decide +kernel
theorem dX11_readsOneDust_1 : decode cX11_readsOneDust 1 = .ok (.iconst 1, 1) := by decide +kernel
theorem dX11_readsOneDust_2 : decode cX11_readsOneDust 2 = .ok (.invokevirtual 115, 3) := by decide +kernel
theorem dX11_readsOneDust_5 : decode cX11_readsOneDust 5 = .ok (.istore_n 1, 1) := by decide +kernel
theorem dX11_readsOneDust_6 : decode cX11_readsOneDust 6 = .ok (.aload_n 0, 1) := by decide +kernel
theorem dX11_readsOneDust_7 : decode cX11_readsOneDust 7 = .ok (.getfield 122, 3) := by decide +kernel
theorem dX11_readsOneDust_10 : decode cX11_readsOneDust 10 = .ok (.bipush 12, 2) := by decide +kernel
theorem dX11_readsOneDust_12 : decode cX11_readsOneDust 12 = .ok (.if_icmp .eq 8, 3) := by decide +kernel
theorem dX11_readsOneDust_15 : decode cX11_readsOneDust 15 = .ok (.iload_n 1, 1) := by decide +kernel
theorem dX11_readsOneDust_16 : decode cX11_readsOneDust 16 = .ok (.iconst (-1), 1) := by decide +kernel
theorem dX11_readsOneDust_17 : decode cX11_readsOneDust 17 = .ok (.if_icmp .ne 5, 3) := by decide +kernel
theorem dX11_readsOneDust_20 : decode cX11_readsOneDust 20 = .ok (.iconst 0, 1) := by decide +kernel
theorem dX11_readsOneDust_21 : decode cX11_readsOneDust 21 = .ok (.ireturn, 1) := by decide +kernel
theorem dX11_readsOneDust_22 : decode cX11_readsOneDust 22 = .ok (.aload_n 0, 1) := by decide +kernel
theorem dX11_readsOneDust_23 : decode cX11_readsOneDust 23 = .ok (.dup, 1) := by decide +kernel
theorem dX11_readsOneDust_24 : decode cX11_readsOneDust 24 = .ok (.getfield 95, 3) := by decide +kernel
theorem dX11_readsOneDust_27 : decode cX11_readsOneDust 27 = .ok (.iconst 1, 1) := by decide +kernel
theorem dX11_readsOneDust_28 : decode cX11_readsOneDust 28 = .ok (.iadd, 1) := by decide +kernel
theorem dX11_readsOneDust_29 : decode cX11_readsOneDust 29 = .ok (.putfield 95, 3) := by decide +kernel
theorem dX11_readsOneDust_32 : decode cX11_readsOneDust 32 = .ok (.aload_n 0, 1) := by decide +kernel
theorem dX11_readsOneDust_33 : decode cX11_readsOneDust 33 = .ok (.iconst 1, 1) := by decide +kernel
theorem dX11_readsOneDust_34 : decode cX11_readsOneDust 34 = .ok (.invokevirtual 109, 3) := by decide +kernel
theorem dX11_readsOneDust_37 : decode cX11_readsOneDust 37 = .ok (.istore_n 2, 1) := by decide +kernel
theorem dX11_readsOneDust_38 : decode cX11_readsOneDust 38 = .ok (.iload_n 2, 1) := by decide +kernel
theorem dX11_readsOneDust_39 : decode cX11_readsOneDust 39 = .ok (.iconst (-1), 1) := by decide +kernel
theorem dX11_readsOneDust_40 : decode cX11_readsOneDust 40 = .ok (.if_icmp .ne 5, 3) := by decide +kernel
theorem dX11_readsOneDust_43 : decode cX11_readsOneDust 43 = .ok (.iconst 0, 1) := by decide +kernel
theorem dX11_readsOneDust_44 : decode cX11_readsOneDust 44 = .ok (.ireturn, 1) := by decide +kernel
theorem dX11_readsOneDust_45 : decode cX11_readsOneDust 45 = .ok (.aload_n 0, 1) := by decide +kernel
theorem dX11_readsOneDust_46 : decode cX11_readsOneDust 46 = .ok (.dup, 1) := by decide +kernel
theorem dX11_readsOneDust_47 : decode cX11_readsOneDust 47 = .ok (.getfield 95, 3) := by decide +kernel
theorem dX11_readsOneDust_50 : decode cX11_readsOneDust 50 = .ok (.iconst 1, 1) := by decide +kernel
theorem dX11_readsOneDust_51 : decode cX11_readsOneDust 51 = .ok (.iadd, 1) := by decide +kernel
theorem dX11_readsOneDust_52 : decode cX11_readsOneDust 52 = .ok (.putfield 95, 3) := by decide +kernel
theorem dX11_readsOneDust_55 : decode cX11_readsOneDust 55 = .ok (.aload_n 0, 1) := by decide +kernel
theorem dX11_readsOneDust_56 : decode cX11_readsOneDust 56 = .ok (.getfield 31, 3) := by decide +kernel
theorem dX11_readsOneDust_59 : decode cX11_readsOneDust 59 = .ok (.iconst 2, 1) := by decide +kernel
theorem dX11_readsOneDust_60 : decode cX11_readsOneDust 60 = .ok (.aload_n 0, 1) := by decide +kernel
theorem dX11_readsOneDust_61 : decode cX11_readsOneDust 61 = .ok (.getfield 122, 3) := by decide +kernel
theorem dX11_readsOneDust_64 : decode cX11_readsOneDust 64 = .ok (.imul, 1) := by decide +kernel
theorem dX11_readsOneDust_65 : decode cX11_readsOneDust 65 = .ok (.iload_n 1, 1) := by decide +kernel
theorem dX11_readsOneDust_66 : decode cX11_readsOneDust 66 = .ok (.iastore, 1) := by decide +kernel
theorem dX11_readsOneDust_67 : decode cX11_readsOneDust 67 = .ok (.aload_n 0, 1) := by decide +kernel
theorem dX11_readsOneDust_68 : decode cX11_readsOneDust 68 = .ok (.getfield 31, 3) := by decide +kernel
theorem dX11_readsOneDust_71 : decode cX11_readsOneDust 71 = .ok (.iconst 2, 1) := by decide +kernel
theorem dX11_readsOneDust_72 : decode cX11_readsOneDust 72 = .ok (.aload_n 0, 1) := by decide +kernel
theorem dX11_readsOneDust_73 : decode cX11_readsOneDust 73 = .ok (.getfield 122, 3) := by decide +kernel
theorem dX11_readsOneDust_76 : decode cX11_readsOneDust 76 = .ok (.imul, 1) := by decide +kernel
theorem dX11_readsOneDust_77 : decode cX11_readsOneDust 77 = .ok (.iconst 1, 1) := by decide +kernel
theorem dX11_readsOneDust_78 : decode cX11_readsOneDust 78 = .ok (.iadd, 1) := by decide +kernel
theorem dX11_readsOneDust_79 : decode cX11_readsOneDust 79 = .ok (.iload_n 2, 1) := by decide +kernel
theorem dX11_readsOneDust_80 : decode cX11_readsOneDust 80 = .ok (.iastore, 1) := by decide +kernel
theorem dX11_readsOneDust_81 : decode cX11_readsOneDust 81 = .ok (.aload_n 0, 1) := by decide +kernel
theorem dX11_readsOneDust_82 : decode cX11_readsOneDust 82 = .ok (.dup, 1) := by decide +kernel
theorem dX11_readsOneDust_83 : decode cX11_readsOneDust 83 = .ok (.getfield 122, 3) := by decide +kernel
theorem dX11_readsOneDust_86 : decode cX11_readsOneDust 86 = .ok (.iconst 1, 1) := by decide +kernel
theorem dX11_readsOneDust_87 : decode cX11_readsOneDust 87 = .ok (.iadd, 1) := by decide +kernel
theorem dX11_readsOneDust_88 : decode cX11_readsOneDust 88 = .ok (.putfield 122, 3) := by decide +kernel
theorem dX11_readsOneDust_91 : decode cX11_readsOneDust 91 = .ok (.iconst 1, 1) := by decide +kernel
theorem dX11_readsOneDust_92 : decode cX11_readsOneDust 92 = .ok (.ireturn, 1) := by decide +kernel
theorem dX11_readsDust_0 : decode cX11_readsDust 0 = .ok (.aload_n 0, 1) := by decide +kernel
theorem dX11_readsDust_1 : decode cX11_readsDust 1 = .ok (.iconst 0, 1) := by decide +kernel
theorem dX11_readsDust_2 : decode cX11_readsDust 2 = .ok (.putfield 95, 3) := by decide +kernel
theorem dX11_readsDust_5 : decode cX11_readsDust 5 = .ok (.aload_n 0, 1) := by decide +kernel
theorem dX11_readsDust_6 : decode cX11_readsDust 6 = .ok (.iconst 0, 1) := by decide +kernel
theorem dX11_readsDust_7 : decode cX11_readsDust 7 = .ok (.putfield 122, 3) := by decide +kernel
theorem dX11_readsDust_10 : decode cX11_readsDust 10 = .ok (.aload_n 0, 1) := by decide +kernel
theorem dX11_readsDust_11 : decode cX11_readsDust 11 = .ok (.getfield 25, 3) := by decide +kernel
theorem dX11_readsDust_14 : decode cX11_readsDust 14 = .ok (.iconst 1, 1) := by decide +kernel
theorem dX11_readsDust_15 : decode cX11_readsDust 15 = .ok (.iaload, 1) := by decide +kernel
theorem dX11_readsDust_16 : decode cX11_readsDust 16 = .ok (.ifCond .le 7, 3) := by decide +kernel
theorem dX11_readsDust_19 : decode cX11_readsDust 19 = .ok (.iconst 1, 1) := by decide +kernel
theorem dX11_readsDust_20 : decode cX11_readsDust 20 = .ok (.goto 4, 3) := by decide +kernel
theorem dX11_readsDust_23 : decode cX11_readsDust 23 = .ok (.iconst 0, 1) := by decide +kernel
theorem dX11_readsDust_24 : decode cX11_readsDust 24 = .ok (.istore_n 1, 1) := by decide +kernel
theorem dX11_readsDust_25 : decode cX11_readsDust 25 = .ok (.iload_n 1, 1) := by decide +kernel
theorem dX11_readsDust_26 : decode cX11_readsDust 26 = .ok (.ifCond .eq 80, 3) := by decide +kernel
theorem dX11_readsDust_29 : decode cX11_readsDust 29 = .ok (.aload_n 0, 1) := by decide +kernel
theorem dX11_readsDust_30 : decode cX11_readsDust 30 = .ok (.invokevirtual 125, 3) := by decide +kernel
theorem dX11_readsDust_33 : decode cX11_readsDust 33 = .ok (.istore_n 2, 1) := by decide +kernel
theorem dX11_readsDust_34 : decode cX11_readsDust 34 = .ok (.iload_n 2, 1) := by decide +kernel
theorem dX11_readsDust_35 : decode cX11_readsDust 35 = .ok (.ifCond .eq 20, 3) := by decide +kernel
theorem dX11_readsDust_38 : decode cX11_readsDust 38 = .ok (.aload_n 0, 1) := by decide +kernel
theorem dX11_readsDust_39 : decode cX11_readsDust 39 = .ok (.getfield 95, 3) := by decide +kernel
theorem dX11_readsDust_42 : decode cX11_readsDust 42 = .ok (.aload_n 0, 1) := by decide +kernel
theorem dX11_readsDust_43 : decode cX11_readsDust 43 = .ok (.getfield 25, 3) := by decide +kernel
theorem dX11_readsDust_46 : decode cX11_readsDust 46 = .ok (.iconst 1, 1) := by decide +kernel
theorem dX11_readsDust_47 : decode cX11_readsDust 47 = .ok (.iaload, 1) := by decide +kernel
theorem dX11_readsDust_48 : decode cX11_readsDust 48 = .ok (.if_icmp .ge 7, 3) := by decide +kernel
theorem dX11_readsDust_51 : decode cX11_readsDust 51 = .ok (.iconst 1, 1) := by decide +kernel
theorem dX11_readsDust_52 : decode cX11_readsDust 52 = .ok (.goto 4, 3) := by decide +kernel
theorem dX11_readsDust_55 : decode cX11_readsDust 55 = .ok (.iconst 0, 1) := by decide +kernel
theorem dX11_readsDust_56 : decode cX11_readsDust 56 = .ok (.istore_n 1, 1) := by decide +kernel
theorem dX11_readsDust_57 : decode cX11_readsDust 57 = .ok (.iload_n 2, 1) := by decide +kernel
theorem dX11_readsDust_58 : decode cX11_readsDust 58 = .ok (.ifCond .eq 17, 3) := by decide +kernel
theorem dX11_readsDust_61 : decode cX11_readsDust 61 = .ok (.iload_n 1, 1) := by decide +kernel
theorem dX11_readsDust_62 : decode cX11_readsDust 62 = .ok (.ifCond .eq 23, 3) := by decide +kernel
theorem dX11_readsDust_65 : decode cX11_readsDust 65 = .ok (.aload_n 0, 1) := by decide +kernel
theorem dX11_readsDust_66 : decode cX11_readsDust 66 = .ok (.iconst 1, 1) := by decide +kernel
theorem dX11_readsDust_67 : decode cX11_readsDust 67 = .ok (.invokevirtual 98, 3) := by decide +kernel
theorem dX11_readsDust_70 : decode cX11_readsDust 70 = .ok (.bipush 59, 2) := by decide +kernel
theorem dX11_readsDust_72 : decode cX11_readsDust 72 = .ok (.if_icmp .eq 13, 3) := by decide +kernel
theorem dX11_readsDust_75 : decode cX11_readsDust 75 = .ok (.aload_n 0, 1) := by decide +kernel
theorem dX11_readsDust_76 : decode cX11_readsDust 76 = .ok (.iconst 0, 1) := by decide +kernel
theorem dX11_readsDust_77 : decode cX11_readsDust 77 = .ok (.putfield 122, 3) := by decide +kernel
theorem dX11_readsDust_80 : decode cX11_readsDust 80 = .ok (.aload_n 0, 1) := by decide +kernel
theorem dX11_readsDust_81 : decode cX11_readsDust 81 = .ok (.getfield 95, 3) := by decide +kernel
theorem dX11_readsDust_84 : decode cX11_readsDust 84 = .ok (.ireturn, 1) := by decide +kernel
theorem dX11_readsDust_85 : decode cX11_readsDust 85 = .ok (.aload_n 0, 1) := by decide +kernel
theorem dX11_readsDust_86 : decode cX11_readsDust 86 = .ok (.dup, 1) := by decide +kernel
theorem dX11_readsDust_87 : decode cX11_readsDust 87 = .ok (.getfield 95, 3) := by decide +kernel
theorem dX11_readsDust_90 : decode cX11_readsDust 90 = .ok (.iload_n 1, 1) := by decide +kernel
theorem dX11_readsDust_91 : decode cX11_readsDust 91 = .ok (.ifCond .eq 7, 3) := by decide +kernel
theorem dX11_readsDust_94 : decode cX11_readsDust 94 = .ok (.iconst 1, 1) := by decide +kernel
theorem dX11_readsDust_95 : decode cX11_readsDust 95 = .ok (.goto 4, 3) := by decide +kernel
theorem dX11_readsDust_98 : decode cX11_readsDust 98 = .ok (.iconst 0, 1) := by decide +kernel
theorem dX11_readsDust_99 : decode cX11_readsDust 99 = .ok (.iadd, 1) := by decide +kernel
theorem dX11_readsDust_100 : decode cX11_readsDust 100 = .ok (.putfield 95, 3) := by decide +kernel
theorem dX11_readsDust_103 : decode cX11_readsDust 103 = .ok (.goto (-78), 3) := by decide +kernel
theorem dX11_readsDust_106 : decode cX11_readsDust 106 = .ok (.iconst (-1), 1) := by decide +kernel
theorem dX11_readsDust_107 : decode cX11_readsDust 107 = .ok (.ireturn, 1) := by decide +kernel
theorem dX11_holds_0 : decode cX11_holds 0 = .ok (.aload_n 0, 1) := by decide +kernel
theorem dX11_holds_1 : decode cX11_holds 1 = .ok (.getfield 28, 3) := by decide +kernel
theorem dX11_holds_4 : decode cX11_holds 4 = .ok (.iconst 3, 1) := by decide +kernel
theorem dX11_holds_5 : decode cX11_holds 5 = .ok (.iload_n 1, 1) := by decide +kernel
theorem dX11_holds_6 : decode cX11_holds 6 = .ok (.imul, 1) := by decide +kernel
theorem dX11_holds_7 : decode cX11_holds 7 = .ok (.iaload, 1) := by decide +kernel
theorem dX11_holds_8 : decode cX11_holds 8 = .ok (.iload_n 2, 1) := by decide +kernel
theorem dX11_holds_9 : decode cX11_holds 9 = .ok (.iconst (-1), 1) := by decide +kernel
theorem dX11_holds_10 : decode cX11_holds 10 = .ok (.ixor, 1) := by decide +kernel
theorem dX11_holds_11 : decode cX11_holds 11 = .ok (.iand, 1) := by decide +kernel
theorem dX11_holds_12 : decode cX11_holds 12 = .ok (.ifCond .ne 7, 3) := by decide +kernel
theorem dX11_holds_15 : decode cX11_holds 15 = .ok (.iconst 1, 1) := by decide +kernel
theorem dX11_holds_16 : decode cX11_holds 16 = .ok (.goto 4, 3) := by decide +kernel
theorem dX11_holds_19 : decode cX11_holds 19 = .ok (.iconst 0, 1) := by decide +kernel
theorem dX11_holds_20 : decode cX11_holds 20 = .ok (.ireturn, 1) := by decide +kernel
theorem dX11_heldBy_0 : decode cX11_heldBy 0 = .ok (.iconst 0, 1) := by decide +kernel
theorem dX11_heldBy_1 : decode cX11_heldBy 1 = .ok (.istore_n 3, 1) := by decide +kernel
theorem dX11_heldBy_2 : decode cX11_heldBy 2 = .ok (.iconst 0, 1) := by decide +kernel
theorem dX11_heldBy_3 : decode cX11_heldBy 3 = .ok (.istore 4, 2) := by decide +kernel
theorem dX11_heldBy_5 : decode cX11_heldBy 5 = .ok (.iload 4, 2) := by decide +kernel
theorem dX11_heldBy_7 : decode cX11_heldBy 7 = .ok (.aload_n 0, 1) := by decide +kernel
theorem dX11_heldBy_8 : decode cX11_heldBy 8 = .ok (.getfield 112, 3) := by decide +kernel
theorem dX11_heldBy_11 : decode cX11_heldBy 11 = .ok (.if_icmp .ge 54, 3) := by decide +kernel
theorem dX11_heldBy_14 : decode cX11_heldBy 14 = .ok (.iload_n 3, 1) := by decide +kernel
theorem dX11_heldBy_15 : decode cX11_heldBy 15 = .ok (.aload_n 0, 1) := by decide +kernel
theorem dX11_heldBy_16 : decode cX11_heldBy 16 = .ok (.getfield 28, 3) := by decide +kernel
theorem dX11_heldBy_19 : decode cX11_heldBy 19 = .ok (.iconst 3, 1) := by decide +kernel
theorem dX11_heldBy_20 : decode cX11_heldBy 20 = .ok (.iload 4, 2) := by decide +kernel
theorem dX11_heldBy_22 : decode cX11_heldBy 22 = .ok (.imul, 1) := by decide +kernel
theorem dX11_heldBy_23 : decode cX11_heldBy 23 = .ok (.iconst 1, 1) := by decide +kernel
theorem dX11_heldBy_24 : decode cX11_heldBy 24 = .ok (.iadd, 1) := by decide +kernel
theorem dX11_heldBy_25 : decode cX11_heldBy 25 = .ok (.iaload, 1) := by decide +kernel
theorem dX11_heldBy_26 : decode cX11_heldBy 26 = .ok (.iload_n 2, 1) := by decide +kernel
theorem dX11_heldBy_27 : decode cX11_heldBy 27 = .ok (.if_icmp .ne 29, 3) := by decide +kernel
theorem dX11_heldBy_30 : decode cX11_heldBy 30 = .ok (.aload_n 0, 1) := by decide +kernel
theorem dX11_heldBy_31 : decode cX11_heldBy 31 = .ok (.iload 4, 2) := by decide +kernel
theorem dX11_heldBy_33 : decode cX11_heldBy 33 = .ok (.iload_n 1, 1) := by decide +kernel
theorem dX11_heldBy_34 : decode cX11_heldBy 34 = .ok (.invokevirtual 128, 3) := by decide +kernel
theorem dX11_heldBy_37 : decode cX11_heldBy 37 = .ok (.ifCond .eq 19, 3) := by decide +kernel
theorem dX11_heldBy_40 : decode cX11_heldBy 40 = .ok (.iconst 1, 1) := by decide +kernel
theorem dX11_heldBy_41 : decode cX11_heldBy 41 = .ok (.aload_n 0, 1) := by decide +kernel
theorem dX11_heldBy_42 : decode cX11_heldBy 42 = .ok (.getfield 28, 3) := by decide +kernel
theorem dX11_heldBy_45 : decode cX11_heldBy 45 = .ok (.iconst 3, 1) := by decide +kernel
theorem dX11_heldBy_46 : decode cX11_heldBy 46 = .ok (.iload 4, 2) := by decide +kernel
theorem dX11_heldBy_48 : decode cX11_heldBy 48 = .ok (.imul, 1) := by decide +kernel
theorem dX11_heldBy_49 : decode cX11_heldBy 49 = .ok (.iconst 2, 1) := by decide +kernel
theorem dX11_heldBy_50 : decode cX11_heldBy 50 = .ok (.iadd, 1) := by decide +kernel
theorem dX11_heldBy_51 : decode cX11_heldBy 51 = .ok (.iaload, 1) := by decide +kernel
theorem dX11_heldBy_52 : decode cX11_heldBy 52 = .ok (.ishl, 1) := by decide +kernel
theorem dX11_heldBy_53 : decode cX11_heldBy 53 = .ok (.goto 4, 3) := by decide +kernel
theorem dX11_heldBy_56 : decode cX11_heldBy 56 = .ok (.iconst 0, 1) := by decide +kernel
theorem dX11_heldBy_57 : decode cX11_heldBy 57 = .ok (.ior, 1) := by decide +kernel
theorem dX11_heldBy_58 : decode cX11_heldBy 58 = .ok (.istore_n 3, 1) := by decide +kernel
theorem dX11_heldBy_59 : decode cX11_heldBy 59 = .ok (.iinc 4 1, 3) := by decide +kernel
theorem dX11_heldBy_62 : decode cX11_heldBy 62 = .ok (.goto (-57), 3) := by decide +kernel
theorem dX11_heldBy_65 : decode cX11_heldBy 65 = .ok (.iload_n 3, 1) := by decide +kernel
theorem dX11_heldBy_66 : decode cX11_heldBy 66 = .ok (.ireturn, 1) := by decide +kernel
theorem dX11_reads_0 : decode cX11_reads 0 = .ok (.aload_n 0, 1) := by decide +kernel
theorem dX11_reads_1 : decode cX11_reads 1 = .ok (.invokevirtual 132, 3) := by decide +kernel
theorem dX11_reads_4 : decode cX11_reads 4 = .ok (.pop, 1) := by decide +kernel
theorem dX11_reads_5 : decode cX11_reads 5 = .ok (.aload_n 0, 1) := by decide +kernel
theorem dX11_reads_6 : decode cX11_reads 6 = .ok (.invokevirtual 136, 3) := by decide +kernel
theorem dX11_reads_9 : decode cX11_reads 9 = .ok (.pop, 1) := by decide +kernel
theorem dX11_reads_10 : decode cX11_reads 10 = .ok (.iconst 0, 1) := by decide +kernel
theorem dX11_reads_11 : decode cX11_reads 11 = .ok (.istore_n 1, 1) := by decide +kernel
theorem dX11_reads_12 : decode cX11_reads 12 = .ok (.iload_n 1, 1) := by decide +kernel
theorem dX11_reads_13 : decode cX11_reads 13 = .ok (.sipush 256, 3) := by decide +kernel
theorem dX11_reads_16 : decode cX11_reads 16 = .ok (.if_icmp .ge 93, 3) := by decide +kernel
theorem dX11_reads_19 : decode cX11_reads 19 = .ok (.aload_n 0, 1) := by decide +kernel
theorem dX11_reads_20 : decode cX11_reads 20 = .ok (.getfield 34, 3) := by decide +kernel
theorem dX11_reads_23 : decode cX11_reads 23 = .ok (.iload_n 1, 1) := by decide +kernel
theorem dX11_reads_24 : decode cX11_reads 24 = .ok (.aload_n 0, 1) := by decide +kernel
theorem dX11_reads_25 : decode cX11_reads 25 = .ok (.iload_n 1, 1) := by decide +kernel
theorem dX11_reads_26 : decode cX11_reads 26 = .ok (.iconst 1, 1) := by decide +kernel
theorem dX11_reads_27 : decode cX11_reads 27 = .ok (.invokevirtual 139, 3) := by decide +kernel
theorem dX11_reads_30 : decode cX11_reads 30 = .ok (.aload_n 0, 1) := by decide +kernel
theorem dX11_reads_31 : decode cX11_reads 31 = .ok (.iload_n 1, 1) := by decide +kernel
theorem dX11_reads_32 : decode cX11_reads 32 = .ok (.iconst 0, 1) := by decide +kernel
theorem dX11_reads_33 : decode cX11_reads 33 = .ok (.invokevirtual 139, 3) := by decide +kernel
theorem dX11_reads_36 : decode cX11_reads 36 = .ok (.iconst (-1), 1) := by decide +kernel
theorem dX11_reads_37 : decode cX11_reads 37 = .ok (.ixor, 1) := by decide +kernel
theorem dX11_reads_38 : decode cX11_reads 38 = .ok (.iand, 1) := by decide +kernel
theorem dX11_reads_39 : decode cX11_reads 39 = .ok (.iastore, 1) := by decide +kernel
theorem dX11_reads_40 : decode cX11_reads 40 = .ok (.aload_n 0, 1) := by decide +kernel
theorem dX11_reads_41 : decode cX11_reads 41 = .ok (.getfield 37, 3) := by decide +kernel
theorem dX11_reads_44 : decode cX11_reads 44 = .ok (.iload_n 1, 1) := by decide +kernel
theorem dX11_reads_45 : decode cX11_reads 45 = .ok (.iconst 0, 1) := by decide +kernel
theorem dX11_reads_46 : decode cX11_reads 46 = .ok (.iastore, 1) := by decide +kernel
theorem dX11_reads_47 : decode cX11_reads 47 = .ok (.iconst 0, 1) := by decide +kernel
theorem dX11_reads_48 : decode cX11_reads 48 = .ok (.istore_n 2, 1) := by decide +kernel
theorem dX11_reads_49 : decode cX11_reads 49 = .ok (.iload_n 2, 1) := by decide +kernel
theorem dX11_reads_50 : decode cX11_reads 50 = .ok (.aload_n 0, 1) := by decide +kernel
theorem dX11_reads_51 : decode cX11_reads 51 = .ok (.getfield 122, 3) := by decide +kernel
theorem dX11_reads_54 : decode cX11_reads 54 = .ok (.if_icmp .ge 49, 3) := by decide +kernel
theorem dX11_reads_57 : decode cX11_reads 57 = .ok (.aload_n 0, 1) := by decide +kernel
theorem dX11_reads_58 : decode cX11_reads 58 = .ok (.getfield 37, 3) := by decide +kernel
theorem dX11_reads_61 : decode cX11_reads 61 = .ok (.iload_n 1, 1) := by decide +kernel
theorem dX11_reads_62 : decode cX11_reads 62 = .ok (.dup2, 1) := by decide +kernel
theorem dX11_reads_63 : decode cX11_reads 63 = .ok (.iaload, 1) := by decide +kernel
theorem dX11_reads_64 : decode cX11_reads 64 = .ok (.iload_n 1, 1) := by decide +kernel
theorem dX11_reads_65 : decode cX11_reads 65 = .ok (.aload_n 0, 1) := by decide +kernel
theorem dX11_reads_66 : decode cX11_reads 66 = .ok (.getfield 31, 3) := by decide +kernel
theorem dX11_reads_69 : decode cX11_reads 69 = .ok (.iconst 2, 1) := by decide +kernel
theorem dX11_reads_70 : decode cX11_reads 70 = .ok (.iload_n 2, 1) := by decide +kernel
theorem dX11_reads_71 : decode cX11_reads 71 = .ok (.imul, 1) := by decide +kernel
theorem dX11_reads_72 : decode cX11_reads 72 = .ok (.iaload, 1) := by decide +kernel
theorem dX11_reads_73 : decode cX11_reads 73 = .ok (.invokestatic 142, 3) := by decide +kernel
theorem dX11_reads_76 : decode cX11_reads 76 = .ok (.ifCond .eq 18, 3) := by decide +kernel
theorem dX11_reads_79 : decode cX11_reads 79 = .ok (.iconst 1, 1) := by decide +kernel
theorem dX11_reads_80 : decode cX11_reads 80 = .ok (.aload_n 0, 1) := by decide +kernel
theorem dX11_reads_81 : decode cX11_reads 81 = .ok (.getfield 31, 3) := by decide +kernel
theorem dX11_reads_84 : decode cX11_reads 84 = .ok (.iconst 2, 1) := by decide +kernel
theorem dX11_reads_85 : decode cX11_reads 85 = .ok (.iload_n 2, 1) := by decide +kernel
theorem dX11_reads_86 : decode cX11_reads 86 = .ok (.imul, 1) := by decide +kernel
theorem dX11_reads_87 : decode cX11_reads 87 = .ok (.iconst 1, 1) := by decide +kernel
theorem dX11_reads_88 : decode cX11_reads 88 = .ok (.iadd, 1) := by decide +kernel
theorem dX11_reads_89 : decode cX11_reads 89 = .ok (.iaload, 1) := by decide +kernel
theorem dX11_reads_90 : decode cX11_reads 90 = .ok (.ishl, 1) := by decide +kernel
theorem dX11_reads_91 : decode cX11_reads 91 = .ok (.goto 4, 3) := by decide +kernel
theorem dX11_reads_94 : decode cX11_reads 94 = .ok (.iconst 0, 1) := by decide +kernel
theorem dX11_reads_95 : decode cX11_reads 95 = .ok (.ior, 1) := by decide +kernel
theorem dX11_reads_96 : decode cX11_reads 96 = .ok (.iastore, 1) := by decide +kernel
theorem dX11_reads_97 : decode cX11_reads 97 = .ok (.iinc 2 1, 3) := by decide +kernel
theorem dX11_reads_100 : decode cX11_reads 100 = .ok (.goto (-51), 3) := by decide +kernel
theorem dX11_reads_103 : decode cX11_reads 103 = .ok (.iinc 1 1, 3) := by decide +kernel
theorem dX11_reads_106 : decode cX11_reads 106 = .ok (.goto (-94), 3) := by decide +kernel
theorem dX11_reads_109 : decode cX11_reads 109 = .ok (.return_, 1) := by decide +kernel
theorem dX11_fault_0 : decode cX11_fault 0 = .ok (.iload_n 1, 1) := by decide +kernel
theorem dX11_fault_1 : decode cX11_fault 1 = .ok (.invokestatic 90, 3) := by decide +kernel
theorem dX11_fault_4 : decode cX11_fault 4 = .ok (.ifCond .ne 8, 3) := by decide +kernel
theorem dX11_fault_7 : decode cX11_fault 7 = .ok (.bipush (-2), 2) := by decide +kernel
theorem dX11_fault_9 : decode cX11_fault 9 = .ok (.goto 18, 3) := by decide +kernel
theorem dX11_fault_12 : decode cX11_fault 12 = .ok (.iload_n 1, 1) := by decide +kernel
theorem dX11_fault_13 : decode cX11_fault 13 = .ok (.ifCond .ne 10, 3) := by decide +kernel
theorem dX11_fault_16 : decode cX11_fault 16 = .ok (.aload_n 0, 1) := by decide +kernel
theorem dX11_fault_17 : decode cX11_fault 17 = .ok (.invokevirtual 132, 3) := by decide +kernel
theorem dX11_fault_20 : decode cX11_fault 20 = .ok (.goto 7, 3) := by decide +kernel
theorem dX11_fault_23 : decode cX11_fault 23 = .ok (.aload_n 0, 1) := by decide +kernel
theorem dX11_fault_24 : decode cX11_fault 24 = .ok (.invokevirtual 136, 3) := by decide +kernel
theorem dX11_fault_27 : decode cX11_fault 27 = .ok (.ireturn, 1) := by decide +kernel
theorem dX11_rule_0 : decode cX11_rule 0 = .ok (.aload_n 0, 1) := by decide +kernel
theorem dX11_rule_1 : decode cX11_rule 1 = .ok (.invokevirtual 132, 3) := by decide +kernel
theorem dX11_rule_4 : decode cX11_rule 4 = .ok (.pop, 1) := by decide +kernel
theorem dX11_rule_5 : decode cX11_rule 5 = .ok (.iload_n 1, 1) := by decide +kernel
theorem dX11_rule_6 : decode cX11_rule 6 = .ok (.i2l, 1) := by decide +kernel
theorem dX11_rule_7 : decode cX11_rule 7 = .ok (.lconst 0, 1) := by decide +kernel
theorem dX11_rule_8 : decode cX11_rule 8 = .ok (.aload_n 0, 1) := by decide +kernel
theorem dX11_rule_9 : decode cX11_rule 9 = .ok (.getfield 112, 3) := by decide +kernel
theorem dX11_rule_12 : decode cX11_rule 12 = .ok (.iconst 1, 1) := by decide +kernel
theorem dX11_rule_13 : decode cX11_rule 13 = .ok (.isub, 1) := by decide +kernel
theorem dX11_rule_14 : decode cX11_rule 14 = .ok (.i2l, 1) := by decide +kernel
theorem dX11_rule_15 : decode cX11_rule 15 = .ok (.invokestatic 61, 3) := by decide +kernel
theorem dX11_rule_18 : decode cX11_rule 18 = .ok (.ifCond .eq 28, 3) := by decide +kernel
theorem dX11_rule_21 : decode cX11_rule 21 = .ok (.iload_n 2, 1) := by decide +kernel
theorem dX11_rule_22 : decode cX11_rule 22 = .ok (.i2l, 1) := by decide +kernel
theorem dX11_rule_23 : decode cX11_rule 23 = .ok (.lconst 0, 1) := by decide +kernel
theorem dX11_rule_24 : decode cX11_rule 24 = .ok (.ldc2_w 75, 3) := by decide +kernel
theorem dX11_rule_27 : decode cX11_rule 27 = .ok (.invokestatic 61, 3) := by decide +kernel
theorem dX11_rule_30 : decode cX11_rule 30 = .ok (.ifCond .eq 16, 3) := by decide +kernel
theorem dX11_rule_33 : decode cX11_rule 33 = .ok (.aload_n 0, 1) := by decide +kernel
theorem dX11_rule_34 : decode cX11_rule 34 = .ok (.getfield 28, 3) := by decide +kernel
theorem dX11_rule_37 : decode cX11_rule 37 = .ok (.iconst 3, 1) := by decide +kernel
theorem dX11_rule_38 : decode cX11_rule 38 = .ok (.iload_n 1, 1) := by decide +kernel
theorem dX11_rule_39 : decode cX11_rule 39 = .ok (.imul, 1) := by decide +kernel
theorem dX11_rule_40 : decode cX11_rule 40 = .ok (.iload_n 2, 1) := by decide +kernel
theorem dX11_rule_41 : decode cX11_rule 41 = .ok (.iadd, 1) := by decide +kernel
theorem dX11_rule_42 : decode cX11_rule 42 = .ok (.iaload, 1) := by decide +kernel
theorem dX11_rule_43 : decode cX11_rule 43 = .ok (.goto 5, 3) := by decide +kernel
theorem dX11_rule_46 : decode cX11_rule 46 = .ok (.bipush (-2), 2) := by decide +kernel
theorem dX11_rule_48 : decode cX11_rule 48 = .ok (.ireturn, 1) := by decide +kernel
theorem dX11_dust_0 : decode cX11_dust 0 = .ok (.aload_n 0, 1) := by decide +kernel
theorem dX11_dust_1 : decode cX11_dust 1 = .ok (.invokevirtual 136, 3) := by decide +kernel
theorem dX11_dust_4 : decode cX11_dust 4 = .ok (.pop, 1) := by decide +kernel
theorem dX11_dust_5 : decode cX11_dust 5 = .ok (.iload_n 1, 1) := by decide +kernel
theorem dX11_dust_6 : decode cX11_dust 6 = .ok (.i2l, 1) := by decide +kernel
theorem dX11_dust_7 : decode cX11_dust 7 = .ok (.lconst 0, 1) := by decide +kernel
theorem dX11_dust_8 : decode cX11_dust 8 = .ok (.aload_n 0, 1) := by decide +kernel
theorem dX11_dust_9 : decode cX11_dust 9 = .ok (.getfield 122, 3) := by decide +kernel
theorem dX11_dust_12 : decode cX11_dust 12 = .ok (.iconst 1, 1) := by decide +kernel
theorem dX11_dust_13 : decode cX11_dust 13 = .ok (.isub, 1) := by decide +kernel
theorem dX11_dust_14 : decode cX11_dust 14 = .ok (.i2l, 1) := by decide +kernel
theorem dX11_dust_15 : decode cX11_dust 15 = .ok (.invokestatic 61, 3) := by decide +kernel
theorem dX11_dust_18 : decode cX11_dust 18 = .ok (.ifCond .eq 23, 3) := by decide +kernel
theorem dX11_dust_21 : decode cX11_dust 21 = .ok (.iload_n 2, 1) := by decide +kernel
theorem dX11_dust_22 : decode cX11_dust 22 = .ok (.invokestatic 90, 3) := by decide +kernel
theorem dX11_dust_25 : decode cX11_dust 25 = .ok (.ifCond .eq 16, 3) := by decide +kernel
theorem dX11_dust_28 : decode cX11_dust 28 = .ok (.aload_n 0, 1) := by decide +kernel
theorem dX11_dust_29 : decode cX11_dust 29 = .ok (.getfield 31, 3) := by decide +kernel
theorem dX11_dust_32 : decode cX11_dust 32 = .ok (.iconst 2, 1) := by decide +kernel
theorem dX11_dust_33 : decode cX11_dust 33 = .ok (.iload_n 1, 1) := by decide +kernel
theorem dX11_dust_34 : decode cX11_dust 34 = .ok (.imul, 1) := by decide +kernel
theorem dX11_dust_35 : decode cX11_dust 35 = .ok (.iload_n 2, 1) := by decide +kernel
theorem dX11_dust_36 : decode cX11_dust 36 = .ok (.iadd, 1) := by decide +kernel
theorem dX11_dust_37 : decode cX11_dust 37 = .ok (.iaload, 1) := by decide +kernel
theorem dX11_dust_38 : decode cX11_dust 38 = .ok (.goto 5, 3) := by decide +kernel
theorem dX11_dust_41 : decode cX11_dust 41 = .ok (.bipush (-2), 2) := by decide +kernel
theorem dX11_dust_43 : decode cX11_dust 43 = .ok (.ireturn, 1) := by decide +kernel
theorem dX11_isSet_0 : decode cX11_isSet 0 = .ok (.iload_n 0, 1) := by decide +kernel
theorem dX11_isSet_1 : decode cX11_isSet 1 = .ok (.i2l, 1) := by decide +kernel
theorem dX11_isSet_2 : decode cX11_isSet 2 = .ok (.lconst 0, 1) := by decide +kernel
theorem dX11_isSet_3 : decode cX11_isSet 3 = .ok (.ldc2_w 93, 3) := by decide +kernel
theorem dX11_isSet_6 : decode cX11_isSet 6 = .ok (.invokestatic 61, 3) := by decide +kernel
theorem dX11_isSet_9 : decode cX11_isSet 9 = .ok (.ireturn, 1) := by decide +kernel
theorem dX11_isThing_0 : decode cX11_isThing 0 = .ok (.iload_n 0, 1) := by decide +kernel
theorem dX11_isThing_1 : decode cX11_isThing 1 = .ok (.i2l, 1) := by decide +kernel
theorem dX11_isThing_2 : decode cX11_isThing 2 = .ok (.lconst 0, 1) := by decide +kernel
theorem dX11_isThing_3 : decode cX11_isThing 3 = .ok (.ldc2_w 145, 3) := by decide +kernel
theorem dX11_isThing_6 : decode cX11_isThing 6 = .ok (.invokestatic 61, 3) := by decide +kernel
theorem dX11_isThing_9 : decode cX11_isThing 9 = .ok (.ireturn, 1) := by decide +kernel
theorem dX11_first_0 : decode cX11_first 0 = .ok (.iload_n 1, 1) := by decide +kernel
theorem dX11_first_1 : decode cX11_first 1 = .ok (.invokestatic 147, 3) := by decide +kernel
theorem dX11_first_4 : decode cX11_first 4 = .ok (.ifCond .ne 6, 3) := by decide +kernel
theorem dX11_first_7 : decode cX11_first 7 = .ok (.bipush (-2), 2) := by decide +kernel
theorem dX11_first_9 : decode cX11_first 9 = .ok (.ireturn, 1) := by decide +kernel
theorem dX11_first_10 : decode cX11_first 10 = .ok (.aload_n 0, 1) := by decide +kernel
theorem dX11_first_11 : decode cX11_first 11 = .ok (.getfield 150, 3) := by decide +kernel
theorem dX11_first_14 : decode cX11_first 14 = .ok (.istore_n 2, 1) := by decide +kernel
theorem dX11_first_15 : decode cX11_first 15 = .ok (.aload_n 0, 1) := by decide +kernel
theorem dX11_first_16 : decode cX11_first 16 = .ok (.iload_n 1, 1) := by decide +kernel
theorem dX11_first_17 : decode cX11_first 17 = .ok (.putfield 150, 3) := by decide +kernel
theorem dX11_first_20 : decode cX11_first 20 = .ok (.iload_n 2, 1) := by decide +kernel
theorem dX11_first_21 : decode cX11_first 21 = .ok (.ireturn, 1) := by decide +kernel
theorem dX11_comes_0 : decode cX11_comes 0 = .ok (.aload_n 0, 1) := by decide +kernel
theorem dX11_comes_1 : decode cX11_comes 1 = .ok (.invokevirtual 153, 3) := by decide +kernel
theorem dX11_comes_4 : decode cX11_comes 4 = .ok (.iload_n 1, 1) := by decide +kernel
theorem dX11_comes_5 : decode cX11_comes 5 = .ok (.invokestatic 147, 3) := by decide +kernel
theorem dX11_comes_8 : decode cX11_comes 8 = .ok (.ifCond .eq 12, 3) := by decide +kernel
theorem dX11_comes_11 : decode cX11_comes 11 = .ok (.aload_n 0, 1) := by decide +kernel
theorem dX11_comes_12 : decode cX11_comes 12 = .ok (.getfield 34, 3) := by decide +kernel
theorem dX11_comes_15 : decode cX11_comes 15 = .ok (.iload_n 1, 1) := by decide +kernel
theorem dX11_comes_16 : decode cX11_comes 16 = .ok (.iaload, 1) := by decide +kernel
theorem dX11_comes_17 : decode cX11_comes 17 = .ok (.goto 5, 3) := by decide +kernel
theorem dX11_comes_20 : decode cX11_comes 20 = .ok (.bipush (-2), 2) := by decide +kernel
theorem dX11_comes_22 : decode cX11_comes 22 = .ok (.ireturn, 1) := by decide +kernel
theorem dX11_lays_0 : decode cX11_lays 0 = .ok (.aload_n 0, 1) := by decide +kernel
theorem dX11_lays_1 : decode cX11_lays 1 = .ok (.invokevirtual 153, 3) := by decide +kernel
theorem dX11_lays_4 : decode cX11_lays 4 = .ok (.iload_n 1, 1) := by decide +kernel
theorem dX11_lays_5 : decode cX11_lays 5 = .ok (.invokestatic 147, 3) := by decide +kernel
theorem dX11_lays_8 : decode cX11_lays 8 = .ok (.ifCond .eq 12, 3) := by decide +kernel
theorem dX11_lays_11 : decode cX11_lays 11 = .ok (.aload_n 0, 1) := by decide +kernel
theorem dX11_lays_12 : decode cX11_lays 12 = .ok (.getfield 37, 3) := by decide +kernel
theorem dX11_lays_15 : decode cX11_lays 15 = .ok (.iload_n 1, 1) := by decide +kernel
theorem dX11_lays_16 : decode cX11_lays 16 = .ok (.iaload, 1) := by decide +kernel
theorem dX11_lays_17 : decode cX11_lays 17 = .ok (.goto 5, 3) := by decide +kernel
theorem dX11_lays_20 : decode cX11_lays 20 = .ok (.bipush (-2), 2) := by decide +kernel
theorem dX11_lays_22 : decode cX11_lays 22 = .ok (.ireturn, 1) := by decide +kernel
theorem dX11_next_0 : decode cX11_next 0 = .ok (.aload_n 0, 1) := by decide +kernel
theorem dX11_next_1 : decode cX11_next 1 = .ok (.getfield 37, 3) := by decide +kernel
theorem dX11_next_4 : decode cX11_next 4 = .ok (.aload_n 0, 1) := by decide +kernel
theorem dX11_next_5 : decode cX11_next 5 = .ok (.getfield 34, 3) := by decide +kernel
theorem dX11_next_8 : decode cX11_next 8 = .ok (.iload_n 1, 1) := by decide +kernel
theorem dX11_next_9 : decode cX11_next 9 = .ok (.iaload, 1) := by decide +kernel
theorem dX11_next_10 : decode cX11_next 10 = .ok (.iaload, 1) := by decide +kernel
theorem dX11_next_11 : decode cX11_next 11 = .ok (.ireturn, 1) := by decide +kernel
theorem dX11_lay_0 : decode cX11_lay 0 = .ok (.iload_n 1, 1) := by decide +kernel
theorem dX11_lay_1 : decode cX11_lay 1 = .ok (.i2l, 1) := by decide +kernel
theorem dX11_lay_2 : decode cX11_lay 2 = .ok (.lconst 0, 1) := by decide +kernel
theorem dX11_lay_3 : decode cX11_lay 3 = .ok (.ldc2_w 156, 3) := by decide +kernel
theorem dX11_lay_6 : decode cX11_lay 6 = .ok (.invokestatic 61, 3) := by decide +kernel
theorem dX11_lay_9 : decode cX11_lay 9 = .ok (.ifCond .eq 17, 3) := by decide +kernel
theorem dX11_lay_12 : decode cX11_lay 12 = .ok (.iload_n 2, 1) := by decide +kernel
theorem dX11_lay_13 : decode cX11_lay 13 = .ok (.invokestatic 158, 3) := by decide +kernel
theorem dX11_lay_16 : decode cX11_lay 16 = .ok (.ifCond .eq 10, 3) := by decide +kernel
theorem dX11_lay_19 : decode cX11_lay 19 = .ok (.iload_n 3, 1) := by decide +kernel
theorem dX11_lay_20 : decode cX11_lay 20 = .ok (.invokestatic 90, 3) := by decide +kernel
theorem dX11_lay_23 : decode cX11_lay 23 = .ok (.ifCond .ne 6, 3) := by decide +kernel
theorem dX11_lay_26 : decode cX11_lay 26 = .ok (.bipush (-2), 2) := by decide +kernel
theorem dX11_lay_28 : decode cX11_lay 28 = .ok (.ireturn, 1) := by decide +kernel
theorem dX11_lay_29 : decode cX11_lay 29 = .ok (.aload_n 0, 1) := by decide +kernel
theorem dX11_lay_30 : decode cX11_lay 30 = .ok (.getfield 161, 3) := by decide +kernel
theorem dX11_lay_33 : decode cX11_lay 33 = .ok (.bipush 12, 2) := by decide +kernel
theorem dX11_lay_35 : decode cX11_lay 35 = .ok (.if_icmp .ne 6, 3) := by decide +kernel
theorem dX11_lay_38 : decode cX11_lay 38 = .ok (.bipush (-4), 2) := by decide +kernel
theorem dX11_lay_40 : decode cX11_lay 40 = .ok (.ireturn, 1) := by decide +kernel
theorem dX11_lay_41 : decode cX11_lay 41 = .ok (.aload_n 0, 1) := by decide +kernel
theorem dX11_lay_42 : decode cX11_lay 42 = .ok (.getfield 40, 3) := by decide +kernel
theorem dX11_lay_45 : decode cX11_lay 45 = .ok (.iconst 3, 1) := by decide +kernel
theorem dX11_lay_46 : decode cX11_lay 46 = .ok (.aload_n 0, 1) := by decide +kernel
theorem dX11_lay_47 : decode cX11_lay 47 = .ok (.getfield 161, 3) := by decide +kernel
theorem dX11_lay_50 : decode cX11_lay 50 = .ok (.imul, 1) := by decide +kernel
theorem dX11_lay_51 : decode cX11_lay 51 = .ok (.iload_n 1, 1) := by decide +kernel
theorem dX11_lay_52 : decode cX11_lay 52 = .ok (.iastore, 1) := by decide +kernel
theorem dX11_lay_53 : decode cX11_lay 53 = .ok (.aload_n 0, 1) := by decide +kernel
theorem dX11_lay_54 : decode cX11_lay 54 = .ok (.getfield 40, 3) := by decide +kernel
theorem dX11_lay_57 : decode cX11_lay 57 = .ok (.iconst 3, 1) := by decide +kernel
theorem dX11_lay_58 : decode cX11_lay 58 = .ok (.aload_n 0, 1) := by decide +kernel
theorem dX11_lay_59 : decode cX11_lay 59 = .ok (.getfield 161, 3) := by decide +kernel
theorem dX11_lay_62 : decode cX11_lay 62 = .ok (.imul, 1) := by decide +kernel
theorem dX11_lay_63 : decode cX11_lay 63 = .ok (.iconst 1, 1) := by decide +kernel
theorem dX11_lay_64 : decode cX11_lay 64 = .ok (.iadd, 1) := by decide +kernel
theorem dX11_lay_65 : decode cX11_lay 65 = .ok (.iload_n 2, 1) := by decide +kernel
theorem dX11_lay_66 : decode cX11_lay 66 = .ok (.iastore, 1) := by decide +kernel
theorem dX11_lay_67 : decode cX11_lay 67 = .ok (.aload_n 0, 1) := by decide +kernel
theorem dX11_lay_68 : decode cX11_lay 68 = .ok (.getfield 40, 3) := by decide +kernel
theorem dX11_lay_71 : decode cX11_lay 71 = .ok (.iconst 3, 1) := by decide +kernel
theorem dX11_lay_72 : decode cX11_lay 72 = .ok (.aload_n 0, 1) := by decide +kernel
theorem dX11_lay_73 : decode cX11_lay 73 = .ok (.getfield 161, 3) := by decide +kernel
theorem dX11_lay_76 : decode cX11_lay 76 = .ok (.imul, 1) := by decide +kernel
theorem dX11_lay_77 : decode cX11_lay 77 = .ok (.iconst 2, 1) := by decide +kernel
theorem dX11_lay_78 : decode cX11_lay 78 = .ok (.iadd, 1) := by decide +kernel
theorem dX11_lay_79 : decode cX11_lay 79 = .ok (.iload_n 3, 1) := by decide +kernel
theorem dX11_lay_80 : decode cX11_lay 80 = .ok (.iastore, 1) := by decide +kernel
theorem dX11_lay_81 : decode cX11_lay 81 = .ok (.aload_n 0, 1) := by decide +kernel
theorem dX11_lay_82 : decode cX11_lay 82 = .ok (.dup, 1) := by decide +kernel
theorem dX11_lay_83 : decode cX11_lay 83 = .ok (.getfield 161, 3) := by decide +kernel
theorem dX11_lay_86 : decode cX11_lay 86 = .ok (.iconst 1, 1) := by decide +kernel
theorem dX11_lay_87 : decode cX11_lay 87 = .ok (.iadd, 1) := by decide +kernel
theorem dX11_lay_88 : decode cX11_lay 88 = .ok (.putfield 161, 3) := by decide +kernel
theorem dX11_lay_91 : decode cX11_lay 91 = .ok (.aload_n 0, 1) := by decide +kernel
theorem dX11_lay_92 : decode cX11_lay 92 = .ok (.getfield 161, 3) := by decide +kernel
theorem dX11_lay_95 : decode cX11_lay 95 = .ok (.ireturn, 1) := by decide +kernel
theorem dX11_back_0 : decode cX11_back 0 = .ok (.aload_n 0, 1) := by decide +kernel
theorem dX11_back_1 : decode cX11_back 1 = .ok (.getfield 161, 3) := by decide +kernel
theorem dX11_back_4 : decode cX11_back 4 = .ok (.ifCond .ne 6, 3) := by decide +kernel
theorem dX11_back_7 : decode cX11_back 7 = .ok (.bipush (-3), 2) := by decide +kernel
theorem dX11_back_9 : decode cX11_back 9 = .ok (.ireturn, 1) := by decide +kernel
theorem dX11_back_10 : decode cX11_back 10 = .ok (.aload_n 0, 1) := by decide +kernel
theorem dX11_back_11 : decode cX11_back 11 = .ok (.dup, 1) := by decide +kernel
theorem dX11_back_12 : decode cX11_back 12 = .ok (.getfield 161, 3) := by decide +kernel
theorem dX11_back_15 : decode cX11_back 15 = .ok (.iconst 1, 1) := by decide +kernel
theorem dX11_back_16 : decode cX11_back 16 = .ok (.isub, 1) := by decide +kernel
theorem dX11_back_17 : decode cX11_back 17 = .ok (.putfield 161, 3) := by decide +kernel
theorem dX11_back_20 : decode cX11_back 20 = .ok (.aload_n 0, 1) := by decide +kernel
theorem dX11_back_21 : decode cX11_back 21 = .ok (.getfield 161, 3) := by decide +kernel
theorem dX11_back_24 : decode cX11_back 24 = .ok (.ireturn, 1) := by decide +kernel
theorem dX11_lives_0 : decode cX11_lives 0 = .ok (.aload_n 0, 1) := by decide +kernel
theorem dX11_lives_1 : decode cX11_lives 1 = .ok (.invokevirtual 153, 3) := by decide +kernel
theorem dX11_lives_4 : decode cX11_lives 4 = .ok (.iconst 0, 1) := by decide +kernel
theorem dX11_lives_5 : decode cX11_lives 5 = .ok (.istore_n 1, 1) := by decide +kernel
theorem dX11_lives_6 : decode cX11_lives 6 = .ok (.iload_n 1, 1) := by decide +kernel
theorem dX11_lives_7 : decode cX11_lives 7 = .ok (.bipush 30, 2) := by decide +kernel
theorem dX11_lives_9 : decode cX11_lives 9 = .ok (.if_icmp .ge 146, 3) := by decide +kernel
theorem dX11_lives_12 : decode cX11_lives 12 = .ok (.aload_n 0, 1) := by decide +kernel
theorem dX11_lives_13 : decode cX11_lives 13 = .ok (.getfield 46, 3) := by decide +kernel
theorem dX11_lives_16 : decode cX11_lives 16 = .ok (.iload_n 1, 1) := by decide +kernel
theorem dX11_lives_17 : decode cX11_lives 17 = .ok (.iload_n 1, 1) := by decide +kernel
theorem dX11_lives_18 : decode cX11_lives 18 = .ok (.ifCond .ne 7, 3) := by decide +kernel
theorem dX11_lives_21 : decode cX11_lives 21 = .ok (.iconst 0, 1) := by decide +kernel
theorem dX11_lives_22 : decode cX11_lives 22 = .ok (.goto 16, 3) := by decide +kernel
theorem dX11_lives_25 : decode cX11_lives 25 = .ok (.aload_n 0, 1) := by decide +kernel
theorem dX11_lives_26 : decode cX11_lives 26 = .ok (.getfield 34, 3) := by decide +kernel
theorem dX11_lives_29 : decode cX11_lives 29 = .ok (.aload_n 0, 1) := by decide +kernel
theorem dX11_lives_30 : decode cX11_lives 30 = .ok (.getfield 43, 3) := by decide +kernel
theorem dX11_lives_33 : decode cX11_lives 33 = .ok (.iload_n 1, 1) := by decide +kernel
theorem dX11_lives_34 : decode cX11_lives 34 = .ok (.iconst 1, 1) := by decide +kernel
theorem dX11_lives_35 : decode cX11_lives 35 = .ok (.isub, 1) := by decide +kernel
theorem dX11_lives_36 : decode cX11_lives 36 = .ok (.iaload, 1) := by decide +kernel
theorem dX11_lives_37 : decode cX11_lives 37 = .ok (.iaload, 1) := by decide +kernel
theorem dX11_lives_38 : decode cX11_lives 38 = .ok (.iastore, 1) := by decide +kernel
theorem dX11_lives_39 : decode cX11_lives 39 = .ok (.aload_n 0, 1) := by decide +kernel
theorem dX11_lives_40 : decode cX11_lives 40 = .ok (.getfield 43, 3) := by decide +kernel
theorem dX11_lives_43 : decode cX11_lives 43 = .ok (.iload_n 1, 1) := by decide +kernel
theorem dX11_lives_44 : decode cX11_lives 44 = .ok (.iload_n 1, 1) := by decide +kernel
theorem dX11_lives_45 : decode cX11_lives 45 = .ok (.ifCond .ne 10, 3) := by decide +kernel
theorem dX11_lives_48 : decode cX11_lives 48 = .ok (.aload_n 0, 1) := by decide +kernel
theorem dX11_lives_49 : decode cX11_lives 49 = .ok (.getfield 150, 3) := by decide +kernel
theorem dX11_lives_52 : decode cX11_lives 52 = .ok (.goto 14, 3) := by decide +kernel
theorem dX11_lives_55 : decode cX11_lives 55 = .ok (.aload_n 0, 1) := by decide +kernel
theorem dX11_lives_56 : decode cX11_lives 56 = .ok (.getfield 37, 3) := by decide +kernel
theorem dX11_lives_59 : decode cX11_lives 59 = .ok (.aload_n 0, 1) := by decide +kernel
theorem dX11_lives_60 : decode cX11_lives 60 = .ok (.getfield 46, 3) := by decide +kernel
theorem dX11_lives_63 : decode cX11_lives 63 = .ok (.iload_n 1, 1) := by decide +kernel
theorem dX11_lives_64 : decode cX11_lives 64 = .ok (.iaload, 1) := by decide +kernel
theorem dX11_lives_65 : decode cX11_lives 65 = .ok (.iaload, 1) := by decide +kernel
theorem dX11_lives_66 : decode cX11_lives 66 = .ok (.iastore, 1) := by decide +kernel
theorem dX11_lives_67 : decode cX11_lives 67 = .ok (.iconst 0, 1) := by decide +kernel
theorem dX11_lives_68 : decode cX11_lives 68 = .ok (.istore_n 2, 1) := by decide +kernel
theorem dX11_lives_69 : decode cX11_lives 69 = .ok (.iload_n 2, 1) := by decide +kernel
theorem dX11_lives_70 : decode cX11_lives 70 = .ok (.aload_n 0, 1) := by decide +kernel
theorem dX11_lives_71 : decode cX11_lives 71 = .ok (.getfield 161, 3) := by decide +kernel
theorem dX11_lives_74 : decode cX11_lives 74 = .ok (.if_icmp .ge 75, 3) := by decide +kernel
theorem dX11_lives_77 : decode cX11_lives 77 = .ok (.aload_n 0, 1) := by decide +kernel
theorem dX11_lives_78 : decode cX11_lives 78 = .ok (.getfield 40, 3) := by decide +kernel
theorem dX11_lives_81 : decode cX11_lives 81 = .ok (.iconst 3, 1) := by decide +kernel
theorem dX11_lives_82 : decode cX11_lives 82 = .ok (.iload_n 2, 1) := by decide +kernel
theorem dX11_lives_83 : decode cX11_lives 83 = .ok (.imul, 1) := by decide +kernel
theorem dX11_lives_84 : decode cX11_lives 84 = .ok (.iaload, 1) := by decide +kernel
theorem dX11_lives_85 : decode cX11_lives 85 = .ok (.iload_n 1, 1) := by decide +kernel
theorem dX11_lives_86 : decode cX11_lives 86 = .ok (.if_icmp .ne 57, 3) := by decide +kernel
theorem dX11_lives_89 : decode cX11_lives 89 = .ok (.iconst 1, 1) := by decide +kernel
theorem dX11_lives_90 : decode cX11_lives 90 = .ok (.aload_n 0, 1) := by decide +kernel
theorem dX11_lives_91 : decode cX11_lives 91 = .ok (.getfield 40, 3) := by decide +kernel
theorem dX11_lives_94 : decode cX11_lives 94 = .ok (.iconst 3, 1) := by decide +kernel
theorem dX11_lives_95 : decode cX11_lives 95 = .ok (.iload_n 2, 1) := by decide +kernel
theorem dX11_lives_96 : decode cX11_lives 96 = .ok (.imul, 1) := by decide +kernel
theorem dX11_lives_97 : decode cX11_lives 97 = .ok (.iconst 1, 1) := by decide +kernel
theorem dX11_lives_98 : decode cX11_lives 98 = .ok (.iadd, 1) := by decide +kernel
theorem dX11_lives_99 : decode cX11_lives 99 = .ok (.iaload, 1) := by decide +kernel
theorem dX11_lives_100 : decode cX11_lives 100 = .ok (.ishl, 1) := by decide +kernel
theorem dX11_lives_101 : decode cX11_lives 101 = .ok (.istore_n 3, 1) := by decide +kernel
theorem dX11_lives_102 : decode cX11_lives 102 = .ok (.aload_n 0, 1) := by decide +kernel
theorem dX11_lives_103 : decode cX11_lives 103 = .ok (.getfield 43, 3) := by decide +kernel
theorem dX11_lives_106 : decode cX11_lives 106 = .ok (.iload_n 1, 1) := by decide +kernel
theorem dX11_lives_107 : decode cX11_lives 107 = .ok (.aload_n 0, 1) := by decide +kernel
theorem dX11_lives_108 : decode cX11_lives 108 = .ok (.getfield 40, 3) := by decide +kernel
theorem dX11_lives_111 : decode cX11_lives 111 = .ok (.iconst 3, 1) := by decide +kernel
theorem dX11_lives_112 : decode cX11_lives 112 = .ok (.iload_n 2, 1) := by decide +kernel
theorem dX11_lives_113 : decode cX11_lives 113 = .ok (.imul, 1) := by decide +kernel
theorem dX11_lives_114 : decode cX11_lives 114 = .ok (.iconst 2, 1) := by decide +kernel
theorem dX11_lives_115 : decode cX11_lives 115 = .ok (.iadd, 1) := by decide +kernel
theorem dX11_lives_116 : decode cX11_lives 116 = .ok (.iaload, 1) := by decide +kernel
theorem dX11_lives_117 : decode cX11_lives 117 = .ok (.iconst 1, 1) := by decide +kernel
theorem dX11_lives_118 : decode cX11_lives 118 = .ok (.if_icmp .ne 14, 3) := by decide +kernel
theorem dX11_lives_121 : decode cX11_lives 121 = .ok (.aload_n 0, 1) := by decide +kernel
theorem dX11_lives_122 : decode cX11_lives 122 = .ok (.getfield 43, 3) := by decide +kernel
theorem dX11_lives_125 : decode cX11_lives 125 = .ok (.iload_n 1, 1) := by decide +kernel
theorem dX11_lives_126 : decode cX11_lives 126 = .ok (.iaload, 1) := by decide +kernel
theorem dX11_lives_127 : decode cX11_lives 127 = .ok (.iload_n 3, 1) := by decide +kernel
theorem dX11_lives_128 : decode cX11_lives 128 = .ok (.ior, 1) := by decide +kernel
theorem dX11_lives_129 : decode cX11_lives 129 = .ok (.goto 13, 3) := by decide +kernel
theorem dX11_lives_132 : decode cX11_lives 132 = .ok (.aload_n 0, 1) := by decide +kernel
theorem dX11_lives_133 : decode cX11_lives 133 = .ok (.getfield 43, 3) := by decide +kernel
theorem dX11_lives_136 : decode cX11_lives 136 = .ok (.iload_n 1, 1) := by decide +kernel
theorem dX11_lives_137 : decode cX11_lives 137 = .ok (.iaload, 1) := by decide +kernel
theorem dX11_lives_138 : decode cX11_lives 138 = .ok (.iload_n 3, 1) := by decide +kernel
theorem dX11_lives_139 : decode cX11_lives 139 = .ok (.iconst (-1), 1) := by decide +kernel
theorem dX11_lives_140 : decode cX11_lives 140 = .ok (.ixor, 1) := by decide +kernel
theorem dX11_lives_141 : decode cX11_lives 141 = .ok (.iand, 1) := by decide +kernel
theorem dX11_lives_142 : decode cX11_lives 142 = .ok (.iastore, 1) := by decide +kernel
theorem dX11_lives_143 : decode cX11_lives 143 = .ok (.iinc 2 1, 3) := by decide +kernel
theorem dX11_lives_146 : decode cX11_lives 146 = .ok (.goto (-77), 3) := by decide +kernel
theorem dX11_lives_149 : decode cX11_lives 149 = .ok (.iinc 1 1, 3) := by decide +kernel
theorem dX11_lives_152 : decode cX11_lives 152 = .ok (.goto (-146), 3) := by decide +kernel
theorem dX11_lives_155 : decode cX11_lives 155 = .ok (.return_, 1) := by decide +kernel
theorem dX11_week_0 : decode cX11_week 0 = .ok (.aload_n 0, 1) := by decide +kernel
theorem dX11_week_1 : decode cX11_week 1 = .ok (.invokevirtual 164, 3) := by decide +kernel
theorem dX11_week_4 : decode cX11_week 4 = .ok (.iload_n 1, 1) := by decide +kernel
theorem dX11_week_5 : decode cX11_week 5 = .ok (.i2l, 1) := by decide +kernel
theorem dX11_week_6 : decode cX11_week 6 = .ok (.lconst 0, 1) := by decide +kernel
theorem dX11_week_7 : decode cX11_week 7 = .ok (.ldc2_w 156, 3) := by decide +kernel
theorem dX11_week_10 : decode cX11_week 10 = .ok (.invokestatic 61, 3) := by decide +kernel
theorem dX11_week_13 : decode cX11_week 13 = .ok (.ifCond .eq 32, 3) := by decide +kernel
theorem dX11_week_16 : decode cX11_week 16 = .ok (.iload_n 2, 1) := by decide +kernel
theorem dX11_week_17 : decode cX11_week 17 = .ok (.invokestatic 90, 3) := by decide +kernel
theorem dX11_week_20 : decode cX11_week 20 = .ok (.ifCond .eq 25, 3) := by decide +kernel
theorem dX11_week_23 : decode cX11_week 23 = .ok (.iload_n 2, 1) := by decide +kernel
theorem dX11_week_24 : decode cX11_week 24 = .ok (.ifCond .ne 12, 3) := by decide +kernel
theorem dX11_week_27 : decode cX11_week 27 = .ok (.aload_n 0, 1) := by decide +kernel
theorem dX11_week_28 : decode cX11_week 28 = .ok (.getfield 43, 3) := by decide +kernel
theorem dX11_week_31 : decode cX11_week 31 = .ok (.iload_n 1, 1) := by decide +kernel
theorem dX11_week_32 : decode cX11_week 32 = .ok (.iaload, 1) := by decide +kernel
theorem dX11_week_33 : decode cX11_week 33 = .ok (.goto 14, 3) := by decide +kernel
theorem dX11_week_36 : decode cX11_week 36 = .ok (.aload_n 0, 1) := by decide +kernel
theorem dX11_week_37 : decode cX11_week 37 = .ok (.getfield 46, 3) := by decide +kernel
theorem dX11_week_40 : decode cX11_week 40 = .ok (.iload_n 1, 1) := by decide +kernel
theorem dX11_week_41 : decode cX11_week 41 = .ok (.iaload, 1) := by decide +kernel
theorem dX11_week_42 : decode cX11_week 42 = .ok (.goto 5, 3) := by decide +kernel
theorem dX11_week_45 : decode cX11_week 45 = .ok (.bipush (-2), 2) := by decide +kernel
theorem dX11_week_47 : decode cX11_week 47 = .ok (.ireturn, 1) := by decide +kernel
theorem dX11_judgedNow_0 : decode cX11_judgedNow 0 = .ok (.iconst 0, 1) := by decide +kernel
theorem dX11_judgedNow_1 : decode cX11_judgedNow 1 = .ok (.istore_n 1, 1) := by decide +kernel
theorem dX11_judgedNow_2 : decode cX11_judgedNow 2 = .ok (.iload_n 1, 1) := by decide +kernel
theorem dX11_judgedNow_3 : decode cX11_judgedNow 3 = .ok (.bipush 30, 2) := by decide +kernel
theorem dX11_judgedNow_5 : decode cX11_judgedNow 5 = .ok (.if_icmp .ge 37, 3) := by decide +kernel
theorem dX11_judgedNow_8 : decode cX11_judgedNow 8 = .ok (.aload_n 0, 1) := by decide +kernel
theorem dX11_judgedNow_9 : decode cX11_judgedNow 9 = .ok (.aload_n 0, 1) := by decide +kernel
theorem dX11_judgedNow_10 : decode cX11_judgedNow 10 = .ok (.getfield 43, 3) := by decide +kernel
theorem dX11_judgedNow_13 : decode cX11_judgedNow 13 = .ok (.iload_n 1, 1) := by decide +kernel
theorem dX11_judgedNow_14 : decode cX11_judgedNow 14 = .ok (.iaload, 1) := by decide +kernel
theorem dX11_judgedNow_15 : decode cX11_judgedNow 15 = .ok (.iconst 1, 1) := by decide +kernel
theorem dX11_judgedNow_16 : decode cX11_judgedNow 16 = .ok (.invokevirtual 139, 3) := by decide +kernel
theorem dX11_judgedNow_19 : decode cX11_judgedNow 19 = .ok (.aload_n 0, 1) := by decide +kernel
theorem dX11_judgedNow_20 : decode cX11_judgedNow 20 = .ok (.aload_n 0, 1) := by decide +kernel
theorem dX11_judgedNow_21 : decode cX11_judgedNow 21 = .ok (.getfield 43, 3) := by decide +kernel
theorem dX11_judgedNow_24 : decode cX11_judgedNow 24 = .ok (.iload_n 1, 1) := by decide +kernel
theorem dX11_judgedNow_25 : decode cX11_judgedNow 25 = .ok (.iaload, 1) := by decide +kernel
theorem dX11_judgedNow_26 : decode cX11_judgedNow 26 = .ok (.iconst 0, 1) := by decide +kernel
theorem dX11_judgedNow_27 : decode cX11_judgedNow 27 = .ok (.invokevirtual 139, 3) := by decide +kernel
theorem dX11_judgedNow_30 : decode cX11_judgedNow 30 = .ok (.iand, 1) := by decide +kernel
theorem dX11_judgedNow_31 : decode cX11_judgedNow 31 = .ok (.ifCond .eq 5, 3) := by decide +kernel
theorem dX11_judgedNow_34 : decode cX11_judgedNow 34 = .ok (.iload_n 1, 1) := by decide +kernel
theorem dX11_judgedNow_35 : decode cX11_judgedNow 35 = .ok (.ireturn, 1) := by decide +kernel
theorem dX11_judgedNow_36 : decode cX11_judgedNow 36 = .ok (.iinc 1 1, 3) := by decide +kernel
theorem dX11_judgedNow_39 : decode cX11_judgedNow 39 = .ok (.goto (-37), 3) := by decide +kernel
theorem dX11_judgedNow_42 : decode cX11_judgedNow 42 = .ok (.iconst (-1), 1) := by decide +kernel
theorem dX11_judgedNow_43 : decode cX11_judgedNow 43 = .ok (.ireturn, 1) := by decide +kernel
theorem dX11_judged_0 : decode cX11_judged 0 = .ok (.aload_n 0, 1) := by decide +kernel
theorem dX11_judged_1 : decode cX11_judged 1 = .ok (.invokevirtual 164, 3) := by decide +kernel
theorem dX11_judged_4 : decode cX11_judged 4 = .ok (.aload_n 0, 1) := by decide +kernel
theorem dX11_judged_5 : decode cX11_judged 5 = .ok (.invokevirtual 167, 3) := by decide +kernel
theorem dX11_judged_8 : decode cX11_judged 8 = .ok (.ireturn, 1) := by decide +kernel
theorem dX11_twoNow_0 : decode cX11_twoNow 0 = .ok (.iconst 0, 1) := by decide +kernel
theorem dX11_twoNow_1 : decode cX11_twoNow 1 = .ok (.istore_n 1, 1) := by decide +kernel
theorem dX11_twoNow_2 : decode cX11_twoNow 2 = .ok (.iload_n 1, 1) := by decide +kernel
theorem dX11_twoNow_3 : decode cX11_twoNow 3 = .ok (.bipush 8, 2) := by decide +kernel
theorem dX11_twoNow_5 : decode cX11_twoNow 5 = .ok (.if_icmp .ge 85, 3) := by decide +kernel
theorem dX11_twoNow_8 : decode cX11_twoNow 8 = .ok (.iconst 0, 1) := by decide +kernel
theorem dX11_twoNow_9 : decode cX11_twoNow 9 = .ok (.istore_n 2, 1) := by decide +kernel
theorem dX11_twoNow_10 : decode cX11_twoNow 10 = .ok (.iconst 0, 1) := by decide +kernel
theorem dX11_twoNow_11 : decode cX11_twoNow 11 = .ok (.istore_n 3, 1) := by decide +kernel
theorem dX11_twoNow_12 : decode cX11_twoNow 12 = .ok (.iload_n 3, 1) := by decide +kernel
theorem dX11_twoNow_13 : decode cX11_twoNow 13 = .ok (.aload_n 0, 1) := by decide +kernel
theorem dX11_twoNow_14 : decode cX11_twoNow 14 = .ok (.getfield 112, 3) := by decide +kernel
theorem dX11_twoNow_17 : decode cX11_twoNow 17 = .ok (.if_icmp .ge 57, 3) := by decide +kernel
theorem dX11_twoNow_20 : decode cX11_twoNow 20 = .ok (.iload_n 2, 1) := by decide +kernel
theorem dX11_twoNow_21 : decode cX11_twoNow 21 = .ok (.aload_n 0, 1) := by decide +kernel
theorem dX11_twoNow_22 : decode cX11_twoNow 22 = .ok (.getfield 28, 3) := by decide +kernel
theorem dX11_twoNow_25 : decode cX11_twoNow 25 = .ok (.iconst 3, 1) := by decide +kernel
theorem dX11_twoNow_26 : decode cX11_twoNow 26 = .ok (.iload_n 3, 1) := by decide +kernel
theorem dX11_twoNow_27 : decode cX11_twoNow 27 = .ok (.imul, 1) := by decide +kernel
theorem dX11_twoNow_28 : decode cX11_twoNow 28 = .ok (.iconst 1, 1) := by decide +kernel
theorem dX11_twoNow_29 : decode cX11_twoNow 29 = .ok (.iadd, 1) := by decide +kernel
theorem dX11_twoNow_30 : decode cX11_twoNow 30 = .ok (.iaload, 1) := by decide +kernel
theorem dX11_twoNow_31 : decode cX11_twoNow 31 = .ok (.iconst 1, 1) := by decide +kernel
theorem dX11_twoNow_32 : decode cX11_twoNow 32 = .ok (.if_icmp .ne 33, 3) := by decide +kernel
theorem dX11_twoNow_35 : decode cX11_twoNow 35 = .ok (.aload_n 0, 1) := by decide +kernel
theorem dX11_twoNow_36 : decode cX11_twoNow 36 = .ok (.getfield 28, 3) := by decide +kernel
theorem dX11_twoNow_39 : decode cX11_twoNow 39 = .ok (.iconst 3, 1) := by decide +kernel
theorem dX11_twoNow_40 : decode cX11_twoNow 40 = .ok (.iload_n 3, 1) := by decide +kernel
theorem dX11_twoNow_41 : decode cX11_twoNow 41 = .ok (.imul, 1) := by decide +kernel
theorem dX11_twoNow_42 : decode cX11_twoNow 42 = .ok (.iaload, 1) := by decide +kernel
theorem dX11_twoNow_43 : decode cX11_twoNow 43 = .ok (.iload_n 1, 1) := by decide +kernel
theorem dX11_twoNow_44 : decode cX11_twoNow 44 = .ok (.invokestatic 142, 3) := by decide +kernel
theorem dX11_twoNow_47 : decode cX11_twoNow 47 = .ok (.ifCond .eq 18, 3) := by decide +kernel
theorem dX11_twoNow_50 : decode cX11_twoNow 50 = .ok (.iconst 1, 1) := by decide +kernel
theorem dX11_twoNow_51 : decode cX11_twoNow 51 = .ok (.aload_n 0, 1) := by decide +kernel
theorem dX11_twoNow_52 : decode cX11_twoNow 52 = .ok (.getfield 28, 3) := by decide +kernel
theorem dX11_twoNow_55 : decode cX11_twoNow 55 = .ok (.iconst 3, 1) := by decide +kernel
theorem dX11_twoNow_56 : decode cX11_twoNow 56 = .ok (.iload_n 3, 1) := by decide +kernel
theorem dX11_twoNow_57 : decode cX11_twoNow 57 = .ok (.imul, 1) := by decide +kernel
theorem dX11_twoNow_58 : decode cX11_twoNow 58 = .ok (.iconst 2, 1) := by decide +kernel
theorem dX11_twoNow_59 : decode cX11_twoNow 59 = .ok (.iadd, 1) := by decide +kernel
theorem dX11_twoNow_60 : decode cX11_twoNow 60 = .ok (.iaload, 1) := by decide +kernel
theorem dX11_twoNow_61 : decode cX11_twoNow 61 = .ok (.ishl, 1) := by decide +kernel
theorem dX11_twoNow_62 : decode cX11_twoNow 62 = .ok (.goto 4, 3) := by decide +kernel
theorem dX11_twoNow_65 : decode cX11_twoNow 65 = .ok (.iconst 0, 1) := by decide +kernel
theorem dX11_twoNow_66 : decode cX11_twoNow 66 = .ok (.ior, 1) := by decide +kernel
theorem dX11_twoNow_67 : decode cX11_twoNow 67 = .ok (.istore_n 2, 1) := by decide +kernel
theorem dX11_twoNow_68 : decode cX11_twoNow 68 = .ok (.iinc 3 1, 3) := by decide +kernel
theorem dX11_twoNow_71 : decode cX11_twoNow 71 = .ok (.goto (-59), 3) := by decide +kernel
theorem dX11_twoNow_74 : decode cX11_twoNow 74 = .ok (.iload_n 2, 1) := by decide +kernel
theorem dX11_twoNow_75 : decode cX11_twoNow 75 = .ok (.invokestatic 170, 3) := by decide +kernel
theorem dX11_twoNow_78 : decode cX11_twoNow 78 = .ok (.iconst 1, 1) := by decide +kernel
theorem dX11_twoNow_79 : decode cX11_twoNow 79 = .ok (.if_icmp .le 5, 3) := by decide +kernel
theorem dX11_twoNow_82 : decode cX11_twoNow 82 = .ok (.iload_n 1, 1) := by decide +kernel
theorem dX11_twoNow_83 : decode cX11_twoNow 83 = .ok (.ireturn, 1) := by decide +kernel
theorem dX11_twoNow_84 : decode cX11_twoNow 84 = .ok (.iinc 1 1, 3) := by decide +kernel
theorem dX11_twoNow_87 : decode cX11_twoNow 87 = .ok (.goto (-85), 3) := by decide +kernel
theorem dX11_twoNow_90 : decode cX11_twoNow 90 = .ok (.iconst (-1), 1) := by decide +kernel
theorem dX11_twoNow_91 : decode cX11_twoNow 91 = .ok (.ireturn, 1) := by decide +kernel
theorem dX11_two_0 : decode cX11_two 0 = .ok (.aload_n 0, 1) := by decide +kernel
theorem dX11_two_1 : decode cX11_two 1 = .ok (.invokevirtual 132, 3) := by decide +kernel
theorem dX11_two_4 : decode cX11_two 4 = .ok (.pop, 1) := by decide +kernel
theorem dX11_two_5 : decode cX11_two 5 = .ok (.aload_n 0, 1) := by decide +kernel
theorem dX11_two_6 : decode cX11_two 6 = .ok (.invokevirtual 173, 3) := by decide +kernel
theorem dX11_two_9 : decode cX11_two 9 = .ok (.ireturn, 1) := by decide +kernel
theorem dX11_second_0 : decode cX11_second 0 = .ok (.aload_n 0, 1) := by decide +kernel
theorem dX11_second_1 : decode cX11_second 1 = .ok (.invokevirtual 153, 3) := by decide +kernel
theorem dX11_second_4 : decode cX11_second 4 = .ok (.iload_n 1, 1) := by decide +kernel
theorem dX11_second_5 : decode cX11_second 5 = .ok (.invokestatic 147, 3) := by decide +kernel
theorem dX11_second_8 : decode cX11_second 8 = .ok (.ifCond .eq 17, 3) := by decide +kernel
theorem dX11_second_11 : decode cX11_second 11 = .ok (.aload_n 0, 1) := by decide +kernel
theorem dX11_second_12 : decode cX11_second 12 = .ok (.getfield 34, 3) := by decide +kernel
theorem dX11_second_15 : decode cX11_second 15 = .ok (.aload_n 0, 1) := by decide +kernel
theorem dX11_second_16 : decode cX11_second 16 = .ok (.getfield 34, 3) := by decide +kernel
theorem dX11_second_19 : decode cX11_second 19 = .ok (.iload_n 1, 1) := by decide +kernel
theorem dX11_second_20 : decode cX11_second 20 = .ok (.iaload, 1) := by decide +kernel
theorem dX11_second_21 : decode cX11_second 21 = .ok (.iaload, 1) := by decide +kernel
theorem dX11_second_22 : decode cX11_second 22 = .ok (.goto 5, 3) := by decide +kernel
theorem dX11_second_25 : decode cX11_second 25 = .ok (.bipush (-2), 2) := by decide +kernel
theorem dX11_second_27 : decode cX11_second 27 = .ok (.ireturn, 1) := by decide +kernel
theorem dX11_comeIn_0 : decode cX11_comeIn 0 = .ok (.iload_n 2, 1) := by decide +kernel
theorem dX11_comeIn_1 : decode cX11_comeIn 1 = .ok (.istore_n 3, 1) := by decide +kernel
theorem dX11_comeIn_2 : decode cX11_comeIn 2 = .ok (.iconst 1, 1) := by decide +kernel
theorem dX11_comeIn_3 : decode cX11_comeIn 3 = .ok (.istore 4, 2) := by decide +kernel
theorem dX11_comeIn_5 : decode cX11_comeIn 5 = .ok (.iload 4, 2) := by decide +kernel
theorem dX11_comeIn_7 : decode cX11_comeIn 7 = .ok (.iload_n 1, 1) := by decide +kernel
theorem dX11_comeIn_8 : decode cX11_comeIn 8 = .ok (.if_icmp .ge 15, 3) := by decide +kernel
theorem dX11_comeIn_11 : decode cX11_comeIn 11 = .ok (.aload_n 0, 1) := by decide +kernel
theorem dX11_comeIn_12 : decode cX11_comeIn 12 = .ok (.iload_n 3, 1) := by decide +kernel
theorem dX11_comeIn_13 : decode cX11_comeIn 13 = .ok (.invokevirtual 176, 3) := by decide +kernel
theorem dX11_comeIn_16 : decode cX11_comeIn 16 = .ok (.istore_n 3, 1) := by decide +kernel
theorem dX11_comeIn_17 : decode cX11_comeIn 17 = .ok (.iinc 4 1, 3) := by decide +kernel
theorem dX11_comeIn_20 : decode cX11_comeIn 20 = .ok (.goto (-15), 3) := by decide +kernel
theorem dX11_comeIn_23 : decode cX11_comeIn 23 = .ok (.aload_n 0, 1) := by decide +kernel
theorem dX11_comeIn_24 : decode cX11_comeIn 24 = .ok (.getfield 34, 3) := by decide +kernel
theorem dX11_comeIn_27 : decode cX11_comeIn 27 = .ok (.iload_n 3, 1) := by decide +kernel
theorem dX11_comeIn_28 : decode cX11_comeIn 28 = .ok (.iaload, 1) := by decide +kernel
theorem dX11_comeIn_29 : decode cX11_comeIn 29 = .ok (.ireturn, 1) := by decide +kernel
theorem dX11_told_0 : decode cX11_told 0 = .ok (.iload_n 0, 1) := by decide +kernel
theorem dX11_told_1 : decode cX11_told 1 = .ok (.iconst (-1), 1) := by decide +kernel
theorem dX11_told_2 : decode cX11_told 2 = .ok (.if_icmp .eq 8, 3) := by decide +kernel
theorem dX11_told_5 : decode cX11_told 5 = .ok (.iload_n 1, 1) := by decide +kernel
theorem dX11_told_6 : decode cX11_told 6 = .ok (.iconst 1, 1) := by decide +kernel
theorem dX11_told_7 : decode cX11_told 7 = .ok (.if_icmp .ne 7, 3) := by decide +kernel
theorem dX11_told_10 : decode cX11_told 10 = .ok (.iload_n 0, 1) := by decide +kernel
theorem dX11_told_11 : decode cX11_told 11 = .ok (.goto 7, 3) := by decide +kernel
theorem dX11_told_14 : decode cX11_told 14 = .ok (.iload_n 0, 1) := by decide +kernel
theorem dX11_told_15 : decode cX11_told 15 = .ok (.invokestatic 170, 3) := by decide +kernel
theorem dX11_told_18 : decode cX11_told 18 = .ok (.ireturn, 1) := by decide +kernel
theorem dX11_touchOf_0 : decode cX11_touchOf 0 = .ok (.iconst (-1), 1) := by decide +kernel
theorem dX11_touchOf_1 : decode cX11_touchOf 1 = .ok (.istore 4, 2) := by decide +kernel
theorem dX11_touchOf_3 : decode cX11_touchOf 3 = .ok (.iconst 0, 1) := by decide +kernel
theorem dX11_touchOf_4 : decode cX11_touchOf 4 = .ok (.istore 5, 2) := by decide +kernel
theorem dX11_touchOf_6 : decode cX11_touchOf 6 = .ok (.iload 5, 2) := by decide +kernel
theorem dX11_touchOf_8 : decode cX11_touchOf 8 = .ok (.sipush 256, 3) := by decide +kernel
theorem dX11_touchOf_11 : decode cX11_touchOf 11 = .ok (.if_icmp .ge 79, 3) := by decide +kernel
theorem dX11_touchOf_14 : decode cX11_touchOf 14 = .ok (.aload_n 0, 1) := by decide +kernel
theorem dX11_touchOf_15 : decode cX11_touchOf 15 = .ok (.iload_n 1, 1) := by decide +kernel
theorem dX11_touchOf_16 : decode cX11_touchOf 16 = .ok (.aload_n 0, 1) := by decide +kernel
theorem dX11_touchOf_17 : decode cX11_touchOf 17 = .ok (.getfield 150, 3) := by decide +kernel
theorem dX11_touchOf_20 : decode cX11_touchOf 20 = .ok (.iload 5, 2) := by decide +kernel
theorem dX11_touchOf_22 : decode cX11_touchOf 22 = .ok (.ixor, 1) := by decide +kernel
theorem dX11_touchOf_23 : decode cX11_touchOf 23 = .ok (.invokevirtual 179, 3) := by decide +kernel
theorem dX11_touchOf_26 : decode cX11_touchOf 26 = .ok (.istore 6, 2) := by decide +kernel
theorem dX11_touchOf_28 : decode cX11_touchOf 28 = .ok (.iload_n 2, 1) := by decide +kernel
theorem dX11_touchOf_29 : decode cX11_touchOf 29 = .ok (.iload 6, 2) := by decide +kernel
theorem dX11_touchOf_31 : decode cX11_touchOf 31 = .ok (.iconst (-1), 1) := by decide +kernel
theorem dX11_touchOf_32 : decode cX11_touchOf 32 = .ok (.ixor, 1) := by decide +kernel
theorem dX11_touchOf_33 : decode cX11_touchOf 33 = .ok (.iand, 1) := by decide +kernel
theorem dX11_touchOf_34 : decode cX11_touchOf 34 = .ok (.ifCond .ne 14, 3) := by decide +kernel
theorem dX11_touchOf_37 : decode cX11_touchOf 37 = .ok (.iload_n 3, 1) := by decide +kernel
theorem dX11_touchOf_38 : decode cX11_touchOf 38 = .ok (.iload 6, 2) := by decide +kernel
theorem dX11_touchOf_40 : decode cX11_touchOf 40 = .ok (.iand, 1) := by decide +kernel
theorem dX11_touchOf_41 : decode cX11_touchOf 41 = .ok (.ifCond .ne 7, 3) := by decide +kernel
theorem dX11_touchOf_44 : decode cX11_touchOf 44 = .ok (.iconst 1, 1) := by decide +kernel
theorem dX11_touchOf_45 : decode cX11_touchOf 45 = .ok (.goto 4, 3) := by decide +kernel
theorem dX11_touchOf_48 : decode cX11_touchOf 48 = .ok (.iconst 0, 1) := by decide +kernel
theorem dX11_touchOf_49 : decode cX11_touchOf 49 = .ok (.istore 7, 2) := by decide +kernel
theorem dX11_touchOf_51 : decode cX11_touchOf 51 = .ok (.iload 7, 2) := by decide +kernel
theorem dX11_touchOf_53 : decode cX11_touchOf 53 = .ok (.ifCond .eq 27, 3) := by decide +kernel
theorem dX11_touchOf_56 : decode cX11_touchOf 56 = .ok (.iload 4, 2) := by decide +kernel
theorem dX11_touchOf_58 : decode cX11_touchOf 58 = .ok (.iconst (-1), 1) := by decide +kernel
theorem dX11_touchOf_59 : decode cX11_touchOf 59 = .ok (.if_icmp .eq 16, 3) := by decide +kernel
theorem dX11_touchOf_62 : decode cX11_touchOf 62 = .ok (.iload 5, 2) := by decide +kernel
theorem dX11_touchOf_64 : decode cX11_touchOf 64 = .ok (.invokestatic 170, 3) := by decide +kernel
theorem dX11_touchOf_67 : decode cX11_touchOf 67 = .ok (.iload 4, 2) := by decide +kernel
theorem dX11_touchOf_69 : decode cX11_touchOf 69 = .ok (.invokestatic 170, 3) := by decide +kernel
theorem dX11_touchOf_72 : decode cX11_touchOf 72 = .ok (.if_icmp .ge 8, 3) := by decide +kernel
theorem dX11_touchOf_75 : decode cX11_touchOf 75 = .ok (.iload 5, 2) := by decide +kernel
theorem dX11_touchOf_77 : decode cX11_touchOf 77 = .ok (.goto 5, 3) := by decide +kernel
theorem dX11_touchOf_80 : decode cX11_touchOf 80 = .ok (.iload 4, 2) := by decide +kernel
theorem dX11_touchOf_82 : decode cX11_touchOf 82 = .ok (.istore 4, 2) := by decide +kernel
theorem dX11_touchOf_84 : decode cX11_touchOf 84 = .ok (.iinc 5 1, 3) := by decide +kernel
theorem dX11_touchOf_87 : decode cX11_touchOf 87 = .ok (.goto (-81), 3) := by decide +kernel
theorem dX11_touchOf_90 : decode cX11_touchOf 90 = .ok (.iload 4, 2) := by decide +kernel
theorem dX11_touchOf_92 : decode cX11_touchOf 92 = .ok (.ireturn, 1) := by decide +kernel
theorem dX11_touch_0 : decode cX11_touch 0 = .ok (.iload_n 1, 1) := by decide +kernel
theorem dX11_touch_1 : decode cX11_touch 1 = .ok (.i2l, 1) := by decide +kernel
theorem dX11_touch_2 : decode cX11_touch 2 = .ok (.lconst 1, 1) := by decide +kernel
theorem dX11_touch_3 : decode cX11_touch 3 = .ok (.ldc2_w 182, 3) := by decide +kernel
theorem dX11_touch_6 : decode cX11_touch 6 = .ok (.invokestatic 61, 3) := by decide +kernel
theorem dX11_touch_9 : decode cX11_touch 9 = .ok (.ifCond .eq 31, 3) := by decide +kernel
theorem dX11_touch_12 : decode cX11_touch 12 = .ok (.iload_n 2, 1) := by decide +kernel
theorem dX11_touch_13 : decode cX11_touch 13 = .ok (.invokestatic 147, 3) := by decide +kernel
theorem dX11_touch_16 : decode cX11_touch 16 = .ok (.ifCond .eq 24, 3) := by decide +kernel
theorem dX11_touch_19 : decode cX11_touch 19 = .ok (.iload_n 3, 1) := by decide +kernel
theorem dX11_touch_20 : decode cX11_touch 20 = .ok (.invokestatic 147, 3) := by decide +kernel
theorem dX11_touch_23 : decode cX11_touch 23 = .ok (.ifCond .eq 17, 3) := by decide +kernel
theorem dX11_touch_26 : decode cX11_touch 26 = .ok (.iload_n 2, 1) := by decide +kernel
theorem dX11_touch_27 : decode cX11_touch 27 = .ok (.iload_n 3, 1) := by decide +kernel
theorem dX11_touch_28 : decode cX11_touch 28 = .ok (.iand, 1) := by decide +kernel
theorem dX11_touch_29 : decode cX11_touch 29 = .ok (.ifCond .ne 11, 3) := by decide +kernel
theorem dX11_touch_32 : decode cX11_touch 32 = .ok (.iload 4, 2) := by decide +kernel
theorem dX11_touch_34 : decode cX11_touch 34 = .ok (.invokestatic 90, 3) := by decide +kernel
theorem dX11_touch_37 : decode cX11_touch 37 = .ok (.ifCond .ne 6, 3) := by decide +kernel
theorem dX11_touch_40 : decode cX11_touch 40 = .ok (.bipush (-2), 2) := by decide +kernel
theorem dX11_touch_42 : decode cX11_touch 42 = .ok (.ireturn, 1) := by decide +kernel
theorem dX11_touch_43 : decode cX11_touch 43 = .ok (.aload_n 0, 1) := by decide +kernel
theorem dX11_touch_44 : decode cX11_touch 44 = .ok (.invokevirtual 153, 3) := by decide +kernel
theorem dX11_touch_47 : decode cX11_touch 47 = .ok (.aload_n 0, 1) := by decide +kernel
theorem dX11_touch_48 : decode cX11_touch 48 = .ok (.iload_n 1, 1) := by decide +kernel
theorem dX11_touch_49 : decode cX11_touch 49 = .ok (.iload_n 2, 1) := by decide +kernel
theorem dX11_touch_50 : decode cX11_touch 50 = .ok (.iload_n 3, 1) := by decide +kernel
theorem dX11_touch_51 : decode cX11_touch 51 = .ok (.invokevirtual 184, 3) := by decide +kernel
theorem dX11_touch_54 : decode cX11_touch 54 = .ok (.iload 4, 2) := by decide +kernel
theorem dX11_touch_56 : decode cX11_touch 56 = .ok (.invokestatic 187, 3) := by decide +kernel
theorem dX11_touch_59 : decode cX11_touch 59 = .ok (.ireturn, 1) := by decide +kernel
theorem dX11_isOff_0 : decode cX11_isOff 0 = .ok (.iconst 1, 1) := by decide +kernel
theorem dX11_isOff_1 : decode cX11_isOff 1 = .ok (.istore 4, 2) := by decide +kernel
theorem dX11_isOff_3 : decode cX11_isOff 3 = .ok (.iconst 1, 1) := by decide +kernel
theorem dX11_isOff_4 : decode cX11_isOff 4 = .ok (.istore 5, 2) := by decide +kernel
theorem dX11_isOff_6 : decode cX11_isOff 6 = .ok (.iload 5, 2) := by decide +kernel
theorem dX11_isOff_8 : decode cX11_isOff 8 = .ok (.iload_n 1, 1) := by decide +kernel
theorem dX11_isOff_9 : decode cX11_isOff 9 = .ok (.if_icmp .gt 35, 3) := by decide +kernel
theorem dX11_isOff_12 : decode cX11_isOff 12 = .ok (.iload 4, 2) := by decide +kernel
theorem dX11_isOff_14 : decode cX11_isOff 14 = .ok (.ifCond .eq 21, 3) := by decide +kernel
theorem dX11_isOff_17 : decode cX11_isOff 17 = .ok (.aload_n 0, 1) := by decide +kernel
theorem dX11_isOff_18 : decode cX11_isOff 18 = .ok (.iload 5, 2) := by decide +kernel
theorem dX11_isOff_20 : decode cX11_isOff 20 = .ok (.iload_n 3, 1) := by decide +kernel
theorem dX11_isOff_21 : decode cX11_isOff 21 = .ok (.invokevirtual 179, 3) := by decide +kernel
theorem dX11_isOff_24 : decode cX11_isOff 24 = .ok (.iload_n 2, 1) := by decide +kernel
theorem dX11_isOff_25 : decode cX11_isOff 25 = .ok (.invokestatic 142, 3) := by decide +kernel
theorem dX11_isOff_28 : decode cX11_isOff 28 = .ok (.ifCond .ne 7, 3) := by decide +kernel
theorem dX11_isOff_31 : decode cX11_isOff 31 = .ok (.iconst 1, 1) := by decide +kernel
theorem dX11_isOff_32 : decode cX11_isOff 32 = .ok (.goto 4, 3) := by decide +kernel
theorem dX11_isOff_35 : decode cX11_isOff 35 = .ok (.iconst 0, 1) := by decide +kernel
theorem dX11_isOff_36 : decode cX11_isOff 36 = .ok (.istore 4, 2) := by decide +kernel
theorem dX11_isOff_38 : decode cX11_isOff 38 = .ok (.iinc 5 1, 3) := by decide +kernel
theorem dX11_isOff_41 : decode cX11_isOff 41 = .ok (.goto (-35), 3) := by decide +kernel
theorem dX11_isOff_44 : decode cX11_isOff 44 = .ok (.iload 4, 2) := by decide +kernel
theorem dX11_isOff_46 : decode cX11_isOff 46 = .ok (.ireturn, 1) := by decide +kernel
theorem dX11_keepOffOf_0 : decode cX11_keepOffOf 0 = .ok (.iconst (-1), 1) := by decide +kernel
theorem dX11_keepOffOf_1 : decode cX11_keepOffOf 1 = .ok (.istore_n 3, 1) := by decide +kernel
theorem dX11_keepOffOf_2 : decode cX11_keepOffOf 2 = .ok (.iconst 0, 1) := by decide +kernel
theorem dX11_keepOffOf_3 : decode cX11_keepOffOf 3 = .ok (.istore 4, 2) := by decide +kernel
theorem dX11_keepOffOf_5 : decode cX11_keepOffOf 5 = .ok (.iload 4, 2) := by decide +kernel
theorem dX11_keepOffOf_7 : decode cX11_keepOffOf 7 = .ok (.sipush 256, 3) := by decide +kernel
theorem dX11_keepOffOf_10 : decode cX11_keepOffOf 10 = .ok (.if_icmp .ge 75, 3) := by decide +kernel
theorem dX11_keepOffOf_13 : decode cX11_keepOffOf 13 = .ok (.iload 4, 2) := by decide +kernel
theorem dX11_keepOffOf_15 : decode cX11_keepOffOf 15 = .ok (.aload_n 0, 1) := by decide +kernel
theorem dX11_keepOffOf_16 : decode cX11_keepOffOf 16 = .ok (.getfield 150, 3) := by decide +kernel
theorem dX11_keepOffOf_19 : decode cX11_keepOffOf 19 = .ok (.iconst (-1), 1) := by decide +kernel
theorem dX11_keepOffOf_20 : decode cX11_keepOffOf 20 = .ok (.ixor, 1) := by decide +kernel
theorem dX11_keepOffOf_21 : decode cX11_keepOffOf 21 = .ok (.iand, 1) := by decide +kernel
theorem dX11_keepOffOf_22 : decode cX11_keepOffOf 22 = .ok (.ifCond .ne 24, 3) := by decide +kernel
theorem dX11_keepOffOf_25 : decode cX11_keepOffOf 25 = .ok (.iload_n 3, 1) := by decide +kernel
theorem dX11_keepOffOf_26 : decode cX11_keepOffOf 26 = .ok (.iconst (-1), 1) := by decide +kernel
theorem dX11_keepOffOf_27 : decode cX11_keepOffOf 27 = .ok (.if_icmp .eq 15, 3) := by decide +kernel
theorem dX11_keepOffOf_30 : decode cX11_keepOffOf 30 = .ok (.iload 4, 2) := by decide +kernel
theorem dX11_keepOffOf_32 : decode cX11_keepOffOf 32 = .ok (.invokestatic 170, 3) := by decide +kernel
theorem dX11_keepOffOf_35 : decode cX11_keepOffOf 35 = .ok (.iload_n 3, 1) := by decide +kernel
theorem dX11_keepOffOf_36 : decode cX11_keepOffOf 36 = .ok (.invokestatic 170, 3) := by decide +kernel
theorem dX11_keepOffOf_39 : decode cX11_keepOffOf 39 = .ok (.if_icmp .ge 7, 3) := by decide +kernel
theorem dX11_keepOffOf_42 : decode cX11_keepOffOf 42 = .ok (.iconst 1, 1) := by decide +kernel
theorem dX11_keepOffOf_43 : decode cX11_keepOffOf 43 = .ok (.goto 4, 3) := by decide +kernel
theorem dX11_keepOffOf_46 : decode cX11_keepOffOf 46 = .ok (.iconst 0, 1) := by decide +kernel
theorem dX11_keepOffOf_47 : decode cX11_keepOffOf 47 = .ok (.istore 5, 2) := by decide +kernel
theorem dX11_keepOffOf_49 : decode cX11_keepOffOf 49 = .ok (.iload 5, 2) := by decide +kernel
theorem dX11_keepOffOf_51 : decode cX11_keepOffOf 51 = .ok (.ifCond .eq 26, 3) := by decide +kernel
theorem dX11_keepOffOf_54 : decode cX11_keepOffOf 54 = .ok (.aload_n 0, 1) := by decide +kernel
theorem dX11_keepOffOf_55 : decode cX11_keepOffOf 55 = .ok (.iload_n 1, 1) := by decide +kernel
theorem dX11_keepOffOf_56 : decode cX11_keepOffOf 56 = .ok (.iload_n 2, 1) := by decide +kernel
theorem dX11_keepOffOf_57 : decode cX11_keepOffOf 57 = .ok (.aload_n 0, 1) := by decide +kernel
theorem dX11_keepOffOf_58 : decode cX11_keepOffOf 58 = .ok (.getfield 150, 3) := by decide +kernel
theorem dX11_keepOffOf_61 : decode cX11_keepOffOf 61 = .ok (.iload 4, 2) := by decide +kernel
theorem dX11_keepOffOf_63 : decode cX11_keepOffOf 63 = .ok (.iconst (-1), 1) := by decide +kernel
theorem dX11_keepOffOf_64 : decode cX11_keepOffOf 64 = .ok (.ixor, 1) := by decide +kernel
theorem dX11_keepOffOf_65 : decode cX11_keepOffOf 65 = .ok (.iand, 1) := by decide +kernel
theorem dX11_keepOffOf_66 : decode cX11_keepOffOf 66 = .ok (.invokevirtual 190, 3) := by decide +kernel
theorem dX11_keepOffOf_69 : decode cX11_keepOffOf 69 = .ok (.ifCond .eq 8, 3) := by decide +kernel
theorem dX11_keepOffOf_72 : decode cX11_keepOffOf 72 = .ok (.iload 4, 2) := by decide +kernel
theorem dX11_keepOffOf_74 : decode cX11_keepOffOf 74 = .ok (.goto 4, 3) := by decide +kernel
theorem dX11_keepOffOf_77 : decode cX11_keepOffOf 77 = .ok (.iload_n 3, 1) := by decide +kernel
theorem dX11_keepOffOf_78 : decode cX11_keepOffOf 78 = .ok (.istore_n 3, 1) := by decide +kernel
theorem dX11_keepOffOf_79 : decode cX11_keepOffOf 79 = .ok (.iinc 4 1, 3) := by decide +kernel
theorem dX11_keepOffOf_82 : decode cX11_keepOffOf 82 = .ok (.goto (-77), 3) := by decide +kernel
theorem dX11_keepOffOf_85 : decode cX11_keepOffOf 85 = .ok (.iload_n 3, 1) := by decide +kernel
theorem dX11_keepOffOf_86 : decode cX11_keepOffOf 86 = .ok (.ireturn, 1) := by decide +kernel
theorem dX11_keepOff_0 : decode cX11_keepOff 0 = .ok (.iload_n 1, 1) := by decide +kernel
theorem dX11_keepOff_1 : decode cX11_keepOff 1 = .ok (.i2l, 1) := by decide +kernel
theorem dX11_keepOff_2 : decode cX11_keepOff 2 = .ok (.lconst 1, 1) := by decide +kernel
theorem dX11_keepOff_3 : decode cX11_keepOff 3 = .ok (.ldc2_w 182, 3) := by decide +kernel
theorem dX11_keepOff_6 : decode cX11_keepOff 6 = .ok (.invokestatic 61, 3) := by decide +kernel
theorem dX11_keepOff_9 : decode cX11_keepOff 9 = .ok (.ifCond .eq 17, 3) := by decide +kernel
theorem dX11_keepOff_12 : decode cX11_keepOff 12 = .ok (.iload_n 2, 1) := by decide +kernel
theorem dX11_keepOff_13 : decode cX11_keepOff 13 = .ok (.invokestatic 158, 3) := by decide +kernel
theorem dX11_keepOff_16 : decode cX11_keepOff 16 = .ok (.ifCond .eq 10, 3) := by decide +kernel
theorem dX11_keepOff_19 : decode cX11_keepOff 19 = .ok (.iload_n 3, 1) := by decide +kernel
theorem dX11_keepOff_20 : decode cX11_keepOff 20 = .ok (.invokestatic 90, 3) := by decide +kernel
theorem dX11_keepOff_23 : decode cX11_keepOff 23 = .ok (.ifCond .ne 6, 3) := by decide +kernel
theorem dX11_keepOff_26 : decode cX11_keepOff 26 = .ok (.bipush (-2), 2) := by decide +kernel
theorem dX11_keepOff_28 : decode cX11_keepOff 28 = .ok (.ireturn, 1) := by decide +kernel
theorem dX11_keepOff_29 : decode cX11_keepOff 29 = .ok (.aload_n 0, 1) := by decide +kernel
theorem dX11_keepOff_30 : decode cX11_keepOff 30 = .ok (.invokevirtual 153, 3) := by decide +kernel
theorem dX11_keepOff_33 : decode cX11_keepOff 33 = .ok (.aload_n 0, 1) := by decide +kernel
theorem dX11_keepOff_34 : decode cX11_keepOff 34 = .ok (.iload_n 1, 1) := by decide +kernel
theorem dX11_keepOff_35 : decode cX11_keepOff 35 = .ok (.iload_n 2, 1) := by decide +kernel
theorem dX11_keepOff_36 : decode cX11_keepOff 36 = .ok (.invokevirtual 194, 3) := by decide +kernel
theorem dX11_keepOff_39 : decode cX11_keepOff 39 = .ok (.iload_n 3, 1) := by decide +kernel
theorem dX11_keepOff_40 : decode cX11_keepOff 40 = .ok (.invokestatic 187, 3) := by decide +kernel
theorem dX11_keepOff_43 : decode cX11_keepOff 43 = .ok (.ireturn, 1) := by decide +kernel
theorem dX11_barsOf_0 : decode cX11_barsOf 0 = .ok (.iconst 0, 1) := by decide +kernel
theorem dX11_barsOf_1 : decode cX11_barsOf 1 = .ok (.istore_n 2, 1) := by decide +kernel
theorem dX11_barsOf_2 : decode cX11_barsOf 2 = .ok (.iconst 0, 1) := by decide +kernel
theorem dX11_barsOf_3 : decode cX11_barsOf 3 = .ok (.istore_n 3, 1) := by decide +kernel
theorem dX11_barsOf_4 : decode cX11_barsOf 4 = .ok (.iload_n 3, 1) := by decide +kernel
theorem dX11_barsOf_5 : decode cX11_barsOf 5 = .ok (.sipush 256, 3) := by decide +kernel
theorem dX11_barsOf_8 : decode cX11_barsOf 8 = .ok (.if_icmp .ge 43, 3) := by decide +kernel
theorem dX11_barsOf_11 : decode cX11_barsOf 11 = .ok (.iload_n 2, 1) := by decide +kernel
theorem dX11_barsOf_12 : decode cX11_barsOf 12 = .ok (.aload_n 0, 1) := by decide +kernel
theorem dX11_barsOf_13 : decode cX11_barsOf 13 = .ok (.iload_n 3, 1) := by decide +kernel
theorem dX11_barsOf_14 : decode cX11_barsOf 14 = .ok (.iconst 1, 1) := by decide +kernel
theorem dX11_barsOf_15 : decode cX11_barsOf 15 = .ok (.invokevirtual 139, 3) := by decide +kernel
theorem dX11_barsOf_18 : decode cX11_barsOf 18 = .ok (.iload_n 1, 1) := by decide +kernel
theorem dX11_barsOf_19 : decode cX11_barsOf 19 = .ok (.invokestatic 142, 3) := by decide +kernel
theorem dX11_barsOf_22 : decode cX11_barsOf 22 = .ok (.ifCond .eq 20, 3) := by decide +kernel
theorem dX11_barsOf_25 : decode cX11_barsOf 25 = .ok (.aload_n 0, 1) := by decide +kernel
theorem dX11_barsOf_26 : decode cX11_barsOf 26 = .ok (.getfield 34, 3) := by decide +kernel
theorem dX11_barsOf_29 : decode cX11_barsOf 29 = .ok (.iload_n 3, 1) := by decide +kernel
theorem dX11_barsOf_30 : decode cX11_barsOf 30 = .ok (.iaload, 1) := by decide +kernel
theorem dX11_barsOf_31 : decode cX11_barsOf 31 = .ok (.iload_n 1, 1) := by decide +kernel
theorem dX11_barsOf_32 : decode cX11_barsOf 32 = .ok (.invokestatic 142, 3) := by decide +kernel
theorem dX11_barsOf_35 : decode cX11_barsOf 35 = .ok (.ifCond .ne 7, 3) := by decide +kernel
theorem dX11_barsOf_38 : decode cX11_barsOf 38 = .ok (.iconst 1, 1) := by decide +kernel
theorem dX11_barsOf_39 : decode cX11_barsOf 39 = .ok (.goto 4, 3) := by decide +kernel
theorem dX11_barsOf_42 : decode cX11_barsOf 42 = .ok (.iconst 0, 1) := by decide +kernel
theorem dX11_barsOf_43 : decode cX11_barsOf 43 = .ok (.iadd, 1) := by decide +kernel
theorem dX11_barsOf_44 : decode cX11_barsOf 44 = .ok (.istore_n 2, 1) := by decide +kernel
theorem dX11_barsOf_45 : decode cX11_barsOf 45 = .ok (.iinc 3 1, 3) := by decide +kernel
theorem dX11_barsOf_48 : decode cX11_barsOf 48 = .ok (.goto (-44), 3) := by decide +kernel
theorem dX11_barsOf_51 : decode cX11_barsOf 51 = .ok (.iload_n 2, 1) := by decide +kernel
theorem dX11_barsOf_52 : decode cX11_barsOf 52 = .ok (.ireturn, 1) := by decide +kernel
theorem dX11_bars_0 : decode cX11_bars 0 = .ok (.aload_n 0, 1) := by decide +kernel
theorem dX11_bars_1 : decode cX11_bars 1 = .ok (.invokevirtual 153, 3) := by decide +kernel
theorem dX11_bars_4 : decode cX11_bars 4 = .ok (.iload_n 1, 1) := by decide +kernel
theorem dX11_bars_5 : decode cX11_bars 5 = .ok (.invokestatic 158, 3) := by decide +kernel
theorem dX11_bars_8 : decode cX11_bars 8 = .ok (.ifCond .eq 11, 3) := by decide +kernel
theorem dX11_bars_11 : decode cX11_bars 11 = .ok (.aload_n 0, 1) := by decide +kernel
theorem dX11_bars_12 : decode cX11_bars 12 = .ok (.iload_n 1, 1) := by decide +kernel
theorem dX11_bars_13 : decode cX11_bars 13 = .ok (.invokevirtual 197, 3) := by decide +kernel
theorem dX11_bars_16 : decode cX11_bars 16 = .ok (.goto 5, 3) := by decide +kernel
theorem dX11_bars_19 : decode cX11_bars 19 = .ok (.bipush (-2), 2) := by decide +kernel
theorem dX11_bars_21 : decode cX11_bars 21 = .ok (.ireturn, 1) := by decide +kernel
theorem dX11_findWins_0 : decode cX11_findWins 0 = .ok (.iconst 0, 1) := by decide +kernel
theorem dX11_findWins_1 : decode cX11_findWins 1 = .ok (.istore_n 3, 1) := by decide +kernel
theorem dX11_findWins_2 : decode cX11_findWins 2 = .ok (.iload_n 3, 1) := by decide +kernel
theorem dX11_findWins_3 : decode cX11_findWins 3 = .ok (.iload_n 1, 1) := by decide +kernel
theorem dX11_findWins_4 : decode cX11_findWins 4 = .ok (.if_icmp .gt 173, 3) := by decide +kernel
theorem dX11_findWins_7 : decode cX11_findWins 7 = .ok (.iload_n 1, 1) := by decide +kernel
theorem dX11_findWins_8 : decode cX11_findWins 8 = .ok (.iload_n 3, 1) := by decide +kernel
theorem dX11_findWins_9 : decode cX11_findWins 9 = .ok (.isub, 1) := by decide +kernel
theorem dX11_findWins_10 : decode cX11_findWins 10 = .ok (.iconst 2, 1) := by decide +kernel
theorem dX11_findWins_11 : decode cX11_findWins 11 = .ok (.irem, 1) := by decide +kernel
theorem dX11_findWins_12 : decode cX11_findWins 12 = .ok (.ifCond .ne 7, 3) := by decide +kernel
theorem dX11_findWins_15 : decode cX11_findWins 15 = .ok (.iconst 1, 1) := by decide +kernel
theorem dX11_findWins_16 : decode cX11_findWins 16 = .ok (.goto 4, 3) := by decide +kernel
theorem dX11_findWins_19 : decode cX11_findWins 19 = .ok (.iconst 0, 1) := by decide +kernel
theorem dX11_findWins_20 : decode cX11_findWins 20 = .ok (.istore 4, 2) := by decide +kernel
theorem dX11_findWins_22 : decode cX11_findWins 22 = .ok (.iconst 0, 1) := by decide +kernel
theorem dX11_findWins_23 : decode cX11_findWins 23 = .ok (.istore 5, 2) := by decide +kernel
theorem dX11_findWins_25 : decode cX11_findWins 25 = .ok (.iload 5, 2) := by decide +kernel
theorem dX11_findWins_27 : decode cX11_findWins 27 = .ok (.sipush 256, 3) := by decide +kernel
theorem dX11_findWins_30 : decode cX11_findWins 30 = .ok (.if_icmp .ge 141, 3) := by decide +kernel
theorem dX11_findWins_33 : decode cX11_findWins 33 = .ok (.iload_n 3, 1) := by decide +kernel
theorem dX11_findWins_34 : decode cX11_findWins 34 = .ok (.ifCond .ne 17, 3) := by decide +kernel
theorem dX11_findWins_37 : decode cX11_findWins 37 = .ok (.aload_n 0, 1) := by decide +kernel
theorem dX11_findWins_38 : decode cX11_findWins 38 = .ok (.getfield 34, 3) := by decide +kernel
theorem dX11_findWins_41 : decode cX11_findWins 41 = .ok (.iload 5, 2) := by decide +kernel
theorem dX11_findWins_43 : decode cX11_findWins 43 = .ok (.iaload, 1) := by decide +kernel
theorem dX11_findWins_44 : decode cX11_findWins 44 = .ok (.iload_n 2, 1) := by decide +kernel
theorem dX11_findWins_45 : decode cX11_findWins 45 = .ok (.invokestatic 142, 3) := by decide +kernel
theorem dX11_findWins_48 : decode cX11_findWins 48 = .ok (.goto 18, 3) := by decide +kernel
theorem dX11_findWins_51 : decode cX11_findWins 51 = .ok (.aload_n 0, 1) := by decide +kernel
theorem dX11_findWins_52 : decode cX11_findWins 52 = .ok (.getfield 49, 3) := by decide +kernel
theorem dX11_findWins_55 : decode cX11_findWins 55 = .ok (.sipush 256, 3) := by decide +kernel
theorem dX11_findWins_58 : decode cX11_findWins 58 = .ok (.iload_n 3, 1) := by decide +kernel
theorem dX11_findWins_59 : decode cX11_findWins 59 = .ok (.iconst 1, 1) := by decide +kernel
theorem dX11_findWins_60 : decode cX11_findWins 60 = .ok (.isub, 1) := by decide +kernel
theorem dX11_findWins_61 : decode cX11_findWins 61 = .ok (.imul, 1) := by decide +kernel
theorem dX11_findWins_62 : decode cX11_findWins 62 = .ok (.iload 5, 2) := by decide +kernel
theorem dX11_findWins_64 : decode cX11_findWins 64 = .ok (.iadd, 1) := by decide +kernel
theorem dX11_findWins_65 : decode cX11_findWins 65 = .ok (.baload, 1) := by decide +kernel
theorem dX11_findWins_66 : decode cX11_findWins 66 = .ok (.istore 6, 2) := by decide +kernel
theorem dX11_findWins_68 : decode cX11_findWins 68 = .ok (.iconst 0, 1) := by decide +kernel
theorem dX11_findWins_69 : decode cX11_findWins 69 = .ok (.istore 7, 2) := by decide +kernel
theorem dX11_findWins_71 : decode cX11_findWins 71 = .ok (.iload 7, 2) := by decide +kernel
theorem dX11_findWins_73 : decode cX11_findWins 73 = .ok (.bipush 8, 2) := by decide +kernel
theorem dX11_findWins_75 : decode cX11_findWins 75 = .ok (.if_icmp .ge 75, 3) := by decide +kernel
theorem dX11_findWins_78 : decode cX11_findWins 78 = .ok (.iload_n 3, 1) := by decide +kernel
theorem dX11_findWins_79 : decode cX11_findWins 79 = .ok (.ifCond .le 71, 3) := by decide +kernel
theorem dX11_findWins_82 : decode cX11_findWins 82 = .ok (.aload_n 0, 1) := by decide +kernel
theorem dX11_findWins_83 : decode cX11_findWins 83 = .ok (.getfield 49, 3) := by decide +kernel
theorem dX11_findWins_86 : decode cX11_findWins 86 = .ok (.sipush 256, 3) := by decide +kernel
theorem dX11_findWins_89 : decode cX11_findWins 89 = .ok (.iload_n 3, 1) := by decide +kernel
theorem dX11_findWins_90 : decode cX11_findWins 90 = .ok (.iconst 1, 1) := by decide +kernel
theorem dX11_findWins_91 : decode cX11_findWins 91 = .ok (.isub, 1) := by decide +kernel
theorem dX11_findWins_92 : decode cX11_findWins 92 = .ok (.imul, 1) := by decide +kernel
theorem dX11_findWins_93 : decode cX11_findWins 93 = .ok (.iload 5, 2) := by decide +kernel
theorem dX11_findWins_95 : decode cX11_findWins 95 = .ok (.iconst 1, 1) := by decide +kernel
theorem dX11_findWins_96 : decode cX11_findWins 96 = .ok (.iload 7, 2) := by decide +kernel
theorem dX11_findWins_98 : decode cX11_findWins 98 = .ok (.ishl, 1) := by decide +kernel
theorem dX11_findWins_99 : decode cX11_findWins 99 = .ok (.ixor, 1) := by decide +kernel
theorem dX11_findWins_100 : decode cX11_findWins 100 = .ok (.iadd, 1) := by decide +kernel
theorem dX11_findWins_101 : decode cX11_findWins 101 = .ok (.baload, 1) := by decide +kernel
theorem dX11_findWins_102 : decode cX11_findWins 102 = .ok (.istore 8, 2) := by decide +kernel
theorem dX11_findWins_104 : decode cX11_findWins 104 = .ok (.iload 4, 2) := by decide +kernel
theorem dX11_findWins_106 : decode cX11_findWins 106 = .ok (.ifCond .eq 21, 3) := by decide +kernel
theorem dX11_findWins_109 : decode cX11_findWins 109 = .ok (.iload 6, 2) := by decide +kernel
theorem dX11_findWins_111 : decode cX11_findWins 111 = .ok (.ifCond .ne 8, 3) := by decide +kernel
theorem dX11_findWins_114 : decode cX11_findWins 114 = .ok (.iload 8, 2) := by decide +kernel
theorem dX11_findWins_116 : decode cX11_findWins 116 = .ok (.ifCond .eq 7, 3) := by decide +kernel
theorem dX11_findWins_119 : decode cX11_findWins 119 = .ok (.iconst 1, 1) := by decide +kernel
theorem dX11_findWins_120 : decode cX11_findWins 120 = .ok (.goto 22, 3) := by decide +kernel
theorem dX11_findWins_123 : decode cX11_findWins 123 = .ok (.iconst 0, 1) := by decide +kernel
theorem dX11_findWins_124 : decode cX11_findWins 124 = .ok (.goto 18, 3) := by decide +kernel
theorem dX11_findWins_127 : decode cX11_findWins 127 = .ok (.iload 6, 2) := by decide +kernel
theorem dX11_findWins_129 : decode cX11_findWins 129 = .ok (.ifCond .eq 12, 3) := by decide +kernel
theorem dX11_findWins_132 : decode cX11_findWins 132 = .ok (.iload 8, 2) := by decide +kernel
theorem dX11_findWins_134 : decode cX11_findWins 134 = .ok (.ifCond .eq 7, 3) := by decide +kernel
theorem dX11_findWins_137 : decode cX11_findWins 137 = .ok (.iconst 1, 1) := by decide +kernel
theorem dX11_findWins_138 : decode cX11_findWins 138 = .ok (.goto 4, 3) := by decide +kernel
theorem dX11_findWins_141 : decode cX11_findWins 141 = .ok (.iconst 0, 1) := by decide +kernel
theorem dX11_findWins_142 : decode cX11_findWins 142 = .ok (.istore 6, 2) := by decide +kernel
theorem dX11_findWins_144 : decode cX11_findWins 144 = .ok (.iinc 7 1, 3) := by decide +kernel
theorem dX11_findWins_147 : decode cX11_findWins 147 = .ok (.goto (-76), 3) := by decide +kernel
theorem dX11_findWins_150 : decode cX11_findWins 150 = .ok (.aload_n 0, 1) := by decide +kernel
theorem dX11_findWins_151 : decode cX11_findWins 151 = .ok (.getfield 49, 3) := by decide +kernel
theorem dX11_findWins_154 : decode cX11_findWins 154 = .ok (.sipush 256, 3) := by decide +kernel
theorem dX11_findWins_157 : decode cX11_findWins 157 = .ok (.iload_n 3, 1) := by decide +kernel
theorem dX11_findWins_158 : decode cX11_findWins 158 = .ok (.imul, 1) := by decide +kernel
theorem dX11_findWins_159 : decode cX11_findWins 159 = .ok (.iload 5, 2) := by decide +kernel
theorem dX11_findWins_161 : decode cX11_findWins 161 = .ok (.iadd, 1) := by decide +kernel
theorem dX11_findWins_162 : decode cX11_findWins 162 = .ok (.iload 6, 2) := by decide +kernel
theorem dX11_findWins_164 : decode cX11_findWins 164 = .ok (.bastore, 1) := by decide +kernel
theorem dX11_findWins_165 : decode cX11_findWins 165 = .ok (.iinc 5 1, 3) := by decide +kernel
theorem dX11_findWins_168 : decode cX11_findWins 168 = .ok (.goto (-143), 3) := by decide +kernel
theorem dX11_findWins_171 : decode cX11_findWins 171 = .ok (.iinc 3 1, 3) := by decide +kernel
theorem dX11_findWins_174 : decode cX11_findWins 174 = .ok (.goto (-172), 3) := by decide +kernel
theorem dX11_findWins_177 : decode cX11_findWins 177 = .ok (.return_, 1) := by decide +kernel
theorem dX11_playOf_0 : decode cX11_playOf 0 = .ok (.aload_n 0, 1) := by decide +kernel
theorem dX11_playOf_1 : decode cX11_playOf 1 = .ok (.iload_n 1, 1) := by decide +kernel
theorem dX11_playOf_2 : decode cX11_playOf 2 = .ok (.iload_n 2, 1) := by decide +kernel
theorem dX11_playOf_3 : decode cX11_playOf 3 = .ok (.invokevirtual 200, 3) := by decide +kernel
theorem dX11_playOf_6 : decode cX11_playOf 6 = .ok (.aload_n 0, 1) := by decide +kernel
theorem dX11_playOf_7 : decode cX11_playOf 7 = .ok (.getfield 49, 3) := by decide +kernel
theorem dX11_playOf_10 : decode cX11_playOf 10 = .ok (.sipush 256, 3) := by decide +kernel
theorem dX11_playOf_13 : decode cX11_playOf 13 = .ok (.iload_n 1, 1) := by decide +kernel
theorem dX11_playOf_14 : decode cX11_playOf 14 = .ok (.imul, 1) := by decide +kernel
theorem dX11_playOf_15 : decode cX11_playOf 15 = .ok (.aload_n 0, 1) := by decide +kernel
theorem dX11_playOf_16 : decode cX11_playOf 16 = .ok (.getfield 150, 3) := by decide +kernel
theorem dX11_playOf_19 : decode cX11_playOf 19 = .ok (.iadd, 1) := by decide +kernel
theorem dX11_playOf_20 : decode cX11_playOf 20 = .ok (.baload, 1) := by decide +kernel
theorem dX11_playOf_21 : decode cX11_playOf 21 = .ok (.istore 4, 2) := by decide +kernel
theorem dX11_playOf_23 : decode cX11_playOf 23 = .ok (.iload_n 3, 1) := by decide +kernel
theorem dX11_playOf_24 : decode cX11_playOf 24 = .ok (.ifCond .ne 14, 3) := by decide +kernel
theorem dX11_playOf_27 : decode cX11_playOf 27 = .ok (.iload 4, 2) := by decide +kernel
theorem dX11_playOf_29 : decode cX11_playOf 29 = .ok (.ifCond .eq 7, 3) := by decide +kernel
theorem dX11_playOf_32 : decode cX11_playOf 32 = .ok (.iconst 1, 1) := by decide +kernel
theorem dX11_playOf_33 : decode cX11_playOf 33 = .ok (.goto 4, 3) := by decide +kernel
theorem dX11_playOf_36 : decode cX11_playOf 36 = .ok (.iconst 0, 1) := by decide +kernel
theorem dX11_playOf_37 : decode cX11_playOf 37 = .ok (.ireturn, 1) := by decide +kernel
theorem dX11_playOf_38 : decode cX11_playOf 38 = .ok (.iload 4, 2) := by decide +kernel
theorem dX11_playOf_40 : decode cX11_playOf 40 = .ok (.ifCond .eq 27, 3) := by decide +kernel
theorem dX11_playOf_43 : decode cX11_playOf 43 = .ok (.iload_n 1, 1) := by decide +kernel
theorem dX11_playOf_44 : decode cX11_playOf 44 = .ok (.ifCond .eq 23, 3) := by decide +kernel
theorem dX11_playOf_47 : decode cX11_playOf 47 = .ok (.aload_n 0, 1) := by decide +kernel
theorem dX11_playOf_48 : decode cX11_playOf 48 = .ok (.getfield 49, 3) := by decide +kernel
theorem dX11_playOf_51 : decode cX11_playOf 51 = .ok (.sipush 256, 3) := by decide +kernel
theorem dX11_playOf_54 : decode cX11_playOf 54 = .ok (.iload_n 1, 1) := by decide +kernel
theorem dX11_playOf_55 : decode cX11_playOf 55 = .ok (.iconst 1, 1) := by decide +kernel
theorem dX11_playOf_56 : decode cX11_playOf 56 = .ok (.isub, 1) := by decide +kernel
theorem dX11_playOf_57 : decode cX11_playOf 57 = .ok (.imul, 1) := by decide +kernel
theorem dX11_playOf_58 : decode cX11_playOf 58 = .ok (.aload_n 0, 1) := by decide +kernel
theorem dX11_playOf_59 : decode cX11_playOf 59 = .ok (.getfield 150, 3) := by decide +kernel
theorem dX11_playOf_62 : decode cX11_playOf 62 = .ok (.iadd, 1) := by decide +kernel
theorem dX11_playOf_63 : decode cX11_playOf 63 = .ok (.baload, 1) := by decide +kernel
theorem dX11_playOf_64 : decode cX11_playOf 64 = .ok (.ifCond .eq 5, 3) := by decide +kernel
theorem dX11_playOf_67 : decode cX11_playOf 67 = .ok (.iconst (-1), 1) := by decide +kernel
theorem dX11_playOf_68 : decode cX11_playOf 68 = .ok (.ireturn, 1) := by decide +kernel
theorem dX11_playOf_69 : decode cX11_playOf 69 = .ok (.iconst 0, 1) := by decide +kernel
theorem dX11_playOf_70 : decode cX11_playOf 70 = .ok (.istore 5, 2) := by decide +kernel
theorem dX11_playOf_72 : decode cX11_playOf 72 = .ok (.aload_n 0, 1) := by decide +kernel
theorem dX11_playOf_73 : decode cX11_playOf 73 = .ok (.getfield 49, 3) := by decide +kernel
theorem dX11_playOf_76 : decode cX11_playOf 76 = .ok (.sipush 256, 3) := by decide +kernel
theorem dX11_playOf_79 : decode cX11_playOf 79 = .ok (.iload_n 1, 1) := by decide +kernel
theorem dX11_playOf_80 : decode cX11_playOf 80 = .ok (.iconst 1, 1) := by decide +kernel
theorem dX11_playOf_81 : decode cX11_playOf 81 = .ok (.isub, 1) := by decide +kernel
theorem dX11_playOf_82 : decode cX11_playOf 82 = .ok (.imul, 1) := by decide +kernel
theorem dX11_playOf_83 : decode cX11_playOf 83 = .ok (.aload_n 0, 1) := by decide +kernel
theorem dX11_playOf_84 : decode cX11_playOf 84 = .ok (.getfield 150, 3) := by decide +kernel
theorem dX11_playOf_87 : decode cX11_playOf 87 = .ok (.iconst 1, 1) := by decide +kernel
theorem dX11_playOf_88 : decode cX11_playOf 88 = .ok (.iload 5, 2) := by decide +kernel
theorem dX11_playOf_90 : decode cX11_playOf 90 = .ok (.ishl, 1) := by decide +kernel
theorem dX11_playOf_91 : decode cX11_playOf 91 = .ok (.ixor, 1) := by decide +kernel
theorem dX11_playOf_92 : decode cX11_playOf 92 = .ok (.iadd, 1) := by decide +kernel
theorem dX11_playOf_93 : decode cX11_playOf 93 = .ok (.baload, 1) := by decide +kernel
theorem dX11_playOf_94 : decode cX11_playOf 94 = .ok (.ifCond .ne 9, 3) := by decide +kernel
theorem dX11_playOf_97 : decode cX11_playOf 97 = .ok (.iinc 5 1, 3) := by decide +kernel
theorem dX11_playOf_100 : decode cX11_playOf 100 = .ok (.goto (-28), 3) := by decide +kernel
theorem dX11_playOf_103 : decode cX11_playOf 103 = .ok (.iload 5, 2) := by decide +kernel
theorem dX11_playOf_105 : decode cX11_playOf 105 = .ok (.ireturn, 1) := by decide +kernel
theorem dX11_play_0 : decode cX11_play 0 = .ok (.aload_n 0, 1) := by decide +kernel
theorem dX11_play_1 : decode cX11_play 1 = .ok (.invokevirtual 153, 3) := by decide +kernel
theorem dX11_play_4 : decode cX11_play 4 = .ok (.iload_n 1, 1) := by decide +kernel
theorem dX11_play_5 : decode cX11_play 5 = .ok (.i2l, 1) := by decide +kernel
theorem dX11_play_6 : decode cX11_play 6 = .ok (.lconst 0, 1) := by decide +kernel
theorem dX11_play_7 : decode cX11_play 7 = .ok (.ldc2_w 204, 3) := by decide +kernel
theorem dX11_play_10 : decode cX11_play 10 = .ok (.invokestatic 61, 3) := by decide +kernel
theorem dX11_play_13 : decode cX11_play 13 = .ok (.ifCond .eq 27, 3) := by decide +kernel
theorem dX11_play_16 : decode cX11_play 16 = .ok (.iload_n 2, 1) := by decide +kernel
theorem dX11_play_17 : decode cX11_play 17 = .ok (.invokestatic 158, 3) := by decide +kernel
theorem dX11_play_20 : decode cX11_play 20 = .ok (.ifCond .eq 20, 3) := by decide +kernel
theorem dX11_play_23 : decode cX11_play 23 = .ok (.iload_n 3, 1) := by decide +kernel
theorem dX11_play_24 : decode cX11_play 24 = .ok (.invokestatic 90, 3) := by decide +kernel
theorem dX11_play_27 : decode cX11_play 27 = .ok (.ifCond .eq 13, 3) := by decide +kernel
theorem dX11_play_30 : decode cX11_play 30 = .ok (.aload_n 0, 1) := by decide +kernel
theorem dX11_play_31 : decode cX11_play 31 = .ok (.iload_n 1, 1) := by decide +kernel
theorem dX11_play_32 : decode cX11_play 32 = .ok (.iload_n 2, 1) := by decide +kernel
theorem dX11_play_33 : decode cX11_play 33 = .ok (.iload_n 3, 1) := by decide +kernel
theorem dX11_play_34 : decode cX11_play 34 = .ok (.invokevirtual 206, 3) := by decide +kernel
theorem dX11_play_37 : decode cX11_play 37 = .ok (.goto 5, 3) := by decide +kernel
theorem dX11_play_40 : decode cX11_play 40 = .ok (.bipush (-2), 2) := by decide +kernel
theorem dX11_play_42 : decode cX11_play 42 = .ok (.ireturn, 1) := by decide +kernel
theorem dX11_steadyOf_0 : decode cX11_steadyOf 0 = .ok (.iconst 0, 1) := by decide +kernel
theorem dX11_steadyOf_1 : decode cX11_steadyOf 1 = .ok (.istore_n 2, 1) := by decide +kernel
theorem dX11_steadyOf_2 : decode cX11_steadyOf 2 = .ok (.iconst 0, 1) := by decide +kernel
theorem dX11_steadyOf_3 : decode cX11_steadyOf 3 = .ok (.istore_n 3, 1) := by decide +kernel
theorem dX11_steadyOf_4 : decode cX11_steadyOf 4 = .ok (.iload_n 3, 1) := by decide +kernel
theorem dX11_steadyOf_5 : decode cX11_steadyOf 5 = .ok (.sipush 256, 3) := by decide +kernel
theorem dX11_steadyOf_8 : decode cX11_steadyOf 8 = .ok (.if_icmp .ge 28, 3) := by decide +kernel
theorem dX11_steadyOf_11 : decode cX11_steadyOf 11 = .ok (.aload_n 0, 1) := by decide +kernel
theorem dX11_steadyOf_12 : decode cX11_steadyOf 12 = .ok (.iload_n 3, 1) := by decide +kernel
theorem dX11_steadyOf_13 : decode cX11_steadyOf 13 = .ok (.invokevirtual 176, 3) := by decide +kernel
theorem dX11_steadyOf_16 : decode cX11_steadyOf 16 = .ok (.iload_n 3, 1) := by decide +kernel
theorem dX11_steadyOf_17 : decode cX11_steadyOf 17 = .ok (.if_icmp .ne 13, 3) := by decide +kernel
theorem dX11_steadyOf_20 : decode cX11_steadyOf 20 = .ok (.iload_n 2, 1) := by decide +kernel
theorem dX11_steadyOf_21 : decode cX11_steadyOf 21 = .ok (.iload_n 1, 1) := by decide +kernel
theorem dX11_steadyOf_22 : decode cX11_steadyOf 22 = .ok (.if_icmp .ne 5, 3) := by decide +kernel
theorem dX11_steadyOf_25 : decode cX11_steadyOf 25 = .ok (.iload_n 3, 1) := by decide +kernel
theorem dX11_steadyOf_26 : decode cX11_steadyOf 26 = .ok (.ireturn, 1) := by decide +kernel
theorem dX11_steadyOf_27 : decode cX11_steadyOf 27 = .ok (.iinc 2 1, 3) := by decide +kernel
theorem dX11_steadyOf_30 : decode cX11_steadyOf 30 = .ok (.iinc 3 1, 3) := by decide +kernel
theorem dX11_steadyOf_33 : decode cX11_steadyOf 33 = .ok (.goto (-29), 3) := by decide +kernel
theorem dX11_steadyOf_36 : decode cX11_steadyOf 36 = .ok (.iload_n 1, 1) := by decide +kernel
theorem dX11_steadyOf_37 : decode cX11_steadyOf 37 = .ok (.iconst (-1), 1) := by decide +kernel
theorem dX11_steadyOf_38 : decode cX11_steadyOf 38 = .ok (.if_icmp .ne 7, 3) := by decide +kernel
theorem dX11_steadyOf_41 : decode cX11_steadyOf 41 = .ok (.iload_n 2, 1) := by decide +kernel
theorem dX11_steadyOf_42 : decode cX11_steadyOf 42 = .ok (.goto 4, 3) := by decide +kernel
theorem dX11_steadyOf_45 : decode cX11_steadyOf 45 = .ok (.iconst (-1), 1) := by decide +kernel
theorem dX11_steadyOf_46 : decode cX11_steadyOf 46 = .ok (.ireturn, 1) := by decide +kernel
theorem dX11_steady_0 : decode cX11_steady 0 = .ok (.aload_n 0, 1) := by decide +kernel
theorem dX11_steady_1 : decode cX11_steady 1 = .ok (.invokevirtual 153, 3) := by decide +kernel
theorem dX11_steady_4 : decode cX11_steady 4 = .ok (.iload_n 1, 1) := by decide +kernel
theorem dX11_steady_5 : decode cX11_steady 5 = .ok (.i2l, 1) := by decide +kernel
theorem dX11_steady_6 : decode cX11_steady 6 = .ok (.ldc2_w 209, 3) := by decide +kernel
theorem dX11_steady_9 : decode cX11_steady 9 = .ok (.ldc2_w 93, 3) := by decide +kernel
theorem dX11_steady_12 : decode cX11_steady 12 = .ok (.invokestatic 61, 3) := by decide +kernel
theorem dX11_steady_15 : decode cX11_steady 15 = .ok (.ifCond .eq 11, 3) := by decide +kernel
theorem dX11_steady_18 : decode cX11_steady 18 = .ok (.aload_n 0, 1) := by decide +kernel
theorem dX11_steady_19 : decode cX11_steady 19 = .ok (.iload_n 1, 1) := by decide +kernel
theorem dX11_steady_20 : decode cX11_steady 20 = .ok (.invokevirtual 211, 3) := by decide +kernel
theorem dX11_steady_23 : decode cX11_steady 23 = .ok (.goto 5, 3) := by decide +kernel
theorem dX11_steady_26 : decode cX11_steady 26 = .ok (.bipush (-2), 2) := by decide +kernel
theorem dX11_steady_28 : decode cX11_steady 28 = .ok (.ireturn, 1) := by decide +kernel
theorem dX11_roundOf_0 : decode cX11_roundOf 0 = .ok (.iconst 0, 1) := by decide +kernel
theorem dX11_roundOf_1 : decode cX11_roundOf 1 = .ok (.istore_n 3, 1) := by decide +kernel
theorem dX11_roundOf_2 : decode cX11_roundOf 2 = .ok (.iload_n 3, 1) := by decide +kernel
theorem dX11_roundOf_3 : decode cX11_roundOf 3 = .ok (.sipush 256, 3) := by decide +kernel
theorem dX11_roundOf_6 : decode cX11_roundOf 6 = .ok (.if_icmp .ge 16, 3) := by decide +kernel
theorem dX11_roundOf_9 : decode cX11_roundOf 9 = .ok (.aload_n 0, 1) := by decide +kernel
theorem dX11_roundOf_10 : decode cX11_roundOf 10 = .ok (.getfield 53, 3) := by decide +kernel
theorem dX11_roundOf_13 : decode cX11_roundOf 13 = .ok (.iload_n 3, 1) := by decide +kernel
theorem dX11_roundOf_14 : decode cX11_roundOf 14 = .ok (.iconst (-1), 1) := by decide +kernel
theorem dX11_roundOf_15 : decode cX11_roundOf 15 = .ok (.iastore, 1) := by decide +kernel
theorem dX11_roundOf_16 : decode cX11_roundOf 16 = .ok (.iinc 3 1, 3) := by decide +kernel
theorem dX11_roundOf_19 : decode cX11_roundOf 19 = .ok (.goto (-17), 3) := by decide +kernel
theorem dX11_roundOf_22 : decode cX11_roundOf 22 = .ok (.iload_n 1, 1) := by decide +kernel
theorem dX11_roundOf_23 : decode cX11_roundOf 23 = .ok (.istore_n 3, 1) := by decide +kernel
theorem dX11_roundOf_24 : decode cX11_roundOf 24 = .ok (.iconst 0, 1) := by decide +kernel
theorem dX11_roundOf_25 : decode cX11_roundOf 25 = .ok (.istore 4, 2) := by decide +kernel
theorem dX11_roundOf_27 : decode cX11_roundOf 27 = .ok (.aload_n 0, 1) := by decide +kernel
theorem dX11_roundOf_28 : decode cX11_roundOf 28 = .ok (.getfield 53, 3) := by decide +kernel
theorem dX11_roundOf_31 : decode cX11_roundOf 31 = .ok (.iload_n 3, 1) := by decide +kernel
theorem dX11_roundOf_32 : decode cX11_roundOf 32 = .ok (.iaload, 1) := by decide +kernel
theorem dX11_roundOf_33 : decode cX11_roundOf 33 = .ok (.iconst (-1), 1) := by decide +kernel
theorem dX11_roundOf_34 : decode cX11_roundOf 34 = .ok (.if_icmp .ne 23, 3) := by decide +kernel
theorem dX11_roundOf_37 : decode cX11_roundOf 37 = .ok (.aload_n 0, 1) := by decide +kernel
theorem dX11_roundOf_38 : decode cX11_roundOf 38 = .ok (.getfield 53, 3) := by decide +kernel
theorem dX11_roundOf_41 : decode cX11_roundOf 41 = .ok (.iload_n 3, 1) := by decide +kernel
theorem dX11_roundOf_42 : decode cX11_roundOf 42 = .ok (.iload 4, 2) := by decide +kernel
theorem dX11_roundOf_44 : decode cX11_roundOf 44 = .ok (.iastore, 1) := by decide +kernel
theorem dX11_roundOf_45 : decode cX11_roundOf 45 = .ok (.aload_n 0, 1) := by decide +kernel
theorem dX11_roundOf_46 : decode cX11_roundOf 46 = .ok (.iload_n 3, 1) := by decide +kernel
theorem dX11_roundOf_47 : decode cX11_roundOf 47 = .ok (.invokevirtual 176, 3) := by decide +kernel
theorem dX11_roundOf_50 : decode cX11_roundOf 50 = .ok (.istore_n 3, 1) := by decide +kernel
theorem dX11_roundOf_51 : decode cX11_roundOf 51 = .ok (.iinc 4 1, 3) := by decide +kernel
theorem dX11_roundOf_54 : decode cX11_roundOf 54 = .ok (.goto (-27), 3) := by decide +kernel
theorem dX11_roundOf_57 : decode cX11_roundOf 57 = .ok (.iload_n 2, 1) := by decide +kernel
theorem dX11_roundOf_58 : decode cX11_roundOf 58 = .ok (.ifCond .ne 8, 3) := by decide +kernel
theorem dX11_roundOf_61 : decode cX11_roundOf 61 = .ok (.iload 4, 2) := by decide +kernel
theorem dX11_roundOf_63 : decode cX11_roundOf 63 = .ok (.goto 12, 3) := by decide +kernel
theorem dX11_roundOf_66 : decode cX11_roundOf 66 = .ok (.iload 4, 2) := by decide +kernel
theorem dX11_roundOf_68 : decode cX11_roundOf 68 = .ok (.aload_n 0, 1) := by decide +kernel
theorem dX11_roundOf_69 : decode cX11_roundOf 69 = .ok (.getfield 53, 3) := by decide +kernel
theorem dX11_roundOf_72 : decode cX11_roundOf 72 = .ok (.iload_n 3, 1) := by decide +kernel
theorem dX11_roundOf_73 : decode cX11_roundOf 73 = .ok (.iaload, 1) := by decide +kernel
theorem dX11_roundOf_74 : decode cX11_roundOf 74 = .ok (.isub, 1) := by decide +kernel
theorem dX11_roundOf_75 : decode cX11_roundOf 75 = .ok (.ireturn, 1) := by decide +kernel
theorem dX11_round_0 : decode cX11_round 0 = .ok (.aload_n 0, 1) := by decide +kernel
theorem dX11_round_1 : decode cX11_round 1 = .ok (.invokevirtual 153, 3) := by decide +kernel
theorem dX11_round_4 : decode cX11_round 4 = .ok (.iload_n 1, 1) := by decide +kernel
theorem dX11_round_5 : decode cX11_round 5 = .ok (.invokestatic 147, 3) := by decide +kernel
theorem dX11_round_8 : decode cX11_round 8 = .ok (.ifCond .eq 19, 3) := by decide +kernel
theorem dX11_round_11 : decode cX11_round 11 = .ok (.iload_n 2, 1) := by decide +kernel
theorem dX11_round_12 : decode cX11_round 12 = .ok (.invokestatic 90, 3) := by decide +kernel
theorem dX11_round_15 : decode cX11_round 15 = .ok (.ifCond .eq 12, 3) := by decide +kernel
theorem dX11_round_18 : decode cX11_round 18 = .ok (.aload_n 0, 1) := by decide +kernel
theorem dX11_round_19 : decode cX11_round 19 = .ok (.iload_n 1, 1) := by decide +kernel
theorem dX11_round_20 : decode cX11_round 20 = .ok (.iload_n 2, 1) := by decide +kernel
theorem dX11_round_21 : decode cX11_round 21 = .ok (.invokevirtual 214, 3) := by decide +kernel
theorem dX11_round_24 : decode cX11_round 24 = .ok (.goto 5, 3) := by decide +kernel
theorem dX11_round_27 : decode cX11_round 27 = .ok (.bipush (-2), 2) := by decide +kernel
theorem dX11_round_29 : decode cX11_round 29 = .ok (.ireturn, 1) := by decide +kernel
theorem dX11_seen_0 : decode cX11_seen 0 = .ok (.iload_n 1, 1) := by decide +kernel
theorem dX11_seen_1 : decode cX11_seen 1 = .ok (.invokestatic 147, 3) := by decide +kernel
theorem dX11_seen_4 : decode cX11_seen 4 = .ok (.ifCond .eq 10, 3) := by decide +kernel
theorem dX11_seen_7 : decode cX11_seen 7 = .ok (.iload_n 2, 1) := by decide +kernel
theorem dX11_seen_8 : decode cX11_seen 8 = .ok (.invokestatic 147, 3) := by decide +kernel
theorem dX11_seen_11 : decode cX11_seen 11 = .ok (.ifCond .ne 6, 3) := by decide +kernel
theorem dX11_seen_14 : decode cX11_seen 14 = .ok (.bipush (-2), 2) := by decide +kernel
theorem dX11_seen_16 : decode cX11_seen 16 = .ok (.ireturn, 1) := by decide +kernel
theorem dX11_seen_17 : decode cX11_seen 17 = .ok (.aload_n 0, 1) := by decide +kernel
theorem dX11_seen_18 : decode cX11_seen 18 = .ok (.getfield 217, 3) := by decide +kernel
theorem dX11_seen_21 : decode cX11_seen 21 = .ok (.bipush 8, 2) := by decide +kernel
theorem dX11_seen_23 : decode cX11_seen 23 = .ok (.if_icmp .ne 6, 3) := by decide +kernel
theorem dX11_seen_26 : decode cX11_seen 26 = .ok (.bipush (-4), 2) := by decide +kernel
theorem dX11_seen_28 : decode cX11_seen 28 = .ok (.ireturn, 1) := by decide +kernel
theorem dX11_seen_29 : decode cX11_seen 29 = .ok (.aload_n 0, 1) := by decide +kernel
theorem dX11_seen_30 : decode cX11_seen 30 = .ok (.getfield 56, 3) := by decide +kernel
theorem dX11_seen_33 : decode cX11_seen 33 = .ok (.iconst 2, 1) := by decide +kernel
theorem dX11_seen_34 : decode cX11_seen 34 = .ok (.aload_n 0, 1) := by decide +kernel
theorem dX11_seen_35 : decode cX11_seen 35 = .ok (.getfield 217, 3) := by decide +kernel
theorem dX11_seen_38 : decode cX11_seen 38 = .ok (.imul, 1) := by decide +kernel
theorem dX11_seen_39 : decode cX11_seen 39 = .ok (.iload_n 1, 1) := by decide +kernel
theorem dX11_seen_40 : decode cX11_seen 40 = .ok (.iastore, 1) := by decide +kernel
theorem dX11_seen_41 : decode cX11_seen 41 = .ok (.aload_n 0, 1) := by decide +kernel
theorem dX11_seen_42 : decode cX11_seen 42 = .ok (.getfield 56, 3) := by decide +kernel
theorem dX11_seen_45 : decode cX11_seen 45 = .ok (.iconst 2, 1) := by decide +kernel
theorem dX11_seen_46 : decode cX11_seen 46 = .ok (.aload_n 0, 1) := by decide +kernel
theorem dX11_seen_47 : decode cX11_seen 47 = .ok (.getfield 217, 3) := by decide +kernel
theorem dX11_seen_50 : decode cX11_seen 50 = .ok (.imul, 1) := by decide +kernel
theorem dX11_seen_51 : decode cX11_seen 51 = .ok (.iconst 1, 1) := by decide +kernel
theorem dX11_seen_52 : decode cX11_seen 52 = .ok (.iadd, 1) := by decide +kernel
theorem dX11_seen_53 : decode cX11_seen 53 = .ok (.iload_n 2, 1) := by decide +kernel
theorem dX11_seen_54 : decode cX11_seen 54 = .ok (.iastore, 1) := by decide +kernel
theorem dX11_seen_55 : decode cX11_seen 55 = .ok (.aload_n 0, 1) := by decide +kernel
theorem dX11_seen_56 : decode cX11_seen 56 = .ok (.dup, 1) := by decide +kernel
theorem dX11_seen_57 : decode cX11_seen 57 = .ok (.getfield 217, 3) := by decide +kernel
theorem dX11_seen_60 : decode cX11_seen 60 = .ok (.iconst 1, 1) := by decide +kernel
theorem dX11_seen_61 : decode cX11_seen 61 = .ok (.iadd, 1) := by decide +kernel
theorem dX11_seen_62 : decode cX11_seen 62 = .ok (.putfield 217, 3) := by decide +kernel
theorem dX11_seen_65 : decode cX11_seen 65 = .ok (.aload_n 0, 1) := by decide +kernel
theorem dX11_seen_66 : decode cX11_seen 66 = .ok (.getfield 217, 3) := by decide +kernel
theorem dX11_seen_69 : decode cX11_seen 69 = .ok (.ireturn, 1) := by decide +kernel
theorem dX11_forget_0 : decode cX11_forget 0 = .ok (.aload_n 0, 1) := by decide +kernel
theorem dX11_forget_1 : decode cX11_forget 1 = .ok (.getfield 217, 3) := by decide +kernel
theorem dX11_forget_4 : decode cX11_forget 4 = .ok (.istore_n 1, 1) := by decide +kernel
theorem dX11_forget_5 : decode cX11_forget 5 = .ok (.aload_n 0, 1) := by decide +kernel
theorem dX11_forget_6 : decode cX11_forget 6 = .ok (.iconst 0, 1) := by decide +kernel
theorem dX11_forget_7 : decode cX11_forget 7 = .ok (.putfield 217, 3) := by decide +kernel
theorem dX11_forget_10 : decode cX11_forget 10 = .ok (.iload_n 1, 1) := by decide +kernel
theorem dX11_forget_11 : decode cX11_forget 11 = .ok (.ireturn, 1) := by decide +kernel
theorem dX11_read_0 : decode cX11_read 0 = .ok (.iload_n 1, 1) := by decide +kernel
theorem dX11_read_1 : decode cX11_read 1 = .ok (.invokestatic 71, 3) := by decide +kernel
theorem dX11_read_4 : decode cX11_read 4 = .ok (.ifCond .ne 6, 3) := by decide +kernel
theorem dX11_read_7 : decode cX11_read 7 = .ok (.bipush (-2), 2) := by decide +kernel
theorem dX11_read_9 : decode cX11_read 9 = .ok (.ireturn, 1) := by decide +kernel
theorem dX11_read_10 : decode cX11_read 10 = .ok (.aload_n 0, 1) := by decide +kernel
theorem dX11_read_11 : decode cX11_read 11 = .ok (.getfield 7, 3) := by decide +kernel
theorem dX11_read_14 : decode cX11_read 14 = .ok (.iload_n 1, 1) := by decide +kernel
theorem dX11_read_15 : decode cX11_read 15 = .ok (.iaload, 1) := by decide +kernel
theorem dX11_read_16 : decode cX11_read 16 = .ok (.ifCond .ge 9, 3) := by decide +kernel
theorem dX11_read_19 : decode cX11_read 19 = .ok (.aload_n 0, 1) := by decide +kernel
theorem dX11_read_20 : decode cX11_read 20 = .ok (.iconst 1, 1) := by decide +kernel
theorem dX11_read_21 : decode cX11_read 21 = .ok (.invokevirtual 77, 3) := by decide +kernel
theorem dX11_read_24 : decode cX11_read 24 = .ok (.ireturn, 1) := by decide +kernel
theorem dX11_read_25 : decode cX11_read 25 = .ok (.iconst 0, 1) := by decide +kernel
theorem dX11_read_26 : decode cX11_read 26 = .ok (.istore_n 2, 1) := by decide +kernel
theorem dX11_read_27 : decode cX11_read 27 = .ok (.iconst 1, 1) := by decide +kernel
theorem dX11_read_28 : decode cX11_read 28 = .ok (.istore_n 3, 1) := by decide +kernel
theorem dX11_read_29 : decode cX11_read 29 = .ok (.iload_n 3, 1) := by decide +kernel
theorem dX11_read_30 : decode cX11_read 30 = .ok (.ifCond .eq 73, 3) := by decide +kernel
theorem dX11_read_33 : decode cX11_read 33 = .ok (.iconst 2, 1) := by decide +kernel
theorem dX11_read_34 : decode cX11_read 34 = .ok (.iload_n 2, 1) := by decide +kernel
theorem dX11_read_35 : decode cX11_read 35 = .ok (.imul, 1) := by decide +kernel
theorem dX11_read_36 : decode cX11_read 36 = .ok (.iconst 2, 1) := by decide +kernel
theorem dX11_read_37 : decode cX11_read 37 = .ok (.iadd, 1) := by decide +kernel
theorem dX11_read_38 : decode cX11_read 38 = .ok (.aload_n 0, 1) := by decide +kernel
theorem dX11_read_39 : decode cX11_read 39 = .ok (.getfield 13, 3) := by decide +kernel
theorem dX11_read_42 : decode cX11_read 42 = .ok (.iload_n 1, 1) := by decide +kernel
theorem dX11_read_43 : decode cX11_read 43 = .ok (.iaload, 1) := by decide +kernel
theorem dX11_read_44 : decode cX11_read 44 = .ok (.if_icmp .gt 59, 3) := by decide +kernel
theorem dX11_read_47 : decode cX11_read 47 = .ok (.aload_n 0, 1) := by decide +kernel
theorem dX11_read_48 : decode cX11_read 48 = .ok (.aload_n 0, 1) := by decide +kernel
theorem dX11_read_49 : decode cX11_read 49 = .ok (.getfield 16, 3) := by decide +kernel
theorem dX11_read_52 : decode cX11_read 52 = .ok (.bipush 60, 2) := by decide +kernel
theorem dX11_read_54 : decode cX11_read 54 = .ok (.iload_n 1, 1) := by decide +kernel
theorem dX11_read_55 : decode cX11_read 55 = .ok (.imul, 1) := by decide +kernel
theorem dX11_read_56 : decode cX11_read 56 = .ok (.iconst 2, 1) := by decide +kernel
theorem dX11_read_57 : decode cX11_read 57 = .ok (.iload_n 2, 1) := by decide +kernel
theorem dX11_read_58 : decode cX11_read 58 = .ok (.imul, 1) := by decide +kernel
theorem dX11_read_59 : decode cX11_read 59 = .ok (.iadd, 1) := by decide +kernel
theorem dX11_read_60 : decode cX11_read 60 = .ok (.iaload, 1) := by decide +kernel
theorem dX11_read_61 : decode cX11_read 61 = .ok (.aload_n 0, 1) := by decide +kernel
theorem dX11_read_62 : decode cX11_read 62 = .ok (.getfield 16, 3) := by decide +kernel
theorem dX11_read_65 : decode cX11_read 65 = .ok (.bipush 60, 2) := by decide +kernel
theorem dX11_read_67 : decode cX11_read 67 = .ok (.iload_n 1, 1) := by decide +kernel
theorem dX11_read_68 : decode cX11_read 68 = .ok (.imul, 1) := by decide +kernel
theorem dX11_read_69 : decode cX11_read 69 = .ok (.iconst 2, 1) := by decide +kernel
theorem dX11_read_70 : decode cX11_read 70 = .ok (.iload_n 2, 1) := by decide +kernel
theorem dX11_read_71 : decode cX11_read 71 = .ok (.imul, 1) := by decide +kernel
theorem dX11_read_72 : decode cX11_read 72 = .ok (.iadd, 1) := by decide +kernel
theorem dX11_read_73 : decode cX11_read 73 = .ok (.iconst 1, 1) := by decide +kernel
theorem dX11_read_74 : decode cX11_read 74 = .ok (.iadd, 1) := by decide +kernel
theorem dX11_read_75 : decode cX11_read 75 = .ok (.iaload, 1) := by decide +kernel
theorem dX11_read_76 : decode cX11_read 76 = .ok (.invokevirtual 220, 3) := by decide +kernel
theorem dX11_read_79 : decode cX11_read 79 = .ok (.ifCond .lt 7, 3) := by decide +kernel
theorem dX11_read_82 : decode cX11_read 82 = .ok (.iconst 1, 1) := by decide +kernel
theorem dX11_read_83 : decode cX11_read 83 = .ok (.goto 4, 3) := by decide +kernel
theorem dX11_read_86 : decode cX11_read 86 = .ok (.iconst 0, 1) := by decide +kernel
theorem dX11_read_87 : decode cX11_read 87 = .ok (.istore_n 3, 1) := by decide +kernel
theorem dX11_read_88 : decode cX11_read 88 = .ok (.iload_n 2, 1) := by decide +kernel
theorem dX11_read_89 : decode cX11_read 89 = .ok (.iload_n 3, 1) := by decide +kernel
theorem dX11_read_90 : decode cX11_read 90 = .ok (.ifCond .eq 7, 3) := by decide +kernel
theorem dX11_read_93 : decode cX11_read 93 = .ok (.iconst 1, 1) := by decide +kernel
theorem dX11_read_94 : decode cX11_read 94 = .ok (.goto 4, 3) := by decide +kernel
theorem dX11_read_97 : decode cX11_read 97 = .ok (.iconst 0, 1) := by decide +kernel
theorem dX11_read_98 : decode cX11_read 98 = .ok (.iadd, 1) := by decide +kernel
theorem dX11_read_99 : decode cX11_read 99 = .ok (.istore_n 2, 1) := by decide +kernel
theorem dX11_read_100 : decode cX11_read 100 = .ok (.goto (-71), 3) := by decide +kernel
theorem dX11_read_103 : decode cX11_read 103 = .ok (.iload_n 2, 1) := by decide +kernel
theorem dX11_read_104 : decode cX11_read 104 = .ok (.ireturn, 1) := by decide +kernel
theorem dX11_standsFor_0 : decode cX11_standsFor 0 = .ok (.iconst 1, 1) := by decide +kernel
theorem dX11_standsFor_1 : decode cX11_standsFor 1 = .ok (.istore_n 3, 1) := by decide +kernel
theorem dX11_standsFor_2 : decode cX11_standsFor 2 = .ok (.iconst 0, 1) := by decide +kernel
theorem dX11_standsFor_3 : decode cX11_standsFor 3 = .ok (.istore 4, 2) := by decide +kernel
theorem dX11_standsFor_5 : decode cX11_standsFor 5 = .ok (.iload 4, 2) := by decide +kernel
theorem dX11_standsFor_7 : decode cX11_standsFor 7 = .ok (.aload_n 0, 1) := by decide +kernel
theorem dX11_standsFor_8 : decode cX11_standsFor 8 = .ok (.getfield 217, 3) := by decide +kernel
theorem dX11_standsFor_11 : decode cX11_standsFor 11 = .ok (.if_icmp .ge 56, 3) := by decide +kernel
theorem dX11_standsFor_14 : decode cX11_standsFor 14 = .ok (.iload_n 3, 1) := by decide +kernel
theorem dX11_standsFor_15 : decode cX11_standsFor 15 = .ok (.ifCond .eq 44, 3) := by decide +kernel
theorem dX11_standsFor_18 : decode cX11_standsFor 18 = .ok (.iload_n 1, 1) := by decide +kernel
theorem dX11_standsFor_19 : decode cX11_standsFor 19 = .ok (.aload_n 0, 1) := by decide +kernel
theorem dX11_standsFor_20 : decode cX11_standsFor 20 = .ok (.getfield 56, 3) := by decide +kernel
theorem dX11_standsFor_23 : decode cX11_standsFor 23 = .ok (.iconst 2, 1) := by decide +kernel
theorem dX11_standsFor_24 : decode cX11_standsFor 24 = .ok (.iload 4, 2) := by decide +kernel
theorem dX11_standsFor_26 : decode cX11_standsFor 26 = .ok (.imul, 1) := by decide +kernel
theorem dX11_standsFor_27 : decode cX11_standsFor 27 = .ok (.iaload, 1) := by decide +kernel
theorem dX11_standsFor_28 : decode cX11_standsFor 28 = .ok (.iand, 1) := by decide +kernel
theorem dX11_standsFor_29 : decode cX11_standsFor 29 = .ok (.ifCond .eq 7, 3) := by decide +kernel
theorem dX11_standsFor_32 : decode cX11_standsFor 32 = .ok (.iconst 1, 1) := by decide +kernel
theorem dX11_standsFor_33 : decode cX11_standsFor 33 = .ok (.goto 4, 3) := by decide +kernel
theorem dX11_standsFor_36 : decode cX11_standsFor 36 = .ok (.iconst 0, 1) := by decide +kernel
theorem dX11_standsFor_37 : decode cX11_standsFor 37 = .ok (.aload_n 0, 1) := by decide +kernel
theorem dX11_standsFor_38 : decode cX11_standsFor 38 = .ok (.getfield 56, 3) := by decide +kernel
theorem dX11_standsFor_41 : decode cX11_standsFor 41 = .ok (.iconst 2, 1) := by decide +kernel
theorem dX11_standsFor_42 : decode cX11_standsFor 42 = .ok (.iload 4, 2) := by decide +kernel
theorem dX11_standsFor_44 : decode cX11_standsFor 44 = .ok (.imul, 1) := by decide +kernel
theorem dX11_standsFor_45 : decode cX11_standsFor 45 = .ok (.iconst 1, 1) := by decide +kernel
theorem dX11_standsFor_46 : decode cX11_standsFor 46 = .ok (.iadd, 1) := by decide +kernel
theorem dX11_standsFor_47 : decode cX11_standsFor 47 = .ok (.iaload, 1) := by decide +kernel
theorem dX11_standsFor_48 : decode cX11_standsFor 48 = .ok (.iload_n 2, 1) := by decide +kernel
theorem dX11_standsFor_49 : decode cX11_standsFor 49 = .ok (.invokestatic 142, 3) := by decide +kernel
theorem dX11_standsFor_52 : decode cX11_standsFor 52 = .ok (.if_icmp .ne 7, 3) := by decide +kernel
theorem dX11_standsFor_55 : decode cX11_standsFor 55 = .ok (.iconst 1, 1) := by decide +kernel
theorem dX11_standsFor_56 : decode cX11_standsFor 56 = .ok (.goto 4, 3) := by decide +kernel
theorem dX11_standsFor_59 : decode cX11_standsFor 59 = .ok (.iconst 0, 1) := by decide +kernel
theorem dX11_standsFor_60 : decode cX11_standsFor 60 = .ok (.istore_n 3, 1) := by decide +kernel
theorem dX11_standsFor_61 : decode cX11_standsFor 61 = .ok (.iinc 4 1, 3) := by decide +kernel
theorem dX11_standsFor_64 : decode cX11_standsFor 64 = .ok (.goto (-59), 3) := by decide +kernel
theorem dX11_standsFor_67 : decode cX11_standsFor 67 = .ok (.iload_n 3, 1) := by decide +kernel
theorem dX11_standsFor_68 : decode cX11_standsFor 68 = .ok (.ireturn, 1) := by decide +kernel
theorem dX11_standsOf_0 : decode cX11_standsOf 0 = .ok (.iconst 0, 1) := by decide +kernel
theorem dX11_standsOf_1 : decode cX11_standsOf 1 = .ok (.istore_n 3, 1) := by decide +kernel
theorem dX11_standsOf_2 : decode cX11_standsOf 2 = .ok (.iconst (-1), 1) := by decide +kernel
theorem dX11_standsOf_3 : decode cX11_standsOf 3 = .ok (.istore 4, 2) := by decide +kernel
theorem dX11_standsOf_5 : decode cX11_standsOf 5 = .ok (.iconst 0, 1) := by decide +kernel
theorem dX11_standsOf_6 : decode cX11_standsOf 6 = .ok (.istore 5, 2) := by decide +kernel
theorem dX11_standsOf_8 : decode cX11_standsOf 8 = .ok (.iload 5, 2) := by decide +kernel
theorem dX11_standsOf_10 : decode cX11_standsOf 10 = .ok (.sipush 256, 3) := by decide +kernel
theorem dX11_standsOf_13 : decode cX11_standsOf 13 = .ok (.if_icmp .ge 50, 3) := by decide +kernel
theorem dX11_standsOf_16 : decode cX11_standsOf 16 = .ok (.aload_n 0, 1) := by decide +kernel
theorem dX11_standsOf_17 : decode cX11_standsOf 17 = .ok (.iload 5, 2) := by decide +kernel
theorem dX11_standsOf_19 : decode cX11_standsOf 19 = .ok (.iload_n 1, 1) := by decide +kernel
theorem dX11_standsOf_20 : decode cX11_standsOf 20 = .ok (.invokevirtual 222, 3) := by decide +kernel
theorem dX11_standsOf_23 : decode cX11_standsOf 23 = .ok (.ifCond .eq 34, 3) := by decide +kernel
theorem dX11_standsOf_26 : decode cX11_standsOf 26 = .ok (.iinc 3 1, 3) := by decide +kernel
theorem dX11_standsOf_29 : decode cX11_standsOf 29 = .ok (.iload 4, 2) := by decide +kernel
theorem dX11_standsOf_31 : decode cX11_standsOf 31 = .ok (.iconst (-1), 1) := by decide +kernel
theorem dX11_standsOf_32 : decode cX11_standsOf 32 = .ok (.if_icmp .eq 16, 3) := by decide +kernel
theorem dX11_standsOf_35 : decode cX11_standsOf 35 = .ok (.iload 5, 2) := by decide +kernel
theorem dX11_standsOf_37 : decode cX11_standsOf 37 = .ok (.invokestatic 170, 3) := by decide +kernel
theorem dX11_standsOf_40 : decode cX11_standsOf 40 = .ok (.iload 4, 2) := by decide +kernel
theorem dX11_standsOf_42 : decode cX11_standsOf 42 = .ok (.invokestatic 170, 3) := by decide +kernel
theorem dX11_standsOf_45 : decode cX11_standsOf 45 = .ok (.if_icmp .ge 8, 3) := by decide +kernel
theorem dX11_standsOf_48 : decode cX11_standsOf 48 = .ok (.iload 5, 2) := by decide +kernel
theorem dX11_standsOf_50 : decode cX11_standsOf 50 = .ok (.goto 5, 3) := by decide +kernel
theorem dX11_standsOf_53 : decode cX11_standsOf 53 = .ok (.iload 4, 2) := by decide +kernel
theorem dX11_standsOf_55 : decode cX11_standsOf 55 = .ok (.istore 4, 2) := by decide +kernel
theorem dX11_standsOf_57 : decode cX11_standsOf 57 = .ok (.iinc 5 1, 3) := by decide +kernel
theorem dX11_standsOf_60 : decode cX11_standsOf 60 = .ok (.goto (-52), 3) := by decide +kernel
theorem dX11_standsOf_63 : decode cX11_standsOf 63 = .ok (.iload_n 2, 1) := by decide +kernel
theorem dX11_standsOf_64 : decode cX11_standsOf 64 = .ok (.ifCond .ne 7, 3) := by decide +kernel
theorem dX11_standsOf_67 : decode cX11_standsOf 67 = .ok (.iload_n 3, 1) := by decide +kernel
theorem dX11_standsOf_68 : decode cX11_standsOf 68 = .ok (.goto 5, 3) := by decide +kernel
theorem dX11_standsOf_71 : decode cX11_standsOf 71 = .ok (.iload 4, 2) := by decide +kernel
theorem dX11_standsOf_73 : decode cX11_standsOf 73 = .ok (.ireturn, 1) := by decide +kernel
theorem dX11_stands_0 : decode cX11_stands 0 = .ok (.iload_n 1, 1) := by decide +kernel
theorem dX11_stands_1 : decode cX11_stands 1 = .ok (.invokestatic 158, 3) := by decide +kernel
theorem dX11_stands_4 : decode cX11_stands 4 = .ok (.ifCond .eq 19, 3) := by decide +kernel
theorem dX11_stands_7 : decode cX11_stands 7 = .ok (.iload_n 2, 1) := by decide +kernel
theorem dX11_stands_8 : decode cX11_stands 8 = .ok (.invokestatic 90, 3) := by decide +kernel
theorem dX11_stands_11 : decode cX11_stands 11 = .ok (.ifCond .eq 12, 3) := by decide +kernel
theorem dX11_stands_14 : decode cX11_stands 14 = .ok (.aload_n 0, 1) := by decide +kernel
theorem dX11_stands_15 : decode cX11_stands 15 = .ok (.iload_n 1, 1) := by decide +kernel
theorem dX11_stands_16 : decode cX11_stands 16 = .ok (.iload_n 2, 1) := by decide +kernel
theorem dX11_stands_17 : decode cX11_stands 17 = .ok (.invokevirtual 225, 3) := by decide +kernel
theorem dX11_stands_20 : decode cX11_stands 20 = .ok (.goto 5, 3) := by decide +kernel
theorem dX11_stands_23 : decode cX11_stands 23 = .ok (.bipush (-2), 2) := by decide +kernel
theorem dX11_stands_25 : decode cX11_stands 25 = .ok (.ireturn, 1) := by decide +kernel
theorem dX11_watchOf_0 : decode cX11_watchOf 0 = .ok (.aload_n 0, 1) := by decide +kernel
theorem dX11_watchOf_1 : decode cX11_watchOf 1 = .ok (.iload_n 1, 1) := by decide +kernel
theorem dX11_watchOf_2 : decode cX11_watchOf 2 = .ok (.iconst 0, 1) := by decide +kernel
theorem dX11_watchOf_3 : decode cX11_watchOf 3 = .ok (.invokevirtual 225, 3) := by decide +kernel
theorem dX11_watchOf_6 : decode cX11_watchOf 6 = .ok (.istore_n 2, 1) := by decide +kernel
theorem dX11_watchOf_7 : decode cX11_watchOf 7 = .ok (.iconst (-1), 1) := by decide +kernel
theorem dX11_watchOf_8 : decode cX11_watchOf 8 = .ok (.istore_n 3, 1) := by decide +kernel
theorem dX11_watchOf_9 : decode cX11_watchOf 9 = .ok (.iconst 0, 1) := by decide +kernel
theorem dX11_watchOf_10 : decode cX11_watchOf 10 = .ok (.istore 4, 2) := by decide +kernel
theorem dX11_watchOf_12 : decode cX11_watchOf 12 = .ok (.iconst 0, 1) := by decide +kernel
theorem dX11_watchOf_13 : decode cX11_watchOf 13 = .ok (.istore 5, 2) := by decide +kernel
theorem dX11_watchOf_15 : decode cX11_watchOf 15 = .ok (.iload 5, 2) := by decide +kernel
theorem dX11_watchOf_17 : decode cX11_watchOf 17 = .ok (.bipush 8, 2) := by decide +kernel
theorem dX11_watchOf_19 : decode cX11_watchOf 19 = .ok (.if_icmp .ge 133, 3) := by decide +kernel
theorem dX11_watchOf_22 : decode cX11_watchOf 22 = .ok (.iload_n 2, 1) := by decide +kernel
theorem dX11_watchOf_23 : decode cX11_watchOf 23 = .ok (.ifCond .le 129, 3) := by decide +kernel
theorem dX11_watchOf_26 : decode cX11_watchOf 26 = .ok (.iconst 0, 1) := by decide +kernel
theorem dX11_watchOf_27 : decode cX11_watchOf 27 = .ok (.istore 6, 2) := by decide +kernel
theorem dX11_watchOf_29 : decode cX11_watchOf 29 = .ok (.iconst 0, 1) := by decide +kernel
theorem dX11_watchOf_30 : decode cX11_watchOf 30 = .ok (.istore 7, 2) := by decide +kernel
theorem dX11_watchOf_32 : decode cX11_watchOf 32 = .ok (.iload 7, 2) := by decide +kernel
theorem dX11_watchOf_34 : decode cX11_watchOf 34 = .ok (.sipush 256, 3) := by decide +kernel
theorem dX11_watchOf_37 : decode cX11_watchOf 37 = .ok (.if_icmp .ge 39, 3) := by decide +kernel
theorem dX11_watchOf_40 : decode cX11_watchOf 40 = .ok (.iload 6, 2) := by decide +kernel
theorem dX11_watchOf_42 : decode cX11_watchOf 42 = .ok (.iload 7, 2) := by decide +kernel
theorem dX11_watchOf_44 : decode cX11_watchOf 44 = .ok (.iload 5, 2) := by decide +kernel
theorem dX11_watchOf_46 : decode cX11_watchOf 46 = .ok (.invokestatic 142, 3) := by decide +kernel
theorem dX11_watchOf_49 : decode cX11_watchOf 49 = .ok (.ifCond .eq 17, 3) := by decide +kernel
theorem dX11_watchOf_52 : decode cX11_watchOf 52 = .ok (.aload_n 0, 1) := by decide +kernel
theorem dX11_watchOf_53 : decode cX11_watchOf 53 = .ok (.iload 7, 2) := by decide +kernel
theorem dX11_watchOf_55 : decode cX11_watchOf 55 = .ok (.iload_n 1, 1) := by decide +kernel
theorem dX11_watchOf_56 : decode cX11_watchOf 56 = .ok (.invokevirtual 222, 3) := by decide +kernel
theorem dX11_watchOf_59 : decode cX11_watchOf 59 = .ok (.ifCond .eq 7, 3) := by decide +kernel
theorem dX11_watchOf_62 : decode cX11_watchOf 62 = .ok (.iconst 1, 1) := by decide +kernel
theorem dX11_watchOf_63 : decode cX11_watchOf 63 = .ok (.goto 4, 3) := by decide +kernel
theorem dX11_watchOf_66 : decode cX11_watchOf 66 = .ok (.iconst 0, 1) := by decide +kernel
theorem dX11_watchOf_67 : decode cX11_watchOf 67 = .ok (.iadd, 1) := by decide +kernel
theorem dX11_watchOf_68 : decode cX11_watchOf 68 = .ok (.istore 6, 2) := by decide +kernel
theorem dX11_watchOf_70 : decode cX11_watchOf 70 = .ok (.iinc 7 1, 3) := by decide +kernel
theorem dX11_watchOf_73 : decode cX11_watchOf 73 = .ok (.goto (-41), 3) := by decide +kernel
theorem dX11_watchOf_76 : decode cX11_watchOf 76 = .ok (.iconst 2, 1) := by decide +kernel
theorem dX11_watchOf_77 : decode cX11_watchOf 77 = .ok (.iload 6, 2) := by decide +kernel
theorem dX11_watchOf_79 : decode cX11_watchOf 79 = .ok (.imul, 1) := by decide +kernel
theorem dX11_watchOf_80 : decode cX11_watchOf 80 = .ok (.iload_n 2, 1) := by decide +kernel
theorem dX11_watchOf_81 : decode cX11_watchOf 81 = .ok (.if_icmp .le 12, 3) := by decide +kernel
theorem dX11_watchOf_84 : decode cX11_watchOf 84 = .ok (.iconst 2, 1) := by decide +kernel
theorem dX11_watchOf_85 : decode cX11_watchOf 85 = .ok (.iload 6, 2) := by decide +kernel
theorem dX11_watchOf_87 : decode cX11_watchOf 87 = .ok (.imul, 1) := by decide +kernel
end
section
theorem dX11_watchOf_88 : decode cX11_watchOf 88 = .ok (.iload_n 2, 1) := by decide +kernel
theorem dX11_watchOf_89 : decode cX11_watchOf 89 = .ok (.isub, 1) := by decide +kernel
theorem dX11_watchOf_90 : decode cX11_watchOf 90 = .ok (.goto 9, 3) := by decide +kernel
theorem dX11_watchOf_93 : decode cX11_watchOf 93 = .ok (.iload_n 2, 1) := by decide +kernel
theorem dX11_watchOf_94 : decode cX11_watchOf 94 = .ok (.iconst 2, 1) := by decide +kernel
theorem dX11_watchOf_95 : decode cX11_watchOf 95 = .ok (.iload 6, 2) := by decide +kernel
theorem dX11_watchOf_97 : decode cX11_watchOf 97 = .ok (.imul, 1) := by decide +kernel
theorem dX11_watchOf_98 : decode cX11_watchOf 98 = .ok (.isub, 1) := by decide +kernel
theorem dX11_watchOf_99 : decode cX11_watchOf 99 = .ok (.istore 7, 2) := by decide +kernel
theorem dX11_watchOf_101 : decode cX11_watchOf 101 = .ok (.iload_n 3, 1) := by decide +kernel
theorem dX11_watchOf_102 : decode cX11_watchOf 102 = .ok (.iconst (-1), 1) := by decide +kernel
theorem dX11_watchOf_103 : decode cX11_watchOf 103 = .ok (.if_icmp .eq 10, 3) := by decide +kernel
theorem dX11_watchOf_106 : decode cX11_watchOf 106 = .ok (.iload 7, 2) := by decide +kernel
theorem dX11_watchOf_108 : decode cX11_watchOf 108 = .ok (.iload 4, 2) := by decide +kernel
theorem dX11_watchOf_110 : decode cX11_watchOf 110 = .ok (.if_icmp .ge 7, 3) := by decide +kernel
theorem dX11_watchOf_113 : decode cX11_watchOf 113 = .ok (.iconst 1, 1) := by decide +kernel
theorem dX11_watchOf_114 : decode cX11_watchOf 114 = .ok (.goto 4, 3) := by decide +kernel
theorem dX11_watchOf_117 : decode cX11_watchOf 117 = .ok (.iconst 0, 1) := by decide +kernel
theorem dX11_watchOf_118 : decode cX11_watchOf 118 = .ok (.istore 8, 2) := by decide +kernel
theorem dX11_watchOf_120 : decode cX11_watchOf 120 = .ok (.iload 8, 2) := by decide +kernel
theorem dX11_watchOf_122 : decode cX11_watchOf 122 = .ok (.ifCond .eq 8, 3) := by decide +kernel
theorem dX11_watchOf_125 : decode cX11_watchOf 125 = .ok (.iload 5, 2) := by decide +kernel
theorem dX11_watchOf_127 : decode cX11_watchOf 127 = .ok (.goto 4, 3) := by decide +kernel
theorem dX11_watchOf_130 : decode cX11_watchOf 130 = .ok (.iload_n 3, 1) := by decide +kernel
theorem dX11_watchOf_131 : decode cX11_watchOf 131 = .ok (.istore_n 3, 1) := by decide +kernel
theorem dX11_watchOf_132 : decode cX11_watchOf 132 = .ok (.iload 8, 2) := by decide +kernel
theorem dX11_watchOf_134 : decode cX11_watchOf 134 = .ok (.ifCond .eq 8, 3) := by decide +kernel
theorem dX11_watchOf_137 : decode cX11_watchOf 137 = .ok (.iload 7, 2) := by decide +kernel
theorem dX11_watchOf_139 : decode cX11_watchOf 139 = .ok (.goto 5, 3) := by decide +kernel
theorem dX11_watchOf_142 : decode cX11_watchOf 142 = .ok (.iload 4, 2) := by decide +kernel
theorem dX11_watchOf_144 : decode cX11_watchOf 144 = .ok (.istore 4, 2) := by decide +kernel
theorem dX11_watchOf_146 : decode cX11_watchOf 146 = .ok (.iinc 5 1, 3) := by decide +kernel
theorem dX11_watchOf_149 : decode cX11_watchOf 149 = .ok (.goto (-134), 3) := by decide +kernel
theorem dX11_watchOf_152 : decode cX11_watchOf 152 = .ok (.iload_n 3, 1) := by decide +kernel
theorem dX11_watchOf_153 : decode cX11_watchOf 153 = .ok (.ireturn, 1) := by decide +kernel
theorem dX11_watch_0 : decode cX11_watch 0 = .ok (.iload_n 1, 1) := by decide +kernel
theorem dX11_watch_1 : decode cX11_watch 1 = .ok (.invokestatic 158, 3) := by decide +kernel
theorem dX11_watch_4 : decode cX11_watch 4 = .ok (.ifCond .eq 11, 3) := by decide +kernel
theorem dX11_watch_7 : decode cX11_watch 7 = .ok (.aload_n 0, 1) := by decide +kernel
theorem dX11_watch_8 : decode cX11_watch 8 = .ok (.iload_n 1, 1) := by decide +kernel
theorem dX11_watch_9 : decode cX11_watch 9 = .ok (.invokevirtual 228, 3) := by decide +kernel
theorem dX11_watch_12 : decode cX11_watch 12 = .ok (.goto 5, 3) := by decide +kernel
theorem dX11_watch_15 : decode cX11_watch 15 = .ok (.bipush (-2), 2) := by decide +kernel
theorem dX11_watch_17 : decode cX11_watch 17 = .ok (.ireturn, 1) := by decide +kernel
theorem dX11_movedOf_0 : decode cX11_movedOf 0 = .ok (.iconst 0, 1) := by decide +kernel
theorem dX11_movedOf_1 : decode cX11_movedOf 1 = .ok (.istore_n 2, 1) := by decide +kernel
theorem dX11_movedOf_2 : decode cX11_movedOf 2 = .ok (.iconst 0, 1) := by decide +kernel
theorem dX11_movedOf_3 : decode cX11_movedOf 3 = .ok (.istore_n 3, 1) := by decide +kernel
theorem dX11_movedOf_4 : decode cX11_movedOf 4 = .ok (.iload_n 3, 1) := by decide +kernel
theorem dX11_movedOf_5 : decode cX11_movedOf 5 = .ok (.bipush 8, 2) := by decide +kernel
theorem dX11_movedOf_7 : decode cX11_movedOf 7 = .ok (.if_icmp .ge 36, 3) := by decide +kernel
theorem dX11_movedOf_10 : decode cX11_movedOf 10 = .ok (.iload_n 2, 1) := by decide +kernel
theorem dX11_movedOf_11 : decode cX11_movedOf 11 = .ok (.aload_n 0, 1) := by decide +kernel
theorem dX11_movedOf_12 : decode cX11_movedOf 12 = .ok (.getfield 34, 3) := by decide +kernel
theorem dX11_movedOf_15 : decode cX11_movedOf 15 = .ok (.aload_n 0, 1) := by decide +kernel
theorem dX11_movedOf_16 : decode cX11_movedOf 16 = .ok (.getfield 150, 3) := by decide +kernel
theorem dX11_movedOf_19 : decode cX11_movedOf 19 = .ok (.iconst 1, 1) := by decide +kernel
theorem dX11_movedOf_20 : decode cX11_movedOf 20 = .ok (.iload_n 3, 1) := by decide +kernel
theorem dX11_movedOf_21 : decode cX11_movedOf 21 = .ok (.ishl, 1) := by decide +kernel
theorem dX11_movedOf_22 : decode cX11_movedOf 22 = .ok (.ixor, 1) := by decide +kernel
theorem dX11_movedOf_23 : decode cX11_movedOf 23 = .ok (.iaload, 1) := by decide +kernel
theorem dX11_movedOf_24 : decode cX11_movedOf 24 = .ok (.iload_n 1, 1) := by decide +kernel
theorem dX11_movedOf_25 : decode cX11_movedOf 25 = .ok (.if_icmp .ne 9, 3) := by decide +kernel
theorem dX11_movedOf_28 : decode cX11_movedOf 28 = .ok (.iconst 1, 1) := by decide +kernel
theorem dX11_movedOf_29 : decode cX11_movedOf 29 = .ok (.iload_n 3, 1) := by decide +kernel
theorem dX11_movedOf_30 : decode cX11_movedOf 30 = .ok (.ishl, 1) := by decide +kernel
theorem dX11_movedOf_31 : decode cX11_movedOf 31 = .ok (.goto 4, 3) := by decide +kernel
theorem dX11_movedOf_34 : decode cX11_movedOf 34 = .ok (.iconst 0, 1) := by decide +kernel
theorem dX11_movedOf_35 : decode cX11_movedOf 35 = .ok (.ior, 1) := by decide +kernel
theorem dX11_movedOf_36 : decode cX11_movedOf 36 = .ok (.istore_n 2, 1) := by decide +kernel
theorem dX11_movedOf_37 : decode cX11_movedOf 37 = .ok (.iinc 3 1, 3) := by decide +kernel
theorem dX11_movedOf_40 : decode cX11_movedOf 40 = .ok (.goto (-36), 3) := by decide +kernel
theorem dX11_movedOf_43 : decode cX11_movedOf 43 = .ok (.iload_n 2, 1) := by decide +kernel
theorem dX11_movedOf_44 : decode cX11_movedOf 44 = .ok (.ireturn, 1) := by decide +kernel
theorem dX11_moved_0 : decode cX11_moved 0 = .ok (.aload_n 0, 1) := by decide +kernel
theorem dX11_moved_1 : decode cX11_moved 1 = .ok (.invokevirtual 153, 3) := by decide +kernel
theorem dX11_moved_4 : decode cX11_moved 4 = .ok (.iload_n 1, 1) := by decide +kernel
theorem dX11_moved_5 : decode cX11_moved 5 = .ok (.invokestatic 147, 3) := by decide +kernel
theorem dX11_moved_8 : decode cX11_moved 8 = .ok (.ifCond .eq 11, 3) := by decide +kernel
theorem dX11_moved_11 : decode cX11_moved 11 = .ok (.aload_n 0, 1) := by decide +kernel
theorem dX11_moved_12 : decode cX11_moved 12 = .ok (.iload_n 1, 1) := by decide +kernel
theorem dX11_moved_13 : decode cX11_moved 13 = .ok (.invokevirtual 231, 3) := by decide +kernel
theorem dX11_moved_16 : decode cX11_moved 16 = .ok (.goto 5, 3) := by decide +kernel
theorem dX11_moved_19 : decode cX11_moved 19 = .ok (.bipush (-2), 2) := by decide +kernel
theorem dX11_moved_21 : decode cX11_moved 21 = .ok (.ireturn, 1) := by decide +kernel
theorem dX11_catBy_0 : decode cX11_catBy 0 = .ok (.aload_n 0, 1) := by decide +kernel
theorem dX11_catBy_1 : decode cX11_catBy 1 = .ok (.getfield 34, 3) := by decide +kernel
theorem dX11_catBy_4 : decode cX11_catBy 4 = .ok (.aload_n 0, 1) := by decide +kernel
theorem dX11_catBy_5 : decode cX11_catBy 5 = .ok (.getfield 150, 3) := by decide +kernel
theorem dX11_catBy_8 : decode cX11_catBy 8 = .ok (.iaload, 1) := by decide +kernel
theorem dX11_catBy_9 : decode cX11_catBy 9 = .ok (.iload_n 2, 1) := by decide +kernel
theorem dX11_catBy_10 : decode cX11_catBy 10 = .ok (.invokestatic 142, 3) := by decide +kernel
theorem dX11_catBy_13 : decode cX11_catBy 13 = .ok (.ifCond .eq 13, 3) := by decide +kernel
theorem dX11_catBy_16 : decode cX11_catBy 16 = .ok (.bipush 8, 2) := by decide +kernel
theorem dX11_catBy_18 : decode cX11_catBy 18 = .ok (.bipush 16, 2) := by decide +kernel
theorem dX11_catBy_20 : decode cX11_catBy 20 = .ok (.iload_n 1, 1) := by decide +kernel
theorem dX11_catBy_21 : decode cX11_catBy 21 = .ok (.isub, 1) := by decide +kernel
theorem dX11_catBy_22 : decode cX11_catBy 22 = .ok (.imul, 1) := by decide +kernel
theorem dX11_catBy_23 : decode cX11_catBy 23 = .ok (.goto 4, 3) := by decide +kernel
theorem dX11_catBy_26 : decode cX11_catBy 26 = .ok (.iconst 0, 1) := by decide +kernel
theorem dX11_catBy_27 : decode cX11_catBy 27 = .ok (.istore_n 3, 1) := by decide +kernel
theorem dX11_catBy_28 : decode cX11_catBy 28 = .ok (.iconst 0, 1) := by decide +kernel
theorem dX11_catBy_29 : decode cX11_catBy 29 = .ok (.istore 4, 2) := by decide +kernel
theorem dX11_catBy_31 : decode cX11_catBy 31 = .ok (.iload 4, 2) := by decide +kernel
theorem dX11_catBy_33 : decode cX11_catBy 33 = .ok (.bipush 8, 2) := by decide +kernel
theorem dX11_catBy_35 : decode cX11_catBy 35 = .ok (.if_icmp .ge 38, 3) := by decide +kernel
theorem dX11_catBy_38 : decode cX11_catBy 38 = .ok (.iload_n 3, 1) := by decide +kernel
theorem dX11_catBy_39 : decode cX11_catBy 39 = .ok (.aload_n 0, 1) := by decide +kernel
theorem dX11_catBy_40 : decode cX11_catBy 40 = .ok (.getfield 34, 3) := by decide +kernel
theorem dX11_catBy_43 : decode cX11_catBy 43 = .ok (.aload_n 0, 1) := by decide +kernel
theorem dX11_catBy_44 : decode cX11_catBy 44 = .ok (.getfield 150, 3) := by decide +kernel
theorem dX11_catBy_47 : decode cX11_catBy 47 = .ok (.iconst 1, 1) := by decide +kernel
theorem dX11_catBy_48 : decode cX11_catBy 48 = .ok (.iload 4, 2) := by decide +kernel
theorem dX11_catBy_50 : decode cX11_catBy 50 = .ok (.ishl, 1) := by decide +kernel
theorem dX11_catBy_51 : decode cX11_catBy 51 = .ok (.ixor, 1) := by decide +kernel
theorem dX11_catBy_52 : decode cX11_catBy 52 = .ok (.iaload, 1) := by decide +kernel
theorem dX11_catBy_53 : decode cX11_catBy 53 = .ok (.iload_n 2, 1) := by decide +kernel
theorem dX11_catBy_54 : decode cX11_catBy 54 = .ok (.invokestatic 142, 3) := by decide +kernel
theorem dX11_catBy_57 : decode cX11_catBy 57 = .ok (.ifCond .eq 7, 3) := by decide +kernel
theorem dX11_catBy_60 : decode cX11_catBy 60 = .ok (.iload_n 1, 1) := by decide +kernel
theorem dX11_catBy_61 : decode cX11_catBy 61 = .ok (.goto 4, 3) := by decide +kernel
theorem dX11_catBy_64 : decode cX11_catBy 64 = .ok (.iconst 0, 1) := by decide +kernel
theorem dX11_catBy_65 : decode cX11_catBy 65 = .ok (.iadd, 1) := by decide +kernel
theorem dX11_catBy_66 : decode cX11_catBy 66 = .ok (.istore_n 3, 1) := by decide +kernel
theorem dX11_catBy_67 : decode cX11_catBy 67 = .ok (.iinc 4 1, 3) := by decide +kernel
theorem dX11_catBy_70 : decode cX11_catBy 70 = .ok (.goto (-39), 3) := by decide +kernel
theorem dX11_catBy_73 : decode cX11_catBy 73 = .ok (.iload_n 3, 1) := by decide +kernel
theorem dX11_catBy_74 : decode cX11_catBy 74 = .ok (.ireturn, 1) := by decide +kernel
theorem dX11_cat_0 : decode cX11_cat 0 = .ok (.aload_n 0, 1) := by decide +kernel
theorem dX11_cat_1 : decode cX11_cat 1 = .ok (.invokevirtual 153, 3) := by decide +kernel
theorem dX11_cat_4 : decode cX11_cat 4 = .ok (.iload_n 1, 1) := by decide +kernel
theorem dX11_cat_5 : decode cX11_cat 5 = .ok (.i2l, 1) := by decide +kernel
theorem dX11_cat_6 : decode cX11_cat 6 = .ok (.lconst 0, 1) := by decide +kernel
theorem dX11_cat_7 : decode cX11_cat 7 = .ok (.ldc2_w 234, 3) := by decide +kernel
theorem dX11_cat_10 : decode cX11_cat 10 = .ok (.invokestatic 61, 3) := by decide +kernel
theorem dX11_cat_13 : decode cX11_cat 13 = .ok (.ifCond .eq 34, 3) := by decide +kernel
theorem dX11_cat_16 : decode cX11_cat 16 = .ok (.iload_n 2, 1) := by decide +kernel
theorem dX11_cat_17 : decode cX11_cat 17 = .ok (.invokestatic 158, 3) := by decide +kernel
theorem dX11_cat_20 : decode cX11_cat 20 = .ok (.ifCond .eq 27, 3) := by decide +kernel
theorem dX11_cat_23 : decode cX11_cat 23 = .ok (.iload_n 3, 1) := by decide +kernel
theorem dX11_cat_24 : decode cX11_cat 24 = .ok (.invokestatic 90, 3) := by decide +kernel
theorem dX11_cat_27 : decode cX11_cat 27 = .ok (.ifCond .eq 20, 3) := by decide +kernel
theorem dX11_cat_30 : decode cX11_cat 30 = .ok (.aload_n 0, 1) := by decide +kernel
theorem dX11_cat_31 : decode cX11_cat 31 = .ok (.iload_n 1, 1) := by decide +kernel
theorem dX11_cat_32 : decode cX11_cat 32 = .ok (.iload_n 2, 1) := by decide +kernel
theorem dX11_cat_33 : decode cX11_cat 33 = .ok (.invokevirtual 236, 3) := by decide +kernel
theorem dX11_cat_36 : decode cX11_cat 36 = .ok (.i2l, 1) := by decide +kernel
theorem dX11_cat_37 : decode cX11_cat 37 = .ok (.ldc2_w 239, 3) := by decide +kernel
theorem dX11_cat_40 : decode cX11_cat 40 = .ok (.iload_n 3, 1) := by decide +kernel
theorem dX11_cat_41 : decode cX11_cat 41 = .ok (.invokestatic 241, 3) := by decide +kernel
theorem dX11_cat_44 : decode cX11_cat 44 = .ok (.goto 8, 3) := by decide +kernel
theorem dX11_cat_47 : decode cX11_cat 47 = .ok (.bipush (-2), 2) := by decide +kernel
theorem dX11_cat_49 : decode cX11_cat 49 = .ok (.invokestatic 245, 3) := by decide +kernel
theorem dX11_cat_52 : decode cX11_cat 52 = .ok (.lreturn, 1) := by decide +kernel
theorem dX11_letOf_0 : decode cX11_letOf 0 = .ok (.aload_n 0, 1) := by decide +kernel
theorem dX11_letOf_1 : decode cX11_letOf 1 = .ok (.iload_n 1, 1) := by decide +kernel
theorem dX11_letOf_2 : decode cX11_letOf 2 = .ok (.iload_n 2, 1) := by decide +kernel
theorem dX11_letOf_3 : decode cX11_letOf 3 = .ok (.invokevirtual 236, 3) := by decide +kernel
theorem dX11_letOf_6 : decode cX11_letOf 6 = .ok (.aload_n 0, 1) := by decide +kernel
theorem dX11_letOf_7 : decode cX11_letOf 7 = .ok (.getfield 34, 3) := by decide +kernel
theorem dX11_letOf_10 : decode cX11_letOf 10 = .ok (.aload_n 0, 1) := by decide +kernel
theorem dX11_letOf_11 : decode cX11_letOf 11 = .ok (.getfield 150, 3) := by decide +kernel
theorem dX11_letOf_14 : decode cX11_letOf 14 = .ok (.iaload, 1) := by decide +kernel
theorem dX11_letOf_15 : decode cX11_letOf 15 = .ok (.iload_n 2, 1) := by decide +kernel
theorem dX11_letOf_16 : decode cX11_letOf 16 = .ok (.invokestatic 142, 3) := by decide +kernel
theorem dX11_letOf_19 : decode cX11_letOf 19 = .ok (.ifCond .eq 9, 3) := by decide +kernel
theorem dX11_letOf_22 : decode cX11_letOf 22 = .ok (.sipush 128, 3) := by decide +kernel
theorem dX11_letOf_25 : decode cX11_letOf 25 = .ok (.goto 4, 3) := by decide +kernel
theorem dX11_letOf_28 : decode cX11_letOf 28 = .ok (.iconst 0, 1) := by decide +kernel
theorem dX11_letOf_29 : decode cX11_letOf 29 = .ok (.if_icmp .ge 7, 3) := by decide +kernel
theorem dX11_letOf_32 : decode cX11_letOf 32 = .ok (.iconst 1, 1) := by decide +kernel
theorem dX11_letOf_33 : decode cX11_letOf 33 = .ok (.goto 4, 3) := by decide +kernel
theorem dX11_letOf_36 : decode cX11_letOf 36 = .ok (.iconst 0, 1) := by decide +kernel
theorem dX11_letOf_37 : decode cX11_letOf 37 = .ok (.ireturn, 1) := by decide +kernel
theorem dX11_let_0 : decode cX11_let 0 = .ok (.aload_n 0, 1) := by decide +kernel
theorem dX11_let_1 : decode cX11_let 1 = .ok (.invokevirtual 153, 3) := by decide +kernel
theorem dX11_let_4 : decode cX11_let 4 = .ok (.iload_n 1, 1) := by decide +kernel
theorem dX11_let_5 : decode cX11_let 5 = .ok (.i2l, 1) := by decide +kernel
theorem dX11_let_6 : decode cX11_let 6 = .ok (.lconst 0, 1) := by decide +kernel
theorem dX11_let_7 : decode cX11_let 7 = .ok (.ldc2_w 234, 3) := by decide +kernel
theorem dX11_let_10 : decode cX11_let 10 = .ok (.invokestatic 61, 3) := by decide +kernel
theorem dX11_let_13 : decode cX11_let 13 = .ok (.ifCond .eq 19, 3) := by decide +kernel
theorem dX11_let_16 : decode cX11_let 16 = .ok (.iload_n 2, 1) := by decide +kernel
theorem dX11_let_17 : decode cX11_let 17 = .ok (.invokestatic 158, 3) := by decide +kernel
theorem dX11_let_20 : decode cX11_let 20 = .ok (.ifCond .eq 12, 3) := by decide +kernel
theorem dX11_let_23 : decode cX11_let 23 = .ok (.aload_n 0, 1) := by decide +kernel
theorem dX11_let_24 : decode cX11_let 24 = .ok (.iload_n 1, 1) := by decide +kernel
theorem dX11_let_25 : decode cX11_let 25 = .ok (.iload_n 2, 1) := by decide +kernel
theorem dX11_let_26 : decode cX11_let 26 = .ok (.invokevirtual 249, 3) := by decide +kernel
theorem dX11_let_29 : decode cX11_let 29 = .ok (.goto 5, 3) := by decide +kernel
theorem dX11_let_32 : decode cX11_let 32 = .ok (.bipush (-2), 2) := by decide +kernel
theorem dX11_let_34 : decode cX11_let 34 = .ok (.ireturn, 1) := by decide +kernel
theorem dX11_lotOf_0 : decode cX11_lotOf 0 = .ok (.iload_n 1, 1) := by decide +kernel
theorem dX11_lotOf_1 : decode cX11_lotOf 1 = .ok (.istore 4, 2) := by decide +kernel
theorem dX11_lotOf_3 : decode cX11_lotOf 3 = .ok (.aload_n 0, 1) := by decide +kernel
theorem dX11_lotOf_4 : decode cX11_lotOf 4 = .ok (.getfield 150, 3) := by decide +kernel
theorem dX11_lotOf_7 : decode cX11_lotOf 7 = .ok (.istore 5, 2) := by decide +kernel
theorem dX11_lotOf_9 : decode cX11_lotOf 9 = .ok (.iconst 0, 1) := by decide +kernel
theorem dX11_lotOf_10 : decode cX11_lotOf 10 = .ok (.istore 6, 2) := by decide +kernel
theorem dX11_lotOf_12 : decode cX11_lotOf 12 = .ok (.iconst 0, 1) := by decide +kernel
theorem dX11_lotOf_13 : decode cX11_lotOf 13 = .ok (.istore 7, 2) := by decide +kernel
theorem dX11_lotOf_15 : decode cX11_lotOf 15 = .ok (.iload 7, 2) := by decide +kernel
theorem dX11_lotOf_17 : decode cX11_lotOf 17 = .ok (.iload_n 2, 1) := by decide +kernel
theorem dX11_lotOf_18 : decode cX11_lotOf 18 = .ok (.if_icmp .ge 72, 3) := by decide +kernel
theorem dX11_lotOf_21 : decode cX11_lotOf 21 = .ok (.ldc 252, 2) := by decide +kernel
theorem dX11_lotOf_23 : decode cX11_lotOf 23 = .ok (.iload 4, 2) := by decide +kernel
theorem dX11_lotOf_25 : decode cX11_lotOf 25 = .ok (.imul, 1) := by decide +kernel
theorem dX11_lotOf_26 : decode cX11_lotOf 26 = .ok (.sipush 12345, 3) := by decide +kernel
theorem dX11_lotOf_29 : decode cX11_lotOf 29 = .ok (.iadd, 1) := by decide +kernel
theorem dX11_lotOf_30 : decode cX11_lotOf 30 = .ok (.istore 4, 2) := by decide +kernel
theorem dX11_lotOf_32 : decode cX11_lotOf 32 = .ok (.iload 5, 2) := by decide +kernel
theorem dX11_lotOf_34 : decode cX11_lotOf 34 = .ok (.iconst 1, 1) := by decide +kernel
theorem dX11_lotOf_35 : decode cX11_lotOf 35 = .ok (.iload 4, 2) := by decide +kernel
theorem dX11_lotOf_37 : decode cX11_lotOf 37 = .ok (.bipush 16, 2) := by decide +kernel
theorem dX11_lotOf_39 : decode cX11_lotOf 39 = .ok (.iushr, 1) := by decide +kernel
theorem dX11_lotOf_40 : decode cX11_lotOf 40 = .ok (.bipush 8, 2) := by decide +kernel
theorem dX11_lotOf_42 : decode cX11_lotOf 42 = .ok (.irem, 1) := by decide +kernel
theorem dX11_lotOf_43 : decode cX11_lotOf 43 = .ok (.ishl, 1) := by decide +kernel
theorem dX11_lotOf_44 : decode cX11_lotOf 44 = .ok (.ixor, 1) := by decide +kernel
theorem dX11_lotOf_45 : decode cX11_lotOf 45 = .ok (.istore 5, 2) := by decide +kernel
theorem dX11_lotOf_47 : decode cX11_lotOf 47 = .ok (.iload 6, 2) := by decide +kernel
theorem dX11_lotOf_49 : decode cX11_lotOf 49 = .ok (.iload_n 3, 1) := by decide +kernel
theorem dX11_lotOf_50 : decode cX11_lotOf 50 = .ok (.iconst (-1), 1) := by decide +kernel
theorem dX11_lotOf_51 : decode cX11_lotOf 51 = .ok (.if_icmp .eq 21, 3) := by decide +kernel
theorem dX11_lotOf_54 : decode cX11_lotOf 54 = .ok (.aload_n 0, 1) := by decide +kernel
theorem dX11_lotOf_55 : decode cX11_lotOf 55 = .ok (.getfield 34, 3) := by decide +kernel
theorem dX11_lotOf_58 : decode cX11_lotOf 58 = .ok (.iload 5, 2) := by decide +kernel
theorem dX11_lotOf_60 : decode cX11_lotOf 60 = .ok (.iaload, 1) := by decide +kernel
theorem dX11_lotOf_61 : decode cX11_lotOf 61 = .ok (.iload_n 3, 1) := by decide +kernel
theorem dX11_lotOf_62 : decode cX11_lotOf 62 = .ok (.invokestatic 142, 3) := by decide +kernel
theorem dX11_lotOf_65 : decode cX11_lotOf 65 = .ok (.ifCond .eq 7, 3) := by decide +kernel
theorem dX11_lotOf_68 : decode cX11_lotOf 68 = .ok (.iconst 1, 1) := by decide +kernel
theorem dX11_lotOf_69 : decode cX11_lotOf 69 = .ok (.goto 4, 3) := by decide +kernel
theorem dX11_lotOf_72 : decode cX11_lotOf 72 = .ok (.iconst 0, 1) := by decide +kernel
theorem dX11_lotOf_73 : decode cX11_lotOf 73 = .ok (.iadd, 1) := by decide +kernel
theorem dX11_lotOf_74 : decode cX11_lotOf 74 = .ok (.istore 6, 2) := by decide +kernel
theorem dX11_lotOf_76 : decode cX11_lotOf 76 = .ok (.aload_n 0, 1) := by decide +kernel
theorem dX11_lotOf_77 : decode cX11_lotOf 77 = .ok (.iload 5, 2) := by decide +kernel
theorem dX11_lotOf_79 : decode cX11_lotOf 79 = .ok (.invokevirtual 176, 3) := by decide +kernel
theorem dX11_lotOf_82 : decode cX11_lotOf 82 = .ok (.istore 5, 2) := by decide +kernel
theorem dX11_lotOf_84 : decode cX11_lotOf 84 = .ok (.iinc 7 1, 3) := by decide +kernel
theorem dX11_lotOf_87 : decode cX11_lotOf 87 = .ok (.goto (-72), 3) := by decide +kernel
theorem dX11_lotOf_90 : decode cX11_lotOf 90 = .ok (.iload_n 3, 1) := by decide +kernel
theorem dX11_lotOf_91 : decode cX11_lotOf 91 = .ok (.iconst (-1), 1) := by decide +kernel
theorem dX11_lotOf_92 : decode cX11_lotOf 92 = .ok (.if_icmp .ne 8, 3) := by decide +kernel
theorem dX11_lotOf_95 : decode cX11_lotOf 95 = .ok (.iload 5, 2) := by decide +kernel
theorem dX11_lotOf_97 : decode cX11_lotOf 97 = .ok (.goto 5, 3) := by decide +kernel
theorem dX11_lotOf_100 : decode cX11_lotOf 100 = .ok (.iload 6, 2) := by decide +kernel
theorem dX11_lotOf_102 : decode cX11_lotOf 102 = .ok (.ireturn, 1) := by decide +kernel
theorem dX11_lot_0 : decode cX11_lot 0 = .ok (.aload_n 0, 1) := by decide +kernel
theorem dX11_lot_1 : decode cX11_lot 1 = .ok (.invokevirtual 153, 3) := by decide +kernel
theorem dX11_lot_4 : decode cX11_lot 4 = .ok (.iload_n 2, 1) := by decide +kernel
theorem dX11_lot_5 : decode cX11_lot 5 = .ok (.i2l, 1) := by decide +kernel
theorem dX11_lot_6 : decode cX11_lot 6 = .ok (.lconst 0, 1) := by decide +kernel
theorem dX11_lot_7 : decode cX11_lot 7 = .ok (.ldc2_w 253, 3) := by decide +kernel
theorem dX11_lot_10 : decode cX11_lot 10 = .ok (.invokestatic 61, 3) := by decide +kernel
theorem dX11_lot_13 : decode cX11_lot 13 = .ok (.ifCond .eq 27, 3) := by decide +kernel
theorem dX11_lot_16 : decode cX11_lot 16 = .ok (.iload_n 3, 1) := by decide +kernel
theorem dX11_lot_17 : decode cX11_lot 17 = .ok (.i2l, 1) := by decide +kernel
theorem dX11_lot_18 : decode cX11_lot 18 = .ok (.ldc2_w 209, 3) := by decide +kernel
theorem dX11_lot_21 : decode cX11_lot 21 = .ok (.ldc2_w 145, 3) := by decide +kernel
theorem dX11_lot_24 : decode cX11_lot 24 = .ok (.invokestatic 61, 3) := by decide +kernel
theorem dX11_lot_27 : decode cX11_lot 27 = .ok (.ifCond .eq 13, 3) := by decide +kernel
theorem dX11_lot_30 : decode cX11_lot 30 = .ok (.aload_n 0, 1) := by decide +kernel
theorem dX11_lot_31 : decode cX11_lot 31 = .ok (.iload_n 1, 1) := by decide +kernel
theorem dX11_lot_32 : decode cX11_lot 32 = .ok (.iload_n 2, 1) := by decide +kernel
theorem dX11_lot_33 : decode cX11_lot 33 = .ok (.iload_n 3, 1) := by decide +kernel
theorem dX11_lot_34 : decode cX11_lot 34 = .ok (.invokevirtual 255, 3) := by decide +kernel
theorem dX11_lot_37 : decode cX11_lot 37 = .ok (.goto 5, 3) := by decide +kernel
theorem dX11_lot_40 : decode cX11_lot 40 = .ok (.bipush (-2), 2) := by decide +kernel
theorem dX11_lot_42 : decode cX11_lot 42 = .ok (.ireturn, 1) := by decide +kernel
theorem dX11_write_0 : decode cX11_write 0 = .ok (.iload_n 1, 1) := by decide +kernel
theorem dX11_write_1 : decode cX11_write 1 = .ok (.invokestatic 90, 3) := by decide +kernel
theorem dX11_write_4 : decode cX11_write 4 = .ok (.ifCond .eq 10, 3) := by decide +kernel
theorem dX11_write_7 : decode cX11_write 7 = .ok (.iload_n 2, 1) := by decide +kernel
theorem dX11_write_8 : decode cX11_write 8 = .ok (.invokestatic 71, 3) := by decide +kernel
theorem dX11_write_11 : decode cX11_write 11 = .ok (.ifCond .ne 6, 3) := by decide +kernel
theorem dX11_write_14 : decode cX11_write 14 = .ok (.bipush (-2), 2) := by decide +kernel
theorem dX11_write_16 : decode cX11_write 16 = .ok (.ireturn, 1) := by decide +kernel
theorem dX11_write_17 : decode cX11_write 17 = .ok (.aload_n 0, 1) := by decide +kernel
theorem dX11_write_18 : decode cX11_write 18 = .ok (.getfield 7, 3) := by decide +kernel
theorem dX11_write_21 : decode cX11_write 21 = .ok (.iload_n 2, 1) := by decide +kernel
theorem dX11_write_22 : decode cX11_write 22 = .ok (.iaload, 1) := by decide +kernel
theorem dX11_write_23 : decode cX11_write 23 = .ok (.ifCond .ge 9, 3) := by decide +kernel
theorem dX11_write_26 : decode cX11_write 26 = .ok (.aload_n 0, 1) := by decide +kernel
theorem dX11_write_27 : decode cX11_write 27 = .ok (.iconst 1, 1) := by decide +kernel
theorem dX11_write_28 : decode cX11_write 28 = .ok (.invokevirtual 77, 3) := by decide +kernel
theorem dX11_write_31 : decode cX11_write 31 = .ok (.ireturn, 1) := by decide +kernel
theorem dX11_write_32 : decode cX11_write 32 = .ok (.aload_n 0, 1) := by decide +kernel
theorem dX11_write_33 : decode cX11_write 33 = .ok (.invokevirtual 164, 3) := by decide +kernel
theorem dX11_write_36 : decode cX11_write 36 = .ok (.aload_n 0, 1) := by decide +kernel
theorem dX11_write_37 : decode cX11_write 37 = .ok (.getfield 13, 3) := by decide +kernel
theorem dX11_write_40 : decode cX11_write 40 = .ok (.iload_n 2, 1) := by decide +kernel
theorem dX11_write_41 : decode cX11_write 41 = .ok (.iaload, 1) := by decide +kernel
theorem dX11_write_42 : decode cX11_write 42 = .ok (.bipush 30, 2) := by decide +kernel
theorem dX11_write_44 : decode cX11_write 44 = .ok (.if_icmp .ge 12, 3) := by decide +kernel
theorem dX11_write_47 : decode cX11_write 47 = .ok (.aload_n 0, 1) := by decide +kernel
theorem dX11_write_48 : decode cX11_write 48 = .ok (.getfield 13, 3) := by decide +kernel
theorem dX11_write_51 : decode cX11_write 51 = .ok (.iload_n 2, 1) := by decide +kernel
theorem dX11_write_52 : decode cX11_write 52 = .ok (.iaload, 1) := by decide +kernel
theorem dX11_write_53 : decode cX11_write 53 = .ok (.goto 5, 3) := by decide +kernel
theorem dX11_write_56 : decode cX11_write 56 = .ok (.bipush 30, 2) := by decide +kernel
theorem dX11_write_58 : decode cX11_write 58 = .ok (.istore_n 3, 1) := by decide +kernel
theorem dX11_write_59 : decode cX11_write 59 = .ok (.iconst 0, 1) := by decide +kernel
theorem dX11_write_60 : decode cX11_write 60 = .ok (.istore 4, 2) := by decide +kernel
theorem dX11_write_62 : decode cX11_write 62 = .ok (.iload 4, 2) := by decide +kernel
theorem dX11_write_64 : decode cX11_write 64 = .ok (.iload_n 3, 1) := by decide +kernel
theorem dX11_write_65 : decode cX11_write 65 = .ok (.if_icmp .ge 51, 3) := by decide +kernel
theorem dX11_write_68 : decode cX11_write 68 = .ok (.aload_n 0, 1) := by decide +kernel
theorem dX11_write_69 : decode cX11_write 69 = .ok (.getfield 16, 3) := by decide +kernel
theorem dX11_write_72 : decode cX11_write 72 = .ok (.bipush 60, 2) := by decide +kernel
theorem dX11_write_74 : decode cX11_write 74 = .ok (.iload_n 2, 1) := by decide +kernel
theorem dX11_write_75 : decode cX11_write 75 = .ok (.imul, 1) := by decide +kernel
theorem dX11_write_76 : decode cX11_write 76 = .ok (.iload 4, 2) := by decide +kernel
theorem dX11_write_78 : decode cX11_write 78 = .ok (.iadd, 1) := by decide +kernel
theorem dX11_write_79 : decode cX11_write 79 = .ok (.aload_n 0, 1) := by decide +kernel
theorem dX11_write_80 : decode cX11_write 80 = .ok (.getfield 7, 3) := by decide +kernel
theorem dX11_write_83 : decode cX11_write 83 = .ok (.iload_n 2, 1) := by decide +kernel
theorem dX11_write_84 : decode cX11_write 84 = .ok (.iaload, 1) := by decide +kernel
theorem dX11_write_85 : decode cX11_write 85 = .ok (.iload_n 1, 1) := by decide +kernel
theorem dX11_write_86 : decode cX11_write 86 = .ok (.ifCond .ne 13, 3) := by decide +kernel
theorem dX11_write_89 : decode cX11_write 89 = .ok (.aload_n 0, 1) := by decide +kernel
theorem dX11_write_90 : decode cX11_write 90 = .ok (.getfield 43, 3) := by decide +kernel
theorem dX11_write_93 : decode cX11_write 93 = .ok (.iload 4, 2) := by decide +kernel
theorem dX11_write_95 : decode cX11_write 95 = .ok (.iaload, 1) := by decide +kernel
theorem dX11_write_96 : decode cX11_write 96 = .ok (.goto 10, 3) := by decide +kernel
theorem dX11_write_99 : decode cX11_write 99 = .ok (.aload_n 0, 1) := by decide +kernel
theorem dX11_write_100 : decode cX11_write 100 = .ok (.getfield 46, 3) := by decide +kernel
theorem dX11_write_103 : decode cX11_write 103 = .ok (.iload 4, 2) := by decide +kernel
theorem dX11_write_105 : decode cX11_write 105 = .ok (.iaload, 1) := by decide +kernel
theorem dX11_write_106 : decode cX11_write 106 = .ok (.invokestatic 85, 3) := by decide +kernel
theorem dX11_write_109 : decode cX11_write 109 = .ok (.iastore, 1) := by decide +kernel
theorem dX11_write_110 : decode cX11_write 110 = .ok (.iinc 4 1, 3) := by decide +kernel
theorem dX11_write_113 : decode cX11_write 113 = .ok (.goto (-51), 3) := by decide +kernel
theorem dX11_write_116 : decode cX11_write 116 = .ok (.iload_n 3, 1) := by decide +kernel
theorem dX11_write_117 : decode cX11_write 117 = .ok (.ireturn, 1) := by decide +kernel
theorem dX11_count_0 : decode cX11_count 0 = .ok (.iconst 0, 1) := by decide +kernel
theorem dX11_count_1 : decode cX11_count 1 = .ok (.istore_n 2, 1) := by decide +kernel
theorem dX11_count_2 : decode cX11_count 2 = .ok (.aload_n 0, 1) := by decide +kernel
theorem dX11_count_3 : decode cX11_count 3 = .ok (.invokevirtual 153, 3) := by decide +kernel
theorem dX11_count_6 : decode cX11_count 6 = .ok (.iload_n 1, 1) := by decide +kernel
theorem dX11_count_7 : decode cX11_count 7 = .ok (.tableswitch 119 0 8 #[49, 54, 59, 59, 68, 73, 78, 109, 114], 49) := by decide +kernel
theorem dX11_count_56 : decode cX11_count 56 = .ok (.aload_n 0, 1) := by decide +kernel
theorem dX11_count_57 : decode cX11_count 57 = .ok (.getfield 112, 3) := by decide +kernel
theorem dX11_count_60 : decode cX11_count 60 = .ok (.ireturn, 1) := by decide +kernel
theorem dX11_count_61 : decode cX11_count 61 = .ok (.aload_n 0, 1) := by decide +kernel
theorem dX11_count_62 : decode cX11_count 62 = .ok (.getfield 122, 3) := by decide +kernel
theorem dX11_count_65 : decode cX11_count 65 = .ok (.ireturn, 1) := by decide +kernel
theorem dX11_count_66 : decode cX11_count 66 = .ok (.aload_n 0, 1) := by decide +kernel
theorem dX11_count_67 : decode cX11_count 67 = .ok (.getfield 25, 3) := by decide +kernel
theorem dX11_count_70 : decode cX11_count 70 = .ok (.iload_n 1, 1) := by decide +kernel
theorem dX11_count_71 : decode cX11_count 71 = .ok (.iconst 2, 1) := by decide +kernel
theorem dX11_count_72 : decode cX11_count 72 = .ok (.isub, 1) := by decide +kernel
theorem dX11_count_73 : decode cX11_count 73 = .ok (.iaload, 1) := by decide +kernel
theorem dX11_count_74 : decode cX11_count 74 = .ok (.ireturn, 1) := by decide +kernel
theorem dX11_count_75 : decode cX11_count 75 = .ok (.aload_n 0, 1) := by decide +kernel
theorem dX11_count_76 : decode cX11_count 76 = .ok (.getfield 161, 3) := by decide +kernel
theorem dX11_count_79 : decode cX11_count 79 = .ok (.ireturn, 1) := by decide +kernel
theorem dX11_count_80 : decode cX11_count 80 = .ok (.aload_n 0, 1) := by decide +kernel
theorem dX11_count_81 : decode cX11_count 81 = .ok (.getfield 217, 3) := by decide +kernel
theorem dX11_count_84 : decode cX11_count 84 = .ok (.ireturn, 1) := by decide +kernel
theorem dX11_count_85 : decode cX11_count 85 = .ok (.iconst 0, 1) := by decide +kernel
theorem dX11_count_86 : decode cX11_count 86 = .ok (.istore_n 3, 1) := by decide +kernel
theorem dX11_count_87 : decode cX11_count 87 = .ok (.iload_n 3, 1) := by decide +kernel
theorem dX11_count_88 : decode cX11_count 88 = .ok (.aload_n 0, 1) := by decide +kernel
theorem dX11_count_89 : decode cX11_count 89 = .ok (.getfield 112, 3) := by decide +kernel
theorem dX11_count_92 : decode cX11_count 92 = .ok (.if_icmp .ge 22, 3) := by decide +kernel
theorem dX11_count_95 : decode cX11_count 95 = .ok (.iload_n 2, 1) := by decide +kernel
theorem dX11_count_96 : decode cX11_count 96 = .ok (.aload_n 0, 1) := by decide +kernel
theorem dX11_count_97 : decode cX11_count 97 = .ok (.getfield 28, 3) := by decide +kernel
theorem dX11_count_100 : decode cX11_count 100 = .ok (.iconst 3, 1) := by decide +kernel
theorem dX11_count_101 : decode cX11_count 101 = .ok (.iload_n 3, 1) := by decide +kernel
theorem dX11_count_102 : decode cX11_count 102 = .ok (.imul, 1) := by decide +kernel
theorem dX11_count_103 : decode cX11_count 103 = .ok (.iconst 1, 1) := by decide +kernel
theorem dX11_count_104 : decode cX11_count 104 = .ok (.iadd, 1) := by decide +kernel
theorem dX11_count_105 : decode cX11_count 105 = .ok (.iaload, 1) := by decide +kernel
theorem dX11_count_106 : decode cX11_count 106 = .ok (.iadd, 1) := by decide +kernel
theorem dX11_count_107 : decode cX11_count 107 = .ok (.istore_n 2, 1) := by decide +kernel
theorem dX11_count_108 : decode cX11_count 108 = .ok (.iinc 3 1, 3) := by decide +kernel
theorem dX11_count_111 : decode cX11_count 111 = .ok (.goto (-24), 3) := by decide +kernel
theorem dX11_count_114 : decode cX11_count 114 = .ok (.iload_n 2, 1) := by decide +kernel
theorem dX11_count_115 : decode cX11_count 115 = .ok (.ireturn, 1) := by decide +kernel
theorem dX11_count_116 : decode cX11_count 116 = .ok (.aload_n 0, 1) := by decide +kernel
theorem dX11_count_117 : decode cX11_count 117 = .ok (.getfield 150, 3) := by decide +kernel
theorem dX11_count_120 : decode cX11_count 120 = .ok (.ireturn, 1) := by decide +kernel
theorem dX11_count_121 : decode cX11_count 121 = .ok (.aload_n 0, 1) := by decide +kernel
theorem dX11_count_122 : decode cX11_count 122 = .ok (.getfield 65, 3) := by decide +kernel
theorem dX11_count_125 : decode cX11_count 125 = .ok (.ireturn, 1) := by decide +kernel
theorem dX11_count_126 : decode cX11_count 126 = .ok (.bipush (-2), 2) := by decide +kernel
theorem dX11_count_128 : decode cX11_count 128 = .ok (.ireturn, 1) := by decide +kernel
theorem dX11_tellsBig_0 : decode cX11_tellsBig 0 = .ok (.ldc2_w 258, 3) := by decide +kernel
theorem dX11_tellsBig_3 : decode cX11_tellsBig 3 = .ok (.lload_n 1, 1) := by decide +kernel
theorem dX11_tellsBig_4 : decode cX11_tellsBig 4 = .ok (.lmul, 1) := by decide +kernel
theorem dX11_tellsBig_5 : decode cX11_tellsBig 5 = .ok (.aload_n 0, 1) := by decide +kernel
theorem dX11_tellsBig_6 : decode cX11_tellsBig 6 = .ok (.iconst 3, 1) := by decide +kernel
theorem dX11_tellsBig_7 : decode cX11_tellsBig 7 = .ok (.iload_n 3, 1) := by decide +kernel
theorem dX11_tellsBig_8 : decode cX11_tellsBig 8 = .ok (.iconst 0, 1) := by decide +kernel
theorem dX11_tellsBig_9 : decode cX11_tellsBig 9 = .ok (.invokevirtual 260, 3) := by decide +kernel
theorem dX11_tellsBig_12 : decode cX11_tellsBig 12 = .ok (.i2l, 1) := by decide +kernel
theorem dX11_tellsBig_13 : decode cX11_tellsBig 13 = .ok (.ladd, 1) := by decide +kernel
theorem dX11_tellsBig_14 : decode cX11_tellsBig 14 = .ok (.lstore 4, 2) := by decide +kernel
theorem dX11_tellsBig_16 : decode cX11_tellsBig 16 = .ok (.ldc2_w 258, 3) := by decide +kernel
theorem dX11_tellsBig_19 : decode cX11_tellsBig 19 = .ok (.lload 4, 2) := by decide +kernel
theorem dX11_tellsBig_21 : decode cX11_tellsBig 21 = .ok (.lmul, 1) := by decide +kernel
theorem dX11_tellsBig_22 : decode cX11_tellsBig 22 = .ok (.aload_n 0, 1) := by decide +kernel
theorem dX11_tellsBig_23 : decode cX11_tellsBig 23 = .ok (.iconst 3, 1) := by decide +kernel
theorem dX11_tellsBig_24 : decode cX11_tellsBig 24 = .ok (.iload_n 3, 1) := by decide +kernel
theorem dX11_tellsBig_25 : decode cX11_tellsBig 25 = .ok (.iconst 1, 1) := by decide +kernel
theorem dX11_tellsBig_26 : decode cX11_tellsBig 26 = .ok (.invokevirtual 260, 3) := by decide +kernel
theorem dX11_tellsBig_29 : decode cX11_tellsBig 29 = .ok (.i2l, 1) := by decide +kernel
theorem dX11_tellsBig_30 : decode cX11_tellsBig 30 = .ok (.ladd, 1) := by decide +kernel
theorem dX11_tellsBig_31 : decode cX11_tellsBig 31 = .ok (.lstore 4, 2) := by decide +kernel
theorem dX11_tellsBig_33 : decode cX11_tellsBig 33 = .ok (.ldc2_w 258, 3) := by decide +kernel
theorem dX11_tellsBig_36 : decode cX11_tellsBig 36 = .ok (.lload 4, 2) := by decide +kernel
theorem dX11_tellsBig_38 : decode cX11_tellsBig 38 = .ok (.lmul, 1) := by decide +kernel
theorem dX11_tellsBig_39 : decode cX11_tellsBig 39 = .ok (.aload_n 0, 1) := by decide +kernel
theorem dX11_tellsBig_40 : decode cX11_tellsBig 40 = .ok (.iload_n 3, 1) := by decide +kernel
theorem dX11_tellsBig_41 : decode cX11_tellsBig 41 = .ok (.invokevirtual 197, 3) := by decide +kernel
theorem dX11_tellsBig_44 : decode cX11_tellsBig 44 = .ok (.i2l, 1) := by decide +kernel
theorem dX11_tellsBig_45 : decode cX11_tellsBig 45 = .ok (.ladd, 1) := by decide +kernel
theorem dX11_tellsBig_46 : decode cX11_tellsBig 46 = .ok (.lstore 4, 2) := by decide +kernel
theorem dX11_tellsBig_48 : decode cX11_tellsBig 48 = .ok (.ldc2_w 258, 3) := by decide +kernel
theorem dX11_tellsBig_51 : decode cX11_tellsBig 51 = .ok (.lload 4, 2) := by decide +kernel
theorem dX11_tellsBig_53 : decode cX11_tellsBig 53 = .ok (.lmul, 1) := by decide +kernel
theorem dX11_tellsBig_54 : decode cX11_tellsBig 54 = .ok (.aload_n 0, 1) := by decide +kernel
theorem dX11_tellsBig_55 : decode cX11_tellsBig 55 = .ok (.iconst 2, 1) := by decide +kernel
theorem dX11_tellsBig_56 : decode cX11_tellsBig 56 = .ok (.iload_n 3, 1) := by decide +kernel
theorem dX11_tellsBig_57 : decode cX11_tellsBig 57 = .ok (.iconst 0, 1) := by decide +kernel
theorem dX11_tellsBig_58 : decode cX11_tellsBig 58 = .ok (.invokevirtual 206, 3) := by decide +kernel
theorem dX11_tellsBig_61 : decode cX11_tellsBig 61 = .ok (.i2l, 1) := by decide +kernel
theorem dX11_tellsBig_62 : decode cX11_tellsBig 62 = .ok (.ladd, 1) := by decide +kernel
theorem dX11_tellsBig_63 : decode cX11_tellsBig 63 = .ok (.lstore 4, 2) := by decide +kernel
theorem dX11_tellsBig_65 : decode cX11_tellsBig 65 = .ok (.ldc2_w 258, 3) := by decide +kernel
theorem dX11_tellsBig_68 : decode cX11_tellsBig 68 = .ok (.lload 4, 2) := by decide +kernel
theorem dX11_tellsBig_70 : decode cX11_tellsBig 70 = .ok (.lmul, 1) := by decide +kernel
theorem dX11_tellsBig_71 : decode cX11_tellsBig 71 = .ok (.aload_n 0, 1) := by decide +kernel
theorem dX11_tellsBig_72 : decode cX11_tellsBig 72 = .ok (.iconst 2, 1) := by decide +kernel
theorem dX11_tellsBig_73 : decode cX11_tellsBig 73 = .ok (.iload_n 3, 1) := by decide +kernel
theorem dX11_tellsBig_74 : decode cX11_tellsBig 74 = .ok (.iconst 1, 1) := by decide +kernel
theorem dX11_tellsBig_75 : decode cX11_tellsBig 75 = .ok (.invokevirtual 206, 3) := by decide +kernel
theorem dX11_tellsBig_78 : decode cX11_tellsBig 78 = .ok (.i2l, 1) := by decide +kernel
theorem dX11_tellsBig_79 : decode cX11_tellsBig 79 = .ok (.ladd, 1) := by decide +kernel
theorem dX11_tellsBig_80 : decode cX11_tellsBig 80 = .ok (.lstore 4, 2) := by decide +kernel
theorem dX11_tellsBig_82 : decode cX11_tellsBig 82 = .ok (.ldc2_w 258, 3) := by decide +kernel
theorem dX11_tellsBig_85 : decode cX11_tellsBig 85 = .ok (.lload 4, 2) := by decide +kernel
theorem dX11_tellsBig_87 : decode cX11_tellsBig 87 = .ok (.lmul, 1) := by decide +kernel
theorem dX11_tellsBig_88 : decode cX11_tellsBig 88 = .ok (.aload_n 0, 1) := by decide +kernel
theorem dX11_tellsBig_89 : decode cX11_tellsBig 89 = .ok (.iload_n 3, 1) := by decide +kernel
theorem dX11_tellsBig_90 : decode cX11_tellsBig 90 = .ok (.iconst 0, 1) := by decide +kernel
theorem dX11_tellsBig_91 : decode cX11_tellsBig 91 = .ok (.invokevirtual 225, 3) := by decide +kernel
theorem dX11_tellsBig_94 : decode cX11_tellsBig 94 = .ok (.i2l, 1) := by decide +kernel
theorem dX11_tellsBig_95 : decode cX11_tellsBig 95 = .ok (.ladd, 1) := by decide +kernel
theorem dX11_tellsBig_96 : decode cX11_tellsBig 96 = .ok (.lstore 4, 2) := by decide +kernel
theorem dX11_tellsBig_98 : decode cX11_tellsBig 98 = .ok (.ldc2_w 258, 3) := by decide +kernel
theorem dX11_tellsBig_101 : decode cX11_tellsBig 101 = .ok (.lload 4, 2) := by decide +kernel
theorem dX11_tellsBig_103 : decode cX11_tellsBig 103 = .ok (.lmul, 1) := by decide +kernel
theorem dX11_tellsBig_104 : decode cX11_tellsBig 104 = .ok (.aload_n 0, 1) := by decide +kernel
theorem dX11_tellsBig_105 : decode cX11_tellsBig 105 = .ok (.iload_n 3, 1) := by decide +kernel
theorem dX11_tellsBig_106 : decode cX11_tellsBig 106 = .ok (.iconst 1, 1) := by decide +kernel
theorem dX11_tellsBig_107 : decode cX11_tellsBig 107 = .ok (.invokevirtual 225, 3) := by decide +kernel
theorem dX11_tellsBig_110 : decode cX11_tellsBig 110 = .ok (.i2l, 1) := by decide +kernel
theorem dX11_tellsBig_111 : decode cX11_tellsBig 111 = .ok (.ladd, 1) := by decide +kernel
theorem dX11_tellsBig_112 : decode cX11_tellsBig 112 = .ok (.lstore 4, 2) := by decide +kernel
theorem dX11_tellsBig_114 : decode cX11_tellsBig 114 = .ok (.ldc2_w 258, 3) := by decide +kernel
theorem dX11_tellsBig_117 : decode cX11_tellsBig 117 = .ok (.lload 4, 2) := by decide +kernel
theorem dX11_tellsBig_119 : decode cX11_tellsBig 119 = .ok (.lmul, 1) := by decide +kernel
theorem dX11_tellsBig_120 : decode cX11_tellsBig 120 = .ok (.aload_n 0, 1) := by decide +kernel
theorem dX11_tellsBig_121 : decode cX11_tellsBig 121 = .ok (.iload_n 3, 1) := by decide +kernel
theorem dX11_tellsBig_122 : decode cX11_tellsBig 122 = .ok (.invokevirtual 228, 3) := by decide +kernel
theorem dX11_tellsBig_125 : decode cX11_tellsBig 125 = .ok (.i2l, 1) := by decide +kernel
theorem dX11_tellsBig_126 : decode cX11_tellsBig 126 = .ok (.ladd, 1) := by decide +kernel
theorem dX11_tellsBig_127 : decode cX11_tellsBig 127 = .ok (.lstore 4, 2) := by decide +kernel
theorem dX11_tellsBig_129 : decode cX11_tellsBig 129 = .ok (.ldc2_w 258, 3) := by decide +kernel
theorem dX11_tellsBig_132 : decode cX11_tellsBig 132 = .ok (.lload 4, 2) := by decide +kernel
theorem dX11_tellsBig_134 : decode cX11_tellsBig 134 = .ok (.lmul, 1) := by decide +kernel
theorem dX11_tellsBig_135 : decode cX11_tellsBig 135 = .ok (.aload_n 0, 1) := by decide +kernel
theorem dX11_tellsBig_136 : decode cX11_tellsBig 136 = .ok (.iconst 4, 1) := by decide +kernel
theorem dX11_tellsBig_137 : decode cX11_tellsBig 137 = .ok (.iload_n 3, 1) := by decide +kernel
theorem dX11_tellsBig_138 : decode cX11_tellsBig 138 = .ok (.iconst 0, 1) := by decide +kernel
theorem dX11_tellsBig_139 : decode cX11_tellsBig 139 = .ok (.invokevirtual 263, 3) := by decide +kernel
theorem dX11_tellsBig_142 : decode cX11_tellsBig 142 = .ok (.ladd, 1) := by decide +kernel
theorem dX11_tellsBig_143 : decode cX11_tellsBig 143 = .ok (.lstore 4, 2) := by decide +kernel
theorem dX11_tellsBig_145 : decode cX11_tellsBig 145 = .ok (.ldc2_w 258, 3) := by decide +kernel
theorem dX11_tellsBig_148 : decode cX11_tellsBig 148 = .ok (.lload 4, 2) := by decide +kernel
theorem dX11_tellsBig_150 : decode cX11_tellsBig 150 = .ok (.lmul, 1) := by decide +kernel
theorem dX11_tellsBig_151 : decode cX11_tellsBig 151 = .ok (.aload_n 0, 1) := by decide +kernel
theorem dX11_tellsBig_152 : decode cX11_tellsBig 152 = .ok (.iconst 4, 1) := by decide +kernel
theorem dX11_tellsBig_153 : decode cX11_tellsBig 153 = .ok (.iload_n 3, 1) := by decide +kernel
theorem dX11_tellsBig_154 : decode cX11_tellsBig 154 = .ok (.iconst 1, 1) := by decide +kernel
theorem dX11_tellsBig_155 : decode cX11_tellsBig 155 = .ok (.invokevirtual 263, 3) := by decide +kernel
theorem dX11_tellsBig_158 : decode cX11_tellsBig 158 = .ok (.ladd, 1) := by decide +kernel
theorem dX11_tellsBig_159 : decode cX11_tellsBig 159 = .ok (.lstore 4, 2) := by decide +kernel
theorem dX11_tellsBig_161 : decode cX11_tellsBig 161 = .ok (.ldc2_w 258, 3) := by decide +kernel
theorem dX11_tellsBig_164 : decode cX11_tellsBig 164 = .ok (.lload 4, 2) := by decide +kernel
theorem dX11_tellsBig_166 : decode cX11_tellsBig 166 = .ok (.lmul, 1) := by decide +kernel
theorem dX11_tellsBig_167 : decode cX11_tellsBig 167 = .ok (.aload_n 0, 1) := by decide +kernel
theorem dX11_tellsBig_168 : decode cX11_tellsBig 168 = .ok (.iconst 4, 1) := by decide +kernel
theorem dX11_tellsBig_169 : decode cX11_tellsBig 169 = .ok (.iload_n 3, 1) := by decide +kernel
theorem dX11_tellsBig_170 : decode cX11_tellsBig 170 = .ok (.invokevirtual 249, 3) := by decide +kernel
theorem dX11_tellsBig_173 : decode cX11_tellsBig 173 = .ok (.i2l, 1) := by decide +kernel
theorem dX11_tellsBig_174 : decode cX11_tellsBig 174 = .ok (.ladd, 1) := by decide +kernel
theorem dX11_tellsBig_175 : decode cX11_tellsBig 175 = .ok (.lreturn, 1) := by decide +kernel
theorem dX11_digest_0 : decode cX11_digest 0 = .ok (.ldc2_w 267, 3) := by decide +kernel
theorem dX11_digest_3 : decode cX11_digest 3 = .ok (.lstore_n 1, 1) := by decide +kernel
theorem dX11_digest_4 : decode cX11_digest 4 = .ok (.iconst 0, 1) := by decide +kernel
theorem dX11_digest_5 : decode cX11_digest 5 = .ok (.istore_n 3, 1) := by decide +kernel
theorem dX11_digest_6 : decode cX11_digest 6 = .ok (.iload_n 3, 1) := by decide +kernel
theorem dX11_digest_7 : decode cX11_digest 7 = .ok (.bipush 8, 2) := by decide +kernel
theorem dX11_digest_9 : decode cX11_digest 9 = .ok (.if_icmp .ge 22, 3) := by decide +kernel
theorem dX11_digest_12 : decode cX11_digest 12 = .ok (.ldc2_w 258, 3) := by decide +kernel
theorem dX11_digest_15 : decode cX11_digest 15 = .ok (.lload_n 1, 1) := by decide +kernel
theorem dX11_digest_16 : decode cX11_digest 16 = .ok (.lmul, 1) := by decide +kernel
theorem dX11_digest_17 : decode cX11_digest 17 = .ok (.aload_n 0, 1) := by decide +kernel
theorem dX11_digest_18 : decode cX11_digest 18 = .ok (.iload_n 3, 1) := by decide +kernel
theorem dX11_digest_19 : decode cX11_digest 19 = .ok (.invokevirtual 269, 3) := by decide +kernel
theorem dX11_digest_22 : decode cX11_digest 22 = .ok (.i2l, 1) := by decide +kernel
theorem dX11_digest_23 : decode cX11_digest 23 = .ok (.ladd, 1) := by decide +kernel
theorem dX11_digest_24 : decode cX11_digest 24 = .ok (.lstore_n 1, 1) := by decide +kernel
theorem dX11_digest_25 : decode cX11_digest 25 = .ok (.iinc 3 1, 3) := by decide +kernel
theorem dX11_digest_28 : decode cX11_digest 28 = .ok (.goto (-22), 3) := by decide +kernel
theorem dX11_digest_31 : decode cX11_digest 31 = .ok (.ldc2_w 258, 3) := by decide +kernel
theorem dX11_digest_34 : decode cX11_digest 34 = .ok (.lload_n 1, 1) := by decide +kernel
theorem dX11_digest_35 : decode cX11_digest 35 = .ok (.lmul, 1) := by decide +kernel
theorem dX11_digest_36 : decode cX11_digest 36 = .ok (.aload_n 0, 1) := by decide +kernel
theorem dX11_digest_37 : decode cX11_digest 37 = .ok (.invokevirtual 132, 3) := by decide +kernel
theorem dX11_digest_40 : decode cX11_digest 40 = .ok (.i2l, 1) := by decide +kernel
theorem dX11_digest_41 : decode cX11_digest 41 = .ok (.ladd, 1) := by decide +kernel
theorem dX11_digest_42 : decode cX11_digest 42 = .ok (.lstore_n 1, 1) := by decide +kernel
theorem dX11_digest_43 : decode cX11_digest 43 = .ok (.ldc2_w 258, 3) := by decide +kernel
theorem dX11_digest_46 : decode cX11_digest 46 = .ok (.lload_n 1, 1) := by decide +kernel
theorem dX11_digest_47 : decode cX11_digest 47 = .ok (.lmul, 1) := by decide +kernel
theorem dX11_digest_48 : decode cX11_digest 48 = .ok (.aload_n 0, 1) := by decide +kernel
theorem dX11_digest_49 : decode cX11_digest 49 = .ok (.invokevirtual 136, 3) := by decide +kernel
theorem dX11_digest_52 : decode cX11_digest 52 = .ok (.i2l, 1) := by decide +kernel
theorem dX11_digest_53 : decode cX11_digest 53 = .ok (.ladd, 1) := by decide +kernel
theorem dX11_digest_54 : decode cX11_digest 54 = .ok (.lstore_n 1, 1) := by decide +kernel
theorem dX11_digest_55 : decode cX11_digest 55 = .ok (.iconst 0, 1) := by decide +kernel
theorem dX11_digest_56 : decode cX11_digest 56 = .ok (.istore_n 3, 1) := by decide +kernel
theorem dX11_digest_57 : decode cX11_digest 57 = .ok (.iload_n 3, 1) := by decide +kernel
theorem dX11_digest_58 : decode cX11_digest 58 = .ok (.aload_n 0, 1) := by decide +kernel
theorem dX11_digest_59 : decode cX11_digest 59 = .ok (.getfield 112, 3) := by decide +kernel
theorem dX11_digest_62 : decode cX11_digest 62 = .ok (.if_icmp .ge 43, 3) := by decide +kernel
theorem dX11_digest_65 : decode cX11_digest 65 = .ok (.iconst 0, 1) := by decide +kernel
theorem dX11_digest_66 : decode cX11_digest 66 = .ok (.istore 4, 2) := by decide +kernel
theorem dX11_digest_68 : decode cX11_digest 68 = .ok (.iload 4, 2) := by decide +kernel
theorem dX11_digest_70 : decode cX11_digest 70 = .ok (.iconst 3, 1) := by decide +kernel
theorem dX11_digest_71 : decode cX11_digest 71 = .ok (.if_icmp .ge 28, 3) := by decide +kernel
theorem dX11_digest_74 : decode cX11_digest 74 = .ok (.ldc2_w 258, 3) := by decide +kernel
theorem dX11_digest_77 : decode cX11_digest 77 = .ok (.lload_n 1, 1) := by decide +kernel
theorem dX11_digest_78 : decode cX11_digest 78 = .ok (.lmul, 1) := by decide +kernel
theorem dX11_digest_79 : decode cX11_digest 79 = .ok (.aload_n 0, 1) := by decide +kernel
theorem dX11_digest_80 : decode cX11_digest 80 = .ok (.getfield 28, 3) := by decide +kernel
theorem dX11_digest_83 : decode cX11_digest 83 = .ok (.iconst 3, 1) := by decide +kernel
theorem dX11_digest_84 : decode cX11_digest 84 = .ok (.iload_n 3, 1) := by decide +kernel
theorem dX11_digest_85 : decode cX11_digest 85 = .ok (.imul, 1) := by decide +kernel
theorem dX11_digest_86 : decode cX11_digest 86 = .ok (.iload 4, 2) := by decide +kernel
theorem dX11_digest_88 : decode cX11_digest 88 = .ok (.iadd, 1) := by decide +kernel
theorem dX11_digest_89 : decode cX11_digest 89 = .ok (.iaload, 1) := by decide +kernel
theorem dX11_digest_90 : decode cX11_digest 90 = .ok (.i2l, 1) := by decide +kernel
theorem dX11_digest_91 : decode cX11_digest 91 = .ok (.ladd, 1) := by decide +kernel
theorem dX11_digest_92 : decode cX11_digest 92 = .ok (.lstore_n 1, 1) := by decide +kernel
theorem dX11_digest_93 : decode cX11_digest 93 = .ok (.iinc 4 1, 3) := by decide +kernel
theorem dX11_digest_96 : decode cX11_digest 96 = .ok (.goto (-28), 3) := by decide +kernel
theorem dX11_digest_99 : decode cX11_digest 99 = .ok (.iinc 3 1, 3) := by decide +kernel
theorem dX11_digest_102 : decode cX11_digest 102 = .ok (.goto (-45), 3) := by decide +kernel
theorem dX11_digest_105 : decode cX11_digest 105 = .ok (.iconst 0, 1) := by decide +kernel
theorem dX11_digest_106 : decode cX11_digest 106 = .ok (.istore_n 3, 1) := by decide +kernel
theorem dX11_digest_107 : decode cX11_digest 107 = .ok (.iload_n 3, 1) := by decide +kernel
theorem dX11_digest_108 : decode cX11_digest 108 = .ok (.aload_n 0, 1) := by decide +kernel
theorem dX11_digest_109 : decode cX11_digest 109 = .ok (.getfield 122, 3) := by decide +kernel
theorem dX11_digest_112 : decode cX11_digest 112 = .ok (.if_icmp .ge 43, 3) := by decide +kernel
theorem dX11_digest_115 : decode cX11_digest 115 = .ok (.ldc2_w 258, 3) := by decide +kernel
theorem dX11_digest_118 : decode cX11_digest 118 = .ok (.lload_n 1, 1) := by decide +kernel
theorem dX11_digest_119 : decode cX11_digest 119 = .ok (.lmul, 1) := by decide +kernel
theorem dX11_digest_120 : decode cX11_digest 120 = .ok (.aload_n 0, 1) := by decide +kernel
theorem dX11_digest_121 : decode cX11_digest 121 = .ok (.getfield 31, 3) := by decide +kernel
theorem dX11_digest_124 : decode cX11_digest 124 = .ok (.iconst 2, 1) := by decide +kernel
theorem dX11_digest_125 : decode cX11_digest 125 = .ok (.iload_n 3, 1) := by decide +kernel
theorem dX11_digest_126 : decode cX11_digest 126 = .ok (.imul, 1) := by decide +kernel
theorem dX11_digest_127 : decode cX11_digest 127 = .ok (.iaload, 1) := by decide +kernel
theorem dX11_digest_128 : decode cX11_digest 128 = .ok (.i2l, 1) := by decide +kernel
theorem dX11_digest_129 : decode cX11_digest 129 = .ok (.ladd, 1) := by decide +kernel
theorem dX11_digest_130 : decode cX11_digest 130 = .ok (.lstore_n 1, 1) := by decide +kernel
theorem dX11_digest_131 : decode cX11_digest 131 = .ok (.ldc2_w 258, 3) := by decide +kernel
theorem dX11_digest_134 : decode cX11_digest 134 = .ok (.lload_n 1, 1) := by decide +kernel
theorem dX11_digest_135 : decode cX11_digest 135 = .ok (.lmul, 1) := by decide +kernel
theorem dX11_digest_136 : decode cX11_digest 136 = .ok (.aload_n 0, 1) := by decide +kernel
theorem dX11_digest_137 : decode cX11_digest 137 = .ok (.getfield 31, 3) := by decide +kernel
theorem dX11_digest_140 : decode cX11_digest 140 = .ok (.iconst 2, 1) := by decide +kernel
theorem dX11_digest_141 : decode cX11_digest 141 = .ok (.iload_n 3, 1) := by decide +kernel
theorem dX11_digest_142 : decode cX11_digest 142 = .ok (.imul, 1) := by decide +kernel
theorem dX11_digest_143 : decode cX11_digest 143 = .ok (.iconst 1, 1) := by decide +kernel
theorem dX11_digest_144 : decode cX11_digest 144 = .ok (.iadd, 1) := by decide +kernel
theorem dX11_digest_145 : decode cX11_digest 145 = .ok (.iaload, 1) := by decide +kernel
theorem dX11_digest_146 : decode cX11_digest 146 = .ok (.i2l, 1) := by decide +kernel
theorem dX11_digest_147 : decode cX11_digest 147 = .ok (.ladd, 1) := by decide +kernel
theorem dX11_digest_148 : decode cX11_digest 148 = .ok (.lstore_n 1, 1) := by decide +kernel
theorem dX11_digest_149 : decode cX11_digest 149 = .ok (.iinc 3 1, 3) := by decide +kernel
theorem dX11_digest_152 : decode cX11_digest 152 = .ok (.goto (-45), 3) := by decide +kernel
theorem dX11_digest_155 : decode cX11_digest 155 = .ok (.aload_n 0, 1) := by decide +kernel
theorem dX11_digest_156 : decode cX11_digest 156 = .ok (.invokevirtual 164, 3) := by decide +kernel
theorem dX11_digest_159 : decode cX11_digest 159 = .ok (.iconst 0, 1) := by decide +kernel
theorem dX11_digest_160 : decode cX11_digest 160 = .ok (.istore_n 3, 1) := by decide +kernel
theorem dX11_digest_161 : decode cX11_digest 161 = .ok (.iload_n 3, 1) := by decide +kernel
theorem dX11_digest_162 : decode cX11_digest 162 = .ok (.iconst 4, 1) := by decide +kernel
theorem dX11_digest_163 : decode cX11_digest 163 = .ok (.if_icmp .ge 52, 3) := by decide +kernel
theorem dX11_digest_166 : decode cX11_digest 166 = .ok (.iload_n 3, 1) := by decide +kernel
theorem dX11_digest_167 : decode cX11_digest 167 = .ok (.iconst 3, 1) := by decide +kernel
theorem dX11_digest_168 : decode cX11_digest 168 = .ok (.if_icmp .ge 7, 3) := by decide +kernel
theorem dX11_digest_171 : decode cX11_digest 171 = .ok (.iload_n 3, 1) := by decide +kernel
theorem dX11_digest_172 : decode cX11_digest 172 = .ok (.goto 5, 3) := by decide +kernel
theorem dX11_digest_175 : decode cX11_digest 175 = .ok (.bipush 9, 2) := by decide +kernel
theorem dX11_digest_177 : decode cX11_digest 177 = .ok (.istore 4, 2) := by decide +kernel
theorem dX11_digest_179 : decode cX11_digest 179 = .ok (.ldc2_w 258, 3) := by decide +kernel
theorem dX11_digest_182 : decode cX11_digest 182 = .ok (.lload_n 1, 1) := by decide +kernel
theorem dX11_digest_183 : decode cX11_digest 183 = .ok (.lmul, 1) := by decide +kernel
theorem dX11_digest_184 : decode cX11_digest 184 = .ok (.aload_n 0, 1) := by decide +kernel
theorem dX11_digest_185 : decode cX11_digest 185 = .ok (.getfield 43, 3) := by decide +kernel
theorem dX11_digest_188 : decode cX11_digest 188 = .ok (.iload 4, 2) := by decide +kernel
theorem dX11_digest_190 : decode cX11_digest 190 = .ok (.iaload, 1) := by decide +kernel
theorem dX11_digest_191 : decode cX11_digest 191 = .ok (.i2l, 1) := by decide +kernel
theorem dX11_digest_192 : decode cX11_digest 192 = .ok (.ladd, 1) := by decide +kernel
theorem dX11_digest_193 : decode cX11_digest 193 = .ok (.lstore_n 1, 1) := by decide +kernel
theorem dX11_digest_194 : decode cX11_digest 194 = .ok (.ldc2_w 258, 3) := by decide +kernel
theorem dX11_digest_197 : decode cX11_digest 197 = .ok (.lload_n 1, 1) := by decide +kernel
theorem dX11_digest_198 : decode cX11_digest 198 = .ok (.lmul, 1) := by decide +kernel
theorem dX11_digest_199 : decode cX11_digest 199 = .ok (.aload_n 0, 1) := by decide +kernel
theorem dX11_digest_200 : decode cX11_digest 200 = .ok (.getfield 46, 3) := by decide +kernel
theorem dX11_digest_203 : decode cX11_digest 203 = .ok (.iload 4, 2) := by decide +kernel
theorem dX11_digest_205 : decode cX11_digest 205 = .ok (.iaload, 1) := by decide +kernel
theorem dX11_digest_206 : decode cX11_digest 206 = .ok (.i2l, 1) := by decide +kernel
theorem dX11_digest_207 : decode cX11_digest 207 = .ok (.ladd, 1) := by decide +kernel
theorem dX11_digest_208 : decode cX11_digest 208 = .ok (.lstore_n 1, 1) := by decide +kernel
theorem dX11_digest_209 : decode cX11_digest 209 = .ok (.iinc 3 1, 3) := by decide +kernel
theorem dX11_digest_212 : decode cX11_digest 212 = .ok (.goto (-51), 3) := by decide +kernel
theorem dX11_digest_215 : decode cX11_digest 215 = .ok (.ldc2_w 258, 3) := by decide +kernel
theorem dX11_digest_218 : decode cX11_digest 218 = .ok (.lload_n 1, 1) := by decide +kernel
theorem dX11_digest_219 : decode cX11_digest 219 = .ok (.lmul, 1) := by decide +kernel
theorem dX11_digest_220 : decode cX11_digest 220 = .ok (.aload_n 0, 1) := by decide +kernel
theorem dX11_digest_221 : decode cX11_digest 221 = .ok (.invokevirtual 167, 3) := by decide +kernel
theorem dX11_digest_224 : decode cX11_digest 224 = .ok (.i2l, 1) := by decide +kernel
theorem dX11_digest_225 : decode cX11_digest 225 = .ok (.ladd, 1) := by decide +kernel
theorem dX11_digest_226 : decode cX11_digest 226 = .ok (.lstore_n 1, 1) := by decide +kernel
theorem dX11_digest_227 : decode cX11_digest 227 = .ok (.ldc2_w 258, 3) := by decide +kernel
theorem dX11_digest_230 : decode cX11_digest 230 = .ok (.lload_n 1, 1) := by decide +kernel
theorem dX11_digest_231 : decode cX11_digest 231 = .ok (.lmul, 1) := by decide +kernel
theorem dX11_digest_232 : decode cX11_digest 232 = .ok (.aload_n 0, 1) := by decide +kernel
theorem dX11_digest_233 : decode cX11_digest 233 = .ok (.invokevirtual 173, 3) := by decide +kernel
theorem dX11_digest_236 : decode cX11_digest 236 = .ok (.i2l, 1) := by decide +kernel
theorem dX11_digest_237 : decode cX11_digest 237 = .ok (.ladd, 1) := by decide +kernel
theorem dX11_digest_238 : decode cX11_digest 238 = .ok (.lstore_n 1, 1) := by decide +kernel
theorem dX11_digest_239 : decode cX11_digest 239 = .ok (.ldc2_w 258, 3) := by decide +kernel
theorem dX11_digest_242 : decode cX11_digest 242 = .ok (.lload_n 1, 1) := by decide +kernel
theorem dX11_digest_243 : decode cX11_digest 243 = .ok (.lmul, 1) := by decide +kernel
theorem dX11_digest_244 : decode cX11_digest 244 = .ok (.aload_n 0, 1) := by decide +kernel
theorem dX11_digest_245 : decode cX11_digest 245 = .ok (.iconst 3, 1) := by decide +kernel
theorem dX11_digest_246 : decode cX11_digest 246 = .ok (.invokevirtual 272, 3) := by decide +kernel
theorem dX11_digest_249 : decode cX11_digest 249 = .ok (.i2l, 1) := by decide +kernel
theorem dX11_digest_250 : decode cX11_digest 250 = .ok (.ladd, 1) := by decide +kernel
theorem dX11_digest_251 : decode cX11_digest 251 = .ok (.lstore_n 1, 1) := by decide +kernel
theorem dX11_digest_252 : decode cX11_digest 252 = .ok (.aload_n 0, 1) := by decide +kernel
theorem dX11_digest_253 : decode cX11_digest 253 = .ok (.iconst 2, 1) := by decide +kernel
theorem dX11_digest_254 : decode cX11_digest 254 = .ok (.iconst 1, 1) := by decide +kernel
theorem dX11_digest_255 : decode cX11_digest 255 = .ok (.iconst 2, 1) := by decide +kernel
theorem dX11_digest_256 : decode cX11_digest 256 = .ok (.invokevirtual 184, 3) := by decide +kernel
theorem dX11_digest_259 : decode cX11_digest 259 = .ok (.istore_n 3, 1) := by decide +kernel
theorem dX11_digest_260 : decode cX11_digest 260 = .ok (.iconst 0, 1) := by decide +kernel
theorem dX11_digest_261 : decode cX11_digest 261 = .ok (.istore 4, 2) := by decide +kernel
theorem dX11_digest_263 : decode cX11_digest 263 = .ok (.iload 4, 2) := by decide +kernel
theorem dX11_digest_265 : decode cX11_digest 265 = .ok (.iconst 2, 1) := by decide +kernel
theorem dX11_digest_266 : decode cX11_digest 266 = .ok (.if_icmp .ge 23, 3) := by decide +kernel
theorem dX11_digest_269 : decode cX11_digest 269 = .ok (.ldc2_w 258, 3) := by decide +kernel
theorem dX11_digest_272 : decode cX11_digest 272 = .ok (.lload_n 1, 1) := by decide +kernel
theorem dX11_digest_273 : decode cX11_digest 273 = .ok (.lmul, 1) := by decide +kernel
theorem dX11_digest_274 : decode cX11_digest 274 = .ok (.iload_n 3, 1) := by decide +kernel
theorem dX11_digest_275 : decode cX11_digest 275 = .ok (.iload 4, 2) := by decide +kernel
theorem dX11_digest_277 : decode cX11_digest 277 = .ok (.invokestatic 187, 3) := by decide +kernel
theorem dX11_digest_280 : decode cX11_digest 280 = .ok (.i2l, 1) := by decide +kernel
theorem dX11_digest_281 : decode cX11_digest 281 = .ok (.ladd, 1) := by decide +kernel
theorem dX11_digest_282 : decode cX11_digest 282 = .ok (.lstore_n 1, 1) := by decide +kernel
theorem dX11_digest_283 : decode cX11_digest 283 = .ok (.iinc 4 1, 3) := by decide +kernel
theorem dX11_digest_286 : decode cX11_digest 286 = .ok (.goto (-23), 3) := by decide +kernel
theorem dX11_digest_289 : decode cX11_digest 289 = .ok (.ldc2_w 258, 3) := by decide +kernel
theorem dX11_digest_292 : decode cX11_digest 292 = .ok (.lload_n 1, 1) := by decide +kernel
theorem dX11_digest_293 : decode cX11_digest 293 = .ok (.lmul, 1) := by decide +kernel
theorem dX11_digest_294 : decode cX11_digest 294 = .ok (.aload_n 0, 1) := by decide +kernel
theorem dX11_digest_295 : decode cX11_digest 295 = .ok (.iconst (-1), 1) := by decide +kernel
theorem dX11_digest_296 : decode cX11_digest 296 = .ok (.invokevirtual 211, 3) := by decide +kernel
theorem dX11_digest_299 : decode cX11_digest 299 = .ok (.i2l, 1) := by decide +kernel
theorem dX11_digest_300 : decode cX11_digest 300 = .ok (.ladd, 1) := by decide +kernel
theorem dX11_digest_301 : decode cX11_digest 301 = .ok (.lstore_n 1, 1) := by decide +kernel
theorem dX11_digest_302 : decode cX11_digest 302 = .ok (.ldc2_w 258, 3) := by decide +kernel
theorem dX11_digest_305 : decode cX11_digest 305 = .ok (.lload_n 1, 1) := by decide +kernel
theorem dX11_digest_306 : decode cX11_digest 306 = .ok (.lmul, 1) := by decide +kernel
theorem dX11_digest_307 : decode cX11_digest 307 = .ok (.aload_n 0, 1) := by decide +kernel
theorem dX11_digest_308 : decode cX11_digest 308 = .ok (.iconst 0, 1) := by decide +kernel
theorem dX11_digest_309 : decode cX11_digest 309 = .ok (.invokevirtual 211, 3) := by decide +kernel
theorem dX11_digest_312 : decode cX11_digest 312 = .ok (.i2l, 1) := by decide +kernel
theorem dX11_digest_313 : decode cX11_digest 313 = .ok (.ladd, 1) := by decide +kernel
theorem dX11_digest_314 : decode cX11_digest 314 = .ok (.lstore_n 1, 1) := by decide +kernel
theorem dX11_digest_315 : decode cX11_digest 315 = .ok (.iconst 0, 1) := by decide +kernel
theorem dX11_digest_316 : decode cX11_digest 316 = .ok (.istore 4, 2) := by decide +kernel
theorem dX11_digest_318 : decode cX11_digest 318 = .ok (.iload 4, 2) := by decide +kernel
theorem dX11_digest_320 : decode cX11_digest 320 = .ok (.iconst 2, 1) := by decide +kernel
theorem dX11_digest_321 : decode cX11_digest 321 = .ok (.if_icmp .ge 24, 3) := by decide +kernel
theorem dX11_digest_324 : decode cX11_digest 324 = .ok (.ldc2_w 258, 3) := by decide +kernel
theorem dX11_digest_327 : decode cX11_digest 327 = .ok (.lload_n 1, 1) := by decide +kernel
theorem dX11_digest_328 : decode cX11_digest 328 = .ok (.lmul, 1) := by decide +kernel
theorem dX11_digest_329 : decode cX11_digest 329 = .ok (.aload_n 0, 1) := by decide +kernel
theorem dX11_digest_330 : decode cX11_digest 330 = .ok (.iconst 5, 1) := by decide +kernel
theorem dX11_digest_331 : decode cX11_digest 331 = .ok (.iload 4, 2) := by decide +kernel
theorem dX11_digest_333 : decode cX11_digest 333 = .ok (.invokevirtual 214, 3) := by decide +kernel
theorem dX11_digest_336 : decode cX11_digest 336 = .ok (.i2l, 1) := by decide +kernel
theorem dX11_digest_337 : decode cX11_digest 337 = .ok (.ladd, 1) := by decide +kernel
theorem dX11_digest_338 : decode cX11_digest 338 = .ok (.lstore_n 1, 1) := by decide +kernel
theorem dX11_digest_339 : decode cX11_digest 339 = .ok (.iinc 4 1, 3) := by decide +kernel
theorem dX11_digest_342 : decode cX11_digest 342 = .ok (.goto (-24), 3) := by decide +kernel
theorem dX11_digest_345 : decode cX11_digest 345 = .ok (.ldc2_w 258, 3) := by decide +kernel
theorem dX11_digest_348 : decode cX11_digest 348 = .ok (.lload_n 1, 1) := by decide +kernel
theorem dX11_digest_349 : decode cX11_digest 349 = .ok (.lmul, 1) := by decide +kernel
theorem dX11_digest_350 : decode cX11_digest 350 = .ok (.aload_n 0, 1) := by decide +kernel
theorem dX11_digest_351 : decode cX11_digest 351 = .ok (.iconst 1, 1) := by decide +kernel
theorem dX11_digest_352 : decode cX11_digest 352 = .ok (.invokevirtual 231, 3) := by decide +kernel
theorem dX11_digest_355 : decode cX11_digest 355 = .ok (.i2l, 1) := by decide +kernel
theorem dX11_digest_356 : decode cX11_digest 356 = .ok (.ladd, 1) := by decide +kernel
theorem dX11_digest_357 : decode cX11_digest 357 = .ok (.lstore_n 1, 1) := by decide +kernel
theorem dX11_digest_358 : decode cX11_digest 358 = .ok (.ldc2_w 258, 3) := by decide +kernel
theorem dX11_digest_361 : decode cX11_digest 361 = .ok (.lload_n 1, 1) := by decide +kernel
theorem dX11_digest_362 : decode cX11_digest 362 = .ok (.lmul, 1) := by decide +kernel
theorem dX11_digest_363 : decode cX11_digest 363 = .ok (.aload_n 0, 1) := by decide +kernel
theorem dX11_digest_364 : decode cX11_digest 364 = .ok (.bipush 7, 2) := by decide +kernel
theorem dX11_digest_366 : decode cX11_digest 366 = .ok (.bipush 9, 2) := by decide +kernel
theorem dX11_digest_368 : decode cX11_digest 368 = .ok (.iconst (-1), 1) := by decide +kernel
theorem dX11_digest_369 : decode cX11_digest 369 = .ok (.invokevirtual 255, 3) := by decide +kernel
theorem dX11_digest_372 : decode cX11_digest 372 = .ok (.i2l, 1) := by decide +kernel
theorem dX11_digest_373 : decode cX11_digest 373 = .ok (.ladd, 1) := by decide +kernel
theorem dX11_digest_374 : decode cX11_digest 374 = .ok (.lstore_n 1, 1) := by decide +kernel
theorem dX11_digest_375 : decode cX11_digest 375 = .ok (.iconst 0, 1) := by decide +kernel
theorem dX11_digest_376 : decode cX11_digest 376 = .ok (.istore 4, 2) := by decide +kernel
theorem dX11_digest_378 : decode cX11_digest 378 = .ok (.iload 4, 2) := by decide +kernel
theorem dX11_digest_380 : decode cX11_digest 380 = .ok (.bipush 8, 2) := by decide +kernel
theorem dX11_digest_382 : decode cX11_digest 382 = .ok (.if_icmp .ge 17, 3) := by decide +kernel
theorem dX11_digest_385 : decode cX11_digest 385 = .ok (.aload_n 0, 1) := by decide +kernel
theorem dX11_digest_386 : decode cX11_digest 386 = .ok (.lload_n 1, 1) := by decide +kernel
theorem dX11_digest_387 : decode cX11_digest 387 = .ok (.iload 4, 2) := by decide +kernel
theorem dX11_digest_389 : decode cX11_digest 389 = .ok (.invokevirtual 275, 3) := by decide +kernel
theorem dX11_digest_392 : decode cX11_digest 392 = .ok (.lstore_n 1, 1) := by decide +kernel
theorem dX11_digest_393 : decode cX11_digest 393 = .ok (.iinc 4 1, 3) := by decide +kernel
theorem dX11_digest_396 : decode cX11_digest 396 = .ok (.goto (-18), 3) := by decide +kernel
theorem dX11_digest_399 : decode cX11_digest 399 = .ok (.lload_n 1, 1) := by decide +kernel
theorem dX11_digest_400 : decode cX11_digest 400 = .ok (.lreturn, 1) := by decide +kernel
theorem dJ6_bitCount_0f7a4_0 : decode cJ6_bitCount_0f7a4 0 = .ok (.iload_n 0, 1) := by decide +kernel
theorem dJ6_bitCount_0f7a4_1 : decode cJ6_bitCount_0f7a4 1 = .ok (.iload_n 0, 1) := by decide +kernel
theorem dJ6_bitCount_0f7a4_2 : decode cJ6_bitCount_0f7a4 2 = .ok (.iconst 1, 1) := by decide +kernel
theorem dJ6_bitCount_0f7a4_3 : decode cJ6_bitCount_0f7a4 3 = .ok (.iushr, 1) := by decide +kernel
theorem dJ6_bitCount_0f7a4_4 : decode cJ6_bitCount_0f7a4 4 = .ok (.ldc_w 265, 3) := by decide +kernel
theorem dJ6_bitCount_0f7a4_7 : decode cJ6_bitCount_0f7a4 7 = .ok (.iand, 1) := by decide +kernel
theorem dJ6_bitCount_0f7a4_8 : decode cJ6_bitCount_0f7a4 8 = .ok (.isub, 1) := by decide +kernel
theorem dJ6_bitCount_0f7a4_9 : decode cJ6_bitCount_0f7a4 9 = .ok (.istore_n 0, 1) := by decide +kernel
theorem dJ6_bitCount_0f7a4_10 : decode cJ6_bitCount_0f7a4 10 = .ok (.iload_n 0, 1) := by decide +kernel
theorem dJ6_bitCount_0f7a4_11 : decode cJ6_bitCount_0f7a4 11 = .ok (.ldc_w 266, 3) := by decide +kernel
theorem dJ6_bitCount_0f7a4_14 : decode cJ6_bitCount_0f7a4 14 = .ok (.iand, 1) := by decide +kernel
theorem dJ6_bitCount_0f7a4_15 : decode cJ6_bitCount_0f7a4 15 = .ok (.iload_n 0, 1) := by decide +kernel
theorem dJ6_bitCount_0f7a4_16 : decode cJ6_bitCount_0f7a4 16 = .ok (.iconst 2, 1) := by decide +kernel
theorem dJ6_bitCount_0f7a4_17 : decode cJ6_bitCount_0f7a4 17 = .ok (.iushr, 1) := by decide +kernel
theorem dJ6_bitCount_0f7a4_18 : decode cJ6_bitCount_0f7a4 18 = .ok (.ldc_w 266, 3) := by decide +kernel
theorem dJ6_bitCount_0f7a4_21 : decode cJ6_bitCount_0f7a4 21 = .ok (.iand, 1) := by decide +kernel
theorem dJ6_bitCount_0f7a4_22 : decode cJ6_bitCount_0f7a4 22 = .ok (.iadd, 1) := by decide +kernel
theorem dJ6_bitCount_0f7a4_23 : decode cJ6_bitCount_0f7a4 23 = .ok (.istore_n 0, 1) := by decide +kernel
theorem dJ6_bitCount_0f7a4_24 : decode cJ6_bitCount_0f7a4 24 = .ok (.iload_n 0, 1) := by decide +kernel
theorem dJ6_bitCount_0f7a4_25 : decode cJ6_bitCount_0f7a4 25 = .ok (.iload_n 0, 1) := by decide +kernel
theorem dJ6_bitCount_0f7a4_26 : decode cJ6_bitCount_0f7a4 26 = .ok (.iconst 4, 1) := by decide +kernel
theorem dJ6_bitCount_0f7a4_27 : decode cJ6_bitCount_0f7a4 27 = .ok (.iushr, 1) := by decide +kernel
theorem dJ6_bitCount_0f7a4_28 : decode cJ6_bitCount_0f7a4 28 = .ok (.iadd, 1) := by decide +kernel
theorem dJ6_bitCount_0f7a4_29 : decode cJ6_bitCount_0f7a4 29 = .ok (.ldc_w 267, 3) := by decide +kernel
theorem dJ6_bitCount_0f7a4_32 : decode cJ6_bitCount_0f7a4 32 = .ok (.iand, 1) := by decide +kernel
theorem dJ6_bitCount_0f7a4_33 : decode cJ6_bitCount_0f7a4 33 = .ok (.istore_n 0, 1) := by decide +kernel
theorem dJ6_bitCount_0f7a4_34 : decode cJ6_bitCount_0f7a4 34 = .ok (.iload_n 0, 1) := by decide +kernel
theorem dJ6_bitCount_0f7a4_35 : decode cJ6_bitCount_0f7a4 35 = .ok (.iload_n 0, 1) := by decide +kernel
theorem dJ6_bitCount_0f7a4_36 : decode cJ6_bitCount_0f7a4 36 = .ok (.bipush 8, 2) := by decide +kernel
theorem dJ6_bitCount_0f7a4_38 : decode cJ6_bitCount_0f7a4 38 = .ok (.iushr, 1) := by decide +kernel
theorem dJ6_bitCount_0f7a4_39 : decode cJ6_bitCount_0f7a4 39 = .ok (.iadd, 1) := by decide +kernel
theorem dJ6_bitCount_0f7a4_40 : decode cJ6_bitCount_0f7a4 40 = .ok (.istore_n 0, 1) := by decide +kernel
theorem dJ6_bitCount_0f7a4_41 : decode cJ6_bitCount_0f7a4 41 = .ok (.iload_n 0, 1) := by decide +kernel
theorem dJ6_bitCount_0f7a4_42 : decode cJ6_bitCount_0f7a4 42 = .ok (.iload_n 0, 1) := by decide +kernel
theorem dJ6_bitCount_0f7a4_43 : decode cJ6_bitCount_0f7a4 43 = .ok (.bipush 16, 2) := by decide +kernel
theorem dJ6_bitCount_0f7a4_45 : decode cJ6_bitCount_0f7a4 45 = .ok (.iushr, 1) := by decide +kernel
theorem dJ6_bitCount_0f7a4_46 : decode cJ6_bitCount_0f7a4 46 = .ok (.iadd, 1) := by decide +kernel
theorem dJ6_bitCount_0f7a4_47 : decode cJ6_bitCount_0f7a4 47 = .ok (.istore_n 0, 1) := by decide +kernel
theorem dJ6_bitCount_0f7a4_48 : decode cJ6_bitCount_0f7a4 48 = .ok (.iload_n 0, 1) := by decide +kernel
theorem dJ6_bitCount_0f7a4_49 : decode cJ6_bitCount_0f7a4 49 = .ok (.bipush 63, 2) := by decide +kernel
theorem dJ6_bitCount_0f7a4_51 : decode cJ6_bitCount_0f7a4 51 = .ok (.iand, 1) := by decide +kernel
theorem dJ6_bitCount_0f7a4_52 : decode cJ6_bitCount_0f7a4 52 = .ok (.ireturn, 1) := by decide +kernel
theorem dJ9_abs_0f7a4_0 : decode cJ9_abs_0f7a4 0 = .ok (.iload_n 0, 1) := by decide +kernel
theorem dJ9_abs_0f7a4_1 : decode cJ9_abs_0f7a4 1 = .ok (.ifCond .ge 8, 3) := by decide +kernel
theorem dJ9_abs_0f7a4_4 : decode cJ9_abs_0f7a4 4 = .ok (.iload_n 0, 1) := by decide +kernel
theorem dJ9_abs_0f7a4_5 : decode cJ9_abs_0f7a4 5 = .ok (.ineg, 1) := by decide +kernel
theorem dJ9_abs_0f7a4_6 : decode cJ9_abs_0f7a4 6 = .ok (.goto 4, 3) := by decide +kernel
theorem dJ9_abs_0f7a4_9 : decode cJ9_abs_0f7a4 9 = .ok (.iload_n 0, 1) := by decide +kernel
theorem dJ9_abs_0f7a4_10 : decode cJ9_abs_0f7a4 10 = .ok (.ireturn, 1) := by decide +kernel
theorem dJ9_max_7cf53_0 : decode cJ9_max_7cf53 0 = .ok (.iload_n 0, 1) := by decide +kernel
theorem dJ9_max_7cf53_1 : decode cJ9_max_7cf53 1 = .ok (.iload_n 1, 1) := by decide +kernel
theorem dJ9_max_7cf53_2 : decode cJ9_max_7cf53 2 = .ok (.if_icmp .lt 7, 3) := by decide +kernel
theorem dJ9_max_7cf53_5 : decode cJ9_max_7cf53 5 = .ok (.iload_n 0, 1) := by decide +kernel
theorem dJ9_max_7cf53_6 : decode cJ9_max_7cf53 6 = .ok (.goto 4, 3) := by decide +kernel
theorem dJ9_max_7cf53_9 : decode cJ9_max_7cf53 9 = .ok (.iload_n 1, 1) := by decide +kernel
theorem dJ9_max_7cf53_10 : decode cJ9_max_7cf53 10 = .ok (.ireturn, 1) := by decide +kernel
theorem dJ9_min_7cf53_0 : decode cJ9_min_7cf53 0 = .ok (.iload_n 0, 1) := by decide +kernel
theorem dJ9_min_7cf53_1 : decode cJ9_min_7cf53 1 = .ok (.iload_n 1, 1) := by decide +kernel
theorem dJ9_min_7cf53_2 : decode cJ9_min_7cf53 2 = .ok (.if_icmp .gt 7, 3) := by decide +kernel
theorem dJ9_min_7cf53_5 : decode cJ9_min_7cf53 5 = .ok (.iload_n 0, 1) := by decide +kernel
theorem dJ9_min_7cf53_6 : decode cJ9_min_7cf53 6 = .ok (.goto 4, 3) := by decide +kernel
theorem dJ9_min_7cf53_9 : decode cJ9_min_7cf53 9 = .ok (.iload_n 1, 1) := by decide +kernel
theorem dJ9_min_7cf53_10 : decode cJ9_min_7cf53 10 = .ok (.ireturn, 1) := by decide +kernel
theorem dL_law_0 : decode cL_law 0 = .ok (.new 7, 3) := by decide +kernel
theorem dL_law_3 : decode cL_law 3 = .ok (.dup, 1) := by decide +kernel
theorem dL_law_4 : decode cL_law 4 = .ok (.invokespecial 9, 3) := by decide +kernel
theorem dL_law_7 : decode cL_law 7 = .ok (.astore_n 1, 1) := by decide +kernel
theorem dL_law_8 : decode cL_law 8 = .ok (.new 10, 3) := by decide +kernel
theorem dL_law_11 : decode cL_law 11 = .ok (.dup, 1) := by decide +kernel
theorem dL_law_12 : decode cL_law 12 = .ok (.invokespecial 12, 3) := by decide +kernel
theorem dL_law_15 : decode cL_law 15 = .ok (.astore_n 2, 1) := by decide +kernel
theorem dL_law_16 : decode cL_law 16 = .ok (.iconst 0, 1) := by decide +kernel
theorem dL_law_17 : decode cL_law 17 = .ok (.istore_n 3, 1) := by decide +kernel
theorem dL_law_18 : decode cL_law 18 = .ok (.iload_n 3, 1) := by decide +kernel
theorem dL_law_19 : decode cL_law 19 = .ok (.aload_n 0, 1) := by decide +kernel
theorem dL_law_20 : decode cL_law 20 = .ok (.arraylength, 1) := by decide +kernel
theorem dL_law_21 : decode cL_law 21 = .ok (.bipush 6, 2) := by decide +kernel
theorem dL_law_23 : decode cL_law 23 = .ok (.isub, 1) := by decide +kernel
theorem dL_law_24 : decode cL_law 24 = .ok (.if_icmp .gt 1338, 3) := by decide +kernel
theorem dL_law_27 : decode cL_law 27 = .ok (.aload_n 0, 1) := by decide +kernel
theorem dL_law_28 : decode cL_law 28 = .ok (.iload_n 3, 1) := by decide +kernel
theorem dL_law_29 : decode cL_law 29 = .ok (.iaload, 1) := by decide +kernel
theorem dL_law_30 : decode cL_law 30 = .ok (.bipush 63, 2) := by decide +kernel
theorem dL_law_32 : decode cL_law 32 = .ok (.iand, 1) := by decide +kernel
theorem dL_law_33 : decode cL_law 33 = .ok (.tableswitch 1323 0 37 #[167, 200, 223, 246, 269, 302, 335, 358, 381, 404, 447, 460, 493, 506, 519, 542, 595, 638, 661, 704, 727, 760, 793, 806, 829, 862, 885, 908, 952, 985, 1028, 1071, 1094, 1147, 1190, 1253, 1286, 1309], 167) := by decide +kernel
theorem dL_law_200 : decode cL_law 200 = .ok (.aload_n 1, 1) := by decide +kernel
theorem dL_law_201 : decode cL_law 201 = .ok (.aload_n 0, 1) := by decide +kernel
theorem dL_law_202 : decode cL_law 202 = .ok (.iload_n 3, 1) := by decide +kernel
theorem dL_law_203 : decode cL_law 203 = .ok (.iconst 1, 1) := by decide +kernel
theorem dL_law_204 : decode cL_law 204 = .ok (.iadd, 1) := by decide +kernel
theorem dL_law_205 : decode cL_law 205 = .ok (.iaload, 1) := by decide +kernel
theorem dL_law_206 : decode cL_law 206 = .ok (.aload_n 0, 1) := by decide +kernel
theorem dL_law_207 : decode cL_law 207 = .ok (.iload_n 3, 1) := by decide +kernel
theorem dL_law_208 : decode cL_law 208 = .ok (.iconst 2, 1) := by decide +kernel
theorem dL_law_209 : decode cL_law 209 = .ok (.iadd, 1) := by decide +kernel
theorem dL_law_210 : decode cL_law 210 = .ok (.iaload, 1) := by decide +kernel
theorem dL_law_211 : decode cL_law 211 = .ok (.invokevirtual 13, 3) := by decide +kernel
theorem dL_law_214 : decode cL_law 214 = .ok (.aload_n 2, 1) := by decide +kernel
theorem dL_law_215 : decode cL_law 215 = .ok (.aload_n 0, 1) := by decide +kernel
theorem dL_law_216 : decode cL_law 216 = .ok (.iload_n 3, 1) := by decide +kernel
theorem dL_law_217 : decode cL_law 217 = .ok (.iconst 1, 1) := by decide +kernel
theorem dL_law_218 : decode cL_law 218 = .ok (.iadd, 1) := by decide +kernel
theorem dL_law_219 : decode cL_law 219 = .ok (.iaload, 1) := by decide +kernel
theorem dL_law_220 : decode cL_law 220 = .ok (.aload_n 0, 1) := by decide +kernel
theorem dL_law_221 : decode cL_law 221 = .ok (.iload_n 3, 1) := by decide +kernel
theorem dL_law_222 : decode cL_law 222 = .ok (.iconst 2, 1) := by decide +kernel
theorem dL_law_223 : decode cL_law 223 = .ok (.iadd, 1) := by decide +kernel
theorem dL_law_224 : decode cL_law 224 = .ok (.iaload, 1) := by decide +kernel
theorem dL_law_225 : decode cL_law 225 = .ok (.invokevirtual 17, 3) := by decide +kernel
theorem dL_law_228 : decode cL_law 228 = .ok (.if_icmp .eq 1128, 3) := by decide +kernel
theorem dL_law_231 : decode cL_law 231 = .ok (.iconst 0, 1) := by decide +kernel
theorem dL_law_232 : decode cL_law 232 = .ok (.ireturn, 1) := by decide +kernel
theorem dL_law_233 : decode cL_law 233 = .ok (.aload_n 1, 1) := by decide +kernel
theorem dL_law_234 : decode cL_law 234 = .ok (.aload_n 0, 1) := by decide +kernel
theorem dL_law_235 : decode cL_law 235 = .ok (.iload_n 3, 1) := by decide +kernel
theorem dL_law_236 : decode cL_law 236 = .ok (.iconst 1, 1) := by decide +kernel
theorem dL_law_237 : decode cL_law 237 = .ok (.iadd, 1) := by decide +kernel
theorem dL_law_238 : decode cL_law 238 = .ok (.iaload, 1) := by decide +kernel
theorem dL_law_239 : decode cL_law 239 = .ok (.invokevirtual 18, 3) := by decide +kernel
theorem dL_law_242 : decode cL_law 242 = .ok (.aload_n 2, 1) := by decide +kernel
theorem dL_law_243 : decode cL_law 243 = .ok (.aload_n 0, 1) := by decide +kernel
theorem dL_law_244 : decode cL_law 244 = .ok (.iload_n 3, 1) := by decide +kernel
theorem dL_law_245 : decode cL_law 245 = .ok (.iconst 1, 1) := by decide +kernel
theorem dL_law_246 : decode cL_law 246 = .ok (.iadd, 1) := by decide +kernel
theorem dL_law_247 : decode cL_law 247 = .ok (.iaload, 1) := by decide +kernel
theorem dL_law_248 : decode cL_law 248 = .ok (.invokevirtual 22, 3) := by decide +kernel
theorem dL_law_251 : decode cL_law 251 = .ok (.if_icmp .eq 1105, 3) := by decide +kernel
theorem dL_law_254 : decode cL_law 254 = .ok (.iconst 0, 1) := by decide +kernel
theorem dL_law_255 : decode cL_law 255 = .ok (.ireturn, 1) := by decide +kernel
theorem dL_law_256 : decode cL_law 256 = .ok (.aload_n 1, 1) := by decide +kernel
theorem dL_law_257 : decode cL_law 257 = .ok (.aload_n 0, 1) := by decide +kernel
theorem dL_law_258 : decode cL_law 258 = .ok (.iload_n 3, 1) := by decide +kernel
theorem dL_law_259 : decode cL_law 259 = .ok (.iconst 1, 1) := by decide +kernel
theorem dL_law_260 : decode cL_law 260 = .ok (.iadd, 1) := by decide +kernel
theorem dL_law_261 : decode cL_law 261 = .ok (.iaload, 1) := by decide +kernel
theorem dL_law_262 : decode cL_law 262 = .ok (.invokevirtual 23, 3) := by decide +kernel
theorem dL_law_265 : decode cL_law 265 = .ok (.aload_n 2, 1) := by decide +kernel
theorem dL_law_266 : decode cL_law 266 = .ok (.aload_n 0, 1) := by decide +kernel
theorem dL_law_267 : decode cL_law 267 = .ok (.iload_n 3, 1) := by decide +kernel
theorem dL_law_268 : decode cL_law 268 = .ok (.iconst 1, 1) := by decide +kernel
theorem dL_law_269 : decode cL_law 269 = .ok (.iadd, 1) := by decide +kernel
theorem dL_law_270 : decode cL_law 270 = .ok (.iaload, 1) := by decide +kernel
theorem dL_law_271 : decode cL_law 271 = .ok (.invokevirtual 26, 3) := by decide +kernel
theorem dL_law_274 : decode cL_law 274 = .ok (.if_icmp .eq 1082, 3) := by decide +kernel
theorem dL_law_277 : decode cL_law 277 = .ok (.iconst 0, 1) := by decide +kernel
theorem dL_law_278 : decode cL_law 278 = .ok (.ireturn, 1) := by decide +kernel
theorem dL_law_279 : decode cL_law 279 = .ok (.aload_n 1, 1) := by decide +kernel
theorem dL_law_280 : decode cL_law 280 = .ok (.aload_n 0, 1) := by decide +kernel
theorem dL_law_281 : decode cL_law 281 = .ok (.iload_n 3, 1) := by decide +kernel
theorem dL_law_282 : decode cL_law 282 = .ok (.iconst 1, 1) := by decide +kernel
theorem dL_law_283 : decode cL_law 283 = .ok (.iadd, 1) := by decide +kernel
theorem dL_law_284 : decode cL_law 284 = .ok (.iaload, 1) := by decide +kernel
theorem dL_law_285 : decode cL_law 285 = .ok (.invokevirtual 27, 3) := by decide +kernel
theorem dL_law_288 : decode cL_law 288 = .ok (.aload_n 2, 1) := by decide +kernel
theorem dL_law_289 : decode cL_law 289 = .ok (.aload_n 0, 1) := by decide +kernel
theorem dL_law_290 : decode cL_law 290 = .ok (.iload_n 3, 1) := by decide +kernel
theorem dL_law_291 : decode cL_law 291 = .ok (.iconst 1, 1) := by decide +kernel
theorem dL_law_292 : decode cL_law 292 = .ok (.iadd, 1) := by decide +kernel
theorem dL_law_293 : decode cL_law 293 = .ok (.iaload, 1) := by decide +kernel
theorem dL_law_294 : decode cL_law 294 = .ok (.invokevirtual 30, 3) := by decide +kernel
theorem dL_law_297 : decode cL_law 297 = .ok (.if_icmp .eq 1059, 3) := by decide +kernel
theorem dL_law_300 : decode cL_law 300 = .ok (.iconst 0, 1) := by decide +kernel
theorem dL_law_301 : decode cL_law 301 = .ok (.ireturn, 1) := by decide +kernel
theorem dL_law_302 : decode cL_law 302 = .ok (.aload_n 1, 1) := by decide +kernel
theorem dL_law_303 : decode cL_law 303 = .ok (.aload_n 0, 1) := by decide +kernel
theorem dL_law_304 : decode cL_law 304 = .ok (.iload_n 3, 1) := by decide +kernel
theorem dL_law_305 : decode cL_law 305 = .ok (.iconst 1, 1) := by decide +kernel
theorem dL_law_306 : decode cL_law 306 = .ok (.iadd, 1) := by decide +kernel
theorem dL_law_307 : decode cL_law 307 = .ok (.iaload, 1) := by decide +kernel
theorem dL_law_308 : decode cL_law 308 = .ok (.aload_n 0, 1) := by decide +kernel
theorem dL_law_309 : decode cL_law 309 = .ok (.iload_n 3, 1) := by decide +kernel
theorem dL_law_310 : decode cL_law 310 = .ok (.iconst 2, 1) := by decide +kernel
theorem dL_law_311 : decode cL_law 311 = .ok (.iadd, 1) := by decide +kernel
theorem dL_law_312 : decode cL_law 312 = .ok (.iaload, 1) := by decide +kernel
theorem dL_law_313 : decode cL_law 313 = .ok (.invokevirtual 31, 3) := by decide +kernel
theorem dL_law_316 : decode cL_law 316 = .ok (.aload_n 2, 1) := by decide +kernel
theorem dL_law_317 : decode cL_law 317 = .ok (.aload_n 0, 1) := by decide +kernel
theorem dL_law_318 : decode cL_law 318 = .ok (.iload_n 3, 1) := by decide +kernel
theorem dL_law_319 : decode cL_law 319 = .ok (.iconst 1, 1) := by decide +kernel
theorem dL_law_320 : decode cL_law 320 = .ok (.iadd, 1) := by decide +kernel
theorem dL_law_321 : decode cL_law 321 = .ok (.iaload, 1) := by decide +kernel
theorem dL_law_322 : decode cL_law 322 = .ok (.aload_n 0, 1) := by decide +kernel
theorem dL_law_323 : decode cL_law 323 = .ok (.iload_n 3, 1) := by decide +kernel
theorem dL_law_324 : decode cL_law 324 = .ok (.iconst 2, 1) := by decide +kernel
theorem dL_law_325 : decode cL_law 325 = .ok (.iadd, 1) := by decide +kernel
theorem dL_law_326 : decode cL_law 326 = .ok (.iaload, 1) := by decide +kernel
theorem dL_law_327 : decode cL_law 327 = .ok (.invokevirtual 34, 3) := by decide +kernel
theorem dL_law_330 : decode cL_law 330 = .ok (.if_icmp .eq 1026, 3) := by decide +kernel
theorem dL_law_333 : decode cL_law 333 = .ok (.iconst 0, 1) := by decide +kernel
theorem dL_law_334 : decode cL_law 334 = .ok (.ireturn, 1) := by decide +kernel
theorem dL_law_335 : decode cL_law 335 = .ok (.aload_n 1, 1) := by decide +kernel
theorem dL_law_336 : decode cL_law 336 = .ok (.aload_n 0, 1) := by decide +kernel
theorem dL_law_337 : decode cL_law 337 = .ok (.iload_n 3, 1) := by decide +kernel
theorem dL_law_338 : decode cL_law 338 = .ok (.iconst 1, 1) := by decide +kernel
theorem dL_law_339 : decode cL_law 339 = .ok (.iadd, 1) := by decide +kernel
theorem dL_law_340 : decode cL_law 340 = .ok (.iaload, 1) := by decide +kernel
theorem dL_law_341 : decode cL_law 341 = .ok (.aload_n 0, 1) := by decide +kernel
theorem dL_law_342 : decode cL_law 342 = .ok (.iload_n 3, 1) := by decide +kernel
theorem dL_law_343 : decode cL_law 343 = .ok (.iconst 2, 1) := by decide +kernel
theorem dL_law_344 : decode cL_law 344 = .ok (.iadd, 1) := by decide +kernel
theorem dL_law_345 : decode cL_law 345 = .ok (.iaload, 1) := by decide +kernel
theorem dL_law_346 : decode cL_law 346 = .ok (.invokevirtual 35, 3) := by decide +kernel
theorem dL_law_349 : decode cL_law 349 = .ok (.aload_n 2, 1) := by decide +kernel
theorem dL_law_350 : decode cL_law 350 = .ok (.aload_n 0, 1) := by decide +kernel
theorem dL_law_351 : decode cL_law 351 = .ok (.iload_n 3, 1) := by decide +kernel
theorem dL_law_352 : decode cL_law 352 = .ok (.iconst 1, 1) := by decide +kernel
theorem dL_law_353 : decode cL_law 353 = .ok (.iadd, 1) := by decide +kernel
theorem dL_law_354 : decode cL_law 354 = .ok (.iaload, 1) := by decide +kernel
theorem dL_law_355 : decode cL_law 355 = .ok (.aload_n 0, 1) := by decide +kernel
theorem dL_law_356 : decode cL_law 356 = .ok (.iload_n 3, 1) := by decide +kernel
theorem dL_law_357 : decode cL_law 357 = .ok (.iconst 2, 1) := by decide +kernel
theorem dL_law_358 : decode cL_law 358 = .ok (.iadd, 1) := by decide +kernel
theorem dL_law_359 : decode cL_law 359 = .ok (.iaload, 1) := by decide +kernel
theorem dL_law_360 : decode cL_law 360 = .ok (.invokevirtual 38, 3) := by decide +kernel
theorem dL_law_363 : decode cL_law 363 = .ok (.if_icmp .eq 993, 3) := by decide +kernel
theorem dL_law_366 : decode cL_law 366 = .ok (.iconst 0, 1) := by decide +kernel
theorem dL_law_367 : decode cL_law 367 = .ok (.ireturn, 1) := by decide +kernel
theorem dL_law_368 : decode cL_law 368 = .ok (.aload_n 1, 1) := by decide +kernel
theorem dL_law_369 : decode cL_law 369 = .ok (.aload_n 0, 1) := by decide +kernel
theorem dL_law_370 : decode cL_law 370 = .ok (.iload_n 3, 1) := by decide +kernel
theorem dL_law_371 : decode cL_law 371 = .ok (.iconst 1, 1) := by decide +kernel
theorem dL_law_372 : decode cL_law 372 = .ok (.iadd, 1) := by decide +kernel
theorem dL_law_373 : decode cL_law 373 = .ok (.iaload, 1) := by decide +kernel
theorem dL_law_374 : decode cL_law 374 = .ok (.invokevirtual 39, 3) := by decide +kernel
theorem dL_law_377 : decode cL_law 377 = .ok (.aload_n 2, 1) := by decide +kernel
theorem dL_law_378 : decode cL_law 378 = .ok (.aload_n 0, 1) := by decide +kernel
theorem dL_law_379 : decode cL_law 379 = .ok (.iload_n 3, 1) := by decide +kernel
theorem dL_law_380 : decode cL_law 380 = .ok (.iconst 1, 1) := by decide +kernel
theorem dL_law_381 : decode cL_law 381 = .ok (.iadd, 1) := by decide +kernel
theorem dL_law_382 : decode cL_law 382 = .ok (.iaload, 1) := by decide +kernel
theorem dL_law_383 : decode cL_law 383 = .ok (.invokevirtual 42, 3) := by decide +kernel
theorem dL_law_386 : decode cL_law 386 = .ok (.if_icmp .eq 970, 3) := by decide +kernel
theorem dL_law_389 : decode cL_law 389 = .ok (.iconst 0, 1) := by decide +kernel
theorem dL_law_390 : decode cL_law 390 = .ok (.ireturn, 1) := by decide +kernel
theorem dL_law_391 : decode cL_law 391 = .ok (.aload_n 1, 1) := by decide +kernel
theorem dL_law_392 : decode cL_law 392 = .ok (.aload_n 0, 1) := by decide +kernel
theorem dL_law_393 : decode cL_law 393 = .ok (.iload_n 3, 1) := by decide +kernel
theorem dL_law_394 : decode cL_law 394 = .ok (.iconst 1, 1) := by decide +kernel
theorem dL_law_395 : decode cL_law 395 = .ok (.iadd, 1) := by decide +kernel
theorem dL_law_396 : decode cL_law 396 = .ok (.iaload, 1) := by decide +kernel
theorem dL_law_397 : decode cL_law 397 = .ok (.invokevirtual 43, 3) := by decide +kernel
theorem dL_law_400 : decode cL_law 400 = .ok (.aload_n 2, 1) := by decide +kernel
theorem dL_law_401 : decode cL_law 401 = .ok (.aload_n 0, 1) := by decide +kernel
theorem dL_law_402 : decode cL_law 402 = .ok (.iload_n 3, 1) := by decide +kernel
theorem dL_law_403 : decode cL_law 403 = .ok (.iconst 1, 1) := by decide +kernel
theorem dL_law_404 : decode cL_law 404 = .ok (.iadd, 1) := by decide +kernel
theorem dL_law_405 : decode cL_law 405 = .ok (.iaload, 1) := by decide +kernel
theorem dL_law_406 : decode cL_law 406 = .ok (.invokevirtual 46, 3) := by decide +kernel
theorem dL_law_409 : decode cL_law 409 = .ok (.if_icmp .eq 947, 3) := by decide +kernel
theorem dL_law_412 : decode cL_law 412 = .ok (.iconst 0, 1) := by decide +kernel
theorem dL_law_413 : decode cL_law 413 = .ok (.ireturn, 1) := by decide +kernel
theorem dL_law_414 : decode cL_law 414 = .ok (.aload_n 1, 1) := by decide +kernel
theorem dL_law_415 : decode cL_law 415 = .ok (.aload_n 0, 1) := by decide +kernel
theorem dL_law_416 : decode cL_law 416 = .ok (.iload_n 3, 1) := by decide +kernel
theorem dL_law_417 : decode cL_law 417 = .ok (.iconst 1, 1) := by decide +kernel
theorem dL_law_418 : decode cL_law 418 = .ok (.iadd, 1) := by decide +kernel
theorem dL_law_419 : decode cL_law 419 = .ok (.iaload, 1) := by decide +kernel
theorem dL_law_420 : decode cL_law 420 = .ok (.invokevirtual 47, 3) := by decide +kernel
theorem dL_law_423 : decode cL_law 423 = .ok (.aload_n 2, 1) := by decide +kernel
theorem dL_law_424 : decode cL_law 424 = .ok (.aload_n 0, 1) := by decide +kernel
theorem dL_law_425 : decode cL_law 425 = .ok (.iload_n 3, 1) := by decide +kernel
theorem dL_law_426 : decode cL_law 426 = .ok (.iconst 1, 1) := by decide +kernel
theorem dL_law_427 : decode cL_law 427 = .ok (.iadd, 1) := by decide +kernel
theorem dL_law_428 : decode cL_law 428 = .ok (.iaload, 1) := by decide +kernel
theorem dL_law_429 : decode cL_law 429 = .ok (.invokevirtual 50, 3) := by decide +kernel
theorem dL_law_432 : decode cL_law 432 = .ok (.if_icmp .eq 924, 3) := by decide +kernel
theorem dL_law_435 : decode cL_law 435 = .ok (.iconst 0, 1) := by decide +kernel
theorem dL_law_436 : decode cL_law 436 = .ok (.ireturn, 1) := by decide +kernel
theorem dL_law_437 : decode cL_law 437 = .ok (.aload_n 1, 1) := by decide +kernel
theorem dL_law_438 : decode cL_law 438 = .ok (.aload_n 0, 1) := by decide +kernel
theorem dL_law_439 : decode cL_law 439 = .ok (.iload_n 3, 1) := by decide +kernel
theorem dL_law_440 : decode cL_law 440 = .ok (.iconst 1, 1) := by decide +kernel
theorem dL_law_441 : decode cL_law 441 = .ok (.iadd, 1) := by decide +kernel
theorem dL_law_442 : decode cL_law 442 = .ok (.iaload, 1) := by decide +kernel
theorem dL_law_443 : decode cL_law 443 = .ok (.aload_n 0, 1) := by decide +kernel
theorem dL_law_444 : decode cL_law 444 = .ok (.iload_n 3, 1) := by decide +kernel
theorem dL_law_445 : decode cL_law 445 = .ok (.iconst 2, 1) := by decide +kernel
theorem dL_law_446 : decode cL_law 446 = .ok (.iadd, 1) := by decide +kernel
theorem dL_law_447 : decode cL_law 447 = .ok (.iaload, 1) := by decide +kernel
theorem dL_law_448 : decode cL_law 448 = .ok (.aload_n 0, 1) := by decide +kernel
theorem dL_law_449 : decode cL_law 449 = .ok (.iload_n 3, 1) := by decide +kernel
theorem dL_law_450 : decode cL_law 450 = .ok (.iconst 3, 1) := by decide +kernel
theorem dL_law_451 : decode cL_law 451 = .ok (.iadd, 1) := by decide +kernel
theorem dL_law_452 : decode cL_law 452 = .ok (.iaload, 1) := by decide +kernel
theorem dL_law_453 : decode cL_law 453 = .ok (.invokevirtual 51, 3) := by decide +kernel
theorem dL_law_456 : decode cL_law 456 = .ok (.aload_n 2, 1) := by decide +kernel
theorem dL_law_457 : decode cL_law 457 = .ok (.aload_n 0, 1) := by decide +kernel
theorem dL_law_458 : decode cL_law 458 = .ok (.iload_n 3, 1) := by decide +kernel
theorem dL_law_459 : decode cL_law 459 = .ok (.iconst 1, 1) := by decide +kernel
theorem dL_law_460 : decode cL_law 460 = .ok (.iadd, 1) := by decide +kernel
theorem dL_law_461 : decode cL_law 461 = .ok (.iaload, 1) := by decide +kernel
theorem dL_law_462 : decode cL_law 462 = .ok (.aload_n 0, 1) := by decide +kernel
theorem dL_law_463 : decode cL_law 463 = .ok (.iload_n 3, 1) := by decide +kernel
theorem dL_law_464 : decode cL_law 464 = .ok (.iconst 2, 1) := by decide +kernel
theorem dL_law_465 : decode cL_law 465 = .ok (.iadd, 1) := by decide +kernel
theorem dL_law_466 : decode cL_law 466 = .ok (.iaload, 1) := by decide +kernel
theorem dL_law_467 : decode cL_law 467 = .ok (.aload_n 0, 1) := by decide +kernel
theorem dL_law_468 : decode cL_law 468 = .ok (.iload_n 3, 1) := by decide +kernel
theorem dL_law_469 : decode cL_law 469 = .ok (.iconst 3, 1) := by decide +kernel
theorem dL_law_470 : decode cL_law 470 = .ok (.iadd, 1) := by decide +kernel
theorem dL_law_471 : decode cL_law 471 = .ok (.iaload, 1) := by decide +kernel
theorem dL_law_472 : decode cL_law 472 = .ok (.invokevirtual 55, 3) := by decide +kernel
theorem dL_law_475 : decode cL_law 475 = .ok (.if_icmp .eq 881, 3) := by decide +kernel
theorem dL_law_478 : decode cL_law 478 = .ok (.iconst 0, 1) := by decide +kernel
theorem dL_law_479 : decode cL_law 479 = .ok (.ireturn, 1) := by decide +kernel
theorem dL_law_480 : decode cL_law 480 = .ok (.aload_n 1, 1) := by decide +kernel
theorem dL_law_481 : decode cL_law 481 = .ok (.invokevirtual 56, 3) := by decide +kernel
theorem dL_law_484 : decode cL_law 484 = .ok (.aload_n 2, 1) := by decide +kernel
theorem dL_law_485 : decode cL_law 485 = .ok (.invokevirtual 60, 3) := by decide +kernel
theorem dL_law_488 : decode cL_law 488 = .ok (.if_icmp .eq 868, 3) := by decide +kernel
theorem dL_law_491 : decode cL_law 491 = .ok (.iconst 0, 1) := by decide +kernel
theorem dL_law_492 : decode cL_law 492 = .ok (.ireturn, 1) := by decide +kernel
theorem dL_law_493 : decode cL_law 493 = .ok (.aload_n 1, 1) := by decide +kernel
theorem dL_law_494 : decode cL_law 494 = .ok (.aload_n 0, 1) := by decide +kernel
theorem dL_law_495 : decode cL_law 495 = .ok (.iload_n 3, 1) := by decide +kernel
theorem dL_law_496 : decode cL_law 496 = .ok (.iconst 1, 1) := by decide +kernel
theorem dL_law_497 : decode cL_law 497 = .ok (.iadd, 1) := by decide +kernel
theorem dL_law_498 : decode cL_law 498 = .ok (.iaload, 1) := by decide +kernel
theorem dL_law_499 : decode cL_law 499 = .ok (.aload_n 0, 1) := by decide +kernel
theorem dL_law_500 : decode cL_law 500 = .ok (.iload_n 3, 1) := by decide +kernel
theorem dL_law_501 : decode cL_law 501 = .ok (.iconst 2, 1) := by decide +kernel
theorem dL_law_502 : decode cL_law 502 = .ok (.iadd, 1) := by decide +kernel
theorem dL_law_503 : decode cL_law 503 = .ok (.iaload, 1) := by decide +kernel
theorem dL_law_504 : decode cL_law 504 = .ok (.invokevirtual 61, 3) := by decide +kernel
theorem dL_law_507 : decode cL_law 507 = .ok (.aload_n 2, 1) := by decide +kernel
theorem dL_law_508 : decode cL_law 508 = .ok (.aload_n 0, 1) := by decide +kernel
theorem dL_law_509 : decode cL_law 509 = .ok (.iload_n 3, 1) := by decide +kernel
theorem dL_law_510 : decode cL_law 510 = .ok (.iconst 1, 1) := by decide +kernel
theorem dL_law_511 : decode cL_law 511 = .ok (.iadd, 1) := by decide +kernel
theorem dL_law_512 : decode cL_law 512 = .ok (.iaload, 1) := by decide +kernel
theorem dL_law_513 : decode cL_law 513 = .ok (.aload_n 0, 1) := by decide +kernel
theorem dL_law_514 : decode cL_law 514 = .ok (.iload_n 3, 1) := by decide +kernel
theorem dL_law_515 : decode cL_law 515 = .ok (.iconst 2, 1) := by decide +kernel
theorem dL_law_516 : decode cL_law 516 = .ok (.iadd, 1) := by decide +kernel
theorem dL_law_517 : decode cL_law 517 = .ok (.iaload, 1) := by decide +kernel
theorem dL_law_518 : decode cL_law 518 = .ok (.invokevirtual 64, 3) := by decide +kernel
theorem dL_law_521 : decode cL_law 521 = .ok (.if_icmp .eq 835, 3) := by decide +kernel
theorem dL_law_524 : decode cL_law 524 = .ok (.iconst 0, 1) := by decide +kernel
theorem dL_law_525 : decode cL_law 525 = .ok (.ireturn, 1) := by decide +kernel
theorem dL_law_526 : decode cL_law 526 = .ok (.aload_n 1, 1) := by decide +kernel
theorem dL_law_527 : decode cL_law 527 = .ok (.invokevirtual 65, 3) := by decide +kernel
theorem dL_law_530 : decode cL_law 530 = .ok (.aload_n 2, 1) := by decide +kernel
theorem dL_law_531 : decode cL_law 531 = .ok (.invokevirtual 68, 3) := by decide +kernel
theorem dL_law_534 : decode cL_law 534 = .ok (.if_icmp .eq 822, 3) := by decide +kernel
theorem dL_law_537 : decode cL_law 537 = .ok (.iconst 0, 1) := by decide +kernel
theorem dL_law_538 : decode cL_law 538 = .ok (.ireturn, 1) := by decide +kernel
theorem dL_law_539 : decode cL_law 539 = .ok (.aload_n 1, 1) := by decide +kernel
theorem dL_law_540 : decode cL_law 540 = .ok (.invokevirtual 69, 3) := by decide +kernel
theorem dL_law_543 : decode cL_law 543 = .ok (.aload_n 2, 1) := by decide +kernel
theorem dL_law_544 : decode cL_law 544 = .ok (.invokevirtual 72, 3) := by decide +kernel
theorem dL_law_547 : decode cL_law 547 = .ok (.if_icmp .eq 809, 3) := by decide +kernel
theorem dL_law_550 : decode cL_law 550 = .ok (.iconst 0, 1) := by decide +kernel
theorem dL_law_551 : decode cL_law 551 = .ok (.ireturn, 1) := by decide +kernel
theorem dL_law_552 : decode cL_law 552 = .ok (.aload_n 1, 1) := by decide +kernel
theorem dL_law_553 : decode cL_law 553 = .ok (.aload_n 0, 1) := by decide +kernel
theorem dL_law_554 : decode cL_law 554 = .ok (.iload_n 3, 1) := by decide +kernel
theorem dL_law_555 : decode cL_law 555 = .ok (.iconst 1, 1) := by decide +kernel
theorem dL_law_556 : decode cL_law 556 = .ok (.iadd, 1) := by decide +kernel
theorem dL_law_557 : decode cL_law 557 = .ok (.iaload, 1) := by decide +kernel
theorem dL_law_558 : decode cL_law 558 = .ok (.invokevirtual 73, 3) := by decide +kernel
theorem dL_law_561 : decode cL_law 561 = .ok (.aload_n 2, 1) := by decide +kernel
theorem dL_law_562 : decode cL_law 562 = .ok (.aload_n 0, 1) := by decide +kernel
theorem dL_law_563 : decode cL_law 563 = .ok (.iload_n 3, 1) := by decide +kernel
theorem dL_law_564 : decode cL_law 564 = .ok (.iconst 1, 1) := by decide +kernel
theorem dL_law_565 : decode cL_law 565 = .ok (.iadd, 1) := by decide +kernel
theorem dL_law_566 : decode cL_law 566 = .ok (.iaload, 1) := by decide +kernel
theorem dL_law_567 : decode cL_law 567 = .ok (.invokevirtual 76, 3) := by decide +kernel
theorem dL_law_570 : decode cL_law 570 = .ok (.if_icmp .eq 786, 3) := by decide +kernel
theorem dL_law_573 : decode cL_law 573 = .ok (.iconst 0, 1) := by decide +kernel
theorem dL_law_574 : decode cL_law 574 = .ok (.ireturn, 1) := by decide +kernel
theorem dL_law_575 : decode cL_law 575 = .ok (.aload_n 1, 1) := by decide +kernel
theorem dL_law_576 : decode cL_law 576 = .ok (.aload_n 0, 1) := by decide +kernel
theorem dL_law_577 : decode cL_law 577 = .ok (.iload_n 3, 1) := by decide +kernel
theorem dL_law_578 : decode cL_law 578 = .ok (.iconst 1, 1) := by decide +kernel
theorem dL_law_579 : decode cL_law 579 = .ok (.iadd, 1) := by decide +kernel
theorem dL_law_580 : decode cL_law 580 = .ok (.iaload, 1) := by decide +kernel
theorem dL_law_581 : decode cL_law 581 = .ok (.aload_n 0, 1) := by decide +kernel
theorem dL_law_582 : decode cL_law 582 = .ok (.iload_n 3, 1) := by decide +kernel
theorem dL_law_583 : decode cL_law 583 = .ok (.iconst 2, 1) := by decide +kernel
theorem dL_law_584 : decode cL_law 584 = .ok (.iadd, 1) := by decide +kernel
theorem dL_law_585 : decode cL_law 585 = .ok (.iaload, 1) := by decide +kernel
theorem dL_law_586 : decode cL_law 586 = .ok (.aload_n 0, 1) := by decide +kernel
theorem dL_law_587 : decode cL_law 587 = .ok (.iload_n 3, 1) := by decide +kernel
theorem dL_law_588 : decode cL_law 588 = .ok (.iconst 3, 1) := by decide +kernel
theorem dL_law_589 : decode cL_law 589 = .ok (.iadd, 1) := by decide +kernel
theorem dL_law_590 : decode cL_law 590 = .ok (.iaload, 1) := by decide +kernel
theorem dL_law_591 : decode cL_law 591 = .ok (.aload_n 0, 1) := by decide +kernel
theorem dL_law_592 : decode cL_law 592 = .ok (.iload_n 3, 1) := by decide +kernel
theorem dL_law_593 : decode cL_law 593 = .ok (.iconst 4, 1) := by decide +kernel
theorem dL_law_594 : decode cL_law 594 = .ok (.iadd, 1) := by decide +kernel
theorem dL_law_595 : decode cL_law 595 = .ok (.iaload, 1) := by decide +kernel
theorem dL_law_596 : decode cL_law 596 = .ok (.invokevirtual 77, 3) := by decide +kernel
theorem dL_law_599 : decode cL_law 599 = .ok (.aload_n 2, 1) := by decide +kernel
theorem dL_law_600 : decode cL_law 600 = .ok (.aload_n 0, 1) := by decide +kernel
theorem dL_law_601 : decode cL_law 601 = .ok (.iload_n 3, 1) := by decide +kernel
theorem dL_law_602 : decode cL_law 602 = .ok (.iconst 1, 1) := by decide +kernel
theorem dL_law_603 : decode cL_law 603 = .ok (.iadd, 1) := by decide +kernel
theorem dL_law_604 : decode cL_law 604 = .ok (.iaload, 1) := by decide +kernel
theorem dL_law_605 : decode cL_law 605 = .ok (.aload_n 0, 1) := by decide +kernel
theorem dL_law_606 : decode cL_law 606 = .ok (.iload_n 3, 1) := by decide +kernel
theorem dL_law_607 : decode cL_law 607 = .ok (.iconst 2, 1) := by decide +kernel
theorem dL_law_608 : decode cL_law 608 = .ok (.iadd, 1) := by decide +kernel
theorem dL_law_609 : decode cL_law 609 = .ok (.iaload, 1) := by decide +kernel
theorem dL_law_610 : decode cL_law 610 = .ok (.aload_n 0, 1) := by decide +kernel
theorem dL_law_611 : decode cL_law 611 = .ok (.iload_n 3, 1) := by decide +kernel
theorem dL_law_612 : decode cL_law 612 = .ok (.iconst 3, 1) := by decide +kernel
theorem dL_law_613 : decode cL_law 613 = .ok (.iadd, 1) := by decide +kernel
theorem dL_law_614 : decode cL_law 614 = .ok (.iaload, 1) := by decide +kernel
theorem dL_law_615 : decode cL_law 615 = .ok (.aload_n 0, 1) := by decide +kernel
theorem dL_law_616 : decode cL_law 616 = .ok (.iload_n 3, 1) := by decide +kernel
theorem dL_law_617 : decode cL_law 617 = .ok (.iconst 4, 1) := by decide +kernel
theorem dL_law_618 : decode cL_law 618 = .ok (.iadd, 1) := by decide +kernel
theorem dL_law_619 : decode cL_law 619 = .ok (.iaload, 1) := by decide +kernel
theorem dL_law_620 : decode cL_law 620 = .ok (.invokevirtual 81, 3) := by decide +kernel
theorem dL_law_623 : decode cL_law 623 = .ok (.if_icmp .eq 733, 3) := by decide +kernel
theorem dL_law_626 : decode cL_law 626 = .ok (.iconst 0, 1) := by decide +kernel
theorem dL_law_627 : decode cL_law 627 = .ok (.ireturn, 1) := by decide +kernel
theorem dL_law_628 : decode cL_law 628 = .ok (.aload_n 1, 1) := by decide +kernel
theorem dL_law_629 : decode cL_law 629 = .ok (.aload_n 0, 1) := by decide +kernel
theorem dL_law_630 : decode cL_law 630 = .ok (.iload_n 3, 1) := by decide +kernel
theorem dL_law_631 : decode cL_law 631 = .ok (.iconst 1, 1) := by decide +kernel
theorem dL_law_632 : decode cL_law 632 = .ok (.iadd, 1) := by decide +kernel
theorem dL_law_633 : decode cL_law 633 = .ok (.iaload, 1) := by decide +kernel
theorem dL_law_634 : decode cL_law 634 = .ok (.aload_n 0, 1) := by decide +kernel
theorem dL_law_635 : decode cL_law 635 = .ok (.iload_n 3, 1) := by decide +kernel
theorem dL_law_636 : decode cL_law 636 = .ok (.iconst 2, 1) := by decide +kernel
theorem dL_law_637 : decode cL_law 637 = .ok (.iadd, 1) := by decide +kernel
theorem dL_law_638 : decode cL_law 638 = .ok (.iaload, 1) := by decide +kernel
theorem dL_law_639 : decode cL_law 639 = .ok (.aload_n 0, 1) := by decide +kernel
theorem dL_law_640 : decode cL_law 640 = .ok (.iload_n 3, 1) := by decide +kernel
theorem dL_law_641 : decode cL_law 641 = .ok (.iconst 3, 1) := by decide +kernel
theorem dL_law_642 : decode cL_law 642 = .ok (.iadd, 1) := by decide +kernel
theorem dL_law_643 : decode cL_law 643 = .ok (.iaload, 1) := by decide +kernel
theorem dL_law_644 : decode cL_law 644 = .ok (.invokevirtual 82, 3) := by decide +kernel
theorem dL_law_647 : decode cL_law 647 = .ok (.aload_n 2, 1) := by decide +kernel
theorem dL_law_648 : decode cL_law 648 = .ok (.aload_n 0, 1) := by decide +kernel
theorem dL_law_649 : decode cL_law 649 = .ok (.iload_n 3, 1) := by decide +kernel
theorem dL_law_650 : decode cL_law 650 = .ok (.iconst 1, 1) := by decide +kernel
theorem dL_law_651 : decode cL_law 651 = .ok (.iadd, 1) := by decide +kernel
theorem dL_law_652 : decode cL_law 652 = .ok (.iaload, 1) := by decide +kernel
theorem dL_law_653 : decode cL_law 653 = .ok (.aload_n 0, 1) := by decide +kernel
theorem dL_law_654 : decode cL_law 654 = .ok (.iload_n 3, 1) := by decide +kernel
theorem dL_law_655 : decode cL_law 655 = .ok (.iconst 2, 1) := by decide +kernel
theorem dL_law_656 : decode cL_law 656 = .ok (.iadd, 1) := by decide +kernel
theorem dL_law_657 : decode cL_law 657 = .ok (.iaload, 1) := by decide +kernel
theorem dL_law_658 : decode cL_law 658 = .ok (.aload_n 0, 1) := by decide +kernel
theorem dL_law_659 : decode cL_law 659 = .ok (.iload_n 3, 1) := by decide +kernel
theorem dL_law_660 : decode cL_law 660 = .ok (.iconst 3, 1) := by decide +kernel
theorem dL_law_661 : decode cL_law 661 = .ok (.iadd, 1) := by decide +kernel
theorem dL_law_662 : decode cL_law 662 = .ok (.iaload, 1) := by decide +kernel
theorem dL_law_663 : decode cL_law 663 = .ok (.invokevirtual 85, 3) := by decide +kernel
theorem dL_law_666 : decode cL_law 666 = .ok (.if_icmp .eq 690, 3) := by decide +kernel
theorem dL_law_669 : decode cL_law 669 = .ok (.iconst 0, 1) := by decide +kernel
theorem dL_law_670 : decode cL_law 670 = .ok (.ireturn, 1) := by decide +kernel
theorem dL_law_671 : decode cL_law 671 = .ok (.aload_n 1, 1) := by decide +kernel
theorem dL_law_672 : decode cL_law 672 = .ok (.aload_n 0, 1) := by decide +kernel
theorem dL_law_673 : decode cL_law 673 = .ok (.iload_n 3, 1) := by decide +kernel
theorem dL_law_674 : decode cL_law 674 = .ok (.iconst 1, 1) := by decide +kernel
theorem dL_law_675 : decode cL_law 675 = .ok (.iadd, 1) := by decide +kernel
theorem dL_law_676 : decode cL_law 676 = .ok (.iaload, 1) := by decide +kernel
theorem dL_law_677 : decode cL_law 677 = .ok (.invokevirtual 86, 3) := by decide +kernel
theorem dL_law_680 : decode cL_law 680 = .ok (.aload_n 2, 1) := by decide +kernel
theorem dL_law_681 : decode cL_law 681 = .ok (.aload_n 0, 1) := by decide +kernel
theorem dL_law_682 : decode cL_law 682 = .ok (.iload_n 3, 1) := by decide +kernel
theorem dL_law_683 : decode cL_law 683 = .ok (.iconst 1, 1) := by decide +kernel
theorem dL_law_684 : decode cL_law 684 = .ok (.iadd, 1) := by decide +kernel
theorem dL_law_685 : decode cL_law 685 = .ok (.iaload, 1) := by decide +kernel
theorem dL_law_686 : decode cL_law 686 = .ok (.invokevirtual 89, 3) := by decide +kernel
theorem dL_law_689 : decode cL_law 689 = .ok (.if_icmp .eq 667, 3) := by decide +kernel
theorem dL_law_692 : decode cL_law 692 = .ok (.iconst 0, 1) := by decide +kernel
theorem dL_law_693 : decode cL_law 693 = .ok (.ireturn, 1) := by decide +kernel
theorem dL_law_694 : decode cL_law 694 = .ok (.aload_n 1, 1) := by decide +kernel
theorem dL_law_695 : decode cL_law 695 = .ok (.aload_n 0, 1) := by decide +kernel
theorem dL_law_696 : decode cL_law 696 = .ok (.iload_n 3, 1) := by decide +kernel
theorem dL_law_697 : decode cL_law 697 = .ok (.iconst 1, 1) := by decide +kernel
theorem dL_law_698 : decode cL_law 698 = .ok (.iadd, 1) := by decide +kernel
theorem dL_law_699 : decode cL_law 699 = .ok (.iaload, 1) := by decide +kernel
theorem dL_law_700 : decode cL_law 700 = .ok (.aload_n 0, 1) := by decide +kernel
theorem dL_law_701 : decode cL_law 701 = .ok (.iload_n 3, 1) := by decide +kernel
theorem dL_law_702 : decode cL_law 702 = .ok (.iconst 2, 1) := by decide +kernel
theorem dL_law_703 : decode cL_law 703 = .ok (.iadd, 1) := by decide +kernel
theorem dL_law_704 : decode cL_law 704 = .ok (.iaload, 1) := by decide +kernel
theorem dL_law_705 : decode cL_law 705 = .ok (.aload_n 0, 1) := by decide +kernel
theorem dL_law_706 : decode cL_law 706 = .ok (.iload_n 3, 1) := by decide +kernel
theorem dL_law_707 : decode cL_law 707 = .ok (.iconst 3, 1) := by decide +kernel
theorem dL_law_708 : decode cL_law 708 = .ok (.iadd, 1) := by decide +kernel
theorem dL_law_709 : decode cL_law 709 = .ok (.iaload, 1) := by decide +kernel
theorem dL_law_710 : decode cL_law 710 = .ok (.invokevirtual 90, 3) := by decide +kernel
theorem dL_law_713 : decode cL_law 713 = .ok (.aload_n 2, 1) := by decide +kernel
theorem dL_law_714 : decode cL_law 714 = .ok (.aload_n 0, 1) := by decide +kernel
theorem dL_law_715 : decode cL_law 715 = .ok (.iload_n 3, 1) := by decide +kernel
theorem dL_law_716 : decode cL_law 716 = .ok (.iconst 1, 1) := by decide +kernel
theorem dL_law_717 : decode cL_law 717 = .ok (.iadd, 1) := by decide +kernel
theorem dL_law_718 : decode cL_law 718 = .ok (.iaload, 1) := by decide +kernel
theorem dL_law_719 : decode cL_law 719 = .ok (.aload_n 0, 1) := by decide +kernel
theorem dL_law_720 : decode cL_law 720 = .ok (.iload_n 3, 1) := by decide +kernel
theorem dL_law_721 : decode cL_law 721 = .ok (.iconst 2, 1) := by decide +kernel
theorem dL_law_722 : decode cL_law 722 = .ok (.iadd, 1) := by decide +kernel
theorem dL_law_723 : decode cL_law 723 = .ok (.iaload, 1) := by decide +kernel
theorem dL_law_724 : decode cL_law 724 = .ok (.aload_n 0, 1) := by decide +kernel
theorem dL_law_725 : decode cL_law 725 = .ok (.iload_n 3, 1) := by decide +kernel
theorem dL_law_726 : decode cL_law 726 = .ok (.iconst 3, 1) := by decide +kernel
theorem dL_law_727 : decode cL_law 727 = .ok (.iadd, 1) := by decide +kernel
theorem dL_law_728 : decode cL_law 728 = .ok (.iaload, 1) := by decide +kernel
theorem dL_law_729 : decode cL_law 729 = .ok (.invokevirtual 93, 3) := by decide +kernel
theorem dL_law_732 : decode cL_law 732 = .ok (.if_icmp .eq 624, 3) := by decide +kernel
theorem dL_law_735 : decode cL_law 735 = .ok (.iconst 0, 1) := by decide +kernel
theorem dL_law_736 : decode cL_law 736 = .ok (.ireturn, 1) := by decide +kernel
theorem dL_law_737 : decode cL_law 737 = .ok (.aload_n 1, 1) := by decide +kernel
theorem dL_law_738 : decode cL_law 738 = .ok (.aload_n 0, 1) := by decide +kernel
theorem dL_law_739 : decode cL_law 739 = .ok (.iload_n 3, 1) := by decide +kernel
theorem dL_law_740 : decode cL_law 740 = .ok (.iconst 1, 1) := by decide +kernel
theorem dL_law_741 : decode cL_law 741 = .ok (.iadd, 1) := by decide +kernel
theorem dL_law_742 : decode cL_law 742 = .ok (.iaload, 1) := by decide +kernel
theorem dL_law_743 : decode cL_law 743 = .ok (.invokevirtual 94, 3) := by decide +kernel
theorem dL_law_746 : decode cL_law 746 = .ok (.aload_n 2, 1) := by decide +kernel
theorem dL_law_747 : decode cL_law 747 = .ok (.aload_n 0, 1) := by decide +kernel
theorem dL_law_748 : decode cL_law 748 = .ok (.iload_n 3, 1) := by decide +kernel
theorem dL_law_749 : decode cL_law 749 = .ok (.iconst 1, 1) := by decide +kernel
theorem dL_law_750 : decode cL_law 750 = .ok (.iadd, 1) := by decide +kernel
theorem dL_law_751 : decode cL_law 751 = .ok (.iaload, 1) := by decide +kernel
theorem dL_law_752 : decode cL_law 752 = .ok (.invokevirtual 97, 3) := by decide +kernel
theorem dL_law_755 : decode cL_law 755 = .ok (.if_icmp .eq 601, 3) := by decide +kernel
theorem dL_law_758 : decode cL_law 758 = .ok (.iconst 0, 1) := by decide +kernel
theorem dL_law_759 : decode cL_law 759 = .ok (.ireturn, 1) := by decide +kernel
theorem dL_law_760 : decode cL_law 760 = .ok (.aload_n 1, 1) := by decide +kernel
theorem dL_law_761 : decode cL_law 761 = .ok (.aload_n 0, 1) := by decide +kernel
theorem dL_law_762 : decode cL_law 762 = .ok (.iload_n 3, 1) := by decide +kernel
theorem dL_law_763 : decode cL_law 763 = .ok (.iconst 1, 1) := by decide +kernel
theorem dL_law_764 : decode cL_law 764 = .ok (.iadd, 1) := by decide +kernel
theorem dL_law_765 : decode cL_law 765 = .ok (.iaload, 1) := by decide +kernel
theorem dL_law_766 : decode cL_law 766 = .ok (.aload_n 0, 1) := by decide +kernel
theorem dL_law_767 : decode cL_law 767 = .ok (.iload_n 3, 1) := by decide +kernel
theorem dL_law_768 : decode cL_law 768 = .ok (.iconst 2, 1) := by decide +kernel
theorem dL_law_769 : decode cL_law 769 = .ok (.iadd, 1) := by decide +kernel
theorem dL_law_770 : decode cL_law 770 = .ok (.iaload, 1) := by decide +kernel
theorem dL_law_771 : decode cL_law 771 = .ok (.invokevirtual 98, 3) := by decide +kernel
theorem dL_law_774 : decode cL_law 774 = .ok (.aload_n 2, 1) := by decide +kernel
theorem dL_law_775 : decode cL_law 775 = .ok (.aload_n 0, 1) := by decide +kernel
theorem dL_law_776 : decode cL_law 776 = .ok (.iload_n 3, 1) := by decide +kernel
theorem dL_law_777 : decode cL_law 777 = .ok (.iconst 1, 1) := by decide +kernel
theorem dL_law_778 : decode cL_law 778 = .ok (.iadd, 1) := by decide +kernel
theorem dL_law_779 : decode cL_law 779 = .ok (.iaload, 1) := by decide +kernel
theorem dL_law_780 : decode cL_law 780 = .ok (.aload_n 0, 1) := by decide +kernel
theorem dL_law_781 : decode cL_law 781 = .ok (.iload_n 3, 1) := by decide +kernel
theorem dL_law_782 : decode cL_law 782 = .ok (.iconst 2, 1) := by decide +kernel
theorem dL_law_783 : decode cL_law 783 = .ok (.iadd, 1) := by decide +kernel
theorem dL_law_784 : decode cL_law 784 = .ok (.iaload, 1) := by decide +kernel
theorem dL_law_785 : decode cL_law 785 = .ok (.invokevirtual 101, 3) := by decide +kernel
theorem dL_law_788 : decode cL_law 788 = .ok (.if_icmp .eq 568, 3) := by decide +kernel
theorem dL_law_791 : decode cL_law 791 = .ok (.iconst 0, 1) := by decide +kernel
theorem dL_law_792 : decode cL_law 792 = .ok (.ireturn, 1) := by decide +kernel
theorem dL_law_793 : decode cL_law 793 = .ok (.aload_n 1, 1) := by decide +kernel
theorem dL_law_794 : decode cL_law 794 = .ok (.aload_n 0, 1) := by decide +kernel
theorem dL_law_795 : decode cL_law 795 = .ok (.iload_n 3, 1) := by decide +kernel
theorem dL_law_796 : decode cL_law 796 = .ok (.iconst 1, 1) := by decide +kernel
theorem dL_law_797 : decode cL_law 797 = .ok (.iadd, 1) := by decide +kernel
theorem dL_law_798 : decode cL_law 798 = .ok (.iaload, 1) := by decide +kernel
theorem dL_law_799 : decode cL_law 799 = .ok (.aload_n 0, 1) := by decide +kernel
theorem dL_law_800 : decode cL_law 800 = .ok (.iload_n 3, 1) := by decide +kernel
theorem dL_law_801 : decode cL_law 801 = .ok (.iconst 2, 1) := by decide +kernel
theorem dL_law_802 : decode cL_law 802 = .ok (.iadd, 1) := by decide +kernel
theorem dL_law_803 : decode cL_law 803 = .ok (.iaload, 1) := by decide +kernel
theorem dL_law_804 : decode cL_law 804 = .ok (.invokevirtual 102, 3) := by decide +kernel
theorem dL_law_807 : decode cL_law 807 = .ok (.aload_n 2, 1) := by decide +kernel
theorem dL_law_808 : decode cL_law 808 = .ok (.aload_n 0, 1) := by decide +kernel
theorem dL_law_809 : decode cL_law 809 = .ok (.iload_n 3, 1) := by decide +kernel
theorem dL_law_810 : decode cL_law 810 = .ok (.iconst 1, 1) := by decide +kernel
theorem dL_law_811 : decode cL_law 811 = .ok (.iadd, 1) := by decide +kernel
theorem dL_law_812 : decode cL_law 812 = .ok (.iaload, 1) := by decide +kernel
theorem dL_law_813 : decode cL_law 813 = .ok (.aload_n 0, 1) := by decide +kernel
theorem dL_law_814 : decode cL_law 814 = .ok (.iload_n 3, 1) := by decide +kernel
theorem dL_law_815 : decode cL_law 815 = .ok (.iconst 2, 1) := by decide +kernel
theorem dL_law_816 : decode cL_law 816 = .ok (.iadd, 1) := by decide +kernel
theorem dL_law_817 : decode cL_law 817 = .ok (.iaload, 1) := by decide +kernel
theorem dL_law_818 : decode cL_law 818 = .ok (.invokevirtual 105, 3) := by decide +kernel
theorem dL_law_821 : decode cL_law 821 = .ok (.if_icmp .eq 535, 3) := by decide +kernel
theorem dL_law_824 : decode cL_law 824 = .ok (.iconst 0, 1) := by decide +kernel
theorem dL_law_825 : decode cL_law 825 = .ok (.ireturn, 1) := by decide +kernel
theorem dL_law_826 : decode cL_law 826 = .ok (.aload_n 1, 1) := by decide +kernel
theorem dL_law_827 : decode cL_law 827 = .ok (.invokevirtual 106, 3) := by decide +kernel
theorem dL_law_830 : decode cL_law 830 = .ok (.aload_n 2, 1) := by decide +kernel
theorem dL_law_831 : decode cL_law 831 = .ok (.invokevirtual 109, 3) := by decide +kernel
theorem dL_law_834 : decode cL_law 834 = .ok (.if_icmp .eq 522, 3) := by decide +kernel
theorem dL_law_837 : decode cL_law 837 = .ok (.iconst 0, 1) := by decide +kernel
theorem dL_law_838 : decode cL_law 838 = .ok (.ireturn, 1) := by decide +kernel
theorem dL_law_839 : decode cL_law 839 = .ok (.aload_n 1, 1) := by decide +kernel
theorem dL_law_840 : decode cL_law 840 = .ok (.aload_n 0, 1) := by decide +kernel
theorem dL_law_841 : decode cL_law 841 = .ok (.iload_n 3, 1) := by decide +kernel
theorem dL_law_842 : decode cL_law 842 = .ok (.iconst 1, 1) := by decide +kernel
theorem dL_law_843 : decode cL_law 843 = .ok (.iadd, 1) := by decide +kernel
theorem dL_law_844 : decode cL_law 844 = .ok (.iaload, 1) := by decide +kernel
theorem dL_law_845 : decode cL_law 845 = .ok (.invokevirtual 110, 3) := by decide +kernel
theorem dL_law_848 : decode cL_law 848 = .ok (.aload_n 2, 1) := by decide +kernel
theorem dL_law_849 : decode cL_law 849 = .ok (.aload_n 0, 1) := by decide +kernel
theorem dL_law_850 : decode cL_law 850 = .ok (.iload_n 3, 1) := by decide +kernel
theorem dL_law_851 : decode cL_law 851 = .ok (.iconst 1, 1) := by decide +kernel
theorem dL_law_852 : decode cL_law 852 = .ok (.iadd, 1) := by decide +kernel
theorem dL_law_853 : decode cL_law 853 = .ok (.iaload, 1) := by decide +kernel
theorem dL_law_854 : decode cL_law 854 = .ok (.invokevirtual 113, 3) := by decide +kernel
theorem dL_law_857 : decode cL_law 857 = .ok (.if_icmp .eq 499, 3) := by decide +kernel
theorem dL_law_860 : decode cL_law 860 = .ok (.iconst 0, 1) := by decide +kernel
theorem dL_law_861 : decode cL_law 861 = .ok (.ireturn, 1) := by decide +kernel
theorem dL_law_862 : decode cL_law 862 = .ok (.aload_n 1, 1) := by decide +kernel
theorem dL_law_863 : decode cL_law 863 = .ok (.aload_n 0, 1) := by decide +kernel
theorem dL_law_864 : decode cL_law 864 = .ok (.iload_n 3, 1) := by decide +kernel
theorem dL_law_865 : decode cL_law 865 = .ok (.iconst 1, 1) := by decide +kernel
theorem dL_law_866 : decode cL_law 866 = .ok (.iadd, 1) := by decide +kernel
theorem dL_law_867 : decode cL_law 867 = .ok (.iaload, 1) := by decide +kernel
theorem dL_law_868 : decode cL_law 868 = .ok (.aload_n 0, 1) := by decide +kernel
theorem dL_law_869 : decode cL_law 869 = .ok (.iload_n 3, 1) := by decide +kernel
theorem dL_law_870 : decode cL_law 870 = .ok (.iconst 2, 1) := by decide +kernel
theorem dL_law_871 : decode cL_law 871 = .ok (.iadd, 1) := by decide +kernel
theorem dL_law_872 : decode cL_law 872 = .ok (.iaload, 1) := by decide +kernel
theorem dL_law_873 : decode cL_law 873 = .ok (.invokevirtual 114, 3) := by decide +kernel
theorem dL_law_876 : decode cL_law 876 = .ok (.aload_n 2, 1) := by decide +kernel
theorem dL_law_877 : decode cL_law 877 = .ok (.aload_n 0, 1) := by decide +kernel
theorem dL_law_878 : decode cL_law 878 = .ok (.iload_n 3, 1) := by decide +kernel
theorem dL_law_879 : decode cL_law 879 = .ok (.iconst 1, 1) := by decide +kernel
theorem dL_law_880 : decode cL_law 880 = .ok (.iadd, 1) := by decide +kernel
theorem dL_law_881 : decode cL_law 881 = .ok (.iaload, 1) := by decide +kernel
theorem dL_law_882 : decode cL_law 882 = .ok (.aload_n 0, 1) := by decide +kernel
theorem dL_law_883 : decode cL_law 883 = .ok (.iload_n 3, 1) := by decide +kernel
theorem dL_law_884 : decode cL_law 884 = .ok (.iconst 2, 1) := by decide +kernel
theorem dL_law_885 : decode cL_law 885 = .ok (.iadd, 1) := by decide +kernel
theorem dL_law_886 : decode cL_law 886 = .ok (.iaload, 1) := by decide +kernel
theorem dL_law_887 : decode cL_law 887 = .ok (.invokevirtual 117, 3) := by decide +kernel
theorem dL_law_890 : decode cL_law 890 = .ok (.if_icmp .eq 466, 3) := by decide +kernel
theorem dL_law_893 : decode cL_law 893 = .ok (.iconst 0, 1) := by decide +kernel
theorem dL_law_894 : decode cL_law 894 = .ok (.ireturn, 1) := by decide +kernel
theorem dL_law_895 : decode cL_law 895 = .ok (.aload_n 1, 1) := by decide +kernel
theorem dL_law_896 : decode cL_law 896 = .ok (.aload_n 0, 1) := by decide +kernel
theorem dL_law_897 : decode cL_law 897 = .ok (.iload_n 3, 1) := by decide +kernel
theorem dL_law_898 : decode cL_law 898 = .ok (.iconst 1, 1) := by decide +kernel
theorem dL_law_899 : decode cL_law 899 = .ok (.iadd, 1) := by decide +kernel
theorem dL_law_900 : decode cL_law 900 = .ok (.iaload, 1) := by decide +kernel
theorem dL_law_901 : decode cL_law 901 = .ok (.invokevirtual 118, 3) := by decide +kernel
theorem dL_law_904 : decode cL_law 904 = .ok (.aload_n 2, 1) := by decide +kernel
theorem dL_law_905 : decode cL_law 905 = .ok (.aload_n 0, 1) := by decide +kernel
theorem dL_law_906 : decode cL_law 906 = .ok (.iload_n 3, 1) := by decide +kernel
theorem dL_law_907 : decode cL_law 907 = .ok (.iconst 1, 1) := by decide +kernel
theorem dL_law_908 : decode cL_law 908 = .ok (.iadd, 1) := by decide +kernel
theorem dL_law_909 : decode cL_law 909 = .ok (.iaload, 1) := by decide +kernel
theorem dL_law_910 : decode cL_law 910 = .ok (.invokevirtual 121, 3) := by decide +kernel
theorem dL_law_913 : decode cL_law 913 = .ok (.if_icmp .eq 443, 3) := by decide +kernel
theorem dL_law_916 : decode cL_law 916 = .ok (.iconst 0, 1) := by decide +kernel
theorem dL_law_917 : decode cL_law 917 = .ok (.ireturn, 1) := by decide +kernel
theorem dL_law_918 : decode cL_law 918 = .ok (.aload_n 1, 1) := by decide +kernel
theorem dL_law_919 : decode cL_law 919 = .ok (.aload_n 0, 1) := by decide +kernel
theorem dL_law_920 : decode cL_law 920 = .ok (.iload_n 3, 1) := by decide +kernel
theorem dL_law_921 : decode cL_law 921 = .ok (.iconst 1, 1) := by decide +kernel
theorem dL_law_922 : decode cL_law 922 = .ok (.iadd, 1) := by decide +kernel
theorem dL_law_923 : decode cL_law 923 = .ok (.iaload, 1) := by decide +kernel
theorem dL_law_924 : decode cL_law 924 = .ok (.invokevirtual 122, 3) := by decide +kernel
theorem dL_law_927 : decode cL_law 927 = .ok (.aload_n 2, 1) := by decide +kernel
theorem dL_law_928 : decode cL_law 928 = .ok (.aload_n 0, 1) := by decide +kernel
theorem dL_law_929 : decode cL_law 929 = .ok (.iload_n 3, 1) := by decide +kernel
theorem dL_law_930 : decode cL_law 930 = .ok (.iconst 1, 1) := by decide +kernel
theorem dL_law_931 : decode cL_law 931 = .ok (.iadd, 1) := by decide +kernel
theorem dL_law_932 : decode cL_law 932 = .ok (.iaload, 1) := by decide +kernel
theorem dL_law_933 : decode cL_law 933 = .ok (.invokevirtual 125, 3) := by decide +kernel
theorem dL_law_936 : decode cL_law 936 = .ok (.if_icmp .eq 420, 3) := by decide +kernel
theorem dL_law_939 : decode cL_law 939 = .ok (.iconst 0, 1) := by decide +kernel
theorem dL_law_940 : decode cL_law 940 = .ok (.ireturn, 1) := by decide +kernel
theorem dL_law_941 : decode cL_law 941 = .ok (.aload_n 1, 1) := by decide +kernel
theorem dL_law_942 : decode cL_law 942 = .ok (.aload_n 0, 1) := by decide +kernel
theorem dL_law_943 : decode cL_law 943 = .ok (.iload_n 3, 1) := by decide +kernel
theorem dL_law_944 : decode cL_law 944 = .ok (.iconst 1, 1) := by decide +kernel
theorem dL_law_945 : decode cL_law 945 = .ok (.iadd, 1) := by decide +kernel
theorem dL_law_946 : decode cL_law 946 = .ok (.iaload, 1) := by decide +kernel
theorem dL_law_947 : decode cL_law 947 = .ok (.aload_n 0, 1) := by decide +kernel
theorem dL_law_948 : decode cL_law 948 = .ok (.iload_n 3, 1) := by decide +kernel
theorem dL_law_949 : decode cL_law 949 = .ok (.iconst 2, 1) := by decide +kernel
theorem dL_law_950 : decode cL_law 950 = .ok (.iadd, 1) := by decide +kernel
theorem dL_law_951 : decode cL_law 951 = .ok (.iaload, 1) := by decide +kernel
theorem dL_law_952 : decode cL_law 952 = .ok (.aload_n 0, 1) := by decide +kernel
theorem dL_law_953 : decode cL_law 953 = .ok (.iload_n 3, 1) := by decide +kernel
theorem dL_law_954 : decode cL_law 954 = .ok (.iconst 3, 1) := by decide +kernel
theorem dL_law_955 : decode cL_law 955 = .ok (.iadd, 1) := by decide +kernel
theorem dL_law_956 : decode cL_law 956 = .ok (.iaload, 1) := by decide +kernel
theorem dL_law_957 : decode cL_law 957 = .ok (.invokevirtual 126, 3) := by decide +kernel
theorem dL_law_960 : decode cL_law 960 = .ok (.aload_n 2, 1) := by decide +kernel
theorem dL_law_961 : decode cL_law 961 = .ok (.aload_n 0, 1) := by decide +kernel
theorem dL_law_962 : decode cL_law 962 = .ok (.iload_n 3, 1) := by decide +kernel
theorem dL_law_963 : decode cL_law 963 = .ok (.iconst 1, 1) := by decide +kernel
theorem dL_law_964 : decode cL_law 964 = .ok (.iadd, 1) := by decide +kernel
theorem dL_law_965 : decode cL_law 965 = .ok (.iaload, 1) := by decide +kernel
theorem dL_law_966 : decode cL_law 966 = .ok (.aload_n 0, 1) := by decide +kernel
theorem dL_law_967 : decode cL_law 967 = .ok (.iload_n 3, 1) := by decide +kernel
theorem dL_law_968 : decode cL_law 968 = .ok (.iconst 2, 1) := by decide +kernel
theorem dL_law_969 : decode cL_law 969 = .ok (.iadd, 1) := by decide +kernel
theorem dL_law_970 : decode cL_law 970 = .ok (.iaload, 1) := by decide +kernel
theorem dL_law_971 : decode cL_law 971 = .ok (.aload_n 0, 1) := by decide +kernel
theorem dL_law_972 : decode cL_law 972 = .ok (.iload_n 3, 1) := by decide +kernel
theorem dL_law_973 : decode cL_law 973 = .ok (.iconst 3, 1) := by decide +kernel
theorem dL_law_974 : decode cL_law 974 = .ok (.iadd, 1) := by decide +kernel
theorem dL_law_975 : decode cL_law 975 = .ok (.iaload, 1) := by decide +kernel
theorem dL_law_976 : decode cL_law 976 = .ok (.invokevirtual 130, 3) := by decide +kernel
theorem dL_law_979 : decode cL_law 979 = .ok (.lcmp, 1) := by decide +kernel
theorem dL_law_980 : decode cL_law 980 = .ok (.ifCond .eq 376, 3) := by decide +kernel
theorem dL_law_983 : decode cL_law 983 = .ok (.iconst 0, 1) := by decide +kernel
theorem dL_law_984 : decode cL_law 984 = .ok (.ireturn, 1) := by decide +kernel
theorem dL_law_985 : decode cL_law 985 = .ok (.aload_n 1, 1) := by decide +kernel
theorem dL_law_986 : decode cL_law 986 = .ok (.aload_n 0, 1) := by decide +kernel
theorem dL_law_987 : decode cL_law 987 = .ok (.iload_n 3, 1) := by decide +kernel
theorem dL_law_988 : decode cL_law 988 = .ok (.iconst 1, 1) := by decide +kernel
theorem dL_law_989 : decode cL_law 989 = .ok (.iadd, 1) := by decide +kernel
theorem dL_law_990 : decode cL_law 990 = .ok (.iaload, 1) := by decide +kernel
theorem dL_law_991 : decode cL_law 991 = .ok (.aload_n 0, 1) := by decide +kernel
theorem dL_law_992 : decode cL_law 992 = .ok (.iload_n 3, 1) := by decide +kernel
theorem dL_law_993 : decode cL_law 993 = .ok (.iconst 2, 1) := by decide +kernel
theorem dL_law_994 : decode cL_law 994 = .ok (.iadd, 1) := by decide +kernel
theorem dL_law_995 : decode cL_law 995 = .ok (.iaload, 1) := by decide +kernel
theorem dL_law_996 : decode cL_law 996 = .ok (.invokevirtual 131, 3) := by decide +kernel
theorem dL_law_999 : decode cL_law 999 = .ok (.aload_n 2, 1) := by decide +kernel
theorem dL_law_1000 : decode cL_law 1000 = .ok (.aload_n 0, 1) := by decide +kernel
theorem dL_law_1001 : decode cL_law 1001 = .ok (.iload_n 3, 1) := by decide +kernel
theorem dL_law_1002 : decode cL_law 1002 = .ok (.iconst 1, 1) := by decide +kernel
theorem dL_law_1003 : decode cL_law 1003 = .ok (.iadd, 1) := by decide +kernel
theorem dL_law_1004 : decode cL_law 1004 = .ok (.iaload, 1) := by decide +kernel
theorem dL_law_1005 : decode cL_law 1005 = .ok (.aload_n 0, 1) := by decide +kernel
theorem dL_law_1006 : decode cL_law 1006 = .ok (.iload_n 3, 1) := by decide +kernel
theorem dL_law_1007 : decode cL_law 1007 = .ok (.iconst 2, 1) := by decide +kernel
theorem dL_law_1008 : decode cL_law 1008 = .ok (.iadd, 1) := by decide +kernel
theorem dL_law_1009 : decode cL_law 1009 = .ok (.iaload, 1) := by decide +kernel
theorem dL_law_1010 : decode cL_law 1010 = .ok (.invokevirtual 134, 3) := by decide +kernel
theorem dL_law_1013 : decode cL_law 1013 = .ok (.if_icmp .eq 343, 3) := by decide +kernel
theorem dL_law_1016 : decode cL_law 1016 = .ok (.iconst 0, 1) := by decide +kernel
theorem dL_law_1017 : decode cL_law 1017 = .ok (.ireturn, 1) := by decide +kernel
theorem dL_law_1018 : decode cL_law 1018 = .ok (.aload_n 1, 1) := by decide +kernel
theorem dL_law_1019 : decode cL_law 1019 = .ok (.aload_n 0, 1) := by decide +kernel
theorem dL_law_1020 : decode cL_law 1020 = .ok (.iload_n 3, 1) := by decide +kernel
theorem dL_law_1021 : decode cL_law 1021 = .ok (.iconst 1, 1) := by decide +kernel
theorem dL_law_1022 : decode cL_law 1022 = .ok (.iadd, 1) := by decide +kernel
theorem dL_law_1023 : decode cL_law 1023 = .ok (.iaload, 1) := by decide +kernel
theorem dL_law_1024 : decode cL_law 1024 = .ok (.aload_n 0, 1) := by decide +kernel
theorem dL_law_1025 : decode cL_law 1025 = .ok (.iload_n 3, 1) := by decide +kernel
theorem dL_law_1026 : decode cL_law 1026 = .ok (.iconst 2, 1) := by decide +kernel
theorem dL_law_1027 : decode cL_law 1027 = .ok (.iadd, 1) := by decide +kernel
theorem dL_law_1028 : decode cL_law 1028 = .ok (.iaload, 1) := by decide +kernel
theorem dL_law_1029 : decode cL_law 1029 = .ok (.aload_n 0, 1) := by decide +kernel
theorem dL_law_1030 : decode cL_law 1030 = .ok (.iload_n 3, 1) := by decide +kernel
theorem dL_law_1031 : decode cL_law 1031 = .ok (.iconst 3, 1) := by decide +kernel
theorem dL_law_1032 : decode cL_law 1032 = .ok (.iadd, 1) := by decide +kernel
theorem dL_law_1033 : decode cL_law 1033 = .ok (.iaload, 1) := by decide +kernel
theorem dL_law_1034 : decode cL_law 1034 = .ok (.invokevirtual 135, 3) := by decide +kernel
theorem dL_law_1037 : decode cL_law 1037 = .ok (.aload_n 2, 1) := by decide +kernel
theorem dL_law_1038 : decode cL_law 1038 = .ok (.aload_n 0, 1) := by decide +kernel
theorem dL_law_1039 : decode cL_law 1039 = .ok (.iload_n 3, 1) := by decide +kernel
theorem dL_law_1040 : decode cL_law 1040 = .ok (.iconst 1, 1) := by decide +kernel
theorem dL_law_1041 : decode cL_law 1041 = .ok (.iadd, 1) := by decide +kernel
theorem dL_law_1042 : decode cL_law 1042 = .ok (.iaload, 1) := by decide +kernel
theorem dL_law_1043 : decode cL_law 1043 = .ok (.aload_n 0, 1) := by decide +kernel
theorem dL_law_1044 : decode cL_law 1044 = .ok (.iload_n 3, 1) := by decide +kernel
theorem dL_law_1045 : decode cL_law 1045 = .ok (.iconst 2, 1) := by decide +kernel
theorem dL_law_1046 : decode cL_law 1046 = .ok (.iadd, 1) := by decide +kernel
theorem dL_law_1047 : decode cL_law 1047 = .ok (.iaload, 1) := by decide +kernel
theorem dL_law_1048 : decode cL_law 1048 = .ok (.aload_n 0, 1) := by decide +kernel
theorem dL_law_1049 : decode cL_law 1049 = .ok (.iload_n 3, 1) := by decide +kernel
theorem dL_law_1050 : decode cL_law 1050 = .ok (.iconst 3, 1) := by decide +kernel
theorem dL_law_1051 : decode cL_law 1051 = .ok (.iadd, 1) := by decide +kernel
theorem dL_law_1052 : decode cL_law 1052 = .ok (.iaload, 1) := by decide +kernel
theorem dL_law_1053 : decode cL_law 1053 = .ok (.invokevirtual 138, 3) := by decide +kernel
theorem dL_law_1056 : decode cL_law 1056 = .ok (.if_icmp .eq 300, 3) := by decide +kernel
theorem dL_law_1059 : decode cL_law 1059 = .ok (.iconst 0, 1) := by decide +kernel
theorem dL_law_1060 : decode cL_law 1060 = .ok (.ireturn, 1) := by decide +kernel
theorem dL_law_1061 : decode cL_law 1061 = .ok (.aload_n 1, 1) := by decide +kernel
theorem dL_law_1062 : decode cL_law 1062 = .ok (.aload_n 0, 1) := by decide +kernel
theorem dL_law_1063 : decode cL_law 1063 = .ok (.iload_n 3, 1) := by decide +kernel
theorem dL_law_1064 : decode cL_law 1064 = .ok (.iconst 1, 1) := by decide +kernel
theorem dL_law_1065 : decode cL_law 1065 = .ok (.iadd, 1) := by decide +kernel
theorem dL_law_1066 : decode cL_law 1066 = .ok (.iaload, 1) := by decide +kernel
theorem dL_law_1067 : decode cL_law 1067 = .ok (.aload_n 0, 1) := by decide +kernel
theorem dL_law_1068 : decode cL_law 1068 = .ok (.iload_n 3, 1) := by decide +kernel
theorem dL_law_1069 : decode cL_law 1069 = .ok (.iconst 2, 1) := by decide +kernel
theorem dL_law_1070 : decode cL_law 1070 = .ok (.iadd, 1) := by decide +kernel
theorem dL_law_1071 : decode cL_law 1071 = .ok (.iaload, 1) := by decide +kernel
theorem dL_law_1072 : decode cL_law 1072 = .ok (.aload_n 0, 1) := by decide +kernel
theorem dL_law_1073 : decode cL_law 1073 = .ok (.iload_n 3, 1) := by decide +kernel
theorem dL_law_1074 : decode cL_law 1074 = .ok (.iconst 3, 1) := by decide +kernel
theorem dL_law_1075 : decode cL_law 1075 = .ok (.iadd, 1) := by decide +kernel
theorem dL_law_1076 : decode cL_law 1076 = .ok (.iaload, 1) := by decide +kernel
theorem dL_law_1077 : decode cL_law 1077 = .ok (.invokevirtual 139, 3) := by decide +kernel
theorem dL_law_1080 : decode cL_law 1080 = .ok (.aload_n 2, 1) := by decide +kernel
theorem dL_law_1081 : decode cL_law 1081 = .ok (.aload_n 0, 1) := by decide +kernel
theorem dL_law_1082 : decode cL_law 1082 = .ok (.iload_n 3, 1) := by decide +kernel
theorem dL_law_1083 : decode cL_law 1083 = .ok (.iconst 1, 1) := by decide +kernel
theorem dL_law_1084 : decode cL_law 1084 = .ok (.iadd, 1) := by decide +kernel
theorem dL_law_1085 : decode cL_law 1085 = .ok (.iaload, 1) := by decide +kernel
theorem dL_law_1086 : decode cL_law 1086 = .ok (.aload_n 0, 1) := by decide +kernel
theorem dL_law_1087 : decode cL_law 1087 = .ok (.iload_n 3, 1) := by decide +kernel
theorem dL_law_1088 : decode cL_law 1088 = .ok (.iconst 2, 1) := by decide +kernel
theorem dL_law_1089 : decode cL_law 1089 = .ok (.iadd, 1) := by decide +kernel
theorem dL_law_1090 : decode cL_law 1090 = .ok (.iaload, 1) := by decide +kernel
theorem dL_law_1091 : decode cL_law 1091 = .ok (.aload_n 0, 1) := by decide +kernel
theorem dL_law_1092 : decode cL_law 1092 = .ok (.iload_n 3, 1) := by decide +kernel
theorem dL_law_1093 : decode cL_law 1093 = .ok (.iconst 3, 1) := by decide +kernel
theorem dL_law_1094 : decode cL_law 1094 = .ok (.iadd, 1) := by decide +kernel
theorem dL_law_1095 : decode cL_law 1095 = .ok (.iaload, 1) := by decide +kernel
theorem dL_law_1096 : decode cL_law 1096 = .ok (.invokevirtual 142, 3) := by decide +kernel
theorem dL_law_1099 : decode cL_law 1099 = .ok (.if_icmp .eq 257, 3) := by decide +kernel
theorem dL_law_1102 : decode cL_law 1102 = .ok (.iconst 0, 1) := by decide +kernel
theorem dL_law_1103 : decode cL_law 1103 = .ok (.ireturn, 1) := by decide +kernel
theorem dL_law_1104 : decode cL_law 1104 = .ok (.aload_n 1, 1) := by decide +kernel
theorem dL_law_1105 : decode cL_law 1105 = .ok (.aload_n 0, 1) := by decide +kernel
theorem dL_law_1106 : decode cL_law 1106 = .ok (.iload_n 3, 1) := by decide +kernel
theorem dL_law_1107 : decode cL_law 1107 = .ok (.iconst 1, 1) := by decide +kernel
theorem dL_law_1108 : decode cL_law 1108 = .ok (.iadd, 1) := by decide +kernel
theorem dL_law_1109 : decode cL_law 1109 = .ok (.iaload, 1) := by decide +kernel
theorem dL_law_1110 : decode cL_law 1110 = .ok (.invokevirtual 143, 3) := by decide +kernel
theorem dL_law_1113 : decode cL_law 1113 = .ok (.aload_n 2, 1) := by decide +kernel
theorem dL_law_1114 : decode cL_law 1114 = .ok (.aload_n 0, 1) := by decide +kernel
theorem dL_law_1115 : decode cL_law 1115 = .ok (.iload_n 3, 1) := by decide +kernel
theorem dL_law_1116 : decode cL_law 1116 = .ok (.iconst 1, 1) := by decide +kernel
theorem dL_law_1117 : decode cL_law 1117 = .ok (.iadd, 1) := by decide +kernel
theorem dL_law_1118 : decode cL_law 1118 = .ok (.iaload, 1) := by decide +kernel
theorem dL_law_1119 : decode cL_law 1119 = .ok (.invokevirtual 146, 3) := by decide +kernel
theorem dL_law_1122 : decode cL_law 1122 = .ok (.if_icmp .eq 234, 3) := by decide +kernel
theorem dL_law_1125 : decode cL_law 1125 = .ok (.iconst 0, 1) := by decide +kernel
theorem dL_law_1126 : decode cL_law 1126 = .ok (.ireturn, 1) := by decide +kernel
theorem dL_law_1127 : decode cL_law 1127 = .ok (.aload_n 1, 1) := by decide +kernel
theorem dL_law_1128 : decode cL_law 1128 = .ok (.aload_n 0, 1) := by decide +kernel
theorem dL_law_1129 : decode cL_law 1129 = .ok (.iload_n 3, 1) := by decide +kernel
theorem dL_law_1130 : decode cL_law 1130 = .ok (.iconst 1, 1) := by decide +kernel
theorem dL_law_1131 : decode cL_law 1131 = .ok (.iadd, 1) := by decide +kernel
theorem dL_law_1132 : decode cL_law 1132 = .ok (.iaload, 1) := by decide +kernel
theorem dL_law_1133 : decode cL_law 1133 = .ok (.aload_n 0, 1) := by decide +kernel
theorem dL_law_1134 : decode cL_law 1134 = .ok (.iload_n 3, 1) := by decide +kernel
theorem dL_law_1135 : decode cL_law 1135 = .ok (.iconst 2, 1) := by decide +kernel
theorem dL_law_1136 : decode cL_law 1136 = .ok (.iadd, 1) := by decide +kernel
theorem dL_law_1137 : decode cL_law 1137 = .ok (.iaload, 1) := by decide +kernel
theorem dL_law_1138 : decode cL_law 1138 = .ok (.aload_n 0, 1) := by decide +kernel
theorem dL_law_1139 : decode cL_law 1139 = .ok (.iload_n 3, 1) := by decide +kernel
theorem dL_law_1140 : decode cL_law 1140 = .ok (.iconst 3, 1) := by decide +kernel
theorem dL_law_1141 : decode cL_law 1141 = .ok (.iadd, 1) := by decide +kernel
theorem dL_law_1142 : decode cL_law 1142 = .ok (.iaload, 1) := by decide +kernel
theorem dL_law_1143 : decode cL_law 1143 = .ok (.aload_n 0, 1) := by decide +kernel
theorem dL_law_1144 : decode cL_law 1144 = .ok (.iload_n 3, 1) := by decide +kernel
theorem dL_law_1145 : decode cL_law 1145 = .ok (.iconst 4, 1) := by decide +kernel
theorem dL_law_1146 : decode cL_law 1146 = .ok (.iadd, 1) := by decide +kernel
theorem dL_law_1147 : decode cL_law 1147 = .ok (.iaload, 1) := by decide +kernel
theorem dL_law_1148 : decode cL_law 1148 = .ok (.invokevirtual 147, 3) := by decide +kernel
theorem dL_law_1151 : decode cL_law 1151 = .ok (.aload_n 2, 1) := by decide +kernel
theorem dL_law_1152 : decode cL_law 1152 = .ok (.aload_n 0, 1) := by decide +kernel
theorem dL_law_1153 : decode cL_law 1153 = .ok (.iload_n 3, 1) := by decide +kernel
theorem dL_law_1154 : decode cL_law 1154 = .ok (.iconst 1, 1) := by decide +kernel
theorem dL_law_1155 : decode cL_law 1155 = .ok (.iadd, 1) := by decide +kernel
theorem dL_law_1156 : decode cL_law 1156 = .ok (.iaload, 1) := by decide +kernel
theorem dL_law_1157 : decode cL_law 1157 = .ok (.aload_n 0, 1) := by decide +kernel
theorem dL_law_1158 : decode cL_law 1158 = .ok (.iload_n 3, 1) := by decide +kernel
theorem dL_law_1159 : decode cL_law 1159 = .ok (.iconst 2, 1) := by decide +kernel
theorem dL_law_1160 : decode cL_law 1160 = .ok (.iadd, 1) := by decide +kernel
theorem dL_law_1161 : decode cL_law 1161 = .ok (.iaload, 1) := by decide +kernel
theorem dL_law_1162 : decode cL_law 1162 = .ok (.aload_n 0, 1) := by decide +kernel
theorem dL_law_1163 : decode cL_law 1163 = .ok (.iload_n 3, 1) := by decide +kernel
theorem dL_law_1164 : decode cL_law 1164 = .ok (.iconst 3, 1) := by decide +kernel
theorem dL_law_1165 : decode cL_law 1165 = .ok (.iadd, 1) := by decide +kernel
theorem dL_law_1166 : decode cL_law 1166 = .ok (.iaload, 1) := by decide +kernel
theorem dL_law_1167 : decode cL_law 1167 = .ok (.aload_n 0, 1) := by decide +kernel
theorem dL_law_1168 : decode cL_law 1168 = .ok (.iload_n 3, 1) := by decide +kernel
theorem dL_law_1169 : decode cL_law 1169 = .ok (.iconst 4, 1) := by decide +kernel
theorem dL_law_1170 : decode cL_law 1170 = .ok (.iadd, 1) := by decide +kernel
theorem dL_law_1171 : decode cL_law 1171 = .ok (.iaload, 1) := by decide +kernel
theorem dL_law_1172 : decode cL_law 1172 = .ok (.invokevirtual 150, 3) := by decide +kernel
theorem dL_law_1175 : decode cL_law 1175 = .ok (.if_icmp .eq 181, 3) := by decide +kernel
theorem dL_law_1178 : decode cL_law 1178 = .ok (.iconst 0, 1) := by decide +kernel
theorem dL_law_1179 : decode cL_law 1179 = .ok (.ireturn, 1) := by decide +kernel
theorem dL_law_1180 : decode cL_law 1180 = .ok (.aload_n 1, 1) := by decide +kernel
theorem dL_law_1181 : decode cL_law 1181 = .ok (.aload_n 0, 1) := by decide +kernel
theorem dL_law_1182 : decode cL_law 1182 = .ok (.iload_n 3, 1) := by decide +kernel
theorem dL_law_1183 : decode cL_law 1183 = .ok (.iconst 1, 1) := by decide +kernel
theorem dL_law_1184 : decode cL_law 1184 = .ok (.iadd, 1) := by decide +kernel
theorem dL_law_1185 : decode cL_law 1185 = .ok (.iaload, 1) := by decide +kernel
theorem dL_law_1186 : decode cL_law 1186 = .ok (.aload_n 0, 1) := by decide +kernel
theorem dL_law_1187 : decode cL_law 1187 = .ok (.iload_n 3, 1) := by decide +kernel
theorem dL_law_1188 : decode cL_law 1188 = .ok (.iconst 2, 1) := by decide +kernel
theorem dL_law_1189 : decode cL_law 1189 = .ok (.iadd, 1) := by decide +kernel
theorem dL_law_1190 : decode cL_law 1190 = .ok (.iaload, 1) := by decide +kernel
theorem dL_law_1191 : decode cL_law 1191 = .ok (.aload_n 0, 1) := by decide +kernel
theorem dL_law_1192 : decode cL_law 1192 = .ok (.iload_n 3, 1) := by decide +kernel
theorem dL_law_1193 : decode cL_law 1193 = .ok (.iconst 3, 1) := by decide +kernel
theorem dL_law_1194 : decode cL_law 1194 = .ok (.iadd, 1) := by decide +kernel
theorem dL_law_1195 : decode cL_law 1195 = .ok (.iaload, 1) := by decide +kernel
theorem dL_law_1196 : decode cL_law 1196 = .ok (.invokevirtual 151, 3) := by decide +kernel
theorem dL_law_1199 : decode cL_law 1199 = .ok (.aload_n 2, 1) := by decide +kernel
theorem dL_law_1200 : decode cL_law 1200 = .ok (.aload_n 0, 1) := by decide +kernel
theorem dL_law_1201 : decode cL_law 1201 = .ok (.iload_n 3, 1) := by decide +kernel
theorem dL_law_1202 : decode cL_law 1202 = .ok (.iconst 1, 1) := by decide +kernel
theorem dL_law_1203 : decode cL_law 1203 = .ok (.iadd, 1) := by decide +kernel
theorem dL_law_1204 : decode cL_law 1204 = .ok (.iaload, 1) := by decide +kernel
theorem dL_law_1205 : decode cL_law 1205 = .ok (.aload_n 0, 1) := by decide +kernel
theorem dL_law_1206 : decode cL_law 1206 = .ok (.iload_n 3, 1) := by decide +kernel
theorem dL_law_1207 : decode cL_law 1207 = .ok (.iconst 2, 1) := by decide +kernel
theorem dL_law_1208 : decode cL_law 1208 = .ok (.iadd, 1) := by decide +kernel
theorem dL_law_1209 : decode cL_law 1209 = .ok (.iaload, 1) := by decide +kernel
theorem dL_law_1210 : decode cL_law 1210 = .ok (.aload_n 0, 1) := by decide +kernel
theorem dL_law_1211 : decode cL_law 1211 = .ok (.iload_n 3, 1) := by decide +kernel
theorem dL_law_1212 : decode cL_law 1212 = .ok (.iconst 3, 1) := by decide +kernel
theorem dL_law_1213 : decode cL_law 1213 = .ok (.iadd, 1) := by decide +kernel
theorem dL_law_1214 : decode cL_law 1214 = .ok (.iaload, 1) := by decide +kernel
theorem dL_law_1215 : decode cL_law 1215 = .ok (.invokevirtual 154, 3) := by decide +kernel
theorem dL_law_1218 : decode cL_law 1218 = .ok (.if_icmp .eq 138, 3) := by decide +kernel
theorem dL_law_1221 : decode cL_law 1221 = .ok (.iconst 0, 1) := by decide +kernel
theorem dL_law_1222 : decode cL_law 1222 = .ok (.ireturn, 1) := by decide +kernel
theorem dL_law_1223 : decode cL_law 1223 = .ok (.aload_n 1, 1) := by decide +kernel
theorem dL_law_1224 : decode cL_law 1224 = .ok (.aload_n 0, 1) := by decide +kernel
theorem dL_law_1225 : decode cL_law 1225 = .ok (.iload_n 3, 1) := by decide +kernel
theorem dL_law_1226 : decode cL_law 1226 = .ok (.iconst 1, 1) := by decide +kernel
theorem dL_law_1227 : decode cL_law 1227 = .ok (.iadd, 1) := by decide +kernel
theorem dL_law_1228 : decode cL_law 1228 = .ok (.iaload, 1) := by decide +kernel
theorem dL_law_1229 : decode cL_law 1229 = .ok (.aload_n 0, 1) := by decide +kernel
theorem dL_law_1230 : decode cL_law 1230 = .ok (.iload_n 3, 1) := by decide +kernel
theorem dL_law_1231 : decode cL_law 1231 = .ok (.iconst 2, 1) := by decide +kernel
theorem dL_law_1232 : decode cL_law 1232 = .ok (.iadd, 1) := by decide +kernel
theorem dL_law_1233 : decode cL_law 1233 = .ok (.iaload, 1) := by decide +kernel
theorem dL_law_1234 : decode cL_law 1234 = .ok (.aload_n 0, 1) := by decide +kernel
theorem dL_law_1235 : decode cL_law 1235 = .ok (.iload_n 3, 1) := by decide +kernel
theorem dL_law_1236 : decode cL_law 1236 = .ok (.iconst 3, 1) := by decide +kernel
theorem dL_law_1237 : decode cL_law 1237 = .ok (.iadd, 1) := by decide +kernel
theorem dL_law_1238 : decode cL_law 1238 = .ok (.iaload, 1) := by decide +kernel
theorem dL_law_1239 : decode cL_law 1239 = .ok (.aload_n 0, 1) := by decide +kernel
theorem dL_law_1240 : decode cL_law 1240 = .ok (.iload_n 3, 1) := by decide +kernel
theorem dL_law_1241 : decode cL_law 1241 = .ok (.iconst 4, 1) := by decide +kernel
theorem dL_law_1242 : decode cL_law 1242 = .ok (.iadd, 1) := by decide +kernel
theorem dL_law_1243 : decode cL_law 1243 = .ok (.iaload, 1) := by decide +kernel
theorem dL_law_1244 : decode cL_law 1244 = .ok (.aload_n 0, 1) := by decide +kernel
theorem dL_law_1245 : decode cL_law 1245 = .ok (.iload_n 3, 1) := by decide +kernel
theorem dL_law_1246 : decode cL_law 1246 = .ok (.iconst 5, 1) := by decide +kernel
theorem dL_law_1247 : decode cL_law 1247 = .ok (.iadd, 1) := by decide +kernel
theorem dL_law_1248 : decode cL_law 1248 = .ok (.iaload, 1) := by decide +kernel
theorem dL_law_1249 : decode cL_law 1249 = .ok (.invokevirtual 155, 3) := by decide +kernel
theorem dL_law_1252 : decode cL_law 1252 = .ok (.aload_n 2, 1) := by decide +kernel
theorem dL_law_1253 : decode cL_law 1253 = .ok (.aload_n 0, 1) := by decide +kernel
theorem dL_law_1254 : decode cL_law 1254 = .ok (.iload_n 3, 1) := by decide +kernel
theorem dL_law_1255 : decode cL_law 1255 = .ok (.iconst 1, 1) := by decide +kernel
theorem dL_law_1256 : decode cL_law 1256 = .ok (.iadd, 1) := by decide +kernel
theorem dL_law_1257 : decode cL_law 1257 = .ok (.iaload, 1) := by decide +kernel
theorem dL_law_1258 : decode cL_law 1258 = .ok (.aload_n 0, 1) := by decide +kernel
theorem dL_law_1259 : decode cL_law 1259 = .ok (.iload_n 3, 1) := by decide +kernel
theorem dL_law_1260 : decode cL_law 1260 = .ok (.iconst 2, 1) := by decide +kernel
theorem dL_law_1261 : decode cL_law 1261 = .ok (.iadd, 1) := by decide +kernel
theorem dL_law_1262 : decode cL_law 1262 = .ok (.iaload, 1) := by decide +kernel
theorem dL_law_1263 : decode cL_law 1263 = .ok (.aload_n 0, 1) := by decide +kernel
theorem dL_law_1264 : decode cL_law 1264 = .ok (.iload_n 3, 1) := by decide +kernel
theorem dL_law_1265 : decode cL_law 1265 = .ok (.iconst 3, 1) := by decide +kernel
theorem dL_law_1266 : decode cL_law 1266 = .ok (.iadd, 1) := by decide +kernel
theorem dL_law_1267 : decode cL_law 1267 = .ok (.iaload, 1) := by decide +kernel
theorem dL_law_1268 : decode cL_law 1268 = .ok (.aload_n 0, 1) := by decide +kernel
theorem dL_law_1269 : decode cL_law 1269 = .ok (.iload_n 3, 1) := by decide +kernel
theorem dL_law_1270 : decode cL_law 1270 = .ok (.iconst 4, 1) := by decide +kernel
theorem dL_law_1271 : decode cL_law 1271 = .ok (.iadd, 1) := by decide +kernel
theorem dL_law_1272 : decode cL_law 1272 = .ok (.iaload, 1) := by decide +kernel
theorem dL_law_1273 : decode cL_law 1273 = .ok (.aload_n 0, 1) := by decide +kernel
theorem dL_law_1274 : decode cL_law 1274 = .ok (.iload_n 3, 1) := by decide +kernel
theorem dL_law_1275 : decode cL_law 1275 = .ok (.iconst 5, 1) := by decide +kernel
theorem dL_law_1276 : decode cL_law 1276 = .ok (.iadd, 1) := by decide +kernel
theorem dL_law_1277 : decode cL_law 1277 = .ok (.iaload, 1) := by decide +kernel
theorem dL_law_1278 : decode cL_law 1278 = .ok (.invokevirtual 159, 3) := by decide +kernel
theorem dL_law_1281 : decode cL_law 1281 = .ok (.if_icmp .eq 75, 3) := by decide +kernel
theorem dL_law_1284 : decode cL_law 1284 = .ok (.iconst 0, 1) := by decide +kernel
theorem dL_law_1285 : decode cL_law 1285 = .ok (.ireturn, 1) := by decide +kernel
theorem dL_law_1286 : decode cL_law 1286 = .ok (.aload_n 1, 1) := by decide +kernel
theorem dL_law_1287 : decode cL_law 1287 = .ok (.aload_n 0, 1) := by decide +kernel
theorem dL_law_1288 : decode cL_law 1288 = .ok (.iload_n 3, 1) := by decide +kernel
theorem dL_law_1289 : decode cL_law 1289 = .ok (.iconst 1, 1) := by decide +kernel
theorem dL_law_1290 : decode cL_law 1290 = .ok (.iadd, 1) := by decide +kernel
theorem dL_law_1291 : decode cL_law 1291 = .ok (.iaload, 1) := by decide +kernel
theorem dL_law_1292 : decode cL_law 1292 = .ok (.aload_n 0, 1) := by decide +kernel
theorem dL_law_1293 : decode cL_law 1293 = .ok (.iload_n 3, 1) := by decide +kernel
theorem dL_law_1294 : decode cL_law 1294 = .ok (.iconst 2, 1) := by decide +kernel
theorem dL_law_1295 : decode cL_law 1295 = .ok (.iadd, 1) := by decide +kernel
theorem dL_law_1296 : decode cL_law 1296 = .ok (.iaload, 1) := by decide +kernel
theorem dL_law_1297 : decode cL_law 1297 = .ok (.invokevirtual 160, 3) := by decide +kernel
theorem dL_law_1300 : decode cL_law 1300 = .ok (.aload_n 2, 1) := by decide +kernel
theorem dL_law_1301 : decode cL_law 1301 = .ok (.aload_n 0, 1) := by decide +kernel
theorem dL_law_1302 : decode cL_law 1302 = .ok (.iload_n 3, 1) := by decide +kernel
theorem dL_law_1303 : decode cL_law 1303 = .ok (.iconst 1, 1) := by decide +kernel
theorem dL_law_1304 : decode cL_law 1304 = .ok (.iadd, 1) := by decide +kernel
theorem dL_law_1305 : decode cL_law 1305 = .ok (.iaload, 1) := by decide +kernel
theorem dL_law_1306 : decode cL_law 1306 = .ok (.aload_n 0, 1) := by decide +kernel
theorem dL_law_1307 : decode cL_law 1307 = .ok (.iload_n 3, 1) := by decide +kernel
theorem dL_law_1308 : decode cL_law 1308 = .ok (.iconst 2, 1) := by decide +kernel
theorem dL_law_1309 : decode cL_law 1309 = .ok (.iadd, 1) := by decide +kernel
theorem dL_law_1310 : decode cL_law 1310 = .ok (.iaload, 1) := by decide +kernel
theorem dL_law_1311 : decode cL_law 1311 = .ok (.invokevirtual 163, 3) := by decide +kernel
theorem dL_law_1314 : decode cL_law 1314 = .ok (.if_icmp .eq 42, 3) := by decide +kernel
theorem dL_law_1317 : decode cL_law 1317 = .ok (.iconst 0, 1) := by decide +kernel
theorem dL_law_1318 : decode cL_law 1318 = .ok (.ireturn, 1) := by decide +kernel
theorem dL_law_1319 : decode cL_law 1319 = .ok (.aload_n 1, 1) := by decide +kernel
theorem dL_law_1320 : decode cL_law 1320 = .ok (.aload_n 0, 1) := by decide +kernel
theorem dL_law_1321 : decode cL_law 1321 = .ok (.iload_n 3, 1) := by decide +kernel
theorem dL_law_1322 : decode cL_law 1322 = .ok (.iconst 1, 1) := by decide +kernel
theorem dL_law_1323 : decode cL_law 1323 = .ok (.iadd, 1) := by decide +kernel
theorem dL_law_1324 : decode cL_law 1324 = .ok (.iaload, 1) := by decide +kernel
theorem dL_law_1325 : decode cL_law 1325 = .ok (.invokevirtual 164, 3) := by decide +kernel
theorem dL_law_1328 : decode cL_law 1328 = .ok (.aload_n 2, 1) := by decide +kernel
theorem dL_law_1329 : decode cL_law 1329 = .ok (.aload_n 0, 1) := by decide +kernel
theorem dL_law_1330 : decode cL_law 1330 = .ok (.iload_n 3, 1) := by decide +kernel
theorem dL_law_1331 : decode cL_law 1331 = .ok (.iconst 1, 1) := by decide +kernel
theorem dL_law_1332 : decode cL_law 1332 = .ok (.iadd, 1) := by decide +kernel
theorem dL_law_1333 : decode cL_law 1333 = .ok (.iaload, 1) := by decide +kernel
theorem dL_law_1334 : decode cL_law 1334 = .ok (.invokevirtual 167, 3) := by decide +kernel
theorem dL_law_1337 : decode cL_law 1337 = .ok (.if_icmp .eq 19, 3) := by decide +kernel
theorem dL_law_1340 : decode cL_law 1340 = .ok (.iconst 0, 1) := by decide +kernel
theorem dL_law_1341 : decode cL_law 1341 = .ok (.ireturn, 1) := by decide +kernel
theorem dL_law_1342 : decode cL_law 1342 = .ok (.aload_n 1, 1) := by decide +kernel
theorem dL_law_1343 : decode cL_law 1343 = .ok (.invokevirtual 168, 3) := by decide +kernel
theorem dL_law_1346 : decode cL_law 1346 = .ok (.aload_n 2, 1) := by decide +kernel
theorem dL_law_1347 : decode cL_law 1347 = .ok (.invokevirtual 172, 3) := by decide +kernel
theorem dL_law_1350 : decode cL_law 1350 = .ok (.lcmp, 1) := by decide +kernel
theorem dL_law_1351 : decode cL_law 1351 = .ok (.ifCond .eq 5, 3) := by decide +kernel
theorem dL_law_1354 : decode cL_law 1354 = .ok (.iconst 0, 1) := by decide +kernel
theorem dL_law_1355 : decode cL_law 1355 = .ok (.ireturn, 1) := by decide +kernel
theorem dL_law_1356 : decode cL_law 1356 = .ok (.iinc 3 6, 3) := by decide +kernel
theorem dL_law_1359 : decode cL_law 1359 = .ok (.goto (-1341), 3) := by decide +kernel
theorem dL_law_1362 : decode cL_law 1362 = .ok (.iconst 1, 1) := by decide +kernel
theorem dL_law_1363 : decode cL_law 1363 = .ok (.ireturn, 1) := by decide +kernel
end
section
/-! AJ: the machine at a frame, over a world 'wd u' that is a function of a memory u (scalars, rows); Q: of the answer and the memory at the method's end -/
abbrev Mem : Type := (Nat → Int32) × (Nat → Nat → Int32)
def sS (u : Mem) (k : Nat) (v : Int32) : Mem := (fun j => if j = k then v else u.1 j, u.2)
def sA (u : Mem) (k i : Nat) (v : Int32) : Mem := (u.1, fun j => if j = k then upd (u.2 k) i v else u.2 j)
def sR (u : Mem) (k : Nat) (f : Nat → Int32) : Mem := (u.1, fun j => if j = k then f else u.2 j)
def TT : List Cond := lw_tbl.filter goodWord
theorem tt_of {w : Cond} (i : Nat) (h : lw_tbl[i]? = some w) (hg : goodWord w = true) : w ∈ TT := List.mem_filter.mpr ⟨List.mem_of_getElem? h, hg⟩
theorem tt_lw {w : Cond} (h : w ∈ TT) : w ∈ lw_tbl := (List.mem_filter.mp h).1
theorem tt_good {w : Cond} (h : w ∈ TT) : (w.onTables && w.keeps) = true ∨ ∃ ty, w = .arrayClass ty := good_of_word (List.mem_filter.mp h).2
def NWs : List Cond := [.methodLinkNest RX10 23 yX3_init RX10, .methodLinkNest RX10 30 yX1_init RX10, .methodLinkNest RX10 37 yX2_init RX10, .methodLinkNest RX1 35 yX10_isBigLetter RX10, .methodLinkNest RX1 43 yX10_isSmallLetter RX10, .methodLinkNest RX3 40 yX10_isSmallLetter RX10, .methodLinkNest RX3 60 yX10_isBigLetter RX10, .declares ⟨RX5, "stateBehind", "(II)I"⟩]
def NW (U : State) : Prop := ∀ w ∈ NWs, va_Nw w U
theorem NW.warm {s U : State} (hW : s.WarmedH U.vm) (h : NW s) : NW U := by
  intro w hw
  have h1 := h w hw
  simp only [NWs, List.mem_cons, List.not_mem_nil, or_false] at hw
  rcases hw with rfl | rfl | rfl | rfl | rfl | rfl | rfl | rfl
  · exact va_Nw.warmM hW h1
  · exact va_Nw.warmM hW h1
  · exact va_Nw.warmM hW h1
  · exact va_Nw.warmM hW h1
  · exact va_Nw.warmM hW h1
  · exact va_Nw.warmM hW h1
  · exact va_Nw.warmM hW h1
  · exact va_Nw.warmD hW h1
theorem NW.same {s U : State} (hv : s.vm = U.vm) (h : NW s) : NW U := by
  intro w hw
  have h1 := h w hw
  refine va_Nw.same ?_ hv h1
  simp only [NWs, List.mem_cons, List.not_mem_nil, or_false] at hw
  rcases hw with rfl | rfl | rfl | rfl | rfl | rfl | rfl | rfl <;> rfl
def RM (d : Nat) : Room := { frames := d, cells := 0, slots := 0, locals := 100 * d }
def jQ (D : va_G) (tys : List (ClassId × FieldType)) (wd : Mem → va_W) (A0 : Nat → Prop) (Q : Option Value → Mem → Prop) : Array Value → State → Outcome → State → Prop := fun _ st oc t =>
  (∃ (v : Option Value) (u : Mem), oc = .returned v ∧ Q v u ∧ va_P D vwCl (wd u) t.heap ∧ va_K D vwCl tys t ∧ va_D A0 (wd u)) ∧ va_F A0 st t
def jP (D : va_G) (tys : List (ClassId × FieldType)) (wd : Mem → va_W) (A0 : Nat → Prop) (u : Mem) (U : State) : Prop := va_P D vwCl (wd u) U.heap ∧ va_K D vwCl tys U ∧ va_D A0 (wd u) ∧ NW U
def JMet (l : Launch) (D : va_G) (tys : List (ClassId × FieldType)) (wd : Mem → va_W) (A0 : Nat → Prop) (y : MethodName) (cc : ByteArray) (nL : Nat) (rt : Option FieldType) (d : Nat) (av : List Value) (u : Mem) (Q : Option Value → Mem → Prop) : Prop :=
  Met l y (Cond.code y cc nL rt :: TT) (RM d) (va_Pc av (jP D tys wd A0 u)) (jQ D tys wd A0 Q) 0 0 A0
def JX (D : va_G) (tys : List (ClassId × FieldType)) (cc : ByteArray) (nL : Nat) (rt : Option FieldType) (own : String) (p : Program) (s : State) (m : MethodId) (args : Array Value) (meth : Method) (c : Code) : Prop :=
  p.tables.exec = Jvm.exec ∧ c.code = cc ∧ c.maxLocals = nL ∧ meth.sig.returnType = rt ∧ meth.locks = false ∧ s.vm.findClass own = some m.cls ∧ (∀ w ∈ TT, w.before args s = true) ∧ NW s ∧ va_K D vwCl tys s
def AJ (l : Launch) (D : va_G) (tys : List (ClassId × FieldType)) (wd : Mem → va_W) (A0 : Nat → Prop) (cc : ByteArray) (nL : Nat) (rt : Option FieldType) (own : String) (d : Nat) (Q : Option Value → Mem → Prop) (pc : Nat) (lv : List (Nat × Value)) (st : List Value) (u : Mem) : Prop :=
  ∀ (p : Program) (e : Env) (s : State) (m : MethodId) (args : Array Value) (below : List Frame) (meth : Method) (c : Code), JX D tys cc nL rt own p s m args meth c →
    ∀ (H : Heap) (locs : List Loc) (ls : Array Slot), va_S A0 s.heap H locs → va_P D vwCl (wd u) H → va_D A0 (wd u) → lv_has ls nL lv →
      W p l e (RM d) s m args below meth c H locs 0 0 (MQ below (jQ D tys wd A0 Q) args s 0 0 A0) (F0 m pc ls st)
section JROWS
variable {l : Launch} {D : va_G} {tys : List (ClassId × FieldType)} {wd : Mem → va_W} {A0 : Nat → Prop} {cc : ByteArray} {nL : Nat} {rt : Option FieldType} {own : String} {d : Nat} {Q : Option Value → Mem → Prop} {pc : Nat} {lv : List (Nat × Value)} {st : List Value} {u : Mem}
theorem JMet.of {y : MethodName} {av : List Value} (hy : plainName y.cls = true) (hz : (lg_sl av).length ≤ nL) (h : AJ l D tys wd A0 cc nL rt y.cls d Q 0 (lv_args 0 av) [] u) : JMet l D tys wd A0 y cc nL rt d av u Q := by
  refine Met.ofW (cc := cc) (maxL := nL) (ret := rt) hy rfl ?_
  intro p e s m args below meth c s₁ B hml hv
  obtain ⟨rfl, hP, hK, hD, hN⟩ := hv
  have hts := atoms_spec (ws := Cond.code y cc nL rt :: TT) B.pre
  have hl := lv_entry av (n := nL) hz
  rw [lg_entry_eq]
  exact h p e s m _ below meth c ⟨B.exec, B.bytes, hml, B.returns, B.notSynchronized, findClass_of_methodNamed B.named, fun w hw => hts w (List.mem_cons_of_mem _ hw), hN, hK⟩ s.heap [] _ va_S.rf hP hD hl
theorem JMet.mono {y : MethodName} {av : List Value} {Q2 : Option Value → Mem → Prop} (h : JMet l D tys wd A0 y cc nL rt d av u Q) (hq : ∀ v w, Q v w → Q2 v w) : JMet l D tys wd A0 y cc nL rt d av u Q2 := by
  unfold JMet Met at h ⊢
  refine MetFree.mono h (fun _ _ h => h) (fun _ _ _ _ _ h => h) ?_
  intro a s o t _ h
  obtain ⟨⟨⟨v, w, h1, h2, h3⟩, h4⟩, h5⟩ := h
  exact ⟨⟨⟨v, w, h1, hq v w h2, h3⟩, h4⟩, h5⟩
theorem AJ.mono {Q2 : Option Value → Mem → Prop} (hq : ∀ v w, Q v w → Q2 v w) (h : AJ l D tys wd A0 cc nL rt own d Q pc lv st u) : AJ l D tys wd A0 cc nL rt own d Q2 pc lv st u := by
  intro p e s m args below meth c X H locs ls hS hP hD hl T hT Y
  obtain ⟨t, a, o, b1, b2, ⟨⟨v, w, c1, c2, c3⟩, c4⟩, b4⟩ := h p e s m args below meth c X H locs ls hS hP hD hl T hT Y
  exact ⟨t, a, o, b1, b2, ⟨⟨v, w, c1, hq v w c2, c3⟩, c4⟩, b4⟩
theorem J_sub {lv' : List (Nat × Value)} (ks : List Nat) (hp : lv_pick lv ks = lv') (k : AJ l D tys wd A0 cc nL rt own d Q pc lv' st u) : AJ l D tys wd A0 cc nL rt own d Q pc lv st u := by
  intro p e s m args below meth c X H locs ls hS hP hD hl
  exact k p e s m args below meth c X H locs ls hS hP hD (lv_sub hl ks hp)
theorem J_mem {u' : Mem} (h : wd u = wd u') (k : AJ l D tys wd A0 cc nL rt own d Q pc lv st u') : AJ l D tys wd A0 cc nL rt own d Q pc lv st u := by
  intro p e s m args below meth c X H locs ls hS hP hD hl
  rw [h] at hP hD
  exact k p e s m args below meth c X H locs ls hS hP hD hl
theorem J_topi {v : Int32} (k : ∀ x, x = v → AJ l D tys wd A0 cc nL rt own d Q pc lv (.int x :: st) u) : AJ l D tys wd A0 cc nL rt own d Q pc lv (.int v :: st) u := k v rfl
theorem J_topl {v : Int64} (k : ∀ x, x = v → AJ l D tys wd A0 cc nL rt own d Q pc lv (.long x :: st) u) : AJ l D tys wd A0 cc nL rt own d Q pc lv (.long v :: st) u := k v rfl
theorem J_memn {v : Mem} (k : ∀ x, x = v → AJ l D tys wd A0 cc nL rt own d Q pc lv st x) : AJ l D tys wd A0 cc nL rt own d Q pc lv st v := k v rfl
theorem J_iconst {n : Int} {v : Int32} (hd : decode cc pc = .ok (.iconst n, 1)) (hv : Int32.ofInt n = v) (k : AJ l D tys wd A0 cc nL rt own d Q (pc + 1) lv (.int v :: st) u) : AJ l D tys wd A0 cc nL rt own d Q pc lv (st) u := by
  intro p e s m args below meth c X H locs ls hS hP hD hl
  exact lv_iconst X.1 X.2.1 hd hv (k p e s m args below meth c X H locs ls hS hP hD hl)
theorem J_bipush {n : Int} {v : Int32} (hd : decode cc pc = .ok (.bipush n, 2)) (hv : (Int8.ofInt n).toInt32 = v) (k : AJ l D tys wd A0 cc nL rt own d Q (pc + 2) lv (.int v :: st) u) : AJ l D tys wd A0 cc nL rt own d Q pc lv (st) u := by
  intro p e s m args below meth c X H locs ls hS hP hD hl
  exact lv_bipush X.1 X.2.1 hd hv (k p e s m args below meth c X H locs ls hS hP hD hl)
theorem J_sipush {n : Int} {v : Int32} (hd : decode cc pc = .ok (.sipush n, 3)) (hv : (Int16.ofInt n).toInt32 = v) (k : AJ l D tys wd A0 cc nL rt own d Q (pc + 3) lv (.int v :: st) u) : AJ l D tys wd A0 cc nL rt own d Q pc lv (st) u := by
  intro p e s m args below meth c X H locs ls hS hP hD hl
  exact lv_sipush X.1 X.2.1 hd hv (k p e s m args below meth c X H locs ls hS hP hD hl)
theorem J_lconst {n : Fin 2} {v : Int64} (hd : decode cc pc = .ok (.lconst n, 1)) (hv : Int64.ofNat (n : Nat) = v) (k : AJ l D tys wd A0 cc nL rt own d Q (pc + 1) lv (.long v :: st) u) : AJ l D tys wd A0 cc nL rt own d Q pc lv (st) u := by
  intro p e s m args below meth c X H locs ls hS hP hD hl
  exact lv_lconst X.1 X.2.1 hd hv (k p e s m args below meth c X H locs ls hS hP hD hl)
theorem J_null  (hd : decode cc pc = .ok (.aconst_null, 1))  (k : AJ l D tys wd A0 cc nL rt own d Q (pc + 1) lv (.null :: st) u) : AJ l D tys wd A0 cc nL rt own d Q pc lv (st) u := by
  intro p e s m args below meth c X H locs ls hS hP hD hl
  exact lv_null X.1 X.2.1 hd  (k p e s m args below meth c X H locs ls hS hP hD hl)
theorem J_ldc {i : Nat} {v : Int32} (hd : decode cc pc = .ok (.ldc i, 2)) (hw : Cond.constant own i v ∈ TT) (k : AJ l D tys wd A0 cc nL rt own d Q (pc + 2) lv (.int v :: st) u) : AJ l D tys wd A0 cc nL rt own d Q pc lv (st) u := by
  intro p e s m args below meth c X H locs ls hS hP hD hl
  exact lv_ldc X.1 X.2.1 X.2.2.2.2.2.1 (X.2.2.2.2.2.2.1 _ hw) hd (k p e s m args below meth c X H locs ls hS hP hD hl)
theorem J_ldcw {i : Nat} {v : Int32} (hd : decode cc pc = .ok (.ldc_w i, 3)) (hw : Cond.constant own i v ∈ TT) (k : AJ l D tys wd A0 cc nL rt own d Q (pc + 3) lv (.int v :: st) u) : AJ l D tys wd A0 cc nL rt own d Q pc lv (st) u := by
  intro p e s m args below meth c X H locs ls hS hP hD hl
  exact lv_ldcw X.1 X.2.1 X.2.2.2.2.2.1 (X.2.2.2.2.2.2.1 _ hw) hd (k p e s m args below meth c X H locs ls hS hP hD hl)
theorem J_ldc2 {i : Nat} {v : Int64} (hd : decode cc pc = .ok (.ldc2_w i, 3)) (hw : Cond.constantLong own i v ∈ TT) (k : AJ l D tys wd A0 cc nL rt own d Q (pc + 3) lv (.long v :: st) u) : AJ l D tys wd A0 cc nL rt own d Q pc lv (st) u := by
  intro p e s m args below meth c X H locs ls hS hP hD hl
  exact lv_ldc2 X.1 X.2.1 X.2.2.2.2.2.1 (X.2.2.2.2.2.2.1 _ hw) hd (k p e s m args below meth c X H locs ls hS hP hD hl)
theorem J_iload_n {k0 : Fin 4} {i : Nat} {x : Int32} (j : Nat) (hd : decode cc pc = .ok (.iload_n k0, 1)) (hi : (k0 : Nat) = i) (hj : lv[j]? = some (i, .int x)) (k : AJ l D tys wd A0 cc nL rt own d Q (pc + 1) lv (.int x :: st) u) : AJ l D tys wd A0 cc nL rt own d Q pc lv (st) u := by
  intro p e s m args below meth c X H locs ls hS hP hD hl
  exact lv_iload_n X.1 X.2.1 hd hi (lv_at hl j hj) (k p e s m args below meth c X H locs ls hS hP hD hl)
theorem J_lload_n {k0 : Fin 4} {i : Nat} {x : Int64} (j : Nat) (hd : decode cc pc = .ok (.lload_n k0, 1)) (hi : (k0 : Nat) = i) (hj : lv[j]? = some (i, .long x)) (k : AJ l D tys wd A0 cc nL rt own d Q (pc + 1) lv (.long x :: st) u) : AJ l D tys wd A0 cc nL rt own d Q pc lv (st) u := by
  intro p e s m args below meth c X H locs ls hS hP hD hl
  exact lv_lload_n X.1 X.2.1 hd hi (lv_at hl j hj) (k p e s m args below meth c X H locs ls hS hP hD hl)
theorem J_aload_n {k0 : Fin 4} {i : Nat} {x : Nat} (j : Nat) (hd : decode cc pc = .ok (.aload_n k0, 1)) (hi : (k0 : Nat) = i) (hj : lv[j]? = some (i, .ref x)) (k : AJ l D tys wd A0 cc nL rt own d Q (pc + 1) lv (.ref x :: st) u) : AJ l D tys wd A0 cc nL rt own d Q pc lv (st) u := by
  intro p e s m args below meth c X H locs ls hS hP hD hl
  exact lv_aload_n X.1 X.2.1 hd hi (lv_at hl j hj) (k p e s m args below meth c X H locs ls hS hP hD hl)
theorem J_aload_nN {k0 : Fin 4} {i : Nat}  (j : Nat) (hd : decode cc pc = .ok (.aload_n k0, 1)) (hi : (k0 : Nat) = i) (hj : lv[j]? = some (i, .null)) (k : AJ l D tys wd A0 cc nL rt own d Q (pc + 1) lv (.null :: st) u) : AJ l D tys wd A0 cc nL rt own d Q pc lv (st) u := by
  intro p e s m args below meth c X H locs ls hS hP hD hl
  exact lv_aload_nN X.1 X.2.1 hd hi (lv_at hl j hj) (k p e s m args below meth c X H locs ls hS hP hD hl)
theorem J_iload {i : Nat} {x : Int32} (j : Nat) (hd : decode cc pc = .ok (.iload i, 2)) (hj : lv[j]? = some (i, .int x)) (k : AJ l D tys wd A0 cc nL rt own d Q (pc + 2) lv (.int x :: st) u) : AJ l D tys wd A0 cc nL rt own d Q pc lv (st) u := by
  intro p e s m args below meth c X H locs ls hS hP hD hl
  exact lv_iload X.1 X.2.1 hd (lv_at hl j hj) (k p e s m args below meth c X H locs ls hS hP hD hl)
theorem J_lload {i : Nat} {x : Int64} (j : Nat) (hd : decode cc pc = .ok (.lload i, 2)) (hj : lv[j]? = some (i, .long x)) (k : AJ l D tys wd A0 cc nL rt own d Q (pc + 2) lv (.long x :: st) u) : AJ l D tys wd A0 cc nL rt own d Q pc lv (st) u := by
  intro p e s m args below meth c X H locs ls hS hP hD hl
  exact lv_lload X.1 X.2.1 hd (lv_at hl j hj) (k p e s m args below meth c X H locs ls hS hP hD hl)
theorem J_aload {i : Nat} {x : Nat} (j : Nat) (hd : decode cc pc = .ok (.aload i, 2)) (hj : lv[j]? = some (i, .ref x)) (k : AJ l D tys wd A0 cc nL rt own d Q (pc + 2) lv (.ref x :: st) u) : AJ l D tys wd A0 cc nL rt own d Q pc lv (st) u := by
  intro p e s m args below meth c X H locs ls hS hP hD hl
  exact lv_aload X.1 X.2.1 hd (lv_at hl j hj) (k p e s m args below meth c X H locs ls hS hP hD hl)
theorem J_istore_n {k0 : Fin 4} {i : Nat} {x : Int32} {lv' : List (Nat × Value)} (hd : decode cc pc = .ok (.istore_n k0, 1)) (hi : (k0 : Nat) = i) (hn : i < nL) (hl2 : (i, Value.int x) :: lv.filter (fun q => !(q.1 == i) && !(q.1 + 1 == i && q.2.category == 2)) = lv') (k : AJ l D tys wd A0 cc nL rt own d Q (pc + 1) lv' (st) u) : AJ l D tys wd A0 cc nL rt own d Q pc lv (.int x :: st) u := by
  intro p e s m args below meth c X H locs ls hS hP hD hl
  exact lv_istore_n X.1 X.2.1 hd hi hl hn hl2 (fun ls2 hl3 => k p e s m args below meth c X H locs ls2 hS hP hD hl3)
theorem J_istore  {i : Nat} {x : Int32} {lv' : List (Nat × Value)} (hd : decode cc pc = .ok (.istore i, 2))  (hn : i < nL) (hl2 : (i, Value.int x) :: lv.filter (fun q => !(q.1 == i) && !(q.1 + 1 == i && q.2.category == 2)) = lv') (k : AJ l D tys wd A0 cc nL rt own d Q (pc + 2) lv' (st) u) : AJ l D tys wd A0 cc nL rt own d Q pc lv (.int x :: st) u := by
  intro p e s m args below meth c X H locs ls hS hP hD hl
  exact lv_istore X.1 X.2.1 hd  hl hn hl2 (fun ls2 hl3 => k p e s m args below meth c X H locs ls2 hS hP hD hl3)
theorem J_lstore_n {k0 : Fin 4} {i : Nat} {x : Int64} {lv' : List (Nat × Value)} (hd : decode cc pc = .ok (.lstore_n k0, 1)) (hi : (k0 : Nat) = i) (hn : i + 1 < nL) (hl2 : (i, Value.long x) :: lv.filter (fun q => !(q.1 == i) && (!(q.1 == i + 1) && !(q.1 + 1 == i && q.2.category == 2))) = lv') (k : AJ l D tys wd A0 cc nL rt own d Q (pc + 1) lv' (st) u) : AJ l D tys wd A0 cc nL rt own d Q pc lv (.long x :: st) u := by
  intro p e s m args below meth c X H locs ls hS hP hD hl
  exact lv_lstore_n X.1 X.2.1 hd hi hl hn hl2 (fun ls2 hl3 => k p e s m args below meth c X H locs ls2 hS hP hD hl3)
theorem J_lstore  {i : Nat} {x : Int64} {lv' : List (Nat × Value)} (hd : decode cc pc = .ok (.lstore i, 2))  (hn : i + 1 < nL) (hl2 : (i, Value.long x) :: lv.filter (fun q => !(q.1 == i) && (!(q.1 == i + 1) && !(q.1 + 1 == i && q.2.category == 2))) = lv') (k : AJ l D tys wd A0 cc nL rt own d Q (pc + 2) lv' (st) u) : AJ l D tys wd A0 cc nL rt own d Q pc lv (.long x :: st) u := by
  intro p e s m args below meth c X H locs ls hS hP hD hl
  exact lv_lstore X.1 X.2.1 hd  hl hn hl2 (fun ls2 hl3 => k p e s m args below meth c X H locs ls2 hS hP hD hl3)
theorem J_astore_n {k0 : Fin 4} {i : Nat} {x : Nat} {lv' : List (Nat × Value)} (hd : decode cc pc = .ok (.astore_n k0, 1)) (hi : (k0 : Nat) = i) (hn : i < nL) (hl2 : (i, Value.ref x) :: lv.filter (fun q => !(q.1 == i) && !(q.1 + 1 == i && q.2.category == 2)) = lv') (k : AJ l D tys wd A0 cc nL rt own d Q (pc + 1) lv' (st) u) : AJ l D tys wd A0 cc nL rt own d Q pc lv (.ref x :: st) u := by
  intro p e s m args below meth c X H locs ls hS hP hD hl
  exact lv_astore_n X.1 X.2.1 hd hi hl hn hl2 (fun ls2 hl3 => k p e s m args below meth c X H locs ls2 hS hP hD hl3)
theorem J_astore  {i : Nat} {x : Nat} {lv' : List (Nat × Value)} (hd : decode cc pc = .ok (.astore i, 2))  (hn : i < nL) (hl2 : (i, Value.ref x) :: lv.filter (fun q => !(q.1 == i) && !(q.1 + 1 == i && q.2.category == 2)) = lv') (k : AJ l D tys wd A0 cc nL rt own d Q (pc + 2) lv' (st) u) : AJ l D tys wd A0 cc nL rt own d Q pc lv (.ref x :: st) u := by
  intro p e s m args below meth c X H locs ls hS hP hD hl
  exact lv_astore X.1 X.2.1 hd  hl hn hl2 (fun ls2 hl3 => k p e s m args below meth c X H locs ls2 hS hP hD hl3)
theorem J_astore_nN {k0 : Fin 4} {i : Nat}  {lv' : List (Nat × Value)} (hd : decode cc pc = .ok (.astore_n k0, 1)) (hi : (k0 : Nat) = i) (hn : i < nL) (hl2 : (i, Value.null) :: lv.filter (fun q => !(q.1 == i) && !(q.1 + 1 == i && q.2.category == 2)) = lv') (k : AJ l D tys wd A0 cc nL rt own d Q (pc + 1) lv' (st) u) : AJ l D tys wd A0 cc nL rt own d Q pc lv (.null :: st) u := by
  intro p e s m args below meth c X H locs ls hS hP hD hl
  exact lv_astore_nN X.1 X.2.1 hd hi hl hn hl2 (fun ls2 hl3 => k p e s m args below meth c X H locs ls2 hS hP hD hl3)
theorem J_iinc {i : Nat} {n : Int} {x v : Int32} {lv' : List (Nat × Value)} (j : Nat) (hd : decode cc pc = .ok (.iinc i n, 3)) (hj : lv[j]? = some (i, .int x)) (hv : x + Int32.ofInt n = v) (hn : i < nL) (hl2 : (i, Value.int v) :: lv.filter (fun q => !(q.1 == i) && !(q.1 + 1 == i && q.2.category == 2)) = lv') (k : AJ l D tys wd A0 cc nL rt own d Q (pc + 3) lv' (st) u) : AJ l D tys wd A0 cc nL rt own d Q pc lv (st) u := by
  intro p e s m args below meth c X H locs ls hS hP hD hl
  exact lv_iinc X.1 X.2.1 hd hl hj hv hn hl2 (fun ls2 hl3 => k p e s m args below meth c X H locs ls2 hS hP hD hl3)
theorem J_iadd {x y : Int32} (hd : decode cc pc = .ok (.iadd, 1))  (k : AJ l D tys wd A0 cc nL rt own d Q (pc + 1) lv (.int (x + y) :: st) u) : AJ l D tys wd A0 cc nL rt own d Q pc lv (.int y :: .int x :: st) u := by
  intro p e s m args below meth c X H locs ls hS hP hD hl
  exact lv_iadd X.1 X.2.1 hd  (k p e s m args below meth c X H locs ls hS hP hD hl)
theorem J_isub {x y : Int32} (hd : decode cc pc = .ok (.isub, 1))  (k : AJ l D tys wd A0 cc nL rt own d Q (pc + 1) lv (.int (x - y) :: st) u) : AJ l D tys wd A0 cc nL rt own d Q pc lv (.int y :: .int x :: st) u := by
  intro p e s m args below meth c X H locs ls hS hP hD hl
  exact lv_isub X.1 X.2.1 hd  (k p e s m args below meth c X H locs ls hS hP hD hl)
theorem J_imul {x y : Int32} (hd : decode cc pc = .ok (.imul, 1))  (k : AJ l D tys wd A0 cc nL rt own d Q (pc + 1) lv (.int (x * y) :: st) u) : AJ l D tys wd A0 cc nL rt own d Q pc lv (.int y :: .int x :: st) u := by
  intro p e s m args below meth c X H locs ls hS hP hD hl
  exact lv_imul X.1 X.2.1 hd  (k p e s m args below meth c X H locs ls hS hP hD hl)
theorem J_iand {x y : Int32} (hd : decode cc pc = .ok (.iand, 1))  (k : AJ l D tys wd A0 cc nL rt own d Q (pc + 1) lv (.int (x &&& y) :: st) u) : AJ l D tys wd A0 cc nL rt own d Q pc lv (.int y :: .int x :: st) u := by
  intro p e s m args below meth c X H locs ls hS hP hD hl
  exact lv_iand X.1 X.2.1 hd  (k p e s m args below meth c X H locs ls hS hP hD hl)
theorem J_ior {x y : Int32} (hd : decode cc pc = .ok (.ior, 1))  (k : AJ l D tys wd A0 cc nL rt own d Q (pc + 1) lv (.int (x ||| y) :: st) u) : AJ l D tys wd A0 cc nL rt own d Q pc lv (.int y :: .int x :: st) u := by
  intro p e s m args below meth c X H locs ls hS hP hD hl
  exact lv_ior X.1 X.2.1 hd  (k p e s m args below meth c X H locs ls hS hP hD hl)
theorem J_ixor {x y : Int32} (hd : decode cc pc = .ok (.ixor, 1))  (k : AJ l D tys wd A0 cc nL rt own d Q (pc + 1) lv (.int (x ^^^ y) :: st) u) : AJ l D tys wd A0 cc nL rt own d Q pc lv (.int y :: .int x :: st) u := by
  intro p e s m args below meth c X H locs ls hS hP hD hl
  exact lv_ixor X.1 X.2.1 hd  (k p e s m args below meth c X H locs ls hS hP hD hl)
theorem J_ishl {x y : Int32} (hd : decode cc pc = .ok (.ishl, 1))  (k : AJ l D tys wd A0 cc nL rt own d Q (pc + 1) lv (.int (x <<< (y &&& 31)) :: st) u) : AJ l D tys wd A0 cc nL rt own d Q pc lv (.int y :: .int x :: st) u := by
  intro p e s m args below meth c X H locs ls hS hP hD hl
  exact lv_ishl X.1 X.2.1 hd  (k p e s m args below meth c X H locs ls hS hP hD hl)
theorem J_ishr {x y : Int32} (hd : decode cc pc = .ok (.ishr, 1))  (k : AJ l D tys wd A0 cc nL rt own d Q (pc + 1) lv (.int (x >>> (y &&& 31)) :: st) u) : AJ l D tys wd A0 cc nL rt own d Q pc lv (.int y :: .int x :: st) u := by
  intro p e s m args below meth c X H locs ls hS hP hD hl
  exact lv_ishr X.1 X.2.1 hd  (k p e s m args below meth c X H locs ls hS hP hD hl)
theorem J_idiv {x y : Int32} (hd : decode cc pc = .ok (.idiv, 1)) (hne : ¬ y = 0) (k : AJ l D tys wd A0 cc nL rt own d Q (pc + 1) lv (.int (x / y) :: st) u) : AJ l D tys wd A0 cc nL rt own d Q pc lv (.int y :: .int x :: st) u := by
  intro p e s m args below meth c X H locs ls hS hP hD hl
  exact lv_idiv X.1 X.2.1 hd hne (k p e s m args below meth c X H locs ls hS hP hD hl)
theorem J_irem {x y : Int32} (hd : decode cc pc = .ok (.irem, 1)) (hne : ¬ y = 0) (k : AJ l D tys wd A0 cc nL rt own d Q (pc + 1) lv (.int (x - x / y * y) :: st) u) : AJ l D tys wd A0 cc nL rt own d Q pc lv (.int y :: .int x :: st) u := by
  intro p e s m args below meth c X H locs ls hS hP hD hl
  exact lv_irem X.1 X.2.1 hd hne (k p e s m args below meth c X H locs ls hS hP hD hl)
theorem J_ineg {x : Int32} (hd : decode cc pc = .ok (.ineg, 1))  (k : AJ l D tys wd A0 cc nL rt own d Q (pc + 1) lv (.int (0 - x) :: st) u) : AJ l D tys wd A0 cc nL rt own d Q pc lv (.int x :: st) u := by
  intro p e s m args below meth c X H locs ls hS hP hD hl
  exact lv_ineg X.1 X.2.1 hd  (k p e s m args below meth c X H locs ls hS hP hD hl)
theorem J_iushr {x y : Int32} (hd : decode cc pc = .ok (.iushr, 1))  (k : AJ l D tys wd A0 cc nL rt own d Q (pc + 1) lv (.int ((x.toUInt32 >>> (y.toUInt32 &&& Int32.toUInt32 31)).toInt32) :: st) u) : AJ l D tys wd A0 cc nL rt own d Q pc lv (.int y :: .int x :: st) u := by
  intro p e s m args below meth c X H locs ls hS hP hD hl
  exact lv_iushr X.1 X.2.1 hd rfl (k p e s m args below meth c X H locs ls hS hP hD hl)
theorem J_ladd {x y : Int64} (hd : decode cc pc = .ok (.ladd, 1))  (k : AJ l D tys wd A0 cc nL rt own d Q (pc + 1) lv (.long (x + y) :: st) u) : AJ l D tys wd A0 cc nL rt own d Q pc lv (.long y :: .long x :: st) u := by
  intro p e s m args below meth c X H locs ls hS hP hD hl
  exact lv_ladd X.1 X.2.1 hd  (k p e s m args below meth c X H locs ls hS hP hD hl)
theorem J_lsub {x y : Int64} (hd : decode cc pc = .ok (.lsub, 1))  (k : AJ l D tys wd A0 cc nL rt own d Q (pc + 1) lv (.long (x - y) :: st) u) : AJ l D tys wd A0 cc nL rt own d Q pc lv (.long y :: .long x :: st) u := by
  intro p e s m args below meth c X H locs ls hS hP hD hl
  exact lv_lsub X.1 X.2.1 hd  (k p e s m args below meth c X H locs ls hS hP hD hl)
theorem J_lmul {x y : Int64} (hd : decode cc pc = .ok (.lmul, 1))  (k : AJ l D tys wd A0 cc nL rt own d Q (pc + 1) lv (.long (x * y) :: st) u) : AJ l D tys wd A0 cc nL rt own d Q pc lv (.long y :: .long x :: st) u := by
  intro p e s m args below meth c X H locs ls hS hP hD hl
  exact lv_lmul X.1 X.2.1 hd  (k p e s m args below meth c X H locs ls hS hP hD hl)
theorem J_ldiv {x y : Int64} (hd : decode cc pc = .ok (.ldiv, 1)) (hne : ¬ y = 0) (k : AJ l D tys wd A0 cc nL rt own d Q (pc + 1) lv (.long (x / y) :: st) u) : AJ l D tys wd A0 cc nL rt own d Q pc lv (.long y :: .long x :: st) u := by
  intro p e s m args below meth c X H locs ls hS hP hD hl
  exact lv_ldiv X.1 X.2.1 hd hne (k p e s m args below meth c X H locs ls hS hP hD hl)
theorem J_lrem {x y : Int64} (hd : decode cc pc = .ok (.lrem, 1)) (hne : ¬ y = 0) (k : AJ l D tys wd A0 cc nL rt own d Q (pc + 1) lv (.long (x - x / y * y) :: st) u) : AJ l D tys wd A0 cc nL rt own d Q pc lv (.long y :: .long x :: st) u := by
  intro p e s m args below meth c X H locs ls hS hP hD hl
  exact lv_lrem X.1 X.2.1 hd hne (k p e s m args below meth c X H locs ls hS hP hD hl)
theorem J_i2l {x : Int32} (hd : decode cc pc = .ok (.i2l, 1))  (k : AJ l D tys wd A0 cc nL rt own d Q (pc + 1) lv (.long x.toInt64 :: st) u) : AJ l D tys wd A0 cc nL rt own d Q pc lv (.int x :: st) u := by
  intro p e s m args below meth c X H locs ls hS hP hD hl
  exact lv_i2l X.1 X.2.1 hd rfl (k p e s m args below meth c X H locs ls hS hP hD hl)
theorem J_i2b {x : Int32} (hd : decode cc pc = .ok (.i2b, 1))  (k : AJ l D tys wd A0 cc nL rt own d Q (pc + 1) lv (.int x.toInt8.toInt32 :: st) u) : AJ l D tys wd A0 cc nL rt own d Q pc lv (.int x :: st) u := by
  intro p e s m args below meth c X H locs ls hS hP hD hl
  exact lv_i2b X.1 X.2.1 hd rfl (k p e s m args below meth c X H locs ls hS hP hD hl)
theorem J_i2s {x : Int32} (hd : decode cc pc = .ok (.i2s, 1))  (k : AJ l D tys wd A0 cc nL rt own d Q (pc + 1) lv (.int x.toInt16.toInt32 :: st) u) : AJ l D tys wd A0 cc nL rt own d Q pc lv (.int x :: st) u := by
  intro p e s m args below meth c X H locs ls hS hP hD hl
  exact lv_i2s X.1 X.2.1 hd rfl (k p e s m args below meth c X H locs ls hS hP hD hl)
theorem J_lcmp {x y : Int64} (hd : decode cc pc = .ok (.lcmp, 1))  (k : AJ l D tys wd A0 cc nL rt own d Q (pc + 1) lv (.int (lg_cmp x y) :: st) u) : AJ l D tys wd A0 cc nL rt own d Q pc lv (.long y :: .long x :: st) u := by
  intro p e s m args below meth c X H locs ls hS hP hD hl
  exact W.lcmp X.1 X.2.1 hd  (k p e s m args below meth c X H locs ls hS hP hD hl)
theorem J_dup {a : Value} (hd : decode cc pc = .ok (.dup, 1)) (ha : a.category = 1) (k : AJ l D tys wd A0 cc nL rt own d Q (pc + 1) lv (a :: a :: st) u) : AJ l D tys wd A0 cc nL rt own d Q pc lv (a :: st) u := by
  intro p e s m args below meth c X H locs ls hS hP hD hl
  exact lv_dup X.1 X.2.1 hd ha (k p e s m args below meth c X H locs ls hS hP hD hl)
theorem J_pop {a : Value} (hd : decode cc pc = .ok (.pop, 1)) (ha : a.category = 1) (k : AJ l D tys wd A0 cc nL rt own d Q (pc + 1) lv (st) u) : AJ l D tys wd A0 cc nL rt own d Q pc lv (a :: st) u := by
  intro p e s m args below meth c X H locs ls hS hP hD hl
  exact lv_pop X.1 X.2.1 hd ha (k p e s m args below meth c X H locs ls hS hP hD hl)
theorem J_dup2 {a b : Value} (hd : decode cc pc = .ok (.dup2, 1)) (ha : a.category = 1) (hb : b.category = 1) (k : AJ l D tys wd A0 cc nL rt own d Q (pc + 1) lv (a :: b :: a :: b :: st) u) : AJ l D tys wd A0 cc nL rt own d Q pc lv (a :: b :: st) u := by
  intro p e s m args below meth c X H locs ls hS hP hD hl
  exact lv_dup2_11 X.1 X.2.1 hd ha hb (k p e s m args below meth c X H locs ls hS hP hD hl)
theorem J_if_eq {x : Int32} {off : Int} {tgt : Nat} (hd : decode cc pc = .ok (.ifCond .eq off, 3)) (ht : (pc : Int) + off = (tgt : Int)) (kt : x = 0 → AJ l D tys wd A0 cc nL rt own d Q tgt lv (st) u) (kf : ¬ x = 0 → AJ l D tys wd A0 cc nL rt own d Q (pc + 3) lv (st) u) : AJ l D tys wd A0 cc nL rt own d Q pc lv (.int x :: st) u := by
  intro p e s m args below meth c X H locs ls hS hP hD hl
  exact lv_if_eq X.1 X.2.1 hd ht (fun h => kt h p e s m args below meth c X H locs ls hS hP hD hl) (fun h => kf h p e s m args below meth c X H locs ls hS hP hD hl)
theorem J_icmp_eq {x y : Int32} {off : Int} {tgt : Nat} (hd : decode cc pc = .ok (.if_icmp .eq off, 3)) (ht : (pc : Int) + off = (tgt : Int)) (kt : x = y → AJ l D tys wd A0 cc nL rt own d Q tgt lv (st) u) (kf : ¬ x = y → AJ l D tys wd A0 cc nL rt own d Q (pc + 3) lv (st) u) : AJ l D tys wd A0 cc nL rt own d Q pc lv (.int y :: .int x :: st) u := by
  intro p e s m args below meth c X H locs ls hS hP hD hl
  exact lv_icmp_eq X.1 X.2.1 hd ht (fun h => kt h p e s m args below meth c X H locs ls hS hP hD hl) (fun h => kf h p e s m args below meth c X H locs ls hS hP hD hl)
theorem J_if_ne {x : Int32} {off : Int} {tgt : Nat} (hd : decode cc pc = .ok (.ifCond .ne off, 3)) (ht : (pc : Int) + off = (tgt : Int)) (kt : ¬ x = 0 → AJ l D tys wd A0 cc nL rt own d Q tgt lv (st) u) (kf : x = 0 → AJ l D tys wd A0 cc nL rt own d Q (pc + 3) lv (st) u) : AJ l D tys wd A0 cc nL rt own d Q pc lv (.int x :: st) u := by
  intro p e s m args below meth c X H locs ls hS hP hD hl
  exact lv_if_ne X.1 X.2.1 hd ht (fun h => kt h p e s m args below meth c X H locs ls hS hP hD hl) (fun h => kf h p e s m args below meth c X H locs ls hS hP hD hl)
theorem J_icmp_ne {x y : Int32} {off : Int} {tgt : Nat} (hd : decode cc pc = .ok (.if_icmp .ne off, 3)) (ht : (pc : Int) + off = (tgt : Int)) (kt : ¬ x = y → AJ l D tys wd A0 cc nL rt own d Q tgt lv (st) u) (kf : x = y → AJ l D tys wd A0 cc nL rt own d Q (pc + 3) lv (st) u) : AJ l D tys wd A0 cc nL rt own d Q pc lv (.int y :: .int x :: st) u := by
  intro p e s m args below meth c X H locs ls hS hP hD hl
  exact lv_icmp_ne X.1 X.2.1 hd ht (fun h => kt h p e s m args below meth c X H locs ls hS hP hD hl) (fun h => kf h p e s m args below meth c X H locs ls hS hP hD hl)
theorem J_if_lt {x : Int32} {off : Int} {tgt : Nat} (hd : decode cc pc = .ok (.ifCond .lt off, 3)) (ht : (pc : Int) + off = (tgt : Int)) (kt : x < 0 → AJ l D tys wd A0 cc nL rt own d Q tgt lv (st) u) (kf : ¬ x < 0 → AJ l D tys wd A0 cc nL rt own d Q (pc + 3) lv (st) u) : AJ l D tys wd A0 cc nL rt own d Q pc lv (.int x :: st) u := by
  intro p e s m args below meth c X H locs ls hS hP hD hl
  exact lv_if_lt X.1 X.2.1 hd ht (fun h => kt h p e s m args below meth c X H locs ls hS hP hD hl) (fun h => kf h p e s m args below meth c X H locs ls hS hP hD hl)
theorem J_icmp_lt {x y : Int32} {off : Int} {tgt : Nat} (hd : decode cc pc = .ok (.if_icmp .lt off, 3)) (ht : (pc : Int) + off = (tgt : Int)) (kt : x < y → AJ l D tys wd A0 cc nL rt own d Q tgt lv (st) u) (kf : ¬ x < y → AJ l D tys wd A0 cc nL rt own d Q (pc + 3) lv (st) u) : AJ l D tys wd A0 cc nL rt own d Q pc lv (.int y :: .int x :: st) u := by
  intro p e s m args below meth c X H locs ls hS hP hD hl
  exact lv_icmp_lt X.1 X.2.1 hd ht (fun h => kt h p e s m args below meth c X H locs ls hS hP hD hl) (fun h => kf h p e s m args below meth c X H locs ls hS hP hD hl)
theorem J_if_ge {x : Int32} {off : Int} {tgt : Nat} (hd : decode cc pc = .ok (.ifCond .ge off, 3)) (ht : (pc : Int) + off = (tgt : Int)) (kt : 0 ≤ x → AJ l D tys wd A0 cc nL rt own d Q tgt lv (st) u) (kf : ¬ 0 ≤ x → AJ l D tys wd A0 cc nL rt own d Q (pc + 3) lv (st) u) : AJ l D tys wd A0 cc nL rt own d Q pc lv (.int x :: st) u := by
  intro p e s m args below meth c X H locs ls hS hP hD hl
  exact lv_if_ge X.1 X.2.1 hd ht (fun h => kt h p e s m args below meth c X H locs ls hS hP hD hl) (fun h => kf h p e s m args below meth c X H locs ls hS hP hD hl)
theorem J_icmp_ge {x y : Int32} {off : Int} {tgt : Nat} (hd : decode cc pc = .ok (.if_icmp .ge off, 3)) (ht : (pc : Int) + off = (tgt : Int)) (kt : y ≤ x → AJ l D tys wd A0 cc nL rt own d Q tgt lv (st) u) (kf : ¬ y ≤ x → AJ l D tys wd A0 cc nL rt own d Q (pc + 3) lv (st) u) : AJ l D tys wd A0 cc nL rt own d Q pc lv (.int y :: .int x :: st) u := by
  intro p e s m args below meth c X H locs ls hS hP hD hl
  exact lv_icmp_ge X.1 X.2.1 hd ht (fun h => kt h p e s m args below meth c X H locs ls hS hP hD hl) (fun h => kf h p e s m args below meth c X H locs ls hS hP hD hl)
theorem J_if_gt {x : Int32} {off : Int} {tgt : Nat} (hd : decode cc pc = .ok (.ifCond .gt off, 3)) (ht : (pc : Int) + off = (tgt : Int)) (kt : 0 < x → AJ l D tys wd A0 cc nL rt own d Q tgt lv (st) u) (kf : ¬ 0 < x → AJ l D tys wd A0 cc nL rt own d Q (pc + 3) lv (st) u) : AJ l D tys wd A0 cc nL rt own d Q pc lv (.int x :: st) u := by
  intro p e s m args below meth c X H locs ls hS hP hD hl
  exact lv_if_gt X.1 X.2.1 hd ht (fun h => kt h p e s m args below meth c X H locs ls hS hP hD hl) (fun h => kf h p e s m args below meth c X H locs ls hS hP hD hl)
theorem J_icmp_gt {x y : Int32} {off : Int} {tgt : Nat} (hd : decode cc pc = .ok (.if_icmp .gt off, 3)) (ht : (pc : Int) + off = (tgt : Int)) (kt : y < x → AJ l D tys wd A0 cc nL rt own d Q tgt lv (st) u) (kf : ¬ y < x → AJ l D tys wd A0 cc nL rt own d Q (pc + 3) lv (st) u) : AJ l D tys wd A0 cc nL rt own d Q pc lv (.int y :: .int x :: st) u := by
  intro p e s m args below meth c X H locs ls hS hP hD hl
  exact lv_icmp_gt X.1 X.2.1 hd ht (fun h => kt h p e s m args below meth c X H locs ls hS hP hD hl) (fun h => kf h p e s m args below meth c X H locs ls hS hP hD hl)
theorem J_if_le {x : Int32} {off : Int} {tgt : Nat} (hd : decode cc pc = .ok (.ifCond .le off, 3)) (ht : (pc : Int) + off = (tgt : Int)) (kt : x ≤ 0 → AJ l D tys wd A0 cc nL rt own d Q tgt lv (st) u) (kf : ¬ x ≤ 0 → AJ l D tys wd A0 cc nL rt own d Q (pc + 3) lv (st) u) : AJ l D tys wd A0 cc nL rt own d Q pc lv (.int x :: st) u := by
  intro p e s m args below meth c X H locs ls hS hP hD hl
  exact lv_if_le X.1 X.2.1 hd ht (fun h => kt h p e s m args below meth c X H locs ls hS hP hD hl) (fun h => kf h p e s m args below meth c X H locs ls hS hP hD hl)
theorem J_icmp_le {x y : Int32} {off : Int} {tgt : Nat} (hd : decode cc pc = .ok (.if_icmp .le off, 3)) (ht : (pc : Int) + off = (tgt : Int)) (kt : x ≤ y → AJ l D tys wd A0 cc nL rt own d Q tgt lv (st) u) (kf : ¬ x ≤ y → AJ l D tys wd A0 cc nL rt own d Q (pc + 3) lv (st) u) : AJ l D tys wd A0 cc nL rt own d Q pc lv (.int y :: .int x :: st) u := by
  intro p e s m args below meth c X H locs ls hS hP hD hl
  exact lv_icmp_le X.1 X.2.1 hd ht (fun h => kt h p e s m args below meth c X H locs ls hS hP hD hl) (fun h => kf h p e s m args below meth c X H locs ls hS hP hD hl)
theorem J_goto {off : Int} {tgt : Nat} (hd : decode cc pc = .ok (.goto off, 3)) (ht : (pc : Int) + off = (tgt : Int)) (k : AJ l D tys wd A0 cc nL rt own d Q tgt lv (st) u) : AJ l D tys wd A0 cc nL rt own d Q pc lv (st) u := by
  intro p e s m args below meth c X H locs ls hS hP hD hl
  exact lv_goto X.1 X.2.1 hd ht (k p e s m args below meth c X H locs ls hS hP hD hl)
theorem J_ifnull {x : Nat} {off : Int} (hd : decode cc pc = .ok (.ifnull off, 3)) (k : AJ l D tys wd A0 cc nL rt own d Q (pc + 3) lv (st) u) : AJ l D tys wd A0 cc nL rt own d Q pc lv (.ref x :: st) u := by
  intro p e s m args below meth c X H locs ls hS hP hD hl
  exact lv_ifnull X.1 X.2.1 hd (k p e s m args below meth c X H locs ls hS hP hD hl)
theorem J_ifnullN {off : Int} {tgt : Nat} (hd : decode cc pc = .ok (.ifnull off, 3)) (ht : (pc : Int) + off = (tgt : Int)) (k : AJ l D tys wd A0 cc nL rt own d Q tgt lv (st) u) : AJ l D tys wd A0 cc nL rt own d Q pc lv (.null :: st) u := by
  intro p e s m args below meth c X H locs ls hS hP hD hl
  exact lv_ifnullN X.1 X.2.1 hd ht (k p e s m args below meth c X H locs ls hS hP hD hl)
theorem J_ifnonnull {x : Nat} {off : Int} {tgt : Nat} (hd : decode cc pc = .ok (.ifnonnull off, 3)) (ht : (pc : Int) + off = (tgt : Int)) (k : AJ l D tys wd A0 cc nL rt own d Q tgt lv (st) u) : AJ l D tys wd A0 cc nL rt own d Q pc lv (.ref x :: st) u := by
  intro p e s m args below meth c X H locs ls hS hP hD hl
  exact lv_ifnonnull X.1 X.2.1 hd ht (k p e s m args below meth c X H locs ls hS hP hD hl)
theorem J_ifnonnullN {off : Int} (hd : decode cc pc = .ok (.ifnonnull off, 3)) (k : AJ l D tys wd A0 cc nL rt own d Q (pc + 3) lv (st) u) : AJ l D tys wd A0 cc nL rt own d Q pc lv (.null :: st) u := by
  intro p e s m args below meth c X H locs ls hS hP hD hl
  exact lv_ifnonnullN X.1 X.2.1 hd (k p e s m args below meth c X H locs ls hS hP hD hl)
theorem J_tin {dflt lo hi : Int} {offs : Array Int} {len : Nat} {x : Int32} {off : Int} {tgt : Nat} (hd : decode cc pc = .ok (.tableswitch dflt lo hi offs, len)) (h1 : ¬ x.toInt < lo) (h2 : ¬ hi < x.toInt) (ho : offs[(x.toInt - lo).toNat]? = some off) (ht : (pc : Int) + off = (tgt : Int)) (k : AJ l D tys wd A0 cc nL rt own d Q tgt lv (st) u) : AJ l D tys wd A0 cc nL rt own d Q pc lv (.int x :: st) u := by
  intro p e s m args below meth c X H locs ls hS hP hD hl
  exact lv_tableIn X.1 X.2.1 hd h1 h2 ho ht (k p e s m args below meth c X H locs ls hS hP hD hl)
theorem J_tout {dflt lo hi : Int} {offs : Array Int} {len : Nat} {x : Int32} {tgt : Nat} (hd : decode cc pc = .ok (.tableswitch dflt lo hi offs, len)) (h1 : x.toInt < lo ∨ hi < x.toInt) (ht : (pc : Int) + dflt = (tgt : Int)) (k : AJ l D tys wd A0 cc nL rt own d Q tgt lv (st) u) : AJ l D tys wd A0 cc nL rt own d Q pc lv (.int x :: st) u := by
  intro p e s m args below meth c X H locs ls hS hP hD hl
  exact lv_tableOut X.1 X.2.1 hd h1 ht (k p e s m args below meth c X H locs ls hS hP hD hl)
theorem J_iret {x : Int32} (hrt : rt = some .int) (hd : decode cc pc = .ok (.ireturn, 1))  (k : Q (some (.int x)) u) : AJ l D tys wd A0 cc nL rt own d Q pc lv ([.int x]) u := by
  intro p e s m args below meth c X H locs ls hS hP hD hl
  exact W.iret X.1 X.2.1 (X.2.2.2.1.trans hrt)  (fun t ht hW => ⟨⟨_, u, rfl, k, by rw [ht]; exact hP, va_K.moved hW.alike X.2.2.2.2.2.2.2.2, hD⟩, hS.F ht⟩) hS.2.2 hd X.2.2.2.2.1
theorem J_zret {x : Int32} (hrt : rt = some .boolean) (hd : decode cc pc = .ok (.ireturn, 1)) (hn : narrow .boolean (.int x) = .int x) (k : Q (some (.int x)) u) : AJ l D tys wd A0 cc nL rt own d Q pc lv ([.int x]) u := by
  intro p e s m args below meth c X H locs ls hS hP hD hl
  exact W.zret X.1 X.2.1 (X.2.2.2.1.trans hrt) hn (fun t ht hW => ⟨⟨_, u, rfl, k, by rw [ht]; exact hP, va_K.moved hW.alike X.2.2.2.2.2.2.2.2, hD⟩, hS.F ht⟩) hS.2.2 hd X.2.2.2.2.1
theorem J_lret {x : Int64} (hrt : rt = some .long) (hd : decode cc pc = .ok (.lreturn, 1))  (k : Q (some (.long x)) u) : AJ l D tys wd A0 cc nL rt own d Q pc lv ([.long x]) u := by
  intro p e s m args below meth c X H locs ls hS hP hD hl
  exact W.lret X.1 X.2.1 (X.2.2.2.1.trans hrt)  (fun t ht hW => ⟨⟨_, u, rfl, k, by rw [ht]; exact hP, va_K.moved hW.alike X.2.2.2.2.2.2.2.2, hD⟩, hS.F ht⟩) hS.2.2 hd X.2.2.2.2.1
theorem J_vret  (hrt : rt = none) (hd : decode cc pc = .ok (.return_, 1))  (k : Q (none) u) : AJ l D tys wd A0 cc nL rt own d Q pc lv ([]) u := by
  intro p e s m args below meth c X H locs ls hS hP hD hl
  exact W.vret X.1 X.2.1 (X.2.2.2.1.trans hrt)  (fun t ht hW => ⟨⟨_, u, rfl, k, by rw [ht]; exact hP, va_K.moved hW.alike X.2.2.2.2.2.2.2.2, hD⟩, hS.F ht⟩) hS.2.2 hd X.2.2.2.2.1
theorem J_aret {C : String} {x : Nat} (hrt : rt = some (.object C)) (hd : decode cc pc = .ok (.areturn, 1)) (k : Q (some (.ref x)) u) : AJ l D tys wd A0 cc nL rt own d Q pc lv ([.ref x]) u := by
  intro p e s m args below meth c X H locs ls hS hP hD hl
  exact W.aret X.1 X.2.1 (X.2.2.2.1.trans hrt) (Or.inl ⟨C, rfl⟩) (Or.inr ⟨x, rfl⟩) (fun t ht hW => ⟨⟨_, u, rfl, k, by rw [ht]; exact hP, va_K.moved hW.alike X.2.2.2.2.2.2.2.2, hD⟩, hS.F ht⟩) hS.2.2 hd X.2.2.2.2.1
theorem J_aretN {C : String} (hrt : rt = some (.object C)) (hd : decode cc pc = .ok (.areturn, 1)) (k : Q (some .null) u) : AJ l D tys wd A0 cc nL rt own d Q pc lv ([.null]) u := by
  intro p e s m args below meth c X H locs ls hS hP hD hl
  exact W.aret X.1 X.2.1 (X.2.2.2.1.trans hrt) (Or.inl ⟨C, rfl⟩) (Or.inl rfl) (fun t ht hW => ⟨⟨_, u, rfl, k, by rw [ht]; exact hP, va_K.moved hW.alike X.2.2.2.2.2.2.2.2, hD⟩, hS.F ht⟩) hS.2.2 hd X.2.2.2.2.1
theorem J_get {C : String} {T : u_T} {N ci i a : Nat} {v : Value} {fs : List Value} (q0 k0 : Nat) (hin : ∀ w ∈ u_ws C T N, w ∈ TT) (he : (wd u)[q0]? = some (a, .inr (ci, fs))) (hc : vwCl[ci]? = some (C, T, N)) (hk : k0 < N) (hw : Cond.fieldLink own i (T k0).1 (T k0).2.1 (T k0).2.2.1 ∈ TT) (hv : fs[k0]? = some v) (hd : decode cc pc = .ok (.getfield i, 3)) (k : AJ l D tys wd A0 cc nL rt own d Q (pc + 3) lv (v :: st) u) : AJ l D tys wd A0 cc nL rt own d Q pc lv (.ref a :: st) u := by
  intro p e s m args below meth c X H locs ls hS hP hD hl
  exact va_get (D := D) X.1 X.2.1 X.2.2.2.2.2.2.1 hin X.2.2.2.2.2.1 X.2.2.2.2.2.2.2.2 hP q0 he hc k0 hk (X.2.2.2.2.2.2.1 _ hw) (fun _ h => h) hv hd (k p e s m args below meth c X H locs ls hS hP hD hl)
theorem J_put {C : String} {T : u_T} {N ci i a : Nat} {v : Value} {fs : List Value} {u2 : Mem} {ty : FieldType} (q0 k0 : Nat) (hin : ∀ w ∈ u_ws C T N, w ∈ TT) (ty0 : Nat → FieldType) (hty : ∀ k, k < N → parseFieldDescriptor (T k).2.2.1 = some (ty0 k)) (hnm : ∀ a, a < N → ∀ b, b < N → a ≠ b → (T a).2.1 ≠ (T b).2.1) (he : (wd u)[q0]? = some (a, .inr (ci, fs))) (hc : vwCl[ci]? = some (C, T, N)) (hk : k0 < N) (hw : Cond.fieldLink own i (T k0).1 (T k0).2.1 (T k0).2.2.1 ∈ TT) (hfin : (T k0).2.2.2 = false) (hdt : parseFieldDescriptor (T k0).2.2.1 = some ty) (hn : narrow ty v = v) (hfit : fits ty v = true) (hlen : k0 < fs.length) (hset : (wd u).set q0 (a, .inr (ci, fs.set k0 v)) = wd u2) (hd : decode cc pc = .ok (.putfield i, 3)) (k : AJ l D tys wd A0 cc nL rt own d Q (pc + 3) lv (st) u2) : AJ l D tys wd A0 cc nL rt own d Q pc lv (v :: .ref a :: st) u := by
  intro p e s m args below meth c X H locs ls hS hP hD hl
  exact va_put (D := D) X.1 X.2.1 X.2.2.2.2.2.2.1 hin ty0 hty hnm X.2.2.2.2.2.1 X.2.2.2.2.2.2.2.2 hP hD hS q0 he hc k0 hk (X.2.2.2.2.2.2.1 _ hw) (fun _ h => h) hfin hdt hn hfit hlen hd (fun H1 locs1 hP1 hD1 hS1 => k p e s m args below meth c X H1 locs1 ls hS1 (by rw [← hset]; exact hP1) (by rw [← hset]; exact hD1) hl)
theorem J_iald {cA : ClassId} {n a : Nat} {f : Nat → Int32} {i : Int32} (q0 t0 : Nat) (ha : (wd u)[q0]? = some (a, .inl (cA, n, .inl f))) (ht : tys[t0]? = some (cA, .int)) (hin : vp_in i n) (hd : decode cc pc = .ok (.iaload, 1)) (k : AJ l D tys wd A0 cc nL rt own d Q (pc + 1) lv (.int (f i.toNatClampNeg) :: st) u) : AJ l D tys wd A0 cc nL rt own d Q pc lv (.int i :: .ref a :: st) u := by
  intro p e s m args below meth c X H locs ls hS hP hD hl
  exact va_iald X.1 X.2.1 X.2.2.2.2.2.2.2.2 hP q0 t0 ha ht hin hd (k p e s m args below meth c X H locs ls hS hP hD hl)
theorem J_zald {cA : ClassId} {n a : Nat} {f : Nat → Int32} {i : Int32} (q0 t0 : Nat) (ha : (wd u)[q0]? = some (a, .inl (cA, n, .inl f))) (ht : tys[t0]? = some (cA, .boolean)) (hin : vp_in i n) (hd : decode cc pc = .ok (.baload, 1)) (k : AJ l D tys wd A0 cc nL rt own d Q (pc + 1) lv (.int (f i.toNatClampNeg) :: st) u) : AJ l D tys wd A0 cc nL rt own d Q pc lv (.int i :: .ref a :: st) u := by
  intro p e s m args below meth c X H locs ls hS hP hD hl
  exact va_zald X.1 X.2.1 X.2.2.2.2.2.2.2.2 hP q0 t0 ha ht hin hd (k p e s m args below meth c X H locs ls hS hP hD hl)
theorem J_iast {cA : ClassId} {n a : Nat} {f : Nat → Int32} {i x : Int32} {u2 : Mem} (q0 t0 : Nat) (ha : (wd u)[q0]? = some (a, .inl (cA, n, .inl f))) (ht : tys[t0]? = some (cA, .int)) (hin : vp_in i n) (hset : (wd u).set q0 (a, .inl (cA, n, .inl (upd f i.toNatClampNeg x))) = wd u2) (hd : decode cc pc = .ok (.iastore, 1)) (k : AJ l D tys wd A0 cc nL rt own d Q (pc + 1) lv (st) u2) : AJ l D tys wd A0 cc nL rt own d Q pc lv (.int x :: .int i :: .ref a :: st) u := by
  intro p e s m args below meth c X H locs ls hS hP hD hl
  exact va_iast X.1 X.2.1 X.2.2.2.2.2.2.2.2 hP hD hS q0 t0 ha ht hin hd (fun H1 locs1 hP1 hD1 hS1 => k p e s m args below meth c X H1 locs1 ls hS1 (by rw [← hset]; exact hP1) (by rw [← hset]; exact hD1) hl)
theorem J_zast {cA : ClassId} {n a : Nat} {f : Nat → Int32} {i x : Int32} {u2 : Mem} (q0 t0 : Nat) (ha : (wd u)[q0]? = some (a, .inl (cA, n, .inl f))) (ht : tys[t0]? = some (cA, .boolean)) (hin : vp_in i n) (hset : (wd u).set q0 (a, .inl (cA, n, .inl (upd f i.toNatClampNeg (vp_nar .boolean x)))) = wd u2) (hd : decode cc pc = .ok (.bastore, 1)) (k : AJ l D tys wd A0 cc nL rt own d Q (pc + 1) lv (st) u2) : AJ l D tys wd A0 cc nL rt own d Q pc lv (.int x :: .int i :: .ref a :: st) u := by
  intro p e s m args below meth c X H locs ls hS hP hD hl
  exact va_zast X.1 X.2.1 X.2.2.2.2.2.2.2.2 hP hD hS q0 t0 ha ht hin hd (fun H1 locs1 hP1 hD1 hS1 => k p e s m args below meth c X H1 locs1 ls hS1 (by rw [← hset]; exact hP1) (by rw [← hset]; exact hD1) hl)
theorem J_aald {cA : ClassId} {C : String} {n a b : Nat} {f : Nat → Option Nat} {i : Int32} (q0 t0 : Nat) (ha : (wd u)[q0]? = some (a, .inl (cA, n, .inr (.inr (.inr (.inr f)))))) (ht : tys[t0]? = some (cA, .object C)) (hin : vp_in i n) (hb : f i.toNatClampNeg = some b) (hd : decode cc pc = .ok (.aaload, 1)) (k : AJ l D tys wd A0 cc nL rt own d Q (pc + 1) lv (.ref b :: st) u) : AJ l D tys wd A0 cc nL rt own d Q pc lv (.int i :: .ref a :: st) u := by
  intro p e s m args below meth c X H locs ls hS hP hD hl
  refine va_aldq X.1 X.2.1 X.2.2.2.2.2.2.2.2 hP q0 t0 ha ht hin hd ?_
  rw [hb]
  exact k p e s m args below meth c X H locs ls hS hP hD hl
theorem J_alen {cA : ClassId} {a : Nat} {x : vp_A} {ty : FieldType} {v : Int32} (q0 t0 : Nat) (ha : (wd u)[q0]? = some (a, .inl (cA, x))) (ht : tys[t0]? = some (cA, ty)) (hv : Int32.ofNat x.1 = v) (hd : decode cc pc = .ok (.arraylength, 1)) (k : AJ l D tys wd A0 cc nL rt own d Q (pc + 1) lv (.int v :: st) u) : AJ l D tys wd A0 cc nL rt own d Q pc lv (.ref a :: st) u := by
  intro p e s m args below meth c X H locs ls hS hP hD hl
  exact va_alen X.1 X.2.1 X.2.2.2.2.2.2.2.2 hP q0 t0 ha ht hv hd (k p e s m args below meth c X H locs ls hS hP hD hl)
theorem J_copy {a0 a1 : Nat} {c0 : ClassId} {n0 n1 i : Nat} {f g : Nat → Int32} {sp dp n : Int32} {u2 : Mem} (q0 q1 t0 : Nat) (hw : Cond.methodLink own i arraycopyName ∈ TT) (hw2 : Cond.native arraycopyName ∈ TT) (hw3 : Cond.static arraycopyName ∈ TT) (hw4 : Cond.initialized "java/lang/System" ∈ TT) (ha0 : (wd u)[q0]? = some (a0, .inl (c0, n0, .inl f))) (ha1 : (wd u)[q1]? = some (a1, .inl (c0, n1, .inl g))) (ht0 : tys[t0]? = some (c0, .int)) (h1 : ¬ sp < 0) (h2 : ¬ dp < 0) (h3 : ¬ n < 0) (h4 : sp.toNatClampNeg + n.toNatClampNeg ≤ n0) (h5 : dp.toNatClampNeg + n.toNatClampNeg ≤ n1) (hdd : 1 ≤ d) (hroom : (st.map fun v => v.category).sum ≤ 8) (hset : (wd u).set q1 (a1, .inl (c0, n1, .inl (va_cpy f g sp.toNatClampNeg dp.toNatClampNeg n.toNatClampNeg))) = wd u2) (hd : decode cc pc = .ok (.invokestatic i, 3)) (k : AJ l D tys wd A0 cc nL rt own d Q (pc + 3) lv (st) u2) : AJ l D tys wd A0 cc nL rt own d Q pc lv (.int n :: .int dp :: .ref a1 :: .int sp :: .ref a0 :: st) u := by
  intro p e s m args below meth c X H locs ls hS hP hD hl
  have hz1 : 1 ≤ (RM d).frames := hdd
  have hz2 : (st.map fun v => v.category).sum + (nativeFrameWords "java/lang/System" "arraycopy" 5 + 11) ≤ (RM d).locals := by
    have h6 : nativeFrameWords "java/lang/System" "arraycopy" 5 + 11 ≤ 80 := by decide +kernel
    show _ ≤ 100 * d
    omega
  exact va_copyi X.1 X.2.1 (X.2.2.1.trans hl.1.symm) X.2.2.2.2.2.1 (X.2.2.2.2.2.2.1 _ hw) (X.2.2.2.2.2.2.1 _ hw2) (X.2.2.2.2.2.2.1 _ hw3) (X.2.2.2.2.2.2.1 _ hw4) X.2.2.2.2.2.2.2.2 hP hD hS q0 q1 t0 t0 ha0 ha1 ht0 ht0 rfl h1 h2 h3 h4 h5 (fun _ _ => rfl) hz1 hz2 hd (fun H1 locs1 hP1 hD1 hS1 => k p e s m args below meth c X H1 locs1 ls hS1 (by rw [← hset]; exact hP1) (by rw [← hset]; exact hD1) hl)
theorem J_ofrun {p : Program} {e : Env} {s : State} {m : MethodId} {args : Array Value} {below : List Frame} {meth : Method} {c : Code} {H : Heap} {locs : List Loc} {ls : Array Slot} {st0 : List Value} {a : Array Value} {K : Option Value → Mem → Prop} {QQ : State → Prop} (X : JX D tys cc nL rt own p s m args meth c) (hr : va_Run p l e (RM d) s m args below meth c H locs 0 0 0 0 (F0 m pc ls st0) st (jQ D tys wd A0 K a) A0) (hS : va_S A0 s.heap H locs)
    (kk : ∀ (v : Option Value) (u1 : Mem) (H1 : Heap) (locs1 : List Loc), K v u1 → va_S A0 s.heap H1 locs1 → va_P D vwCl (wd u1) H1 → va_D A0 (wd u1) → W p l e (RM d) s m args below meth c H1 locs1 0 0 QQ (F0 m (pc + 3) ls (v.toList ++ st))) : W p l e (RM d) s m args below meth c H locs 0 0 QQ (F0 m pc ls st0) := by
  intro T hT Y
  obtain ⟨v, st₀, t, T', L, h0, X', hL, e1, e2, ⟨⟨v', u1, hv, hq, hP1, hK1, hD1⟩, hz, hk⟩, sp⟩ := hr T hT Y
  cases hv
  rw [h0] at hz hk
  obtain ⟨t2, a1, b1⟩ := kk v u1 T'.heap (locs ++ L) hq
    ⟨Nat.le_trans hS.1 (by rw [e1]; exact hz), fun q h1 h2 => by rw [e1, hk q (Nat.lt_of_lt_of_le h1 hS.1) (fun z => h2 z)]; exact hS.2.1 q h1 h2, fun q hq => by
      rcases List.mem_append.mp hq with h | h
      · exact hS.2.2 q h
      · exact hL q h⟩ (by rw [e1]; exact hP1) hD1 T' rfl X'
  exact ⟨t2, sp t2 a1, b1⟩
def jD (y : MethodName) (n : Nat) : Prop := y.cls ≠ "java/lang/invoke/MethodHandle" ∧ y.cls ≠ "java/lang/invoke/VarHandle" ∧ (parseMethodDescriptor y.desc).map (fun d => d.parameters.length) = some n
theorem jP_blind {av : List Value} : FrameBlind (va_Pc av (jP D tys wd A0 u)) := by
  intro a U g mk q
  obtain ⟨q0, qP, qK, qD, qN⟩ := q
  exact ⟨q0, qP, va_K.moved (u := U) (U := U.calling g mk a) (Vm.Alike.refl U.vm) qK, qD, NW.same (s := U) (U := U.calling g mk a) rfl qN⟩
theorem tt_in {y : MethodName} {c2 : ByteArray} {n2 : Nat} {r2 : Option FieldType} (h : Cond.code y c2 n2 r2 ∈ TT) : GoodIn TT (Cond.code y c2 n2 r2 :: TT) := by
  intro w hw
  rcases List.mem_cons.mp hw with rfl | hw
  · exact ⟨h, tt_good h⟩
  · exact ⟨hw, tt_good hw⟩
/-- the words of a static call, of a virtual one, of an inherited one, of one to a nest mate -/
def kS (own : String) (i : Nat) (y : MethodName) (c2 : ByteArray) (n2 : Nat) (r2 : Option FieldType) (n : Nat) : Prop := Cond.code y c2 n2 r2 ∈ TT ∧ Cond.methodLink own i y ∈ TT ∧ Cond.static y ∈ TT ∧ Cond.initialized y.cls ∈ TT ∧ jD y n ∧ n2 ≤ 80
def kV (own : String) (i : Nat) (C : String) (y : MethodName) (c2 : ByteArray) (n2 : Nat) (r2 : Option FieldType) (n : Nat) : Prop := Cond.code y c2 n2 r2 ∈ TT ∧ Cond.methodLink own i y ∈ TT ∧ Cond.instanceMethod y ∈ TT ∧ Cond.selects C y y ∈ TT ∧ Cond.initialized y.cls ∈ TT ∧ jD y n ∧ n2 ≤ 80
def kU (own : String) (i : Nat) (C owner : String) (x y : MethodName) (c2 : ByteArray) (n2 : Nat) (r2 : Option FieldType) (n : Nat) : Prop := Cond.code y c2 n2 r2 ∈ TT ∧ Cond.methodLink own i x ∈ TT ∧ Cond.sameMethod x.cls owner x.name x.desc ∈ TT ∧ Cond.selects C x y ∈ TT ∧ Cond.instanceMethod y ∈ TT ∧ Cond.initialized y.cls ∈ TT ∧ n2 ≤ 80 ∧ owner ≠ "java/lang/invoke/MethodHandle" ∧ owner ≠ "java/lang/invoke/VarHandle" ∧ (parseMethodDescriptor x.desc).map (fun d => d.parameters.length) = some n
def kN (own : String) (i : Nat) (y : MethodName) (host : String) (c2 : ByteArray) (n2 : Nat) (r2 : Option FieldType) (n : Nat) : Prop := Cond.code y c2 n2 r2 ∈ TT ∧ Cond.methodLinkNest own i y host ∈ NWs ∧ Cond.static y ∈ TT ∧ Cond.initialized y.cls ∈ TT ∧ jD y n ∧ n2 ≤ 80
section CALLS
variable {y x : MethodName} {c2 : ByteArray} {n2 n i d2 : Nat} {r2 : Option FieldType} {As : List Value} {st0 : List Value} {K : Option Value → Mem → Prop} {C host owner : String}
theorem J_callS (w : kS own i y c2 n2 r2 n) (hM : JMet l D tys wd A0 y c2 n2 r2 d2 As u K) (hn : As.length = n) (hst : st0 = As.reverse ++ st) (hdd : d2 + 1 ≤ d) (hroom : (st.map fun v => v.category).sum ≤ 8) (hd : decode cc pc = .ok (.invokestatic i, 3))
    (k : ∀ v u1, K v u1 → AJ l D tys wd A0 cc nL rt own d Q (pc + 3) lv (v.toList ++ st) u1) : AJ l D tys wd A0 cc nL rt own d Q pc lv (st0) u := by
  intro p e s m args below meth c X H locs ls hS hP hD hl
  obtain ⟨w1, w2, w3, w4, w5, w6⟩ := w
  refine J_ofrun X (va_runS (As := As) (rest := st) ⟨X.1, X.2.1, X.2.2.1, X.2.2.2.2.2.1, X.2.2.2.2.2.2.1⟩ hM ⟨callB_of n X.2.2.2.2.2.2.1 (tt_in w1) rfl rfl rfl (X.2.2.2.2.2.2.1 _ w4) (X.2.2.2.2.2.2.1 _ w2) w5 ⟨by show d2 + 1 ≤ d; exact hdd, by show 8 + (n2 + 11) + 100 * d2 ≤ 100 * d; omega⟩, X.2.2.2.2.2.2.1 _ w3⟩ ⟨jP_blind, fun U hU hW => ⟨rfl, by rw [hU]; exact hP, va_K.moved hW.alike X.2.2.2.2.2.2.2.2, hD, NW.warm hW X.2.2.2.2.2.2.2.1⟩⟩ rfl hn hl.1 hst (lv_room hroom) hd ⟨Nat.le_refl _, Nat.le_refl _⟩) hS (fun v u1 H1 locs1 hK1 hS1 hP1 hD1 => k v u1 hK1 p e s m args below meth c X H1 locs1 ls hS1 hP1 hD1 hl)
theorem J_callN (w : kN own i y host c2 n2 r2 n) (hM : JMet l D tys wd A0 y c2 n2 r2 d2 As u K) (hn : As.length = n) (hst : st0 = As.reverse ++ st) (hdd : d2 + 1 ≤ d) (hroom : (st.map fun v => v.category).sum ≤ 8) (hd : decode cc pc = .ok (.invokestatic i, 3))
    (k : ∀ v u1, K v u1 → AJ l D tys wd A0 cc nL rt own d Q (pc + 3) lv (v.toList ++ st) u1) : AJ l D tys wd A0 cc nL rt own d Q pc lv (st0) u := by
  intro p e s m args below meth c X H locs ls hS hP hD hl
  obtain ⟨w1, w2, w3, w4, w5, w6⟩ := w
  refine J_ofrun X (va_runSN (As := As) (rest := st) ⟨X.1, X.2.1, X.2.2.1, X.2.2.2.2.2.1, X.2.2.2.2.2.2.1⟩ hM ⟨va_cnB n X.2.2.2.2.2.2.1 (tt_in w1) rfl rfl rfl (X.2.2.2.2.2.2.2.1 _ w2) (X.2.2.2.2.2.2.1 _ w4) w5 ⟨by show d2 + 1 ≤ d; exact hdd, by show 8 + (n2 + 11) + 100 * d2 ≤ 100 * d; omega⟩, X.2.2.2.2.2.2.1 _ w3, trivial⟩ ⟨jP_blind, fun U hU hW => ⟨rfl, by rw [hU]; exact hP, va_K.moved hW.alike X.2.2.2.2.2.2.2.2, hD, NW.warm hW X.2.2.2.2.2.2.2.1⟩⟩ rfl hn hl.1 hst (lv_room hroom) hd ⟨Nat.le_refl _, Nat.le_refl _⟩) hS (fun v u1 H1 locs1 hK1 hS1 hP1 hD1 => k v u1 hK1 p e s m args below meth c X H1 locs1 ls hS1 hP1 hD1 hl)
theorem J_callV {a ci : Nat} {q : vw_C} {fs : List Value} (w : kV own i C y c2 n2 r2 n) (q0 : Nat) (he : (wd u)[q0]? = some (a, .inr (ci, fs))) (hc : vwCl[ci]? = some q) (hC : q.1 = C) (hM : JMet l D tys wd A0 y c2 n2 r2 d2 (.ref a :: As) u K) (hn : As.length = n) (hst : st0 = As.reverse ++ .ref a :: st) (hdd : d2 + 1 ≤ d) (hroom : (st.map fun v => v.category).sum ≤ 8) (hd : decode cc pc = .ok (.invokevirtual i, 3))
    (k : ∀ v u1, K v u1 → AJ l D tys wd A0 cc nL rt own d Q (pc + 3) lv (v.toList ++ st) u1) : AJ l D tys wd A0 cc nL rt own d Q pc lv (st0) u := by
  intro p e s m args below meth c X H locs ls hS hP hD hl
  obtain ⟨w1, w2, w3, w4, w5, w6, w7⟩ := w
  refine J_ofrun X (va_runV (As := As) (rest := st) ⟨X.1, X.2.1, X.2.2.1, X.2.2.2.2.2.1, X.2.2.2.2.2.2.1⟩ hM ⟨callB_of n X.2.2.2.2.2.2.1 (tt_in w1) rfl rfl rfl (X.2.2.2.2.2.2.1 _ w5) (X.2.2.2.2.2.2.1 _ w2) w6 ⟨by show d2 + 1 ≤ d; exact hdd, by show 8 + (n2 + 11) + 100 * d2 ≤ 100 * d; omega⟩, X.2.2.2.2.2.2.1 _ w3, X.2.2.2.2.2.2.1 _ w4⟩ ⟨jP_blind, by rw [← hC]; exact va_recv X.2.2.2.2.2.2.2.2 hP hc he, fun U hU hW => ⟨rfl, by rw [hU]; exact hP, va_K.moved hW.alike X.2.2.2.2.2.2.2.2, hD, NW.warm hW X.2.2.2.2.2.2.2.1⟩⟩ rfl hn hl.1 hst (lv_room hroom) hd ⟨Nat.le_refl _, Nat.le_refl _⟩) hS (fun v u1 H1 locs1 hK1 hS1 hP1 hD1 => k v u1 hK1 p e s m args below meth c X H1 locs1 ls hS1 hP1 hD1 hl)
theorem tt_wsU (w : kU own i C owner x y c2 n2 r2 n) : GoodIn TT (va_wsU own i C owner x y (Cond.code y c2 n2 r2 :: TT)) := by
  obtain ⟨w1, w2, w3, w4, w5, w6, -⟩ := w
  intro v hv
  unfold va_wsU at hv
  rcases List.mem_append.mp hv with hv | hv
  · simp only [List.mem_cons, List.not_mem_nil, or_false] at hv
    rcases hv with rfl | rfl | rfl | rfl | rfl
    · exact ⟨w2, tt_good w2⟩
    · exact ⟨w3, tt_good w3⟩
    · exact ⟨w4, tt_good w4⟩
    · exact ⟨w5, tt_good w5⟩
    · exact ⟨w6, tt_good w6⟩
  · exact tt_in w1 v hv
theorem J_callU {a ci : Nat} {q : vw_C} {fs : List Value} (w : kU own i C owner x y c2 n2 r2 n) (hyx : y = ⟨owner, x.name, x.desc⟩) (q0 : Nat) (he : (wd u)[q0]? = some (a, .inr (ci, fs))) (hc : vwCl[ci]? = some q) (hC : q.1 = C) (hM : JMet l D tys wd A0 y c2 n2 r2 d2 (.ref a :: As) u K) (hn : As.length = n) (hst : st0 = As.reverse ++ .ref a :: st) (hdd : d2 + 1 ≤ d) (hroom : (st.map fun v => v.category).sum ≤ 8) (hd : decode cc pc = .ok (.invokevirtual i, 3))
    (k : ∀ v u1, K v u1 → AJ l D tys wd A0 cc nL rt own d Q (pc + 3) lv (v.toList ++ st) u1) : AJ l D tys wd A0 cc nL rt own d Q pc lv (st0) u := by
  intro p e s m args below meth c X H locs ls hS hP hD hl
  have w' := w
  obtain ⟨w1, w2, w3, w4, w5, w6, w7, w8⟩ := w'
  refine J_ofrun X (va_runU (As := As) (rest := st) ⟨X.1, X.2.1, X.2.2.1, X.2.2.2.2.2.1, X.2.2.2.2.2.2.1⟩ hM (va_cwU n X.2.2.2.2.2.2.1 (tt_wsU w) rfl rfl rfl hyx w8 ⟨by show d2 + 1 ≤ d; exact hdd, by show 8 + (n2 + 11) + 100 * d2 ≤ 100 * d; omega⟩) ⟨jP_blind, by rw [← hC]; exact va_recv X.2.2.2.2.2.2.2.2 hP hc he, fun U hU hW => ⟨rfl, by rw [hU]; exact hP, va_K.moved hW.alike X.2.2.2.2.2.2.2.2, hD, NW.warm hW X.2.2.2.2.2.2.2.1⟩⟩ rfl hn hl.1 hst (lv_room hroom) hd ⟨Nat.le_refl _, Nat.le_refl _⟩) hS (fun v u1 H1 locs1 hK1 hS1 hP1 hD1 => k v u1 hK1 p e s m args below meth c X H1 locs1 ls hS1 hP1 hD1 hl)
theorem J_callA {a ci : Nat} {q : vw_C} {fs : List Value} (w : kU own i C owner x y c2 n2 r2 n) (hyx : Cond.declares ⟨owner, x.name, x.desc⟩ ∈ NWs) (q0 : Nat) (he : (wd u)[q0]? = some (a, .inr (ci, fs))) (hc : vwCl[ci]? = some q) (hC : q.1 = C) (hM : JMet l D tys wd A0 y c2 n2 r2 d2 (.ref a :: As) u K) (hn : As.length = n) (hst : st0 = As.reverse ++ .ref a :: st) (hdd : d2 + 1 ≤ d) (hroom : (st.map fun v => v.category).sum ≤ 8) (hd : decode cc pc = .ok (.invokevirtual i, 3))
    (k : ∀ v u1, K v u1 → AJ l D tys wd A0 cc nL rt own d Q (pc + 3) lv (v.toList ++ st) u1) : AJ l D tys wd A0 cc nL rt own d Q pc lv (st0) u := by
  intro p e s m args below meth c X H locs ls hS hP hD hl
  have w' := w
  obtain ⟨w1, w2, w3, w4, w5, w6, w7, w8⟩ := w'
  refine J_ofrun X (va_runU (As := As) (rest := st) ⟨X.1, X.2.1, X.2.2.1, X.2.2.2.2.2.1, X.2.2.2.2.2.2.1⟩ hM (va_cwA n X.2.2.2.2.2.2.1 (tt_wsU w) rfl rfl rfl (X.2.2.2.2.2.2.2.1 _ hyx) w8 ⟨by show d2 + 1 ≤ d; exact hdd, by show 8 + (n2 + 11) + 100 * d2 ≤ 100 * d; omega⟩) ⟨jP_blind, by rw [← hC]; exact va_recv X.2.2.2.2.2.2.2.2 hP hc he, fun U hU hW => ⟨rfl, by rw [hU]; exact hP, va_K.moved hW.alike X.2.2.2.2.2.2.2.2, hD, NW.warm hW X.2.2.2.2.2.2.2.1⟩⟩ rfl hn hl.1 hst (lv_room hroom) hd ⟨Nat.le_refl _, Nat.le_refl _⟩) hS (fun v u1 H1 locs1 hK1 hS1 hP1 hD1 => k v u1 hK1 p e s m args below meth c X H1 locs1 ls hS1 hP1 hD1 hl)
end CALLS
end JROWS
end
