-- ===== PART A: goes FIRST, ahead of the names: the tables' words, and 'selects' of the private methods out of them =====
/-- a private method of a class that the tables say can be made, by its rows of tables_1 -/
def lw_okq (q : MethodName × Nat) : Prop := (q.1.cls ≠ "java/lang/invoke/MethodHandle" ∧ q.1.cls ≠ "java/lang/invoke/VarHandle") ∧ Cond.instantiable q.1.cls q.2 ∈ tables_1 ∧ Cond.privateMethod q.1 ∈ tables_1 ∧ Cond.instanceMethod q.1 ∈ tables_1
theorem lw_p0 : lw_okq (⟨"TurnFeast", "textOf", "(I)LTurnFeast$Text;"⟩, 12) := ⟨⟨by decide +kernel, by decide +kernel⟩, List.mem_of_getElem? (i := 16) (by decide +kernel), List.mem_of_getElem? (i := 309) (by decide +kernel), List.mem_of_getElem? (i := 310) (by decide +kernel)⟩
theorem lw_p1 : lw_okq (⟨"TurnFeast", "refresh", "()V"⟩, 12) := ⟨⟨by decide +kernel, by decide +kernel⟩, List.mem_of_getElem? (i := 16) (by decide +kernel), List.mem_of_getElem? (i := 313) (by decide +kernel), List.mem_of_getElem? (i := 314) (by decide +kernel)⟩
theorem lw_p2 : lw_okq (⟨"TurnFeast", "isHouse", "(I)Z"⟩, 12) := ⟨⟨by decide +kernel, by decide +kernel⟩, List.mem_of_getElem? (i := 16) (by decide +kernel), List.mem_of_getElem? (i := 404) (by decide +kernel), List.mem_of_getElem? (i := 405) (by decide +kernel)⟩
theorem lw_p3 : lw_okq (⟨"TurnFeast", "isGuest", "(I)Z"⟩, 12) := ⟨⟨by decide +kernel, by decide +kernel⟩, List.mem_of_getElem? (i := 16) (by decide +kernel), List.mem_of_getElem? (i := 412) (by decide +kernel), List.mem_of_getElem? (i := 413) (by decide +kernel)⟩
theorem lw_p4 : lw_okq (⟨"TurnFeast", "planPlace", "(I)V"⟩, 12) := ⟨⟨by decide +kernel, by decide +kernel⟩, List.mem_of_getElem? (i := 16) (by decide +kernel), List.mem_of_getElem? (i := 456) (by decide +kernel), List.mem_of_getElem? (i := 457) (by decide +kernel)⟩
theorem lw_p5 : lw_okq (⟨"TurnFeast", "weighTrial", "(II)V"⟩, 12) := ⟨⟨by decide +kernel, by decide +kernel⟩, List.mem_of_getElem? (i := 16) (by decide +kernel), List.mem_of_getElem? (i := 476) (by decide +kernel), List.mem_of_getElem? (i := 477) (by decide +kernel)⟩
theorem lw_p6 : lw_okq (⟨"TurnFeast", "planKind", "(I)V"⟩, 12) := ⟨⟨by decide +kernel, by decide +kernel⟩, List.mem_of_getElem? (i := 16) (by decide +kernel), List.mem_of_getElem? (i := 489) (by decide +kernel), List.mem_of_getElem? (i := 490) (by decide +kernel)⟩
theorem lw_p7 : lw_okq (⟨"TurnFeast", "fewestEmpty", "(II)I"⟩, 12) := ⟨⟨by decide +kernel, by decide +kernel⟩, List.mem_of_getElem? (i := 16) (by decide +kernel), List.mem_of_getElem? (i := 497) (by decide +kernel), List.mem_of_getElem? (i := 498) (by decide +kernel)⟩
theorem lw_p8 : lw_okq (⟨"TurnFeast", "found", "(I)I"⟩, 12) := ⟨⟨by decide +kernel, by decide +kernel⟩, List.mem_of_getElem? (i := 16) (by decide +kernel), List.mem_of_getElem? (i := 541) (by decide +kernel), List.mem_of_getElem? (i := 542) (by decide +kernel)⟩
theorem lw_p9 : lw_okq (⟨"TurnFeast", "twiceFits", "(I)Z"⟩, 12) := ⟨⟨by decide +kernel, by decide +kernel⟩, List.mem_of_getElem? (i := 16) (by decide +kernel), List.mem_of_getElem? (i := 553) (by decide +kernel), List.mem_of_getElem? (i := 554) (by decide +kernel)⟩
theorem lw_p10 : lw_okq (⟨"TurnFeast", "walkFits", "(I)Z"⟩, 12) := ⟨⟨by decide +kernel, by decide +kernel⟩, List.mem_of_getElem? (i := 16) (by decide +kernel), List.mem_of_getElem? (i := 562) (by decide +kernel), List.mem_of_getElem? (i := 563) (by decide +kernel)⟩
theorem lw_p11 : lw_okq (⟨"TurnFeast", "mostAlike", "(II)I"⟩, 12) := ⟨⟨by decide +kernel, by decide +kernel⟩, List.mem_of_getElem? (i := 16) (by decide +kernel), List.mem_of_getElem? (i := 571) (by decide +kernel), List.mem_of_getElem? (i := 572) (by decide +kernel)⟩
theorem lw_p12 : lw_okq (⟨"TurnFeast", "alikeTo", "(III)I"⟩, 12) := ⟨⟨by decide +kernel, by decide +kernel⟩, List.mem_of_getElem? (i := 16) (by decide +kernel), List.mem_of_getElem? (i := 575) (by decide +kernel), List.mem_of_getElem? (i := 576) (by decide +kernel)⟩
theorem lw_p13 : lw_okq (⟨"TurnFeast", "itemFinding", "(III)I"⟩, 12) := ⟨⟨by decide +kernel, by decide +kernel⟩, List.mem_of_getElem? (i := 16) (by decide +kernel), List.mem_of_getElem? (i := 626) (by decide +kernel), List.mem_of_getElem? (i := 627) (by decide +kernel)⟩
theorem lw_p14 : lw_okq (⟨"TurnFeast", "givenInAll", "()I"⟩, 12) := ⟨⟨by decide +kernel, by decide +kernel⟩, List.mem_of_getElem? (i := 16) (by decide +kernel), List.mem_of_getElem? (i := 663) (by decide +kernel), List.mem_of_getElem? (i := 664) (by decide +kernel)⟩
theorem lw_p15 : lw_okq (⟨"TurnFeast", "sleepersInAll", "()I"⟩, 12) := ⟨⟨by decide +kernel, by decide +kernel⟩, List.mem_of_getElem? (i := 16) (by decide +kernel), List.mem_of_getElem? (i := 667) (by decide +kernel), List.mem_of_getElem? (i := 668) (by decide +kernel)⟩
def lw_privs_1 : List (MethodName × Nat) := [(⟨"TurnFeast", "textOf", "(I)LTurnFeast$Text;"⟩, 12), (⟨"TurnFeast", "refresh", "()V"⟩, 12), (⟨"TurnFeast", "isHouse", "(I)Z"⟩, 12), (⟨"TurnFeast", "isGuest", "(I)Z"⟩, 12), (⟨"TurnFeast", "planPlace", "(I)V"⟩, 12), (⟨"TurnFeast", "weighTrial", "(II)V"⟩, 12), (⟨"TurnFeast", "planKind", "(I)V"⟩, 12), (⟨"TurnFeast", "fewestEmpty", "(II)I"⟩, 12), (⟨"TurnFeast", "found", "(I)I"⟩, 12), (⟨"TurnFeast", "twiceFits", "(I)Z"⟩, 12), (⟨"TurnFeast", "walkFits", "(I)Z"⟩, 12), (⟨"TurnFeast", "mostAlike", "(II)I"⟩, 12), (⟨"TurnFeast", "alikeTo", "(III)I"⟩, 12), (⟨"TurnFeast", "itemFinding", "(III)I"⟩, 12), (⟨"TurnFeast", "givenInAll", "()I"⟩, 12), (⟨"TurnFeast", "sleepersInAll", "()I"⟩, 12)]
theorem lw_r1 : ∀ q ∈ lw_privs_1, lw_okq q := List.forall_mem_cons.mpr ⟨lw_p0, List.forall_mem_cons.mpr ⟨lw_p1, List.forall_mem_cons.mpr ⟨lw_p2, List.forall_mem_cons.mpr ⟨lw_p3, List.forall_mem_cons.mpr ⟨lw_p4, List.forall_mem_cons.mpr ⟨lw_p5, List.forall_mem_cons.mpr ⟨lw_p6, List.forall_mem_cons.mpr ⟨lw_p7, List.forall_mem_cons.mpr ⟨lw_p8, List.forall_mem_cons.mpr ⟨lw_p9, List.forall_mem_cons.mpr ⟨lw_p10, List.forall_mem_cons.mpr ⟨lw_p11, List.forall_mem_cons.mpr ⟨lw_p12, List.forall_mem_cons.mpr ⟨lw_p13, List.forall_mem_cons.mpr ⟨lw_p14, List.forall_mem_cons.mpr ⟨lw_p15, fun _ h => absurd h List.not_mem_nil⟩⟩⟩⟩⟩⟩⟩⟩⟩⟩⟩⟩⟩⟩⟩⟩
theorem lw_p16 : lw_okq (⟨"TurnFeast", "mixHouse", "(JI)J"⟩, 12) := ⟨⟨by decide +kernel, by decide +kernel⟩, List.mem_of_getElem? (i := 16) (by decide +kernel), List.mem_of_getElem? (i := 679) (by decide +kernel), List.mem_of_getElem? (i := 680) (by decide +kernel)⟩
theorem lw_p17 : lw_okq (⟨"TurnFeast", "mixPlans", "(JI)J"⟩, 12) := ⟨⟨by decide +kernel, by decide +kernel⟩, List.mem_of_getElem? (i := 16) (by decide +kernel), List.mem_of_getElem? (i := 687) (by decide +kernel), List.mem_of_getElem? (i := 688) (by decide +kernel)⟩
theorem lw_p18 : lw_okq (⟨"TurnFeast", "mixRoads", "(JI)J"⟩, 12) := ⟨⟨by decide +kernel, by decide +kernel⟩, List.mem_of_getElem? (i := 16) (by decide +kernel), List.mem_of_getElem? (i := 693) (by decide +kernel), List.mem_of_getElem? (i := 694) (by decide +kernel)⟩
theorem lw_p19 : lw_okq (⟨"TurnFeast", "mixGuest", "(JI)J"⟩, 12) := ⟨⟨by decide +kernel, by decide +kernel⟩, List.mem_of_getElem? (i := 16) (by decide +kernel), List.mem_of_getElem? (i := 699) (by decide +kernel), List.mem_of_getElem? (i := 700) (by decide +kernel)⟩
theorem lw_p20 : lw_okq (⟨"TurnFeastModel", "finds", "(I)I"⟩, 24) := ⟨⟨by decide +kernel, by decide +kernel⟩, List.mem_of_getElem? (i := 710) (by decide +kernel), List.mem_of_getElem? (i := 801) (by decide +kernel), List.mem_of_getElem? (i := 802) (by decide +kernel)⟩
theorem lw_p21 : lw_okq (⟨"TurnFeastModel", "lacks", "(III)I"⟩, 24) := ⟨⟨by decide +kernel, by decide +kernel⟩, List.mem_of_getElem? (i := 710) (by decide +kernel), List.mem_of_getElem? (i := 813) (by decide +kernel), List.mem_of_getElem? (i := 814) (by decide +kernel)⟩
theorem lw_p22 : lw_okq (⟨"TurnFeastModel", "readsHouses", "()I"⟩, 24) := ⟨⟨by decide +kernel, by decide +kernel⟩, List.mem_of_getElem? (i := 710) (by decide +kernel), List.mem_of_getElem? (i := 849) (by decide +kernel), List.mem_of_getElem? (i := 850) (by decide +kernel)⟩
theorem lw_p23 : lw_okq (⟨"TurnFeastModel", "readsGuests", "()I"⟩, 24) := ⟨⟨by decide +kernel, by decide +kernel⟩, List.mem_of_getElem? (i := 710) (by decide +kernel), List.mem_of_getElem? (i := 859) (by decide +kernel), List.mem_of_getElem? (i := 860) (by decide +kernel)⟩
theorem lw_p24 : lw_okq (⟨"TurnFeastModel", "tellsGuest", "(III)V"⟩, 24) := ⟨⟨by decide +kernel, by decide +kernel⟩, List.mem_of_getElem? (i := 710) (by decide +kernel), List.mem_of_getElem? (i := 866) (by decide +kernel), List.mem_of_getElem? (i := 867) (by decide +kernel)⟩
theorem lw_p25 : lw_okq (⟨"TurnFeastModel", "isHouse", "(I)Z"⟩, 24) := ⟨⟨by decide +kernel, by decide +kernel⟩, List.mem_of_getElem? (i := 710) (by decide +kernel), List.mem_of_getElem? (i := 874) (by decide +kernel), List.mem_of_getElem? (i := 875) (by decide +kernel)⟩
theorem lw_p26 : lw_okq (⟨"TurnFeastModel", "isGuest", "(I)Z"⟩, 24) := ⟨⟨by decide +kernel, by decide +kernel⟩, List.mem_of_getElem? (i := 710) (by decide +kernel), List.mem_of_getElem? (i := 882) (by decide +kernel), List.mem_of_getElem? (i := 883) (by decide +kernel)⟩
theorem lw_p27 : lw_okq (⟨"TurnFeastModel", "reads", "()V"⟩, 24) := ⟨⟨by decide +kernel, by decide +kernel⟩, List.mem_of_getElem? (i := 710) (by decide +kernel), List.mem_of_getElem? (i := 894) (by decide +kernel), List.mem_of_getElem? (i := 895) (by decide +kernel)⟩
theorem lw_p28 : lw_okq (⟨"TurnFeastModel", "findRow", "()V"⟩, 24) := ⟨⟨by decide +kernel, by decide +kernel⟩, List.mem_of_getElem? (i := 710) (by decide +kernel), List.mem_of_getElem? (i := 898) (by decide +kernel), List.mem_of_getElem? (i := 899) (by decide +kernel)⟩
theorem lw_p29 : lw_okq (⟨"TurnFeastModel", "find", "()V"⟩, 24) := ⟨⟨by decide +kernel, by decide +kernel⟩, List.mem_of_getElem? (i := 710) (by decide +kernel), List.mem_of_getElem? (i := 907) (by decide +kernel), List.mem_of_getElem? (i := 908) (by decide +kernel)⟩
theorem lw_p30 : lw_okq (⟨"TurnFeastModel", "feedsAll", "()V"⟩, 24) := ⟨⟨by decide +kernel, by decide +kernel⟩, List.mem_of_getElem? (i := 710) (by decide +kernel), List.mem_of_getElem? (i := 911) (by decide +kernel), List.mem_of_getElem? (i := 912) (by decide +kernel)⟩
theorem lw_p31 : lw_okq (⟨"TurnFeastModel", "feeds", "(I)V"⟩, 24) := ⟨⟨by decide +kernel, by decide +kernel⟩, List.mem_of_getElem? (i := 710) (by decide +kernel), List.mem_of_getElem? (i := 915) (by decide +kernel), List.mem_of_getElem? (i := 916) (by decide +kernel)⟩
def lw_privs_2 : List (MethodName × Nat) := [(⟨"TurnFeast", "mixHouse", "(JI)J"⟩, 12), (⟨"TurnFeast", "mixPlans", "(JI)J"⟩, 12), (⟨"TurnFeast", "mixRoads", "(JI)J"⟩, 12), (⟨"TurnFeast", "mixGuest", "(JI)J"⟩, 12), (⟨"TurnFeastModel", "finds", "(I)I"⟩, 24), (⟨"TurnFeastModel", "lacks", "(III)I"⟩, 24), (⟨"TurnFeastModel", "readsHouses", "()I"⟩, 24), (⟨"TurnFeastModel", "readsGuests", "()I"⟩, 24), (⟨"TurnFeastModel", "tellsGuest", "(III)V"⟩, 24), (⟨"TurnFeastModel", "isHouse", "(I)Z"⟩, 24), (⟨"TurnFeastModel", "isGuest", "(I)Z"⟩, 24), (⟨"TurnFeastModel", "reads", "()V"⟩, 24), (⟨"TurnFeastModel", "findRow", "()V"⟩, 24), (⟨"TurnFeastModel", "find", "()V"⟩, 24), (⟨"TurnFeastModel", "feedsAll", "()V"⟩, 24), (⟨"TurnFeastModel", "feeds", "(I)V"⟩, 24)]
theorem lw_r2 : ∀ q ∈ lw_privs_2, lw_okq q := List.forall_mem_cons.mpr ⟨lw_p16, List.forall_mem_cons.mpr ⟨lw_p17, List.forall_mem_cons.mpr ⟨lw_p18, List.forall_mem_cons.mpr ⟨lw_p19, List.forall_mem_cons.mpr ⟨lw_p20, List.forall_mem_cons.mpr ⟨lw_p21, List.forall_mem_cons.mpr ⟨lw_p22, List.forall_mem_cons.mpr ⟨lw_p23, List.forall_mem_cons.mpr ⟨lw_p24, List.forall_mem_cons.mpr ⟨lw_p25, List.forall_mem_cons.mpr ⟨lw_p26, List.forall_mem_cons.mpr ⟨lw_p27, List.forall_mem_cons.mpr ⟨lw_p28, List.forall_mem_cons.mpr ⟨lw_p29, List.forall_mem_cons.mpr ⟨lw_p30, List.forall_mem_cons.mpr ⟨lw_p31, fun _ h => absurd h List.not_mem_nil⟩⟩⟩⟩⟩⟩⟩⟩⟩⟩⟩⟩⟩⟩⟩⟩
theorem lw_p32 : lw_okq (⟨"TurnFeastModel", "fedBy", "(II)I"⟩, 24) := ⟨⟨by decide +kernel, by decide +kernel⟩, List.mem_of_getElem? (i := 710) (by decide +kernel), List.mem_of_getElem? (i := 932) (by decide +kernel), List.mem_of_getElem? (i := 933) (by decide +kernel)⟩
theorem lw_p33 : lw_okq (⟨"TurnFeastModel", "allBy", "(II)I"⟩, 24) := ⟨⟨by decide +kernel, by decide +kernel⟩, List.mem_of_getElem? (i := 710) (by decide +kernel), List.mem_of_getElem? (i := 943) (by decide +kernel), List.mem_of_getElem? (i := 944) (by decide +kernel)⟩
theorem lw_p34 : lw_okq (⟨"TurnFeastModel", "priceOf", "(I)I"⟩, 24) := ⟨⟨by decide +kernel, by decide +kernel⟩, List.mem_of_getElem? (i := 710) (by decide +kernel), List.mem_of_getElem? (i := 951) (by decide +kernel), List.mem_of_getElem? (i := 952) (by decide +kernel)⟩
theorem lw_p35 : lw_okq (⟨"TurnFeastModel", "poorNow", "()I"⟩, 24) := ⟨⟨by decide +kernel, by decide +kernel⟩, List.mem_of_getElem? (i := 710) (by decide +kernel), List.mem_of_getElem? (i := 959) (by decide +kernel), List.mem_of_getElem? (i := 960) (by decide +kernel)⟩
theorem lw_p36 : lw_okq (⟨"TurnFeastModel", "passedNow", "()I"⟩, 24) := ⟨⟨by decide +kernel, by decide +kernel⟩, List.mem_of_getElem? (i := 710) (by decide +kernel), List.mem_of_getElem? (i := 967) (by decide +kernel), List.mem_of_getElem? (i := 968) (by decide +kernel)⟩
theorem lw_p37 : lw_okq (⟨"TurnFeastModel", "liveOf", "(II)I"⟩, 24) := ⟨⟨by decide +kernel, by decide +kernel⟩, List.mem_of_getElem? (i := 710) (by decide +kernel), List.mem_of_getElem? (i := 975) (by decide +kernel), List.mem_of_getElem? (i := 976) (by decide +kernel)⟩
theorem lw_p38 : lw_okq (⟨"TurnFeastModel", "livesAt", "(II)V"⟩, 24) := ⟨⟨by decide +kernel, by decide +kernel⟩, List.mem_of_getElem? (i := 710) (by decide +kernel), List.mem_of_getElem? (i := 979) (by decide +kernel), List.mem_of_getElem? (i := 980) (by decide +kernel)⟩
theorem lw_p39 : lw_okq (⟨"TurnFeastModel", "weighs", "(II)V"⟩, 24) := ⟨⟨by decide +kernel, by decide +kernel⟩, List.mem_of_getElem? (i := 710) (by decide +kernel), List.mem_of_getElem? (i := 983) (by decide +kernel), List.mem_of_getElem? (i := 984) (by decide +kernel)⟩
theorem lw_p40 : lw_okq (⟨"TurnFeastModel", "cookOf", "(II)I"⟩, 24) := ⟨⟨by decide +kernel, by decide +kernel⟩, List.mem_of_getElem? (i := 710) (by decide +kernel), List.mem_of_getElem? (i := 991) (by decide +kernel), List.mem_of_getElem? (i := 992) (by decide +kernel)⟩
theorem lw_p41 : lw_okq (⟨"TurnFeastModel", "fastOf", "(III)I"⟩, 24) := ⟨⟨by decide +kernel, by decide +kernel⟩, List.mem_of_getElem? (i := 710) (by decide +kernel), List.mem_of_getElem? (i := 999) (by decide +kernel), List.mem_of_getElem? (i := 1000) (by decide +kernel)⟩
theorem lw_p42 : lw_okq (⟨"TurnFeastModel", "soupOf", "(II)I"⟩, 24) := ⟨⟨by decide +kernel, by decide +kernel⟩, List.mem_of_getElem? (i := 710) (by decide +kernel), List.mem_of_getElem? (i := 1007) (by decide +kernel), List.mem_of_getElem? (i := 1008) (by decide +kernel)⟩
theorem lw_p43 : lw_okq (⟨"TurnFeastModel", "twiceNow", "()I"⟩, 24) := ⟨⟨by decide +kernel, by decide +kernel⟩, List.mem_of_getElem? (i := 710) (by decide +kernel), List.mem_of_getElem? (i := 1029) (by decide +kernel), List.mem_of_getElem? (i := 1030) (by decide +kernel)⟩
theorem lw_p44 : lw_okq (⟨"TurnFeastModel", "isSeen", "(I)Z"⟩, 24) := ⟨⟨by decide +kernel, by decide +kernel⟩, List.mem_of_getElem? (i := 710) (by decide +kernel), List.mem_of_getElem? (i := 1033) (by decide +kernel), List.mem_of_getElem? (i := 1034) (by decide +kernel)⟩
theorem lw_p45 : lw_okq (⟨"TurnFeastModel", "givesBy", "(II)I"⟩, 24) := ⟨⟨by decide +kernel, by decide +kernel⟩, List.mem_of_getElem? (i := 710) (by decide +kernel), List.mem_of_getElem? (i := 1037) (by decide +kernel), List.mem_of_getElem? (i := 1038) (by decide +kernel)⟩
theorem lw_p46 : lw_okq (⟨"TurnFeastModel", "beganOf", "(I)I"⟩, 24) := ⟨⟨by decide +kernel, by decide +kernel⟩, List.mem_of_getElem? (i := 710) (by decide +kernel), List.mem_of_getElem? (i := 1045) (by decide +kernel), List.mem_of_getElem? (i := 1046) (by decide +kernel)⟩
theorem lw_p47 : lw_okq (⟨"TurnFeastModel", "askNow", "()I"⟩, 24) := ⟨⟨by decide +kernel, by decide +kernel⟩, List.mem_of_getElem? (i := 710) (by decide +kernel), List.mem_of_getElem? (i := 1053) (by decide +kernel), List.mem_of_getElem? (i := 1054) (by decide +kernel)⟩
def lw_privs_3 : List (MethodName × Nat) := [(⟨"TurnFeastModel", "fedBy", "(II)I"⟩, 24), (⟨"TurnFeastModel", "allBy", "(II)I"⟩, 24), (⟨"TurnFeastModel", "priceOf", "(I)I"⟩, 24), (⟨"TurnFeastModel", "poorNow", "()I"⟩, 24), (⟨"TurnFeastModel", "passedNow", "()I"⟩, 24), (⟨"TurnFeastModel", "liveOf", "(II)I"⟩, 24), (⟨"TurnFeastModel", "livesAt", "(II)V"⟩, 24), (⟨"TurnFeastModel", "weighs", "(II)V"⟩, 24), (⟨"TurnFeastModel", "cookOf", "(II)I"⟩, 24), (⟨"TurnFeastModel", "fastOf", "(III)I"⟩, 24), (⟨"TurnFeastModel", "soupOf", "(II)I"⟩, 24), (⟨"TurnFeastModel", "twiceNow", "()I"⟩, 24), (⟨"TurnFeastModel", "isSeen", "(I)Z"⟩, 24), (⟨"TurnFeastModel", "givesBy", "(II)I"⟩, 24), (⟨"TurnFeastModel", "beganOf", "(I)I"⟩, 24), (⟨"TurnFeastModel", "askNow", "()I"⟩, 24)]
theorem lw_r3 : ∀ q ∈ lw_privs_3, lw_okq q := List.forall_mem_cons.mpr ⟨lw_p32, List.forall_mem_cons.mpr ⟨lw_p33, List.forall_mem_cons.mpr ⟨lw_p34, List.forall_mem_cons.mpr ⟨lw_p35, List.forall_mem_cons.mpr ⟨lw_p36, List.forall_mem_cons.mpr ⟨lw_p37, List.forall_mem_cons.mpr ⟨lw_p38, List.forall_mem_cons.mpr ⟨lw_p39, List.forall_mem_cons.mpr ⟨lw_p40, List.forall_mem_cons.mpr ⟨lw_p41, List.forall_mem_cons.mpr ⟨lw_p42, List.forall_mem_cons.mpr ⟨lw_p43, List.forall_mem_cons.mpr ⟨lw_p44, List.forall_mem_cons.mpr ⟨lw_p45, List.forall_mem_cons.mpr ⟨lw_p46, List.forall_mem_cons.mpr ⟨lw_p47, fun _ h => absurd h List.not_mem_nil⟩⟩⟩⟩⟩⟩⟩⟩⟩⟩⟩⟩⟩⟩⟩⟩
theorem lw_p48 : lw_okq (⟨"TurnFeastModel", "mostAlike", "(II)I"⟩, 24) := ⟨⟨by decide +kernel, by decide +kernel⟩, List.mem_of_getElem? (i := 710) (by decide +kernel), List.mem_of_getElem? (i := 1057) (by decide +kernel), List.mem_of_getElem? (i := 1058) (by decide +kernel)⟩
theorem lw_p49 : lw_okq (⟨"TurnFeastModel", "roadOf", "(IIII)J"⟩, 24) := ⟨⟨by decide +kernel, by decide +kernel⟩, List.mem_of_getElem? (i := 710) (by decide +kernel), List.mem_of_getElem? (i := 1066) (by decide +kernel), List.mem_of_getElem? (i := 1067) (by decide +kernel)⟩
theorem lw_p50 : lw_okq (⟨"TurnFeastModel", "seasonOf", "(IIII)I"⟩, 24) := ⟨⟨by decide +kernel, by decide +kernel⟩, List.mem_of_getElem? (i := 710) (by decide +kernel), List.mem_of_getElem? (i := 1082) (by decide +kernel), List.mem_of_getElem? (i := 1083) (by decide +kernel)⟩
theorem lw_p51 : lw_okq (⟨"TurnFeastModel", "lot", "(I)I"⟩, 24) := ⟨⟨by decide +kernel, by decide +kernel⟩, List.mem_of_getElem? (i := 710) (by decide +kernel), List.mem_of_getElem? (i := 1086) (by decide +kernel), List.mem_of_getElem? (i := 1087) (by decide +kernel)⟩
theorem lw_p52 : lw_okq (⟨"TurnFeastModel", "allGiven", "()I"⟩, 24) := ⟨⟨by decide +kernel, by decide +kernel⟩, List.mem_of_getElem? (i := 710) (by decide +kernel), List.mem_of_getElem? (i := 1099) (by decide +kernel), List.mem_of_getElem? (i := 1100) (by decide +kernel)⟩
theorem lw_p53 : lw_okq (⟨"TurnFeastModel", "sleeping", "()I"⟩, 24) := ⟨⟨by decide +kernel, by decide +kernel⟩, List.mem_of_getElem? (i := 710) (by decide +kernel), List.mem_of_getElem? (i := 1103) (by decide +kernel), List.mem_of_getElem? (i := 1104) (by decide +kernel)⟩
theorem lw_p54 : lw_okq (⟨"TurnFeastModel", "tellsHouse", "(JI)J"⟩, 24) := ⟨⟨by decide +kernel, by decide +kernel⟩, List.mem_of_getElem? (i := 710) (by decide +kernel), List.mem_of_getElem? (i := 1114) (by decide +kernel), List.mem_of_getElem? (i := 1115) (by decide +kernel)⟩
def lw_privs_4 : List (MethodName × Nat) := [(⟨"TurnFeastModel", "mostAlike", "(II)I"⟩, 24), (⟨"TurnFeastModel", "roadOf", "(IIII)J"⟩, 24), (⟨"TurnFeastModel", "seasonOf", "(IIII)I"⟩, 24), (⟨"TurnFeastModel", "lot", "(I)I"⟩, 24), (⟨"TurnFeastModel", "allGiven", "()I"⟩, 24), (⟨"TurnFeastModel", "sleeping", "()I"⟩, 24), (⟨"TurnFeastModel", "tellsHouse", "(JI)J"⟩, 24)]
theorem lw_r4 : ∀ q ∈ lw_privs_4, lw_okq q := List.forall_mem_cons.mpr ⟨lw_p48, List.forall_mem_cons.mpr ⟨lw_p49, List.forall_mem_cons.mpr ⟨lw_p50, List.forall_mem_cons.mpr ⟨lw_p51, List.forall_mem_cons.mpr ⟨lw_p52, List.forall_mem_cons.mpr ⟨lw_p53, List.forall_mem_cons.mpr ⟨lw_p54, fun _ h => absurd h List.not_mem_nil⟩⟩⟩⟩⟩⟩⟩
def lw_privs : List (MethodName × Nat) := lw_privs_1 ++ (lw_privs_2 ++ (lw_privs_3 ++ (lw_privs_4)))
def lw_tbl : List Cond := k2_sels lw_privs ++ tables_1
theorem lw_privs_ok : ∀ q ∈ lw_privs, lw_okq q := by
  show ∀ q ∈ lw_privs_1 ++ (lw_privs_2 ++ (lw_privs_3 ++ (lw_privs_4))), lw_okq q
  exact List.forall_mem_append.mpr ⟨lw_r1, List.forall_mem_append.mpr ⟨lw_r2, List.forall_mem_append.mpr ⟨lw_r3, lw_r4⟩⟩⟩

def RX0 : String := "TurnFeast$Chances"
def TX0 : u_T := fun k => match k with
  | 0 => ("TurnFeast$Chances", "parts", "[J", true)
  | 1 => ("TurnFeast$Chances", "above", "J", false)
  | _ => ("TurnFeast$Chances", "below", "J", false)
def tyX0 : Nat → FieldType := fun k => match k with
  | 0 => .array .long
  | 1 => .long
  | _ => .long
abbrev wsX00 : List Cond := u_ws RX0 TX0 3
theorem nmX0 : ∀ a, a < 3 → ∀ b, b < 3 → a ≠ b → (TX0 a).2.1 ≠ (TX0 b).2.1 := by decide +kernel
theorem tyX0_ok : ∀ k, k < 3 → parseFieldDescriptor (TX0 k).2.2.1 = some (tyX0 k) := by decide +kernel
abbrev cX0_init : ByteArray := prog_2_method_1_code
def yX0_init : MethodName := ⟨RX0, "<init>", "()V"⟩
abbrev cX0_reckon : ByteArray := prog_2_method_2_code
def yX0_reckon : MethodName := ⟨RX0, "reckon", "(ILTurnFeast$Feast;III)V"⟩
abbrev cX0_join : ByteArray := prog_2_method_3_code
def yX0_join : MethodName := ⟨RX0, "join", "(II)V"⟩
abbrev cX0_reduce : ByteArray := prog_2_method_4_code
def yX0_reduce : MethodName := ⟨RX0, "reduce", "()V"⟩
def RX1 : String := "TurnFeast$Feast"
def TX1 : u_T := fun k => match k with
  | 0 => ("TurnFeast$Feast", "given", "[I", true)
  | 1 => ("TurnFeast$Feast", "sleeps", "[I", true)
  | 2 => ("TurnFeast$Feast", "left", "[I", true)
  | 3 => ("TurnFeast$Feast", "refused", "[I", true)
  | 4 => ("TurnFeast$Feast", "doors", "[I", true)
  | 5 => ("TurnFeast$Feast", "total", "[I", true)
  | 6 => ("TurnFeast$Feast", "tales", "[I", true)
  | _ => ("TurnFeast$Feast", "visited", "I", false)
def tyX1 : Nat → FieldType := fun k => match k with
  | 0 => .array .int
  | 1 => .array .int
  | 2 => .array .int
  | 3 => .array .int
  | 4 => .array .int
  | 5 => .array .int
  | 6 => .array .int
  | _ => .int
abbrev wsX10 : List Cond := u_ws RX1 TX1 8
theorem nmX1 : ∀ a, a < 8 → ∀ b, b < 8 → a ≠ b → (TX1 a).2.1 ≠ (TX1 b).2.1 := by decide +kernel
theorem tyX1_ok : ∀ k, k < 8 → parseFieldDescriptor (TX1 k).2.2.1 = some (tyX1 k) := by decide +kernel
abbrev cX1_init : ByteArray := prog_3_method_1_code
def yX1_init : MethodName := ⟨RX1, "<init>", "()V"⟩
abbrev cX1_hold : ByteArray := prog_3_method_2_code
def yX1_hold : MethodName := ⟨RX1, "hold", "(LTurnFeast$Row;LTurnFeast$Guests;LTurnFeast$Walk;)V"⟩
abbrev cX1_enter : ByteArray := prog_3_method_3_code
def yX1_enter : MethodName := ⟨RX1, "enter", "(ILTurnFeast$Walk;)V"⟩
abbrev cX1_gaveTo : ByteArray := prog_3_method_4_code
def yX1_gaveTo : MethodName := ⟨RX1, "gaveTo", "(II)I"⟩
def RX2 : String := "TurnFeast$Guests"
def TX2 : u_T := fun k => match k with
  | 0 => ("TurnFeast$Guests", "hunger", "[I", true)
  | 1 => ("TurnFeast$Guests", "begins", "[I", true)
  | 2 => ("TurnFeast$Guests", "down", "[I", true)
  | 3 => ("TurnFeast$Guests", "turns", "[I", true)
  | _ => ("TurnFeast$Guests", "count", "I", false)
def tyX2 : Nat → FieldType := fun k => match k with
  | 0 => .array .int
  | 1 => .array .int
  | 2 => .array .int
  | 3 => .array .int
  | _ => .int
abbrev wsX20 : List Cond := u_ws RX2 TX2 5
theorem nmX2 : ∀ a, a < 5 → ∀ b, b < 5 → a ≠ b → (TX2 a).2.1 ≠ (TX2 b).2.1 := by decide +kernel
theorem tyX2_ok : ∀ k, k < 5 → parseFieldDescriptor (TX2 k).2.2.1 = some (tyX2 k) := by decide +kernel
abbrev cX2_init : ByteArray := prog_4_method_1_code
def yX2_init : MethodName := ⟨RX2, "<init>", "()V"⟩
abbrev cX2_parse : ByteArray := prog_4_method_2_code
def yX2_parse : MethodName := ⟨RX2, "parse", "(LTurnFeast$Text;)V"⟩
def RX3 : String := "TurnFeast$Plan"
def TX3 : u_T := fun k => match k with
  | 0 => ("TurnFeast$Plan", "choice", "I", false)
  | 1 => ("TurnFeast$Plan", "gives", "I", false)
  | _ => ("TurnFeast$Plan", "tales", "I", false)
def tyX3 : Nat → FieldType := fun k => match k with
  | 0 => .int
  | 1 => .int
  | _ => .int
abbrev wsX30 : List Cond := u_ws RX3 TX3 3
theorem nmX3 : ∀ a, a < 3 → ∀ b, b < 3 → a ≠ b → (TX3 a).2.1 ≠ (TX3 b).2.1 := by decide +kernel
theorem tyX3_ok : ∀ k, k < 3 → parseFieldDescriptor (TX3 k).2.2.1 = some (tyX3 k) := by decide +kernel
abbrev cX3_init : ByteArray := prog_5_method_1_code
def yX3_init : MethodName := ⟨RX3, "<init>", "()V"⟩
abbrev cX3_clear : ByteArray := prog_5_method_2_code
def yX3_clear : MethodName := ⟨RX3, "clear", "()V"⟩
abbrev cX3_weigh : ByteArray := prog_5_method_3_code
def yX3_weigh : MethodName := ⟨RX3, "weigh", "(III)V"⟩
def RX4 : String := "TurnFeast$Row"
def TX4 : u_T := fun k => match k with
  | 0 => ("TurnFeast$Row", "kind", "[I", true)
  | 1 => ("TurnFeast$Row", "portion", "[I", true)
  | 2 => ("TurnFeast$Row", "cost", "[I", true)
  | 3 => ("TurnFeast$Row", "order", "[I", true)
  | 4 => ("TurnFeast$Row", "count", "I", false)
  | 5 => ("TurnFeast$Row", "turned", "I", false)
  | _ => ("TurnFeast$Row", "empty", "I", false)
def tyX4 : Nat → FieldType := fun k => match k with
  | 0 => .array .int
  | 1 => .array .int
  | 2 => .array .int
  | 3 => .array .int
  | 4 => .int
  | 5 => .int
  | _ => .int
abbrev wsX40 : List Cond := u_ws RX4 TX4 7
theorem nmX4 : ∀ a, a < 7 → ∀ b, b < 7 → a ≠ b → (TX4 a).2.1 ≠ (TX4 b).2.1 := by decide +kernel
theorem tyX4_ok : ∀ k, k < 7 → parseFieldDescriptor (TX4 k).2.2.1 = some (tyX4 k) := by decide +kernel
abbrev cX4_init : ByteArray := prog_6_method_1_code
def yX4_init : MethodName := ⟨RX4, "<init>", "()V"⟩
abbrev cX4_parse : ByteArray := prog_6_method_2_code
def yX4_parse : MethodName := ⟨RX4, "parse", "(LTurnFeast$Text;)V"⟩
abbrev cX4_takeFrom : ByteArray := prog_6_method_3_code
def yX4_takeFrom : MethodName := ⟨RX4, "takeFrom", "(LTurnFeast$Row;)V"⟩
abbrev cX4_moveFrom : ByteArray := prog_6_method_4_code
def yX4_moveFrom : MethodName := ⟨RX4, "moveFrom", "(LTurnFeast$Row;II)V"⟩
abbrev cX4_placeOf : ByteArray := prog_6_method_5_code
def yX4_placeOf : MethodName := ⟨RX4, "placeOf", "(I)I"⟩
abbrev cX4_isEmpty : ByteArray := prog_6_method_6_code
def yX4_isEmpty : MethodName := ⟨RX4, "isEmpty", "(I)Z"⟩
def RX5 : String := "TurnFeast$Sheets"
def TX5 : u_T := fun k => match k with
  | 0 => ("TurnFeast$Sheets", "items", "[I", true)
  | 1 => ("TurnFeast$Sheets", "form", "[I", true)
  | _ => ("TurnFeast$Sheets", "size", "[I", true)
def tyX5 : Nat → FieldType := fun k => match k with
  | 0 => .array .int
  | 1 => .array .int
  | _ => .array .int
abbrev wsX50 : List Cond := u_ws RX5 TX5 3
theorem nmX5 : ∀ a, a < 3 → ∀ b, b < 3 → a ≠ b → (TX5 a).2.1 ≠ (TX5 b).2.1 := by decide +kernel
theorem tyX5_ok : ∀ k, k < 3 → parseFieldDescriptor (TX5 k).2.2.1 = some (tyX5 k) := by decide +kernel
abbrev cX5_init : ByteArray := prog_7_method_1_code
def yX5_init : MethodName := ⟨RX5, "<init>", "()V"⟩
abbrev cX5_isLost : ByteArray := prog_7_method_2_code
def yX5_isLost : MethodName := ⟨RX5, "isLost", "(I)Z"⟩
abbrev cX5_start : ByteArray := prog_7_method_3_code
def yX5_start : MethodName := ⟨RX5, "start", "(III)V"⟩
abbrev cX5_item : ByteArray := prog_7_method_4_code
def yX5_item : MethodName := ⟨RX5, "item", "(II)I"⟩
abbrev cX5_put : ByteArray := prog_7_method_5_code
def yX5_put : MethodName := ⟨RX5, "put", "(III)V"⟩
abbrev cX5_has : ByteArray := prog_7_method_6_code
def yX5_has : MethodName := ⟨RX5, "has", "(III)Z"⟩
abbrev cX5_move : ByteArray := prog_7_method_7_code
def yX5_move : MethodName := ⟨RX5, "move", "(IIIII)V"⟩
def RX6 : String := "TurnFeast$Sights"
def TX6 : u_T := fun k => match k with
  | 0 => ("TurnFeast$Sights", "house", "[I", true)
  | 1 => ("TurnFeast$Sights", "much", "[I", true)
  | _ => ("TurnFeast$Sights", "count", "I", false)
def tyX6 : Nat → FieldType := fun k => match k with
  | 0 => .array .int
  | 1 => .array .int
  | _ => .int
abbrev wsX60 : List Cond := u_ws RX6 TX6 3
theorem nmX6 : ∀ a, a < 3 → ∀ b, b < 3 → a ≠ b → (TX6 a).2.1 ≠ (TX6 b).2.1 := by decide +kernel
theorem tyX6_ok : ∀ k, k < 3 → parseFieldDescriptor (TX6 k).2.2.1 = some (tyX6 k) := by decide +kernel
abbrev cX6_init : ByteArray := prog_8_method_1_code
def yX6_init : MethodName := ⟨RX6, "<init>", "()V"⟩
abbrev cX6_allows : ByteArray := prog_8_method_2_code
def yX6_allows : MethodName := ⟨RX6, "allows", "(II)Z"⟩
abbrev cX6_add : ByteArray := prog_8_method_3_code
def yX6_add : MethodName := ⟨RX6, "add", "(II)V"⟩
def RX7 : String := "TurnFeast$Text"
def TX7 : u_T := fun k => match k with
  | 0 => ("TurnFeast$Text", "ofHouses", "Z", true)
  | 1 => ("TurnFeast$Text", "stride", "I", true)
  | 2 => ("TurnFeast$Text", "bytes", "[I", true)
  | _ => ("TurnFeast$Text", "length", "I", false)
def tyX7 : Nat → FieldType := fun k => match k with
  | 0 => .boolean
  | 1 => .int
  | 2 => .array .int
  | _ => .int
abbrev wsX70 : List Cond := u_ws RX7 TX7 4
theorem nmX7 : ∀ a, a < 4 → ∀ b, b < 4 → a ≠ b → (TX7 a).2.1 ≠ (TX7 b).2.1 := by decide +kernel
theorem tyX7_ok : ∀ k, k < 4 → parseFieldDescriptor (TX7 k).2.2.1 = some (tyX7 k) := by decide +kernel
abbrev cX7_init : ByteArray := prog_9_method_1_code
def yX7_init : MethodName := ⟨RX7, "<init>", "(Z)V"⟩
abbrev cX7_firstFault : ByteArray := prog_9_method_2_code
def yX7_firstFault : MethodName := ⟨RX7, "firstFault", "()I"⟩
abbrev cX7_things : ByteArray := prog_9_method_3_code
def yX7_things : MethodName := ⟨RX7, "things", "()I"⟩
abbrev cX7_byteOf : ByteArray := prog_9_method_4_code
def yX7_byteOf : MethodName := ⟨RX7, "byteOf", "(II)I"⟩
abbrev cX7_figureOf : ByteArray := prog_9_method_5_code
def yX7_figureOf : MethodName := ⟨RX7, "figureOf", "(II)I"⟩
abbrev cX7_fitsHouse : ByteArray := prog_9_method_6_code
def yX7_fitsHouse : MethodName := ⟨RX7, "fitsHouse", "(II)Z"⟩
abbrev cX7_fitsGuest : ByteArray := prog_9_method_7_code
def yX7_fitsGuest : MethodName := ⟨RX7, "fitsGuest", "(II)Z"⟩
abbrev cX7_kindOf : ByteArray := prog_9_method_8_code
def yX7_kindOf : MethodName := ⟨RX7, "kindOf", "(I)I"⟩
def RX8 : String := "TurnFeast$Walk"
def TX8 : u_T := fun k => match k with
  | 0 => ("TurnFeast$Walk", "gave", "[I", true)
  | 1 => ("TurnFeast$Walk", "sleeps", "I", false)
  | 2 => ("TurnFeast$Walk", "left", "I", false)
  | 3 => ("TurnFeast$Walk", "refused", "I", false)
  | 4 => ("TurnFeast$Walk", "doors", "I", false)
  | 5 => ("TurnFeast$Walk", "visited", "I", false)
  | _ => ("TurnFeast$Walk", "salted", "Z", false)
def tyX8 : Nat → FieldType := fun k => match k with
  | 0 => .array .int
  | 1 => .int
  | 2 => .int
  | 3 => .int
  | 4 => .int
  | 5 => .int
  | _ => .boolean
abbrev wsX80 : List Cond := u_ws RX8 TX8 7
theorem nmX8 : ∀ a, a < 7 → ∀ b, b < 7 → a ≠ b → (TX8 a).2.1 ≠ (TX8 b).2.1 := by decide +kernel
theorem tyX8_ok : ∀ k, k < 7 → parseFieldDescriptor (TX8 k).2.2.1 = some (tyX8 k) := by decide +kernel
abbrev cX8_init : ByteArray := prog_10_method_1_code
def yX8_init : MethodName := ⟨RX8, "<init>", "()V"⟩
abbrev cX8_go : ByteArray := prog_10_method_2_code
def yX8_go : MethodName := ⟨RX8, "go", "(LTurnFeast$Row;LTurnFeast$Guests;I)V"⟩
abbrev cX8_goFrom : ByteArray := prog_10_method_3_code
def yX8_goFrom : MethodName := ⟨RX8, "goFrom", "(LTurnFeast$Row;LTurnFeast$Guests;III)V"⟩
abbrev cX8_clear : ByteArray := prog_10_method_4_code
def yX8_clear : MethodName := ⟨RX8, "clear", "(I)V"⟩
abbrev cX8_offer : ByteArray := prog_10_method_5_code
def yX8_offer : MethodName := ⟨RX8, "offer", "(IIII)V"⟩
def RX9 : String := "TurnFeast"
def TX9 : u_T := fun k => match k with
  | 0 => ("TurnFeast", "houseText", "LTurnFeast$Text;", true)
  | 1 => ("TurnFeast", "guestText", "LTurnFeast$Text;", true)
  | 2 => ("TurnFeast", "row", "LTurnFeast$Row;", true)
  | 3 => ("TurnFeast", "guests", "LTurnFeast$Guests;", true)
  | 4 => ("TurnFeast", "feast", "LTurnFeast$Feast;", true)
  | 5 => ("TurnFeast", "sights", "LTurnFeast$Sights;", true)
  | 6 => ("TurnFeast", "sheets", "LTurnFeast$Sheets;", true)
  | 7 => ("TurnFeast", "chances", "LTurnFeast$Chances;", true)
  | 8 => ("TurnFeast", "trial", "LTurnFeast$Row;", true)
  | 9 => ("TurnFeast", "walk", "LTurnFeast$Walk;", true)
  | 10 => ("TurnFeast", "plan", "LTurnFeast$Plan;", true)
  | _ => ("TurnFeast", "finding", "I", false)
def tyX9 : Nat → FieldType := fun k => match k with
  | 0 => .object "TurnFeast$Text"
  | 1 => .object "TurnFeast$Text"
  | 2 => .object "TurnFeast$Row"
  | 3 => .object "TurnFeast$Guests"
  | 4 => .object "TurnFeast$Feast"
  | 5 => .object "TurnFeast$Sights"
  | 6 => .object "TurnFeast$Sheets"
  | 7 => .object "TurnFeast$Chances"
  | 8 => .object "TurnFeast$Row"
  | 9 => .object "TurnFeast$Walk"
  | 10 => .object "TurnFeast$Plan"
  | _ => .int
abbrev wsX90 : List Cond := u_ws RX9 TX9 12
theorem nmX9 : ∀ a, a < 12 → ∀ b, b < 12 → a ≠ b → (TX9 a).2.1 ≠ (TX9 b).2.1 := by decide +kernel
theorem tyX9_ok : ∀ k, k < 12 → parseFieldDescriptor (TX9 k).2.2.1 = some (tyX9 k) := by decide +kernel
abbrev cX9_init : ByteArray := prog_1_method_1_code
def yX9_init : MethodName := ⟨RX9, "<init>", "()V"⟩
abbrev cX9_type : ByteArray := prog_1_method_2_code
def yX9_type : MethodName := ⟨RX9, "type", "(II)I"⟩
abbrev cX9_wipe : ByteArray := prog_1_method_3_code
def yX9_wipe : MethodName := ⟨RX9, "wipe", "(I)I"⟩
abbrev cX9_undo : ByteArray := prog_1_method_4_code
def yX9_undo : MethodName := ⟨RX9, "undo", "(I)I"⟩
abbrev cX9_fault : ByteArray := prog_1_method_5_code
def yX9_fault : MethodName := ⟨RX9, "fault", "(I)I"⟩
abbrev cX9_house : ByteArray := prog_1_method_6_code
def yX9_house : MethodName := ⟨RX9, "house", "(II)I"⟩
abbrev cX9_guest : ByteArray := prog_1_method_7_code
def yX9_guest : MethodName := ⟨RX9, "guest", "(II)I"⟩
abbrev cX9_set : ByteArray := prog_1_method_8_code
def yX9_set : MethodName := ⟨RX9, "set", "(II)I"⟩
abbrev cX9_at : ByteArray := prog_1_method_9_code
def yX9_at : MethodName := ⟨RX9, "at", "(I)I"⟩
abbrev cX9_gives : ByteArray := prog_1_method_10_code
def yX9_gives : MethodName := ⟨RX9, "gives", "(II)I"⟩
abbrev cX9_fed : ByteArray := prog_1_method_11_code
def yX9_fed : MethodName := ⟨RX9, "fed", "(II)I"⟩
abbrev cX9_all : ByteArray := prog_1_method_12_code
def yX9_all : MethodName := ⟨RX9, "all", "(II)I"⟩
abbrev cX9_price : ByteArray := prog_1_method_13_code
def yX9_price : MethodName := ⟨RX9, "price", "(I)I"⟩
abbrev cX9_poor : ByteArray := prog_1_method_14_code
def yX9_poor : MethodName := ⟨RX9, "poor", "()I"⟩
abbrev cX9_passed : ByteArray := prog_1_method_15_code
def yX9_passed : MethodName := ⟨RX9, "passed", "()I"⟩
abbrev cX9_live : ByteArray := prog_1_method_16_code
def yX9_live : MethodName := ⟨RX9, "live", "(II)I"⟩
abbrev cX9_cook : ByteArray := prog_1_method_17_code
def yX9_cook : MethodName := ⟨RX9, "cook", "(II)I"⟩
abbrev cX9_fast : ByteArray := prog_1_method_18_code
def yX9_fast : MethodName := ⟨RX9, "fast", "(III)I"⟩
abbrev cX9_soup : ByteArray := prog_1_method_19_code
def yX9_soup : MethodName := ⟨RX9, "soup", "(II)I"⟩
abbrev cX9_seen : ByteArray := prog_1_method_20_code
def yX9_seen : MethodName := ⟨RX9, "seen", "(II)I"⟩
abbrev cX9_forget : ByteArray := prog_1_method_21_code
def yX9_forget : MethodName := ⟨RX9, "forget", "()I"⟩
abbrev cX9_read : ByteArray := prog_1_method_22_code
def yX9_read : MethodName := ⟨RX9, "read", "(I)I"⟩
abbrev cX9_twice : ByteArray := prog_1_method_23_code
def yX9_twice : MethodName := ⟨RX9, "twice", "()I"⟩
abbrev cX9_began : ByteArray := prog_1_method_24_code
def yX9_began : MethodName := ⟨RX9, "began", "(I)I"⟩
abbrev cX9_ask : ByteArray := prog_1_method_25_code
def yX9_ask : MethodName := ⟨RX9, "ask", "()I"⟩
abbrev cX9_road : ByteArray := prog_1_method_26_code
def yX9_road : MethodName := ⟨RX9, "road", "(IIII)J"⟩
abbrev cX9_season : ByteArray := prog_1_method_27_code
def yX9_season : MethodName := ⟨RX9, "season", "(IIII)I"⟩
abbrev cX9_sheet : ByteArray := prog_1_method_28_code
def yX9_sheet : MethodName := ⟨RX9, "sheet", "(III)I"⟩
abbrev cX9_lose : ByteArray := prog_1_method_29_code
def yX9_lose : MethodName := ⟨RX9, "lose", "(I)I"⟩
abbrev cX9_lay : ByteArray := prog_1_method_30_code
def yX9_lay : MethodName := ⟨RX9, "lay", "(IIII)I"⟩
abbrev cX9_get : ByteArray := prog_1_method_31_code
def yX9_get : MethodName := ⟨RX9, "get", "(III)I"⟩
abbrev cX9_copy : ByteArray := prog_1_method_32_code
def yX9_copy : MethodName := ⟨RX9, "copy", "(IIIII)I"⟩
abbrev cX9_write : ByteArray := prog_1_method_33_code
def yX9_write : MethodName := ⟨RX9, "write", "(II)I"⟩
abbrev cX9_count : ByteArray := prog_1_method_34_code
def yX9_count : MethodName := ⟨RX9, "count", "(I)I"⟩
abbrev cX9_digest : ByteArray := prog_1_method_35_code
def yX9_digest : MethodName := ⟨RX9, "digest", "()J"⟩
abbrev cX9_isBit : ByteArray := prog_1_method_36_code
def yX9_isBit : MethodName := ⟨RX9, "isBit", "(I)Z"⟩
abbrev cX9_isSheet : ByteArray := prog_1_method_37_code
def yX9_isSheet : MethodName := ⟨RX9, "isSheet", "(I)Z"⟩
abbrev cX9_isForm : ByteArray := prog_1_method_38_code
def yX9_isForm : MethodName := ⟨RX9, "isForm", "(I)Z"⟩
abbrev cX9_isHouse : ByteArray := prog_1_method_39_code
def yX9_isHouse : MethodName := ⟨RX9, "isHouse", "(I)Z"⟩
abbrev cX9_isGuest : ByteArray := prog_1_method_40_code
def yX9_isGuest : MethodName := ⟨RX9, "isGuest", "(I)Z"⟩
abbrev cX9_textOf : ByteArray := prog_1_method_41_code
def yX9_textOf : MethodName := ⟨RX9, "textOf", "(I)LTurnFeast$Text;"⟩
abbrev cX9_refresh : ByteArray := prog_1_method_42_code
def yX9_refresh : MethodName := ⟨RX9, "refresh", "()V"⟩
abbrev cX9_found : ByteArray := prog_1_method_43_code
def yX9_found : MethodName := ⟨RX9, "found", "(I)I"⟩
abbrev cX9_itemFinding : ByteArray := prog_1_method_44_code
def yX9_itemFinding : MethodName := ⟨RX9, "itemFinding", "(III)I"⟩
abbrev cX9_planPlace : ByteArray := prog_1_method_45_code
def yX9_planPlace : MethodName := ⟨RX9, "planPlace", "(I)V"⟩
abbrev cX9_planKind : ByteArray := prog_1_method_46_code
def yX9_planKind : MethodName := ⟨RX9, "planKind", "(I)V"⟩
abbrev cX9_weighTrial : ByteArray := prog_1_method_47_code
def yX9_weighTrial : MethodName := ⟨RX9, "weighTrial", "(II)V"⟩
abbrev cX9_fewestEmpty : ByteArray := prog_1_method_48_code
def yX9_fewestEmpty : MethodName := ⟨RX9, "fewestEmpty", "(II)I"⟩
abbrev cX9_howMany : ByteArray := prog_1_method_49_code
def yX9_howMany : MethodName := ⟨RX9, "howMany", "(I)I"⟩
abbrev cX9_twiceFits : ByteArray := prog_1_method_50_code
def yX9_twiceFits : MethodName := ⟨RX9, "twiceFits", "(I)Z"⟩
abbrev cX9_walkFits : ByteArray := prog_1_method_51_code
def yX9_walkFits : MethodName := ⟨RX9, "walkFits", "(I)Z"⟩
abbrev cX9_mostAlike : ByteArray := prog_1_method_52_code
def yX9_mostAlike : MethodName := ⟨RX9, "mostAlike", "(II)I"⟩
abbrev cX9_alikeTo : ByteArray := prog_1_method_53_code
def yX9_alikeTo : MethodName := ⟨RX9, "alikeTo", "(III)I"⟩
abbrev cX9_givenInAll : ByteArray := prog_1_method_54_code
def yX9_givenInAll : MethodName := ⟨RX9, "givenInAll", "()I"⟩
abbrev cX9_sleepersInAll : ByteArray := prog_1_method_55_code
def yX9_sleepersInAll : MethodName := ⟨RX9, "sleepersInAll", "()I"⟩
abbrev cX9_mixHouse : ByteArray := prog_1_method_56_code
def yX9_mixHouse : MethodName := ⟨RX9, "mixHouse", "(JI)J"⟩
abbrev cX9_mixPlans : ByteArray := prog_1_method_57_code
def yX9_mixPlans : MethodName := ⟨RX9, "mixPlans", "(JI)J"⟩
abbrev cX9_mixRoads : ByteArray := prog_1_method_58_code
def yX9_mixRoads : MethodName := ⟨RX9, "mixRoads", "(JI)J"⟩
abbrev cX9_mixGuest : ByteArray := prog_1_method_59_code
def yX9_mixGuest : MethodName := ⟨RX9, "mixGuest", "(JI)J"⟩
def RX10 : String := "TurnFeastModel"
def TX10 : u_T := fun k => match k with
  | 0 => ("TurnFeastModel", "forms", "[I", true)
  | 1 => ("TurnFeastModel", "sizes", "[I", true)
  | 2 => ("TurnFeastModel", "items", "[I", true)
  | 3 => ("TurnFeastModel", "moved", "[I", true)
  | 4 => ("TurnFeastModel", "latest", "I", false)
  | 5 => ("TurnFeastModel", "bytes", "[I", true)
  | 6 => ("TurnFeastModel", "typed", "[I", true)
  | 7 => ("TurnFeastModel", "houses", "I", false)
  | 8 => ("TurnFeastModel", "house", "[I", true)
  | 9 => ("TurnFeastModel", "guests", "I", false)
  | 10 => ("TurnFeastModel", "guest", "[I", true)
  | 11 => ("TurnFeastModel", "settings", "[I", true)
  | 12 => ("TurnFeastModel", "row", "[I", true)
  | 13 => ("TurnFeastModel", "given", "[I", true)
  | 14 => ("TurnFeastModel", "sleeps", "[I", true)
  | 15 => ("TurnFeastModel", "left", "[I", true)
  | 16 => ("TurnFeastModel", "turns", "[I", true)
  | 17 => ("TurnFeastModel", "goes", "[I", true)
  | 18 => ("TurnFeastModel", "best", "I", false)
  | 19 => ("TurnFeastModel", "bestGives", "I", false)
  | 20 => ("TurnFeastModel", "bestTales", "I", false)
  | 21 => ("TurnFeastModel", "sights", "I", false)
  | 22 => ("TurnFeastModel", "sight", "[I", true)
  | _ => ("TurnFeastModel", "drawn", "I", false)
def tyX10 : Nat → FieldType := fun k => match k with
  | 0 => .array .int
  | 1 => .array .int
  | 2 => .array .int
  | 3 => .array .int
  | 4 => .int
  | 5 => .array .int
  | 6 => .array .int
  | 7 => .int
  | 8 => .array .int
  | 9 => .int
  | 10 => .array .int
  | 11 => .array .int
  | 12 => .array .int
  | 13 => .array .int
  | 14 => .array .int
  | 15 => .array .int
  | 16 => .array .int
  | 17 => .array .int
  | 18 => .int
  | 19 => .int
  | 20 => .int
  | 21 => .int
  | 22 => .array .int
  | _ => .int
abbrev wsX100 : List Cond := u_ws RX10 TX10 24
theorem nmX10 : ∀ a, a < 24 → ∀ b, b < 24 → a ≠ b → (TX10 a).2.1 ≠ (TX10 b).2.1 := by decide +kernel
theorem tyX10_ok : ∀ k, k < 24 → parseFieldDescriptor (TX10 k).2.2.1 = some (tyX10 k) := by decide +kernel
abbrev cX10_init : ByteArray := prog_12_method_1_code
def yX10_init : MethodName := ⟨RX10, "<init>", "()V"⟩
abbrev cX10_in : ByteArray := prog_12_method_3_code
def yX10_in : MethodName := ⟨RX10, "in", "(JJJ)Z"⟩
abbrev cX10_no : ByteArray := prog_12_method_4_code
def yX10_no : MethodName := ⟨RX10, "no", "(I)J"⟩
abbrev cX10_isTwo : ByteArray := prog_12_method_5_code
def yX10_isTwo : MethodName := ⟨RX10, "isTwo", "(I)Z"⟩
abbrev cX10_isIn : ByteArray := prog_12_method_6_code
def yX10_isIn : MethodName := ⟨RX10, "isIn", "(II)Z"⟩
abbrev cX10_ones : ByteArray := prog_12_method_7_code
def yX10_ones : MethodName := ⟨RX10, "ones", "(I)I"⟩
abbrev cX10_lesser : ByteArray := prog_12_method_8_code
def yX10_lesser : MethodName := ⟨RX10, "lesser", "(II)I"⟩
abbrev cX10_part : ByteArray := prog_12_method_9_code
def yX10_part : MethodName := ⟨RX10, "part", "(JJI)J"⟩
abbrev cX10_finds : ByteArray := prog_12_method_10_code
def yX10_finds : MethodName := ⟨RX10, "finds", "(I)I"⟩
abbrev cX10_isSheet : ByteArray := prog_12_method_11_code
def yX10_isSheet : MethodName := ⟨RX10, "isSheet", "(I)Z"⟩
abbrev cX10_sheet : ByteArray := prog_12_method_12_code
def yX10_sheet : MethodName := ⟨RX10, "sheet", "(III)I"⟩
abbrev cX10_lose : ByteArray := prog_12_method_13_code
def yX10_lose : MethodName := ⟨RX10, "lose", "(I)I"⟩
abbrev cX10_lacks : ByteArray := prog_12_method_14_code
def yX10_lacks : MethodName := ⟨RX10, "lacks", "(III)I"⟩
abbrev cX10_cut : ByteArray := prog_12_method_15_code
def yX10_cut : MethodName := ⟨RX10, "cut", "(II)I"⟩
abbrev cX10_lay : ByteArray := prog_12_method_16_code
def yX10_lay : MethodName := ⟨RX10, "lay", "(IIII)I"⟩
abbrev cX10_get : ByteArray := prog_12_method_17_code
def yX10_get : MethodName := ⟨RX10, "get", "(III)I"⟩
abbrev cX10_copy : ByteArray := prog_12_method_18_code
def yX10_copy : MethodName := ⟨RX10, "copy", "(IIIII)I"⟩
abbrev cX10_type : ByteArray := prog_12_method_19_code
def yX10_type : MethodName := ⟨RX10, "type", "(II)I"⟩
abbrev cX10_wipe : ByteArray := prog_12_method_20_code
def yX10_wipe : MethodName := ⟨RX10, "wipe", "(I)I"⟩
abbrev cX10_undo : ByteArray := prog_12_method_21_code
def yX10_undo : MethodName := ⟨RX10, "undo", "(I)I"⟩
abbrev cX10_figureOf : ByteArray := prog_12_method_22_code
def yX10_figureOf : MethodName := ⟨RX10, "figureOf", "(III)I"⟩
abbrev cX10_houseOf : ByteArray := prog_12_method_23_code
def yX10_houseOf : MethodName := ⟨RX10, "houseOf", "(II)I"⟩
abbrev cX10_readsHouses : ByteArray := prog_12_method_24_code
def yX10_readsHouses : MethodName := ⟨RX10, "readsHouses", "()I"⟩
abbrev cX10_guestOf : ByteArray := prog_12_method_25_code
def yX10_guestOf : MethodName := ⟨RX10, "guestOf", "(II)I"⟩
abbrev cX10_tellsGuest : ByteArray := prog_12_method_26_code
def yX10_tellsGuest : MethodName := ⟨RX10, "tellsGuest", "(III)V"⟩
abbrev cX10_readsGuests : ByteArray := prog_12_method_27_code
def yX10_readsGuests : MethodName := ⟨RX10, "readsGuests", "()I"⟩
abbrev cX10_fault : ByteArray := prog_12_method_28_code
def yX10_fault : MethodName := ⟨RX10, "fault", "(I)I"⟩
abbrev cX10_isHouse : ByteArray := prog_12_method_29_code
def yX10_isHouse : MethodName := ⟨RX10, "isHouse", "(I)Z"⟩
abbrev cX10_isGuest : ByteArray := prog_12_method_30_code
def yX10_isGuest : MethodName := ⟨RX10, "isGuest", "(I)Z"⟩
abbrev cX10_house : ByteArray := prog_12_method_31_code
def yX10_house : MethodName := ⟨RX10, "house", "(II)I"⟩
abbrev cX10_guest : ByteArray := prog_12_method_32_code
def yX10_guest : MethodName := ⟨RX10, "guest", "(II)I"⟩
abbrev cX10_set : ByteArray := prog_12_method_33_code
def yX10_set : MethodName := ⟨RX10, "set", "(II)I"⟩
abbrev cX10_findRow : ByteArray := prog_12_method_34_code
def yX10_findRow : MethodName := ⟨RX10, "findRow", "()V"⟩
abbrev cX10_reads : ByteArray := prog_12_method_35_code
def yX10_reads : MethodName := ⟨RX10, "reads", "()V"⟩
abbrev cX10_at : ByteArray := prog_12_method_36_code
def yX10_at : MethodName := ⟨RX10, "at", "(I)I"⟩
abbrev cX10_behind : ByteArray := prog_12_method_37_code
def yX10_behind : MethodName := ⟨RX10, "behind", "(II)I"⟩
abbrev cX10_feeds : ByteArray := prog_12_method_38_code
def yX10_feeds : MethodName := ⟨RX10, "feeds", "(I)V"⟩
abbrev cX10_feedsAll : ByteArray := prog_12_method_39_code
def yX10_feedsAll : MethodName := ⟨RX10, "feedsAll", "()V"⟩
abbrev cX10_find : ByteArray := prog_12_method_40_code
def yX10_find : MethodName := ⟨RX10, "find", "()V"⟩
abbrev cX10_gives : ByteArray := prog_12_method_41_code
def yX10_gives : MethodName := ⟨RX10, "gives", "(II)I"⟩
abbrev cX10_fedBy : ByteArray := prog_12_method_42_code
def yX10_fedBy : MethodName := ⟨RX10, "fedBy", "(II)I"⟩
abbrev cX10_fed : ByteArray := prog_12_method_43_code
def yX10_fed : MethodName := ⟨RX10, "fed", "(II)I"⟩
abbrev cX10_allBy : ByteArray := prog_12_method_44_code
def yX10_allBy : MethodName := ⟨RX10, "allBy", "(II)I"⟩
abbrev cX10_all : ByteArray := prog_12_method_45_code
def yX10_all : MethodName := ⟨RX10, "all", "(II)I"⟩
abbrev cX10_priceOf : ByteArray := prog_12_method_46_code
def yX10_priceOf : MethodName := ⟨RX10, "priceOf", "(I)I"⟩
abbrev cX10_price : ByteArray := prog_12_method_47_code
def yX10_price : MethodName := ⟨RX10, "price", "(I)I"⟩
abbrev cX10_poorNow : ByteArray := prog_12_method_48_code
def yX10_poorNow : MethodName := ⟨RX10, "poorNow", "()I"⟩
abbrev cX10_poor : ByteArray := prog_12_method_49_code
def yX10_poor : MethodName := ⟨RX10, "poor", "()I"⟩
abbrev cX10_passedNow : ByteArray := prog_12_method_50_code
def yX10_passedNow : MethodName := ⟨RX10, "passedNow", "()I"⟩
abbrev cX10_passed : ByteArray := prog_12_method_51_code
def yX10_passed : MethodName := ⟨RX10, "passed", "()I"⟩
abbrev cX10_weighs : ByteArray := prog_12_method_52_code
def yX10_weighs : MethodName := ⟨RX10, "weighs", "(II)V"⟩
abbrev cX10_livesAt : ByteArray := prog_12_method_53_code
def yX10_livesAt : MethodName := ⟨RX10, "livesAt", "(II)V"⟩
abbrev cX10_liveOf : ByteArray := prog_12_method_54_code
def yX10_liveOf : MethodName := ⟨RX10, "liveOf", "(II)I"⟩
abbrev cX10_live : ByteArray := prog_12_method_55_code
def yX10_live : MethodName := ⟨RX10, "live", "(II)I"⟩
abbrev cX10_cookOf : ByteArray := prog_12_method_56_code
def yX10_cookOf : MethodName := ⟨RX10, "cookOf", "(II)I"⟩
abbrev cX10_cook : ByteArray := prog_12_method_57_code
def yX10_cook : MethodName := ⟨RX10, "cook", "(II)I"⟩
abbrev cX10_fastOf : ByteArray := prog_12_method_58_code
def yX10_fastOf : MethodName := ⟨RX10, "fastOf", "(III)I"⟩
abbrev cX10_fast : ByteArray := prog_12_method_59_code
def yX10_fast : MethodName := ⟨RX10, "fast", "(III)I"⟩
abbrev cX10_soupOf : ByteArray := prog_12_method_60_code
def yX10_soupOf : MethodName := ⟨RX10, "soupOf", "(II)I"⟩
abbrev cX10_soup : ByteArray := prog_12_method_61_code
def yX10_soup : MethodName := ⟨RX10, "soup", "(II)I"⟩
abbrev cX10_seen : ByteArray := prog_12_method_62_code
def yX10_seen : MethodName := ⟨RX10, "seen", "(II)I"⟩
abbrev cX10_forget : ByteArray := prog_12_method_63_code
def yX10_forget : MethodName := ⟨RX10, "forget", "()I"⟩
abbrev cX10_read : ByteArray := prog_12_method_64_code
def yX10_read : MethodName := ⟨RX10, "read", "(I)I"⟩
abbrev cX10_givesBy : ByteArray := prog_12_method_65_code
def yX10_givesBy : MethodName := ⟨RX10, "givesBy", "(II)I"⟩
abbrev cX10_isSeen : ByteArray := prog_12_method_66_code
def yX10_isSeen : MethodName := ⟨RX10, "isSeen", "(I)Z"⟩
abbrev cX10_twiceNow : ByteArray := prog_12_method_67_code
def yX10_twiceNow : MethodName := ⟨RX10, "twiceNow", "()I"⟩
abbrev cX10_twice : ByteArray := prog_12_method_68_code
def yX10_twice : MethodName := ⟨RX10, "twice", "()I"⟩
abbrev cX10_beganOf : ByteArray := prog_12_method_69_code
def yX10_beganOf : MethodName := ⟨RX10, "beganOf", "(I)I"⟩
abbrev cX10_began : ByteArray := prog_12_method_70_code
def yX10_began : MethodName := ⟨RX10, "began", "(I)I"⟩
abbrev cX10_mostAlike : ByteArray := prog_12_method_71_code
def yX10_mostAlike : MethodName := ⟨RX10, "mostAlike", "(II)I"⟩
abbrev cX10_askNow : ByteArray := prog_12_method_72_code
def yX10_askNow : MethodName := ⟨RX10, "askNow", "()I"⟩
abbrev cX10_ask : ByteArray := prog_12_method_73_code
def yX10_ask : MethodName := ⟨RX10, "ask", "()I"⟩
abbrev cX10_roadOf : ByteArray := prog_12_method_74_code
def yX10_roadOf : MethodName := ⟨RX10, "roadOf", "(IIII)J"⟩
abbrev cX10_road : ByteArray := prog_12_method_75_code
def yX10_road : MethodName := ⟨RX10, "road", "(IIII)J"⟩
abbrev cX10_lot : ByteArray := prog_12_method_76_code
def yX10_lot : MethodName := ⟨RX10, "lot", "(I)I"⟩
abbrev cX10_seasonOf : ByteArray := prog_12_method_77_code
def yX10_seasonOf : MethodName := ⟨RX10, "seasonOf", "(IIII)I"⟩
abbrev cX10_season : ByteArray := prog_12_method_78_code
def yX10_season : MethodName := ⟨RX10, "season", "(IIII)I"⟩
abbrev cX10_write : ByteArray := prog_12_method_79_code
def yX10_write : MethodName := ⟨RX10, "write", "(II)I"⟩
abbrev cX10_allGiven : ByteArray := prog_12_method_80_code
def yX10_allGiven : MethodName := ⟨RX10, "allGiven", "()I"⟩
abbrev cX10_sleeping : ByteArray := prog_12_method_81_code
def yX10_sleeping : MethodName := ⟨RX10, "sleeping", "()I"⟩
abbrev cX10_count : ByteArray := prog_12_method_82_code
def yX10_count : MethodName := ⟨RX10, "count", "(I)I"⟩
abbrev cX10_tellsHouse : ByteArray := prog_12_method_83_code
def yX10_tellsHouse : MethodName := ⟨RX10, "tellsHouse", "(JI)J"⟩
abbrev cX10_digest : ByteArray := prog_12_method_84_code
def yX10_digest : MethodName := ⟨RX10, "digest", "()J"⟩
def RJ6 : String := "java/lang/Integer"
def TJ6 : u_T := fun k => match k with
  | _ => ("", "", "", false)
def tyJ6 : Nat → FieldType := fun k => match k with
  | _ => .int
abbrev wsJ60 : List Cond := u_ws RJ6 TJ6 0
theorem nmJ6 : ∀ a, a < 0 → ∀ b, b < 0 → a ≠ b → (TJ6 a).2.1 ≠ (TJ6 b).2.1 := by decide +kernel
theorem tyJ6_ok : ∀ k, k < 0 → parseFieldDescriptor (TJ6 k).2.2.1 = some (tyJ6 k) := by decide +kernel
abbrev cJ6_bitCount_0f7a4 : ByteArray := prog_13_method_49_code
def yJ6_bitCount_0f7a4 : MethodName := ⟨RJ6, "bitCount", "(I)I"⟩
def RJ9 : String := "java/lang/Math"
def TJ9 : u_T := fun k => match k with
  | _ => ("", "", "", false)
def tyJ9 : Nat → FieldType := fun k => match k with
  | _ => .int
abbrev wsJ90 : List Cond := u_ws RJ9 TJ9 0
theorem nmJ9 : ∀ a, a < 0 → ∀ b, b < 0 → a ≠ b → (TJ9 a).2.1 ≠ (TJ9 b).2.1 := by decide +kernel
theorem tyJ9_ok : ∀ k, k < 0 → parseFieldDescriptor (TJ9 k).2.2.1 = some (tyJ9 k) := by decide +kernel
abbrev cJ9_max_7cf53 : ByteArray := prog_14_method_65_code
def yJ9_max_7cf53 : MethodName := ⟨RJ9, "max", "(II)I"⟩
abbrev cJ9_min_7cf53 : ByteArray := prog_14_method_69_code
def yJ9_min_7cf53 : MethodName := ⟨RJ9, "min", "(II)I"⟩
def RJ10 : String := "java/lang/System"
def TJ10 : u_T := fun k => match k with
  | _ => ("", "", "", false)
def tyJ10 : Nat → FieldType := fun k => match k with
  | _ => .int
abbrev wsJ100 : List Cond := u_ws RJ10 TJ10 0
theorem nmJ10 : ∀ a, a < 0 → ∀ b, b < 0 → a ≠ b → (TJ10 a).2.1 ≠ (TJ10 b).2.1 := by decide +kernel
theorem tyJ10_ok : ∀ k, k < 0 → parseFieldDescriptor (TJ10 k).2.2.1 = some (tyJ10 k) := by decide +kernel
def RL : String := "TurnFeastLaw"
abbrev cL_law : ByteArray := code
def yL_law : MethodName := ⟨RL, "law", "([I)Z"⟩
abbrev vwCl : List vw_C := [(RX0, TX0, 3), (RX1, TX1, 8), (RX2, TX2, 5), (RX3, TX3, 3), (RX4, TX4, 7), (RX5, TX5, 3), (RX6, TX6, 3), (RX7, TX7, 4), (RX8, TX8, 7), (RX9, TX9, 12), (RX10, TX10, 24)]
def gt : List Cond := lw_tbl.filter goodWord
theorem gt_in {w : Cond} (h : w ∈ lw_tbl) (g : goodWord w = true) : w ∈ gt := List.mem_filter.mpr ⟨h, g⟩
theorem gt_all {args : Array Value} {s : State} (h : ∀ w ∈ lw_tbl, w.before args s = true) : ∀ w ∈ gt, w.before args s = true := fun w hw => h w (List.mem_filter.mp hw).1
theorem gt_good {w : Cond} (h : w ∈ gt) : (w.onTables && w.keeps) = true ∨ ∃ ty, w = .arrayClass ty := good_of_word (List.mem_filter.mp h).2
theorem i_X0 : ∀ w ∈ wsX00, w ∈ gt := by decide +kernel
theorem i_X1 : ∀ w ∈ wsX10, w ∈ gt := by decide +kernel
theorem i_X2 : ∀ w ∈ wsX20, w ∈ gt := by decide +kernel
theorem i_X3 : ∀ w ∈ wsX30, w ∈ gt := by decide +kernel
theorem i_X4 : ∀ w ∈ wsX40, w ∈ gt := by decide +kernel
theorem i_X5 : ∀ w ∈ wsX50, w ∈ gt := by decide +kernel
theorem i_X6 : ∀ w ∈ wsX60, w ∈ gt := by decide +kernel
theorem i_X7 : ∀ w ∈ wsX70, w ∈ gt := by decide +kernel
theorem i_X8 : ∀ w ∈ wsX80, w ∈ gt := by decide +kernel
theorem i_X9 : ∀ w ∈ wsX90, w ∈ gt := by decide +kernel
theorem i_X10 : ∀ w ∈ wsX100, w ∈ gt := by decide +kernel
theorem kw_0 : Cond.initialized RL ∈ gt := gt_in (List.mem_append_right _ (List.mem_of_getElem? (i := 0) (by decide +kernel))) (by decide)
theorem kw_1 : Cond.initialized RX9 ∈ gt := gt_in (List.mem_append_right _ (List.mem_of_getElem? (i := 1) (by decide +kernel))) (by decide)
theorem kw_2 : Cond.initialized RX7 ∈ gt := gt_in (List.mem_append_right _ (List.mem_of_getElem? (i := 2) (by decide +kernel))) (by decide)
theorem kw_3 : Cond.initialized RX4 ∈ gt := gt_in (List.mem_append_right _ (List.mem_of_getElem? (i := 3) (by decide +kernel))) (by decide)
theorem kw_4 : Cond.initialized RX2 ∈ gt := gt_in (List.mem_append_right _ (List.mem_of_getElem? (i := 4) (by decide +kernel))) (by decide)
theorem kw_5 : Cond.initialized RX1 ∈ gt := gt_in (List.mem_append_right _ (List.mem_of_getElem? (i := 5) (by decide +kernel))) (by decide)
theorem kw_6 : Cond.initialized RX6 ∈ gt := gt_in (List.mem_append_right _ (List.mem_of_getElem? (i := 6) (by decide +kernel))) (by decide)
theorem kw_7 : Cond.initialized RX5 ∈ gt := gt_in (List.mem_append_right _ (List.mem_of_getElem? (i := 7) (by decide +kernel))) (by decide)
theorem kw_8 : Cond.initialized RX0 ∈ gt := gt_in (List.mem_append_right _ (List.mem_of_getElem? (i := 8) (by decide +kernel))) (by decide)
theorem kw_9 : Cond.initialized RX8 ∈ gt := gt_in (List.mem_append_right _ (List.mem_of_getElem? (i := 9) (by decide +kernel))) (by decide)
theorem kw_10 : Cond.initialized RX3 ∈ gt := gt_in (List.mem_append_right _ (List.mem_of_getElem? (i := 10) (by decide +kernel))) (by decide)
theorem kw_11 : Cond.initialized RX10 ∈ gt := gt_in (List.mem_append_right _ (List.mem_of_getElem? (i := 11) (by decide +kernel))) (by decide)
theorem kw_12 : Cond.initialized RJ9 ∈ gt := gt_in (List.mem_append_right _ (List.mem_of_getElem? (i := 12) (by decide +kernel))) (by decide)
theorem kw_13 : Cond.initialized RJ6 ∈ gt := gt_in (List.mem_append_right _ (List.mem_of_getElem? (i := 13) (by decide +kernel))) (by decide)
theorem kw_14 : Cond.initialized RJ10 ∈ gt := gt_in (List.mem_append_right _ (List.mem_of_getElem? (i := 14) (by decide +kernel))) (by decide)
theorem kw_15 : Cond.classLink RL 7 RX9 ∈ gt := gt_in (List.mem_append_right _ (List.mem_of_getElem? (i := 15) (by decide +kernel))) (by decide)
theorem kw_16 : Cond.instantiable RX9 12 ∈ gt := gt_in (List.mem_append_right _ (List.mem_of_getElem? (i := 16) (by decide +kernel))) (by decide)
theorem kw_17 : Cond.methodLink RL 9 yX9_init ∈ gt := gt_in (List.mem_append_right _ (List.mem_of_getElem? (i := 17) (by decide +kernel))) (by decide)
theorem kw_18 : Cond.instanceMethod yX9_init ∈ gt := gt_in (List.mem_append_right _ (List.mem_of_getElem? (i := 18) (by decide +kernel))) (by decide)
set_option maxRecDepth 20000 in
theorem kw_19 : Cond.code yX9_init cX9_init 1 none ∈ gt := gt_in (List.mem_append_right _ (List.mem_of_getElem? (i := 19) rfl)) (by decide)
theorem kw_20 : Cond.methodLink RX9 1 objectInit ∈ gt := gt_in (List.mem_append_right _ (List.mem_of_getElem? (i := 20) (by decide +kernel))) (by decide)
theorem kw_21 : Cond.instanceMethod objectInit ∈ gt := gt_in (List.mem_append_right _ (List.mem_of_getElem? (i := 21) (by decide +kernel))) (by decide)
set_option maxRecDepth 20000 in
theorem kw_22 : Cond.code objectInit ⟨#[0xb1]⟩ 1 none ∈ gt := gt_in (List.mem_append_right _ (List.mem_of_getElem? (i := 22) rfl)) (by decide)
theorem kw_23 : Cond.classLink RX9 7 RX7 ∈ gt := gt_in (List.mem_append_right _ (List.mem_of_getElem? (i := 23) (by decide +kernel))) (by decide)
theorem kw_24 : Cond.instantiable RX7 4 ∈ gt := gt_in (List.mem_append_right _ (List.mem_of_getElem? (i := 24) (by decide +kernel))) (by decide)
theorem kw_25 : Cond.methodLink RX9 9 yX7_init ∈ gt := gt_in (List.mem_append_right _ (List.mem_of_getElem? (i := 25) (by decide +kernel))) (by decide)
theorem kw_26 : Cond.instanceMethod yX7_init ∈ gt := gt_in (List.mem_append_right _ (List.mem_of_getElem? (i := 26) (by decide +kernel))) (by decide)
set_option maxRecDepth 20000 in
theorem kw_27 : Cond.code yX7_init cX7_init 2 none ∈ gt := gt_in (List.mem_append_right _ (List.mem_of_getElem? (i := 27) rfl)) (by decide)
theorem kw_28 : Cond.methodLink RX7 3 objectInit ∈ gt := gt_in (List.mem_append_right _ (List.mem_of_getElem? (i := 28) (by decide +kernel))) (by decide)
theorem kw_29 : Cond.fieldLink RX7 9 "TurnFeast$Text" "ofHouses" "Z" ∈ gt := gt_in (List.mem_append_right _ (List.mem_of_getElem? (i := 29) (by decide +kernel))) (by decide)
theorem kw_30 : Cond.fieldLink RX7 15 "TurnFeast$Text" "stride" "I" ∈ gt := gt_in (List.mem_append_right _ (List.mem_of_getElem? (i := 30) (by decide +kernel))) (by decide)
theorem kw_31 : Cond.fieldLink RX7 19 "TurnFeast$Text" "bytes" "[I" ∈ gt := gt_in (List.mem_append_right _ (List.mem_of_getElem? (i := 31) (by decide +kernel))) (by decide)
theorem kw_32 : Cond.fieldLink RX9 95 "TurnFeast$Text" "bytes" "[I" ∈ gt := gt_in (List.mem_append_right _ (List.mem_of_getElem? (i := 32) (by decide +kernel))) (by decide)
theorem kw_33 : Cond.fieldLink RX7 23 "TurnFeast$Text" "length" "I" ∈ gt := gt_in (List.mem_append_right _ (List.mem_of_getElem? (i := 33) (by decide +kernel))) (by decide)
theorem kw_34 : Cond.fieldLink RX9 92 "TurnFeast$Text" "length" "I" ∈ gt := gt_in (List.mem_append_right _ (List.mem_of_getElem? (i := 34) (by decide +kernel))) (by decide)
theorem kw_44 : Cond.arrayClass .int ∈ gt := gt_in (List.mem_append_right _ (List.mem_of_getElem? (i := 44) (by decide +kernel))) (by decide)
theorem kw_45 : Cond.classLink RX9 21 RX4 ∈ gt := gt_in (List.mem_append_right _ (List.mem_of_getElem? (i := 45) (by decide +kernel))) (by decide)
theorem kw_46 : Cond.instantiable RX4 7 ∈ gt := gt_in (List.mem_append_right _ (List.mem_of_getElem? (i := 46) (by decide +kernel))) (by decide)
theorem kw_47 : Cond.methodLinkNest RX9 23 yX4_init "TurnFeast" ∈ lw_tbl := List.mem_append_right _ (List.mem_of_getElem? (i := 47) (by decide +kernel))
theorem kw_48 : Cond.instanceMethod yX4_init ∈ gt := gt_in (List.mem_append_right _ (List.mem_of_getElem? (i := 48) (by decide +kernel))) (by decide)
set_option maxRecDepth 20000 in
theorem kw_49 : Cond.code yX4_init cX4_init 1 none ∈ gt := gt_in (List.mem_append_right _ (List.mem_of_getElem? (i := 49) rfl)) (by decide)
theorem kw_50 : Cond.methodLink RX4 3 objectInit ∈ gt := gt_in (List.mem_append_right _ (List.mem_of_getElem? (i := 50) (by decide +kernel))) (by decide)
theorem kw_51 : Cond.fieldLink RX4 9 "TurnFeast$Row" "kind" "[I" ∈ gt := gt_in (List.mem_append_right _ (List.mem_of_getElem? (i := 51) (by decide +kernel))) (by decide)
theorem kw_52 : Cond.fieldLink RX8 66 "TurnFeast$Row" "kind" "[I" ∈ gt := gt_in (List.mem_append_right _ (List.mem_of_getElem? (i := 52) (by decide +kernel))) (by decide)
theorem kw_53 : Cond.fieldLink RX9 109 "TurnFeast$Row" "kind" "[I" ∈ gt := gt_in (List.mem_append_right _ (List.mem_of_getElem? (i := 53) (by decide +kernel))) (by decide)
theorem kw_54 : Cond.fieldLink RX4 15 "TurnFeast$Row" "portion" "[I" ∈ gt := gt_in (List.mem_append_right _ (List.mem_of_getElem? (i := 54) (by decide +kernel))) (by decide)
theorem kw_55 : Cond.fieldLink RX8 69 "TurnFeast$Row" "portion" "[I" ∈ gt := gt_in (List.mem_append_right _ (List.mem_of_getElem? (i := 55) (by decide +kernel))) (by decide)
theorem kw_56 : Cond.fieldLink RX9 112 "TurnFeast$Row" "portion" "[I" ∈ gt := gt_in (List.mem_append_right _ (List.mem_of_getElem? (i := 56) (by decide +kernel))) (by decide)
theorem kw_57 : Cond.fieldLink RX4 18 "TurnFeast$Row" "cost" "[I" ∈ gt := gt_in (List.mem_append_right _ (List.mem_of_getElem? (i := 57) (by decide +kernel))) (by decide)
theorem kw_58 : Cond.fieldLink RX9 115 "TurnFeast$Row" "cost" "[I" ∈ gt := gt_in (List.mem_append_right _ (List.mem_of_getElem? (i := 58) (by decide +kernel))) (by decide)
theorem kw_59 : Cond.fieldLink RX4 21 "TurnFeast$Row" "order" "[I" ∈ gt := gt_in (List.mem_append_right _ (List.mem_of_getElem? (i := 59) (by decide +kernel))) (by decide)
theorem kw_60 : Cond.fieldLink RX8 59 "TurnFeast$Row" "order" "[I" ∈ gt := gt_in (List.mem_append_right _ (List.mem_of_getElem? (i := 60) (by decide +kernel))) (by decide)
theorem kw_61 : Cond.fieldLink RX9 142 "TurnFeast$Row" "order" "[I" ∈ gt := gt_in (List.mem_append_right _ (List.mem_of_getElem? (i := 61) (by decide +kernel))) (by decide)
theorem kw_62 : Cond.fieldLink RX4 24 "TurnFeast$Row" "count" "I" ∈ gt := gt_in (List.mem_append_right _ (List.mem_of_getElem? (i := 62) (by decide +kernel))) (by decide)
theorem kw_63 : Cond.fieldLink RX8 54 "TurnFeast$Row" "count" "I" ∈ gt := gt_in (List.mem_append_right _ (List.mem_of_getElem? (i := 63) (by decide +kernel))) (by decide)
theorem kw_64 : Cond.fieldLink RX9 139 "TurnFeast$Row" "count" "I" ∈ gt := gt_in (List.mem_append_right _ (List.mem_of_getElem? (i := 64) (by decide +kernel))) (by decide)
theorem kw_65 : Cond.fieldLink RX4 28 "TurnFeast$Row" "turned" "I" ∈ gt := gt_in (List.mem_append_right _ (List.mem_of_getElem? (i := 65) (by decide +kernel))) (by decide)
theorem kw_66 : Cond.fieldLink RX9 133 "TurnFeast$Row" "turned" "I" ∈ gt := gt_in (List.mem_append_right _ (List.mem_of_getElem? (i := 66) (by decide +kernel))) (by decide)
theorem kw_67 : Cond.fieldLink RX4 31 "TurnFeast$Row" "empty" "I" ∈ gt := gt_in (List.mem_append_right _ (List.mem_of_getElem? (i := 67) (by decide +kernel))) (by decide)
theorem kw_68 : Cond.fieldLink RX9 136 "TurnFeast$Row" "empty" "I" ∈ gt := gt_in (List.mem_append_right _ (List.mem_of_getElem? (i := 68) (by decide +kernel))) (by decide)
theorem kw_84 : Cond.classLink RX9 28 RX2 ∈ gt := gt_in (List.mem_append_right _ (List.mem_of_getElem? (i := 84) (by decide +kernel))) (by decide)
theorem kw_85 : Cond.instantiable RX2 5 ∈ gt := gt_in (List.mem_append_right _ (List.mem_of_getElem? (i := 85) (by decide +kernel))) (by decide)
theorem kw_86 : Cond.methodLinkNest RX9 30 yX2_init "TurnFeast" ∈ lw_tbl := List.mem_append_right _ (List.mem_of_getElem? (i := 86) (by decide +kernel))
theorem kw_87 : Cond.instanceMethod yX2_init ∈ gt := gt_in (List.mem_append_right _ (List.mem_of_getElem? (i := 87) (by decide +kernel))) (by decide)
set_option maxRecDepth 20000 in
theorem kw_88 : Cond.code yX2_init cX2_init 1 none ∈ gt := gt_in (List.mem_append_right _ (List.mem_of_getElem? (i := 88) rfl)) (by decide)
theorem kw_89 : Cond.methodLink RX2 3 objectInit ∈ gt := gt_in (List.mem_append_right _ (List.mem_of_getElem? (i := 89) (by decide +kernel))) (by decide)
theorem kw_90 : Cond.fieldLink RX2 9 "TurnFeast$Guests" "hunger" "[I" ∈ gt := gt_in (List.mem_append_right _ (List.mem_of_getElem? (i := 90) (by decide +kernel))) (by decide)
theorem kw_91 : Cond.fieldLink RX8 47 "TurnFeast$Guests" "hunger" "[I" ∈ gt := gt_in (List.mem_append_right _ (List.mem_of_getElem? (i := 91) (by decide +kernel))) (by decide)
theorem kw_92 : Cond.fieldLink RX9 121 "TurnFeast$Guests" "hunger" "[I" ∈ gt := gt_in (List.mem_append_right _ (List.mem_of_getElem? (i := 92) (by decide +kernel))) (by decide)
theorem kw_93 : Cond.fieldLink RX2 15 "TurnFeast$Guests" "begins" "[I" ∈ gt := gt_in (List.mem_append_right _ (List.mem_of_getElem? (i := 93) (by decide +kernel))) (by decide)
theorem kw_94 : Cond.fieldLink RX8 35 "TurnFeast$Guests" "begins" "[I" ∈ gt := gt_in (List.mem_append_right _ (List.mem_of_getElem? (i := 94) (by decide +kernel))) (by decide)
theorem kw_95 : Cond.fieldLink RX9 124 "TurnFeast$Guests" "begins" "[I" ∈ gt := gt_in (List.mem_append_right _ (List.mem_of_getElem? (i := 95) (by decide +kernel))) (by decide)
theorem kw_96 : Cond.fieldLink RX2 18 "TurnFeast$Guests" "down" "[I" ∈ gt := gt_in (List.mem_append_right _ (List.mem_of_getElem? (i := 96) (by decide +kernel))) (by decide)
theorem kw_97 : Cond.fieldLink RX8 40 "TurnFeast$Guests" "down" "[I" ∈ gt := gt_in (List.mem_append_right _ (List.mem_of_getElem? (i := 97) (by decide +kernel))) (by decide)
theorem kw_98 : Cond.fieldLink RX9 127 "TurnFeast$Guests" "down" "[I" ∈ gt := gt_in (List.mem_append_right _ (List.mem_of_getElem? (i := 98) (by decide +kernel))) (by decide)
theorem kw_99 : Cond.fieldLink RX2 21 "TurnFeast$Guests" "turns" "[I" ∈ gt := gt_in (List.mem_append_right _ (List.mem_of_getElem? (i := 99) (by decide +kernel))) (by decide)
theorem kw_100 : Cond.fieldLink RX8 72 "TurnFeast$Guests" "turns" "[I" ∈ gt := gt_in (List.mem_append_right _ (List.mem_of_getElem? (i := 100) (by decide +kernel))) (by decide)
theorem kw_101 : Cond.fieldLink RX9 130 "TurnFeast$Guests" "turns" "[I" ∈ gt := gt_in (List.mem_append_right _ (List.mem_of_getElem? (i := 101) (by decide +kernel))) (by decide)
theorem kw_102 : Cond.fieldLink RX2 24 "TurnFeast$Guests" "count" "I" ∈ gt := gt_in (List.mem_append_right _ (List.mem_of_getElem? (i := 102) (by decide +kernel))) (by decide)
theorem kw_103 : Cond.fieldLink RX1 37 "TurnFeast$Guests" "count" "I" ∈ gt := gt_in (List.mem_append_right _ (List.mem_of_getElem? (i := 103) (by decide +kernel))) (by decide)
theorem kw_104 : Cond.fieldLink RX9 224 "TurnFeast$Guests" "count" "I" ∈ gt := gt_in (List.mem_append_right _ (List.mem_of_getElem? (i := 104) (by decide +kernel))) (by decide)
theorem kw_116 : Cond.classLink RX9 35 RX1 ∈ gt := gt_in (List.mem_append_right _ (List.mem_of_getElem? (i := 116) (by decide +kernel))) (by decide)
theorem kw_117 : Cond.instantiable RX1 8 ∈ gt := gt_in (List.mem_append_right _ (List.mem_of_getElem? (i := 117) (by decide +kernel))) (by decide)
theorem kw_118 : Cond.methodLinkNest RX9 37 yX1_init "TurnFeast" ∈ lw_tbl := List.mem_append_right _ (List.mem_of_getElem? (i := 118) (by decide +kernel))
theorem kw_119 : Cond.instanceMethod yX1_init ∈ gt := gt_in (List.mem_append_right _ (List.mem_of_getElem? (i := 119) (by decide +kernel))) (by decide)
set_option maxRecDepth 20000 in
theorem kw_120 : Cond.code yX1_init cX1_init 1 none ∈ gt := gt_in (List.mem_append_right _ (List.mem_of_getElem? (i := 120) rfl)) (by decide)
theorem kw_121 : Cond.methodLink RX1 3 objectInit ∈ gt := gt_in (List.mem_append_right _ (List.mem_of_getElem? (i := 121) (by decide +kernel))) (by decide)
theorem kw_122 : Cond.fieldLink RX1 9 "TurnFeast$Feast" "given" "[I" ∈ gt := gt_in (List.mem_append_right _ (List.mem_of_getElem? (i := 122) (by decide +kernel))) (by decide)
theorem kw_123 : Cond.fieldLink RX1 15 "TurnFeast$Feast" "sleeps" "[I" ∈ gt := gt_in (List.mem_append_right _ (List.mem_of_getElem? (i := 123) (by decide +kernel))) (by decide)
theorem kw_124 : Cond.fieldLink RX9 149 "TurnFeast$Feast" "sleeps" "[I" ∈ gt := gt_in (List.mem_append_right _ (List.mem_of_getElem? (i := 124) (by decide +kernel))) (by decide)
theorem kw_125 : Cond.fieldLink RX1 18 "TurnFeast$Feast" "left" "[I" ∈ gt := gt_in (List.mem_append_right _ (List.mem_of_getElem? (i := 125) (by decide +kernel))) (by decide)
theorem kw_126 : Cond.fieldLink RX9 152 "TurnFeast$Feast" "left" "[I" ∈ gt := gt_in (List.mem_append_right _ (List.mem_of_getElem? (i := 126) (by decide +kernel))) (by decide)
theorem kw_127 : Cond.fieldLink RX1 21 "TurnFeast$Feast" "refused" "[I" ∈ gt := gt_in (List.mem_append_right _ (List.mem_of_getElem? (i := 127) (by decide +kernel))) (by decide)
theorem kw_128 : Cond.fieldLink RX9 155 "TurnFeast$Feast" "refused" "[I" ∈ gt := gt_in (List.mem_append_right _ (List.mem_of_getElem? (i := 128) (by decide +kernel))) (by decide)
theorem kw_129 : Cond.fieldLink RX1 24 "TurnFeast$Feast" "doors" "[I" ∈ gt := gt_in (List.mem_append_right _ (List.mem_of_getElem? (i := 129) (by decide +kernel))) (by decide)
theorem kw_130 : Cond.fieldLink RX9 158 "TurnFeast$Feast" "doors" "[I" ∈ gt := gt_in (List.mem_append_right _ (List.mem_of_getElem? (i := 130) (by decide +kernel))) (by decide)
theorem kw_131 : Cond.fieldLink RX1 27 "TurnFeast$Feast" "total" "[I" ∈ gt := gt_in (List.mem_append_right _ (List.mem_of_getElem? (i := 131) (by decide +kernel))) (by decide)
theorem kw_132 : Cond.fieldLink RX9 161 "TurnFeast$Feast" "total" "[I" ∈ gt := gt_in (List.mem_append_right _ (List.mem_of_getElem? (i := 132) (by decide +kernel))) (by decide)
theorem kw_133 : Cond.fieldLink RX1 30 "TurnFeast$Feast" "tales" "[I" ∈ gt := gt_in (List.mem_append_right _ (List.mem_of_getElem? (i := 133) (by decide +kernel))) (by decide)
theorem kw_134 : Cond.fieldLink RX9 164 "TurnFeast$Feast" "tales" "[I" ∈ gt := gt_in (List.mem_append_right _ (List.mem_of_getElem? (i := 134) (by decide +kernel))) (by decide)
theorem kw_135 : Cond.fieldLink RX1 33 "TurnFeast$Feast" "visited" "I" ∈ gt := gt_in (List.mem_append_right _ (List.mem_of_getElem? (i := 135) (by decide +kernel))) (by decide)
theorem kw_136 : Cond.fieldLink RX9 167 "TurnFeast$Feast" "visited" "I" ∈ gt := gt_in (List.mem_append_right _ (List.mem_of_getElem? (i := 136) (by decide +kernel))) (by decide)
theorem kw_154 : Cond.classLink RX9 42 RX6 ∈ gt := gt_in (List.mem_append_right _ (List.mem_of_getElem? (i := 154) (by decide +kernel))) (by decide)
theorem kw_155 : Cond.instantiable RX6 3 ∈ gt := gt_in (List.mem_append_right _ (List.mem_of_getElem? (i := 155) (by decide +kernel))) (by decide)
theorem kw_156 : Cond.methodLinkNest RX9 44 yX6_init "TurnFeast" ∈ lw_tbl := List.mem_append_right _ (List.mem_of_getElem? (i := 156) (by decide +kernel))
theorem kw_157 : Cond.instanceMethod yX6_init ∈ gt := gt_in (List.mem_append_right _ (List.mem_of_getElem? (i := 157) (by decide +kernel))) (by decide)
set_option maxRecDepth 20000 in
theorem kw_158 : Cond.code yX6_init cX6_init 1 none ∈ gt := gt_in (List.mem_append_right _ (List.mem_of_getElem? (i := 158) rfl)) (by decide)
theorem kw_159 : Cond.methodLink RX6 3 objectInit ∈ gt := gt_in (List.mem_append_right _ (List.mem_of_getElem? (i := 159) (by decide +kernel))) (by decide)
theorem kw_160 : Cond.fieldLink RX6 9 "TurnFeast$Sights" "house" "[I" ∈ gt := gt_in (List.mem_append_right _ (List.mem_of_getElem? (i := 160) (by decide +kernel))) (by decide)
theorem kw_161 : Cond.fieldLink RX9 353 "TurnFeast$Sights" "house" "[I" ∈ gt := gt_in (List.mem_append_right _ (List.mem_of_getElem? (i := 161) (by decide +kernel))) (by decide)
theorem kw_162 : Cond.fieldLink RX6 15 "TurnFeast$Sights" "much" "[I" ∈ gt := gt_in (List.mem_append_right _ (List.mem_of_getElem? (i := 162) (by decide +kernel))) (by decide)
theorem kw_163 : Cond.fieldLink RX9 356 "TurnFeast$Sights" "much" "[I" ∈ gt := gt_in (List.mem_append_right _ (List.mem_of_getElem? (i := 163) (by decide +kernel))) (by decide)
theorem kw_164 : Cond.fieldLink RX6 18 "TurnFeast$Sights" "count" "I" ∈ gt := gt_in (List.mem_append_right _ (List.mem_of_getElem? (i := 164) (by decide +kernel))) (by decide)
theorem kw_165 : Cond.fieldLink RX9 204 "TurnFeast$Sights" "count" "I" ∈ gt := gt_in (List.mem_append_right _ (List.mem_of_getElem? (i := 165) (by decide +kernel))) (by decide)
theorem kw_173 : Cond.classLink RX9 49 RX5 ∈ gt := gt_in (List.mem_append_right _ (List.mem_of_getElem? (i := 173) (by decide +kernel))) (by decide)
theorem kw_174 : Cond.instantiable RX5 3 ∈ gt := gt_in (List.mem_append_right _ (List.mem_of_getElem? (i := 174) (by decide +kernel))) (by decide)
theorem kw_175 : Cond.methodLinkNest RX9 51 yX5_init "TurnFeast" ∈ lw_tbl := List.mem_append_right _ (List.mem_of_getElem? (i := 175) (by decide +kernel))
theorem kw_176 : Cond.instanceMethod yX5_init ∈ gt := gt_in (List.mem_append_right _ (List.mem_of_getElem? (i := 176) (by decide +kernel))) (by decide)
set_option maxRecDepth 20000 in
theorem kw_177 : Cond.code yX5_init cX5_init 1 none ∈ gt := gt_in (List.mem_append_right _ (List.mem_of_getElem? (i := 177) rfl)) (by decide)
theorem kw_178 : Cond.methodLink RX5 1 objectInit ∈ gt := gt_in (List.mem_append_right _ (List.mem_of_getElem? (i := 178) (by decide +kernel))) (by decide)
theorem kw_179 : Cond.fieldLink RX5 9 "TurnFeast$Sheets" "items" "[I" ∈ gt := gt_in (List.mem_append_right _ (List.mem_of_getElem? (i := 179) (by decide +kernel))) (by decide)
theorem kw_180 : Cond.fieldLink RX5 13 "TurnFeast$Sheets" "form" "[I" ∈ gt := gt_in (List.mem_append_right _ (List.mem_of_getElem? (i := 180) (by decide +kernel))) (by decide)
theorem kw_181 : Cond.fieldLink RX9 270 "TurnFeast$Sheets" "form" "[I" ∈ gt := gt_in (List.mem_append_right _ (List.mem_of_getElem? (i := 181) (by decide +kernel))) (by decide)
theorem kw_182 : Cond.fieldLink RX5 16 "TurnFeast$Sheets" "size" "[I" ∈ gt := gt_in (List.mem_append_right _ (List.mem_of_getElem? (i := 182) (by decide +kernel))) (by decide)
theorem kw_183 : Cond.fieldLink RX9 218 "TurnFeast$Sheets" "size" "[I" ∈ gt := gt_in (List.mem_append_right _ (List.mem_of_getElem? (i := 183) (by decide +kernel))) (by decide)
theorem kw_191 : Cond.classLink RX9 56 RX0 ∈ gt := gt_in (List.mem_append_right _ (List.mem_of_getElem? (i := 191) (by decide +kernel))) (by decide)
theorem kw_192 : Cond.instantiable RX0 3 ∈ gt := gt_in (List.mem_append_right _ (List.mem_of_getElem? (i := 192) (by decide +kernel))) (by decide)
theorem kw_193 : Cond.methodLinkNest RX9 58 yX0_init "TurnFeast" ∈ lw_tbl := List.mem_append_right _ (List.mem_of_getElem? (i := 193) (by decide +kernel))
theorem kw_194 : Cond.instanceMethod yX0_init ∈ gt := gt_in (List.mem_append_right _ (List.mem_of_getElem? (i := 194) (by decide +kernel))) (by decide)
set_option maxRecDepth 20000 in
theorem kw_195 : Cond.code yX0_init cX0_init 1 none ∈ gt := gt_in (List.mem_append_right _ (List.mem_of_getElem? (i := 195) rfl)) (by decide)
theorem kw_196 : Cond.methodLink RX0 1 objectInit ∈ gt := gt_in (List.mem_append_right _ (List.mem_of_getElem? (i := 196) (by decide +kernel))) (by decide)
theorem kw_197 : Cond.fieldLink RX0 9 "TurnFeast$Chances" "parts" "[J" ∈ gt := gt_in (List.mem_append_right _ (List.mem_of_getElem? (i := 197) (by decide +kernel))) (by decide)
theorem kw_198 : Cond.fieldLink RX0 13 "TurnFeast$Chances" "above" "J" ∈ gt := gt_in (List.mem_append_right _ (List.mem_of_getElem? (i := 198) (by decide +kernel))) (by decide)
theorem kw_199 : Cond.fieldLink RX9 247 "TurnFeast$Chances" "above" "J" ∈ gt := gt_in (List.mem_append_right _ (List.mem_of_getElem? (i := 199) (by decide +kernel))) (by decide)
theorem kw_200 : Cond.fieldLink RX0 17 "TurnFeast$Chances" "below" "J" ∈ gt := gt_in (List.mem_append_right _ (List.mem_of_getElem? (i := 200) (by decide +kernel))) (by decide)
theorem kw_201 : Cond.fieldLink RX9 251 "TurnFeast$Chances" "below" "J" ∈ gt := gt_in (List.mem_append_right _ (List.mem_of_getElem? (i := 201) (by decide +kernel))) (by decide)
theorem kw_209 : Cond.arrayClass .long ∈ gt := gt_in (List.mem_append_right _ (List.mem_of_getElem? (i := 209) (by decide +kernel))) (by decide)
theorem kw_210 : Cond.classLink RX9 66 RX8 ∈ gt := gt_in (List.mem_append_right _ (List.mem_of_getElem? (i := 210) (by decide +kernel))) (by decide)
theorem kw_211 : Cond.instantiable RX8 7 ∈ gt := gt_in (List.mem_append_right _ (List.mem_of_getElem? (i := 211) (by decide +kernel))) (by decide)
theorem kw_212 : Cond.methodLinkNest RX9 68 yX8_init "TurnFeast" ∈ lw_tbl := List.mem_append_right _ (List.mem_of_getElem? (i := 212) (by decide +kernel))
theorem kw_213 : Cond.instanceMethod yX8_init ∈ gt := gt_in (List.mem_append_right _ (List.mem_of_getElem? (i := 213) (by decide +kernel))) (by decide)
set_option maxRecDepth 20000 in
theorem kw_214 : Cond.code yX8_init cX8_init 1 none ∈ gt := gt_in (List.mem_append_right _ (List.mem_of_getElem? (i := 214) rfl)) (by decide)
theorem kw_215 : Cond.methodLink RX8 3 objectInit ∈ gt := gt_in (List.mem_append_right _ (List.mem_of_getElem? (i := 215) (by decide +kernel))) (by decide)
theorem kw_216 : Cond.fieldLink RX8 9 "TurnFeast$Walk" "gave" "[I" ∈ gt := gt_in (List.mem_append_right _ (List.mem_of_getElem? (i := 216) (by decide +kernel))) (by decide)
theorem kw_217 : Cond.fieldLink RX1 61 "TurnFeast$Walk" "gave" "[I" ∈ gt := gt_in (List.mem_append_right _ (List.mem_of_getElem? (i := 217) (by decide +kernel))) (by decide)
theorem kw_218 : Cond.fieldLink RX9 342 "TurnFeast$Walk" "gave" "[I" ∈ gt := gt_in (List.mem_append_right _ (List.mem_of_getElem? (i := 218) (by decide +kernel))) (by decide)
theorem kw_219 : Cond.fieldLink RX8 15 "TurnFeast$Walk" "sleeps" "I" ∈ gt := gt_in (List.mem_append_right _ (List.mem_of_getElem? (i := 219) (by decide +kernel))) (by decide)
theorem kw_220 : Cond.fieldLink RX1 52 "TurnFeast$Walk" "sleeps" "I" ∈ gt := gt_in (List.mem_append_right _ (List.mem_of_getElem? (i := 220) (by decide +kernel))) (by decide)
theorem kw_221 : Cond.fieldLink RX9 198 "TurnFeast$Walk" "sleeps" "I" ∈ gt := gt_in (List.mem_append_right _ (List.mem_of_getElem? (i := 221) (by decide +kernel))) (by decide)
theorem kw_222 : Cond.fieldLink RX8 19 "TurnFeast$Walk" "left" "I" ∈ gt := gt_in (List.mem_append_right _ (List.mem_of_getElem? (i := 222) (by decide +kernel))) (by decide)
theorem kw_223 : Cond.fieldLink RX1 54 "TurnFeast$Walk" "left" "I" ∈ gt := gt_in (List.mem_append_right _ (List.mem_of_getElem? (i := 223) (by decide +kernel))) (by decide)
theorem kw_224 : Cond.fieldLink RX8 22 "TurnFeast$Walk" "refused" "I" ∈ gt := gt_in (List.mem_append_right _ (List.mem_of_getElem? (i := 224) (by decide +kernel))) (by decide)
theorem kw_225 : Cond.fieldLink RX1 56 "TurnFeast$Walk" "refused" "I" ∈ gt := gt_in (List.mem_append_right _ (List.mem_of_getElem? (i := 225) (by decide +kernel))) (by decide)
theorem kw_226 : Cond.fieldLink RX8 25 "TurnFeast$Walk" "doors" "I" ∈ gt := gt_in (List.mem_append_right _ (List.mem_of_getElem? (i := 226) (by decide +kernel))) (by decide)
theorem kw_227 : Cond.fieldLink RX1 58 "TurnFeast$Walk" "doors" "I" ∈ gt := gt_in (List.mem_append_right _ (List.mem_of_getElem? (i := 227) (by decide +kernel))) (by decide)
theorem kw_228 : Cond.fieldLink RX8 28 "TurnFeast$Walk" "visited" "I" ∈ gt := gt_in (List.mem_append_right _ (List.mem_of_getElem? (i := 228) (by decide +kernel))) (by decide)
theorem kw_229 : Cond.fieldLink RX1 60 "TurnFeast$Walk" "visited" "I" ∈ gt := gt_in (List.mem_append_right _ (List.mem_of_getElem? (i := 229) (by decide +kernel))) (by decide)
theorem kw_230 : Cond.fieldLink RX8 31 "TurnFeast$Walk" "salted" "Z" ∈ gt := gt_in (List.mem_append_right _ (List.mem_of_getElem? (i := 230) (by decide +kernel))) (by decide)
theorem kw_246 : Cond.classLink RX9 73 RX3 ∈ gt := gt_in (List.mem_append_right _ (List.mem_of_getElem? (i := 246) (by decide +kernel))) (by decide)
theorem kw_247 : Cond.instantiable RX3 3 ∈ gt := gt_in (List.mem_append_right _ (List.mem_of_getElem? (i := 247) (by decide +kernel))) (by decide)
theorem kw_248 : Cond.methodLinkNest RX9 75 yX3_init "TurnFeast" ∈ lw_tbl := List.mem_append_right _ (List.mem_of_getElem? (i := 248) (by decide +kernel))
theorem kw_249 : Cond.instanceMethod yX3_init ∈ gt := gt_in (List.mem_append_right _ (List.mem_of_getElem? (i := 249) (by decide +kernel))) (by decide)
set_option maxRecDepth 20000 in
theorem kw_250 : Cond.code yX3_init cX3_init 1 none ∈ gt := gt_in (List.mem_append_right _ (List.mem_of_getElem? (i := 250) rfl)) (by decide)
theorem kw_251 : Cond.methodLink RX3 3 objectInit ∈ gt := gt_in (List.mem_append_right _ (List.mem_of_getElem? (i := 251) (by decide +kernel))) (by decide)
theorem kw_252 : Cond.fieldLink RX3 9 "TurnFeast$Plan" "choice" "I" ∈ gt := gt_in (List.mem_append_right _ (List.mem_of_getElem? (i := 252) (by decide +kernel))) (by decide)
theorem kw_253 : Cond.fieldLink RX9 174 "TurnFeast$Plan" "choice" "I" ∈ gt := gt_in (List.mem_append_right _ (List.mem_of_getElem? (i := 253) (by decide +kernel))) (by decide)
theorem kw_254 : Cond.fieldLink RX3 15 "TurnFeast$Plan" "gives" "I" ∈ gt := gt_in (List.mem_append_right _ (List.mem_of_getElem? (i := 254) (by decide +kernel))) (by decide)
theorem kw_255 : Cond.fieldLink RX9 177 "TurnFeast$Plan" "gives" "I" ∈ gt := gt_in (List.mem_append_right _ (List.mem_of_getElem? (i := 255) (by decide +kernel))) (by decide)
theorem kw_256 : Cond.fieldLink RX3 18 "TurnFeast$Plan" "tales" "I" ∈ gt := gt_in (List.mem_append_right _ (List.mem_of_getElem? (i := 256) (by decide +kernel))) (by decide)
theorem kw_264 : Cond.fieldLink RX9 12 "TurnFeast" "houseText" "LTurnFeast$Text;" ∈ gt := gt_in (List.mem_append_right _ (List.mem_of_getElem? (i := 264) (by decide +kernel))) (by decide)
theorem kw_265 : Cond.fieldLink RX9 18 "TurnFeast" "guestText" "LTurnFeast$Text;" ∈ gt := gt_in (List.mem_append_right _ (List.mem_of_getElem? (i := 265) (by decide +kernel))) (by decide)
theorem kw_266 : Cond.fieldLink RX9 24 "TurnFeast" "row" "LTurnFeast$Row;" ∈ gt := gt_in (List.mem_append_right _ (List.mem_of_getElem? (i := 266) (by decide +kernel))) (by decide)
theorem kw_267 : Cond.fieldLink RX9 31 "TurnFeast" "guests" "LTurnFeast$Guests;" ∈ gt := gt_in (List.mem_append_right _ (List.mem_of_getElem? (i := 267) (by decide +kernel))) (by decide)
theorem kw_268 : Cond.fieldLink RX9 38 "TurnFeast" "feast" "LTurnFeast$Feast;" ∈ gt := gt_in (List.mem_append_right _ (List.mem_of_getElem? (i := 268) (by decide +kernel))) (by decide)
theorem kw_269 : Cond.fieldLink RX9 45 "TurnFeast" "sights" "LTurnFeast$Sights;" ∈ gt := gt_in (List.mem_append_right _ (List.mem_of_getElem? (i := 269) (by decide +kernel))) (by decide)
theorem kw_270 : Cond.fieldLink RX9 52 "TurnFeast" "sheets" "LTurnFeast$Sheets;" ∈ gt := gt_in (List.mem_append_right _ (List.mem_of_getElem? (i := 270) (by decide +kernel))) (by decide)
theorem kw_271 : Cond.fieldLink RX9 59 "TurnFeast" "chances" "LTurnFeast$Chances;" ∈ gt := gt_in (List.mem_append_right _ (List.mem_of_getElem? (i := 271) (by decide +kernel))) (by decide)
theorem kw_272 : Cond.fieldLink RX9 63 "TurnFeast" "trial" "LTurnFeast$Row;" ∈ gt := gt_in (List.mem_append_right _ (List.mem_of_getElem? (i := 272) (by decide +kernel))) (by decide)
theorem kw_273 : Cond.fieldLink RX9 69 "TurnFeast" "walk" "LTurnFeast$Walk;" ∈ gt := gt_in (List.mem_append_right _ (List.mem_of_getElem? (i := 273) (by decide +kernel))) (by decide)
theorem kw_274 : Cond.fieldLink RX9 76 "TurnFeast" "plan" "LTurnFeast$Plan;" ∈ gt := gt_in (List.mem_append_right _ (List.mem_of_getElem? (i := 274) (by decide +kernel))) (by decide)
theorem kw_275 : Cond.fieldLink RX9 80 "TurnFeast" "finding" "I" ∈ gt := gt_in (List.mem_append_right _ (List.mem_of_getElem? (i := 275) (by decide +kernel))) (by decide)
theorem kw_301 : Cond.methodLink RL 13 yX9_type ∈ gt := gt_in (List.mem_append_right _ (List.mem_of_getElem? (i := 301) (by decide +kernel))) (by decide)
theorem kw_302 : Cond.instanceMethod yX9_type ∈ gt := gt_in (List.mem_append_right _ (List.mem_of_getElem? (i := 302) (by decide +kernel))) (by decide)
theorem kw_303 : Cond.selects RX9 yX9_type yX9_type ∈ gt := gt_in (List.mem_append_right _ (List.mem_of_getElem? (i := 303) (by decide +kernel))) (by decide)
set_option maxRecDepth 20000 in
theorem kw_304 : Cond.code yX9_type cX9_type 4 (some .int) ∈ gt := gt_in (List.mem_append_right _ (List.mem_of_getElem? (i := 304) rfl)) (by decide)
theorem kw_305 : Cond.methodLink RX9 84 yX9_isBit ∈ gt := gt_in (List.mem_append_right _ (List.mem_of_getElem? (i := 305) (by decide +kernel))) (by decide)
theorem kw_306 : Cond.static yX9_isBit ∈ gt := gt_in (List.mem_append_right _ (List.mem_of_getElem? (i := 306) (by decide +kernel))) (by decide)
set_option maxRecDepth 20000 in
theorem kw_307 : Cond.code yX9_isBit cX9_isBit 1 (some .boolean) ∈ gt := gt_in (List.mem_append_right _ (List.mem_of_getElem? (i := 307) rfl)) (by decide)
theorem kw_308 : Cond.methodLink RX9 88 yX9_textOf ∈ gt := gt_in (List.mem_append_right _ (List.mem_of_getElem? (i := 308) (by decide +kernel))) (by decide)
theorem kw_310 : Cond.instanceMethod yX9_textOf ∈ gt := gt_in (List.mem_append_right _ (List.mem_of_getElem? (i := 310) (by decide +kernel))) (by decide)
set_option maxRecDepth 20000 in
theorem kw_311 : Cond.code yX9_textOf cX9_textOf 2 (some (.object "TurnFeast$Text")) ∈ gt := gt_in (List.mem_append_right _ (List.mem_of_getElem? (i := 311) rfl)) (by decide)
theorem kw_312 : Cond.methodLink RX9 99 yX9_refresh ∈ gt := gt_in (List.mem_append_right _ (List.mem_of_getElem? (i := 312) (by decide +kernel))) (by decide)
theorem kw_314 : Cond.instanceMethod yX9_refresh ∈ gt := gt_in (List.mem_append_right _ (List.mem_of_getElem? (i := 314) (by decide +kernel))) (by decide)
set_option maxRecDepth 20000 in
theorem kw_315 : Cond.code yX9_refresh cX9_refresh 1 none ∈ gt := gt_in (List.mem_append_right _ (List.mem_of_getElem? (i := 315) rfl)) (by decide)
theorem kw_316 : Cond.methodLink RX9 323 yX4_parse ∈ gt := gt_in (List.mem_append_right _ (List.mem_of_getElem? (i := 316) (by decide +kernel))) (by decide)
theorem kw_317 : Cond.instanceMethod yX4_parse ∈ gt := gt_in (List.mem_append_right _ (List.mem_of_getElem? (i := 317) (by decide +kernel))) (by decide)
theorem kw_318 : Cond.selects RX4 yX4_parse yX4_parse ∈ gt := gt_in (List.mem_append_right _ (List.mem_of_getElem? (i := 318) (by decide +kernel))) (by decide)
set_option maxRecDepth 20000 in
theorem kw_319 : Cond.code yX4_parse cX4_parse 3 none ∈ gt := gt_in (List.mem_append_right _ (List.mem_of_getElem? (i := 319) rfl)) (by decide)
theorem kw_320 : Cond.methodLink RX4 34 yX7_things ∈ gt := gt_in (List.mem_append_right _ (List.mem_of_getElem? (i := 320) (by decide +kernel))) (by decide)
theorem kw_321 : Cond.instanceMethod yX7_things ∈ gt := gt_in (List.mem_append_right _ (List.mem_of_getElem? (i := 321) (by decide +kernel))) (by decide)
theorem kw_322 : Cond.selects RX7 yX7_things yX7_things ∈ gt := gt_in (List.mem_append_right _ (List.mem_of_getElem? (i := 322) (by decide +kernel))) (by decide)
set_option maxRecDepth 20000 in
theorem kw_323 : Cond.code yX7_things cX7_things 1 (some .int) ∈ gt := gt_in (List.mem_append_right _ (List.mem_of_getElem? (i := 323) rfl)) (by decide)
theorem kw_324 : Cond.methodLink RX7 33 yX7_firstFault ∈ gt := gt_in (List.mem_append_right _ (List.mem_of_getElem? (i := 324) (by decide +kernel))) (by decide)
theorem kw_325 : Cond.instanceMethod yX7_firstFault ∈ gt := gt_in (List.mem_append_right _ (List.mem_of_getElem? (i := 325) (by decide +kernel))) (by decide)
theorem kw_326 : Cond.selects RX7 yX7_firstFault yX7_firstFault ∈ gt := gt_in (List.mem_append_right _ (List.mem_of_getElem? (i := 326) (by decide +kernel))) (by decide)
set_option maxRecDepth 20000 in
theorem kw_327 : Cond.code yX7_firstFault cX7_firstFault 4 (some .int) ∈ gt := gt_in (List.mem_append_right _ (List.mem_of_getElem? (i := 327) rfl)) (by decide)
theorem kw_328 : Cond.methodLink RX7 26 yX7_fitsHouse ∈ gt := gt_in (List.mem_append_right _ (List.mem_of_getElem? (i := 328) (by decide +kernel))) (by decide)
theorem kw_329 : Cond.static yX7_fitsHouse ∈ gt := gt_in (List.mem_append_right _ (List.mem_of_getElem? (i := 329) (by decide +kernel))) (by decide)
set_option maxRecDepth 20000 in
theorem kw_330 : Cond.code yX7_fitsHouse cX7_fitsHouse 2 (some .boolean) ∈ gt := gt_in (List.mem_append_right _ (List.mem_of_getElem? (i := 330) rfl)) (by decide)
theorem kw_331 : Cond.methodLink RX7 41 yX7_kindOf ∈ gt := gt_in (List.mem_append_right _ (List.mem_of_getElem? (i := 331) (by decide +kernel))) (by decide)
theorem kw_332 : Cond.static yX7_kindOf ∈ gt := gt_in (List.mem_append_right _ (List.mem_of_getElem? (i := 332) (by decide +kernel))) (by decide)
set_option maxRecDepth 20000 in
theorem kw_333 : Cond.code yX7_kindOf cX7_kindOf 1 (some .int) ∈ gt := gt_in (List.mem_append_right _ (List.mem_of_getElem? (i := 333) rfl)) (by decide)
theorem kw_334 : Cond.methodLink RX7 30 yX7_fitsGuest ∈ gt := gt_in (List.mem_append_right _ (List.mem_of_getElem? (i := 334) (by decide +kernel))) (by decide)
theorem kw_335 : Cond.static yX7_fitsGuest ∈ gt := gt_in (List.mem_append_right _ (List.mem_of_getElem? (i := 335) (by decide +kernel))) (by decide)
set_option maxRecDepth 20000 in
theorem kw_336 : Cond.code yX7_fitsGuest cX7_fitsGuest 2 (some .boolean) ∈ gt := gt_in (List.mem_append_right _ (List.mem_of_getElem? (i := 336) rfl)) (by decide)
theorem kw_337 : Cond.methodLink RX4 40 yJ9_min_7cf53 ∈ gt := gt_in (List.mem_append_right _ (List.mem_of_getElem? (i := 337) (by decide +kernel))) (by decide)
theorem kw_338 : Cond.static yJ9_min_7cf53 ∈ gt := gt_in (List.mem_append_right _ (List.mem_of_getElem? (i := 338) (by decide +kernel))) (by decide)
set_option maxRecDepth 20000 in
theorem kw_339 : Cond.code yJ9_min_7cf53 cJ9_min_7cf53 2 (some .int) ∈ gt := gt_in (List.mem_append_right _ (List.mem_of_getElem? (i := 339) rfl)) (by decide)
theorem kw_340 : Cond.methodLink RX4 46 yX7_byteOf ∈ gt := gt_in (List.mem_append_right _ (List.mem_of_getElem? (i := 340) (by decide +kernel))) (by decide)
theorem kw_341 : Cond.instanceMethod yX7_byteOf ∈ gt := gt_in (List.mem_append_right _ (List.mem_of_getElem? (i := 341) (by decide +kernel))) (by decide)
theorem kw_342 : Cond.selects RX7 yX7_byteOf yX7_byteOf ∈ gt := gt_in (List.mem_append_right _ (List.mem_of_getElem? (i := 342) (by decide +kernel))) (by decide)
set_option maxRecDepth 20000 in
theorem kw_343 : Cond.code yX7_byteOf cX7_byteOf 4 (some .int) ∈ gt := gt_in (List.mem_append_right _ (List.mem_of_getElem? (i := 343) rfl)) (by decide)
theorem kw_344 : Cond.methodLink RX4 49 yX7_kindOf ∈ gt := gt_in (List.mem_append_right _ (List.mem_of_getElem? (i := 344) (by decide +kernel))) (by decide)
theorem kw_345 : Cond.methodLink RX4 53 yX7_figureOf ∈ gt := gt_in (List.mem_append_right _ (List.mem_of_getElem? (i := 345) (by decide +kernel))) (by decide)
theorem kw_346 : Cond.instanceMethod yX7_figureOf ∈ gt := gt_in (List.mem_append_right _ (List.mem_of_getElem? (i := 346) (by decide +kernel))) (by decide)
theorem kw_347 : Cond.selects RX7 yX7_figureOf yX7_figureOf ∈ gt := gt_in (List.mem_append_right _ (List.mem_of_getElem? (i := 347) (by decide +kernel))) (by decide)
set_option maxRecDepth 20000 in
theorem kw_348 : Cond.code yX7_figureOf cX7_figureOf 3 (some .int) ∈ gt := gt_in (List.mem_append_right _ (List.mem_of_getElem? (i := 348) rfl)) (by decide)
theorem kw_349 : Cond.methodLink RX7 37 yX7_byteOf ∈ gt := gt_in (List.mem_append_right _ (List.mem_of_getElem? (i := 349) (by decide +kernel))) (by decide)
theorem kw_350 : Cond.methodLink RX9 327 yX2_parse ∈ gt := gt_in (List.mem_append_right _ (List.mem_of_getElem? (i := 350) (by decide +kernel))) (by decide)
theorem kw_351 : Cond.instanceMethod yX2_parse ∈ gt := gt_in (List.mem_append_right _ (List.mem_of_getElem? (i := 351) (by decide +kernel))) (by decide)
theorem kw_352 : Cond.selects RX2 yX2_parse yX2_parse ∈ gt := gt_in (List.mem_append_right _ (List.mem_of_getElem? (i := 352) (by decide +kernel))) (by decide)
set_option maxRecDepth 20000 in
theorem kw_353 : Cond.code yX2_parse cX2_parse 3 none ∈ gt := gt_in (List.mem_append_right _ (List.mem_of_getElem? (i := 353) rfl)) (by decide)
theorem kw_354 : Cond.methodLink RX2 28 yX7_things ∈ gt := gt_in (List.mem_append_right _ (List.mem_of_getElem? (i := 354) (by decide +kernel))) (by decide)
theorem kw_355 : Cond.methodLink RX2 34 yJ9_min_7cf53 ∈ gt := gt_in (List.mem_append_right _ (List.mem_of_getElem? (i := 355) (by decide +kernel))) (by decide)
theorem kw_356 : Cond.methodLink RX2 40 yX7_figureOf ∈ gt := gt_in (List.mem_append_right _ (List.mem_of_getElem? (i := 356) (by decide +kernel))) (by decide)
theorem kw_357 : Cond.methodLink RX2 43 yX7_byteOf ∈ gt := gt_in (List.mem_append_right _ (List.mem_of_getElem? (i := 357) (by decide +kernel))) (by decide)
theorem kw_358 : Cond.methodLink RX9 328 yX1_hold ∈ gt := gt_in (List.mem_append_right _ (List.mem_of_getElem? (i := 358) (by decide +kernel))) (by decide)
theorem kw_359 : Cond.instanceMethod yX1_hold ∈ gt := gt_in (List.mem_append_right _ (List.mem_of_getElem? (i := 359) (by decide +kernel))) (by decide)
theorem kw_360 : Cond.selects RX1 yX1_hold yX1_hold ∈ gt := gt_in (List.mem_append_right _ (List.mem_of_getElem? (i := 360) (by decide +kernel))) (by decide)
set_option maxRecDepth 20000 in
theorem kw_361 : Cond.code yX1_hold cX1_hold 5 none ∈ gt := gt_in (List.mem_append_right _ (List.mem_of_getElem? (i := 361) rfl)) (by decide)
theorem kw_362 : Cond.methodLink RX1 42 yX8_go ∈ gt := gt_in (List.mem_append_right _ (List.mem_of_getElem? (i := 362) (by decide +kernel))) (by decide)
theorem kw_363 : Cond.instanceMethod yX8_go ∈ gt := gt_in (List.mem_append_right _ (List.mem_of_getElem? (i := 363) (by decide +kernel))) (by decide)
theorem kw_364 : Cond.selects RX8 yX8_go yX8_go ∈ gt := gt_in (List.mem_append_right _ (List.mem_of_getElem? (i := 364) (by decide +kernel))) (by decide)
set_option maxRecDepth 20000 in
theorem kw_365 : Cond.code yX8_go cX8_go 4 none ∈ gt := gt_in (List.mem_append_right _ (List.mem_of_getElem? (i := 365) rfl)) (by decide)
theorem kw_366 : Cond.methodLink RX8 43 yX8_goFrom ∈ gt := gt_in (List.mem_append_right _ (List.mem_of_getElem? (i := 366) (by decide +kernel))) (by decide)
theorem kw_367 : Cond.instanceMethod yX8_goFrom ∈ gt := gt_in (List.mem_append_right _ (List.mem_of_getElem? (i := 367) (by decide +kernel))) (by decide)
theorem kw_368 : Cond.selects RX8 yX8_goFrom yX8_goFrom ∈ gt := gt_in (List.mem_append_right _ (List.mem_of_getElem? (i := 368) (by decide +kernel))) (by decide)
set_option maxRecDepth 20000 in
theorem kw_369 : Cond.code yX8_goFrom cX8_goFrom 9 none ∈ gt := gt_in (List.mem_append_right _ (List.mem_of_getElem? (i := 369) rfl)) (by decide)
theorem kw_370 : Cond.methodLink RX8 50 yX8_clear ∈ gt := gt_in (List.mem_append_right _ (List.mem_of_getElem? (i := 370) (by decide +kernel))) (by decide)
theorem kw_371 : Cond.instanceMethod yX8_clear ∈ gt := gt_in (List.mem_append_right _ (List.mem_of_getElem? (i := 371) (by decide +kernel))) (by decide)
theorem kw_372 : Cond.selects RX8 yX8_clear yX8_clear ∈ gt := gt_in (List.mem_append_right _ (List.mem_of_getElem? (i := 372) (by decide +kernel))) (by decide)
set_option maxRecDepth 20000 in
theorem kw_373 : Cond.code yX8_clear cX8_clear 3 none ∈ gt := gt_in (List.mem_append_right _ (List.mem_of_getElem? (i := 373) rfl)) (by decide)
theorem kw_374 : Cond.methodLink RX8 62 yX4_isEmpty ∈ gt := gt_in (List.mem_append_right _ (List.mem_of_getElem? (i := 374) (by decide +kernel))) (by decide)
theorem kw_375 : Cond.instanceMethod yX4_isEmpty ∈ gt := gt_in (List.mem_append_right _ (List.mem_of_getElem? (i := 375) (by decide +kernel))) (by decide)
theorem kw_376 : Cond.selects RX4 yX4_isEmpty yX4_isEmpty ∈ gt := gt_in (List.mem_append_right _ (List.mem_of_getElem? (i := 376) (by decide +kernel))) (by decide)
set_option maxRecDepth 20000 in
theorem kw_377 : Cond.code yX4_isEmpty cX4_isEmpty 2 (some .boolean) ∈ gt := gt_in (List.mem_append_right _ (List.mem_of_getElem? (i := 377) rfl)) (by decide)
theorem kw_378 : Cond.methodLink RX8 75 yX8_offer ∈ gt := gt_in (List.mem_append_right _ (List.mem_of_getElem? (i := 378) (by decide +kernel))) (by decide)
theorem kw_379 : Cond.instanceMethod yX8_offer ∈ gt := gt_in (List.mem_append_right _ (List.mem_of_getElem? (i := 379) (by decide +kernel))) (by decide)
theorem kw_380 : Cond.selects RX8 yX8_offer yX8_offer ∈ gt := gt_in (List.mem_append_right _ (List.mem_of_getElem? (i := 380) (by decide +kernel))) (by decide)
set_option maxRecDepth 20000 in
theorem kw_381 : Cond.code yX8_offer cX8_offer 7 none ∈ gt := gt_in (List.mem_append_right _ (List.mem_of_getElem? (i := 381) rfl)) (by decide)
theorem kw_382 : Cond.methodLink RX1 48 yX1_enter ∈ gt := gt_in (List.mem_append_right _ (List.mem_of_getElem? (i := 382) (by decide +kernel))) (by decide)
theorem kw_383 : Cond.instanceMethod yX1_enter ∈ gt := gt_in (List.mem_append_right _ (List.mem_of_getElem? (i := 383) (by decide +kernel))) (by decide)
theorem kw_384 : Cond.selects RX1 yX1_enter yX1_enter ∈ gt := gt_in (List.mem_append_right _ (List.mem_of_getElem? (i := 384) (by decide +kernel))) (by decide)
set_option maxRecDepth 20000 in
theorem kw_385 : Cond.code yX1_enter cX1_enter 4 none ∈ gt := gt_in (List.mem_append_right _ (List.mem_of_getElem? (i := 385) rfl)) (by decide)
theorem kw_386 : Cond.methodLink RL 18 yX9_wipe ∈ gt := gt_in (List.mem_append_right _ (List.mem_of_getElem? (i := 386) (by decide +kernel))) (by decide)
theorem kw_387 : Cond.instanceMethod yX9_wipe ∈ gt := gt_in (List.mem_append_right _ (List.mem_of_getElem? (i := 387) (by decide +kernel))) (by decide)
theorem kw_388 : Cond.selects RX9 yX9_wipe yX9_wipe ∈ gt := gt_in (List.mem_append_right _ (List.mem_of_getElem? (i := 388) (by decide +kernel))) (by decide)
set_option maxRecDepth 20000 in
theorem kw_389 : Cond.code yX9_wipe cX9_wipe 4 (some .int) ∈ gt := gt_in (List.mem_append_right _ (List.mem_of_getElem? (i := 389) rfl)) (by decide)
theorem kw_390 : Cond.methodLink RL 23 yX9_undo ∈ gt := gt_in (List.mem_append_right _ (List.mem_of_getElem? (i := 390) (by decide +kernel))) (by decide)
theorem kw_391 : Cond.instanceMethod yX9_undo ∈ gt := gt_in (List.mem_append_right _ (List.mem_of_getElem? (i := 391) (by decide +kernel))) (by decide)
theorem kw_392 : Cond.selects RX9 yX9_undo yX9_undo ∈ gt := gt_in (List.mem_append_right _ (List.mem_of_getElem? (i := 392) (by decide +kernel))) (by decide)
set_option maxRecDepth 20000 in
theorem kw_393 : Cond.code yX9_undo cX9_undo 3 (some .int) ∈ gt := gt_in (List.mem_append_right _ (List.mem_of_getElem? (i := 393) rfl)) (by decide)
theorem kw_394 : Cond.methodLink RL 27 yX9_fault ∈ gt := gt_in (List.mem_append_right _ (List.mem_of_getElem? (i := 394) (by decide +kernel))) (by decide)
theorem kw_395 : Cond.instanceMethod yX9_fault ∈ gt := gt_in (List.mem_append_right _ (List.mem_of_getElem? (i := 395) (by decide +kernel))) (by decide)
theorem kw_396 : Cond.selects RX9 yX9_fault yX9_fault ∈ gt := gt_in (List.mem_append_right _ (List.mem_of_getElem? (i := 396) (by decide +kernel))) (by decide)
set_option maxRecDepth 20000 in
theorem kw_397 : Cond.code yX9_fault cX9_fault 2 (some .int) ∈ gt := gt_in (List.mem_append_right _ (List.mem_of_getElem? (i := 397) rfl)) (by decide)
theorem kw_398 : Cond.methodLink RX9 102 yX7_firstFault ∈ gt := gt_in (List.mem_append_right _ (List.mem_of_getElem? (i := 398) (by decide +kernel))) (by decide)
theorem kw_399 : Cond.methodLink RL 31 yX9_house ∈ gt := gt_in (List.mem_append_right _ (List.mem_of_getElem? (i := 399) (by decide +kernel))) (by decide)
theorem kw_400 : Cond.instanceMethod yX9_house ∈ gt := gt_in (List.mem_append_right _ (List.mem_of_getElem? (i := 400) (by decide +kernel))) (by decide)
theorem kw_401 : Cond.selects RX9 yX9_house yX9_house ∈ gt := gt_in (List.mem_append_right _ (List.mem_of_getElem? (i := 401) (by decide +kernel))) (by decide)
set_option maxRecDepth 20000 in
theorem kw_402 : Cond.code yX9_house cX9_house 3 (some .int) ∈ gt := gt_in (List.mem_append_right _ (List.mem_of_getElem? (i := 402) rfl)) (by decide)
theorem kw_403 : Cond.methodLink RX9 106 yX9_isHouse ∈ gt := gt_in (List.mem_append_right _ (List.mem_of_getElem? (i := 403) (by decide +kernel))) (by decide)
theorem kw_405 : Cond.instanceMethod yX9_isHouse ∈ gt := gt_in (List.mem_append_right _ (List.mem_of_getElem? (i := 405) (by decide +kernel))) (by decide)
set_option maxRecDepth 20000 in
theorem kw_406 : Cond.code yX9_isHouse cX9_isHouse 2 (some .boolean) ∈ gt := gt_in (List.mem_append_right _ (List.mem_of_getElem? (i := 406) rfl)) (by decide)
theorem kw_407 : Cond.methodLink RL 35 yX9_guest ∈ gt := gt_in (List.mem_append_right _ (List.mem_of_getElem? (i := 407) (by decide +kernel))) (by decide)
theorem kw_408 : Cond.instanceMethod yX9_guest ∈ gt := gt_in (List.mem_append_right _ (List.mem_of_getElem? (i := 408) (by decide +kernel))) (by decide)
theorem kw_409 : Cond.selects RX9 yX9_guest yX9_guest ∈ gt := gt_in (List.mem_append_right _ (List.mem_of_getElem? (i := 409) (by decide +kernel))) (by decide)
set_option maxRecDepth 20000 in
theorem kw_410 : Cond.code yX9_guest cX9_guest 3 (some .int) ∈ gt := gt_in (List.mem_append_right _ (List.mem_of_getElem? (i := 410) rfl)) (by decide)
theorem kw_411 : Cond.methodLink RX9 118 yX9_isGuest ∈ gt := gt_in (List.mem_append_right _ (List.mem_of_getElem? (i := 411) (by decide +kernel))) (by decide)
theorem kw_413 : Cond.instanceMethod yX9_isGuest ∈ gt := gt_in (List.mem_append_right _ (List.mem_of_getElem? (i := 413) (by decide +kernel))) (by decide)
set_option maxRecDepth 20000 in
theorem kw_414 : Cond.code yX9_isGuest cX9_isGuest 2 (some .boolean) ∈ gt := gt_in (List.mem_append_right _ (List.mem_of_getElem? (i := 414) rfl)) (by decide)
theorem kw_415 : Cond.methodLink RL 39 yX9_set ∈ gt := gt_in (List.mem_append_right _ (List.mem_of_getElem? (i := 415) (by decide +kernel))) (by decide)
theorem kw_416 : Cond.instanceMethod yX9_set ∈ gt := gt_in (List.mem_append_right _ (List.mem_of_getElem? (i := 416) (by decide +kernel))) (by decide)
theorem kw_417 : Cond.selects RX9 yX9_set yX9_set ∈ gt := gt_in (List.mem_append_right _ (List.mem_of_getElem? (i := 417) (by decide +kernel))) (by decide)
set_option maxRecDepth 20000 in
theorem kw_418 : Cond.code yX9_set cX9_set 4 (some .int) ∈ gt := gt_in (List.mem_append_right _ (List.mem_of_getElem? (i := 418) rfl)) (by decide)
theorem kw_419 : Cond.methodLink RL 43 yX9_at ∈ gt := gt_in (List.mem_append_right _ (List.mem_of_getElem? (i := 419) (by decide +kernel))) (by decide)
theorem kw_420 : Cond.instanceMethod yX9_at ∈ gt := gt_in (List.mem_append_right _ (List.mem_of_getElem? (i := 420) (by decide +kernel))) (by decide)
theorem kw_421 : Cond.selects RX9 yX9_at yX9_at ∈ gt := gt_in (List.mem_append_right _ (List.mem_of_getElem? (i := 421) (by decide +kernel))) (by decide)
set_option maxRecDepth 20000 in
theorem kw_422 : Cond.code yX9_at cX9_at 2 (some .int) ∈ gt := gt_in (List.mem_append_right _ (List.mem_of_getElem? (i := 422) rfl)) (by decide)
theorem kw_423 : Cond.methodLink RL 47 yX9_gives ∈ gt := gt_in (List.mem_append_right _ (List.mem_of_getElem? (i := 423) (by decide +kernel))) (by decide)
theorem kw_424 : Cond.instanceMethod yX9_gives ∈ gt := gt_in (List.mem_append_right _ (List.mem_of_getElem? (i := 424) (by decide +kernel))) (by decide)
theorem kw_425 : Cond.selects RX9 yX9_gives yX9_gives ∈ gt := gt_in (List.mem_append_right _ (List.mem_of_getElem? (i := 425) (by decide +kernel))) (by decide)
set_option maxRecDepth 20000 in
theorem kw_426 : Cond.code yX9_gives cX9_gives 3 (some .int) ∈ gt := gt_in (List.mem_append_right _ (List.mem_of_getElem? (i := 426) rfl)) (by decide)
theorem kw_427 : Cond.methodLink RX9 145 yX1_gaveTo ∈ gt := gt_in (List.mem_append_right _ (List.mem_of_getElem? (i := 427) (by decide +kernel))) (by decide)
theorem kw_428 : Cond.instanceMethod yX1_gaveTo ∈ gt := gt_in (List.mem_append_right _ (List.mem_of_getElem? (i := 428) (by decide +kernel))) (by decide)
theorem kw_429 : Cond.selects RX1 yX1_gaveTo yX1_gaveTo ∈ gt := gt_in (List.mem_append_right _ (List.mem_of_getElem? (i := 429) (by decide +kernel))) (by decide)
set_option maxRecDepth 20000 in
theorem kw_430 : Cond.code yX1_gaveTo cX1_gaveTo 3 (some .int) ∈ gt := gt_in (List.mem_append_right _ (List.mem_of_getElem? (i := 430) rfl)) (by decide)
theorem kw_431 : Cond.methodLink RL 51 yX9_fed ∈ gt := gt_in (List.mem_append_right _ (List.mem_of_getElem? (i := 431) (by decide +kernel))) (by decide)
theorem kw_432 : Cond.instanceMethod yX9_fed ∈ gt := gt_in (List.mem_append_right _ (List.mem_of_getElem? (i := 432) (by decide +kernel))) (by decide)
theorem kw_433 : Cond.selects RX9 yX9_fed yX9_fed ∈ gt := gt_in (List.mem_append_right _ (List.mem_of_getElem? (i := 433) (by decide +kernel))) (by decide)
set_option maxRecDepth 20000 in
theorem kw_434 : Cond.code yX9_fed cX9_fed 3 (some .int) ∈ gt := gt_in (List.mem_append_right _ (List.mem_of_getElem? (i := 434) rfl)) (by decide)
theorem kw_435 : Cond.methodLink RL 55 yX9_all ∈ gt := gt_in (List.mem_append_right _ (List.mem_of_getElem? (i := 435) (by decide +kernel))) (by decide)
theorem kw_436 : Cond.instanceMethod yX9_all ∈ gt := gt_in (List.mem_append_right _ (List.mem_of_getElem? (i := 436) (by decide +kernel))) (by decide)
theorem kw_437 : Cond.selects RX9 yX9_all yX9_all ∈ gt := gt_in (List.mem_append_right _ (List.mem_of_getElem? (i := 437) (by decide +kernel))) (by decide)
set_option maxRecDepth 20000 in
theorem kw_438 : Cond.code yX9_all cX9_all 3 (some .int) ∈ gt := gt_in (List.mem_append_right _ (List.mem_of_getElem? (i := 438) rfl)) (by decide)
theorem kw_439 : Cond.methodLink RL 59 yX9_price ∈ gt := gt_in (List.mem_append_right _ (List.mem_of_getElem? (i := 439) (by decide +kernel))) (by decide)
theorem kw_440 : Cond.instanceMethod yX9_price ∈ gt := gt_in (List.mem_append_right _ (List.mem_of_getElem? (i := 440) (by decide +kernel))) (by decide)
theorem kw_441 : Cond.selects RX9 yX9_price yX9_price ∈ gt := gt_in (List.mem_append_right _ (List.mem_of_getElem? (i := 441) (by decide +kernel))) (by decide)
set_option maxRecDepth 20000 in
theorem kw_442 : Cond.code yX9_price cX9_price 2 (some .int) ∈ gt := gt_in (List.mem_append_right _ (List.mem_of_getElem? (i := 442) rfl)) (by decide)
theorem kw_443 : Cond.methodLink RL 63 yX9_poor ∈ gt := gt_in (List.mem_append_right _ (List.mem_of_getElem? (i := 443) (by decide +kernel))) (by decide)
theorem kw_444 : Cond.instanceMethod yX9_poor ∈ gt := gt_in (List.mem_append_right _ (List.mem_of_getElem? (i := 444) (by decide +kernel))) (by decide)
theorem kw_445 : Cond.selects RX9 yX9_poor yX9_poor ∈ gt := gt_in (List.mem_append_right _ (List.mem_of_getElem? (i := 445) (by decide +kernel))) (by decide)
set_option maxRecDepth 20000 in
theorem kw_446 : Cond.code yX9_poor cX9_poor 4 (some .int) ∈ gt := gt_in (List.mem_append_right _ (List.mem_of_getElem? (i := 446) rfl)) (by decide)
theorem kw_447 : Cond.methodLink RL 68 yX9_passed ∈ gt := gt_in (List.mem_append_right _ (List.mem_of_getElem? (i := 447) (by decide +kernel))) (by decide)
theorem kw_448 : Cond.instanceMethod yX9_passed ∈ gt := gt_in (List.mem_append_right _ (List.mem_of_getElem? (i := 448) (by decide +kernel))) (by decide)
theorem kw_449 : Cond.selects RX9 yX9_passed yX9_passed ∈ gt := gt_in (List.mem_append_right _ (List.mem_of_getElem? (i := 449) (by decide +kernel))) (by decide)
set_option maxRecDepth 20000 in
theorem kw_450 : Cond.code yX9_passed cX9_passed 1 (some .int) ∈ gt := gt_in (List.mem_append_right _ (List.mem_of_getElem? (i := 450) rfl)) (by decide)
theorem kw_451 : Cond.methodLink RL 72 yX9_live ∈ gt := gt_in (List.mem_append_right _ (List.mem_of_getElem? (i := 451) (by decide +kernel))) (by decide)
theorem kw_452 : Cond.instanceMethod yX9_live ∈ gt := gt_in (List.mem_append_right _ (List.mem_of_getElem? (i := 452) (by decide +kernel))) (by decide)
theorem kw_453 : Cond.selects RX9 yX9_live yX9_live ∈ gt := gt_in (List.mem_append_right _ (List.mem_of_getElem? (i := 453) (by decide +kernel))) (by decide)
set_option maxRecDepth 20000 in
theorem kw_454 : Cond.code yX9_live cX9_live 3 (some .int) ∈ gt := gt_in (List.mem_append_right _ (List.mem_of_getElem? (i := 454) rfl)) (by decide)
theorem kw_455 : Cond.methodLink RX9 170 yX9_planPlace ∈ gt := gt_in (List.mem_append_right _ (List.mem_of_getElem? (i := 455) (by decide +kernel))) (by decide)
theorem kw_457 : Cond.instanceMethod yX9_planPlace ∈ gt := gt_in (List.mem_append_right _ (List.mem_of_getElem? (i := 457) (by decide +kernel))) (by decide)
set_option maxRecDepth 20000 in
theorem kw_458 : Cond.code yX9_planPlace cX9_planPlace 3 none ∈ gt := gt_in (List.mem_append_right _ (List.mem_of_getElem? (i := 458) rfl)) (by decide)
theorem kw_459 : Cond.methodLink RX9 190 yX4_takeFrom ∈ gt := gt_in (List.mem_append_right _ (List.mem_of_getElem? (i := 459) (by decide +kernel))) (by decide)
theorem kw_460 : Cond.instanceMethod yX4_takeFrom ∈ gt := gt_in (List.mem_append_right _ (List.mem_of_getElem? (i := 460) (by decide +kernel))) (by decide)
theorem kw_461 : Cond.selects RX4 yX4_takeFrom yX4_takeFrom ∈ gt := gt_in (List.mem_append_right _ (List.mem_of_getElem? (i := 461) (by decide +kernel))) (by decide)
set_option maxRecDepth 20000 in
theorem kw_462 : Cond.code yX4_takeFrom cX4_takeFrom 3 none ∈ gt := gt_in (List.mem_append_right _ (List.mem_of_getElem? (i := 462) rfl)) (by decide)
theorem kw_463 : Cond.methodLink RX9 332 yX3_clear ∈ gt := gt_in (List.mem_append_right _ (List.mem_of_getElem? (i := 463) (by decide +kernel))) (by decide)
theorem kw_464 : Cond.instanceMethod yX3_clear ∈ gt := gt_in (List.mem_append_right _ (List.mem_of_getElem? (i := 464) (by decide +kernel))) (by decide)
theorem kw_465 : Cond.selects RX3 yX3_clear yX3_clear ∈ gt := gt_in (List.mem_append_right _ (List.mem_of_getElem? (i := 465) (by decide +kernel))) (by decide)
set_option maxRecDepth 20000 in
theorem kw_466 : Cond.code yX3_clear cX3_clear 1 none ∈ gt := gt_in (List.mem_append_right _ (List.mem_of_getElem? (i := 466) rfl)) (by decide)
theorem kw_467 : Cond.methodLink RX9 335 yX4_moveFrom ∈ gt := gt_in (List.mem_append_right _ (List.mem_of_getElem? (i := 467) (by decide +kernel))) (by decide)
theorem kw_468 : Cond.instanceMethod yX4_moveFrom ∈ gt := gt_in (List.mem_append_right _ (List.mem_of_getElem? (i := 468) (by decide +kernel))) (by decide)
theorem kw_469 : Cond.selects RX4 yX4_moveFrom yX4_moveFrom ∈ gt := gt_in (List.mem_append_right _ (List.mem_of_getElem? (i := 469) (by decide +kernel))) (by decide)
set_option maxRecDepth 20000 in
theorem kw_470 : Cond.code yX4_moveFrom cX4_moveFrom 7 none ∈ gt := gt_in (List.mem_append_right _ (List.mem_of_getElem? (i := 470) rfl)) (by decide)
theorem kw_471 : Cond.methodLink RX4 56 yX4_placeOf ∈ gt := gt_in (List.mem_append_right _ (List.mem_of_getElem? (i := 471) (by decide +kernel))) (by decide)
theorem kw_472 : Cond.instanceMethod yX4_placeOf ∈ gt := gt_in (List.mem_append_right _ (List.mem_of_getElem? (i := 472) (by decide +kernel))) (by decide)
theorem kw_473 : Cond.selects RX4 yX4_placeOf yX4_placeOf ∈ gt := gt_in (List.mem_append_right _ (List.mem_of_getElem? (i := 473) (by decide +kernel))) (by decide)
set_option maxRecDepth 20000 in
theorem kw_474 : Cond.code yX4_placeOf cX4_placeOf 3 (some .int) ∈ gt := gt_in (List.mem_append_right _ (List.mem_of_getElem? (i := 474) rfl)) (by decide)
theorem kw_475 : Cond.methodLink RX9 339 yX9_weighTrial ∈ gt := gt_in (List.mem_append_right _ (List.mem_of_getElem? (i := 475) (by decide +kernel))) (by decide)
theorem kw_477 : Cond.instanceMethod yX9_weighTrial ∈ gt := gt_in (List.mem_append_right _ (List.mem_of_getElem? (i := 477) (by decide +kernel))) (by decide)
set_option maxRecDepth 20000 in
theorem kw_478 : Cond.code yX9_weighTrial cX9_weighTrial 6 none ∈ gt := gt_in (List.mem_append_right _ (List.mem_of_getElem? (i := 478) rfl)) (by decide)
theorem kw_479 : Cond.methodLink RX9 194 yX8_go ∈ gt := gt_in (List.mem_append_right _ (List.mem_of_getElem? (i := 479) (by decide +kernel))) (by decide)
theorem kw_480 : Cond.methodLink RX9 345 yX3_weigh ∈ gt := gt_in (List.mem_append_right _ (List.mem_of_getElem? (i := 480) (by decide +kernel))) (by decide)
theorem kw_481 : Cond.instanceMethod yX3_weigh ∈ gt := gt_in (List.mem_append_right _ (List.mem_of_getElem? (i := 481) (by decide +kernel))) (by decide)
theorem kw_482 : Cond.selects RX3 yX3_weigh yX3_weigh ∈ gt := gt_in (List.mem_append_right _ (List.mem_of_getElem? (i := 482) (by decide +kernel))) (by decide)
set_option maxRecDepth 20000 in
theorem kw_483 : Cond.code yX3_weigh cX3_weigh 5 none ∈ gt := gt_in (List.mem_append_right _ (List.mem_of_getElem? (i := 483) rfl)) (by decide)
theorem kw_484 : Cond.methodLink RL 76 yX9_cook ∈ gt := gt_in (List.mem_append_right _ (List.mem_of_getElem? (i := 484) (by decide +kernel))) (by decide)
theorem kw_485 : Cond.instanceMethod yX9_cook ∈ gt := gt_in (List.mem_append_right _ (List.mem_of_getElem? (i := 485) (by decide +kernel))) (by decide)
theorem kw_486 : Cond.selects RX9 yX9_cook yX9_cook ∈ gt := gt_in (List.mem_append_right _ (List.mem_of_getElem? (i := 486) (by decide +kernel))) (by decide)
set_option maxRecDepth 20000 in
theorem kw_487 : Cond.code yX9_cook cX9_cook 3 (some .int) ∈ gt := gt_in (List.mem_append_right _ (List.mem_of_getElem? (i := 487) rfl)) (by decide)
theorem kw_488 : Cond.methodLink RX9 180 yX9_planKind ∈ gt := gt_in (List.mem_append_right _ (List.mem_of_getElem? (i := 488) (by decide +kernel))) (by decide)
theorem kw_490 : Cond.instanceMethod yX9_planKind ∈ gt := gt_in (List.mem_append_right _ (List.mem_of_getElem? (i := 490) (by decide +kernel))) (by decide)
set_option maxRecDepth 20000 in
theorem kw_491 : Cond.code yX9_planKind cX9_planKind 3 none ∈ gt := gt_in (List.mem_append_right _ (List.mem_of_getElem? (i := 491) rfl)) (by decide)
theorem kw_492 : Cond.methodLink RL 80 yX9_fast ∈ gt := gt_in (List.mem_append_right _ (List.mem_of_getElem? (i := 492) (by decide +kernel))) (by decide)
theorem kw_493 : Cond.instanceMethod yX9_fast ∈ gt := gt_in (List.mem_append_right _ (List.mem_of_getElem? (i := 493) (by decide +kernel))) (by decide)
theorem kw_494 : Cond.selects RX9 yX9_fast yX9_fast ∈ gt := gt_in (List.mem_append_right _ (List.mem_of_getElem? (i := 494) (by decide +kernel))) (by decide)
set_option maxRecDepth 20000 in
theorem kw_495 : Cond.code yX9_fast cX9_fast 5 (some .int) ∈ gt := gt_in (List.mem_append_right _ (List.mem_of_getElem? (i := 495) rfl)) (by decide)
theorem kw_496 : Cond.methodLink RX9 183 yX9_fewestEmpty ∈ gt := gt_in (List.mem_append_right _ (List.mem_of_getElem? (i := 496) (by decide +kernel))) (by decide)
theorem kw_498 : Cond.instanceMethod yX9_fewestEmpty ∈ gt := gt_in (List.mem_append_right _ (List.mem_of_getElem? (i := 498) (by decide +kernel))) (by decide)
set_option maxRecDepth 20000 in
theorem kw_499 : Cond.code yX9_fewestEmpty cX9_fewestEmpty 7 (some .int) ∈ gt := gt_in (List.mem_append_right _ (List.mem_of_getElem? (i := 499) rfl)) (by decide)
theorem kw_500 : Cond.methodLink RX9 348 yJ6_bitCount_0f7a4 ∈ gt := gt_in (List.mem_append_right _ (List.mem_of_getElem? (i := 500) (by decide +kernel))) (by decide)
theorem kw_501 : Cond.static yJ6_bitCount_0f7a4 ∈ gt := gt_in (List.mem_append_right _ (List.mem_of_getElem? (i := 501) (by decide +kernel))) (by decide)
set_option maxRecDepth 20000 in
theorem kw_502 : Cond.code yJ6_bitCount_0f7a4 cJ6_bitCount_0f7a4 1 (some .int) ∈ gt := gt_in (List.mem_append_right _ (List.mem_of_getElem? (i := 502) rfl)) (by decide)
theorem kw_503 : Cond.constant RJ6 265 (1431655765) ∈ gt := gt_in (List.mem_append_right _ (List.mem_of_getElem? (i := 503) (by decide +kernel))) (by decide)
theorem kw_504 : Cond.constant RJ6 266 (858993459) ∈ gt := gt_in (List.mem_append_right _ (List.mem_of_getElem? (i := 504) (by decide +kernel))) (by decide)
theorem kw_505 : Cond.constant RJ6 267 (252645135) ∈ gt := gt_in (List.mem_append_right _ (List.mem_of_getElem? (i := 505) (by decide +kernel))) (by decide)
theorem kw_506 : Cond.methodLink RX9 186 yX9_howMany ∈ gt := gt_in (List.mem_append_right _ (List.mem_of_getElem? (i := 506) (by decide +kernel))) (by decide)
theorem kw_507 : Cond.static yX9_howMany ∈ gt := gt_in (List.mem_append_right _ (List.mem_of_getElem? (i := 507) (by decide +kernel))) (by decide)
set_option maxRecDepth 20000 in
theorem kw_508 : Cond.code yX9_howMany cX9_howMany 1 (some .int) ∈ gt := gt_in (List.mem_append_right _ (List.mem_of_getElem? (i := 508) rfl)) (by decide)
theorem kw_509 : Cond.methodLink RL 85 yX9_soup ∈ gt := gt_in (List.mem_append_right _ (List.mem_of_getElem? (i := 509) (by decide +kernel))) (by decide)
theorem kw_510 : Cond.instanceMethod yX9_soup ∈ gt := gt_in (List.mem_append_right _ (List.mem_of_getElem? (i := 510) (by decide +kernel))) (by decide)
theorem kw_511 : Cond.selects RX9 yX9_soup yX9_soup ∈ gt := gt_in (List.mem_append_right _ (List.mem_of_getElem? (i := 511) (by decide +kernel))) (by decide)
set_option maxRecDepth 20000 in
theorem kw_512 : Cond.code yX9_soup cX9_soup 4 (some .int) ∈ gt := gt_in (List.mem_append_right _ (List.mem_of_getElem? (i := 512) rfl)) (by decide)
theorem kw_513 : Cond.methodLink RL 89 yX9_seen ∈ gt := gt_in (List.mem_append_right _ (List.mem_of_getElem? (i := 513) (by decide +kernel))) (by decide)
theorem kw_514 : Cond.instanceMethod yX9_seen ∈ gt := gt_in (List.mem_append_right _ (List.mem_of_getElem? (i := 514) (by decide +kernel))) (by decide)
theorem kw_515 : Cond.selects RX9 yX9_seen yX9_seen ∈ gt := gt_in (List.mem_append_right _ (List.mem_of_getElem? (i := 515) (by decide +kernel))) (by decide)
set_option maxRecDepth 20000 in
theorem kw_516 : Cond.code yX9_seen cX9_seen 3 (some .int) ∈ gt := gt_in (List.mem_append_right _ (List.mem_of_getElem? (i := 516) rfl)) (by decide)
theorem kw_517 : Cond.methodLink RX9 200 yX6_allows ∈ gt := gt_in (List.mem_append_right _ (List.mem_of_getElem? (i := 517) (by decide +kernel))) (by decide)
theorem kw_518 : Cond.instanceMethod yX6_allows ∈ gt := gt_in (List.mem_append_right _ (List.mem_of_getElem? (i := 518) (by decide +kernel))) (by decide)
theorem kw_519 : Cond.selects RX6 yX6_allows yX6_allows ∈ gt := gt_in (List.mem_append_right _ (List.mem_of_getElem? (i := 519) (by decide +kernel))) (by decide)
set_option maxRecDepth 20000 in
theorem kw_520 : Cond.code yX6_allows cX6_allows 3 (some .boolean) ∈ gt := gt_in (List.mem_append_right _ (List.mem_of_getElem? (i := 520) rfl)) (by decide)
theorem kw_521 : Cond.methodLink RX9 205 yX6_add ∈ gt := gt_in (List.mem_append_right _ (List.mem_of_getElem? (i := 521) (by decide +kernel))) (by decide)
theorem kw_522 : Cond.instanceMethod yX6_add ∈ gt := gt_in (List.mem_append_right _ (List.mem_of_getElem? (i := 522) (by decide +kernel))) (by decide)
theorem kw_523 : Cond.selects RX6 yX6_add yX6_add ∈ gt := gt_in (List.mem_append_right _ (List.mem_of_getElem? (i := 523) (by decide +kernel))) (by decide)
set_option maxRecDepth 20000 in
theorem kw_524 : Cond.code yX6_add cX6_add 3 none ∈ gt := gt_in (List.mem_append_right _ (List.mem_of_getElem? (i := 524) rfl)) (by decide)
theorem kw_525 : Cond.methodLink RL 93 yX9_forget ∈ gt := gt_in (List.mem_append_right _ (List.mem_of_getElem? (i := 525) (by decide +kernel))) (by decide)
theorem kw_526 : Cond.instanceMethod yX9_forget ∈ gt := gt_in (List.mem_append_right _ (List.mem_of_getElem? (i := 526) (by decide +kernel))) (by decide)
theorem kw_527 : Cond.selects RX9 yX9_forget yX9_forget ∈ gt := gt_in (List.mem_append_right _ (List.mem_of_getElem? (i := 527) (by decide +kernel))) (by decide)
set_option maxRecDepth 20000 in
theorem kw_528 : Cond.code yX9_forget cX9_forget 2 (some .int) ∈ gt := gt_in (List.mem_append_right _ (List.mem_of_getElem? (i := 528) rfl)) (by decide)
theorem kw_529 : Cond.methodLink RL 97 yX9_read ∈ gt := gt_in (List.mem_append_right _ (List.mem_of_getElem? (i := 529) (by decide +kernel))) (by decide)
theorem kw_530 : Cond.instanceMethod yX9_read ∈ gt := gt_in (List.mem_append_right _ (List.mem_of_getElem? (i := 530) (by decide +kernel))) (by decide)
theorem kw_531 : Cond.selects RX9 yX9_read yX9_read ∈ gt := gt_in (List.mem_append_right _ (List.mem_of_getElem? (i := 531) (by decide +kernel))) (by decide)
set_option maxRecDepth 20000 in
theorem kw_532 : Cond.code yX9_read cX9_read 6 (some .int) ∈ gt := gt_in (List.mem_append_right _ (List.mem_of_getElem? (i := 532) rfl)) (by decide)
theorem kw_533 : Cond.methodLink RX9 209 yX9_isSheet ∈ gt := gt_in (List.mem_append_right _ (List.mem_of_getElem? (i := 533) (by decide +kernel))) (by decide)
theorem kw_534 : Cond.static yX9_isSheet ∈ gt := gt_in (List.mem_append_right _ (List.mem_of_getElem? (i := 534) (by decide +kernel))) (by decide)
set_option maxRecDepth 20000 in
theorem kw_535 : Cond.code yX9_isSheet cX9_isSheet 1 (some .boolean) ∈ gt := gt_in (List.mem_append_right _ (List.mem_of_getElem? (i := 535) rfl)) (by decide)
theorem kw_536 : Cond.methodLink RX9 212 yX5_isLost ∈ gt := gt_in (List.mem_append_right _ (List.mem_of_getElem? (i := 536) (by decide +kernel))) (by decide)
theorem kw_537 : Cond.instanceMethod yX5_isLost ∈ gt := gt_in (List.mem_append_right _ (List.mem_of_getElem? (i := 537) (by decide +kernel))) (by decide)
theorem kw_538 : Cond.selects RX5 yX5_isLost yX5_isLost ∈ gt := gt_in (List.mem_append_right _ (List.mem_of_getElem? (i := 538) (by decide +kernel))) (by decide)
set_option maxRecDepth 20000 in
theorem kw_539 : Cond.code yX5_isLost cX5_isLost 2 (some .boolean) ∈ gt := gt_in (List.mem_append_right _ (List.mem_of_getElem? (i := 539) rfl)) (by decide)
theorem kw_540 : Cond.methodLink RX9 215 yX9_found ∈ gt := gt_in (List.mem_append_right _ (List.mem_of_getElem? (i := 540) (by decide +kernel))) (by decide)
theorem kw_542 : Cond.instanceMethod yX9_found ∈ gt := gt_in (List.mem_append_right _ (List.mem_of_getElem? (i := 542) (by decide +kernel))) (by decide)
set_option maxRecDepth 20000 in
theorem kw_543 : Cond.code yX9_found cX9_found 2 (some .int) ∈ gt := gt_in (List.mem_append_right _ (List.mem_of_getElem? (i := 543) rfl)) (by decide)
theorem kw_544 : Cond.methodLink RX9 221 yX5_item ∈ gt := gt_in (List.mem_append_right _ (List.mem_of_getElem? (i := 544) (by decide +kernel))) (by decide)
theorem kw_545 : Cond.instanceMethod yX5_item ∈ gt := gt_in (List.mem_append_right _ (List.mem_of_getElem? (i := 545) (by decide +kernel))) (by decide)
theorem kw_546 : Cond.selects RX5 yX5_item yX5_item ∈ gt := gt_in (List.mem_append_right _ (List.mem_of_getElem? (i := 546) (by decide +kernel))) (by decide)
set_option maxRecDepth 20000 in
theorem kw_547 : Cond.code yX5_item cX5_item 3 (some .int) ∈ gt := gt_in (List.mem_append_right _ (List.mem_of_getElem? (i := 547) rfl)) (by decide)
theorem kw_548 : Cond.methodLink RL 101 yX9_twice ∈ gt := gt_in (List.mem_append_right _ (List.mem_of_getElem? (i := 548) (by decide +kernel))) (by decide)
theorem kw_549 : Cond.instanceMethod yX9_twice ∈ gt := gt_in (List.mem_append_right _ (List.mem_of_getElem? (i := 549) (by decide +kernel))) (by decide)
theorem kw_550 : Cond.selects RX9 yX9_twice yX9_twice ∈ gt := gt_in (List.mem_append_right _ (List.mem_of_getElem? (i := 550) (by decide +kernel))) (by decide)
set_option maxRecDepth 20000 in
theorem kw_551 : Cond.code yX9_twice cX9_twice 3 (some .int) ∈ gt := gt_in (List.mem_append_right _ (List.mem_of_getElem? (i := 551) rfl)) (by decide)
theorem kw_552 : Cond.methodLink RX9 225 yX9_twiceFits ∈ gt := gt_in (List.mem_append_right _ (List.mem_of_getElem? (i := 552) (by decide +kernel))) (by decide)
theorem kw_554 : Cond.instanceMethod yX9_twiceFits ∈ gt := gt_in (List.mem_append_right _ (List.mem_of_getElem? (i := 554) (by decide +kernel))) (by decide)
set_option maxRecDepth 20000 in
theorem kw_555 : Cond.code yX9_twiceFits cX9_twiceFits 4 (some .boolean) ∈ gt := gt_in (List.mem_append_right _ (List.mem_of_getElem? (i := 555) rfl)) (by decide)
theorem kw_556 : Cond.methodLink RL 105 yX9_began ∈ gt := gt_in (List.mem_append_right _ (List.mem_of_getElem? (i := 556) (by decide +kernel))) (by decide)
theorem kw_557 : Cond.instanceMethod yX9_began ∈ gt := gt_in (List.mem_append_right _ (List.mem_of_getElem? (i := 557) (by decide +kernel))) (by decide)
theorem kw_558 : Cond.selects RX9 yX9_began yX9_began ∈ gt := gt_in (List.mem_append_right _ (List.mem_of_getElem? (i := 558) (by decide +kernel))) (by decide)
set_option maxRecDepth 20000 in
theorem kw_559 : Cond.code yX9_began cX9_began 4 (some .int) ∈ gt := gt_in (List.mem_append_right _ (List.mem_of_getElem? (i := 559) rfl)) (by decide)
theorem kw_560 : Cond.methodLink RX9 228 yX8_goFrom ∈ gt := gt_in (List.mem_append_right _ (List.mem_of_getElem? (i := 560) (by decide +kernel))) (by decide)
theorem kw_561 : Cond.methodLink RX9 232 yX9_walkFits ∈ gt := gt_in (List.mem_append_right _ (List.mem_of_getElem? (i := 561) (by decide +kernel))) (by decide)
theorem kw_563 : Cond.instanceMethod yX9_walkFits ∈ gt := gt_in (List.mem_append_right _ (List.mem_of_getElem? (i := 563) (by decide +kernel))) (by decide)
set_option maxRecDepth 20000 in
theorem kw_564 : Cond.code yX9_walkFits cX9_walkFits 5 (some .boolean) ∈ gt := gt_in (List.mem_append_right _ (List.mem_of_getElem? (i := 564) rfl)) (by decide)
theorem kw_565 : Cond.methodLink RL 109 yX9_ask ∈ gt := gt_in (List.mem_append_right _ (List.mem_of_getElem? (i := 565) (by decide +kernel))) (by decide)
theorem kw_566 : Cond.instanceMethod yX9_ask ∈ gt := gt_in (List.mem_append_right _ (List.mem_of_getElem? (i := 566) (by decide +kernel))) (by decide)
theorem kw_567 : Cond.selects RX9 yX9_ask yX9_ask ∈ gt := gt_in (List.mem_append_right _ (List.mem_of_getElem? (i := 567) (by decide +kernel))) (by decide)
set_option maxRecDepth 20000 in
theorem kw_568 : Cond.code yX9_ask cX9_ask 6 (some .int) ∈ gt := gt_in (List.mem_append_right _ (List.mem_of_getElem? (i := 568) rfl)) (by decide)
theorem kw_569 : Cond.methodLink RX9 235 yX9_twice ∈ gt := gt_in (List.mem_append_right _ (List.mem_of_getElem? (i := 569) (by decide +kernel))) (by decide)
theorem kw_570 : Cond.methodLink RX9 238 yX9_mostAlike ∈ gt := gt_in (List.mem_append_right _ (List.mem_of_getElem? (i := 570) (by decide +kernel))) (by decide)
theorem kw_572 : Cond.instanceMethod yX9_mostAlike ∈ gt := gt_in (List.mem_append_right _ (List.mem_of_getElem? (i := 572) (by decide +kernel))) (by decide)
set_option maxRecDepth 20000 in
theorem kw_573 : Cond.code yX9_mostAlike cX9_mostAlike 5 (some .int) ∈ gt := gt_in (List.mem_append_right _ (List.mem_of_getElem? (i := 573) rfl)) (by decide)
theorem kw_574 : Cond.methodLink RX9 359 yX9_alikeTo ∈ gt := gt_in (List.mem_append_right _ (List.mem_of_getElem? (i := 574) (by decide +kernel))) (by decide)
theorem kw_576 : Cond.instanceMethod yX9_alikeTo ∈ gt := gt_in (List.mem_append_right _ (List.mem_of_getElem? (i := 576) (by decide +kernel))) (by decide)
set_option maxRecDepth 20000 in
theorem kw_577 : Cond.code yX9_alikeTo cX9_alikeTo 6 (some .int) ∈ gt := gt_in (List.mem_append_right _ (List.mem_of_getElem? (i := 577) rfl)) (by decide)
theorem kw_578 : Cond.methodLink RX9 362 yJ9_max_7cf53 ∈ gt := gt_in (List.mem_append_right _ (List.mem_of_getElem? (i := 578) (by decide +kernel))) (by decide)
theorem kw_579 : Cond.static yJ9_max_7cf53 ∈ gt := gt_in (List.mem_append_right _ (List.mem_of_getElem? (i := 579) (by decide +kernel))) (by decide)
set_option maxRecDepth 20000 in
theorem kw_580 : Cond.code yJ9_max_7cf53 cJ9_max_7cf53 2 (some .int) ∈ gt := gt_in (List.mem_append_right _ (List.mem_of_getElem? (i := 580) rfl)) (by decide)
theorem kw_581 : Cond.methodLink RL 113 yX9_road ∈ gt := gt_in (List.mem_append_right _ (List.mem_of_getElem? (i := 581) (by decide +kernel))) (by decide)
theorem kw_582 : Cond.instanceMethod yX9_road ∈ gt := gt_in (List.mem_append_right _ (List.mem_of_getElem? (i := 582) (by decide +kernel))) (by decide)
theorem kw_583 : Cond.selects RX9 yX9_road yX9_road ∈ gt := gt_in (List.mem_append_right _ (List.mem_of_getElem? (i := 583) (by decide +kernel))) (by decide)
set_option maxRecDepth 20000 in
theorem kw_584 : Cond.code yX9_road cX9_road 5 (some .long) ∈ gt := gt_in (List.mem_append_right _ (List.mem_of_getElem? (i := 584) rfl)) (by decide)
theorem kw_585 : Cond.constantLong RX9 241 (-9223372036854775806) ∈ gt := gt_in (List.mem_append_right _ (List.mem_of_getElem? (i := 585) (by decide +kernel))) (by decide)
theorem kw_586 : Cond.methodLink RX9 243 yX0_reckon ∈ gt := gt_in (List.mem_append_right _ (List.mem_of_getElem? (i := 586) (by decide +kernel))) (by decide)
theorem kw_587 : Cond.instanceMethod yX0_reckon ∈ gt := gt_in (List.mem_append_right _ (List.mem_of_getElem? (i := 587) (by decide +kernel))) (by decide)
theorem kw_588 : Cond.selects RX0 yX0_reckon yX0_reckon ∈ gt := gt_in (List.mem_append_right _ (List.mem_of_getElem? (i := 588) (by decide +kernel))) (by decide)
set_option maxRecDepth 20000 in
theorem kw_589 : Cond.code yX0_reckon cX0_reckon 7 none ∈ gt := gt_in (List.mem_append_right _ (List.mem_of_getElem? (i := 589) rfl)) (by decide)
theorem kw_590 : Cond.methodLink RX0 20 yX1_gaveTo ∈ gt := gt_in (List.mem_append_right _ (List.mem_of_getElem? (i := 590) (by decide +kernel))) (by decide)
theorem kw_591 : Cond.methodLink RX0 26 yX0_join ∈ gt := gt_in (List.mem_append_right _ (List.mem_of_getElem? (i := 591) (by decide +kernel))) (by decide)
theorem kw_592 : Cond.instanceMethod yX0_join ∈ gt := gt_in (List.mem_append_right _ (List.mem_of_getElem? (i := 592) (by decide +kernel))) (by decide)
theorem kw_593 : Cond.selects RX0 yX0_join yX0_join ∈ gt := gt_in (List.mem_append_right _ (List.mem_of_getElem? (i := 593) (by decide +kernel))) (by decide)
set_option maxRecDepth 20000 in
theorem kw_594 : Cond.code yX0_join cX0_join 6 none ∈ gt := gt_in (List.mem_append_right _ (List.mem_of_getElem? (i := 594) rfl)) (by decide)
theorem kw_595 : Cond.constantLong RX0 30 (16) ∈ gt := gt_in (List.mem_append_right _ (List.mem_of_getElem? (i := 595) (by decide +kernel))) (by decide)
theorem kw_596 : Cond.methodLink RX0 32 yX0_reduce ∈ gt := gt_in (List.mem_append_right _ (List.mem_of_getElem? (i := 596) (by decide +kernel))) (by decide)
theorem kw_597 : Cond.instanceMethod yX0_reduce ∈ gt := gt_in (List.mem_append_right _ (List.mem_of_getElem? (i := 597) (by decide +kernel))) (by decide)
theorem kw_598 : Cond.selects RX0 yX0_reduce yX0_reduce ∈ gt := gt_in (List.mem_append_right _ (List.mem_of_getElem? (i := 598) (by decide +kernel))) (by decide)
set_option maxRecDepth 20000 in
theorem kw_599 : Cond.code yX0_reduce cX0_reduce 2 none ∈ gt := gt_in (List.mem_append_right _ (List.mem_of_getElem? (i := 599) rfl)) (by decide)
theorem kw_600 : Cond.constantLong RX0 35 (2) ∈ gt := gt_in (List.mem_append_right _ (List.mem_of_getElem? (i := 600) (by decide +kernel))) (by decide)
theorem kw_601 : Cond.methodLink RL 118 yX9_season ∈ gt := gt_in (List.mem_append_right _ (List.mem_of_getElem? (i := 601) (by decide +kernel))) (by decide)
theorem kw_602 : Cond.instanceMethod yX9_season ∈ gt := gt_in (List.mem_append_right _ (List.mem_of_getElem? (i := 602) (by decide +kernel))) (by decide)
theorem kw_603 : Cond.selects RX9 yX9_season yX9_season ∈ gt := gt_in (List.mem_append_right _ (List.mem_of_getElem? (i := 603) (by decide +kernel))) (by decide)
set_option maxRecDepth 20000 in
theorem kw_604 : Cond.code yX9_season cX9_season 9 (some .int) ∈ gt := gt_in (List.mem_append_right _ (List.mem_of_getElem? (i := 604) rfl)) (by decide)
theorem kw_605 : Cond.constant RX9 254 (1103515245) ∈ gt := gt_in (List.mem_append_right _ (List.mem_of_getElem? (i := 605) (by decide +kernel))) (by decide)
theorem kw_606 : Cond.methodLink RL 123 yX9_sheet ∈ gt := gt_in (List.mem_append_right _ (List.mem_of_getElem? (i := 606) (by decide +kernel))) (by decide)
theorem kw_607 : Cond.instanceMethod yX9_sheet ∈ gt := gt_in (List.mem_append_right _ (List.mem_of_getElem? (i := 607) (by decide +kernel))) (by decide)
theorem kw_608 : Cond.selects RX9 yX9_sheet yX9_sheet ∈ gt := gt_in (List.mem_append_right _ (List.mem_of_getElem? (i := 608) (by decide +kernel))) (by decide)
set_option maxRecDepth 20000 in
theorem kw_609 : Cond.code yX9_sheet cX9_sheet 4 (some .int) ∈ gt := gt_in (List.mem_append_right _ (List.mem_of_getElem? (i := 609) rfl)) (by decide)
theorem kw_610 : Cond.methodLink RX9 255 yX9_isForm ∈ gt := gt_in (List.mem_append_right _ (List.mem_of_getElem? (i := 610) (by decide +kernel))) (by decide)
theorem kw_611 : Cond.static yX9_isForm ∈ gt := gt_in (List.mem_append_right _ (List.mem_of_getElem? (i := 611) (by decide +kernel))) (by decide)
set_option maxRecDepth 20000 in
theorem kw_612 : Cond.code yX9_isForm cX9_isForm 1 (some .boolean) ∈ gt := gt_in (List.mem_append_right _ (List.mem_of_getElem? (i := 612) rfl)) (by decide)
theorem kw_613 : Cond.methodLink RX9 258 yX5_start ∈ gt := gt_in (List.mem_append_right _ (List.mem_of_getElem? (i := 613) (by decide +kernel))) (by decide)
theorem kw_614 : Cond.instanceMethod yX5_start ∈ gt := gt_in (List.mem_append_right _ (List.mem_of_getElem? (i := 614) (by decide +kernel))) (by decide)
theorem kw_615 : Cond.selects RX5 yX5_start yX5_start ∈ gt := gt_in (List.mem_append_right _ (List.mem_of_getElem? (i := 615) (by decide +kernel))) (by decide)
set_option maxRecDepth 20000 in
theorem kw_616 : Cond.code yX5_start cX5_start 5 none ∈ gt := gt_in (List.mem_append_right _ (List.mem_of_getElem? (i := 616) rfl)) (by decide)
theorem kw_617 : Cond.methodLink RL 127 yX9_lose ∈ gt := gt_in (List.mem_append_right _ (List.mem_of_getElem? (i := 617) (by decide +kernel))) (by decide)
theorem kw_618 : Cond.instanceMethod yX9_lose ∈ gt := gt_in (List.mem_append_right _ (List.mem_of_getElem? (i := 618) (by decide +kernel))) (by decide)
theorem kw_619 : Cond.selects RX9 yX9_lose yX9_lose ∈ gt := gt_in (List.mem_append_right _ (List.mem_of_getElem? (i := 619) (by decide +kernel))) (by decide)
set_option maxRecDepth 20000 in
theorem kw_620 : Cond.code yX9_lose cX9_lose 3 (some .int) ∈ gt := gt_in (List.mem_append_right _ (List.mem_of_getElem? (i := 620) rfl)) (by decide)
theorem kw_621 : Cond.methodLink RL 131 yX9_lay ∈ gt := gt_in (List.mem_append_right _ (List.mem_of_getElem? (i := 621) (by decide +kernel))) (by decide)
theorem kw_622 : Cond.instanceMethod yX9_lay ∈ gt := gt_in (List.mem_append_right _ (List.mem_of_getElem? (i := 622) (by decide +kernel))) (by decide)
theorem kw_623 : Cond.selects RX9 yX9_lay yX9_lay ∈ gt := gt_in (List.mem_append_right _ (List.mem_of_getElem? (i := 623) (by decide +kernel))) (by decide)
set_option maxRecDepth 20000 in
theorem kw_624 : Cond.code yX9_lay cX9_lay 6 (some .int) ∈ gt := gt_in (List.mem_append_right _ (List.mem_of_getElem? (i := 624) rfl)) (by decide)
theorem kw_625 : Cond.methodLink RX9 262 yX9_itemFinding ∈ gt := gt_in (List.mem_append_right _ (List.mem_of_getElem? (i := 625) (by decide +kernel))) (by decide)
theorem kw_627 : Cond.instanceMethod yX9_itemFinding ∈ gt := gt_in (List.mem_append_right _ (List.mem_of_getElem? (i := 627) (by decide +kernel))) (by decide)
set_option maxRecDepth 20000 in
theorem kw_628 : Cond.code yX9_itemFinding cX9_itemFinding 4 (some .int) ∈ gt := gt_in (List.mem_append_right _ (List.mem_of_getElem? (i := 628) rfl)) (by decide)
theorem kw_629 : Cond.methodLink RX9 266 yX5_put ∈ gt := gt_in (List.mem_append_right _ (List.mem_of_getElem? (i := 629) (by decide +kernel))) (by decide)
theorem kw_630 : Cond.instanceMethod yX5_put ∈ gt := gt_in (List.mem_append_right _ (List.mem_of_getElem? (i := 630) (by decide +kernel))) (by decide)
theorem kw_631 : Cond.selects RX5 yX5_put yX5_put ∈ gt := gt_in (List.mem_append_right _ (List.mem_of_getElem? (i := 631) (by decide +kernel))) (by decide)
set_option maxRecDepth 20000 in
theorem kw_632 : Cond.code yX5_put cX5_put 5 none ∈ gt := gt_in (List.mem_append_right _ (List.mem_of_getElem? (i := 632) rfl)) (by decide)
theorem kw_633 : Cond.methodLink RL 135 yX9_get ∈ gt := gt_in (List.mem_append_right _ (List.mem_of_getElem? (i := 633) (by decide +kernel))) (by decide)
theorem kw_634 : Cond.instanceMethod yX9_get ∈ gt := gt_in (List.mem_append_right _ (List.mem_of_getElem? (i := 634) (by decide +kernel))) (by decide)
theorem kw_635 : Cond.selects RX9 yX9_get yX9_get ∈ gt := gt_in (List.mem_append_right _ (List.mem_of_getElem? (i := 635) (by decide +kernel))) (by decide)
set_option maxRecDepth 20000 in
theorem kw_636 : Cond.code yX9_get cX9_get 5 (some .int) ∈ gt := gt_in (List.mem_append_right _ (List.mem_of_getElem? (i := 636) rfl)) (by decide)
theorem kw_637 : Cond.constant RX9 269 (-2147483648) ∈ gt := gt_in (List.mem_append_right _ (List.mem_of_getElem? (i := 637) (by decide +kernel))) (by decide)
theorem kw_638 : Cond.methodLink RL 139 yX9_copy ∈ gt := gt_in (List.mem_append_right _ (List.mem_of_getElem? (i := 638) (by decide +kernel))) (by decide)
theorem kw_639 : Cond.instanceMethod yX9_copy ∈ gt := gt_in (List.mem_append_right _ (List.mem_of_getElem? (i := 639) (by decide +kernel))) (by decide)
theorem kw_640 : Cond.selects RX9 yX9_copy yX9_copy ∈ gt := gt_in (List.mem_append_right _ (List.mem_of_getElem? (i := 640) (by decide +kernel))) (by decide)
set_option maxRecDepth 20000 in
theorem kw_641 : Cond.code yX9_copy cX9_copy 6 (some .int) ∈ gt := gt_in (List.mem_append_right _ (List.mem_of_getElem? (i := 641) rfl)) (by decide)
theorem kw_642 : Cond.methodLink RX9 273 yX5_has ∈ gt := gt_in (List.mem_append_right _ (List.mem_of_getElem? (i := 642) (by decide +kernel))) (by decide)
theorem kw_643 : Cond.instanceMethod yX5_has ∈ gt := gt_in (List.mem_append_right _ (List.mem_of_getElem? (i := 643) (by decide +kernel))) (by decide)
theorem kw_644 : Cond.selects RX5 yX5_has yX5_has ∈ gt := gt_in (List.mem_append_right _ (List.mem_of_getElem? (i := 644) (by decide +kernel))) (by decide)
set_option maxRecDepth 20000 in
theorem kw_645 : Cond.code yX5_has cX5_has 4 (some .boolean) ∈ gt := gt_in (List.mem_append_right _ (List.mem_of_getElem? (i := 645) rfl)) (by decide)
theorem kw_646 : Cond.methodLink RX9 277 yX5_move ∈ gt := gt_in (List.mem_append_right _ (List.mem_of_getElem? (i := 646) (by decide +kernel))) (by decide)
theorem kw_647 : Cond.instanceMethod yX5_move ∈ gt := gt_in (List.mem_append_right _ (List.mem_of_getElem? (i := 647) (by decide +kernel))) (by decide)
theorem kw_648 : Cond.selects RX5 yX5_move yX5_move ∈ gt := gt_in (List.mem_append_right _ (List.mem_of_getElem? (i := 648) (by decide +kernel))) (by decide)
set_option maxRecDepth 20000 in
theorem kw_649 : Cond.code yX5_move cX5_move 6 none ∈ gt := gt_in (List.mem_append_right _ (List.mem_of_getElem? (i := 649) rfl)) (by decide)
theorem kw_650 : Cond.methodLink RX5 19 arraycopyName ∈ gt := gt_in (List.mem_append_right _ (List.mem_of_getElem? (i := 650) (by decide +kernel))) (by decide)
theorem kw_651 : Cond.static arraycopyName ∈ gt := gt_in (List.mem_append_right _ (List.mem_of_getElem? (i := 651) (by decide +kernel))) (by decide)
theorem kw_652 : Cond.native arraycopyName ∈ gt := gt_in (List.mem_append_right _ (List.mem_of_getElem? (i := 652) (by decide +kernel))) (by decide)
theorem kw_653 : Cond.methodLink RL 144 yX9_write ∈ gt := gt_in (List.mem_append_right _ (List.mem_of_getElem? (i := 653) (by decide +kernel))) (by decide)
theorem kw_654 : Cond.instanceMethod yX9_write ∈ gt := gt_in (List.mem_append_right _ (List.mem_of_getElem? (i := 654) (by decide +kernel))) (by decide)
theorem kw_655 : Cond.selects RX9 yX9_write yX9_write ∈ gt := gt_in (List.mem_append_right _ (List.mem_of_getElem? (i := 655) (by decide +kernel))) (by decide)
set_option maxRecDepth 20000 in
theorem kw_656 : Cond.code yX9_write cX9_write 5 (some .int) ∈ gt := gt_in (List.mem_append_right _ (List.mem_of_getElem? (i := 656) rfl)) (by decide)
theorem kw_657 : Cond.methodLink RX9 281 yJ9_min_7cf53 ∈ gt := gt_in (List.mem_append_right _ (List.mem_of_getElem? (i := 657) (by decide +kernel))) (by decide)
theorem kw_658 : Cond.methodLink RL 148 yX9_count ∈ gt := gt_in (List.mem_append_right _ (List.mem_of_getElem? (i := 658) (by decide +kernel))) (by decide)
theorem kw_659 : Cond.instanceMethod yX9_count ∈ gt := gt_in (List.mem_append_right _ (List.mem_of_getElem? (i := 659) (by decide +kernel))) (by decide)
theorem kw_660 : Cond.selects RX9 yX9_count yX9_count ∈ gt := gt_in (List.mem_append_right _ (List.mem_of_getElem? (i := 660) (by decide +kernel))) (by decide)
set_option maxRecDepth 20000 in
theorem kw_661 : Cond.code yX9_count cX9_count 2 (some .int) ∈ gt := gt_in (List.mem_append_right _ (List.mem_of_getElem? (i := 661) rfl)) (by decide)
theorem kw_662 : Cond.methodLink RX9 286 yX9_givenInAll ∈ gt := gt_in (List.mem_append_right _ (List.mem_of_getElem? (i := 662) (by decide +kernel))) (by decide)
theorem kw_664 : Cond.instanceMethod yX9_givenInAll ∈ gt := gt_in (List.mem_append_right _ (List.mem_of_getElem? (i := 664) (by decide +kernel))) (by decide)
set_option maxRecDepth 20000 in
theorem kw_665 : Cond.code yX9_givenInAll cX9_givenInAll 3 (some .int) ∈ gt := gt_in (List.mem_append_right _ (List.mem_of_getElem? (i := 665) rfl)) (by decide)
theorem kw_666 : Cond.methodLink RX9 289 yX9_sleepersInAll ∈ gt := gt_in (List.mem_append_right _ (List.mem_of_getElem? (i := 666) (by decide +kernel))) (by decide)
theorem kw_668 : Cond.instanceMethod yX9_sleepersInAll ∈ gt := gt_in (List.mem_append_right _ (List.mem_of_getElem? (i := 668) (by decide +kernel))) (by decide)
set_option maxRecDepth 20000 in
theorem kw_669 : Cond.code yX9_sleepersInAll cX9_sleepersInAll 3 (some .int) ∈ gt := gt_in (List.mem_append_right _ (List.mem_of_getElem? (i := 669) rfl)) (by decide)
theorem kw_670 : Cond.methodLink RL 152 yX9_digest ∈ gt := gt_in (List.mem_append_right _ (List.mem_of_getElem? (i := 670) (by decide +kernel))) (by decide)
theorem kw_671 : Cond.instanceMethod yX9_digest ∈ gt := gt_in (List.mem_append_right _ (List.mem_of_getElem? (i := 671) (by decide +kernel))) (by decide)
theorem kw_672 : Cond.selects RX9 yX9_digest yX9_digest ∈ gt := gt_in (List.mem_append_right _ (List.mem_of_getElem? (i := 672) (by decide +kernel))) (by decide)
set_option maxRecDepth 20000 in
theorem kw_673 : Cond.code yX9_digest cX9_digest 4 (some .long) ∈ gt := gt_in (List.mem_append_right _ (List.mem_of_getElem? (i := 673) rfl)) (by decide)
theorem kw_674 : Cond.constantLong RX9 292 (17) ∈ gt := gt_in (List.mem_append_right _ (List.mem_of_getElem? (i := 674) (by decide +kernel))) (by decide)
theorem kw_675 : Cond.constantLong RX9 294 (31) ∈ gt := gt_in (List.mem_append_right _ (List.mem_of_getElem? (i := 675) (by decide +kernel))) (by decide)
theorem kw_676 : Cond.methodLink RX9 296 yX9_count ∈ gt := gt_in (List.mem_append_right _ (List.mem_of_getElem? (i := 676) (by decide +kernel))) (by decide)
theorem kw_677 : Cond.methodLink RX9 298 yX9_fault ∈ gt := gt_in (List.mem_append_right _ (List.mem_of_getElem? (i := 677) (by decide +kernel))) (by decide)
theorem kw_678 : Cond.methodLink RX9 301 yX9_mixHouse ∈ gt := gt_in (List.mem_append_right _ (List.mem_of_getElem? (i := 678) (by decide +kernel))) (by decide)
theorem kw_680 : Cond.instanceMethod yX9_mixHouse ∈ gt := gt_in (List.mem_append_right _ (List.mem_of_getElem? (i := 680) (by decide +kernel))) (by decide)
set_option maxRecDepth 20000 in
theorem kw_681 : Cond.code yX9_mixHouse cX9_mixHouse 7 (some .long) ∈ gt := gt_in (List.mem_append_right _ (List.mem_of_getElem? (i := 681) rfl)) (by decide)
theorem kw_682 : Cond.methodLink RX9 365 yX9_house ∈ gt := gt_in (List.mem_append_right _ (List.mem_of_getElem? (i := 682) (by decide +kernel))) (by decide)
theorem kw_683 : Cond.methodLink RX9 367 yX9_at ∈ gt := gt_in (List.mem_append_right _ (List.mem_of_getElem? (i := 683) (by decide +kernel))) (by decide)
theorem kw_684 : Cond.methodLink RX9 370 yX9_all ∈ gt := gt_in (List.mem_append_right _ (List.mem_of_getElem? (i := 684) (by decide +kernel))) (by decide)
theorem kw_685 : Cond.methodLink RX9 373 yX9_price ∈ gt := gt_in (List.mem_append_right _ (List.mem_of_getElem? (i := 685) (by decide +kernel))) (by decide)
theorem kw_686 : Cond.methodLink RX9 305 yX9_mixPlans ∈ gt := gt_in (List.mem_append_right _ (List.mem_of_getElem? (i := 686) (by decide +kernel))) (by decide)
theorem kw_688 : Cond.instanceMethod yX9_mixPlans ∈ gt := gt_in (List.mem_append_right _ (List.mem_of_getElem? (i := 688) (by decide +kernel))) (by decide)
set_option maxRecDepth 20000 in
theorem kw_689 : Cond.code yX9_mixPlans cX9_mixPlans 7 (some .long) ∈ gt := gt_in (List.mem_append_right _ (List.mem_of_getElem? (i := 689) rfl)) (by decide)
theorem kw_690 : Cond.constantLong RX9 376 (-2) ∈ gt := gt_in (List.mem_append_right _ (List.mem_of_getElem? (i := 690) (by decide +kernel))) (by decide)
theorem kw_691 : Cond.methodLink RX9 378 yX9_soup ∈ gt := gt_in (List.mem_append_right _ (List.mem_of_getElem? (i := 691) (by decide +kernel))) (by decide)
theorem kw_692 : Cond.methodLink RX9 308 yX9_mixRoads ∈ gt := gt_in (List.mem_append_right _ (List.mem_of_getElem? (i := 692) (by decide +kernel))) (by decide)
theorem kw_694 : Cond.instanceMethod yX9_mixRoads ∈ gt := gt_in (List.mem_append_right _ (List.mem_of_getElem? (i := 694) (by decide +kernel))) (by decide)
set_option maxRecDepth 20000 in
theorem kw_695 : Cond.code yX9_mixRoads cX9_mixRoads 6 (some .long) ∈ gt := gt_in (List.mem_append_right _ (List.mem_of_getElem? (i := 695) rfl)) (by decide)
theorem kw_696 : Cond.methodLink RX9 381 yX9_road ∈ gt := gt_in (List.mem_append_right _ (List.mem_of_getElem? (i := 696) (by decide +kernel))) (by decide)
theorem kw_697 : Cond.methodLink RX9 385 yX9_season ∈ gt := gt_in (List.mem_append_right _ (List.mem_of_getElem? (i := 697) (by decide +kernel))) (by decide)
theorem kw_698 : Cond.methodLink RX9 311 yX9_mixGuest ∈ gt := gt_in (List.mem_append_right _ (List.mem_of_getElem? (i := 698) (by decide +kernel))) (by decide)
theorem kw_700 : Cond.instanceMethod yX9_mixGuest ∈ gt := gt_in (List.mem_append_right _ (List.mem_of_getElem? (i := 700) (by decide +kernel))) (by decide)
set_option maxRecDepth 20000 in
theorem kw_701 : Cond.code yX9_mixGuest cX9_mixGuest 7 (some .long) ∈ gt := gt_in (List.mem_append_right _ (List.mem_of_getElem? (i := 701) rfl)) (by decide)
theorem kw_702 : Cond.methodLink RX9 389 yX9_guest ∈ gt := gt_in (List.mem_append_right _ (List.mem_of_getElem? (i := 702) (by decide +kernel))) (by decide)
theorem kw_703 : Cond.methodLink RX9 392 yX9_fed ∈ gt := gt_in (List.mem_append_right _ (List.mem_of_getElem? (i := 703) (by decide +kernel))) (by decide)
theorem kw_704 : Cond.methodLink RX9 395 yX9_began ∈ gt := gt_in (List.mem_append_right _ (List.mem_of_getElem? (i := 704) (by decide +kernel))) (by decide)
theorem kw_705 : Cond.methodLink RX9 398 yX9_gives ∈ gt := gt_in (List.mem_append_right _ (List.mem_of_getElem? (i := 705) (by decide +kernel))) (by decide)
theorem kw_706 : Cond.methodLink RX9 314 yX9_poor ∈ gt := gt_in (List.mem_append_right _ (List.mem_of_getElem? (i := 706) (by decide +kernel))) (by decide)
theorem kw_707 : Cond.methodLink RX9 317 yX9_passed ∈ gt := gt_in (List.mem_append_right _ (List.mem_of_getElem? (i := 707) (by decide +kernel))) (by decide)
theorem kw_708 : Cond.methodLink RX9 320 yX9_ask ∈ gt := gt_in (List.mem_append_right _ (List.mem_of_getElem? (i := 708) (by decide +kernel))) (by decide)
theorem kw_709 : Cond.classLink RL 10 RX10 ∈ gt := gt_in (List.mem_append_right _ (List.mem_of_getElem? (i := 709) (by decide +kernel))) (by decide)
theorem kw_710 : Cond.instantiable RX10 24 ∈ gt := gt_in (List.mem_append_right _ (List.mem_of_getElem? (i := 710) (by decide +kernel))) (by decide)
theorem kw_711 : Cond.methodLink RL 12 yX10_init ∈ gt := gt_in (List.mem_append_right _ (List.mem_of_getElem? (i := 711) (by decide +kernel))) (by decide)
theorem kw_712 : Cond.instanceMethod yX10_init ∈ gt := gt_in (List.mem_append_right _ (List.mem_of_getElem? (i := 712) (by decide +kernel))) (by decide)
set_option maxRecDepth 20000 in
theorem kw_713 : Cond.code yX10_init cX10_init 2 none ∈ gt := gt_in (List.mem_append_right _ (List.mem_of_getElem? (i := 713) rfl)) (by decide)
theorem kw_714 : Cond.methodLink RX10 1 objectInit ∈ gt := gt_in (List.mem_append_right _ (List.mem_of_getElem? (i := 714) (by decide +kernel))) (by decide)
theorem kw_715 : Cond.fieldLink RX10 7 "TurnFeastModel" "forms" "[I" ∈ gt := gt_in (List.mem_append_right _ (List.mem_of_getElem? (i := 715) (by decide +kernel))) (by decide)
theorem kw_716 : Cond.fieldLink RX10 13 "TurnFeastModel" "sizes" "[I" ∈ gt := gt_in (List.mem_append_right _ (List.mem_of_getElem? (i := 716) (by decide +kernel))) (by decide)
theorem kw_717 : Cond.fieldLink RX10 16 "TurnFeastModel" "items" "[I" ∈ gt := gt_in (List.mem_append_right _ (List.mem_of_getElem? (i := 717) (by decide +kernel))) (by decide)
theorem kw_718 : Cond.fieldLink RX10 19 "TurnFeastModel" "moved" "[I" ∈ gt := gt_in (List.mem_append_right _ (List.mem_of_getElem? (i := 718) (by decide +kernel))) (by decide)
theorem kw_719 : Cond.fieldLink RX10 64 "TurnFeastModel" "latest" "I" ∈ gt := gt_in (List.mem_append_right _ (List.mem_of_getElem? (i := 719) (by decide +kernel))) (by decide)
theorem kw_720 : Cond.fieldLink RX10 22 "TurnFeastModel" "bytes" "[I" ∈ gt := gt_in (List.mem_append_right _ (List.mem_of_getElem? (i := 720) (by decide +kernel))) (by decide)
theorem kw_721 : Cond.fieldLink RX10 25 "TurnFeastModel" "typed" "[I" ∈ gt := gt_in (List.mem_append_right _ (List.mem_of_getElem? (i := 721) (by decide +kernel))) (by decide)
theorem kw_722 : Cond.fieldLink RX10 97 "TurnFeastModel" "houses" "I" ∈ gt := gt_in (List.mem_append_right _ (List.mem_of_getElem? (i := 722) (by decide +kernel))) (by decide)
theorem kw_723 : Cond.fieldLink RX10 28 "TurnFeastModel" "house" "[I" ∈ gt := gt_in (List.mem_append_right _ (List.mem_of_getElem? (i := 723) (by decide +kernel))) (by decide)
theorem kw_724 : Cond.fieldLink RX10 103 "TurnFeastModel" "guests" "I" ∈ gt := gt_in (List.mem_append_right _ (List.mem_of_getElem? (i := 724) (by decide +kernel))) (by decide)
theorem kw_725 : Cond.fieldLink RX10 31 "TurnFeastModel" "guest" "[I" ∈ gt := gt_in (List.mem_append_right _ (List.mem_of_getElem? (i := 725) (by decide +kernel))) (by decide)
theorem kw_726 : Cond.fieldLink RX10 34 "TurnFeastModel" "settings" "[I" ∈ gt := gt_in (List.mem_append_right _ (List.mem_of_getElem? (i := 726) (by decide +kernel))) (by decide)
theorem kw_727 : Cond.fieldLink RX10 37 "TurnFeastModel" "row" "[I" ∈ gt := gt_in (List.mem_append_right _ (List.mem_of_getElem? (i := 727) (by decide +kernel))) (by decide)
theorem kw_728 : Cond.fieldLink RX10 40 "TurnFeastModel" "given" "[I" ∈ gt := gt_in (List.mem_append_right _ (List.mem_of_getElem? (i := 728) (by decide +kernel))) (by decide)
theorem kw_729 : Cond.fieldLink RX10 43 "TurnFeastModel" "sleeps" "[I" ∈ gt := gt_in (List.mem_append_right _ (List.mem_of_getElem? (i := 729) (by decide +kernel))) (by decide)
theorem kw_730 : Cond.fieldLink RX10 46 "TurnFeastModel" "left" "[I" ∈ gt := gt_in (List.mem_append_right _ (List.mem_of_getElem? (i := 730) (by decide +kernel))) (by decide)
theorem kw_731 : Cond.fieldLink RX10 49 "TurnFeastModel" "turns" "[I" ∈ gt := gt_in (List.mem_append_right _ (List.mem_of_getElem? (i := 731) (by decide +kernel))) (by decide)
theorem kw_732 : Cond.fieldLink RX10 52 "TurnFeastModel" "goes" "[I" ∈ gt := gt_in (List.mem_append_right _ (List.mem_of_getElem? (i := 732) (by decide +kernel))) (by decide)
theorem kw_733 : Cond.fieldLink RX10 172 "TurnFeastModel" "best" "I" ∈ gt := gt_in (List.mem_append_right _ (List.mem_of_getElem? (i := 733) (by decide +kernel))) (by decide)
theorem kw_734 : Cond.fieldLink RX10 175 "TurnFeastModel" "bestGives" "I" ∈ gt := gt_in (List.mem_append_right _ (List.mem_of_getElem? (i := 734) (by decide +kernel))) (by decide)
theorem kw_735 : Cond.fieldLink RX10 178 "TurnFeastModel" "bestTales" "I" ∈ gt := gt_in (List.mem_append_right _ (List.mem_of_getElem? (i := 735) (by decide +kernel))) (by decide)
theorem kw_736 : Cond.fieldLink RX10 202 "TurnFeastModel" "sights" "I" ∈ gt := gt_in (List.mem_append_right _ (List.mem_of_getElem? (i := 736) (by decide +kernel))) (by decide)
theorem kw_737 : Cond.fieldLink RX10 55 "TurnFeastModel" "sight" "[I" ∈ gt := gt_in (List.mem_append_right _ (List.mem_of_getElem? (i := 737) (by decide +kernel))) (by decide)
theorem kw_738 : Cond.fieldLink RX10 241 "TurnFeastModel" "drawn" "I" ∈ gt := gt_in (List.mem_append_right _ (List.mem_of_getElem? (i := 738) (by decide +kernel))) (by decide)
theorem kw_788 : Cond.methodLink RL 126 yX10_sheet ∈ gt := gt_in (List.mem_append_right _ (List.mem_of_getElem? (i := 788) (by decide +kernel))) (by decide)
theorem kw_789 : Cond.instanceMethod yX10_sheet ∈ gt := gt_in (List.mem_append_right _ (List.mem_of_getElem? (i := 789) (by decide +kernel))) (by decide)
theorem kw_790 : Cond.selects RX10 yX10_sheet yX10_sheet ∈ gt := gt_in (List.mem_append_right _ (List.mem_of_getElem? (i := 790) (by decide +kernel))) (by decide)
set_option maxRecDepth 20000 in
theorem kw_791 : Cond.code yX10_sheet cX10_sheet 5 (some .int) ∈ gt := gt_in (List.mem_append_right _ (List.mem_of_getElem? (i := 791) rfl)) (by decide)
theorem kw_792 : Cond.methodLink RX10 70 yX10_isSheet ∈ gt := gt_in (List.mem_append_right _ (List.mem_of_getElem? (i := 792) (by decide +kernel))) (by decide)
theorem kw_793 : Cond.static yX10_isSheet ∈ gt := gt_in (List.mem_append_right _ (List.mem_of_getElem? (i := 793) (by decide +kernel))) (by decide)
set_option maxRecDepth 20000 in
theorem kw_794 : Cond.code yX10_isSheet cX10_isSheet 1 (some .boolean) ∈ gt := gt_in (List.mem_append_right _ (List.mem_of_getElem? (i := 794) rfl)) (by decide)
theorem kw_795 : Cond.constantLong RX10 68 (3) ∈ gt := gt_in (List.mem_append_right _ (List.mem_of_getElem? (i := 795) (by decide +kernel))) (by decide)
theorem kw_796 : Cond.methodLink RX10 60 yX10_in ∈ gt := gt_in (List.mem_append_right _ (List.mem_of_getElem? (i := 796) (by decide +kernel))) (by decide)
theorem kw_797 : Cond.static yX10_in ∈ gt := gt_in (List.mem_append_right _ (List.mem_of_getElem? (i := 797) (by decide +kernel))) (by decide)
set_option maxRecDepth 20000 in
theorem kw_798 : Cond.code yX10_in cX10_in 6 (some .boolean) ∈ gt := gt_in (List.mem_append_right _ (List.mem_of_getElem? (i := 798) rfl)) (by decide)
theorem kw_799 : Cond.constantLong RX10 74 (2) ∈ gt := gt_in (List.mem_append_right _ (List.mem_of_getElem? (i := 799) (by decide +kernel))) (by decide)
theorem kw_800 : Cond.methodLink RX10 76 yX10_finds ∈ gt := gt_in (List.mem_append_right _ (List.mem_of_getElem? (i := 800) (by decide +kernel))) (by decide)
theorem kw_802 : Cond.instanceMethod yX10_finds ∈ gt := gt_in (List.mem_append_right _ (List.mem_of_getElem? (i := 802) (by decide +kernel))) (by decide)
set_option maxRecDepth 20000 in
theorem kw_803 : Cond.code yX10_finds cX10_finds 2 (some .int) ∈ gt := gt_in (List.mem_append_right _ (List.mem_of_getElem? (i := 803) rfl)) (by decide)
theorem kw_804 : Cond.methodLink RL 130 yX10_lose ∈ gt := gt_in (List.mem_append_right _ (List.mem_of_getElem? (i := 804) (by decide +kernel))) (by decide)
theorem kw_805 : Cond.instanceMethod yX10_lose ∈ gt := gt_in (List.mem_append_right _ (List.mem_of_getElem? (i := 805) (by decide +kernel))) (by decide)
theorem kw_806 : Cond.selects RX10 yX10_lose yX10_lose ∈ gt := gt_in (List.mem_append_right _ (List.mem_of_getElem? (i := 806) (by decide +kernel))) (by decide)
set_option maxRecDepth 20000 in
theorem kw_807 : Cond.code yX10_lose cX10_lose 2 (some .int) ∈ gt := gt_in (List.mem_append_right _ (List.mem_of_getElem? (i := 807) rfl)) (by decide)
theorem kw_808 : Cond.methodLink RL 134 yX10_lay ∈ gt := gt_in (List.mem_append_right _ (List.mem_of_getElem? (i := 808) (by decide +kernel))) (by decide)
theorem kw_809 : Cond.instanceMethod yX10_lay ∈ gt := gt_in (List.mem_append_right _ (List.mem_of_getElem? (i := 809) (by decide +kernel))) (by decide)
theorem kw_810 : Cond.selects RX10 yX10_lay yX10_lay ∈ gt := gt_in (List.mem_append_right _ (List.mem_of_getElem? (i := 810) (by decide +kernel))) (by decide)
set_option maxRecDepth 20000 in
theorem kw_811 : Cond.code yX10_lay cX10_lay 6 (some .int) ∈ gt := gt_in (List.mem_append_right _ (List.mem_of_getElem? (i := 811) rfl)) (by decide)
theorem kw_812 : Cond.methodLink RX10 80 yX10_lacks ∈ gt := gt_in (List.mem_append_right _ (List.mem_of_getElem? (i := 812) (by decide +kernel))) (by decide)
theorem kw_814 : Cond.instanceMethod yX10_lacks ∈ gt := gt_in (List.mem_append_right _ (List.mem_of_getElem? (i := 814) (by decide +kernel))) (by decide)
set_option maxRecDepth 20000 in
theorem kw_815 : Cond.code yX10_lacks cX10_lacks 4 (some .int) ∈ gt := gt_in (List.mem_append_right _ (List.mem_of_getElem? (i := 815) rfl)) (by decide)
theorem kw_816 : Cond.methodLink RX10 84 yX10_cut ∈ gt := gt_in (List.mem_append_right _ (List.mem_of_getElem? (i := 816) (by decide +kernel))) (by decide)
theorem kw_817 : Cond.static yX10_cut ∈ gt := gt_in (List.mem_append_right _ (List.mem_of_getElem? (i := 817) (by decide +kernel))) (by decide)
set_option maxRecDepth 20000 in
theorem kw_818 : Cond.code yX10_cut cX10_cut 2 (some .int) ∈ gt := gt_in (List.mem_append_right _ (List.mem_of_getElem? (i := 818) rfl)) (by decide)
theorem kw_819 : Cond.methodLink RL 138 yX10_get ∈ gt := gt_in (List.mem_append_right _ (List.mem_of_getElem? (i := 819) (by decide +kernel))) (by decide)
theorem kw_820 : Cond.instanceMethod yX10_get ∈ gt := gt_in (List.mem_append_right _ (List.mem_of_getElem? (i := 820) (by decide +kernel))) (by decide)
theorem kw_821 : Cond.selects RX10 yX10_get yX10_get ∈ gt := gt_in (List.mem_append_right _ (List.mem_of_getElem? (i := 821) (by decide +kernel))) (by decide)
set_option maxRecDepth 20000 in
theorem kw_822 : Cond.code yX10_get cX10_get 4 (some .int) ∈ gt := gt_in (List.mem_append_right _ (List.mem_of_getElem? (i := 822) rfl)) (by decide)
theorem kw_823 : Cond.constant RX10 88 (-2147483648) ∈ gt := gt_in (List.mem_append_right _ (List.mem_of_getElem? (i := 823) (by decide +kernel))) (by decide)
theorem kw_824 : Cond.methodLink RL 143 yX10_copy ∈ gt := gt_in (List.mem_append_right _ (List.mem_of_getElem? (i := 824) (by decide +kernel))) (by decide)
theorem kw_825 : Cond.instanceMethod yX10_copy ∈ gt := gt_in (List.mem_append_right _ (List.mem_of_getElem? (i := 825) (by decide +kernel))) (by decide)
theorem kw_826 : Cond.selects RX10 yX10_copy yX10_copy ∈ gt := gt_in (List.mem_append_right _ (List.mem_of_getElem? (i := 826) (by decide +kernel))) (by decide)
set_option maxRecDepth 20000 in
theorem kw_827 : Cond.code yX10_copy cX10_copy 7 (some .int) ∈ gt := gt_in (List.mem_append_right _ (List.mem_of_getElem? (i := 827) rfl)) (by decide)
theorem kw_828 : Cond.methodLink RL 17 yX10_type ∈ gt := gt_in (List.mem_append_right _ (List.mem_of_getElem? (i := 828) (by decide +kernel))) (by decide)
theorem kw_829 : Cond.instanceMethod yX10_type ∈ gt := gt_in (List.mem_append_right _ (List.mem_of_getElem? (i := 829) (by decide +kernel))) (by decide)
theorem kw_830 : Cond.selects RX10 yX10_type yX10_type ∈ gt := gt_in (List.mem_append_right _ (List.mem_of_getElem? (i := 830) (by decide +kernel))) (by decide)
set_option maxRecDepth 20000 in
theorem kw_831 : Cond.code yX10_type cX10_type 3 (some .int) ∈ gt := gt_in (List.mem_append_right _ (List.mem_of_getElem? (i := 831) rfl)) (by decide)
theorem kw_832 : Cond.methodLink RX10 89 yX10_isTwo ∈ gt := gt_in (List.mem_append_right _ (List.mem_of_getElem? (i := 832) (by decide +kernel))) (by decide)
theorem kw_833 : Cond.static yX10_isTwo ∈ gt := gt_in (List.mem_append_right _ (List.mem_of_getElem? (i := 833) (by decide +kernel))) (by decide)
set_option maxRecDepth 20000 in
theorem kw_834 : Cond.code yX10_isTwo cX10_isTwo 1 (some .boolean) ∈ gt := gt_in (List.mem_append_right _ (List.mem_of_getElem? (i := 834) rfl)) (by decide)
theorem kw_835 : Cond.constantLong RX10 92 (255) ∈ gt := gt_in (List.mem_append_right _ (List.mem_of_getElem? (i := 835) (by decide +kernel))) (by decide)
theorem kw_836 : Cond.methodLink RL 22 yX10_wipe ∈ gt := gt_in (List.mem_append_right _ (List.mem_of_getElem? (i := 836) (by decide +kernel))) (by decide)
theorem kw_837 : Cond.instanceMethod yX10_wipe ∈ gt := gt_in (List.mem_append_right _ (List.mem_of_getElem? (i := 837) (by decide +kernel))) (by decide)
theorem kw_838 : Cond.selects RX10 yX10_wipe yX10_wipe ∈ gt := gt_in (List.mem_append_right _ (List.mem_of_getElem? (i := 838) (by decide +kernel))) (by decide)
set_option maxRecDepth 20000 in
theorem kw_839 : Cond.code yX10_wipe cX10_wipe 3 (some .int) ∈ gt := gt_in (List.mem_append_right _ (List.mem_of_getElem? (i := 839) rfl)) (by decide)
theorem kw_840 : Cond.methodLink RL 26 yX10_undo ∈ gt := gt_in (List.mem_append_right _ (List.mem_of_getElem? (i := 840) (by decide +kernel))) (by decide)
theorem kw_841 : Cond.instanceMethod yX10_undo ∈ gt := gt_in (List.mem_append_right _ (List.mem_of_getElem? (i := 841) (by decide +kernel))) (by decide)
theorem kw_842 : Cond.selects RX10 yX10_undo yX10_undo ∈ gt := gt_in (List.mem_append_right _ (List.mem_of_getElem? (i := 842) (by decide +kernel))) (by decide)
set_option maxRecDepth 20000 in
theorem kw_843 : Cond.code yX10_undo cX10_undo 2 (some .int) ∈ gt := gt_in (List.mem_append_right _ (List.mem_of_getElem? (i := 843) rfl)) (by decide)
theorem kw_844 : Cond.methodLink RL 30 yX10_fault ∈ gt := gt_in (List.mem_append_right _ (List.mem_of_getElem? (i := 844) (by decide +kernel))) (by decide)
theorem kw_845 : Cond.instanceMethod yX10_fault ∈ gt := gt_in (List.mem_append_right _ (List.mem_of_getElem? (i := 845) (by decide +kernel))) (by decide)
theorem kw_846 : Cond.selects RX10 yX10_fault yX10_fault ∈ gt := gt_in (List.mem_append_right _ (List.mem_of_getElem? (i := 846) (by decide +kernel))) (by decide)
set_option maxRecDepth 20000 in
theorem kw_847 : Cond.code yX10_fault cX10_fault 2 (some .int) ∈ gt := gt_in (List.mem_append_right _ (List.mem_of_getElem? (i := 847) rfl)) (by decide)
theorem kw_848 : Cond.methodLink RX10 113 yX10_readsHouses ∈ gt := gt_in (List.mem_append_right _ (List.mem_of_getElem? (i := 848) (by decide +kernel))) (by decide)
theorem kw_850 : Cond.instanceMethod yX10_readsHouses ∈ gt := gt_in (List.mem_append_right _ (List.mem_of_getElem? (i := 850) (by decide +kernel))) (by decide)
set_option maxRecDepth 20000 in
theorem kw_851 : Cond.code yX10_readsHouses cX10_readsHouses 5 (some .int) ∈ gt := gt_in (List.mem_append_right _ (List.mem_of_getElem? (i := 851) rfl)) (by decide)
theorem kw_852 : Cond.methodLink RX10 100 yX10_houseOf ∈ gt := gt_in (List.mem_append_right _ (List.mem_of_getElem? (i := 852) (by decide +kernel))) (by decide)
theorem kw_853 : Cond.static yX10_houseOf ∈ gt := gt_in (List.mem_append_right _ (List.mem_of_getElem? (i := 853) (by decide +kernel))) (by decide)
set_option maxRecDepth 20000 in
theorem kw_854 : Cond.code yX10_houseOf cX10_houseOf 2 (some .int) ∈ gt := gt_in (List.mem_append_right _ (List.mem_of_getElem? (i := 854) rfl)) (by decide)
theorem kw_855 : Cond.methodLink RX10 94 yX10_figureOf ∈ gt := gt_in (List.mem_append_right _ (List.mem_of_getElem? (i := 855) (by decide +kernel))) (by decide)
theorem kw_856 : Cond.static yX10_figureOf ∈ gt := gt_in (List.mem_append_right _ (List.mem_of_getElem? (i := 856) (by decide +kernel))) (by decide)
set_option maxRecDepth 20000 in
theorem kw_857 : Cond.code yX10_figureOf cX10_figureOf 3 (some .int) ∈ gt := gt_in (List.mem_append_right _ (List.mem_of_getElem? (i := 857) rfl)) (by decide)
theorem kw_858 : Cond.methodLink RX10 117 yX10_readsGuests ∈ gt := gt_in (List.mem_append_right _ (List.mem_of_getElem? (i := 858) (by decide +kernel))) (by decide)
theorem kw_860 : Cond.instanceMethod yX10_readsGuests ∈ gt := gt_in (List.mem_append_right _ (List.mem_of_getElem? (i := 860) (by decide +kernel))) (by decide)
set_option maxRecDepth 20000 in
theorem kw_861 : Cond.code yX10_readsGuests cX10_readsGuests 5 (some .int) ∈ gt := gt_in (List.mem_append_right _ (List.mem_of_getElem? (i := 861) rfl)) (by decide)
theorem kw_862 : Cond.methodLink RX10 106 yX10_guestOf ∈ gt := gt_in (List.mem_append_right _ (List.mem_of_getElem? (i := 862) (by decide +kernel))) (by decide)
theorem kw_863 : Cond.static yX10_guestOf ∈ gt := gt_in (List.mem_append_right _ (List.mem_of_getElem? (i := 863) (by decide +kernel))) (by decide)
set_option maxRecDepth 20000 in
theorem kw_864 : Cond.code yX10_guestOf cX10_guestOf 2 (some .int) ∈ gt := gt_in (List.mem_append_right _ (List.mem_of_getElem? (i := 864) rfl)) (by decide)
theorem kw_865 : Cond.methodLink RX10 109 yX10_tellsGuest ∈ gt := gt_in (List.mem_append_right _ (List.mem_of_getElem? (i := 865) (by decide +kernel))) (by decide)
theorem kw_867 : Cond.instanceMethod yX10_tellsGuest ∈ gt := gt_in (List.mem_append_right _ (List.mem_of_getElem? (i := 867) (by decide +kernel))) (by decide)
set_option maxRecDepth 20000 in
theorem kw_868 : Cond.code yX10_tellsGuest cX10_tellsGuest 4 none ∈ gt := gt_in (List.mem_append_right _ (List.mem_of_getElem? (i := 868) rfl)) (by decide)
theorem kw_869 : Cond.methodLink RL 34 yX10_house ∈ gt := gt_in (List.mem_append_right _ (List.mem_of_getElem? (i := 869) (by decide +kernel))) (by decide)
theorem kw_870 : Cond.instanceMethod yX10_house ∈ gt := gt_in (List.mem_append_right _ (List.mem_of_getElem? (i := 870) (by decide +kernel))) (by decide)
theorem kw_871 : Cond.selects RX10 yX10_house yX10_house ∈ gt := gt_in (List.mem_append_right _ (List.mem_of_getElem? (i := 871) (by decide +kernel))) (by decide)
set_option maxRecDepth 20000 in
theorem kw_872 : Cond.code yX10_house cX10_house 3 (some .int) ∈ gt := gt_in (List.mem_append_right _ (List.mem_of_getElem? (i := 872) rfl)) (by decide)
theorem kw_873 : Cond.methodLink RX10 120 yX10_isHouse ∈ gt := gt_in (List.mem_append_right _ (List.mem_of_getElem? (i := 873) (by decide +kernel))) (by decide)
theorem kw_875 : Cond.instanceMethod yX10_isHouse ∈ gt := gt_in (List.mem_append_right _ (List.mem_of_getElem? (i := 875) (by decide +kernel))) (by decide)
set_option maxRecDepth 20000 in
theorem kw_876 : Cond.code yX10_isHouse cX10_isHouse 2 (some .boolean) ∈ gt := gt_in (List.mem_append_right _ (List.mem_of_getElem? (i := 876) rfl)) (by decide)
theorem kw_877 : Cond.methodLink RL 38 yX10_guest ∈ gt := gt_in (List.mem_append_right _ (List.mem_of_getElem? (i := 877) (by decide +kernel))) (by decide)
theorem kw_878 : Cond.instanceMethod yX10_guest ∈ gt := gt_in (List.mem_append_right _ (List.mem_of_getElem? (i := 878) (by decide +kernel))) (by decide)
theorem kw_879 : Cond.selects RX10 yX10_guest yX10_guest ∈ gt := gt_in (List.mem_append_right _ (List.mem_of_getElem? (i := 879) (by decide +kernel))) (by decide)
set_option maxRecDepth 20000 in
theorem kw_880 : Cond.code yX10_guest cX10_guest 3 (some .int) ∈ gt := gt_in (List.mem_append_right _ (List.mem_of_getElem? (i := 880) rfl)) (by decide)
theorem kw_881 : Cond.methodLink RX10 123 yX10_isGuest ∈ gt := gt_in (List.mem_append_right _ (List.mem_of_getElem? (i := 881) (by decide +kernel))) (by decide)
theorem kw_883 : Cond.instanceMethod yX10_isGuest ∈ gt := gt_in (List.mem_append_right _ (List.mem_of_getElem? (i := 883) (by decide +kernel))) (by decide)
set_option maxRecDepth 20000 in
theorem kw_884 : Cond.code yX10_isGuest cX10_isGuest 2 (some .boolean) ∈ gt := gt_in (List.mem_append_right _ (List.mem_of_getElem? (i := 884) rfl)) (by decide)
theorem kw_885 : Cond.methodLink RL 42 yX10_set ∈ gt := gt_in (List.mem_append_right _ (List.mem_of_getElem? (i := 885) (by decide +kernel))) (by decide)
theorem kw_886 : Cond.instanceMethod yX10_set ∈ gt := gt_in (List.mem_append_right _ (List.mem_of_getElem? (i := 886) (by decide +kernel))) (by decide)
theorem kw_887 : Cond.selects RX10 yX10_set yX10_set ∈ gt := gt_in (List.mem_append_right _ (List.mem_of_getElem? (i := 887) (by decide +kernel))) (by decide)
set_option maxRecDepth 20000 in
theorem kw_888 : Cond.code yX10_set cX10_set 4 (some .int) ∈ gt := gt_in (List.mem_append_right _ (List.mem_of_getElem? (i := 888) rfl)) (by decide)
theorem kw_889 : Cond.methodLink RL 46 yX10_at ∈ gt := gt_in (List.mem_append_right _ (List.mem_of_getElem? (i := 889) (by decide +kernel))) (by decide)
theorem kw_890 : Cond.instanceMethod yX10_at ∈ gt := gt_in (List.mem_append_right _ (List.mem_of_getElem? (i := 890) (by decide +kernel))) (by decide)
theorem kw_891 : Cond.selects RX10 yX10_at yX10_at ∈ gt := gt_in (List.mem_append_right _ (List.mem_of_getElem? (i := 891) (by decide +kernel))) (by decide)
set_option maxRecDepth 20000 in
theorem kw_892 : Cond.code yX10_at cX10_at 2 (some .int) ∈ gt := gt_in (List.mem_append_right _ (List.mem_of_getElem? (i := 892) rfl)) (by decide)
theorem kw_893 : Cond.methodLink RX10 129 yX10_reads ∈ gt := gt_in (List.mem_append_right _ (List.mem_of_getElem? (i := 893) (by decide +kernel))) (by decide)
theorem kw_895 : Cond.instanceMethod yX10_reads ∈ gt := gt_in (List.mem_append_right _ (List.mem_of_getElem? (i := 895) (by decide +kernel))) (by decide)
set_option maxRecDepth 20000 in
theorem kw_896 : Cond.code yX10_reads cX10_reads 1 none ∈ gt := gt_in (List.mem_append_right _ (List.mem_of_getElem? (i := 896) rfl)) (by decide)
theorem kw_897 : Cond.methodLink RX10 126 yX10_findRow ∈ gt := gt_in (List.mem_append_right _ (List.mem_of_getElem? (i := 897) (by decide +kernel))) (by decide)
theorem kw_899 : Cond.instanceMethod yX10_findRow ∈ gt := gt_in (List.mem_append_right _ (List.mem_of_getElem? (i := 899) (by decide +kernel))) (by decide)
set_option maxRecDepth 20000 in
theorem kw_900 : Cond.code yX10_findRow cX10_findRow 2 none ∈ gt := gt_in (List.mem_append_right _ (List.mem_of_getElem? (i := 900) rfl)) (by decide)
theorem kw_901 : Cond.constantLong RX10 132 (7) ∈ gt := gt_in (List.mem_append_right _ (List.mem_of_getElem? (i := 901) (by decide +kernel))) (by decide)
theorem kw_902 : Cond.methodLink RL 50 yX10_gives ∈ gt := gt_in (List.mem_append_right _ (List.mem_of_getElem? (i := 902) (by decide +kernel))) (by decide)
theorem kw_903 : Cond.instanceMethod yX10_gives ∈ gt := gt_in (List.mem_append_right _ (List.mem_of_getElem? (i := 903) (by decide +kernel))) (by decide)
theorem kw_904 : Cond.selects RX10 yX10_gives yX10_gives ∈ gt := gt_in (List.mem_append_right _ (List.mem_of_getElem? (i := 904) (by decide +kernel))) (by decide)
set_option maxRecDepth 20000 in
theorem kw_905 : Cond.code yX10_gives cX10_gives 3 (some .int) ∈ gt := gt_in (List.mem_append_right _ (List.mem_of_getElem? (i := 905) rfl)) (by decide)
theorem kw_906 : Cond.methodLink RX10 151 yX10_find ∈ gt := gt_in (List.mem_append_right _ (List.mem_of_getElem? (i := 906) (by decide +kernel))) (by decide)
theorem kw_908 : Cond.instanceMethod yX10_find ∈ gt := gt_in (List.mem_append_right _ (List.mem_of_getElem? (i := 908) (by decide +kernel))) (by decide)
set_option maxRecDepth 20000 in
theorem kw_909 : Cond.code yX10_find cX10_find 1 none ∈ gt := gt_in (List.mem_append_right _ (List.mem_of_getElem? (i := 909) rfl)) (by decide)
theorem kw_910 : Cond.methodLink RX10 148 yX10_feedsAll ∈ gt := gt_in (List.mem_append_right _ (List.mem_of_getElem? (i := 910) (by decide +kernel))) (by decide)
theorem kw_912 : Cond.instanceMethod yX10_feedsAll ∈ gt := gt_in (List.mem_append_right _ (List.mem_of_getElem? (i := 912) (by decide +kernel))) (by decide)
set_option maxRecDepth 20000 in
theorem kw_913 : Cond.code yX10_feedsAll cX10_feedsAll 2 none ∈ gt := gt_in (List.mem_append_right _ (List.mem_of_getElem? (i := 913) rfl)) (by decide)
theorem kw_914 : Cond.methodLink RX10 144 yX10_feeds ∈ gt := gt_in (List.mem_append_right _ (List.mem_of_getElem? (i := 914) (by decide +kernel))) (by decide)
theorem kw_916 : Cond.instanceMethod yX10_feeds ∈ gt := gt_in (List.mem_append_right _ (List.mem_of_getElem? (i := 916) (by decide +kernel))) (by decide)
set_option maxRecDepth 20000 in
theorem kw_917 : Cond.code yX10_feeds cX10_feeds 8 none ∈ gt := gt_in (List.mem_append_right _ (List.mem_of_getElem? (i := 917) rfl)) (by decide)
theorem kw_918 : Cond.methodLink RX10 137 yX10_isIn ∈ gt := gt_in (List.mem_append_right _ (List.mem_of_getElem? (i := 918) (by decide +kernel))) (by decide)
theorem kw_919 : Cond.static yX10_isIn ∈ gt := gt_in (List.mem_append_right _ (List.mem_of_getElem? (i := 919) (by decide +kernel))) (by decide)
set_option maxRecDepth 20000 in
theorem kw_920 : Cond.code yX10_isIn cX10_isIn 2 (some .boolean) ∈ gt := gt_in (List.mem_append_right _ (List.mem_of_getElem? (i := 920) rfl)) (by decide)
theorem kw_921 : Cond.methodLink RX10 134 yX10_lesser ∈ gt := gt_in (List.mem_append_right _ (List.mem_of_getElem? (i := 921) (by decide +kernel))) (by decide)
theorem kw_922 : Cond.static yX10_lesser ∈ gt := gt_in (List.mem_append_right _ (List.mem_of_getElem? (i := 922) (by decide +kernel))) (by decide)
set_option maxRecDepth 20000 in
theorem kw_923 : Cond.code yX10_lesser cX10_lesser 2 (some .int) ∈ gt := gt_in (List.mem_append_right _ (List.mem_of_getElem? (i := 923) rfl)) (by decide)
theorem kw_924 : Cond.methodLink RX10 141 yX10_behind ∈ gt := gt_in (List.mem_append_right _ (List.mem_of_getElem? (i := 924) (by decide +kernel))) (by decide)
theorem kw_925 : Cond.static yX10_behind ∈ gt := gt_in (List.mem_append_right _ (List.mem_of_getElem? (i := 925) (by decide +kernel))) (by decide)
set_option maxRecDepth 20000 in
theorem kw_926 : Cond.code yX10_behind cX10_behind 2 (some .int) ∈ gt := gt_in (List.mem_append_right _ (List.mem_of_getElem? (i := 926) rfl)) (by decide)
theorem kw_927 : Cond.methodLink RL 54 yX10_fed ∈ gt := gt_in (List.mem_append_right _ (List.mem_of_getElem? (i := 927) (by decide +kernel))) (by decide)
theorem kw_928 : Cond.instanceMethod yX10_fed ∈ gt := gt_in (List.mem_append_right _ (List.mem_of_getElem? (i := 928) (by decide +kernel))) (by decide)
theorem kw_929 : Cond.selects RX10 yX10_fed yX10_fed ∈ gt := gt_in (List.mem_append_right _ (List.mem_of_getElem? (i := 929) (by decide +kernel))) (by decide)
set_option maxRecDepth 20000 in
theorem kw_930 : Cond.code yX10_fed cX10_fed 3 (some .int) ∈ gt := gt_in (List.mem_append_right _ (List.mem_of_getElem? (i := 930) rfl)) (by decide)
theorem kw_931 : Cond.methodLink RX10 157 yX10_fedBy ∈ gt := gt_in (List.mem_append_right _ (List.mem_of_getElem? (i := 931) (by decide +kernel))) (by decide)
theorem kw_933 : Cond.instanceMethod yX10_fedBy ∈ gt := gt_in (List.mem_append_right _ (List.mem_of_getElem? (i := 933) (by decide +kernel))) (by decide)
set_option maxRecDepth 20000 in
theorem kw_934 : Cond.code yX10_fedBy cX10_fedBy 3 (some .int) ∈ gt := gt_in (List.mem_append_right _ (List.mem_of_getElem? (i := 934) rfl)) (by decide)
theorem kw_935 : Cond.methodLink RX10 154 yX10_ones ∈ gt := gt_in (List.mem_append_right _ (List.mem_of_getElem? (i := 935) (by decide +kernel))) (by decide)
theorem kw_936 : Cond.static yX10_ones ∈ gt := gt_in (List.mem_append_right _ (List.mem_of_getElem? (i := 936) (by decide +kernel))) (by decide)
set_option maxRecDepth 20000 in
theorem kw_937 : Cond.code yX10_ones cX10_ones 3 (some .int) ∈ gt := gt_in (List.mem_append_right _ (List.mem_of_getElem? (i := 937) rfl)) (by decide)
theorem kw_938 : Cond.methodLink RL 58 yX10_all ∈ gt := gt_in (List.mem_append_right _ (List.mem_of_getElem? (i := 938) (by decide +kernel))) (by decide)
theorem kw_939 : Cond.instanceMethod yX10_all ∈ gt := gt_in (List.mem_append_right _ (List.mem_of_getElem? (i := 939) (by decide +kernel))) (by decide)
theorem kw_940 : Cond.selects RX10 yX10_all yX10_all ∈ gt := gt_in (List.mem_append_right _ (List.mem_of_getElem? (i := 940) (by decide +kernel))) (by decide)
set_option maxRecDepth 20000 in
theorem kw_941 : Cond.code yX10_all cX10_all 3 (some .int) ∈ gt := gt_in (List.mem_append_right _ (List.mem_of_getElem? (i := 941) rfl)) (by decide)
theorem kw_942 : Cond.methodLink RX10 160 yX10_allBy ∈ gt := gt_in (List.mem_append_right _ (List.mem_of_getElem? (i := 942) (by decide +kernel))) (by decide)
theorem kw_944 : Cond.instanceMethod yX10_allBy ∈ gt := gt_in (List.mem_append_right _ (List.mem_of_getElem? (i := 944) (by decide +kernel))) (by decide)
set_option maxRecDepth 20000 in
theorem kw_945 : Cond.code yX10_allBy cX10_allBy 5 (some .int) ∈ gt := gt_in (List.mem_append_right _ (List.mem_of_getElem? (i := 945) rfl)) (by decide)
theorem kw_946 : Cond.methodLink RL 62 yX10_price ∈ gt := gt_in (List.mem_append_right _ (List.mem_of_getElem? (i := 946) (by decide +kernel))) (by decide)
theorem kw_947 : Cond.instanceMethod yX10_price ∈ gt := gt_in (List.mem_append_right _ (List.mem_of_getElem? (i := 947) (by decide +kernel))) (by decide)
theorem kw_948 : Cond.selects RX10 yX10_price yX10_price ∈ gt := gt_in (List.mem_append_right _ (List.mem_of_getElem? (i := 948) (by decide +kernel))) (by decide)
set_option maxRecDepth 20000 in
theorem kw_949 : Cond.code yX10_price cX10_price 2 (some .int) ∈ gt := gt_in (List.mem_append_right _ (List.mem_of_getElem? (i := 949) rfl)) (by decide)
theorem kw_950 : Cond.methodLink RX10 163 yX10_priceOf ∈ gt := gt_in (List.mem_append_right _ (List.mem_of_getElem? (i := 950) (by decide +kernel))) (by decide)
theorem kw_952 : Cond.instanceMethod yX10_priceOf ∈ gt := gt_in (List.mem_append_right _ (List.mem_of_getElem? (i := 952) (by decide +kernel))) (by decide)
set_option maxRecDepth 20000 in
theorem kw_953 : Cond.code yX10_priceOf cX10_priceOf 2 (some .int) ∈ gt := gt_in (List.mem_append_right _ (List.mem_of_getElem? (i := 953) rfl)) (by decide)
theorem kw_954 : Cond.methodLink RL 67 yX10_poor ∈ gt := gt_in (List.mem_append_right _ (List.mem_of_getElem? (i := 954) (by decide +kernel))) (by decide)
theorem kw_955 : Cond.instanceMethod yX10_poor ∈ gt := gt_in (List.mem_append_right _ (List.mem_of_getElem? (i := 955) (by decide +kernel))) (by decide)
theorem kw_956 : Cond.selects RX10 yX10_poor yX10_poor ∈ gt := gt_in (List.mem_append_right _ (List.mem_of_getElem? (i := 956) (by decide +kernel))) (by decide)
set_option maxRecDepth 20000 in
theorem kw_957 : Cond.code yX10_poor cX10_poor 1 (some .int) ∈ gt := gt_in (List.mem_append_right _ (List.mem_of_getElem? (i := 957) rfl)) (by decide)
theorem kw_958 : Cond.methodLink RX10 166 yX10_poorNow ∈ gt := gt_in (List.mem_append_right _ (List.mem_of_getElem? (i := 958) (by decide +kernel))) (by decide)
theorem kw_960 : Cond.instanceMethod yX10_poorNow ∈ gt := gt_in (List.mem_append_right _ (List.mem_of_getElem? (i := 960) (by decide +kernel))) (by decide)
set_option maxRecDepth 20000 in
theorem kw_961 : Cond.code yX10_poorNow cX10_poorNow 3 (some .int) ∈ gt := gt_in (List.mem_append_right _ (List.mem_of_getElem? (i := 961) rfl)) (by decide)
theorem kw_962 : Cond.methodLink RL 71 yX10_passed ∈ gt := gt_in (List.mem_append_right _ (List.mem_of_getElem? (i := 962) (by decide +kernel))) (by decide)
theorem kw_963 : Cond.instanceMethod yX10_passed ∈ gt := gt_in (List.mem_append_right _ (List.mem_of_getElem? (i := 963) (by decide +kernel))) (by decide)
theorem kw_964 : Cond.selects RX10 yX10_passed yX10_passed ∈ gt := gt_in (List.mem_append_right _ (List.mem_of_getElem? (i := 964) (by decide +kernel))) (by decide)
set_option maxRecDepth 20000 in
theorem kw_965 : Cond.code yX10_passed cX10_passed 1 (some .int) ∈ gt := gt_in (List.mem_append_right _ (List.mem_of_getElem? (i := 965) rfl)) (by decide)
theorem kw_966 : Cond.methodLink RX10 169 yX10_passedNow ∈ gt := gt_in (List.mem_append_right _ (List.mem_of_getElem? (i := 966) (by decide +kernel))) (by decide)
theorem kw_968 : Cond.instanceMethod yX10_passedNow ∈ gt := gt_in (List.mem_append_right _ (List.mem_of_getElem? (i := 968) (by decide +kernel))) (by decide)
set_option maxRecDepth 20000 in
theorem kw_969 : Cond.code yX10_passedNow cX10_passedNow 3 (some .int) ∈ gt := gt_in (List.mem_append_right _ (List.mem_of_getElem? (i := 969) rfl)) (by decide)
theorem kw_970 : Cond.methodLink RL 75 yX10_live ∈ gt := gt_in (List.mem_append_right _ (List.mem_of_getElem? (i := 970) (by decide +kernel))) (by decide)
theorem kw_971 : Cond.instanceMethod yX10_live ∈ gt := gt_in (List.mem_append_right _ (List.mem_of_getElem? (i := 971) (by decide +kernel))) (by decide)
theorem kw_972 : Cond.selects RX10 yX10_live yX10_live ∈ gt := gt_in (List.mem_append_right _ (List.mem_of_getElem? (i := 972) (by decide +kernel))) (by decide)
set_option maxRecDepth 20000 in
theorem kw_973 : Cond.code yX10_live cX10_live 3 (some .int) ∈ gt := gt_in (List.mem_append_right _ (List.mem_of_getElem? (i := 973) rfl)) (by decide)
theorem kw_974 : Cond.methodLink RX10 188 yX10_liveOf ∈ gt := gt_in (List.mem_append_right _ (List.mem_of_getElem? (i := 974) (by decide +kernel))) (by decide)
theorem kw_976 : Cond.instanceMethod yX10_liveOf ∈ gt := gt_in (List.mem_append_right _ (List.mem_of_getElem? (i := 976) (by decide +kernel))) (by decide)
set_option maxRecDepth 20000 in
theorem kw_977 : Cond.code yX10_liveOf cX10_liveOf 4 (some .int) ∈ gt := gt_in (List.mem_append_right _ (List.mem_of_getElem? (i := 977) rfl)) (by decide)
theorem kw_978 : Cond.methodLink RX10 181 yX10_livesAt ∈ gt := gt_in (List.mem_append_right _ (List.mem_of_getElem? (i := 978) (by decide +kernel))) (by decide)
theorem kw_980 : Cond.instanceMethod yX10_livesAt ∈ gt := gt_in (List.mem_append_right _ (List.mem_of_getElem? (i := 980) (by decide +kernel))) (by decide)
set_option maxRecDepth 20000 in
theorem kw_981 : Cond.code yX10_livesAt cX10_livesAt 6 none ∈ gt := gt_in (List.mem_append_right _ (List.mem_of_getElem? (i := 981) rfl)) (by decide)
theorem kw_982 : Cond.methodLink RX10 185 yX10_weighs ∈ gt := gt_in (List.mem_append_right _ (List.mem_of_getElem? (i := 982) (by decide +kernel))) (by decide)
theorem kw_984 : Cond.instanceMethod yX10_weighs ∈ gt := gt_in (List.mem_append_right _ (List.mem_of_getElem? (i := 984) (by decide +kernel))) (by decide)
set_option maxRecDepth 20000 in
theorem kw_985 : Cond.code yX10_weighs cX10_weighs 5 none ∈ gt := gt_in (List.mem_append_right _ (List.mem_of_getElem? (i := 985) rfl)) (by decide)
theorem kw_986 : Cond.methodLink RL 79 yX10_cook ∈ gt := gt_in (List.mem_append_right _ (List.mem_of_getElem? (i := 986) (by decide +kernel))) (by decide)
theorem kw_987 : Cond.instanceMethod yX10_cook ∈ gt := gt_in (List.mem_append_right _ (List.mem_of_getElem? (i := 987) (by decide +kernel))) (by decide)
theorem kw_988 : Cond.selects RX10 yX10_cook yX10_cook ∈ gt := gt_in (List.mem_append_right _ (List.mem_of_getElem? (i := 988) (by decide +kernel))) (by decide)
set_option maxRecDepth 20000 in
theorem kw_989 : Cond.code yX10_cook cX10_cook 3 (some .int) ∈ gt := gt_in (List.mem_append_right _ (List.mem_of_getElem? (i := 989) rfl)) (by decide)
theorem kw_990 : Cond.methodLink RX10 191 yX10_cookOf ∈ gt := gt_in (List.mem_append_right _ (List.mem_of_getElem? (i := 990) (by decide +kernel))) (by decide)
theorem kw_992 : Cond.instanceMethod yX10_cookOf ∈ gt := gt_in (List.mem_append_right _ (List.mem_of_getElem? (i := 992) (by decide +kernel))) (by decide)
set_option maxRecDepth 20000 in
theorem kw_993 : Cond.code yX10_cookOf cX10_cookOf 5 (some .int) ∈ gt := gt_in (List.mem_append_right _ (List.mem_of_getElem? (i := 993) rfl)) (by decide)
theorem kw_994 : Cond.methodLink RL 84 yX10_fast ∈ gt := gt_in (List.mem_append_right _ (List.mem_of_getElem? (i := 994) (by decide +kernel))) (by decide)
theorem kw_995 : Cond.instanceMethod yX10_fast ∈ gt := gt_in (List.mem_append_right _ (List.mem_of_getElem? (i := 995) (by decide +kernel))) (by decide)
theorem kw_996 : Cond.selects RX10 yX10_fast yX10_fast ∈ gt := gt_in (List.mem_append_right _ (List.mem_of_getElem? (i := 996) (by decide +kernel))) (by decide)
set_option maxRecDepth 20000 in
theorem kw_997 : Cond.code yX10_fast cX10_fast 4 (some .int) ∈ gt := gt_in (List.mem_append_right _ (List.mem_of_getElem? (i := 997) rfl)) (by decide)
theorem kw_998 : Cond.methodLink RX10 194 yX10_fastOf ∈ gt := gt_in (List.mem_append_right _ (List.mem_of_getElem? (i := 998) (by decide +kernel))) (by decide)
theorem kw_1000 : Cond.instanceMethod yX10_fastOf ∈ gt := gt_in (List.mem_append_right _ (List.mem_of_getElem? (i := 1000) (by decide +kernel))) (by decide)
set_option maxRecDepth 20000 in
theorem kw_1001 : Cond.code yX10_fastOf cX10_fastOf 7 (some .int) ∈ gt := gt_in (List.mem_append_right _ (List.mem_of_getElem? (i := 1001) rfl)) (by decide)
theorem kw_1002 : Cond.methodLink RL 88 yX10_soup ∈ gt := gt_in (List.mem_append_right _ (List.mem_of_getElem? (i := 1002) (by decide +kernel))) (by decide)
theorem kw_1003 : Cond.instanceMethod yX10_soup ∈ gt := gt_in (List.mem_append_right _ (List.mem_of_getElem? (i := 1003) (by decide +kernel))) (by decide)
theorem kw_1004 : Cond.selects RX10 yX10_soup yX10_soup ∈ gt := gt_in (List.mem_append_right _ (List.mem_of_getElem? (i := 1004) (by decide +kernel))) (by decide)
set_option maxRecDepth 20000 in
theorem kw_1005 : Cond.code yX10_soup cX10_soup 3 (some .int) ∈ gt := gt_in (List.mem_append_right _ (List.mem_of_getElem? (i := 1005) rfl)) (by decide)
theorem kw_1006 : Cond.methodLink RX10 197 yX10_soupOf ∈ gt := gt_in (List.mem_append_right _ (List.mem_of_getElem? (i := 1006) (by decide +kernel))) (by decide)
theorem kw_1008 : Cond.instanceMethod yX10_soupOf ∈ gt := gt_in (List.mem_append_right _ (List.mem_of_getElem? (i := 1008) (by decide +kernel))) (by decide)
set_option maxRecDepth 20000 in
theorem kw_1009 : Cond.code yX10_soupOf cX10_soupOf 6 (some .int) ∈ gt := gt_in (List.mem_append_right _ (List.mem_of_getElem? (i := 1009) rfl)) (by decide)
theorem kw_1010 : Cond.methodLink RL 92 yX10_seen ∈ gt := gt_in (List.mem_append_right _ (List.mem_of_getElem? (i := 1010) (by decide +kernel))) (by decide)
theorem kw_1011 : Cond.instanceMethod yX10_seen ∈ gt := gt_in (List.mem_append_right _ (List.mem_of_getElem? (i := 1011) (by decide +kernel))) (by decide)
theorem kw_1012 : Cond.selects RX10 yX10_seen yX10_seen ∈ gt := gt_in (List.mem_append_right _ (List.mem_of_getElem? (i := 1012) (by decide +kernel))) (by decide)
set_option maxRecDepth 20000 in
theorem kw_1013 : Cond.code yX10_seen cX10_seen 3 (some .int) ∈ gt := gt_in (List.mem_append_right _ (List.mem_of_getElem? (i := 1013) rfl)) (by decide)
theorem kw_1014 : Cond.constantLong RX10 200 (999) ∈ gt := gt_in (List.mem_append_right _ (List.mem_of_getElem? (i := 1014) (by decide +kernel))) (by decide)
theorem kw_1015 : Cond.methodLink RL 96 yX10_forget ∈ gt := gt_in (List.mem_append_right _ (List.mem_of_getElem? (i := 1015) (by decide +kernel))) (by decide)
theorem kw_1016 : Cond.instanceMethod yX10_forget ∈ gt := gt_in (List.mem_append_right _ (List.mem_of_getElem? (i := 1016) (by decide +kernel))) (by decide)
theorem kw_1017 : Cond.selects RX10 yX10_forget yX10_forget ∈ gt := gt_in (List.mem_append_right _ (List.mem_of_getElem? (i := 1017) (by decide +kernel))) (by decide)
set_option maxRecDepth 20000 in
theorem kw_1018 : Cond.code yX10_forget cX10_forget 2 (some .int) ∈ gt := gt_in (List.mem_append_right _ (List.mem_of_getElem? (i := 1018) rfl)) (by decide)
theorem kw_1019 : Cond.methodLink RL 100 yX10_read ∈ gt := gt_in (List.mem_append_right _ (List.mem_of_getElem? (i := 1019) (by decide +kernel))) (by decide)
theorem kw_1020 : Cond.instanceMethod yX10_read ∈ gt := gt_in (List.mem_append_right _ (List.mem_of_getElem? (i := 1020) (by decide +kernel))) (by decide)
theorem kw_1021 : Cond.selects RX10 yX10_read yX10_read ∈ gt := gt_in (List.mem_append_right _ (List.mem_of_getElem? (i := 1021) (by decide +kernel))) (by decide)
set_option maxRecDepth 20000 in
theorem kw_1022 : Cond.code yX10_read cX10_read 4 (some .int) ∈ gt := gt_in (List.mem_append_right _ (List.mem_of_getElem? (i := 1022) rfl)) (by decide)
theorem kw_1023 : Cond.methodLink RX10 205 yX10_seen ∈ gt := gt_in (List.mem_append_right _ (List.mem_of_getElem? (i := 1023) (by decide +kernel))) (by decide)
theorem kw_1024 : Cond.methodLink RL 104 yX10_twice ∈ gt := gt_in (List.mem_append_right _ (List.mem_of_getElem? (i := 1024) (by decide +kernel))) (by decide)
theorem kw_1025 : Cond.instanceMethod yX10_twice ∈ gt := gt_in (List.mem_append_right _ (List.mem_of_getElem? (i := 1025) (by decide +kernel))) (by decide)
theorem kw_1026 : Cond.selects RX10 yX10_twice yX10_twice ∈ gt := gt_in (List.mem_append_right _ (List.mem_of_getElem? (i := 1026) (by decide +kernel))) (by decide)
set_option maxRecDepth 20000 in
theorem kw_1027 : Cond.code yX10_twice cX10_twice 1 (some .int) ∈ gt := gt_in (List.mem_append_right _ (List.mem_of_getElem? (i := 1027) rfl)) (by decide)
theorem kw_1028 : Cond.methodLink RX10 214 yX10_twiceNow ∈ gt := gt_in (List.mem_append_right _ (List.mem_of_getElem? (i := 1028) (by decide +kernel))) (by decide)
theorem kw_1030 : Cond.instanceMethod yX10_twiceNow ∈ gt := gt_in (List.mem_append_right _ (List.mem_of_getElem? (i := 1030) (by decide +kernel))) (by decide)
set_option maxRecDepth 20000 in
theorem kw_1031 : Cond.code yX10_twiceNow cX10_twiceNow 3 (some .int) ∈ gt := gt_in (List.mem_append_right _ (List.mem_of_getElem? (i := 1031) rfl)) (by decide)
theorem kw_1032 : Cond.methodLink RX10 211 yX10_isSeen ∈ gt := gt_in (List.mem_append_right _ (List.mem_of_getElem? (i := 1032) (by decide +kernel))) (by decide)
theorem kw_1034 : Cond.instanceMethod yX10_isSeen ∈ gt := gt_in (List.mem_append_right _ (List.mem_of_getElem? (i := 1034) (by decide +kernel))) (by decide)
set_option maxRecDepth 20000 in
theorem kw_1035 : Cond.code yX10_isSeen cX10_isSeen 4 (some .boolean) ∈ gt := gt_in (List.mem_append_right _ (List.mem_of_getElem? (i := 1035) rfl)) (by decide)
theorem kw_1036 : Cond.methodLink RX10 208 yX10_givesBy ∈ gt := gt_in (List.mem_append_right _ (List.mem_of_getElem? (i := 1036) (by decide +kernel))) (by decide)
theorem kw_1038 : Cond.instanceMethod yX10_givesBy ∈ gt := gt_in (List.mem_append_right _ (List.mem_of_getElem? (i := 1038) (by decide +kernel))) (by decide)
set_option maxRecDepth 20000 in
theorem kw_1039 : Cond.code yX10_givesBy cX10_givesBy 3 (some .int) ∈ gt := gt_in (List.mem_append_right _ (List.mem_of_getElem? (i := 1039) rfl)) (by decide)
theorem kw_1040 : Cond.methodLink RL 108 yX10_began ∈ gt := gt_in (List.mem_append_right _ (List.mem_of_getElem? (i := 1040) (by decide +kernel))) (by decide)
theorem kw_1041 : Cond.instanceMethod yX10_began ∈ gt := gt_in (List.mem_append_right _ (List.mem_of_getElem? (i := 1041) (by decide +kernel))) (by decide)
theorem kw_1042 : Cond.selects RX10 yX10_began yX10_began ∈ gt := gt_in (List.mem_append_right _ (List.mem_of_getElem? (i := 1042) (by decide +kernel))) (by decide)
set_option maxRecDepth 20000 in
theorem kw_1043 : Cond.code yX10_began cX10_began 2 (some .int) ∈ gt := gt_in (List.mem_append_right _ (List.mem_of_getElem? (i := 1043) rfl)) (by decide)
theorem kw_1044 : Cond.methodLink RX10 217 yX10_beganOf ∈ gt := gt_in (List.mem_append_right _ (List.mem_of_getElem? (i := 1044) (by decide +kernel))) (by decide)
theorem kw_1046 : Cond.instanceMethod yX10_beganOf ∈ gt := gt_in (List.mem_append_right _ (List.mem_of_getElem? (i := 1046) (by decide +kernel))) (by decide)
set_option maxRecDepth 20000 in
theorem kw_1047 : Cond.code yX10_beganOf cX10_beganOf 6 (some .int) ∈ gt := gt_in (List.mem_append_right _ (List.mem_of_getElem? (i := 1047) rfl)) (by decide)
theorem kw_1048 : Cond.methodLink RL 112 yX10_ask ∈ gt := gt_in (List.mem_append_right _ (List.mem_of_getElem? (i := 1048) (by decide +kernel))) (by decide)
theorem kw_1049 : Cond.instanceMethod yX10_ask ∈ gt := gt_in (List.mem_append_right _ (List.mem_of_getElem? (i := 1049) (by decide +kernel))) (by decide)
theorem kw_1050 : Cond.selects RX10 yX10_ask yX10_ask ∈ gt := gt_in (List.mem_append_right _ (List.mem_of_getElem? (i := 1050) (by decide +kernel))) (by decide)
set_option maxRecDepth 20000 in
theorem kw_1051 : Cond.code yX10_ask cX10_ask 1 (some .int) ∈ gt := gt_in (List.mem_append_right _ (List.mem_of_getElem? (i := 1051) rfl)) (by decide)
theorem kw_1052 : Cond.methodLink RX10 223 yX10_askNow ∈ gt := gt_in (List.mem_append_right _ (List.mem_of_getElem? (i := 1052) (by decide +kernel))) (by decide)
theorem kw_1054 : Cond.instanceMethod yX10_askNow ∈ gt := gt_in (List.mem_append_right _ (List.mem_of_getElem? (i := 1054) (by decide +kernel))) (by decide)
set_option maxRecDepth 20000 in
theorem kw_1055 : Cond.code yX10_askNow cX10_askNow 7 (some .int) ∈ gt := gt_in (List.mem_append_right _ (List.mem_of_getElem? (i := 1055) rfl)) (by decide)
theorem kw_1056 : Cond.methodLink RX10 220 yX10_mostAlike ∈ gt := gt_in (List.mem_append_right _ (List.mem_of_getElem? (i := 1056) (by decide +kernel))) (by decide)
theorem kw_1058 : Cond.instanceMethod yX10_mostAlike ∈ gt := gt_in (List.mem_append_right _ (List.mem_of_getElem? (i := 1058) (by decide +kernel))) (by decide)
set_option maxRecDepth 20000 in
theorem kw_1059 : Cond.code yX10_mostAlike cX10_mostAlike 7 (some .int) ∈ gt := gt_in (List.mem_append_right _ (List.mem_of_getElem? (i := 1059) rfl)) (by decide)
theorem kw_1060 : Cond.methodLink RL 117 yX10_road ∈ gt := gt_in (List.mem_append_right _ (List.mem_of_getElem? (i := 1060) (by decide +kernel))) (by decide)
theorem kw_1061 : Cond.instanceMethod yX10_road ∈ gt := gt_in (List.mem_append_right _ (List.mem_of_getElem? (i := 1061) (by decide +kernel))) (by decide)
theorem kw_1062 : Cond.selects RX10 yX10_road yX10_road ∈ gt := gt_in (List.mem_append_right _ (List.mem_of_getElem? (i := 1062) (by decide +kernel))) (by decide)
set_option maxRecDepth 20000 in
theorem kw_1063 : Cond.code yX10_road cX10_road 5 (some .long) ∈ gt := gt_in (List.mem_append_right _ (List.mem_of_getElem? (i := 1063) rfl)) (by decide)
theorem kw_1064 : Cond.constantLong RX10 230 (16) ∈ gt := gt_in (List.mem_append_right _ (List.mem_of_getElem? (i := 1064) (by decide +kernel))) (by decide)
theorem kw_1065 : Cond.methodLink RX10 232 yX10_roadOf ∈ gt := gt_in (List.mem_append_right _ (List.mem_of_getElem? (i := 1065) (by decide +kernel))) (by decide)
theorem kw_1067 : Cond.instanceMethod yX10_roadOf ∈ gt := gt_in (List.mem_append_right _ (List.mem_of_getElem? (i := 1067) (by decide +kernel))) (by decide)
set_option maxRecDepth 20000 in
theorem kw_1068 : Cond.code yX10_roadOf cX10_roadOf 12 (some .long) ∈ gt := gt_in (List.mem_append_right _ (List.mem_of_getElem? (i := 1068) rfl)) (by decide)
theorem kw_1069 : Cond.methodLink RX10 226 yX10_part ∈ gt := gt_in (List.mem_append_right _ (List.mem_of_getElem? (i := 1069) (by decide +kernel))) (by decide)
theorem kw_1070 : Cond.static yX10_part ∈ gt := gt_in (List.mem_append_right _ (List.mem_of_getElem? (i := 1070) (by decide +kernel))) (by decide)
set_option maxRecDepth 20000 in
theorem kw_1071 : Cond.code yX10_part cX10_part 11 (some .long) ∈ gt := gt_in (List.mem_append_right _ (List.mem_of_getElem? (i := 1071) rfl)) (by decide)
theorem kw_1072 : Cond.methodLink RX10 236 yX10_no ∈ gt := gt_in (List.mem_append_right _ (List.mem_of_getElem? (i := 1072) (by decide +kernel))) (by decide)
theorem kw_1073 : Cond.static yX10_no ∈ gt := gt_in (List.mem_append_right _ (List.mem_of_getElem? (i := 1073) (by decide +kernel))) (by decide)
set_option maxRecDepth 20000 in
theorem kw_1074 : Cond.code yX10_no cX10_no 1 (some .long) ∈ gt := gt_in (List.mem_append_right _ (List.mem_of_getElem? (i := 1074) rfl)) (by decide)
theorem kw_1075 : Cond.constantLong RX10 58 (-9223372036854775808) ∈ gt := gt_in (List.mem_append_right _ (List.mem_of_getElem? (i := 1075) (by decide +kernel))) (by decide)
theorem kw_1076 : Cond.methodLink RL 122 yX10_season ∈ gt := gt_in (List.mem_append_right _ (List.mem_of_getElem? (i := 1076) (by decide +kernel))) (by decide)
theorem kw_1077 : Cond.instanceMethod yX10_season ∈ gt := gt_in (List.mem_append_right _ (List.mem_of_getElem? (i := 1077) (by decide +kernel))) (by decide)
theorem kw_1078 : Cond.selects RX10 yX10_season yX10_season ∈ gt := gt_in (List.mem_append_right _ (List.mem_of_getElem? (i := 1078) (by decide +kernel))) (by decide)
set_option maxRecDepth 20000 in
theorem kw_1079 : Cond.code yX10_season cX10_season 5 (some .int) ∈ gt := gt_in (List.mem_append_right _ (List.mem_of_getElem? (i := 1079) rfl)) (by decide)
theorem kw_1080 : Cond.constantLong RX10 247 (99) ∈ gt := gt_in (List.mem_append_right _ (List.mem_of_getElem? (i := 1080) (by decide +kernel))) (by decide)
theorem kw_1081 : Cond.methodLink RX10 249 yX10_seasonOf ∈ gt := gt_in (List.mem_append_right _ (List.mem_of_getElem? (i := 1081) (by decide +kernel))) (by decide)
theorem kw_1083 : Cond.instanceMethod yX10_seasonOf ∈ gt := gt_in (List.mem_append_right _ (List.mem_of_getElem? (i := 1083) (by decide +kernel))) (by decide)
set_option maxRecDepth 20000 in
theorem kw_1084 : Cond.code yX10_seasonOf cX10_seasonOf 8 (some .int) ∈ gt := gt_in (List.mem_append_right _ (List.mem_of_getElem? (i := 1084) rfl)) (by decide)
theorem kw_1085 : Cond.methodLink RX10 244 yX10_lot ∈ gt := gt_in (List.mem_append_right _ (List.mem_of_getElem? (i := 1085) (by decide +kernel))) (by decide)
theorem kw_1087 : Cond.instanceMethod yX10_lot ∈ gt := gt_in (List.mem_append_right _ (List.mem_of_getElem? (i := 1087) (by decide +kernel))) (by decide)
set_option maxRecDepth 20000 in
theorem kw_1088 : Cond.code yX10_lot cX10_lot 2 (some .int) ∈ gt := gt_in (List.mem_append_right _ (List.mem_of_getElem? (i := 1088) rfl)) (by decide)
theorem kw_1089 : Cond.constant RX10 240 (1103515245) ∈ gt := gt_in (List.mem_append_right _ (List.mem_of_getElem? (i := 1089) (by decide +kernel))) (by decide)
theorem kw_1090 : Cond.methodLink RL 147 yX10_write ∈ gt := gt_in (List.mem_append_right _ (List.mem_of_getElem? (i := 1090) (by decide +kernel))) (by decide)
theorem kw_1091 : Cond.instanceMethod yX10_write ∈ gt := gt_in (List.mem_append_right _ (List.mem_of_getElem? (i := 1091) (by decide +kernel))) (by decide)
theorem kw_1092 : Cond.selects RX10 yX10_write yX10_write ∈ gt := gt_in (List.mem_append_right _ (List.mem_of_getElem? (i := 1092) (by decide +kernel))) (by decide)
set_option maxRecDepth 20000 in
theorem kw_1093 : Cond.code yX10_write cX10_write 5 (some .int) ∈ gt := gt_in (List.mem_append_right _ (List.mem_of_getElem? (i := 1093) rfl)) (by decide)
theorem kw_1094 : Cond.methodLink RL 151 yX10_count ∈ gt := gt_in (List.mem_append_right _ (List.mem_of_getElem? (i := 1094) (by decide +kernel))) (by decide)
theorem kw_1095 : Cond.instanceMethod yX10_count ∈ gt := gt_in (List.mem_append_right _ (List.mem_of_getElem? (i := 1095) (by decide +kernel))) (by decide)
theorem kw_1096 : Cond.selects RX10 yX10_count yX10_count ∈ gt := gt_in (List.mem_append_right _ (List.mem_of_getElem? (i := 1096) (by decide +kernel))) (by decide)
set_option maxRecDepth 20000 in
theorem kw_1097 : Cond.code yX10_count cX10_count 2 (some .int) ∈ gt := gt_in (List.mem_append_right _ (List.mem_of_getElem? (i := 1097) rfl)) (by decide)
theorem kw_1098 : Cond.methodLink RX10 253 yX10_allGiven ∈ gt := gt_in (List.mem_append_right _ (List.mem_of_getElem? (i := 1098) (by decide +kernel))) (by decide)
theorem kw_1100 : Cond.instanceMethod yX10_allGiven ∈ gt := gt_in (List.mem_append_right _ (List.mem_of_getElem? (i := 1100) (by decide +kernel))) (by decide)
set_option maxRecDepth 20000 in
theorem kw_1101 : Cond.code yX10_allGiven cX10_allGiven 3 (some .int) ∈ gt := gt_in (List.mem_append_right _ (List.mem_of_getElem? (i := 1101) rfl)) (by decide)
theorem kw_1102 : Cond.methodLink RX10 256 yX10_sleeping ∈ gt := gt_in (List.mem_append_right _ (List.mem_of_getElem? (i := 1102) (by decide +kernel))) (by decide)
theorem kw_1104 : Cond.instanceMethod yX10_sleeping ∈ gt := gt_in (List.mem_append_right _ (List.mem_of_getElem? (i := 1104) (by decide +kernel))) (by decide)
set_option maxRecDepth 20000 in
theorem kw_1105 : Cond.code yX10_sleeping cX10_sleeping 3 (some .int) ∈ gt := gt_in (List.mem_append_right _ (List.mem_of_getElem? (i := 1105) rfl)) (by decide)
theorem kw_1106 : Cond.methodLink RL 156 yX10_digest ∈ gt := gt_in (List.mem_append_right _ (List.mem_of_getElem? (i := 1106) (by decide +kernel))) (by decide)
theorem kw_1107 : Cond.instanceMethod yX10_digest ∈ gt := gt_in (List.mem_append_right _ (List.mem_of_getElem? (i := 1107) (by decide +kernel))) (by decide)
theorem kw_1108 : Cond.selects RX10 yX10_digest yX10_digest ∈ gt := gt_in (List.mem_append_right _ (List.mem_of_getElem? (i := 1108) (by decide +kernel))) (by decide)
set_option maxRecDepth 20000 in
theorem kw_1109 : Cond.code yX10_digest cX10_digest 5 (some .long) ∈ gt := gt_in (List.mem_append_right _ (List.mem_of_getElem? (i := 1109) rfl)) (by decide)
theorem kw_1110 : Cond.constantLong RX10 267 (17) ∈ gt := gt_in (List.mem_append_right _ (List.mem_of_getElem? (i := 1110) (by decide +kernel))) (by decide)
theorem kw_1111 : Cond.constantLong RX10 259 (31) ∈ gt := gt_in (List.mem_append_right _ (List.mem_of_getElem? (i := 1111) (by decide +kernel))) (by decide)
theorem kw_1112 : Cond.methodLink RX10 269 yX10_count ∈ gt := gt_in (List.mem_append_right _ (List.mem_of_getElem? (i := 1112) (by decide +kernel))) (by decide)
theorem kw_1113 : Cond.methodLink RX10 272 yX10_tellsHouse ∈ gt := gt_in (List.mem_append_right _ (List.mem_of_getElem? (i := 1113) (by decide +kernel))) (by decide)
theorem kw_1115 : Cond.instanceMethod yX10_tellsHouse ∈ gt := gt_in (List.mem_append_right _ (List.mem_of_getElem? (i := 1115) (by decide +kernel))) (by decide)
set_option maxRecDepth 20000 in
theorem kw_1116 : Cond.code yX10_tellsHouse cX10_tellsHouse 7 (some .long) ∈ gt := gt_in (List.mem_append_right _ (List.mem_of_getElem? (i := 1116) rfl)) (by decide)
theorem kw_1117 : Cond.methodLink RX10 261 yX10_fast ∈ gt := gt_in (List.mem_append_right _ (List.mem_of_getElem? (i := 1117) (by decide +kernel))) (by decide)
theorem kw_1118 : Cond.methodLink RX10 264 yX10_soup ∈ gt := gt_in (List.mem_append_right _ (List.mem_of_getElem? (i := 1118) (by decide +kernel))) (by decide)
theorem ksel_0 : Cond.selects RX9 yX9_textOf yX9_textOf ∈ gt := gt_in (List.mem_append_left _ (List.mem_of_getElem? (i := 0) (by decide +kernel))) (by decide)
theorem ksel_1 : Cond.selects RX9 yX9_refresh yX9_refresh ∈ gt := gt_in (List.mem_append_left _ (List.mem_of_getElem? (i := 1) (by decide +kernel))) (by decide)
theorem ksel_2 : Cond.selects RX9 yX9_isHouse yX9_isHouse ∈ gt := gt_in (List.mem_append_left _ (List.mem_of_getElem? (i := 2) (by decide +kernel))) (by decide)
theorem ksel_3 : Cond.selects RX9 yX9_isGuest yX9_isGuest ∈ gt := gt_in (List.mem_append_left _ (List.mem_of_getElem? (i := 3) (by decide +kernel))) (by decide)
theorem ksel_4 : Cond.selects RX9 yX9_planPlace yX9_planPlace ∈ gt := gt_in (List.mem_append_left _ (List.mem_of_getElem? (i := 4) (by decide +kernel))) (by decide)
theorem ksel_5 : Cond.selects RX9 yX9_weighTrial yX9_weighTrial ∈ gt := gt_in (List.mem_append_left _ (List.mem_of_getElem? (i := 5) (by decide +kernel))) (by decide)
theorem ksel_6 : Cond.selects RX9 yX9_planKind yX9_planKind ∈ gt := gt_in (List.mem_append_left _ (List.mem_of_getElem? (i := 6) (by decide +kernel))) (by decide)
theorem ksel_7 : Cond.selects RX9 yX9_fewestEmpty yX9_fewestEmpty ∈ gt := gt_in (List.mem_append_left _ (List.mem_of_getElem? (i := 7) (by decide +kernel))) (by decide)
theorem ksel_8 : Cond.selects RX9 yX9_found yX9_found ∈ gt := gt_in (List.mem_append_left _ (List.mem_of_getElem? (i := 8) (by decide +kernel))) (by decide)
theorem ksel_9 : Cond.selects RX9 yX9_twiceFits yX9_twiceFits ∈ gt := gt_in (List.mem_append_left _ (List.mem_of_getElem? (i := 9) (by decide +kernel))) (by decide)
theorem ksel_10 : Cond.selects RX9 yX9_walkFits yX9_walkFits ∈ gt := gt_in (List.mem_append_left _ (List.mem_of_getElem? (i := 10) (by decide +kernel))) (by decide)
theorem ksel_11 : Cond.selects RX9 yX9_mostAlike yX9_mostAlike ∈ gt := gt_in (List.mem_append_left _ (List.mem_of_getElem? (i := 11) (by decide +kernel))) (by decide)
theorem ksel_12 : Cond.selects RX9 yX9_alikeTo yX9_alikeTo ∈ gt := gt_in (List.mem_append_left _ (List.mem_of_getElem? (i := 12) (by decide +kernel))) (by decide)
theorem ksel_13 : Cond.selects RX9 yX9_itemFinding yX9_itemFinding ∈ gt := gt_in (List.mem_append_left _ (List.mem_of_getElem? (i := 13) (by decide +kernel))) (by decide)
theorem ksel_14 : Cond.selects RX9 yX9_givenInAll yX9_givenInAll ∈ gt := gt_in (List.mem_append_left _ (List.mem_of_getElem? (i := 14) (by decide +kernel))) (by decide)
theorem ksel_15 : Cond.selects RX9 yX9_sleepersInAll yX9_sleepersInAll ∈ gt := gt_in (List.mem_append_left _ (List.mem_of_getElem? (i := 15) (by decide +kernel))) (by decide)
theorem ksel_16 : Cond.selects RX9 yX9_mixHouse yX9_mixHouse ∈ gt := gt_in (List.mem_append_left _ (List.mem_of_getElem? (i := 16) (by decide +kernel))) (by decide)
theorem ksel_17 : Cond.selects RX9 yX9_mixPlans yX9_mixPlans ∈ gt := gt_in (List.mem_append_left _ (List.mem_of_getElem? (i := 17) (by decide +kernel))) (by decide)
theorem ksel_18 : Cond.selects RX9 yX9_mixRoads yX9_mixRoads ∈ gt := gt_in (List.mem_append_left _ (List.mem_of_getElem? (i := 18) (by decide +kernel))) (by decide)
theorem ksel_19 : Cond.selects RX9 yX9_mixGuest yX9_mixGuest ∈ gt := gt_in (List.mem_append_left _ (List.mem_of_getElem? (i := 19) (by decide +kernel))) (by decide)
theorem ksel_20 : Cond.selects RX10 yX10_finds yX10_finds ∈ gt := gt_in (List.mem_append_left _ (List.mem_of_getElem? (i := 20) (by decide +kernel))) (by decide)
theorem ksel_21 : Cond.selects RX10 yX10_lacks yX10_lacks ∈ gt := gt_in (List.mem_append_left _ (List.mem_of_getElem? (i := 21) (by decide +kernel))) (by decide)
theorem ksel_22 : Cond.selects RX10 yX10_readsHouses yX10_readsHouses ∈ gt := gt_in (List.mem_append_left _ (List.mem_of_getElem? (i := 22) (by decide +kernel))) (by decide)
theorem ksel_23 : Cond.selects RX10 yX10_readsGuests yX10_readsGuests ∈ gt := gt_in (List.mem_append_left _ (List.mem_of_getElem? (i := 23) (by decide +kernel))) (by decide)
theorem ksel_24 : Cond.selects RX10 yX10_tellsGuest yX10_tellsGuest ∈ gt := gt_in (List.mem_append_left _ (List.mem_of_getElem? (i := 24) (by decide +kernel))) (by decide)
theorem ksel_25 : Cond.selects RX10 yX10_isHouse yX10_isHouse ∈ gt := gt_in (List.mem_append_left _ (List.mem_of_getElem? (i := 25) (by decide +kernel))) (by decide)
theorem ksel_26 : Cond.selects RX10 yX10_isGuest yX10_isGuest ∈ gt := gt_in (List.mem_append_left _ (List.mem_of_getElem? (i := 26) (by decide +kernel))) (by decide)
theorem ksel_27 : Cond.selects RX10 yX10_reads yX10_reads ∈ gt := gt_in (List.mem_append_left _ (List.mem_of_getElem? (i := 27) (by decide +kernel))) (by decide)
theorem ksel_28 : Cond.selects RX10 yX10_findRow yX10_findRow ∈ gt := gt_in (List.mem_append_left _ (List.mem_of_getElem? (i := 28) (by decide +kernel))) (by decide)
theorem ksel_29 : Cond.selects RX10 yX10_find yX10_find ∈ gt := gt_in (List.mem_append_left _ (List.mem_of_getElem? (i := 29) (by decide +kernel))) (by decide)
theorem ksel_30 : Cond.selects RX10 yX10_feedsAll yX10_feedsAll ∈ gt := gt_in (List.mem_append_left _ (List.mem_of_getElem? (i := 30) (by decide +kernel))) (by decide)
theorem ksel_31 : Cond.selects RX10 yX10_feeds yX10_feeds ∈ gt := gt_in (List.mem_append_left _ (List.mem_of_getElem? (i := 31) (by decide +kernel))) (by decide)
theorem ksel_32 : Cond.selects RX10 yX10_fedBy yX10_fedBy ∈ gt := gt_in (List.mem_append_left _ (List.mem_of_getElem? (i := 32) (by decide +kernel))) (by decide)
theorem ksel_33 : Cond.selects RX10 yX10_allBy yX10_allBy ∈ gt := gt_in (List.mem_append_left _ (List.mem_of_getElem? (i := 33) (by decide +kernel))) (by decide)
theorem ksel_34 : Cond.selects RX10 yX10_priceOf yX10_priceOf ∈ gt := gt_in (List.mem_append_left _ (List.mem_of_getElem? (i := 34) (by decide +kernel))) (by decide)
theorem ksel_35 : Cond.selects RX10 yX10_poorNow yX10_poorNow ∈ gt := gt_in (List.mem_append_left _ (List.mem_of_getElem? (i := 35) (by decide +kernel))) (by decide)
theorem ksel_36 : Cond.selects RX10 yX10_passedNow yX10_passedNow ∈ gt := gt_in (List.mem_append_left _ (List.mem_of_getElem? (i := 36) (by decide +kernel))) (by decide)
theorem ksel_37 : Cond.selects RX10 yX10_liveOf yX10_liveOf ∈ gt := gt_in (List.mem_append_left _ (List.mem_of_getElem? (i := 37) (by decide +kernel))) (by decide)
theorem ksel_38 : Cond.selects RX10 yX10_livesAt yX10_livesAt ∈ gt := gt_in (List.mem_append_left _ (List.mem_of_getElem? (i := 38) (by decide +kernel))) (by decide)
theorem ksel_39 : Cond.selects RX10 yX10_weighs yX10_weighs ∈ gt := gt_in (List.mem_append_left _ (List.mem_of_getElem? (i := 39) (by decide +kernel))) (by decide)
theorem ksel_40 : Cond.selects RX10 yX10_cookOf yX10_cookOf ∈ gt := gt_in (List.mem_append_left _ (List.mem_of_getElem? (i := 40) (by decide +kernel))) (by decide)
theorem ksel_41 : Cond.selects RX10 yX10_fastOf yX10_fastOf ∈ gt := gt_in (List.mem_append_left _ (List.mem_of_getElem? (i := 41) (by decide +kernel))) (by decide)
theorem ksel_42 : Cond.selects RX10 yX10_soupOf yX10_soupOf ∈ gt := gt_in (List.mem_append_left _ (List.mem_of_getElem? (i := 42) (by decide +kernel))) (by decide)
theorem ksel_43 : Cond.selects RX10 yX10_twiceNow yX10_twiceNow ∈ gt := gt_in (List.mem_append_left _ (List.mem_of_getElem? (i := 43) (by decide +kernel))) (by decide)
theorem ksel_44 : Cond.selects RX10 yX10_isSeen yX10_isSeen ∈ gt := gt_in (List.mem_append_left _ (List.mem_of_getElem? (i := 44) (by decide +kernel))) (by decide)
theorem ksel_45 : Cond.selects RX10 yX10_givesBy yX10_givesBy ∈ gt := gt_in (List.mem_append_left _ (List.mem_of_getElem? (i := 45) (by decide +kernel))) (by decide)
theorem ksel_46 : Cond.selects RX10 yX10_beganOf yX10_beganOf ∈ gt := gt_in (List.mem_append_left _ (List.mem_of_getElem? (i := 46) (by decide +kernel))) (by decide)
theorem ksel_47 : Cond.selects RX10 yX10_askNow yX10_askNow ∈ gt := gt_in (List.mem_append_left _ (List.mem_of_getElem? (i := 47) (by decide +kernel))) (by decide)
theorem ksel_48 : Cond.selects RX10 yX10_mostAlike yX10_mostAlike ∈ gt := gt_in (List.mem_append_left _ (List.mem_of_getElem? (i := 48) (by decide +kernel))) (by decide)
theorem ksel_49 : Cond.selects RX10 yX10_roadOf yX10_roadOf ∈ gt := gt_in (List.mem_append_left _ (List.mem_of_getElem? (i := 49) (by decide +kernel))) (by decide)
theorem ksel_50 : Cond.selects RX10 yX10_seasonOf yX10_seasonOf ∈ gt := gt_in (List.mem_append_left _ (List.mem_of_getElem? (i := 50) (by decide +kernel))) (by decide)
theorem ksel_51 : Cond.selects RX10 yX10_lot yX10_lot ∈ gt := gt_in (List.mem_append_left _ (List.mem_of_getElem? (i := 51) (by decide +kernel))) (by decide)
theorem ksel_52 : Cond.selects RX10 yX10_allGiven yX10_allGiven ∈ gt := gt_in (List.mem_append_left _ (List.mem_of_getElem? (i := 52) (by decide +kernel))) (by decide)
theorem ksel_53 : Cond.selects RX10 yX10_sleeping yX10_sleeping ∈ gt := gt_in (List.mem_append_left _ (List.mem_of_getElem? (i := 53) (by decide +kernel))) (by decide)
theorem ksel_54 : Cond.selects RX10 yX10_tellsHouse yX10_tellsHouse ∈ gt := gt_in (List.mem_append_left _ (List.mem_of_getElem? (i := 54) (by decide +kernel))) (by decide)
