section
-- ===== PART A: goes FIRST, ahead of the names: the tables' words, and 'selects' of the private methods out of them =====
/-- a private method of a class that the tables say can be made, by its rows of tables_1 -/
def lw_okq (q : MethodName × Nat) : Prop := (q.1.cls ≠ "java/lang/invoke/MethodHandle" ∧ q.1.cls ≠ "java/lang/invoke/VarHandle") ∧ Cond.instantiable q.1.cls q.2 ∈ tables_1 ∧ Cond.privateMethod q.1 ∈ tables_1 ∧ Cond.instanceMethod q.1 ∈ tables_1
theorem lw_p0 : lw_okq (⟨"TramGod", "readHold", "()Z"⟩, 9) := ⟨⟨by decide +kernel, by decide +kernel⟩, List.mem_of_getElem? (i := 13) (by decide +kernel), List.mem_of_getElem? (i := 325) (by decide +kernel), List.mem_of_getElem? (i := 326) (by decide +kernel)⟩
theorem lw_p1 : lw_okq (⟨"TramGod", "stopOverEach", "()I"⟩, 9) := ⟨⟨by decide +kernel, by decide +kernel⟩, List.mem_of_getElem? (i := 13) (by decide +kernel), List.mem_of_getElem? (i := 334) (by decide +kernel), List.mem_of_getElem? (i := 335) (by decide +kernel)⟩
theorem lw_p2 : lw_okq (⟨"TramGod", "stopOverBreaths", "()I"⟩, 9) := ⟨⟨by decide +kernel, by decide +kernel⟩, List.mem_of_getElem? (i := 13) (by decide +kernel), List.mem_of_getElem? (i := 338) (by decide +kernel), List.mem_of_getElem? (i := 339) (by decide +kernel)⟩
theorem lw_p3 : lw_okq (⟨"TramGod", "readGoodHold", "()Z"⟩, 9) := ⟨⟨by decide +kernel, by decide +kernel⟩, List.mem_of_getElem? (i := 13) (by decide +kernel), List.mem_of_getElem? (i := 346) (by decide +kernel), List.mem_of_getElem? (i := 347) (by decide +kernel)⟩
theorem lw_p4 : lw_okq (⟨"TramGod", "addDelays", "()V"⟩, 9) := ⟨⟨by decide +kernel, by decide +kernel⟩, List.mem_of_getElem? (i := 13) (by decide +kernel), List.mem_of_getElem? (i := 359) (by decide +kernel), List.mem_of_getElem? (i := 360) (by decide +kernel)⟩
theorem lw_p5 : lw_okq (⟨"TramGod", "ridersWithout", "(I)I"⟩, 9) := ⟨⟨by decide +kernel, by decide +kernel⟩, List.mem_of_getElem? (i := 13) (by decide +kernel), List.mem_of_getElem? (i := 396) (by decide +kernel), List.mem_of_getElem? (i := 397) (by decide +kernel)⟩
theorem lw_p6 : lw_okq (⟨"TramGod", "isStopOrAll", "(I)Z"⟩, 9) := ⟨⟨by decide +kernel, by decide +kernel⟩, List.mem_of_getElem? (i := 13) (by decide +kernel), List.mem_of_getElem? (i := 404) (by decide +kernel), List.mem_of_getElem? (i := 405) (by decide +kernel)⟩
theorem lw_p7 : lw_okq (⟨"TramGod", "mostGood", "(I)I"⟩, 9) := ⟨⟨by decide +kernel, by decide +kernel⟩, List.mem_of_getElem? (i := 13) (by decide +kernel), List.mem_of_getElem? (i := 408) (by decide +kernel), List.mem_of_getElem? (i := 409) (by decide +kernel)⟩
theorem lw_p8 : lw_okq (⟨"TramGod$Planner", "clearGain", "()V"⟩, 6) := ⟨⟨by decide +kernel, by decide +kernel⟩, List.mem_of_getElem? (i := 128) (by decide +kernel), List.mem_of_getElem? (i := 416) (by decide +kernel), List.mem_of_getElem? (i := 417) (by decide +kernel)⟩
theorem lw_p9 : lw_okq (⟨"TramGod$Planner", "startRow", "(II)V"⟩, 6) := ⟨⟨by decide +kernel, by decide +kernel⟩, List.mem_of_getElem? (i := 128) (by decide +kernel), List.mem_of_getElem? (i := 428) (by decide +kernel), List.mem_of_getElem? (i := 429) (by decide +kernel)⟩
theorem lw_p10 : lw_okq (⟨"TramGod$Planner", "choose", "(III)V"⟩, 6) := ⟨⟨by decide +kernel, by decide +kernel⟩, List.mem_of_getElem? (i := 128) (by decide +kernel), List.mem_of_getElem? (i := 432) (by decide +kernel), List.mem_of_getElem? (i := 433) (by decide +kernel)⟩
theorem lw_p11 : lw_okq (⟨"TramGod", "areSets", "(II)Z"⟩, 9) := ⟨⟨by decide +kernel, by decide +kernel⟩, List.mem_of_getElem? (i := 13) (by decide +kernel), List.mem_of_getElem? (i := 454) (by decide +kernel), List.mem_of_getElem? (i := 455) (by decide +kernel)⟩
theorem lw_p12 : lw_okq (⟨"TramGod", "fewestBreaths", "(II)I"⟩, 9) := ⟨⟨by decide +kernel, by decide +kernel⟩, List.mem_of_getElem? (i := 13) (by decide +kernel), List.mem_of_getElem? (i := 458) (by decide +kernel), List.mem_of_getElem? (i := 459) (by decide +kernel)⟩
theorem lw_p13 : lw_okq (⟨"TramGod$Purse", "fewestOfBest", "(II)I"⟩, 4) := ⟨⟨by decide +kernel, by decide +kernel⟩, List.mem_of_getElem? (i := 154) (by decide +kernel), List.mem_of_getElem? (i := 491) (by decide +kernel), List.mem_of_getElem? (i := 492) (by decide +kernel)⟩
theorem lw_p14 : lw_okq (⟨"TramGod$Purse", "scoreOf", "(III)I"⟩, 4) := ⟨⟨by decide +kernel, by decide +kernel⟩, List.mem_of_getElem? (i := 154) (by decide +kernel), List.mem_of_getElem? (i := 496) (by decide +kernel), List.mem_of_getElem? (i := 497) (by decide +kernel)⟩
theorem lw_p15 : lw_okq (⟨"TramGod$Duel", "findNext", "(I)V"⟩, 9) := ⟨⟨by decide +kernel, by decide +kernel⟩, List.mem_of_getElem? (i := 173) (by decide +kernel), List.mem_of_getElem? (i := 519) (by decide +kernel), List.mem_of_getElem? (i := 520) (by decide +kernel)⟩
def lw_privs_1 : List (MethodName × Nat) := [(⟨"TramGod", "readHold", "()Z"⟩, 9), (⟨"TramGod", "stopOverEach", "()I"⟩, 9), (⟨"TramGod", "stopOverBreaths", "()I"⟩, 9), (⟨"TramGod", "readGoodHold", "()Z"⟩, 9), (⟨"TramGod", "addDelays", "()V"⟩, 9), (⟨"TramGod", "ridersWithout", "(I)I"⟩, 9), (⟨"TramGod", "isStopOrAll", "(I)Z"⟩, 9), (⟨"TramGod", "mostGood", "(I)I"⟩, 9), (⟨"TramGod$Planner", "clearGain", "()V"⟩, 6), (⟨"TramGod$Planner", "startRow", "(II)V"⟩, 6), (⟨"TramGod$Planner", "choose", "(III)V"⟩, 6), (⟨"TramGod", "areSets", "(II)Z"⟩, 9), (⟨"TramGod", "fewestBreaths", "(II)I"⟩, 9), (⟨"TramGod$Purse", "fewestOfBest", "(II)I"⟩, 4), (⟨"TramGod$Purse", "scoreOf", "(III)I"⟩, 4), (⟨"TramGod$Duel", "findNext", "(I)V"⟩, 9)]
theorem lw_r1 : ∀ q ∈ lw_privs_1, lw_okq q := List.forall_mem_cons.mpr ⟨lw_p0, List.forall_mem_cons.mpr ⟨lw_p1, List.forall_mem_cons.mpr ⟨lw_p2, List.forall_mem_cons.mpr ⟨lw_p3, List.forall_mem_cons.mpr ⟨lw_p4, List.forall_mem_cons.mpr ⟨lw_p5, List.forall_mem_cons.mpr ⟨lw_p6, List.forall_mem_cons.mpr ⟨lw_p7, List.forall_mem_cons.mpr ⟨lw_p8, List.forall_mem_cons.mpr ⟨lw_p9, List.forall_mem_cons.mpr ⟨lw_p10, List.forall_mem_cons.mpr ⟨lw_p11, List.forall_mem_cons.mpr ⟨lw_p12, List.forall_mem_cons.mpr ⟨lw_p13, List.forall_mem_cons.mpr ⟨lw_p14, List.forall_mem_cons.mpr ⟨lw_p15, fun _ h => absurd h List.not_mem_nil⟩⟩⟩⟩⟩⟩⟩⟩⟩⟩⟩⟩⟩⟩⟩⟩
theorem lw_p16 : lw_okq (⟨"TramGod$Duel", "settle", "(I)V"⟩, 9) := ⟨⟨by decide +kernel, by decide +kernel⟩, List.mem_of_getElem? (i := 173) (by decide +kernel), List.mem_of_getElem? (i := 524) (by decide +kernel), List.mem_of_getElem? (i := 525) (by decide +kernel)⟩
theorem lw_p17 : lw_okq (⟨"TramGod$Duel", "findMove", "(Z)V"⟩, 9) := ⟨⟨by decide +kernel, by decide +kernel⟩, List.mem_of_getElem? (i := 173) (by decide +kernel), List.mem_of_getElem? (i := 531) (by decide +kernel), List.mem_of_getElem? (i := 532) (by decide +kernel)⟩
theorem lw_p18 : lw_okq (⟨"TramGod$Duel", "stepDown", "()V"⟩, 9) := ⟨⟨by decide +kernel, by decide +kernel⟩, List.mem_of_getElem? (i := 173) (by decide +kernel), List.mem_of_getElem? (i := 538) (by decide +kernel), List.mem_of_getElem? (i := 539) (by decide +kernel)⟩
theorem lw_p19 : lw_okq (⟨"TramGod", "clearDelays", "()V"⟩, 9) := ⟨⟨by decide +kernel, by decide +kernel⟩, List.mem_of_getElem? (i := 13) (by decide +kernel), List.mem_of_getElem? (i := 554) (by decide +kernel), List.mem_of_getElem? (i := 555) (by decide +kernel)⟩
theorem lw_p20 : lw_okq (⟨"TramGodModel", "faultOfDigits", "(II)I"⟩, 31) := ⟨⟨by decide +kernel, by decide +kernel⟩, List.mem_of_getElem? (i := 639) (by decide +kernel), List.mem_of_getElem? (i := 758) (by decide +kernel), List.mem_of_getElem? (i := 759) (by decide +kernel)⟩
theorem lw_p21 : lw_okq (⟨"TramGodModel", "isStop", "(I)Z"⟩, 31) := ⟨⟨by decide +kernel, by decide +kernel⟩, List.mem_of_getElem? (i := 639) (by decide +kernel), List.mem_of_getElem? (i := 772) (by decide +kernel), List.mem_of_getElem? (i := 773) (by decide +kernel)⟩
theorem lw_p22 : lw_okq (⟨"TramGodModel", "isThere", "(I)Z"⟩, 31) := ⟨⟨by decide +kernel, by decide +kernel⟩, List.mem_of_getElem? (i := 639) (by decide +kernel), List.mem_of_getElem? (i := 794) (by decide +kernel), List.mem_of_getElem? (i := 795) (by decide +kernel)⟩
theorem lw_p23 : lw_okq (⟨"TramGodModel", "judgeHold", "()V"⟩, 31) := ⟨⟨by decide +kernel, by decide +kernel⟩, List.mem_of_getElem? (i := 639) (by decide +kernel), List.mem_of_getElem? (i := 812) (by decide +kernel), List.mem_of_getElem? (i := 813) (by decide +kernel)⟩
theorem lw_p24 : lw_okq (⟨"TramGodModel", "isOpen", "(I)Z"⟩, 31) := ⟨⟨by decide +kernel, by decide +kernel⟩, List.mem_of_getElem? (i := 639) (by decide +kernel), List.mem_of_getElem? (i := 816) (by decide +kernel), List.mem_of_getElem? (i := 817) (by decide +kernel)⟩
theorem lw_p25 : lw_okq (⟨"TramGodModel", "isRefused", "()Z"⟩, 31) := ⟨⟨by decide +kernel, by decide +kernel⟩, List.mem_of_getElem? (i := 639) (by decide +kernel), List.mem_of_getElem? (i := 824) (by decide +kernel), List.mem_of_getElem? (i := 825) (by decide +kernel)⟩
theorem lw_p26 : lw_okq (⟨"TramGodModel", "ridersNow", "()I"⟩, 31) := ⟨⟨by decide +kernel, by decide +kernel⟩, List.mem_of_getElem? (i := 639) (by decide +kernel), List.mem_of_getElem? (i := 828) (by decide +kernel), List.mem_of_getElem? (i := 829) (by decide +kernel)⟩
theorem lw_p27 : lw_okq (⟨"TramGodModel", "findLeaves", "()V"⟩, 31) := ⟨⟨by decide +kernel, by decide +kernel⟩, List.mem_of_getElem? (i := 639) (by decide +kernel), List.mem_of_getElem? (i := 832) (by decide +kernel), List.mem_of_getElem? (i := 833) (by decide +kernel)⟩
theorem lw_p28 : lw_okq (⟨"TramGodModel", "rides", "(II)Z"⟩, 31) := ⟨⟨by decide +kernel, by decide +kernel⟩, List.mem_of_getElem? (i := 639) (by decide +kernel), List.mem_of_getElem? (i := 836) (by decide +kernel), List.mem_of_getElem? (i := 837) (by decide +kernel)⟩
theorem lw_p29 : lw_okq (⟨"TramGodModel", "goodOf", "(II)I"⟩, 31) := ⟨⟨by decide +kernel, by decide +kernel⟩, List.mem_of_getElem? (i := 639) (by decide +kernel), List.mem_of_getElem? (i := 844) (by decide +kernel), List.mem_of_getElem? (i := 845) (by decide +kernel)⟩
theorem lw_p30 : lw_okq (⟨"TramGodModel", "othersOf", "(I)I"⟩, 31) := ⟨⟨by decide +kernel, by decide +kernel⟩, List.mem_of_getElem? (i := 639) (by decide +kernel), List.mem_of_getElem? (i := 848) (by decide +kernel), List.mem_of_getElem? (i := 849) (by decide +kernel)⟩
theorem lw_p31 : lw_okq (⟨"TramGodModel", "bestBy", "(II)I"⟩, 31) := ⟨⟨by decide +kernel, by decide +kernel⟩, List.mem_of_getElem? (i := 639) (by decide +kernel), List.mem_of_getElem? (i := 864) (by decide +kernel), List.mem_of_getElem? (i := 865) (by decide +kernel)⟩
def lw_privs_2 : List (MethodName × Nat) := [(⟨"TramGod$Duel", "settle", "(I)V"⟩, 9), (⟨"TramGod$Duel", "findMove", "(Z)V"⟩, 9), (⟨"TramGod$Duel", "stepDown", "()V"⟩, 9), (⟨"TramGod", "clearDelays", "()V"⟩, 9), (⟨"TramGodModel", "faultOfDigits", "(II)I"⟩, 31), (⟨"TramGodModel", "isStop", "(I)Z"⟩, 31), (⟨"TramGodModel", "isThere", "(I)Z"⟩, 31), (⟨"TramGodModel", "judgeHold", "()V"⟩, 31), (⟨"TramGodModel", "isOpen", "(I)Z"⟩, 31), (⟨"TramGodModel", "isRefused", "()Z"⟩, 31), (⟨"TramGodModel", "ridersNow", "()I"⟩, 31), (⟨"TramGodModel", "findLeaves", "()V"⟩, 31), (⟨"TramGodModel", "rides", "(II)Z"⟩, 31), (⟨"TramGodModel", "goodOf", "(II)I"⟩, 31), (⟨"TramGodModel", "othersOf", "(I)I"⟩, 31), (⟨"TramGodModel", "bestBy", "(II)I"⟩, 31)]
theorem lw_r2 : ∀ q ∈ lw_privs_2, lw_okq q := List.forall_mem_cons.mpr ⟨lw_p16, List.forall_mem_cons.mpr ⟨lw_p17, List.forall_mem_cons.mpr ⟨lw_p18, List.forall_mem_cons.mpr ⟨lw_p19, List.forall_mem_cons.mpr ⟨lw_p20, List.forall_mem_cons.mpr ⟨lw_p21, List.forall_mem_cons.mpr ⟨lw_p22, List.forall_mem_cons.mpr ⟨lw_p23, List.forall_mem_cons.mpr ⟨lw_p24, List.forall_mem_cons.mpr ⟨lw_p25, List.forall_mem_cons.mpr ⟨lw_p26, List.forall_mem_cons.mpr ⟨lw_p27, List.forall_mem_cons.mpr ⟨lw_p28, List.forall_mem_cons.mpr ⟨lw_p29, List.forall_mem_cons.mpr ⟨lw_p30, List.forall_mem_cons.mpr ⟨lw_p31, fun _ h => absurd h List.not_mem_nil⟩⟩⟩⟩⟩⟩⟩⟩⟩⟩⟩⟩⟩⟩⟩⟩
theorem lw_p32 : lw_okq (⟨"TramGodModel", "noHold", "()V"⟩, 31) := ⟨⟨by decide +kernel, by decide +kernel⟩, List.mem_of_getElem? (i := 639) (by decide +kernel), List.mem_of_getElem? (i := 868) (by decide +kernel), List.mem_of_getElem? (i := 869) (by decide +kernel)⟩
theorem lw_p33 : lw_okq (⟨"TramGodModel", "keepHold", "()V"⟩, 31) := ⟨⟨by decide +kernel, by decide +kernel⟩, List.mem_of_getElem? (i := 639) (by decide +kernel), List.mem_of_getElem? (i := 873) (by decide +kernel), List.mem_of_getElem? (i := 874) (by decide +kernel)⟩
theorem lw_p34 : lw_okq (⟨"TramGodModel", "nextHold", "(I)Z"⟩, 31) := ⟨⟨by decide +kernel, by decide +kernel⟩, List.mem_of_getElem? (i := 639) (by decide +kernel), List.mem_of_getElem? (i := 877) (by decide +kernel), List.mem_of_getElem? (i := 878) (by decide +kernel)⟩
theorem lw_p35 : lw_okq (⟨"TramGodModel", "heldIn", "()I"⟩, 31) := ⟨⟨by decide +kernel, by decide +kernel⟩, List.mem_of_getElem? (i := 639) (by decide +kernel), List.mem_of_getElem? (i := 881) (by decide +kernel), List.mem_of_getElem? (i := 882) (by decide +kernel)⟩
theorem lw_p36 : lw_okq (⟨"TramGodModel", "areSets", "(II)Z"⟩, 31) := ⟨⟨by decide +kernel, by decide +kernel⟩, List.mem_of_getElem? (i := 639) (by decide +kernel), List.mem_of_getElem? (i := 893) (by decide +kernel), List.mem_of_getElem? (i := 894) (by decide +kernel)⟩
theorem lw_p37 : lw_okq (⟨"TramGodModel", "fewestFor", "(II)I"⟩, 31) := ⟨⟨by decide +kernel, by decide +kernel⟩, List.mem_of_getElem? (i := 639) (by decide +kernel), List.mem_of_getElem? (i := 898) (by decide +kernel), List.mem_of_getElem? (i := 899) (by decide +kernel)⟩
theorem lw_p38 : lw_okq (⟨"TramGodModel", "comingIn", "(I)I"⟩, 31) := ⟨⟨by decide +kernel, by decide +kernel⟩, List.mem_of_getElem? (i := 639) (by decide +kernel), List.mem_of_getElem? (i := 912) (by decide +kernel), List.mem_of_getElem? (i := 913) (by decide +kernel)⟩
theorem lw_p39 : lw_okq (⟨"TramGodModel", "layNumber", "(I)Z"⟩, 31) := ⟨⟨by decide +kernel, by decide +kernel⟩, List.mem_of_getElem? (i := 639) (by decide +kernel), List.mem_of_getElem? (i := 924) (by decide +kernel), List.mem_of_getElem? (i := 925) (by decide +kernel)⟩
theorem lw_p40 : lw_okq (⟨"TramGodModel", "settle", "(I)V"⟩, 31) := ⟨⟨by decide +kernel, by decide +kernel⟩, List.mem_of_getElem? (i := 639) (by decide +kernel), List.mem_of_getElem? (i := 928) (by decide +kernel), List.mem_of_getElem? (i := 929) (by decide +kernel)⟩
theorem lw_p41 : lw_okq (⟨"TramGodModel", "canHoldAny", "()Z"⟩, 31) := ⟨⟨by decide +kernel, by decide +kernel⟩, List.mem_of_getElem? (i := 639) (by decide +kernel), List.mem_of_getElem? (i := 932) (by decide +kernel), List.mem_of_getElem? (i := 933) (by decide +kernel)⟩
theorem lw_p42 : lw_okq (⟨"TramGodModel", "canHold", "(I)Z"⟩, 31) := ⟨⟨by decide +kernel, by decide +kernel⟩, List.mem_of_getElem? (i := 639) (by decide +kernel), List.mem_of_getElem? (i := 936) (by decide +kernel), List.mem_of_getElem? (i := 937) (by decide +kernel)⟩
theorem lw_p43 : lw_okq (⟨"TramGodModel", "choose", "(IIIII)V"⟩, 31) := ⟨⟨by decide +kernel, by decide +kernel⟩, List.mem_of_getElem? (i := 639) (by decide +kernel), List.mem_of_getElem? (i := 940) (by decide +kernel), List.mem_of_getElem? (i := 941) (by decide +kernel)⟩
theorem lw_p44 : lw_okq (⟨"TramGodModel", "isSeenSo", "(I)Z"⟩, 31) := ⟨⟨by decide +kernel, by decide +kernel⟩, List.mem_of_getElem? (i := 639) (by decide +kernel), List.mem_of_getElem? (i := 962) (by decide +kernel), List.mem_of_getElem? (i := 963) (by decide +kernel)⟩
theorem lw_p45 : lw_okq (⟨"TramGodModel", "tenthsOf", "(III)I"⟩, 31) := ⟨⟨by decide +kernel, by decide +kernel⟩, List.mem_of_getElem? (i := 639) (by decide +kernel), List.mem_of_getElem? (i := 978) (by decide +kernel), List.mem_of_getElem? (i := 979) (by decide +kernel)⟩
theorem lw_p46 : lw_okq (⟨"TramGodModel", "passAll", "()V"⟩, 31) := ⟨⟨by decide +kernel, by decide +kernel⟩, List.mem_of_getElem? (i := 639) (by decide +kernel), List.mem_of_getElem? (i := 1007) (by decide +kernel), List.mem_of_getElem? (i := 1008) (by decide +kernel)⟩
theorem lw_p47 : lw_okq (⟨"TramGodModel", "pass", "(I)I"⟩, 31) := ⟨⟨by decide +kernel, by decide +kernel⟩, List.mem_of_getElem? (i := 639) (by decide +kernel), List.mem_of_getElem? (i := 1011) (by decide +kernel), List.mem_of_getElem? (i := 1012) (by decide +kernel)⟩
def lw_privs_3 : List (MethodName × Nat) := [(⟨"TramGodModel", "noHold", "()V"⟩, 31), (⟨"TramGodModel", "keepHold", "()V"⟩, 31), (⟨"TramGodModel", "nextHold", "(I)Z"⟩, 31), (⟨"TramGodModel", "heldIn", "()I"⟩, 31), (⟨"TramGodModel", "areSets", "(II)Z"⟩, 31), (⟨"TramGodModel", "fewestFor", "(II)I"⟩, 31), (⟨"TramGodModel", "comingIn", "(I)I"⟩, 31), (⟨"TramGodModel", "layNumber", "(I)Z"⟩, 31), (⟨"TramGodModel", "settle", "(I)V"⟩, 31), (⟨"TramGodModel", "canHoldAny", "()Z"⟩, 31), (⟨"TramGodModel", "canHold", "(I)Z"⟩, 31), (⟨"TramGodModel", "choose", "(IIIII)V"⟩, 31), (⟨"TramGodModel", "isSeenSo", "(I)Z"⟩, 31), (⟨"TramGodModel", "tenthsOf", "(III)I"⟩, 31), (⟨"TramGodModel", "passAll", "()V"⟩, 31), (⟨"TramGodModel", "pass", "(I)I"⟩, 31)]
theorem lw_r3 : ∀ q ∈ lw_privs_3, lw_okq q := List.forall_mem_cons.mpr ⟨lw_p32, List.forall_mem_cons.mpr ⟨lw_p33, List.forall_mem_cons.mpr ⟨lw_p34, List.forall_mem_cons.mpr ⟨lw_p35, List.forall_mem_cons.mpr ⟨lw_p36, List.forall_mem_cons.mpr ⟨lw_p37, List.forall_mem_cons.mpr ⟨lw_p38, List.forall_mem_cons.mpr ⟨lw_p39, List.forall_mem_cons.mpr ⟨lw_p40, List.forall_mem_cons.mpr ⟨lw_p41, List.forall_mem_cons.mpr ⟨lw_p42, List.forall_mem_cons.mpr ⟨lw_p43, List.forall_mem_cons.mpr ⟨lw_p44, List.forall_mem_cons.mpr ⟨lw_p45, List.forall_mem_cons.mpr ⟨lw_p46, List.forall_mem_cons.mpr ⟨lw_p47, fun _ h => absurd h List.not_mem_nil⟩⟩⟩⟩⟩⟩⟩⟩⟩⟩⟩⟩⟩⟩⟩⟩
theorem lw_p48 : lw_okq (⟨"TramGodModel", "toldOf", "(II)I"⟩, 31) := ⟨⟨by decide +kernel, by decide +kernel⟩, List.mem_of_getElem? (i := 639) (by decide +kernel), List.mem_of_getElem? (i := 1023) (by decide +kernel), List.mem_of_getElem? (i := 1024) (by decide +kernel)⟩
def lw_privs_4 : List (MethodName × Nat) := [(⟨"TramGodModel", "toldOf", "(II)I"⟩, 31)]
theorem lw_r4 : ∀ q ∈ lw_privs_4, lw_okq q := List.forall_mem_cons.mpr ⟨lw_p48, fun _ h => absurd h List.not_mem_nil⟩
def lw_privs : List (MethodName × Nat) := lw_privs_1 ++ (lw_privs_2 ++ (lw_privs_3 ++ (lw_privs_4)))
def lw_tbl : List Cond := k2_sels lw_privs ++ tables_1
theorem lw_privs_ok : ∀ q ∈ lw_privs, lw_okq q := by
  show ∀ q ∈ lw_privs_1 ++ (lw_privs_2 ++ (lw_privs_3 ++ (lw_privs_4))), lw_okq q
  exact List.forall_mem_append.mpr ⟨lw_r1, List.forall_mem_append.mpr ⟨lw_r2, List.forall_mem_append.mpr ⟨lw_r3, lw_r4⟩⟩⟩
end
section
def RX0 : String := "TramGod$Duel"
def TX0 : u_T := fun k => match k with
  | 0 => ("TramGod$Duel", "world", "LTramGod$World;", true)
  | 1 => ("TramGod$Duel", "slack", "LTramGod$Slack;", true)
  | 2 => ("TramGod$Duel", "onGod", "[I", true)
  | 3 => ("TramGod$Duel", "onRival", "[I", true)
  | 4 => ("TramGod$Duel", "delays", "[I", true)
  | 5 => ("TramGod$Duel", "next", "[I", true)
  | 6 => ("TramGod$Duel", "first", "I", false)
  | 7 => ("TramGod$Duel", "moveOutcome", "I", false)
  | _ => ("TramGod$Duel", "moveStop", "I", false)
def tyX0 : Nat → FieldType := fun k => match k with
  | 0 => .object "TramGod$World"
  | 1 => .object "TramGod$Slack"
  | 2 => .array .int
  | 3 => .array .int
  | 4 => .array .int
  | 5 => .array .int
  | 6 => .int
  | 7 => .int
  | _ => .int
abbrev wsX00 : List Cond := u_ws RX0 TX0 9
theorem nmX0 : ∀ a, a < 9 → ∀ b, b < 9 → a ≠ b → (TX0 a).2.1 ≠ (TX0 b).2.1 := by decide +kernel
theorem tyX0_ok : ∀ k, k < 9 → parseFieldDescriptor (TX0 k).2.2.1 = some (tyX0 k) := by decide +kernel
abbrev cX0_init : ByteArray := prog_2_method_1_code
def yX0_init : MethodName := ⟨RX0, "<init>", "(LTramGod$World;LTramGod$Slack;)V"⟩
abbrev cX0_godHas : ByteArray := prog_2_method_2_code
def yX0_godHas : MethodName := ⟨RX0, "godHas", "()I"⟩
abbrev cX0_rivalHas : ByteArray := prog_2_method_3_code
def yX0_rivalHas : MethodName := ⟨RX0, "rivalHas", "()I"⟩
abbrev cX0_play : ByteArray := prog_2_method_4_code
def yX0_play : MethodName := ⟨RX0, "play", "()V"⟩
abbrev cX0_ways : ByteArray := prog_2_method_5_code
def yX0_ways : MethodName := ⟨RX0, "ways", "(II)I"⟩
abbrev cX0_stepDown : ByteArray := prog_2_method_6_code
def yX0_stepDown : MethodName := ⟨RX0, "stepDown", "()V"⟩
abbrev cX0_findNext : ByteArray := prog_2_method_7_code
def yX0_findNext : MethodName := ⟨RX0, "findNext", "(I)V"⟩
abbrev cX0_settle : ByteArray := prog_2_method_8_code
def yX0_settle : MethodName := ⟨RX0, "settle", "(I)V"⟩
abbrev cX0_better : ByteArray := prog_2_method_9_code
def yX0_better : MethodName := ⟨RX0, "better", "(ZII)Z"⟩
abbrev cX0_findMove : ByteArray := prog_2_method_10_code
def yX0_findMove : MethodName := ⟨RX0, "findMove", "(Z)V"⟩
def RX1 : String := "TramGod$Pad"
def TX1 : u_T := fun k => match k with
  | 0 => ("TramGod$Pad", "signs", "[I", true)
  | _ => ("TramGod$Pad", "count", "I", false)
def tyX1 : Nat → FieldType := fun k => match k with
  | 0 => .array .int
  | _ => .int
abbrev wsX10 : List Cond := u_ws RX1 TX1 2
theorem nmX1 : ∀ a, a < 2 → ∀ b, b < 2 → a ≠ b → (TX1 a).2.1 ≠ (TX1 b).2.1 := by decide +kernel
theorem tyX1_ok : ∀ k, k < 2 → parseFieldDescriptor (TX1 k).2.2.1 = some (tyX1 k) := by decide +kernel
abbrev cX1_init : ByteArray := prog_3_method_1_code
def yX1_init : MethodName := ⟨RX1, "<init>", "()V"⟩
abbrev cX1_put : ByteArray := prog_3_method_2_code
def yX1_put : MethodName := ⟨RX1, "put", "(I)Z"⟩
abbrev cX1_digit : ByteArray := prog_3_method_3_code
def yX1_digit : MethodName := ⟨RX1, "digit", "(I)I"⟩
abbrev cX1_faultOf : ByteArray := prog_3_method_4_code
def yX1_faultOf : MethodName := ⟨RX1, "faultOf", "(II)I"⟩
def RX2 : String := "TramGod$Planner"
def TX2 : u_T := fun k => match k with
  | 0 => ("TramGod$Planner", "world", "LTramGod$World;", true)
  | 1 => ("TramGod$Planner", "slack", "LTramGod$Slack;", true)
  | 2 => ("TramGod$Planner", "gain", "[I", true)
  | 3 => ("TramGod$Planner", "weight", "[I", true)
  | 4 => ("TramGod$Planner", "value", "[I", true)
  | _ => ("TramGod$Planner", "pick", "[I", true)
def tyX2 : Nat → FieldType := fun k => match k with
  | 0 => .object "TramGod$World"
  | 1 => .object "TramGod$Slack"
  | 2 => .array .int
  | 3 => .array .int
  | 4 => .array .int
  | _ => .array .int
abbrev wsX20 : List Cond := u_ws RX2 TX2 6
theorem nmX2 : ∀ a, a < 6 → ∀ b, b < 6 → a ≠ b → (TX2 a).2.1 ≠ (TX2 b).2.1 := by decide +kernel
theorem tyX2_ok : ∀ k, k < 6 → parseFieldDescriptor (TX2 k).2.2.1 = some (tyX2 k) := by decide +kernel
abbrev cX2_init : ByteArray := prog_4_method_1_code
def yX2_init : MethodName := ⟨RX2, "<init>", "(LTramGod$World;LTramGod$Slack;)V"⟩
abbrev cX2_wantGood : ByteArray := prog_4_method_2_code
def yX2_wantGood : MethodName := ⟨RX2, "wantGood", "(II)V"⟩
abbrev cX2_wantSets : ByteArray := prog_4_method_3_code
def yX2_wantSets : MethodName := ⟨RX2, "wantSets", "(II)V"⟩
abbrev cX2_clearGain : ByteArray := prog_4_method_4_code
def yX2_clearGain : MethodName := ⟨RX2, "clearGain", "()V"⟩
abbrev cX2_weighAll : ByteArray := prog_4_method_5_code
def yX2_weighAll : MethodName := ⟨RX2, "weighAll", "(I)V"⟩
abbrev cX2_solve : ByteArray := prog_4_method_6_code
def yX2_solve : MethodName := ⟨RX2, "solve", "(I)I"⟩
abbrev cX2_startRow : ByteArray := prog_4_method_7_code
def yX2_startRow : MethodName := ⟨RX2, "startRow", "(II)V"⟩
abbrev cX2_choose : ByteArray := prog_4_method_8_code
def yX2_choose : MethodName := ⟨RX2, "choose", "(III)V"⟩
abbrev cX2_breathsAt : ByteArray := prog_4_method_9_code
def yX2_breathsAt : MethodName := ⟨RX2, "breathsAt", "(I)I"⟩
abbrev cX2_countHolds : ByteArray := prog_4_method_10_code
def yX2_countHolds : MethodName := ⟨RX2, "countHolds", "(I)I"⟩
abbrev cX2_spendExactly : ByteArray := prog_4_method_11_code
def yX2_spendExactly : MethodName := ⟨RX2, "spendExactly", "(I[II)V"⟩
def RX3 : String := "TramGod$Purse"
def TX3 : u_T := fun k => match k with
  | 0 => ("TramGod$Purse", "world", "LTramGod$World;", true)
  | 1 => ("TramGod$Purse", "planner", "LTramGod$Planner;", true)
  | 2 => ("TramGod$Purse", "nightly", "[I", true)
  | _ => ("TramGod$Purse", "onward", "[I", true)
def tyX3 : Nat → FieldType := fun k => match k with
  | 0 => .object "TramGod$World"
  | 1 => .object "TramGod$Planner"
  | 2 => .array .int
  | _ => .array .int
abbrev wsX30 : List Cond := u_ws RX3 TX3 4
theorem nmX3 : ∀ a, a < 4 → ∀ b, b < 4 → a ≠ b → (TX3 a).2.1 ≠ (TX3 b).2.1 := by decide +kernel
theorem tyX3_ok : ∀ k, k < 4 → parseFieldDescriptor (TX3 k).2.2.1 = some (tyX3 k) := by decide +kernel
abbrev cX3_init : ByteArray := prog_5_method_1_code
def yX3_init : MethodName := ⟨RX3, "<init>", "(LTramGod$World;LTramGod$Planner;)V"⟩
abbrev cX3_share : ByteArray := prog_5_method_2_code
def yX3_share : MethodName := ⟨RX3, "share", "(II)I"⟩
abbrev cX3_scoreOf : ByteArray := prog_5_method_3_code
def yX3_scoreOf : MethodName := ⟨RX3, "scoreOf", "(III)I"⟩
abbrev cX3_fewestOfBest : ByteArray := prog_5_method_4_code
def yX3_fewestOfBest : MethodName := ⟨RX3, "fewestOfBest", "(II)I"⟩
abbrev cX3_spentIn : ByteArray := prog_5_method_5_code
def yX3_spentIn : MethodName := ⟨RX3, "spentIn", "(II)I"⟩
def RX4 : String := "TramGod$Slack"
def TX4 : u_T := fun k => match k with
  | 0 => ("TramGod$Slack", "world", "LTramGod$World;", true)
  | _ => ("TramGod$Slack", "need", "[I", true)
def tyX4 : Nat → FieldType := fun k => match k with
  | 0 => .object "TramGod$World"
  | _ => .array .int
abbrev wsX40 : List Cond := u_ws RX4 TX4 2
theorem nmX4 : ∀ a, a < 2 → ∀ b, b < 2 → a ≠ b → (TX4 a).2.1 ≠ (TX4 b).2.1 := by decide +kernel
theorem tyX4_ok : ∀ k, k < 2 → parseFieldDescriptor (TX4 k).2.2.1 = some (tyX4 k) := by decide +kernel
abbrev cX4_init : ByteArray := prog_6_method_1_code
def yX4_init : MethodName := ⟨RX4, "<init>", "(LTramGod$World;)V"⟩
abbrev cX4_measure : ByteArray := prog_6_method_2_code
def yX4_measure : MethodName := ⟨RX4, "measure", "(I)V"⟩
abbrev cX4_ridersBy : ByteArray := prog_6_method_3_code
def yX4_ridersBy : MethodName := ⟨RX4, "ridersBy", "([I)I"⟩
abbrev cX4_ridersLate : ByteArray := prog_6_method_4_code
def yX4_ridersLate : MethodName := ⟨RX4, "ridersLate", "([II)I"⟩
abbrev cX4_tenths : ByteArray := prog_6_method_5_code
def yX4_tenths : MethodName := ⟨RX4, "tenths", "(IIII)I"⟩
def RX5 : String := "TramGod$World"
def TX5 : u_T := fun k => match k with
  | 0 => ("TramGod$World", "stops", "I", false)
  | 1 => ("TramGod$World", "closed", "I", false)
  | 2 => ("TramGod$World", "breaths", "I", false)
  | 3 => ("TramGod$World", "each", "I", false)
  | 4 => ("TramGod$World", "people", "I", false)
  | 5 => ("TramGod$World", "sights", "I", false)
  | 6 => ("TramGod$World", "sawRide", "I", false)
  | 7 => ("TramGod$World", "sawWalk", "I", false)
  | 8 => ("TramGod$World", "seconds", "[I", true)
  | 9 => ("TramGod$World", "at", "[I", true)
  | 10 => ("TramGod$World", "comes", "[I", true)
  | 11 => ("TramGod$World", "ride", "[I", true)
  | 12 => ("TramGod$World", "walk", "[I", true)
  | 13 => ("TramGod$World", "other", "[I", true)
  | _ => ("TramGod$World", "nights", "[I", true)
def tyX5 : Nat → FieldType := fun k => match k with
  | 0 => .int
  | 1 => .int
  | 2 => .int
  | 3 => .int
  | 4 => .int
  | 5 => .int
  | 6 => .int
  | 7 => .int
  | 8 => .array .int
  | 9 => .array .int
  | 10 => .array .int
  | 11 => .array .int
  | 12 => .array .int
  | 13 => .array .int
  | _ => .array .int
abbrev wsX50 : List Cond := u_ws RX5 TX5 15
theorem nmX5 : ∀ a, a < 15 → ∀ b, b < 15 → a ≠ b → (TX5 a).2.1 ≠ (TX5 b).2.1 := by decide +kernel
theorem tyX5_ok : ∀ k, k < 15 → parseFieldDescriptor (TX5 k).2.2.1 = some (tyX5 k) := by decide +kernel
abbrev cX5_init : ByteArray := prog_7_method_1_code
def yX5_init : MethodName := ⟨RX5, "<init>", "()V"⟩
abbrev cX5_copyFrom : ByteArray := prog_7_method_2_code
def yX5_copyFrom : MethodName := ⟨RX5, "copyFrom", "(LTramGod$World;)V"⟩
abbrev cX5_startLine : ByteArray := prog_7_method_3_code
def yX5_startLine : MethodName := ⟨RX5, "startLine", "(LTramGod$Pad;)V"⟩
abbrev cX5_isStop : ByteArray := prog_7_method_4_code
def yX5_isStop : MethodName := ⟨RX5, "isStop", "(I)Z"⟩
abbrev cX5_isPerson : ByteArray := prog_7_method_5_code
def yX5_isPerson : MethodName := ⟨RX5, "isPerson", "(I)Z"⟩
abbrev cX5_isClosed : ByteArray := prog_7_method_6_code
def yX5_isClosed : MethodName := ⟨RX5, "isClosed", "(I)Z"⟩
abbrev cX5_mayHold : ByteArray := prog_7_method_7_code
def yX5_mayHold : MethodName := ⟨RX5, "mayHold", "(II)I"⟩
abbrev cX5_departs : ByteArray := prog_7_method_8_code
def yX5_departs : MethodName := ⟨RX5, "departs", "(II)I"⟩
abbrev cX5_goodOf : ByteArray := prog_7_method_9_code
def yX5_goodOf : MethodName := ⟨RX5, "goodOf", "(I)I"⟩
abbrev cX5_goodAmong : ByteArray := prog_7_method_10_code
def yX5_goodAmong : MethodName := ⟨RX5, "goodAmong", "(II)I"⟩
abbrev cX5_othersOf : ByteArray := prog_7_method_11_code
def yX5_othersOf : MethodName := ⟨RX5, "othersOf", "(I)I"⟩
abbrev cX5_comeIn : ByteArray := prog_7_method_12_code
def yX5_comeIn : MethodName := ⟨RX5, "comeIn", "(I)I"⟩
abbrev cX5_addSight : ByteArray := prog_7_method_13_code
def yX5_addSight : MethodName := ⟨RX5, "addSight", "(IZ)V"⟩
abbrev cX5_clearSights : ByteArray := prog_7_method_14_code
def yX5_clearSights : MethodName := ⟨RX5, "clearSights", "()V"⟩
abbrev cX5_tellPerson : ByteArray := prog_7_method_15_code
def yX5_tellPerson : MethodName := ⟨RX5, "tellPerson", "(II)I"⟩
def RX6 : String := "TramGod"
def TX6 : u_T := fun k => match k with
  | 0 => ("TramGod", "pad", "LTramGod$Pad;", true)
  | 1 => ("TramGod", "world", "LTramGod$World;", true)
  | 2 => ("TramGod", "images", "[LTramGod$World;", true)
  | 3 => ("TramGod", "slack", "LTramGod$Slack;", true)
  | 4 => ("TramGod", "planner", "LTramGod$Planner;", true)
  | 5 => ("TramGod", "purse", "LTramGod$Purse;", true)
  | 6 => ("TramGod", "duel", "LTramGod$Duel;", true)
  | 7 => ("TramGod", "hold", "[I", true)
  | _ => ("TramGod", "delays", "[I", true)
def tyX6 : Nat → FieldType := fun k => match k with
  | 0 => .object "TramGod$Pad"
  | 1 => .object "TramGod$World"
  | 2 => .array (.object "TramGod$World")
  | 3 => .object "TramGod$Slack"
  | 4 => .object "TramGod$Planner"
  | 5 => .object "TramGod$Purse"
  | 6 => .object "TramGod$Duel"
  | 7 => .array .int
  | _ => .array .int
abbrev wsX60 : List Cond := u_ws RX6 TX6 9
theorem nmX6 : ∀ a, a < 9 → ∀ b, b < 9 → a ≠ b → (TX6 a).2.1 ≠ (TX6 b).2.1 := by decide +kernel
theorem tyX6_ok : ∀ k, k < 9 → parseFieldDescriptor (TX6 k).2.2.1 = some (tyX6 k) := by decide +kernel
abbrev cX6_init : ByteArray := prog_1_method_1_code
def yX6_init : MethodName := ⟨RX6, "<init>", "()V"⟩
abbrev cX6_say : ByteArray := prog_1_method_2_code
def yX6_say : MethodName := ⟨RX6, "say", "(I)I"⟩
abbrev cX6_wipe : ByteArray := prog_1_method_3_code
def yX6_wipe : MethodName := ⟨RX6, "wipe", "()I"⟩
abbrev cX6_fault : ByteArray := prog_1_method_4_code
def yX6_fault : MethodName := ⟨RX6, "fault", "(I)I"⟩
abbrev cX6_line : ByteArray := prog_1_method_5_code
def yX6_line : MethodName := ⟨RX6, "line", "()I"⟩
abbrev cX6_close : ByteArray := prog_1_method_6_code
def yX6_close : MethodName := ⟨RX6, "close", "(IZ)I"⟩
abbrev cX6_person : ByteArray := prog_1_method_7_code
def yX6_person : MethodName := ⟨RX6, "person", "(IIIIII)I"⟩
abbrev cX6_leave : ByteArray := prog_1_method_8_code
def yX6_leave : MethodName := ⟨RX6, "leave", "(I)I"⟩
abbrev cX6_nights : ByteArray := prog_1_method_9_code
def yX6_nights : MethodName := ⟨RX6, "nights", "(II)I"⟩
abbrev cX6_set : ByteArray := prog_1_method_10_code
def yX6_set : MethodName := ⟨RX6, "set", "(II)I"⟩
abbrev cX6_judge : ByteArray := prog_1_method_11_code
def yX6_judge : MethodName := ⟨RX6, "judge", "(I)I"⟩
abbrev cX6_riders : ByteArray := prog_1_method_12_code
def yX6_riders : MethodName := ⟨RX6, "riders", "()I"⟩
abbrev cX6_good : ByteArray := prog_1_method_13_code
def yX6_good : MethodName := ⟨RX6, "good", "(I)I"⟩
abbrev cX6_leaves : ByteArray := prog_1_method_14_code
def yX6_leaves : MethodName := ⟨RX6, "leaves", "(I)I"⟩
abbrev cX6_vain : ByteArray := prog_1_method_15_code
def yX6_vain : MethodName := ⟨RX6, "vain", "()I"⟩
abbrev cX6_best : ByteArray := prog_1_method_16_code
def yX6_best : MethodName := ⟨RX6, "best", "(I)I"⟩
abbrev cX6_worth : ByteArray := prog_1_method_17_code
def yX6_worth : MethodName := ⟨RX6, "worth", "()I"⟩
abbrev cX6_meant : ByteArray := prog_1_method_18_code
def yX6_meant : MethodName := ⟨RX6, "meant", "(III)I"⟩
abbrev cX6_bars : ByteArray := prog_1_method_19_code
def yX6_bars : MethodName := ⟨RX6, "bars", "(II)I"⟩
abbrev cX6_fund : ByteArray := prog_1_method_20_code
def yX6_fund : MethodName := ⟨RX6, "fund", "(III)I"⟩
abbrev cX6_rival : ByteArray := prog_1_method_21_code
def yX6_rival : MethodName := ⟨RX6, "rival", "(I)I"⟩
abbrev cX6_closing : ByteArray := prog_1_method_22_code
def yX6_closing : MethodName := ⟨RX6, "closing", "(II)I"⟩
abbrev cX6_seen : ByteArray := prog_1_method_23_code
def yX6_seen : MethodName := ⟨RX6, "seen", "(II)I"⟩
abbrev cX6_forget : ByteArray := prog_1_method_24_code
def yX6_forget : MethodName := ⟨RX6, "forget", "()I"⟩
abbrev cX6_held : ByteArray := prog_1_method_25_code
def yX6_held : MethodName := ⟨RX6, "held", "(II)I"⟩
abbrev cX6_runs : ByteArray := prog_1_method_26_code
def yX6_runs : MethodName := ⟨RX6, "runs", "(IIII)J"⟩
abbrev cX6_mean : ByteArray := prog_1_method_27_code
def yX6_mean : MethodName := ⟨RX6, "mean", "(III)J"⟩
abbrev cX6_waits : ByteArray := prog_1_method_28_code
def yX6_waits : MethodName := ⟨RX6, "waits", "(IIIII)I"⟩
abbrev cX6_year : ByteArray := prog_1_method_29_code
def yX6_year : MethodName := ⟨RX6, "year", "(III)I"⟩
abbrev cX6_image : ByteArray := prog_1_method_30_code
def yX6_image : MethodName := ⟨RX6, "image", "(I)I"⟩
abbrev cX6_restore : ByteArray := prog_1_method_31_code
def yX6_restore : MethodName := ⟨RX6, "restore", "(I)I"⟩
abbrev cX6_told : ByteArray := prog_1_method_32_code
def yX6_told : MethodName := ⟨RX6, "told", "(I)I"⟩
abbrev cX6_within : ByteArray := prog_1_method_33_code
def yX6_within : MethodName := ⟨RX6, "within", "(III)Z"⟩
abbrev cX6_isGood : ByteArray := prog_1_method_34_code
def yX6_isGood : MethodName := ⟨RX6, "isGood", "(I)Z"⟩
abbrev cX6_areRunners : ByteArray := prog_1_method_35_code
def yX6_areRunners : MethodName := ⟨RX6, "areRunners", "(III)Z"⟩
abbrev cX6_isStopOrAll : ByteArray := prog_1_method_36_code
def yX6_isStopOrAll : MethodName := ⟨RX6, "isStopOrAll", "(I)Z"⟩
abbrev cX6_areSets : ByteArray := prog_1_method_37_code
def yX6_areSets : MethodName := ⟨RX6, "areSets", "(II)Z"⟩
abbrev cX6_partOf : ByteArray := prog_1_method_38_code
def yX6_partOf : MethodName := ⟨RX6, "partOf", "(III)J"⟩
abbrev cX6_readHold : ByteArray := prog_1_method_39_code
def yX6_readHold : MethodName := ⟨RX6, "readHold", "()Z"⟩
abbrev cX6_stopOverEach : ByteArray := prog_1_method_40_code
def yX6_stopOverEach : MethodName := ⟨RX6, "stopOverEach", "()I"⟩
abbrev cX6_stopOverBreaths : ByteArray := prog_1_method_41_code
def yX6_stopOverBreaths : MethodName := ⟨RX6, "stopOverBreaths", "()I"⟩
abbrev cX6_readGoodHold : ByteArray := prog_1_method_42_code
def yX6_readGoodHold : MethodName := ⟨RX6, "readGoodHold", "()Z"⟩
abbrev cX6_addDelays : ByteArray := prog_1_method_43_code
def yX6_addDelays : MethodName := ⟨RX6, "addDelays", "()V"⟩
abbrev cX6_clearDelays : ByteArray := prog_1_method_44_code
def yX6_clearDelays : MethodName := ⟨RX6, "clearDelays", "()V"⟩
abbrev cX6_ridersWithout : ByteArray := prog_1_method_45_code
def yX6_ridersWithout : MethodName := ⟨RX6, "ridersWithout", "(I)I"⟩
abbrev cX6_mostGood : ByteArray := prog_1_method_46_code
def yX6_mostGood : MethodName := ⟨RX6, "mostGood", "(I)I"⟩
abbrev cX6_fewestBreaths : ByteArray := prog_1_method_47_code
def yX6_fewestBreaths : MethodName := ⟨RX6, "fewestBreaths", "(II)I"⟩
def RX7 : String := "TramGodModel"
def TX7 : u_T := fun k => match k with
  | 0 => ("TramGodModel", "stops", "I", false)
  | 1 => ("TramGodModel", "seconds", "[I", true)
  | 2 => ("TramGodModel", "closed", "I", false)
  | 3 => ("TramGodModel", "people", "I", false)
  | 4 => ("TramGodModel", "stopOf", "[I", true)
  | 5 => ("TramGodModel", "comes", "[I", true)
  | 6 => ("TramGodModel", "ride", "[I", true)
  | 7 => ("TramGodModel", "walk", "[I", true)
  | 8 => ("TramGodModel", "other", "[I", true)
  | 9 => ("TramGodModel", "nightsOf", "[I", true)
  | 10 => ("TramGodModel", "breaths", "I", false)
  | 11 => ("TramGodModel", "each", "I", false)
  | 12 => ("TramGodModel", "sightPerson", "[I", true)
  | 13 => ("TramGodModel", "sightRode", "[I", true)
  | 14 => ("TramGodModel", "sights", "I", false)
  | 15 => ("TramGodModel", "pad", "[I", true)
  | 16 => ("TramGodModel", "padMany", "I", false)
  | 17 => ("TramGodModel", "hold", "[I", true)
  | 18 => ("TramGodModel", "leaveAt", "[I", true)
  | 19 => ("TramGodModel", "badStop", "I", false)
  | 20 => ("TramGodModel", "badWhy", "I", false)
  | 21 => ("TramGodModel", "bestHold", "[I", true)
  | 22 => ("TramGodModel", "goodBy", "[I", true)
  | 23 => ("TramGodModel", "fromOn", "[I", true)
  | 24 => ("TramGodModel", "goodAt", "[I", true)
  | 25 => ("TramGodModel", "othersAt", "[I", true)
  | 26 => ("TramGodModel", "firstMove", "I", false)
  | 27 => ("TramGodModel", "kept", "[I", true)
  | 28 => ("TramGodModel", "isKept", "[Z", true)
  | 29 => ("TramGodModel", "keptAt", "I", false)
  | _ => ("TramGodModel", "isWriting", "Z", false)
def tyX7 : Nat → FieldType := fun k => match k with
  | 0 => .int
  | 1 => .array .int
  | 2 => .int
  | 3 => .int
  | 4 => .array .int
  | 5 => .array .int
  | 6 => .array .int
  | 7 => .array .int
  | 8 => .array .int
  | 9 => .array .int
  | 10 => .int
  | 11 => .int
  | 12 => .array .int
  | 13 => .array .int
  | 14 => .int
  | 15 => .array .int
  | 16 => .int
  | 17 => .array .int
  | 18 => .array .int
  | 19 => .int
  | 20 => .int
  | 21 => .array .int
  | 22 => .array .int
  | 23 => .array .int
  | 24 => .array .int
  | 25 => .array .int
  | 26 => .int
  | 27 => .array .int
  | 28 => .array .boolean
  | 29 => .int
  | _ => .boolean
abbrev wsX70 : List Cond := u_ws RX7 TX7 31
theorem nmX7 : ∀ a, a < 31 → ∀ b, b < 31 → a ≠ b → (TX7 a).2.1 ≠ (TX7 b).2.1 := by decide +kernel
theorem tyX7_ok : ∀ k, k < 31 → parseFieldDescriptor (TX7 k).2.2.1 = some (tyX7 k) := by decide +kernel
abbrev cX7_init : ByteArray := prog_9_method_1_code
def yX7_init : MethodName := ⟨RX7, "<init>", "()V"⟩
abbrev cX7_in : ByteArray := prog_9_method_3_code
def yX7_in : MethodName := ⟨RX7, "in", "(JJJ)Z"⟩
abbrev cX7_ones : ByteArray := prog_9_method_4_code
def yX7_ones : MethodName := ⟨RX7, "ones", "(I)I"⟩
abbrev cX7_isStop : ByteArray := prog_9_method_5_code
def yX7_isStop : MethodName := ⟨RX7, "isStop", "(I)Z"⟩
abbrev cX7_isOpen : ByteArray := prog_9_method_6_code
def yX7_isOpen : MethodName := ⟨RX7, "isOpen", "(I)Z"⟩
abbrev cX7_isThere : ByteArray := prog_9_method_7_code
def yX7_isThere : MethodName := ⟨RX7, "isThere", "(I)Z"⟩
abbrev cX7_say : ByteArray := prog_9_method_8_code
def yX7_say : MethodName := ⟨RX7, "say", "(I)I"⟩
abbrev cX7_wipe : ByteArray := prog_9_method_9_code
def yX7_wipe : MethodName := ⟨RX7, "wipe", "()I"⟩
abbrev cX7_faultOfDigits : ByteArray := prog_9_method_10_code
def yX7_faultOfDigits : MethodName := ⟨RX7, "faultOfDigits", "(II)I"⟩
abbrev cX7_fault : ByteArray := prog_9_method_11_code
def yX7_fault : MethodName := ⟨RX7, "fault", "(I)I"⟩
abbrev cX7_line : ByteArray := prog_9_method_12_code
def yX7_line : MethodName := ⟨RX7, "line", "()I"⟩
abbrev cX7_close : ByteArray := prog_9_method_13_code
def yX7_close : MethodName := ⟨RX7, "close", "(IZ)I"⟩
abbrev cX7_isGood : ByteArray := prog_9_method_14_code
def yX7_isGood : MethodName := ⟨RX7, "isGood", "(I)Z"⟩
abbrev cX7_person : ByteArray := prog_9_method_15_code
def yX7_person : MethodName := ⟨RX7, "person", "(IIIIII)I"⟩
abbrev cX7_leave : ByteArray := prog_9_method_16_code
def yX7_leave : MethodName := ⟨RX7, "leave", "(I)I"⟩
abbrev cX7_nights : ByteArray := prog_9_method_17_code
def yX7_nights : MethodName := ⟨RX7, "nights", "(II)I"⟩
abbrev cX7_set : ByteArray := prog_9_method_18_code
def yX7_set : MethodName := ⟨RX7, "set", "(II)I"⟩
abbrev cX7_findLeaves : ByteArray := prog_9_method_19_code
def yX7_findLeaves : MethodName := ⟨RX7, "findLeaves", "()V"⟩
abbrev cX7_rides : ByteArray := prog_9_method_20_code
def yX7_rides : MethodName := ⟨RX7, "rides", "(II)Z"⟩
abbrev cX7_ridersNow : ByteArray := prog_9_method_21_code
def yX7_ridersNow : MethodName := ⟨RX7, "ridersNow", "()I"⟩
abbrev cX7_goodOf : ByteArray := prog_9_method_22_code
def yX7_goodOf : MethodName := ⟨RX7, "goodOf", "(II)I"⟩
abbrev cX7_othersOf : ByteArray := prog_9_method_23_code
def yX7_othersOf : MethodName := ⟨RX7, "othersOf", "(I)I"⟩
abbrev cX7_judgeHold : ByteArray := prog_9_method_24_code
def yX7_judgeHold : MethodName := ⟨RX7, "judgeHold", "()V"⟩
abbrev cX7_judge : ByteArray := prog_9_method_25_code
def yX7_judge : MethodName := ⟨RX7, "judge", "(I)I"⟩
abbrev cX7_isRefused : ByteArray := prog_9_method_26_code
def yX7_isRefused : MethodName := ⟨RX7, "isRefused", "()Z"⟩
abbrev cX7_riders : ByteArray := prog_9_method_27_code
def yX7_riders : MethodName := ⟨RX7, "riders", "()I"⟩
abbrev cX7_good : ByteArray := prog_9_method_28_code
def yX7_good : MethodName := ⟨RX7, "good", "(I)I"⟩
abbrev cX7_leaves : ByteArray := prog_9_method_29_code
def yX7_leaves : MethodName := ⟨RX7, "leaves", "(I)I"⟩
abbrev cX7_vain : ByteArray := prog_9_method_30_code
def yX7_vain : MethodName := ⟨RX7, "vain", "()I"⟩
abbrev cX7_heldIn : ByteArray := prog_9_method_31_code
def yX7_heldIn : MethodName := ⟨RX7, "heldIn", "()I"⟩
abbrev cX7_noHold : ByteArray := prog_9_method_32_code
def yX7_noHold : MethodName := ⟨RX7, "noHold", "()V"⟩
abbrev cX7_nextHold : ByteArray := prog_9_method_33_code
def yX7_nextHold : MethodName := ⟨RX7, "nextHold", "(I)Z"⟩
abbrev cX7_keepHold : ByteArray := prog_9_method_34_code
def yX7_keepHold : MethodName := ⟨RX7, "keepHold", "()V"⟩
abbrev cX7_bestBy : ByteArray := prog_9_method_35_code
def yX7_bestBy : MethodName := ⟨RX7, "bestBy", "(II)I"⟩
abbrev cX7_best : ByteArray := prog_9_method_36_code
def yX7_best : MethodName := ⟨RX7, "best", "(I)I"⟩
abbrev cX7_worth : ByteArray := prog_9_method_37_code
def yX7_worth : MethodName := ⟨RX7, "worth", "()I"⟩
abbrev cX7_fewestFor : ByteArray := prog_9_method_38_code
def yX7_fewestFor : MethodName := ⟨RX7, "fewestFor", "(II)I"⟩
abbrev cX7_areSets : ByteArray := prog_9_method_39_code
def yX7_areSets : MethodName := ⟨RX7, "areSets", "(II)Z"⟩
abbrev cX7_meant : ByteArray := prog_9_method_40_code
def yX7_meant : MethodName := ⟨RX7, "meant", "(III)I"⟩
abbrev cX7_bars : ByteArray := prog_9_method_41_code
def yX7_bars : MethodName := ⟨RX7, "bars", "(II)I"⟩
abbrev cX7_comingIn : ByteArray := prog_9_method_42_code
def yX7_comingIn : MethodName := ⟨RX7, "comingIn", "(I)I"⟩
abbrev cX7_fund : ByteArray := prog_9_method_43_code
def yX7_fund : MethodName := ⟨RX7, "fund", "(III)I"⟩
abbrev cX7_layNumber : ByteArray := prog_9_method_44_code
def yX7_layNumber : MethodName := ⟨RX7, "layNumber", "(I)Z"⟩
abbrev cX7_power : ByteArray := prog_9_method_45_code
def yX7_power : MethodName := ⟨RX7, "power", "(I)I"⟩
abbrev cX7_canHold : ByteArray := prog_9_method_46_code
def yX7_canHold : MethodName := ⟨RX7, "canHold", "(I)Z"⟩
abbrev cX7_canHoldAny : ByteArray := prog_9_method_47_code
def yX7_canHoldAny : MethodName := ⟨RX7, "canHoldAny", "()Z"⟩
abbrev cX7_choose : ByteArray := prog_9_method_48_code
def yX7_choose : MethodName := ⟨RX7, "choose", "(IIIII)V"⟩
abbrev cX7_settle : ByteArray := prog_9_method_49_code
def yX7_settle : MethodName := ⟨RX7, "settle", "(I)V"⟩
abbrev cX7_rival : ByteArray := prog_9_method_50_code
def yX7_rival : MethodName := ⟨RX7, "rival", "(I)I"⟩
abbrev cX7_closing : ByteArray := prog_9_method_51_code
def yX7_closing : MethodName := ⟨RX7, "closing", "(II)I"⟩
abbrev cX7_seen : ByteArray := prog_9_method_52_code
def yX7_seen : MethodName := ⟨RX7, "seen", "(II)I"⟩
abbrev cX7_forget : ByteArray := prog_9_method_53_code
def yX7_forget : MethodName := ⟨RX7, "forget", "()I"⟩
abbrev cX7_isSeenSo : ByteArray := prog_9_method_54_code
def yX7_isSeenSo : MethodName := ⟨RX7, "isSeenSo", "(I)Z"⟩
abbrev cX7_held : ByteArray := prog_9_method_55_code
def yX7_held : MethodName := ⟨RX7, "held", "(II)I"⟩
abbrev cX7_lowest : ByteArray := prog_9_method_56_code
def yX7_lowest : MethodName := ⟨RX7, "lowest", "(JJI)J"⟩
abbrev cX7_tenthsOf : ByteArray := prog_9_method_57_code
def yX7_tenthsOf : MethodName := ⟨RX7, "tenthsOf", "(III)I"⟩
abbrev cX7_isRunning : ByteArray := prog_9_method_58_code
def yX7_isRunning : MethodName := ⟨RX7, "isRunning", "(II)Z"⟩
abbrev cX7_runs : ByteArray := prog_9_method_59_code
def yX7_runs : MethodName := ⟨RX7, "runs", "(IIII)J"⟩
abbrev cX7_mean : ByteArray := prog_9_method_60_code
def yX7_mean : MethodName := ⟨RX7, "mean", "(III)J"⟩
abbrev cX7_waits : ByteArray := prog_9_method_61_code
def yX7_waits : MethodName := ⟨RX7, "waits", "(IIIII)I"⟩
abbrev cX7_year : ByteArray := prog_9_method_62_code
def yX7_year : MethodName := ⟨RX7, "year", "(III)I"⟩
abbrev cX7_pass : ByteArray := prog_9_method_63_code
def yX7_pass : MethodName := ⟨RX7, "pass", "(I)I"⟩
abbrev cX7_passAll : ByteArray := prog_9_method_64_code
def yX7_passAll : MethodName := ⟨RX7, "passAll", "()V"⟩
abbrev cX7_image : ByteArray := prog_9_method_65_code
def yX7_image : MethodName := ⟨RX7, "image", "(I)I"⟩
abbrev cX7_restore : ByteArray := prog_9_method_66_code
def yX7_restore : MethodName := ⟨RX7, "restore", "(I)I"⟩
abbrev cX7_toldOf : ByteArray := prog_9_method_67_code
def yX7_toldOf : MethodName := ⟨RX7, "toldOf", "(II)I"⟩
abbrev cX7_told : ByteArray := prog_9_method_68_code
def yX7_told : MethodName := ⟨RX7, "told", "(I)I"⟩
def RJ6 : String := "java/lang/Integer"
def TJ6 : u_T := fun k => match k with
  | _ => ("", "", "", false)
def tyJ6 : Nat → FieldType := fun k => match k with
  | _ => .int
abbrev wsJ60 : List Cond := u_ws RJ6 TJ6 0
theorem nmJ6 : ∀ a, a < 0 → ∀ b, b < 0 → a ≠ b → (TJ6 a).2.1 ≠ (TJ6 b).2.1 := by decide +kernel
theorem tyJ6_ok : ∀ k, k < 0 → parseFieldDescriptor (TJ6 k).2.2.1 = some (tyJ6 k) := by decide +kernel
abbrev cJ6_bitCount_0f7a4 : ByteArray := prog_10_method_49_code
def yJ6_bitCount_0f7a4 : MethodName := ⟨RJ6, "bitCount", "(I)I"⟩
def RJ9 : String := "java/lang/Math"
def TJ9 : u_T := fun k => match k with
  | _ => ("", "", "", false)
def tyJ9 : Nat → FieldType := fun k => match k with
  | _ => .int
abbrev wsJ90 : List Cond := u_ws RJ9 TJ9 0
theorem nmJ9 : ∀ a, a < 0 → ∀ b, b < 0 → a ≠ b → (TJ9 a).2.1 ≠ (TJ9 b).2.1 := by decide +kernel
theorem tyJ9_ok : ∀ k, k < 0 → parseFieldDescriptor (TJ9 k).2.2.1 = some (tyJ9 k) := by decide +kernel
abbrev cJ9_abs_0f7a4 : ByteArray := prog_11_method_59_code
def yJ9_abs_0f7a4 : MethodName := ⟨RJ9, "abs", "(I)I"⟩
abbrev cJ9_max_7cf53 : ByteArray := prog_11_method_65_code
def yJ9_max_7cf53 : MethodName := ⟨RJ9, "max", "(II)I"⟩
abbrev cJ9_min_7cf53 : ByteArray := prog_11_method_69_code
def yJ9_min_7cf53 : MethodName := ⟨RJ9, "min", "(II)I"⟩
def RJ10 : String := "java/lang/System"
def TJ10 : u_T := fun k => match k with
  | _ => ("", "", "", false)
def tyJ10 : Nat → FieldType := fun k => match k with
  | _ => .int
abbrev wsJ100 : List Cond := u_ws RJ10 TJ10 0
theorem nmJ10 : ∀ a, a < 0 → ∀ b, b < 0 → a ≠ b → (TJ10 a).2.1 ≠ (TJ10 b).2.1 := by decide +kernel
theorem tyJ10_ok : ∀ k, k < 0 → parseFieldDescriptor (TJ10 k).2.2.1 = some (tyJ10 k) := by decide +kernel
def RL : String := "TramGodLaw"
abbrev cL_law : ByteArray := code
def yL_law : MethodName := ⟨RL, "law", "([I)Z"⟩
theorem mem_p {big ws : List Cond} (ps : List Nat) (hp : ws = ps.filterMap (fun i => big[i]?)) : ∀ w ∈ ws, w ∈ big := by
  intro w hw
  rw [hp] at hw
  obtain ⟨i, -, hi⟩ := List.mem_filterMap.mp hw
  first | exact List.mem_of_getElem? hi | exact List.getElem?_mem hi
def tg_tbl : List Cond := lw_tbl.filter goodWord
theorem mem_t {w : Cond} (h : w ∈ lw_tbl) (hg : goodWord w = true) : w ∈ tg_tbl := List.mem_filter.mpr ⟨h, hg⟩
theorem inX0 : ∀ w ∈ u_ws RX0 TX0 9, w ∈ tg_tbl := fun w h => mem_t (mem_p [237, 239, 241, 243, 245, 247, 249, 251, 253] (by decide +kernel) w h) (List.all_eq_true.mp (show (u_ws RX0 TX0 9).all goodWord = true by decide +kernel) w h)
theorem inX1 : ∀ w ∈ u_ws RX1 TX1 2, w ∈ tg_tbl := fun w h => mem_t (mem_p [79, 81] (by decide +kernel) w h) (List.all_eq_true.mp (show (u_ws RX1 TX1 2).all goodWord = true by decide +kernel) w h)
theorem inX2 : ∀ w ∈ u_ws RX2 TX2 6, w ∈ tg_tbl := fun w h => mem_t (mem_p [189, 191, 193, 195, 197, 199] (by decide +kernel) w h) (List.all_eq_true.mp (show (u_ws RX2 TX2 6).all goodWord = true by decide +kernel) w h)
theorem inX3 : ∀ w ∈ u_ws RX3 TX3 4, w ∈ tg_tbl := fun w h => mem_t (mem_p [212, 214, 216, 218] (by decide +kernel) w h) (List.all_eq_true.mp (show (u_ws RX3 TX3 4).all goodWord = true by decide +kernel) w h)
theorem inX4 : ∀ w ∈ u_ws RX4 TX4 2, w ∈ tg_tbl := fun w h => mem_t (mem_p [171, 173] (by decide +kernel) w h) (List.all_eq_true.mp (show (u_ws RX4 TX4 2).all goodWord = true by decide +kernel) w h)
theorem inX5 : ∀ w ∈ u_ws RX5 TX5 15, w ∈ tg_tbl := fun w h => mem_t (mem_p [130, 132, 134, 136, 138, 140, 142, 144, 146, 148, 150, 152, 154, 156, 158] (by decide +kernel) w h) (List.all_eq_true.mp (show (u_ws RX5 TX5 15).all goodWord = true by decide +kernel) w h)
theorem inX6 : ∀ w ∈ u_ws RX6 TX6 9, w ∈ tg_tbl := fun w h => mem_t (mem_p [265, 267, 269, 271, 273, 275, 277, 279, 281] (by decide +kernel) w h) (List.all_eq_true.mp (show (u_ws RX6 TX6 9).all goodWord = true by decide +kernel) w h)
theorem inX7 : ∀ w ∈ u_ws RX7 TX7 31, w ∈ tg_tbl := fun w h => mem_t (mem_p [725, 727, 729, 731, 733, 735, 737, 739, 741, 743, 745, 747, 749, 751, 753, 755, 757, 759, 761, 763, 765, 767, 769, 771, 773, 775, 777, 779, 781, 783, 785] (by decide +kernel) w h) (List.all_eq_true.mp (show (u_ws RX7 TX7 31).all goodWord = true by decide +kernel) w h)
theorem tw_0 : Cond.initialized "TramGodLaw" ∈ tg_tbl := mem_t (List.mem_of_getElem? (i := 49) (by decide +kernel)) rfl
theorem tw_1 : Cond.initialized "TramGod" ∈ tg_tbl := mem_t (List.mem_of_getElem? (i := 50) (by decide +kernel)) rfl
theorem tw_2 : Cond.initialized "TramGod$Pad" ∈ tg_tbl := mem_t (List.mem_of_getElem? (i := 51) (by decide +kernel)) rfl
theorem tw_3 : Cond.initialized "TramGod$World" ∈ tg_tbl := mem_t (List.mem_of_getElem? (i := 52) (by decide +kernel)) rfl
theorem tw_4 : Cond.initialized "TramGod$Slack" ∈ tg_tbl := mem_t (List.mem_of_getElem? (i := 53) (by decide +kernel)) rfl
theorem tw_5 : Cond.initialized "TramGod$Planner" ∈ tg_tbl := mem_t (List.mem_of_getElem? (i := 54) (by decide +kernel)) rfl
theorem tw_6 : Cond.initialized "TramGod$Purse" ∈ tg_tbl := mem_t (List.mem_of_getElem? (i := 55) (by decide +kernel)) rfl
theorem tw_7 : Cond.initialized "TramGod$Duel" ∈ tg_tbl := mem_t (List.mem_of_getElem? (i := 56) (by decide +kernel)) rfl
theorem tw_8 : Cond.initialized "TramGodModel" ∈ tg_tbl := mem_t (List.mem_of_getElem? (i := 57) (by decide +kernel)) rfl
theorem tw_9 : Cond.initialized "java/lang/Math" ∈ tg_tbl := mem_t (List.mem_of_getElem? (i := 58) (by decide +kernel)) rfl
theorem tw_10 : Cond.initialized "java/lang/Integer" ∈ tg_tbl := mem_t (List.mem_of_getElem? (i := 59) (by decide +kernel)) rfl
theorem tw_11 : Cond.initialized "java/lang/System" ∈ tg_tbl := mem_t (List.mem_of_getElem? (i := 60) (by decide +kernel)) rfl
theorem tw_12 : Cond.classLink "TramGodLaw" 7 "TramGod" ∈ tg_tbl := mem_t (List.mem_of_getElem? (i := 61) (by decide +kernel)) rfl
theorem tw_13 : Cond.instantiable "TramGod" 9 ∈ tg_tbl := mem_t (List.mem_of_getElem? (i := 62) (by decide +kernel)) rfl
theorem tw_14 : Cond.methodLink "TramGodLaw" 9 yX6_init ∈ tg_tbl := mem_t (List.mem_of_getElem? (i := 63) (by decide +kernel)) rfl
theorem tw_15 : Cond.instanceMethod yX6_init ∈ tg_tbl := mem_t (List.mem_of_getElem? (i := 64) (by decide +kernel)) rfl
theorem tw_17 : Cond.methodLink "TramGod" 1 Lib.objectInit ∈ tg_tbl := mem_t (List.mem_of_getElem? (i := 66) (by decide +kernel)) rfl
theorem tw_18 : Cond.instanceMethod Lib.objectInit ∈ tg_tbl := mem_t (List.mem_of_getElem? (i := 67) (by decide +kernel)) rfl
theorem tw_20 : Cond.classLink "TramGod" 7 "TramGod$Pad" ∈ tg_tbl := mem_t (List.mem_of_getElem? (i := 69) (by decide +kernel)) rfl
theorem tw_21 : Cond.instantiable "TramGod$Pad" 2 ∈ tg_tbl := mem_t (List.mem_of_getElem? (i := 70) (by decide +kernel)) rfl
theorem tw_22 : Cond.methodLinkNest "TramGod" 9 yX1_init "TramGod" ∈ lw_tbl := List.mem_of_getElem? (i := 71) (by decide +kernel)
theorem tw_23 : Cond.instanceMethod yX1_init ∈ tg_tbl := mem_t (List.mem_of_getElem? (i := 72) (by decide +kernel)) rfl
theorem tw_25 : Cond.methodLink "TramGod$Pad" 3 Lib.objectInit ∈ tg_tbl := mem_t (List.mem_of_getElem? (i := 74) (by decide +kernel)) rfl
theorem tw_26 : Cond.fieldLink "TramGod$Pad" 9 "TramGod$Pad" "signs" "[I" ∈ tg_tbl := mem_t (List.mem_of_getElem? (i := 75) (by decide +kernel)) rfl
theorem tw_27 : Cond.fieldLink "TramGod$Pad" 15 "TramGod$Pad" "count" "I" ∈ tg_tbl := mem_t (List.mem_of_getElem? (i := 76) (by decide +kernel)) rfl
theorem tw_28 : Cond.fieldLink "TramGod" 76 "TramGod$Pad" "count" "I" ∈ tg_tbl := mem_t (List.mem_of_getElem? (i := 77) (by decide +kernel)) rfl
theorem tw_29 : Cond.fieldLink "TramGod$World" 64 "TramGod$Pad" "count" "I" ∈ tg_tbl := mem_t (List.mem_of_getElem? (i := 78) (by decide +kernel)) rfl
theorem tw_36 : Cond.classLink "TramGod" 16 "TramGod$World" ∈ tg_tbl := mem_t (List.mem_of_getElem? (i := 85) (by decide +kernel)) rfl
theorem tw_37 : Cond.instantiable "TramGod$World" 15 ∈ tg_tbl := mem_t (List.mem_of_getElem? (i := 86) (by decide +kernel)) rfl
theorem tw_38 : Cond.methodLinkNest "TramGod" 18 yX5_init "TramGod" ∈ lw_tbl := List.mem_of_getElem? (i := 87) (by decide +kernel)
theorem tw_39 : Cond.instanceMethod yX5_init ∈ tg_tbl := mem_t (List.mem_of_getElem? (i := 88) (by decide +kernel)) rfl
theorem tw_41 : Cond.methodLink "TramGod$World" 3 Lib.objectInit ∈ tg_tbl := mem_t (List.mem_of_getElem? (i := 90) (by decide +kernel)) rfl
theorem tw_42 : Cond.fieldLink "TramGod$World" 9 "TramGod$World" "stops" "I" ∈ tg_tbl := mem_t (List.mem_of_getElem? (i := 91) (by decide +kernel)) rfl
theorem tw_43 : Cond.fieldLink "TramGod$Duel" 32 "TramGod$World" "stops" "I" ∈ tg_tbl := mem_t (List.mem_of_getElem? (i := 92) (by decide +kernel)) rfl
theorem tw_44 : Cond.fieldLink "TramGod" 84 "TramGod$World" "stops" "I" ∈ tg_tbl := mem_t (List.mem_of_getElem? (i := 93) (by decide +kernel)) rfl
theorem tw_45 : Cond.fieldLink "TramGod$Planner" 52 "TramGod$World" "stops" "I" ∈ tg_tbl := mem_t (List.mem_of_getElem? (i := 94) (by decide +kernel)) rfl
theorem tw_46 : Cond.fieldLink "TramGod$World" 43 "TramGod$World" "closed" "I" ∈ tg_tbl := mem_t (List.mem_of_getElem? (i := 95) (by decide +kernel)) rfl
theorem tw_47 : Cond.fieldLink "TramGod" 94 "TramGod$World" "closed" "I" ∈ tg_tbl := mem_t (List.mem_of_getElem? (i := 96) (by decide +kernel)) rfl
theorem tw_48 : Cond.fieldLink "TramGod$World" 15 "TramGod$World" "breaths" "I" ∈ tg_tbl := mem_t (List.mem_of_getElem? (i := 97) (by decide +kernel)) rfl
theorem tw_49 : Cond.fieldLink "TramGod$Purse" 32 "TramGod$World" "breaths" "I" ∈ tg_tbl := mem_t (List.mem_of_getElem? (i := 98) (by decide +kernel)) rfl
theorem tw_50 : Cond.fieldLink "TramGod$Duel" 38 "TramGod$World" "breaths" "I" ∈ tg_tbl := mem_t (List.mem_of_getElem? (i := 99) (by decide +kernel)) rfl
theorem tw_51 : Cond.fieldLink "TramGod" 130 "TramGod$World" "breaths" "I" ∈ tg_tbl := mem_t (List.mem_of_getElem? (i := 100) (by decide +kernel)) rfl
theorem tw_52 : Cond.fieldLink "TramGod$World" 18 "TramGod$World" "each" "I" ∈ tg_tbl := mem_t (List.mem_of_getElem? (i := 101) (by decide +kernel)) rfl
theorem tw_53 : Cond.fieldLink "TramGod" 133 "TramGod$World" "each" "I" ∈ tg_tbl := mem_t (List.mem_of_getElem? (i := 102) (by decide +kernel)) rfl
theorem tw_54 : Cond.fieldLink "TramGod$World" 46 "TramGod$World" "people" "I" ∈ tg_tbl := mem_t (List.mem_of_getElem? (i := 103) (by decide +kernel)) rfl
theorem tw_55 : Cond.fieldLink "TramGod" 100 "TramGod$World" "people" "I" ∈ tg_tbl := mem_t (List.mem_of_getElem? (i := 104) (by decide +kernel)) rfl
theorem tw_56 : Cond.fieldLink "TramGod$World" 49 "TramGod$World" "sights" "I" ∈ tg_tbl := mem_t (List.mem_of_getElem? (i := 105) (by decide +kernel)) rfl
theorem tw_57 : Cond.fieldLink "TramGod" 207 "TramGod$World" "sights" "I" ∈ tg_tbl := mem_t (List.mem_of_getElem? (i := 106) (by decide +kernel)) rfl
theorem tw_58 : Cond.fieldLink "TramGod$World" 52 "TramGod$World" "sawRide" "I" ∈ tg_tbl := mem_t (List.mem_of_getElem? (i := 107) (by decide +kernel)) rfl
theorem tw_59 : Cond.fieldLink "TramGod" 217 "TramGod$World" "sawRide" "I" ∈ tg_tbl := mem_t (List.mem_of_getElem? (i := 108) (by decide +kernel)) rfl
theorem tw_60 : Cond.fieldLink "TramGod$World" 55 "TramGod$World" "sawWalk" "I" ∈ tg_tbl := mem_t (List.mem_of_getElem? (i := 109) (by decide +kernel)) rfl
theorem tw_61 : Cond.fieldLink "TramGod" 220 "TramGod$World" "sawWalk" "I" ∈ tg_tbl := mem_t (List.mem_of_getElem? (i := 110) (by decide +kernel)) rfl
theorem tw_62 : Cond.fieldLink "TramGod$World" 21 "TramGod$World" "seconds" "[I" ∈ tg_tbl := mem_t (List.mem_of_getElem? (i := 111) (by decide +kernel)) rfl
theorem tw_63 : Cond.fieldLink "TramGod" 275 "TramGod$World" "seconds" "[I" ∈ tg_tbl := mem_t (List.mem_of_getElem? (i := 112) (by decide +kernel)) rfl
theorem tw_64 : Cond.fieldLink "TramGod$World" 25 "TramGod$World" "at" "[I" ∈ tg_tbl := mem_t (List.mem_of_getElem? (i := 113) (by decide +kernel)) rfl
theorem tw_65 : Cond.fieldLink "TramGod$Slack" 19 "TramGod$World" "at" "[I" ∈ tg_tbl := mem_t (List.mem_of_getElem? (i := 114) (by decide +kernel)) rfl
theorem tw_66 : Cond.fieldLink "TramGod$Planner" 35 "TramGod$World" "at" "[I" ∈ tg_tbl := mem_t (List.mem_of_getElem? (i := 115) (by decide +kernel)) rfl
theorem tw_67 : Cond.fieldLink "TramGod" 103 "TramGod$World" "at" "[I" ∈ tg_tbl := mem_t (List.mem_of_getElem? (i := 116) (by decide +kernel)) rfl
theorem tw_68 : Cond.fieldLink "TramGod$World" 28 "TramGod$World" "comes" "[I" ∈ tg_tbl := mem_t (List.mem_of_getElem? (i := 117) (by decide +kernel)) rfl
theorem tw_69 : Cond.fieldLink "TramGod$Slack" 28 "TramGod$World" "comes" "[I" ∈ tg_tbl := mem_t (List.mem_of_getElem? (i := 118) (by decide +kernel)) rfl
theorem tw_70 : Cond.fieldLink "TramGod" 106 "TramGod$World" "comes" "[I" ∈ tg_tbl := mem_t (List.mem_of_getElem? (i := 119) (by decide +kernel)) rfl
theorem tw_71 : Cond.fieldLink "TramGod$World" 31 "TramGod$World" "ride" "[I" ∈ tg_tbl := mem_t (List.mem_of_getElem? (i := 120) (by decide +kernel)) rfl
theorem tw_72 : Cond.fieldLink "TramGod$Planner" 45 "TramGod$World" "ride" "[I" ∈ tg_tbl := mem_t (List.mem_of_getElem? (i := 121) (by decide +kernel)) rfl
theorem tw_73 : Cond.fieldLink "TramGod" 109 "TramGod$World" "ride" "[I" ∈ tg_tbl := mem_t (List.mem_of_getElem? (i := 122) (by decide +kernel)) rfl
theorem tw_74 : Cond.fieldLink "TramGod$World" 34 "TramGod$World" "walk" "[I" ∈ tg_tbl := mem_t (List.mem_of_getElem? (i := 123) (by decide +kernel)) rfl
theorem tw_75 : Cond.fieldLink "TramGod$Planner" 48 "TramGod$World" "walk" "[I" ∈ tg_tbl := mem_t (List.mem_of_getElem? (i := 124) (by decide +kernel)) rfl
theorem tw_76 : Cond.fieldLink "TramGod" 112 "TramGod$World" "walk" "[I" ∈ tg_tbl := mem_t (List.mem_of_getElem? (i := 125) (by decide +kernel)) rfl
theorem tw_77 : Cond.fieldLink "TramGod$World" 37 "TramGod$World" "other" "[I" ∈ tg_tbl := mem_t (List.mem_of_getElem? (i := 126) (by decide +kernel)) rfl
theorem tw_78 : Cond.fieldLink "TramGod" 115 "TramGod$World" "other" "[I" ∈ tg_tbl := mem_t (List.mem_of_getElem? (i := 127) (by decide +kernel)) rfl
theorem tw_79 : Cond.fieldLink "TramGod$World" 40 "TramGod$World" "nights" "[I" ∈ tg_tbl := mem_t (List.mem_of_getElem? (i := 128) (by decide +kernel)) rfl
theorem tw_80 : Cond.fieldLink "TramGod" 118 "TramGod$World" "nights" "[I" ∈ tg_tbl := mem_t (List.mem_of_getElem? (i := 129) (by decide +kernel)) rfl
theorem tw_113 : Cond.classLink "TramGod" 27 "TramGod$Slack" ∈ tg_tbl := mem_t (List.mem_of_getElem? (i := 162) (by decide +kernel)) rfl
theorem tw_114 : Cond.instantiable "TramGod$Slack" 2 ∈ tg_tbl := mem_t (List.mem_of_getElem? (i := 163) (by decide +kernel)) rfl
theorem tw_115 : Cond.methodLink "TramGod" 29 yX4_init ∈ tg_tbl := mem_t (List.mem_of_getElem? (i := 164) (by decide +kernel)) rfl
theorem tw_116 : Cond.instanceMethod yX4_init ∈ tg_tbl := mem_t (List.mem_of_getElem? (i := 165) (by decide +kernel)) rfl
theorem tw_118 : Cond.methodLink "TramGod$Slack" 3 Lib.objectInit ∈ tg_tbl := mem_t (List.mem_of_getElem? (i := 167) (by decide +kernel)) rfl
theorem tw_119 : Cond.fieldLink "TramGod$Slack" 15 "TramGod$Slack" "world" "LTramGod$World;" ∈ tg_tbl := mem_t (List.mem_of_getElem? (i := 168) (by decide +kernel)) rfl
theorem tw_120 : Cond.fieldLink "TramGod$Slack" 9 "TramGod$Slack" "need" "[I" ∈ tg_tbl := mem_t (List.mem_of_getElem? (i := 169) (by decide +kernel)) rfl
theorem tw_121 : Cond.fieldLink "TramGod$Planner" 40 "TramGod$Slack" "need" "[I" ∈ tg_tbl := mem_t (List.mem_of_getElem? (i := 170) (by decide +kernel)) rfl
theorem tw_127 : Cond.classLink "TramGod" 36 "TramGod$Planner" ∈ tg_tbl := mem_t (List.mem_of_getElem? (i := 176) (by decide +kernel)) rfl
theorem tw_128 : Cond.instantiable "TramGod$Planner" 6 ∈ tg_tbl := mem_t (List.mem_of_getElem? (i := 177) (by decide +kernel)) rfl
theorem tw_129 : Cond.methodLink "TramGod" 38 yX2_init ∈ tg_tbl := mem_t (List.mem_of_getElem? (i := 178) (by decide +kernel)) rfl
theorem tw_130 : Cond.instanceMethod yX2_init ∈ tg_tbl := mem_t (List.mem_of_getElem? (i := 179) (by decide +kernel)) rfl
theorem tw_132 : Cond.methodLink "TramGod$Planner" 3 Lib.objectInit ∈ tg_tbl := mem_t (List.mem_of_getElem? (i := 181) (by decide +kernel)) rfl
theorem tw_133 : Cond.fieldLink "TramGod$Planner" 24 "TramGod$Planner" "world" "LTramGod$World;" ∈ tg_tbl := mem_t (List.mem_of_getElem? (i := 182) (by decide +kernel)) rfl
theorem tw_134 : Cond.fieldLink "TramGod$Planner" 28 "TramGod$Planner" "slack" "LTramGod$Slack;" ∈ tg_tbl := mem_t (List.mem_of_getElem? (i := 183) (by decide +kernel)) rfl
theorem tw_135 : Cond.fieldLink "TramGod$Planner" 9 "TramGod$Planner" "gain" "[I" ∈ tg_tbl := mem_t (List.mem_of_getElem? (i := 184) (by decide +kernel)) rfl
theorem tw_136 : Cond.fieldLink "TramGod$Planner" 15 "TramGod$Planner" "weight" "[I" ∈ tg_tbl := mem_t (List.mem_of_getElem? (i := 185) (by decide +kernel)) rfl
theorem tw_137 : Cond.fieldLink "TramGod" 233 "TramGod$Planner" "weight" "[I" ∈ tg_tbl := mem_t (List.mem_of_getElem? (i := 186) (by decide +kernel)) rfl
theorem tw_138 : Cond.fieldLink "TramGod$Planner" 18 "TramGod$Planner" "value" "[I" ∈ tg_tbl := mem_t (List.mem_of_getElem? (i := 187) (by decide +kernel)) rfl
theorem tw_139 : Cond.fieldLink "TramGod$Planner" 21 "TramGod$Planner" "pick" "[I" ∈ tg_tbl := mem_t (List.mem_of_getElem? (i := 188) (by decide +kernel)) rfl
theorem tw_153 : Cond.classLink "TramGod" 45 "TramGod$Purse" ∈ tg_tbl := mem_t (List.mem_of_getElem? (i := 202) (by decide +kernel)) rfl
theorem tw_154 : Cond.instantiable "TramGod$Purse" 4 ∈ tg_tbl := mem_t (List.mem_of_getElem? (i := 203) (by decide +kernel)) rfl
theorem tw_155 : Cond.methodLink "TramGod" 47 yX3_init ∈ tg_tbl := mem_t (List.mem_of_getElem? (i := 204) (by decide +kernel)) rfl
theorem tw_156 : Cond.instanceMethod yX3_init ∈ tg_tbl := mem_t (List.mem_of_getElem? (i := 205) (by decide +kernel)) rfl
theorem tw_158 : Cond.methodLink "TramGod$Purse" 3 Lib.objectInit ∈ tg_tbl := mem_t (List.mem_of_getElem? (i := 207) (by decide +kernel)) rfl
theorem tw_159 : Cond.fieldLink "TramGod$Purse" 18 "TramGod$Purse" "world" "LTramGod$World;" ∈ tg_tbl := mem_t (List.mem_of_getElem? (i := 208) (by decide +kernel)) rfl
theorem tw_160 : Cond.fieldLink "TramGod$Purse" 22 "TramGod$Purse" "planner" "LTramGod$Planner;" ∈ tg_tbl := mem_t (List.mem_of_getElem? (i := 209) (by decide +kernel)) rfl
theorem tw_161 : Cond.fieldLink "TramGod$Purse" 11 "TramGod$Purse" "nightly" "[I" ∈ tg_tbl := mem_t (List.mem_of_getElem? (i := 210) (by decide +kernel)) rfl
theorem tw_162 : Cond.fieldLink "TramGod$Purse" 15 "TramGod$Purse" "onward" "[I" ∈ tg_tbl := mem_t (List.mem_of_getElem? (i := 211) (by decide +kernel)) rfl
theorem tw_172 : Cond.classLink "TramGod" 54 "TramGod$Duel" ∈ tg_tbl := mem_t (List.mem_of_getElem? (i := 221) (by decide +kernel)) rfl
theorem tw_173 : Cond.instantiable "TramGod$Duel" 9 ∈ tg_tbl := mem_t (List.mem_of_getElem? (i := 222) (by decide +kernel)) rfl
theorem tw_174 : Cond.methodLink "TramGod" 56 yX0_init ∈ tg_tbl := mem_t (List.mem_of_getElem? (i := 223) (by decide +kernel)) rfl
theorem tw_175 : Cond.instanceMethod yX0_init ∈ tg_tbl := mem_t (List.mem_of_getElem? (i := 224) (by decide +kernel)) rfl
theorem tw_177 : Cond.methodLink "TramGod$Duel" 3 Lib.objectInit ∈ tg_tbl := mem_t (List.mem_of_getElem? (i := 226) (by decide +kernel)) rfl
theorem tw_178 : Cond.fieldLink "TramGod$Duel" 24 "TramGod$Duel" "world" "LTramGod$World;" ∈ tg_tbl := mem_t (List.mem_of_getElem? (i := 227) (by decide +kernel)) rfl
theorem tw_179 : Cond.fieldLink "TramGod$Duel" 28 "TramGod$Duel" "slack" "LTramGod$Slack;" ∈ tg_tbl := mem_t (List.mem_of_getElem? (i := 228) (by decide +kernel)) rfl
theorem tw_180 : Cond.fieldLink "TramGod$Duel" 9 "TramGod$Duel" "onGod" "[I" ∈ tg_tbl := mem_t (List.mem_of_getElem? (i := 229) (by decide +kernel)) rfl
theorem tw_181 : Cond.fieldLink "TramGod$Duel" 15 "TramGod$Duel" "onRival" "[I" ∈ tg_tbl := mem_t (List.mem_of_getElem? (i := 230) (by decide +kernel)) rfl
theorem tw_182 : Cond.fieldLink "TramGod$Duel" 18 "TramGod$Duel" "delays" "[I" ∈ tg_tbl := mem_t (List.mem_of_getElem? (i := 231) (by decide +kernel)) rfl
theorem tw_183 : Cond.fieldLink "TramGod$Duel" 21 "TramGod$Duel" "next" "[I" ∈ tg_tbl := mem_t (List.mem_of_getElem? (i := 232) (by decide +kernel)) rfl
theorem tw_184 : Cond.fieldLink "TramGod$Duel" 90 "TramGod$Duel" "first" "I" ∈ tg_tbl := mem_t (List.mem_of_getElem? (i := 233) (by decide +kernel)) rfl
theorem tw_185 : Cond.fieldLink "TramGod" 195 "TramGod$Duel" "first" "I" ∈ tg_tbl := mem_t (List.mem_of_getElem? (i := 234) (by decide +kernel)) rfl
theorem tw_186 : Cond.fieldLink "TramGod$Duel" 87 "TramGod$Duel" "moveOutcome" "I" ∈ tg_tbl := mem_t (List.mem_of_getElem? (i := 235) (by decide +kernel)) rfl
theorem tw_187 : Cond.fieldLink "TramGod$Duel" 93 "TramGod$Duel" "moveStop" "I" ∈ tg_tbl := mem_t (List.mem_of_getElem? (i := 236) (by decide +kernel)) rfl
theorem tw_207 : Cond.fieldLink "TramGod" 10 "TramGod" "pad" "LTramGod$Pad;" ∈ tg_tbl := mem_t (List.mem_of_getElem? (i := 256) (by decide +kernel)) rfl
theorem tw_208 : Cond.fieldLink "TramGod" 19 "TramGod" "world" "LTramGod$World;" ∈ tg_tbl := mem_t (List.mem_of_getElem? (i := 257) (by decide +kernel)) rfl
theorem tw_209 : Cond.fieldLink "TramGod" 23 "TramGod" "images" "[LTramGod$World;" ∈ tg_tbl := mem_t (List.mem_of_getElem? (i := 258) (by decide +kernel)) rfl
theorem tw_210 : Cond.fieldLink "TramGod" 32 "TramGod" "slack" "LTramGod$Slack;" ∈ tg_tbl := mem_t (List.mem_of_getElem? (i := 259) (by decide +kernel)) rfl
theorem tw_211 : Cond.fieldLink "TramGod" 41 "TramGod" "planner" "LTramGod$Planner;" ∈ tg_tbl := mem_t (List.mem_of_getElem? (i := 260) (by decide +kernel)) rfl
theorem tw_212 : Cond.fieldLink "TramGod" 50 "TramGod" "purse" "LTramGod$Purse;" ∈ tg_tbl := mem_t (List.mem_of_getElem? (i := 261) (by decide +kernel)) rfl
theorem tw_213 : Cond.fieldLink "TramGod" 57 "TramGod" "duel" "LTramGod$Duel;" ∈ tg_tbl := mem_t (List.mem_of_getElem? (i := 262) (by decide +kernel)) rfl
theorem tw_214 : Cond.fieldLink "TramGod" 61 "TramGod" "hold" "[I" ∈ tg_tbl := mem_t (List.mem_of_getElem? (i := 263) (by decide +kernel)) rfl
theorem tw_215 : Cond.fieldLink "TramGod" 65 "TramGod" "delays" "[I" ∈ tg_tbl := mem_t (List.mem_of_getElem? (i := 264) (by decide +kernel)) rfl
theorem tw_235 : Cond.methodLink "TramGodLaw" 13 yX6_say ∈ tg_tbl := mem_t (List.mem_of_getElem? (i := 284) (by decide +kernel)) rfl
theorem tw_236 : Cond.instanceMethod yX6_say ∈ tg_tbl := mem_t (List.mem_of_getElem? (i := 285) (by decide +kernel)) rfl
theorem tw_237 : Cond.selects "TramGod" yX6_say yX6_say ∈ tg_tbl := mem_t (List.mem_of_getElem? (i := 286) (by decide +kernel)) rfl
theorem tw_239 : Cond.methodLink "TramGod" 68 yX6_within ∈ tg_tbl := mem_t (List.mem_of_getElem? (i := 288) (by decide +kernel)) rfl
theorem tw_240 : Cond.static yX6_within ∈ tg_tbl := mem_t (List.mem_of_getElem? (i := 289) (by decide +kernel)) rfl
theorem tw_242 : Cond.methodLink "TramGod" 72 yX1_put ∈ tg_tbl := mem_t (List.mem_of_getElem? (i := 291) (by decide +kernel)) rfl
theorem tw_243 : Cond.instanceMethod yX1_put ∈ tg_tbl := mem_t (List.mem_of_getElem? (i := 292) (by decide +kernel)) rfl
theorem tw_244 : Cond.selects "TramGod$Pad" yX1_put yX1_put ∈ tg_tbl := mem_t (List.mem_of_getElem? (i := 293) (by decide +kernel)) rfl
theorem tw_246 : Cond.methodLink "TramGodLaw" 18 yX6_wipe ∈ tg_tbl := mem_t (List.mem_of_getElem? (i := 295) (by decide +kernel)) rfl
theorem tw_247 : Cond.instanceMethod yX6_wipe ∈ tg_tbl := mem_t (List.mem_of_getElem? (i := 296) (by decide +kernel)) rfl
theorem tw_248 : Cond.selects "TramGod" yX6_wipe yX6_wipe ∈ tg_tbl := mem_t (List.mem_of_getElem? (i := 297) (by decide +kernel)) rfl
theorem tw_250 : Cond.methodLink "TramGodLaw" 23 yX6_fault ∈ tg_tbl := mem_t (List.mem_of_getElem? (i := 299) (by decide +kernel)) rfl
theorem tw_251 : Cond.instanceMethod yX6_fault ∈ tg_tbl := mem_t (List.mem_of_getElem? (i := 300) (by decide +kernel)) rfl
theorem tw_252 : Cond.selects "TramGod" yX6_fault yX6_fault ∈ tg_tbl := mem_t (List.mem_of_getElem? (i := 301) (by decide +kernel)) rfl
theorem tw_254 : Cond.methodLink "TramGod" 80 yX1_faultOf ∈ tg_tbl := mem_t (List.mem_of_getElem? (i := 303) (by decide +kernel)) rfl
theorem tw_255 : Cond.instanceMethod yX1_faultOf ∈ tg_tbl := mem_t (List.mem_of_getElem? (i := 304) (by decide +kernel)) rfl
theorem tw_256 : Cond.selects "TramGod$Pad" yX1_faultOf yX1_faultOf ∈ tg_tbl := mem_t (List.mem_of_getElem? (i := 305) (by decide +kernel)) rfl
theorem tw_258 : Cond.methodLink "TramGod$Pad" 19 yX1_digit ∈ tg_tbl := mem_t (List.mem_of_getElem? (i := 307) (by decide +kernel)) rfl
theorem tw_259 : Cond.instanceMethod yX1_digit ∈ tg_tbl := mem_t (List.mem_of_getElem? (i := 308) (by decide +kernel)) rfl
theorem tw_260 : Cond.selects "TramGod$Pad" yX1_digit yX1_digit ∈ tg_tbl := mem_t (List.mem_of_getElem? (i := 309) (by decide +kernel)) rfl
theorem tw_262 : Cond.methodLinkNest "TramGod$Pad" 23 yX6_within "TramGod" ∈ lw_tbl := List.mem_of_getElem? (i := 311) (by decide +kernel)
theorem tw_263 : Cond.methodLink "TramGodLaw" 27 yX6_line ∈ tg_tbl := mem_t (List.mem_of_getElem? (i := 312) (by decide +kernel)) rfl
theorem tw_264 : Cond.instanceMethod yX6_line ∈ tg_tbl := mem_t (List.mem_of_getElem? (i := 313) (by decide +kernel)) rfl
theorem tw_265 : Cond.selects "TramGod" yX6_line yX6_line ∈ tg_tbl := mem_t (List.mem_of_getElem? (i := 314) (by decide +kernel)) rfl
theorem tw_267 : Cond.methodLink "TramGod" 87 yX5_startLine ∈ tg_tbl := mem_t (List.mem_of_getElem? (i := 316) (by decide +kernel)) rfl
theorem tw_268 : Cond.instanceMethod yX5_startLine ∈ tg_tbl := mem_t (List.mem_of_getElem? (i := 317) (by decide +kernel)) rfl
theorem tw_269 : Cond.selects "TramGod$World" yX5_startLine yX5_startLine ∈ tg_tbl := mem_t (List.mem_of_getElem? (i := 318) (by decide +kernel)) rfl
theorem tw_271 : Cond.methodLink "TramGod$World" 69 yJ9_min_7cf53 ∈ tg_tbl := mem_t (List.mem_of_getElem? (i := 320) (by decide +kernel)) rfl
theorem tw_272 : Cond.static yJ9_min_7cf53 ∈ tg_tbl := mem_t (List.mem_of_getElem? (i := 321) (by decide +kernel)) rfl
theorem tw_274 : Cond.methodLink "TramGod$World" 75 yJ9_max_7cf53 ∈ tg_tbl := mem_t (List.mem_of_getElem? (i := 323) (by decide +kernel)) rfl
theorem tw_275 : Cond.static yJ9_max_7cf53 ∈ tg_tbl := mem_t (List.mem_of_getElem? (i := 324) (by decide +kernel)) rfl
theorem tw_277 : Cond.methodLink "TramGod$World" 78 yX1_digit ∈ tg_tbl := mem_t (List.mem_of_getElem? (i := 326) (by decide +kernel)) rfl
theorem tw_278 : Cond.methodLink "TramGod$World" 82 yX5_clearSights ∈ tg_tbl := mem_t (List.mem_of_getElem? (i := 327) (by decide +kernel)) rfl
theorem tw_279 : Cond.instanceMethod yX5_clearSights ∈ tg_tbl := mem_t (List.mem_of_getElem? (i := 328) (by decide +kernel)) rfl
theorem tw_280 : Cond.selects "TramGod$World" yX5_clearSights yX5_clearSights ∈ tg_tbl := mem_t (List.mem_of_getElem? (i := 329) (by decide +kernel)) rfl
theorem tw_282 : Cond.methodLink "TramGodLaw" 31 yX6_close ∈ tg_tbl := mem_t (List.mem_of_getElem? (i := 331) (by decide +kernel)) rfl
theorem tw_283 : Cond.instanceMethod yX6_close ∈ tg_tbl := mem_t (List.mem_of_getElem? (i := 332) (by decide +kernel)) rfl
theorem tw_284 : Cond.selects "TramGod" yX6_close yX6_close ∈ tg_tbl := mem_t (List.mem_of_getElem? (i := 333) (by decide +kernel)) rfl
theorem tw_286 : Cond.methodLink "TramGod" 91 yX5_isStop ∈ tg_tbl := mem_t (List.mem_of_getElem? (i := 335) (by decide +kernel)) rfl
theorem tw_287 : Cond.instanceMethod yX5_isStop ∈ tg_tbl := mem_t (List.mem_of_getElem? (i := 336) (by decide +kernel)) rfl
theorem tw_288 : Cond.selects "TramGod$World" yX5_isStop yX5_isStop ∈ tg_tbl := mem_t (List.mem_of_getElem? (i := 337) (by decide +kernel)) rfl
theorem tw_290 : Cond.methodLinkNest "TramGod$World" 85 yX6_within "TramGod" ∈ lw_tbl := List.mem_of_getElem? (i := 339) (by decide +kernel)
theorem tw_291 : Cond.methodLink "TramGodLaw" 36 yX6_person ∈ tg_tbl := mem_t (List.mem_of_getElem? (i := 340) (by decide +kernel)) rfl
theorem tw_292 : Cond.instanceMethod yX6_person ∈ tg_tbl := mem_t (List.mem_of_getElem? (i := 341) (by decide +kernel)) rfl
theorem tw_293 : Cond.selects "TramGod" yX6_person yX6_person ∈ tg_tbl := mem_t (List.mem_of_getElem? (i := 342) (by decide +kernel)) rfl
theorem tw_295 : Cond.methodLink "TramGod" 97 yX6_isGood ∈ tg_tbl := mem_t (List.mem_of_getElem? (i := 344) (by decide +kernel)) rfl
theorem tw_296 : Cond.static yX6_isGood ∈ tg_tbl := mem_t (List.mem_of_getElem? (i := 345) (by decide +kernel)) rfl
theorem tw_298 : Cond.methodLink "TramGod" 121 yJ6_bitCount_0f7a4 ∈ tg_tbl := mem_t (List.mem_of_getElem? (i := 347) (by decide +kernel)) rfl
theorem tw_299 : Cond.static yJ6_bitCount_0f7a4 ∈ tg_tbl := mem_t (List.mem_of_getElem? (i := 348) (by decide +kernel)) rfl
theorem tw_301 : Cond.constant "java/lang/Integer" 265 (1431655765) ∈ tg_tbl := mem_t (List.mem_of_getElem? (i := 350) (by decide +kernel)) rfl
theorem tw_302 : Cond.constant "java/lang/Integer" 266 (858993459) ∈ tg_tbl := mem_t (List.mem_of_getElem? (i := 351) (by decide +kernel)) rfl
theorem tw_303 : Cond.constant "java/lang/Integer" 267 (252645135) ∈ tg_tbl := mem_t (List.mem_of_getElem? (i := 352) (by decide +kernel)) rfl
theorem tw_304 : Cond.methodLink "TramGodLaw" 41 yX6_leave ∈ tg_tbl := mem_t (List.mem_of_getElem? (i := 353) (by decide +kernel)) rfl
theorem tw_305 : Cond.instanceMethod yX6_leave ∈ tg_tbl := mem_t (List.mem_of_getElem? (i := 354) (by decide +kernel)) rfl
theorem tw_306 : Cond.selects "TramGod" yX6_leave yX6_leave ∈ tg_tbl := mem_t (List.mem_of_getElem? (i := 355) (by decide +kernel)) rfl
theorem tw_308 : Cond.methodLink "TramGod" 127 yX5_isPerson ∈ tg_tbl := mem_t (List.mem_of_getElem? (i := 357) (by decide +kernel)) rfl
theorem tw_309 : Cond.instanceMethod yX5_isPerson ∈ tg_tbl := mem_t (List.mem_of_getElem? (i := 358) (by decide +kernel)) rfl
theorem tw_310 : Cond.selects "TramGod$World" yX5_isPerson yX5_isPerson ∈ tg_tbl := mem_t (List.mem_of_getElem? (i := 359) (by decide +kernel)) rfl
theorem tw_312 : Cond.methodLink "TramGodLaw" 45 yX6_nights ∈ tg_tbl := mem_t (List.mem_of_getElem? (i := 361) (by decide +kernel)) rfl
theorem tw_313 : Cond.instanceMethod yX6_nights ∈ tg_tbl := mem_t (List.mem_of_getElem? (i := 362) (by decide +kernel)) rfl
theorem tw_314 : Cond.selects "TramGod" yX6_nights yX6_nights ∈ tg_tbl := mem_t (List.mem_of_getElem? (i := 363) (by decide +kernel)) rfl
theorem tw_316 : Cond.methodLink "TramGodLaw" 50 yX6_set ∈ tg_tbl := mem_t (List.mem_of_getElem? (i := 365) (by decide +kernel)) rfl
theorem tw_317 : Cond.instanceMethod yX6_set ∈ tg_tbl := mem_t (List.mem_of_getElem? (i := 366) (by decide +kernel)) rfl
theorem tw_318 : Cond.selects "TramGod" yX6_set yX6_set ∈ tg_tbl := mem_t (List.mem_of_getElem? (i := 367) (by decide +kernel)) rfl
theorem tw_320 : Cond.methodLink "TramGodLaw" 54 yX6_judge ∈ tg_tbl := mem_t (List.mem_of_getElem? (i := 369) (by decide +kernel)) rfl
theorem tw_321 : Cond.instanceMethod yX6_judge ∈ tg_tbl := mem_t (List.mem_of_getElem? (i := 370) (by decide +kernel)) rfl
theorem tw_322 : Cond.selects "TramGod" yX6_judge yX6_judge ∈ tg_tbl := mem_t (List.mem_of_getElem? (i := 371) (by decide +kernel)) rfl
theorem tw_324 : Cond.methodLink "TramGod" 136 yX6_readHold ∈ tg_tbl := mem_t (List.mem_of_getElem? (i := 373) (by decide +kernel)) rfl
theorem tw_326 : Cond.instanceMethod yX6_readHold ∈ tg_tbl := mem_t (List.mem_of_getElem? (i := 375) (by decide +kernel)) rfl
theorem tw_328 : Cond.methodLink "TramGod" 257 yX5_isClosed ∈ tg_tbl := mem_t (List.mem_of_getElem? (i := 377) (by decide +kernel)) rfl
theorem tw_329 : Cond.instanceMethod yX5_isClosed ∈ tg_tbl := mem_t (List.mem_of_getElem? (i := 378) (by decide +kernel)) rfl
theorem tw_330 : Cond.selects "TramGod$World" yX5_isClosed yX5_isClosed ∈ tg_tbl := mem_t (List.mem_of_getElem? (i := 379) (by decide +kernel)) rfl
theorem tw_332 : Cond.methodLink "TramGod" 286 yX1_digit ∈ tg_tbl := mem_t (List.mem_of_getElem? (i := 381) (by decide +kernel)) rfl
theorem tw_333 : Cond.methodLink "TramGod" 140 yX6_stopOverEach ∈ tg_tbl := mem_t (List.mem_of_getElem? (i := 382) (by decide +kernel)) rfl
theorem tw_335 : Cond.instanceMethod yX6_stopOverEach ∈ tg_tbl := mem_t (List.mem_of_getElem? (i := 384) (by decide +kernel)) rfl
theorem tw_337 : Cond.methodLink "TramGod" 144 yX6_stopOverBreaths ∈ tg_tbl := mem_t (List.mem_of_getElem? (i := 386) (by decide +kernel)) rfl
theorem tw_339 : Cond.instanceMethod yX6_stopOverBreaths ∈ tg_tbl := mem_t (List.mem_of_getElem? (i := 388) (by decide +kernel)) rfl
theorem tw_341 : Cond.methodLink "TramGodLaw" 58 yX6_riders ∈ tg_tbl := mem_t (List.mem_of_getElem? (i := 390) (by decide +kernel)) rfl
theorem tw_342 : Cond.instanceMethod yX6_riders ∈ tg_tbl := mem_t (List.mem_of_getElem? (i := 391) (by decide +kernel)) rfl
theorem tw_343 : Cond.selects "TramGod" yX6_riders yX6_riders ∈ tg_tbl := mem_t (List.mem_of_getElem? (i := 392) (by decide +kernel)) rfl
theorem tw_345 : Cond.methodLink "TramGod" 147 yX6_readGoodHold ∈ tg_tbl := mem_t (List.mem_of_getElem? (i := 394) (by decide +kernel)) rfl
theorem tw_347 : Cond.instanceMethod yX6_readGoodHold ∈ tg_tbl := mem_t (List.mem_of_getElem? (i := 396) (by decide +kernel)) rfl
theorem tw_349 : Cond.methodLink "TramGod" 182 yX4_measure ∈ tg_tbl := mem_t (List.mem_of_getElem? (i := 398) (by decide +kernel)) rfl
theorem tw_350 : Cond.instanceMethod yX4_measure ∈ tg_tbl := mem_t (List.mem_of_getElem? (i := 399) (by decide +kernel)) rfl
theorem tw_351 : Cond.selects "TramGod$Slack" yX4_measure yX4_measure ∈ tg_tbl := mem_t (List.mem_of_getElem? (i := 400) (by decide +kernel)) rfl
theorem tw_353 : Cond.methodLink "TramGod$Slack" 24 yX5_isPerson ∈ tg_tbl := mem_t (List.mem_of_getElem? (i := 402) (by decide +kernel)) rfl
theorem tw_354 : Cond.methodLink "TramGod$Slack" 31 yX5_departs ∈ tg_tbl := mem_t (List.mem_of_getElem? (i := 403) (by decide +kernel)) rfl
theorem tw_355 : Cond.instanceMethod yX5_departs ∈ tg_tbl := mem_t (List.mem_of_getElem? (i := 404) (by decide +kernel)) rfl
theorem tw_356 : Cond.selects "TramGod$World" yX5_departs yX5_departs ∈ tg_tbl := mem_t (List.mem_of_getElem? (i := 405) (by decide +kernel)) rfl
theorem tw_358 : Cond.methodLink "TramGod" 289 yX6_addDelays ∈ tg_tbl := mem_t (List.mem_of_getElem? (i := 407) (by decide +kernel)) rfl
theorem tw_360 : Cond.instanceMethod yX6_addDelays ∈ tg_tbl := mem_t (List.mem_of_getElem? (i := 409) (by decide +kernel)) rfl
theorem tw_362 : Cond.methodLink "TramGod" 150 yX4_ridersBy ∈ tg_tbl := mem_t (List.mem_of_getElem? (i := 411) (by decide +kernel)) rfl
theorem tw_363 : Cond.instanceMethod yX4_ridersBy ∈ tg_tbl := mem_t (List.mem_of_getElem? (i := 412) (by decide +kernel)) rfl
theorem tw_364 : Cond.selects "TramGod$Slack" yX4_ridersBy yX4_ridersBy ∈ tg_tbl := mem_t (List.mem_of_getElem? (i := 413) (by decide +kernel)) rfl
theorem tw_366 : Cond.methodLink "TramGod$Slack" 35 yX4_ridersLate ∈ tg_tbl := mem_t (List.mem_of_getElem? (i := 415) (by decide +kernel)) rfl
theorem tw_367 : Cond.instanceMethod yX4_ridersLate ∈ tg_tbl := mem_t (List.mem_of_getElem? (i := 416) (by decide +kernel)) rfl
theorem tw_368 : Cond.selects "TramGod$Slack" yX4_ridersLate yX4_ridersLate ∈ tg_tbl := mem_t (List.mem_of_getElem? (i := 417) (by decide +kernel)) rfl
theorem tw_370 : Cond.methodLink "TramGodLaw" 62 yX6_good ∈ tg_tbl := mem_t (List.mem_of_getElem? (i := 419) (by decide +kernel)) rfl
theorem tw_371 : Cond.instanceMethod yX6_good ∈ tg_tbl := mem_t (List.mem_of_getElem? (i := 420) (by decide +kernel)) rfl
theorem tw_372 : Cond.selects "TramGod" yX6_good yX6_good ∈ tg_tbl := mem_t (List.mem_of_getElem? (i := 421) (by decide +kernel)) rfl
theorem tw_374 : Cond.methodLink "TramGod" 154 yX5_goodOf ∈ tg_tbl := mem_t (List.mem_of_getElem? (i := 423) (by decide +kernel)) rfl
theorem tw_375 : Cond.instanceMethod yX5_goodOf ∈ tg_tbl := mem_t (List.mem_of_getElem? (i := 424) (by decide +kernel)) rfl
theorem tw_376 : Cond.selects "TramGod$World" yX5_goodOf yX5_goodOf ∈ tg_tbl := mem_t (List.mem_of_getElem? (i := 425) (by decide +kernel)) rfl
theorem tw_378 : Cond.methodLink "TramGod$World" 93 yX5_goodAmong ∈ tg_tbl := mem_t (List.mem_of_getElem? (i := 427) (by decide +kernel)) rfl
theorem tw_379 : Cond.instanceMethod yX5_goodAmong ∈ tg_tbl := mem_t (List.mem_of_getElem? (i := 428) (by decide +kernel)) rfl
theorem tw_380 : Cond.selects "TramGod$World" yX5_goodAmong yX5_goodAmong ∈ tg_tbl := mem_t (List.mem_of_getElem? (i := 429) (by decide +kernel)) rfl
theorem tw_382 : Cond.methodLink "TramGod" 157 yX5_othersOf ∈ tg_tbl := mem_t (List.mem_of_getElem? (i := 431) (by decide +kernel)) rfl
theorem tw_383 : Cond.instanceMethod yX5_othersOf ∈ tg_tbl := mem_t (List.mem_of_getElem? (i := 432) (by decide +kernel)) rfl
theorem tw_384 : Cond.selects "TramGod$World" yX5_othersOf yX5_othersOf ∈ tg_tbl := mem_t (List.mem_of_getElem? (i := 433) (by decide +kernel)) rfl
theorem tw_386 : Cond.methodLink "TramGodLaw" 66 yX6_leaves ∈ tg_tbl := mem_t (List.mem_of_getElem? (i := 435) (by decide +kernel)) rfl
theorem tw_387 : Cond.instanceMethod yX6_leaves ∈ tg_tbl := mem_t (List.mem_of_getElem? (i := 436) (by decide +kernel)) rfl
theorem tw_388 : Cond.selects "TramGod" yX6_leaves yX6_leaves ∈ tg_tbl := mem_t (List.mem_of_getElem? (i := 437) (by decide +kernel)) rfl
theorem tw_390 : Cond.methodLink "TramGod" 160 yX5_departs ∈ tg_tbl := mem_t (List.mem_of_getElem? (i := 439) (by decide +kernel)) rfl
theorem tw_391 : Cond.methodLink "TramGodLaw" 70 yX6_vain ∈ tg_tbl := mem_t (List.mem_of_getElem? (i := 440) (by decide +kernel)) rfl
theorem tw_392 : Cond.instanceMethod yX6_vain ∈ tg_tbl := mem_t (List.mem_of_getElem? (i := 441) (by decide +kernel)) rfl
theorem tw_393 : Cond.selects "TramGod" yX6_vain yX6_vain ∈ tg_tbl := mem_t (List.mem_of_getElem? (i := 442) (by decide +kernel)) rfl
theorem tw_395 : Cond.methodLink "TramGod" 163 yX6_ridersWithout ∈ tg_tbl := mem_t (List.mem_of_getElem? (i := 444) (by decide +kernel)) rfl
theorem tw_397 : Cond.instanceMethod yX6_ridersWithout ∈ tg_tbl := mem_t (List.mem_of_getElem? (i := 446) (by decide +kernel)) rfl
theorem tw_399 : Cond.methodLink "TramGodLaw" 74 yX6_best ∈ tg_tbl := mem_t (List.mem_of_getElem? (i := 448) (by decide +kernel)) rfl
theorem tw_400 : Cond.instanceMethod yX6_best ∈ tg_tbl := mem_t (List.mem_of_getElem? (i := 449) (by decide +kernel)) rfl
theorem tw_401 : Cond.selects "TramGod" yX6_best yX6_best ∈ tg_tbl := mem_t (List.mem_of_getElem? (i := 450) (by decide +kernel)) rfl
theorem tw_403 : Cond.methodLink "TramGod" 166 yX6_isStopOrAll ∈ tg_tbl := mem_t (List.mem_of_getElem? (i := 452) (by decide +kernel)) rfl
theorem tw_405 : Cond.instanceMethod yX6_isStopOrAll ∈ tg_tbl := mem_t (List.mem_of_getElem? (i := 454) (by decide +kernel)) rfl
theorem tw_407 : Cond.methodLink "TramGod" 169 yX6_mostGood ∈ tg_tbl := mem_t (List.mem_of_getElem? (i := 456) (by decide +kernel)) rfl
theorem tw_409 : Cond.instanceMethod yX6_mostGood ∈ tg_tbl := mem_t (List.mem_of_getElem? (i := 458) (by decide +kernel)) rfl
theorem tw_411 : Cond.methodLink "TramGod" 292 yX2_wantGood ∈ tg_tbl := mem_t (List.mem_of_getElem? (i := 460) (by decide +kernel)) rfl
theorem tw_412 : Cond.instanceMethod yX2_wantGood ∈ tg_tbl := mem_t (List.mem_of_getElem? (i := 461) (by decide +kernel)) rfl
theorem tw_413 : Cond.selects "TramGod$Planner" yX2_wantGood yX2_wantGood ∈ tg_tbl := mem_t (List.mem_of_getElem? (i := 462) (by decide +kernel)) rfl
theorem tw_415 : Cond.methodLink "TramGod$Planner" 32 yX2_clearGain ∈ tg_tbl := mem_t (List.mem_of_getElem? (i := 464) (by decide +kernel)) rfl
theorem tw_417 : Cond.instanceMethod yX2_clearGain ∈ tg_tbl := mem_t (List.mem_of_getElem? (i := 466) (by decide +kernel)) rfl
theorem tw_419 : Cond.methodLink "TramGod" 230 yX2_weighAll ∈ tg_tbl := mem_t (List.mem_of_getElem? (i := 468) (by decide +kernel)) rfl
theorem tw_420 : Cond.instanceMethod yX2_weighAll ∈ tg_tbl := mem_t (List.mem_of_getElem? (i := 469) (by decide +kernel)) rfl
theorem tw_421 : Cond.selects "TramGod$Planner" yX2_weighAll yX2_weighAll ∈ tg_tbl := mem_t (List.mem_of_getElem? (i := 470) (by decide +kernel)) rfl
theorem tw_423 : Cond.methodLink "TramGod" 236 yX2_solve ∈ tg_tbl := mem_t (List.mem_of_getElem? (i := 472) (by decide +kernel)) rfl
theorem tw_424 : Cond.instanceMethod yX2_solve ∈ tg_tbl := mem_t (List.mem_of_getElem? (i := 473) (by decide +kernel)) rfl
theorem tw_425 : Cond.selects "TramGod$Planner" yX2_solve yX2_solve ∈ tg_tbl := mem_t (List.mem_of_getElem? (i := 474) (by decide +kernel)) rfl
theorem tw_427 : Cond.methodLink "TramGod$Planner" 56 yX2_startRow ∈ tg_tbl := mem_t (List.mem_of_getElem? (i := 476) (by decide +kernel)) rfl
theorem tw_429 : Cond.instanceMethod yX2_startRow ∈ tg_tbl := mem_t (List.mem_of_getElem? (i := 478) (by decide +kernel)) rfl
theorem tw_431 : Cond.methodLink "TramGod$Planner" 60 yX2_choose ∈ tg_tbl := mem_t (List.mem_of_getElem? (i := 480) (by decide +kernel)) rfl
theorem tw_433 : Cond.instanceMethod yX2_choose ∈ tg_tbl := mem_t (List.mem_of_getElem? (i := 482) (by decide +kernel)) rfl
theorem tw_435 : Cond.methodLink "TramGod$Planner" 64 yX5_mayHold ∈ tg_tbl := mem_t (List.mem_of_getElem? (i := 484) (by decide +kernel)) rfl
theorem tw_436 : Cond.instanceMethod yX5_mayHold ∈ tg_tbl := mem_t (List.mem_of_getElem? (i := 485) (by decide +kernel)) rfl
theorem tw_437 : Cond.selects "TramGod$World" yX5_mayHold yX5_mayHold ∈ tg_tbl := mem_t (List.mem_of_getElem? (i := 486) (by decide +kernel)) rfl
theorem tw_439 : Cond.methodLink "TramGod$World" 89 yX5_isClosed ∈ tg_tbl := mem_t (List.mem_of_getElem? (i := 488) (by decide +kernel)) rfl
theorem tw_440 : Cond.methodLink "TramGod" 172 yX2_breathsAt ∈ tg_tbl := mem_t (List.mem_of_getElem? (i := 489) (by decide +kernel)) rfl
theorem tw_441 : Cond.instanceMethod yX2_breathsAt ∈ tg_tbl := mem_t (List.mem_of_getElem? (i := 490) (by decide +kernel)) rfl
theorem tw_442 : Cond.selects "TramGod$Planner" yX2_breathsAt yX2_breathsAt ∈ tg_tbl := mem_t (List.mem_of_getElem? (i := 491) (by decide +kernel)) rfl
theorem tw_444 : Cond.methodLink "TramGod$Planner" 68 yJ9_min_7cf53 ∈ tg_tbl := mem_t (List.mem_of_getElem? (i := 493) (by decide +kernel)) rfl
theorem tw_445 : Cond.methodLink "TramGodLaw" 78 yX6_worth ∈ tg_tbl := mem_t (List.mem_of_getElem? (i := 494) (by decide +kernel)) rfl
theorem tw_446 : Cond.instanceMethod yX6_worth ∈ tg_tbl := mem_t (List.mem_of_getElem? (i := 495) (by decide +kernel)) rfl
theorem tw_447 : Cond.selects "TramGod" yX6_worth yX6_worth ∈ tg_tbl := mem_t (List.mem_of_getElem? (i := 496) (by decide +kernel)) rfl
theorem tw_449 : Cond.methodLink "TramGodLaw" 82 yX6_meant ∈ tg_tbl := mem_t (List.mem_of_getElem? (i := 498) (by decide +kernel)) rfl
theorem tw_450 : Cond.instanceMethod yX6_meant ∈ tg_tbl := mem_t (List.mem_of_getElem? (i := 499) (by decide +kernel)) rfl
theorem tw_451 : Cond.selects "TramGod" yX6_meant yX6_meant ∈ tg_tbl := mem_t (List.mem_of_getElem? (i := 500) (by decide +kernel)) rfl
theorem tw_453 : Cond.methodLink "TramGod" 175 yX6_areSets ∈ tg_tbl := mem_t (List.mem_of_getElem? (i := 502) (by decide +kernel)) rfl
theorem tw_455 : Cond.instanceMethod yX6_areSets ∈ tg_tbl := mem_t (List.mem_of_getElem? (i := 504) (by decide +kernel)) rfl
theorem tw_457 : Cond.methodLink "TramGod" 179 yX6_fewestBreaths ∈ tg_tbl := mem_t (List.mem_of_getElem? (i := 506) (by decide +kernel)) rfl
theorem tw_459 : Cond.instanceMethod yX6_fewestBreaths ∈ tg_tbl := mem_t (List.mem_of_getElem? (i := 508) (by decide +kernel)) rfl
theorem tw_461 : Cond.methodLink "TramGod" 223 yX2_wantSets ∈ tg_tbl := mem_t (List.mem_of_getElem? (i := 510) (by decide +kernel)) rfl
theorem tw_462 : Cond.instanceMethod yX2_wantSets ∈ tg_tbl := mem_t (List.mem_of_getElem? (i := 511) (by decide +kernel)) rfl
theorem tw_463 : Cond.selects "TramGod$Planner" yX2_wantSets yX2_wantSets ∈ tg_tbl := mem_t (List.mem_of_getElem? (i := 512) (by decide +kernel)) rfl
theorem tw_465 : Cond.constant "TramGod$Planner" 51 (-1000000) ∈ tg_tbl := mem_t (List.mem_of_getElem? (i := 514) (by decide +kernel)) rfl
theorem tw_466 : Cond.constant "TramGod" 239 (-500000) ∈ tg_tbl := mem_t (List.mem_of_getElem? (i := 515) (by decide +kernel)) rfl
theorem tw_467 : Cond.methodLink "TramGodLaw" 87 yX6_bars ∈ tg_tbl := mem_t (List.mem_of_getElem? (i := 516) (by decide +kernel)) rfl
theorem tw_468 : Cond.instanceMethod yX6_bars ∈ tg_tbl := mem_t (List.mem_of_getElem? (i := 517) (by decide +kernel)) rfl
theorem tw_469 : Cond.selects "TramGod" yX6_bars yX6_bars ∈ tg_tbl := mem_t (List.mem_of_getElem? (i := 518) (by decide +kernel)) rfl
theorem tw_471 : Cond.methodLink "TramGodLaw" 91 yX6_fund ∈ tg_tbl := mem_t (List.mem_of_getElem? (i := 520) (by decide +kernel)) rfl
theorem tw_472 : Cond.instanceMethod yX6_fund ∈ tg_tbl := mem_t (List.mem_of_getElem? (i := 521) (by decide +kernel)) rfl
theorem tw_473 : Cond.selects "TramGod" yX6_fund yX6_fund ∈ tg_tbl := mem_t (List.mem_of_getElem? (i := 522) (by decide +kernel)) rfl
theorem tw_475 : Cond.methodLink "TramGod" 186 yX3_share ∈ tg_tbl := mem_t (List.mem_of_getElem? (i := 524) (by decide +kernel)) rfl
theorem tw_476 : Cond.instanceMethod yX3_share ∈ tg_tbl := mem_t (List.mem_of_getElem? (i := 525) (by decide +kernel)) rfl
theorem tw_477 : Cond.selects "TramGod$Purse" yX3_share yX3_share ∈ tg_tbl := mem_t (List.mem_of_getElem? (i := 526) (by decide +kernel)) rfl
theorem tw_479 : Cond.methodLink "TramGod$Purse" 26 yX5_comeIn ∈ tg_tbl := mem_t (List.mem_of_getElem? (i := 528) (by decide +kernel)) rfl
theorem tw_480 : Cond.instanceMethod yX5_comeIn ∈ tg_tbl := mem_t (List.mem_of_getElem? (i := 529) (by decide +kernel)) rfl
theorem tw_481 : Cond.selects "TramGod$World" yX5_comeIn yX5_comeIn ∈ tg_tbl := mem_t (List.mem_of_getElem? (i := 530) (by decide +kernel)) rfl
theorem tw_483 : Cond.methodLink "TramGod$World" 96 yX5_isPerson ∈ tg_tbl := mem_t (List.mem_of_getElem? (i := 532) (by decide +kernel)) rfl
theorem tw_484 : Cond.methodLink "TramGod$Purse" 36 yX2_wantGood ∈ tg_tbl := mem_t (List.mem_of_getElem? (i := 533) (by decide +kernel)) rfl
theorem tw_485 : Cond.methodLink "TramGod$Purse" 42 yX2_spendExactly ∈ tg_tbl := mem_t (List.mem_of_getElem? (i := 534) (by decide +kernel)) rfl
theorem tw_486 : Cond.instanceMethod yX2_spendExactly ∈ tg_tbl := mem_t (List.mem_of_getElem? (i := 535) (by decide +kernel)) rfl
theorem tw_487 : Cond.selects "TramGod$Planner" yX2_spendExactly yX2_spendExactly ∈ tg_tbl := mem_t (List.mem_of_getElem? (i := 536) (by decide +kernel)) rfl
theorem tw_489 : Cond.methodLink "TramGod$Planner" 73 yJ9_max_7cf53 ∈ tg_tbl := mem_t (List.mem_of_getElem? (i := 538) (by decide +kernel)) rfl
theorem tw_490 : Cond.methodLink "TramGod$Purse" 46 yX3_fewestOfBest ∈ tg_tbl := mem_t (List.mem_of_getElem? (i := 539) (by decide +kernel)) rfl
theorem tw_492 : Cond.instanceMethod yX3_fewestOfBest ∈ tg_tbl := mem_t (List.mem_of_getElem? (i := 541) (by decide +kernel)) rfl
theorem tw_494 : Cond.methodLink "TramGod$Purse" 54 yJ9_min_7cf53 ∈ tg_tbl := mem_t (List.mem_of_getElem? (i := 543) (by decide +kernel)) rfl
theorem tw_495 : Cond.methodLink "TramGod$Purse" 50 yX3_scoreOf ∈ tg_tbl := mem_t (List.mem_of_getElem? (i := 544) (by decide +kernel)) rfl
theorem tw_497 : Cond.instanceMethod yX3_scoreOf ∈ tg_tbl := mem_t (List.mem_of_getElem? (i := 546) (by decide +kernel)) rfl
theorem tw_499 : Cond.methodLink "TramGod" 189 yX3_spentIn ∈ tg_tbl := mem_t (List.mem_of_getElem? (i := 548) (by decide +kernel)) rfl
theorem tw_500 : Cond.instanceMethod yX3_spentIn ∈ tg_tbl := mem_t (List.mem_of_getElem? (i := 549) (by decide +kernel)) rfl
theorem tw_501 : Cond.selects "TramGod$Purse" yX3_spentIn yX3_spentIn ∈ tg_tbl := mem_t (List.mem_of_getElem? (i := 550) (by decide +kernel)) rfl
theorem tw_503 : Cond.methodLink "TramGodLaw" 95 yX6_rival ∈ tg_tbl := mem_t (List.mem_of_getElem? (i := 552) (by decide +kernel)) rfl
theorem tw_504 : Cond.instanceMethod yX6_rival ∈ tg_tbl := mem_t (List.mem_of_getElem? (i := 553) (by decide +kernel)) rfl
theorem tw_505 : Cond.selects "TramGod" yX6_rival yX6_rival ∈ tg_tbl := mem_t (List.mem_of_getElem? (i := 554) (by decide +kernel)) rfl
theorem tw_507 : Cond.methodLink "TramGod" 192 yX0_play ∈ tg_tbl := mem_t (List.mem_of_getElem? (i := 556) (by decide +kernel)) rfl
theorem tw_508 : Cond.instanceMethod yX0_play ∈ tg_tbl := mem_t (List.mem_of_getElem? (i := 557) (by decide +kernel)) rfl
theorem tw_509 : Cond.selects "TramGod$Duel" yX0_play yX0_play ∈ tg_tbl := mem_t (List.mem_of_getElem? (i := 558) (by decide +kernel)) rfl
theorem tw_511 : Cond.methodLink "TramGod$Duel" 41 yX0_ways ∈ tg_tbl := mem_t (List.mem_of_getElem? (i := 560) (by decide +kernel)) rfl
theorem tw_512 : Cond.static yX0_ways ∈ tg_tbl := mem_t (List.mem_of_getElem? (i := 561) (by decide +kernel)) rfl
theorem tw_514 : Cond.methodLinkNest "TramGod$Duel" 60 yX6_within "TramGod" ∈ lw_tbl := List.mem_of_getElem? (i := 563) (by decide +kernel)
theorem tw_515 : Cond.fieldLinkNest "TramGod$Duel" 64 "TramGod" "CHOOSE" "[I" "TramGod" ∈ lw_tbl := List.mem_of_getElem? (i := 564) (by decide +kernel)
theorem tw_517 : Cond.methodLink "TramGod$Duel" 45 yJ9_min_7cf53 ∈ tg_tbl := mem_t (List.mem_of_getElem? (i := 566) (by decide +kernel)) rfl
theorem tw_518 : Cond.methodLink "TramGod$Duel" 50 yX0_findNext ∈ tg_tbl := mem_t (List.mem_of_getElem? (i := 567) (by decide +kernel)) rfl
theorem tw_520 : Cond.instanceMethod yX0_findNext ∈ tg_tbl := mem_t (List.mem_of_getElem? (i := 569) (by decide +kernel)) rfl
theorem tw_522 : Cond.methodLink "TramGod$Duel" 67 yX5_mayHold ∈ tg_tbl := mem_t (List.mem_of_getElem? (i := 571) (by decide +kernel)) rfl
theorem tw_523 : Cond.methodLink "TramGod$Duel" 54 yX0_settle ∈ tg_tbl := mem_t (List.mem_of_getElem? (i := 572) (by decide +kernel)) rfl
theorem tw_525 : Cond.instanceMethod yX0_settle ∈ tg_tbl := mem_t (List.mem_of_getElem? (i := 574) (by decide +kernel)) rfl
theorem tw_527 : Cond.methodLink "TramGod$Duel" 70 yX4_ridersBy ∈ tg_tbl := mem_t (List.mem_of_getElem? (i := 576) (by decide +kernel)) rfl
theorem tw_528 : Cond.methodLink "TramGod$Duel" 76 yX5_goodOf ∈ tg_tbl := mem_t (List.mem_of_getElem? (i := 577) (by decide +kernel)) rfl
theorem tw_529 : Cond.methodLink "TramGod$Duel" 80 yX5_othersOf ∈ tg_tbl := mem_t (List.mem_of_getElem? (i := 578) (by decide +kernel)) rfl
theorem tw_530 : Cond.methodLink "TramGod$Duel" 83 yX0_findMove ∈ tg_tbl := mem_t (List.mem_of_getElem? (i := 579) (by decide +kernel)) rfl
theorem tw_532 : Cond.instanceMethod yX0_findMove ∈ tg_tbl := mem_t (List.mem_of_getElem? (i := 581) (by decide +kernel)) rfl
theorem tw_534 : Cond.methodLink "TramGod$Duel" 96 yX0_better ∈ tg_tbl := mem_t (List.mem_of_getElem? (i := 583) (by decide +kernel)) rfl
theorem tw_535 : Cond.static yX0_better ∈ tg_tbl := mem_t (List.mem_of_getElem? (i := 584) (by decide +kernel)) rfl
theorem tw_537 : Cond.methodLink "TramGod$Duel" 57 yX0_stepDown ∈ tg_tbl := mem_t (List.mem_of_getElem? (i := 586) (by decide +kernel)) rfl
theorem tw_539 : Cond.instanceMethod yX0_stepDown ∈ tg_tbl := mem_t (List.mem_of_getElem? (i := 588) (by decide +kernel)) rfl
theorem tw_541 : Cond.methodLink "TramGod" 198 yX0_godHas ∈ tg_tbl := mem_t (List.mem_of_getElem? (i := 590) (by decide +kernel)) rfl
theorem tw_542 : Cond.instanceMethod yX0_godHas ∈ tg_tbl := mem_t (List.mem_of_getElem? (i := 591) (by decide +kernel)) rfl
theorem tw_543 : Cond.selects "TramGod$Duel" yX0_godHas yX0_godHas ∈ tg_tbl := mem_t (List.mem_of_getElem? (i := 592) (by decide +kernel)) rfl
theorem tw_545 : Cond.methodLink "TramGod" 201 yX0_rivalHas ∈ tg_tbl := mem_t (List.mem_of_getElem? (i := 594) (by decide +kernel)) rfl
theorem tw_546 : Cond.instanceMethod yX0_rivalHas ∈ tg_tbl := mem_t (List.mem_of_getElem? (i := 595) (by decide +kernel)) rfl
theorem tw_547 : Cond.selects "TramGod$Duel" yX0_rivalHas yX0_rivalHas ∈ tg_tbl := mem_t (List.mem_of_getElem? (i := 596) (by decide +kernel)) rfl
theorem tw_549 : Cond.methodLink "TramGodLaw" 99 yX6_closing ∈ tg_tbl := mem_t (List.mem_of_getElem? (i := 598) (by decide +kernel)) rfl
theorem tw_550 : Cond.instanceMethod yX6_closing ∈ tg_tbl := mem_t (List.mem_of_getElem? (i := 599) (by decide +kernel)) rfl
theorem tw_551 : Cond.selects "TramGod" yX6_closing yX6_closing ∈ tg_tbl := mem_t (List.mem_of_getElem? (i := 600) (by decide +kernel)) rfl
theorem tw_553 : Cond.methodLink "TramGod" 204 yX6_clearDelays ∈ tg_tbl := mem_t (List.mem_of_getElem? (i := 602) (by decide +kernel)) rfl
theorem tw_555 : Cond.instanceMethod yX6_clearDelays ∈ tg_tbl := mem_t (List.mem_of_getElem? (i := 604) (by decide +kernel)) rfl
theorem tw_557 : Cond.methodLink "TramGodLaw" 103 yX6_seen ∈ tg_tbl := mem_t (List.mem_of_getElem? (i := 606) (by decide +kernel)) rfl
theorem tw_558 : Cond.instanceMethod yX6_seen ∈ tg_tbl := mem_t (List.mem_of_getElem? (i := 607) (by decide +kernel)) rfl
theorem tw_559 : Cond.selects "TramGod" yX6_seen yX6_seen ∈ tg_tbl := mem_t (List.mem_of_getElem? (i := 608) (by decide +kernel)) rfl
theorem tw_561 : Cond.methodLink "TramGod" 210 yX5_addSight ∈ tg_tbl := mem_t (List.mem_of_getElem? (i := 610) (by decide +kernel)) rfl
theorem tw_562 : Cond.instanceMethod yX5_addSight ∈ tg_tbl := mem_t (List.mem_of_getElem? (i := 611) (by decide +kernel)) rfl
theorem tw_563 : Cond.selects "TramGod$World" yX5_addSight yX5_addSight ∈ tg_tbl := mem_t (List.mem_of_getElem? (i := 612) (by decide +kernel)) rfl
theorem tw_565 : Cond.methodLink "TramGodLaw" 107 yX6_forget ∈ tg_tbl := mem_t (List.mem_of_getElem? (i := 614) (by decide +kernel)) rfl
theorem tw_566 : Cond.instanceMethod yX6_forget ∈ tg_tbl := mem_t (List.mem_of_getElem? (i := 615) (by decide +kernel)) rfl
theorem tw_567 : Cond.selects "TramGod" yX6_forget yX6_forget ∈ tg_tbl := mem_t (List.mem_of_getElem? (i := 616) (by decide +kernel)) rfl
theorem tw_569 : Cond.methodLink "TramGod" 214 yX5_clearSights ∈ tg_tbl := mem_t (List.mem_of_getElem? (i := 618) (by decide +kernel)) rfl
theorem tw_570 : Cond.methodLink "TramGodLaw" 111 yX6_held ∈ tg_tbl := mem_t (List.mem_of_getElem? (i := 619) (by decide +kernel)) rfl
theorem tw_571 : Cond.instanceMethod yX6_held ∈ tg_tbl := mem_t (List.mem_of_getElem? (i := 620) (by decide +kernel)) rfl
theorem tw_572 : Cond.selects "TramGod" yX6_held yX6_held ∈ tg_tbl := mem_t (List.mem_of_getElem? (i := 621) (by decide +kernel)) rfl
theorem tw_574 : Cond.methodLink "TramGod" 227 yX2_countHolds ∈ tg_tbl := mem_t (List.mem_of_getElem? (i := 623) (by decide +kernel)) rfl
theorem tw_575 : Cond.instanceMethod yX2_countHolds ∈ tg_tbl := mem_t (List.mem_of_getElem? (i := 624) (by decide +kernel)) rfl
theorem tw_576 : Cond.selects "TramGod$Planner" yX2_countHolds yX2_countHolds ∈ tg_tbl := mem_t (List.mem_of_getElem? (i := 625) (by decide +kernel)) rfl
theorem tw_578 : Cond.methodLink "TramGodLaw" 115 yX6_runs ∈ tg_tbl := mem_t (List.mem_of_getElem? (i := 627) (by decide +kernel)) rfl
theorem tw_579 : Cond.instanceMethod yX6_runs ∈ tg_tbl := mem_t (List.mem_of_getElem? (i := 628) (by decide +kernel)) rfl
theorem tw_580 : Cond.selects "TramGod" yX6_runs yX6_runs ∈ tg_tbl := mem_t (List.mem_of_getElem? (i := 629) (by decide +kernel)) rfl
theorem tw_582 : Cond.constantLong "TramGod" 240 (-1000000000000000001) ∈ tg_tbl := mem_t (List.mem_of_getElem? (i := 631) (by decide +kernel)) rfl
theorem tw_583 : Cond.methodLink "TramGod" 242 yX6_areRunners ∈ tg_tbl := mem_t (List.mem_of_getElem? (i := 632) (by decide +kernel)) rfl
theorem tw_584 : Cond.static yX6_areRunners ∈ tg_tbl := mem_t (List.mem_of_getElem? (i := 633) (by decide +kernel)) rfl
theorem tw_586 : Cond.constantLong "TramGod" 245 (-1000000000000000002) ∈ tg_tbl := mem_t (List.mem_of_getElem? (i := 635) (by decide +kernel)) rfl
theorem tw_587 : Cond.constantLong "TramGod" 247 (-1000000000000000005) ∈ tg_tbl := mem_t (List.mem_of_getElem? (i := 636) (by decide +kernel)) rfl
theorem tw_588 : Cond.methodLink "TramGod" 249 yX4_tenths ∈ tg_tbl := mem_t (List.mem_of_getElem? (i := 637) (by decide +kernel)) rfl
theorem tw_589 : Cond.instanceMethod yX4_tenths ∈ tg_tbl := mem_t (List.mem_of_getElem? (i := 638) (by decide +kernel)) rfl
theorem tw_590 : Cond.selects "TramGod$Slack" yX4_tenths yX4_tenths ∈ tg_tbl := mem_t (List.mem_of_getElem? (i := 639) (by decide +kernel)) rfl
theorem tw_592 : Cond.methodLink "TramGod" 253 yX6_partOf ∈ tg_tbl := mem_t (List.mem_of_getElem? (i := 641) (by decide +kernel)) rfl
theorem tw_593 : Cond.static yX6_partOf ∈ tg_tbl := mem_t (List.mem_of_getElem? (i := 642) (by decide +kernel)) rfl
theorem tw_595 : Cond.methodLink "TramGod" 281 yJ9_abs_0f7a4 ∈ tg_tbl := mem_t (List.mem_of_getElem? (i := 644) (by decide +kernel)) rfl
theorem tw_596 : Cond.static yJ9_abs_0f7a4 ∈ tg_tbl := mem_t (List.mem_of_getElem? (i := 645) (by decide +kernel)) rfl
theorem tw_598 : Cond.methodLink "TramGodLaw" 120 yX6_mean ∈ tg_tbl := mem_t (List.mem_of_getElem? (i := 647) (by decide +kernel)) rfl
theorem tw_599 : Cond.instanceMethod yX6_mean ∈ tg_tbl := mem_t (List.mem_of_getElem? (i := 648) (by decide +kernel)) rfl
theorem tw_600 : Cond.selects "TramGod" yX6_mean yX6_mean ∈ tg_tbl := mem_t (List.mem_of_getElem? (i := 649) (by decide +kernel)) rfl
theorem tw_602 : Cond.methodLink "TramGodLaw" 125 yX6_waits ∈ tg_tbl := mem_t (List.mem_of_getElem? (i := 651) (by decide +kernel)) rfl
theorem tw_603 : Cond.instanceMethod yX6_waits ∈ tg_tbl := mem_t (List.mem_of_getElem? (i := 652) (by decide +kernel)) rfl
theorem tw_604 : Cond.selects "TramGod" yX6_waits yX6_waits ∈ tg_tbl := mem_t (List.mem_of_getElem? (i := 653) (by decide +kernel)) rfl
theorem tw_606 : Cond.methodLink "TramGod" 260 yX5_mayHold ∈ tg_tbl := mem_t (List.mem_of_getElem? (i := 655) (by decide +kernel)) rfl
theorem tw_607 : Cond.methodLink "TramGodLaw" 130 yX6_year ∈ tg_tbl := mem_t (List.mem_of_getElem? (i := 656) (by decide +kernel)) rfl
theorem tw_608 : Cond.instanceMethod yX6_year ∈ tg_tbl := mem_t (List.mem_of_getElem? (i := 657) (by decide +kernel)) rfl
theorem tw_609 : Cond.selects "TramGod" yX6_year yX6_year ∈ tg_tbl := mem_t (List.mem_of_getElem? (i := 658) (by decide +kernel)) rfl
theorem tw_611 : Cond.constant "TramGod" 263 (65537) ∈ tg_tbl := mem_t (List.mem_of_getElem? (i := 660) (by decide +kernel)) rfl
theorem tw_612 : Cond.methodLink "TramGod" 264 yX4_ridersLate ∈ tg_tbl := mem_t (List.mem_of_getElem? (i := 661) (by decide +kernel)) rfl
theorem tw_613 : Cond.methodLink "TramGod" 268 yX5_goodAmong ∈ tg_tbl := mem_t (List.mem_of_getElem? (i := 662) (by decide +kernel)) rfl
theorem tw_614 : Cond.constant "TramGod" 271 (100000) ∈ tg_tbl := mem_t (List.mem_of_getElem? (i := 663) (by decide +kernel)) rfl
theorem tw_615 : Cond.methodLink "TramGodLaw" 134 yX6_image ∈ tg_tbl := mem_t (List.mem_of_getElem? (i := 664) (by decide +kernel)) rfl
theorem tw_616 : Cond.instanceMethod yX6_image ∈ tg_tbl := mem_t (List.mem_of_getElem? (i := 665) (by decide +kernel)) rfl
theorem tw_617 : Cond.selects "TramGod" yX6_image yX6_image ∈ tg_tbl := mem_t (List.mem_of_getElem? (i := 666) (by decide +kernel)) rfl
theorem tw_619 : Cond.methodLink "TramGod" 272 yX5_copyFrom ∈ tg_tbl := mem_t (List.mem_of_getElem? (i := 668) (by decide +kernel)) rfl
theorem tw_620 : Cond.instanceMethod yX5_copyFrom ∈ tg_tbl := mem_t (List.mem_of_getElem? (i := 669) (by decide +kernel)) rfl
theorem tw_621 : Cond.selects "TramGod$World" yX5_copyFrom yX5_copyFrom ∈ tg_tbl := mem_t (List.mem_of_getElem? (i := 670) (by decide +kernel)) rfl
theorem tw_623 : Cond.methodLink "TramGod$World" 58 ⟨"java/lang/System", "arraycopy", "(Ljava/lang/Object;ILjava/lang/Object;II)V"⟩ ∈ tg_tbl := mem_t (List.mem_of_getElem? (i := 672) (by decide +kernel)) rfl
theorem tw_624 : Cond.static ⟨"java/lang/System", "arraycopy", "(Ljava/lang/Object;ILjava/lang/Object;II)V"⟩ ∈ tg_tbl := mem_t (List.mem_of_getElem? (i := 673) (by decide +kernel)) rfl
theorem tw_625 : Cond.native ⟨"java/lang/System", "arraycopy", "(Ljava/lang/Object;ILjava/lang/Object;II)V"⟩ ∈ tg_tbl := mem_t (List.mem_of_getElem? (i := 674) (by decide +kernel)) rfl
theorem tw_626 : Cond.methodLink "TramGodLaw" 138 yX6_restore ∈ tg_tbl := mem_t (List.mem_of_getElem? (i := 675) (by decide +kernel)) rfl
theorem tw_627 : Cond.instanceMethod yX6_restore ∈ tg_tbl := mem_t (List.mem_of_getElem? (i := 676) (by decide +kernel)) rfl
theorem tw_628 : Cond.selects "TramGod" yX6_restore yX6_restore ∈ tg_tbl := mem_t (List.mem_of_getElem? (i := 677) (by decide +kernel)) rfl
theorem tw_630 : Cond.methodLink "TramGodLaw" 142 yX6_told ∈ tg_tbl := mem_t (List.mem_of_getElem? (i := 679) (by decide +kernel)) rfl
theorem tw_631 : Cond.instanceMethod yX6_told ∈ tg_tbl := mem_t (List.mem_of_getElem? (i := 680) (by decide +kernel)) rfl
theorem tw_632 : Cond.selects "TramGod" yX6_told yX6_told ∈ tg_tbl := mem_t (List.mem_of_getElem? (i := 681) (by decide +kernel)) rfl
theorem tw_634 : Cond.methodLink "TramGod" 278 yX5_tellPerson ∈ tg_tbl := mem_t (List.mem_of_getElem? (i := 683) (by decide +kernel)) rfl
theorem tw_635 : Cond.instanceMethod yX5_tellPerson ∈ tg_tbl := mem_t (List.mem_of_getElem? (i := 684) (by decide +kernel)) rfl
theorem tw_636 : Cond.selects "TramGod$World" yX5_tellPerson yX5_tellPerson ∈ tg_tbl := mem_t (List.mem_of_getElem? (i := 685) (by decide +kernel)) rfl
theorem tw_638 : Cond.classLink "TramGodLaw" 10 "TramGodModel" ∈ tg_tbl := mem_t (List.mem_of_getElem? (i := 687) (by decide +kernel)) rfl
theorem tw_639 : Cond.instantiable "TramGodModel" 31 ∈ tg_tbl := mem_t (List.mem_of_getElem? (i := 688) (by decide +kernel)) rfl
theorem tw_640 : Cond.methodLink "TramGodLaw" 12 yX7_init ∈ tg_tbl := mem_t (List.mem_of_getElem? (i := 689) (by decide +kernel)) rfl
theorem tw_641 : Cond.instanceMethod yX7_init ∈ tg_tbl := mem_t (List.mem_of_getElem? (i := 690) (by decide +kernel)) rfl
theorem tw_643 : Cond.methodLink "TramGodModel" 1 Lib.objectInit ∈ tg_tbl := mem_t (List.mem_of_getElem? (i := 692) (by decide +kernel)) rfl
theorem tw_644 : Cond.constant "TramGodModel" 55 (186624) ∈ tg_tbl := mem_t (List.mem_of_getElem? (i := 693) (by decide +kernel)) rfl
theorem tw_645 : Cond.fieldLink "TramGodModel" 69 "TramGodModel" "stops" "I" ∈ tg_tbl := mem_t (List.mem_of_getElem? (i := 694) (by decide +kernel)) rfl
theorem tw_646 : Cond.fieldLink "TramGodModel" 7 "TramGodModel" "seconds" "[I" ∈ tg_tbl := mem_t (List.mem_of_getElem? (i := 695) (by decide +kernel)) rfl
theorem tw_647 : Cond.fieldLink "TramGodModel" 83 "TramGodModel" "closed" "I" ∈ tg_tbl := mem_t (List.mem_of_getElem? (i := 696) (by decide +kernel)) rfl
theorem tw_648 : Cond.fieldLink "TramGodModel" 88 "TramGodModel" "people" "I" ∈ tg_tbl := mem_t (List.mem_of_getElem? (i := 697) (by decide +kernel)) rfl
theorem tw_649 : Cond.fieldLink "TramGodModel" 13 "TramGodModel" "stopOf" "[I" ∈ tg_tbl := mem_t (List.mem_of_getElem? (i := 698) (by decide +kernel)) rfl
theorem tw_650 : Cond.fieldLink "TramGodModel" 16 "TramGodModel" "comes" "[I" ∈ tg_tbl := mem_t (List.mem_of_getElem? (i := 699) (by decide +kernel)) rfl
theorem tw_651 : Cond.fieldLink "TramGodModel" 19 "TramGodModel" "ride" "[I" ∈ tg_tbl := mem_t (List.mem_of_getElem? (i := 700) (by decide +kernel)) rfl
theorem tw_652 : Cond.fieldLink "TramGodModel" 22 "TramGodModel" "walk" "[I" ∈ tg_tbl := mem_t (List.mem_of_getElem? (i := 701) (by decide +kernel)) rfl
theorem tw_653 : Cond.fieldLink "TramGodModel" 25 "TramGodModel" "other" "[I" ∈ tg_tbl := mem_t (List.mem_of_getElem? (i := 702) (by decide +kernel)) rfl
theorem tw_654 : Cond.fieldLink "TramGodModel" 28 "TramGodModel" "nightsOf" "[I" ∈ tg_tbl := mem_t (List.mem_of_getElem? (i := 703) (by decide +kernel)) rfl
theorem tw_655 : Cond.fieldLink "TramGodModel" 73 "TramGodModel" "breaths" "I" ∈ tg_tbl := mem_t (List.mem_of_getElem? (i := 704) (by decide +kernel)) rfl
theorem tw_656 : Cond.fieldLink "TramGodModel" 76 "TramGodModel" "each" "I" ∈ tg_tbl := mem_t (List.mem_of_getElem? (i := 705) (by decide +kernel)) rfl
theorem tw_657 : Cond.fieldLink "TramGodModel" 31 "TramGodModel" "sightPerson" "[I" ∈ tg_tbl := mem_t (List.mem_of_getElem? (i := 706) (by decide +kernel)) rfl
theorem tw_658 : Cond.fieldLink "TramGodModel" 34 "TramGodModel" "sightRode" "[I" ∈ tg_tbl := mem_t (List.mem_of_getElem? (i := 707) (by decide +kernel)) rfl
theorem tw_659 : Cond.fieldLink "TramGodModel" 106 "TramGodModel" "sights" "I" ∈ tg_tbl := mem_t (List.mem_of_getElem? (i := 708) (by decide +kernel)) rfl
theorem tw_660 : Cond.fieldLink "TramGodModel" 37 "TramGodModel" "pad" "[I" ∈ tg_tbl := mem_t (List.mem_of_getElem? (i := 709) (by decide +kernel)) rfl
theorem tw_661 : Cond.fieldLink "TramGodModel" 95 "TramGodModel" "padMany" "I" ∈ tg_tbl := mem_t (List.mem_of_getElem? (i := 710) (by decide +kernel)) rfl
theorem tw_662 : Cond.fieldLink "TramGodModel" 40 "TramGodModel" "hold" "[I" ∈ tg_tbl := mem_t (List.mem_of_getElem? (i := 711) (by decide +kernel)) rfl
theorem tw_663 : Cond.fieldLink "TramGodModel" 43 "TramGodModel" "leaveAt" "[I" ∈ tg_tbl := mem_t (List.mem_of_getElem? (i := 712) (by decide +kernel)) rfl
theorem tw_664 : Cond.fieldLink "TramGodModel" 141 "TramGodModel" "badStop" "I" ∈ tg_tbl := mem_t (List.mem_of_getElem? (i := 713) (by decide +kernel)) rfl
theorem tw_665 : Cond.fieldLink "TramGodModel" 144 "TramGodModel" "badWhy" "I" ∈ tg_tbl := mem_t (List.mem_of_getElem? (i := 714) (by decide +kernel)) rfl
theorem tw_666 : Cond.fieldLink "TramGodModel" 46 "TramGodModel" "bestHold" "[I" ∈ tg_tbl := mem_t (List.mem_of_getElem? (i := 715) (by decide +kernel)) rfl
theorem tw_667 : Cond.fieldLink "TramGodModel" 49 "TramGodModel" "goodBy" "[I" ∈ tg_tbl := mem_t (List.mem_of_getElem? (i := 716) (by decide +kernel)) rfl
theorem tw_668 : Cond.fieldLink "TramGodModel" 52 "TramGodModel" "fromOn" "[I" ∈ tg_tbl := mem_t (List.mem_of_getElem? (i := 717) (by decide +kernel)) rfl
theorem tw_669 : Cond.fieldLink "TramGodModel" 56 "TramGodModel" "goodAt" "[I" ∈ tg_tbl := mem_t (List.mem_of_getElem? (i := 718) (by decide +kernel)) rfl
theorem tw_670 : Cond.fieldLink "TramGodModel" 59 "TramGodModel" "othersAt" "[I" ∈ tg_tbl := mem_t (List.mem_of_getElem? (i := 719) (by decide +kernel)) rfl
theorem tw_671 : Cond.fieldLink "TramGodModel" 201 "TramGodModel" "firstMove" "I" ∈ tg_tbl := mem_t (List.mem_of_getElem? (i := 720) (by decide +kernel)) rfl
theorem tw_672 : Cond.fieldLink "TramGodModel" 62 "TramGodModel" "kept" "[I" ∈ tg_tbl := mem_t (List.mem_of_getElem? (i := 721) (by decide +kernel)) rfl
theorem tw_673 : Cond.fieldLink "TramGodModel" 65 "TramGodModel" "isKept" "[Z" ∈ tg_tbl := mem_t (List.mem_of_getElem? (i := 722) (by decide +kernel)) rfl
theorem tw_674 : Cond.fieldLink "TramGodModel" 265 "TramGodModel" "keptAt" "I" ∈ tg_tbl := mem_t (List.mem_of_getElem? (i := 723) (by decide +kernel)) rfl
theorem tw_675 : Cond.fieldLink "TramGodModel" 261 "TramGodModel" "isWriting" "Z" ∈ tg_tbl := mem_t (List.mem_of_getElem? (i := 724) (by decide +kernel)) rfl
theorem tw_740 : Cond.methodLink "TramGodLaw" 17 yX7_say ∈ tg_tbl := mem_t (List.mem_of_getElem? (i := 789) (by decide +kernel)) rfl
theorem tw_741 : Cond.instanceMethod yX7_say ∈ tg_tbl := mem_t (List.mem_of_getElem? (i := 790) (by decide +kernel)) rfl
theorem tw_742 : Cond.selects "TramGodModel" yX7_say yX7_say ∈ tg_tbl := mem_t (List.mem_of_getElem? (i := 791) (by decide +kernel)) rfl
theorem tw_744 : Cond.constantLong "TramGodModel" 91 (33) ∈ tg_tbl := mem_t (List.mem_of_getElem? (i := 793) (by decide +kernel)) rfl
theorem tw_745 : Cond.constantLong "TramGodModel" 93 (126) ∈ tg_tbl := mem_t (List.mem_of_getElem? (i := 794) (by decide +kernel)) rfl
theorem tw_746 : Cond.methodLink "TramGodModel" 79 yX7_in ∈ tg_tbl := mem_t (List.mem_of_getElem? (i := 795) (by decide +kernel)) rfl
theorem tw_747 : Cond.static yX7_in ∈ tg_tbl := mem_t (List.mem_of_getElem? (i := 796) (by decide +kernel)) rfl
theorem tw_749 : Cond.methodLink "TramGodLaw" 22 yX7_wipe ∈ tg_tbl := mem_t (List.mem_of_getElem? (i := 798) (by decide +kernel)) rfl
theorem tw_750 : Cond.instanceMethod yX7_wipe ∈ tg_tbl := mem_t (List.mem_of_getElem? (i := 799) (by decide +kernel)) rfl
theorem tw_751 : Cond.selects "TramGodModel" yX7_wipe yX7_wipe ∈ tg_tbl := mem_t (List.mem_of_getElem? (i := 800) (by decide +kernel)) rfl
theorem tw_753 : Cond.methodLink "TramGodLaw" 26 yX7_fault ∈ tg_tbl := mem_t (List.mem_of_getElem? (i := 802) (by decide +kernel)) rfl
theorem tw_754 : Cond.instanceMethod yX7_fault ∈ tg_tbl := mem_t (List.mem_of_getElem? (i := 803) (by decide +kernel)) rfl
theorem tw_755 : Cond.selects "TramGodModel" yX7_fault yX7_fault ∈ tg_tbl := mem_t (List.mem_of_getElem? (i := 804) (by decide +kernel)) rfl
theorem tw_757 : Cond.methodLink "TramGodModel" 102 yX7_faultOfDigits ∈ tg_tbl := mem_t (List.mem_of_getElem? (i := 806) (by decide +kernel)) rfl
theorem tw_759 : Cond.instanceMethod yX7_faultOfDigits ∈ tg_tbl := mem_t (List.mem_of_getElem? (i := 808) (by decide +kernel)) rfl
theorem tw_761 : Cond.constantLong "TramGodModel" 98 (48) ∈ tg_tbl := mem_t (List.mem_of_getElem? (i := 810) (by decide +kernel)) rfl
theorem tw_762 : Cond.constantLong "TramGodModel" 100 (57) ∈ tg_tbl := mem_t (List.mem_of_getElem? (i := 811) (by decide +kernel)) rfl
theorem tw_763 : Cond.methodLink "TramGodLaw" 30 yX7_line ∈ tg_tbl := mem_t (List.mem_of_getElem? (i := 812) (by decide +kernel)) rfl
theorem tw_764 : Cond.instanceMethod yX7_line ∈ tg_tbl := mem_t (List.mem_of_getElem? (i := 813) (by decide +kernel)) rfl
theorem tw_765 : Cond.selects "TramGodModel" yX7_line yX7_line ∈ tg_tbl := mem_t (List.mem_of_getElem? (i := 814) (by decide +kernel)) rfl
theorem tw_767 : Cond.methodLink "TramGodLaw" 35 yX7_close ∈ tg_tbl := mem_t (List.mem_of_getElem? (i := 816) (by decide +kernel)) rfl
theorem tw_768 : Cond.instanceMethod yX7_close ∈ tg_tbl := mem_t (List.mem_of_getElem? (i := 817) (by decide +kernel)) rfl
theorem tw_769 : Cond.selects "TramGodModel" yX7_close yX7_close ∈ tg_tbl := mem_t (List.mem_of_getElem? (i := 818) (by decide +kernel)) rfl
theorem tw_771 : Cond.methodLink "TramGodModel" 109 yX7_isStop ∈ tg_tbl := mem_t (List.mem_of_getElem? (i := 820) (by decide +kernel)) rfl
theorem tw_773 : Cond.instanceMethod yX7_isStop ∈ tg_tbl := mem_t (List.mem_of_getElem? (i := 822) (by decide +kernel)) rfl
theorem tw_775 : Cond.methodLink "TramGodLaw" 40 yX7_person ∈ tg_tbl := mem_t (List.mem_of_getElem? (i := 824) (by decide +kernel)) rfl
theorem tw_776 : Cond.instanceMethod yX7_person ∈ tg_tbl := mem_t (List.mem_of_getElem? (i := 825) (by decide +kernel)) rfl
theorem tw_777 : Cond.selects "TramGodModel" yX7_person yX7_person ∈ tg_tbl := mem_t (List.mem_of_getElem? (i := 826) (by decide +kernel)) rfl
theorem tw_779 : Cond.constantLong "TramGodModel" 86 (7) ∈ tg_tbl := mem_t (List.mem_of_getElem? (i := 828) (by decide +kernel)) rfl
theorem tw_780 : Cond.constantLong "TramGodModel" 117 (99) ∈ tg_tbl := mem_t (List.mem_of_getElem? (i := 829) (by decide +kernel)) rfl
theorem tw_781 : Cond.methodLink "TramGodModel" 119 yX7_isGood ∈ tg_tbl := mem_t (List.mem_of_getElem? (i := 830) (by decide +kernel)) rfl
theorem tw_782 : Cond.static yX7_isGood ∈ tg_tbl := mem_t (List.mem_of_getElem? (i := 831) (by decide +kernel)) rfl
theorem tw_784 : Cond.constantLong "TramGodModel" 113 (-9) ∈ tg_tbl := mem_t (List.mem_of_getElem? (i := 833) (by decide +kernel)) rfl
theorem tw_785 : Cond.constantLong "TramGodModel" 115 (9) ∈ tg_tbl := mem_t (List.mem_of_getElem? (i := 834) (by decide +kernel)) rfl
theorem tw_786 : Cond.methodLink "TramGodModel" 122 yX7_ones ∈ tg_tbl := mem_t (List.mem_of_getElem? (i := 835) (by decide +kernel)) rfl
theorem tw_787 : Cond.static yX7_ones ∈ tg_tbl := mem_t (List.mem_of_getElem? (i := 836) (by decide +kernel)) rfl
theorem tw_789 : Cond.methodLink "TramGodLaw" 44 yX7_leave ∈ tg_tbl := mem_t (List.mem_of_getElem? (i := 838) (by decide +kernel)) rfl
theorem tw_790 : Cond.instanceMethod yX7_leave ∈ tg_tbl := mem_t (List.mem_of_getElem? (i := 839) (by decide +kernel)) rfl
theorem tw_791 : Cond.selects "TramGodModel" yX7_leave yX7_leave ∈ tg_tbl := mem_t (List.mem_of_getElem? (i := 840) (by decide +kernel)) rfl
theorem tw_793 : Cond.methodLink "TramGodModel" 126 yX7_isThere ∈ tg_tbl := mem_t (List.mem_of_getElem? (i := 842) (by decide +kernel)) rfl
theorem tw_795 : Cond.instanceMethod yX7_isThere ∈ tg_tbl := mem_t (List.mem_of_getElem? (i := 844) (by decide +kernel)) rfl
theorem tw_797 : Cond.methodLink "TramGodLaw" 49 yX7_nights ∈ tg_tbl := mem_t (List.mem_of_getElem? (i := 846) (by decide +kernel)) rfl
theorem tw_798 : Cond.instanceMethod yX7_nights ∈ tg_tbl := mem_t (List.mem_of_getElem? (i := 847) (by decide +kernel)) rfl
theorem tw_799 : Cond.selects "TramGodModel" yX7_nights yX7_nights ∈ tg_tbl := mem_t (List.mem_of_getElem? (i := 848) (by decide +kernel)) rfl
theorem tw_801 : Cond.constantLong "TramGodModel" 129 (127) ∈ tg_tbl := mem_t (List.mem_of_getElem? (i := 850) (by decide +kernel)) rfl
theorem tw_802 : Cond.methodLink "TramGodLaw" 53 yX7_set ∈ tg_tbl := mem_t (List.mem_of_getElem? (i := 851) (by decide +kernel)) rfl
theorem tw_803 : Cond.instanceMethod yX7_set ∈ tg_tbl := mem_t (List.mem_of_getElem? (i := 852) (by decide +kernel)) rfl
theorem tw_804 : Cond.selects "TramGodModel" yX7_set yX7_set ∈ tg_tbl := mem_t (List.mem_of_getElem? (i := 853) (by decide +kernel)) rfl
theorem tw_806 : Cond.methodLink "TramGodLaw" 57 yX7_judge ∈ tg_tbl := mem_t (List.mem_of_getElem? (i := 855) (by decide +kernel)) rfl
theorem tw_807 : Cond.instanceMethod yX7_judge ∈ tg_tbl := mem_t (List.mem_of_getElem? (i := 856) (by decide +kernel)) rfl
theorem tw_808 : Cond.selects "TramGodModel" yX7_judge yX7_judge ∈ tg_tbl := mem_t (List.mem_of_getElem? (i := 857) (by decide +kernel)) rfl
theorem tw_810 : Cond.methodLink "TramGodModel" 147 yX7_fault ∈ tg_tbl := mem_t (List.mem_of_getElem? (i := 859) (by decide +kernel)) rfl
theorem tw_811 : Cond.methodLink "TramGodModel" 150 yX7_judgeHold ∈ tg_tbl := mem_t (List.mem_of_getElem? (i := 860) (by decide +kernel)) rfl
theorem tw_813 : Cond.instanceMethod yX7_judgeHold ∈ tg_tbl := mem_t (List.mem_of_getElem? (i := 862) (by decide +kernel)) rfl
theorem tw_815 : Cond.methodLink "TramGodModel" 131 yX7_isOpen ∈ tg_tbl := mem_t (List.mem_of_getElem? (i := 864) (by decide +kernel)) rfl
theorem tw_817 : Cond.instanceMethod yX7_isOpen ∈ tg_tbl := mem_t (List.mem_of_getElem? (i := 866) (by decide +kernel)) rfl
theorem tw_819 : Cond.methodLink "TramGodLaw" 61 yX7_riders ∈ tg_tbl := mem_t (List.mem_of_getElem? (i := 868) (by decide +kernel)) rfl
theorem tw_820 : Cond.instanceMethod yX7_riders ∈ tg_tbl := mem_t (List.mem_of_getElem? (i := 869) (by decide +kernel)) rfl
theorem tw_821 : Cond.selects "TramGodModel" yX7_riders yX7_riders ∈ tg_tbl := mem_t (List.mem_of_getElem? (i := 870) (by decide +kernel)) rfl
theorem tw_823 : Cond.methodLink "TramGodModel" 153 yX7_isRefused ∈ tg_tbl := mem_t (List.mem_of_getElem? (i := 872) (by decide +kernel)) rfl
theorem tw_825 : Cond.instanceMethod yX7_isRefused ∈ tg_tbl := mem_t (List.mem_of_getElem? (i := 874) (by decide +kernel)) rfl
theorem tw_827 : Cond.methodLink "TramGodModel" 157 yX7_ridersNow ∈ tg_tbl := mem_t (List.mem_of_getElem? (i := 876) (by decide +kernel)) rfl
theorem tw_829 : Cond.instanceMethod yX7_ridersNow ∈ tg_tbl := mem_t (List.mem_of_getElem? (i := 878) (by decide +kernel)) rfl
theorem tw_831 : Cond.methodLink "TramGodModel" 134 yX7_findLeaves ∈ tg_tbl := mem_t (List.mem_of_getElem? (i := 880) (by decide +kernel)) rfl
theorem tw_833 : Cond.instanceMethod yX7_findLeaves ∈ tg_tbl := mem_t (List.mem_of_getElem? (i := 882) (by decide +kernel)) rfl
theorem tw_835 : Cond.methodLink "TramGodModel" 137 yX7_rides ∈ tg_tbl := mem_t (List.mem_of_getElem? (i := 884) (by decide +kernel)) rfl
theorem tw_837 : Cond.instanceMethod yX7_rides ∈ tg_tbl := mem_t (List.mem_of_getElem? (i := 886) (by decide +kernel)) rfl
theorem tw_839 : Cond.methodLink "TramGodLaw" 65 yX7_good ∈ tg_tbl := mem_t (List.mem_of_getElem? (i := 888) (by decide +kernel)) rfl
theorem tw_840 : Cond.instanceMethod yX7_good ∈ tg_tbl := mem_t (List.mem_of_getElem? (i := 889) (by decide +kernel)) rfl
theorem tw_841 : Cond.selects "TramGodModel" yX7_good yX7_good ∈ tg_tbl := mem_t (List.mem_of_getElem? (i := 890) (by decide +kernel)) rfl
theorem tw_843 : Cond.methodLink "TramGodModel" 161 yX7_goodOf ∈ tg_tbl := mem_t (List.mem_of_getElem? (i := 892) (by decide +kernel)) rfl
theorem tw_845 : Cond.instanceMethod yX7_goodOf ∈ tg_tbl := mem_t (List.mem_of_getElem? (i := 894) (by decide +kernel)) rfl
theorem tw_847 : Cond.methodLink "TramGodModel" 164 yX7_othersOf ∈ tg_tbl := mem_t (List.mem_of_getElem? (i := 896) (by decide +kernel)) rfl
theorem tw_849 : Cond.instanceMethod yX7_othersOf ∈ tg_tbl := mem_t (List.mem_of_getElem? (i := 898) (by decide +kernel)) rfl
theorem tw_851 : Cond.methodLink "TramGodLaw" 69 yX7_leaves ∈ tg_tbl := mem_t (List.mem_of_getElem? (i := 900) (by decide +kernel)) rfl
theorem tw_852 : Cond.instanceMethod yX7_leaves ∈ tg_tbl := mem_t (List.mem_of_getElem? (i := 901) (by decide +kernel)) rfl
theorem tw_853 : Cond.selects "TramGodModel" yX7_leaves yX7_leaves ∈ tg_tbl := mem_t (List.mem_of_getElem? (i := 902) (by decide +kernel)) rfl
theorem tw_855 : Cond.methodLink "TramGodLaw" 73 yX7_vain ∈ tg_tbl := mem_t (List.mem_of_getElem? (i := 904) (by decide +kernel)) rfl
theorem tw_856 : Cond.instanceMethod yX7_vain ∈ tg_tbl := mem_t (List.mem_of_getElem? (i := 905) (by decide +kernel)) rfl
theorem tw_857 : Cond.selects "TramGodModel" yX7_vain yX7_vain ∈ tg_tbl := mem_t (List.mem_of_getElem? (i := 906) (by decide +kernel)) rfl
theorem tw_859 : Cond.methodLink "TramGodLaw" 77 yX7_best ∈ tg_tbl := mem_t (List.mem_of_getElem? (i := 908) (by decide +kernel)) rfl
theorem tw_860 : Cond.instanceMethod yX7_best ∈ tg_tbl := mem_t (List.mem_of_getElem? (i := 909) (by decide +kernel)) rfl
theorem tw_861 : Cond.selects "TramGodModel" yX7_best yX7_best ∈ tg_tbl := mem_t (List.mem_of_getElem? (i := 910) (by decide +kernel)) rfl
theorem tw_863 : Cond.methodLink "TramGodModel" 180 yX7_bestBy ∈ tg_tbl := mem_t (List.mem_of_getElem? (i := 912) (by decide +kernel)) rfl
theorem tw_865 : Cond.instanceMethod yX7_bestBy ∈ tg_tbl := mem_t (List.mem_of_getElem? (i := 914) (by decide +kernel)) rfl
theorem tw_867 : Cond.methodLink "TramGodModel" 170 yX7_noHold ∈ tg_tbl := mem_t (List.mem_of_getElem? (i := 916) (by decide +kernel)) rfl
theorem tw_869 : Cond.instanceMethod yX7_noHold ∈ tg_tbl := mem_t (List.mem_of_getElem? (i := 918) (by decide +kernel)) rfl
theorem tw_871 : Cond.constant "TramGodModel" 173 (-1000000) ∈ tg_tbl := mem_t (List.mem_of_getElem? (i := 920) (by decide +kernel)) rfl
theorem tw_872 : Cond.methodLink "TramGodModel" 174 yX7_keepHold ∈ tg_tbl := mem_t (List.mem_of_getElem? (i := 921) (by decide +kernel)) rfl
theorem tw_874 : Cond.instanceMethod yX7_keepHold ∈ tg_tbl := mem_t (List.mem_of_getElem? (i := 923) (by decide +kernel)) rfl
theorem tw_876 : Cond.methodLink "TramGodModel" 177 yX7_nextHold ∈ tg_tbl := mem_t (List.mem_of_getElem? (i := 925) (by decide +kernel)) rfl
theorem tw_878 : Cond.instanceMethod yX7_nextHold ∈ tg_tbl := mem_t (List.mem_of_getElem? (i := 927) (by decide +kernel)) rfl
theorem tw_880 : Cond.methodLink "TramGodModel" 167 yX7_heldIn ∈ tg_tbl := mem_t (List.mem_of_getElem? (i := 929) (by decide +kernel)) rfl
theorem tw_882 : Cond.instanceMethod yX7_heldIn ∈ tg_tbl := mem_t (List.mem_of_getElem? (i := 931) (by decide +kernel)) rfl
theorem tw_884 : Cond.methodLink "TramGodLaw" 81 yX7_worth ∈ tg_tbl := mem_t (List.mem_of_getElem? (i := 933) (by decide +kernel)) rfl
theorem tw_885 : Cond.instanceMethod yX7_worth ∈ tg_tbl := mem_t (List.mem_of_getElem? (i := 934) (by decide +kernel)) rfl
theorem tw_886 : Cond.selects "TramGodModel" yX7_worth yX7_worth ∈ tg_tbl := mem_t (List.mem_of_getElem? (i := 935) (by decide +kernel)) rfl
theorem tw_888 : Cond.methodLink "TramGodLaw" 86 yX7_meant ∈ tg_tbl := mem_t (List.mem_of_getElem? (i := 937) (by decide +kernel)) rfl
theorem tw_889 : Cond.instanceMethod yX7_meant ∈ tg_tbl := mem_t (List.mem_of_getElem? (i := 938) (by decide +kernel)) rfl
theorem tw_890 : Cond.selects "TramGodModel" yX7_meant yX7_meant ∈ tg_tbl := mem_t (List.mem_of_getElem? (i := 939) (by decide +kernel)) rfl
theorem tw_892 : Cond.methodLink "TramGodModel" 185 yX7_areSets ∈ tg_tbl := mem_t (List.mem_of_getElem? (i := 941) (by decide +kernel)) rfl
theorem tw_894 : Cond.instanceMethod yX7_areSets ∈ tg_tbl := mem_t (List.mem_of_getElem? (i := 943) (by decide +kernel)) rfl
theorem tw_896 : Cond.constantLong "TramGodModel" 183 (255) ∈ tg_tbl := mem_t (List.mem_of_getElem? (i := 945) (by decide +kernel)) rfl
theorem tw_897 : Cond.methodLink "TramGodModel" 188 yX7_fewestFor ∈ tg_tbl := mem_t (List.mem_of_getElem? (i := 946) (by decide +kernel)) rfl
theorem tw_899 : Cond.instanceMethod yX7_fewestFor ∈ tg_tbl := mem_t (List.mem_of_getElem? (i := 948) (by decide +kernel)) rfl
theorem tw_901 : Cond.methodLink "TramGodLaw" 90 yX7_bars ∈ tg_tbl := mem_t (List.mem_of_getElem? (i := 950) (by decide +kernel)) rfl
theorem tw_902 : Cond.instanceMethod yX7_bars ∈ tg_tbl := mem_t (List.mem_of_getElem? (i := 951) (by decide +kernel)) rfl
theorem tw_903 : Cond.selects "TramGodModel" yX7_bars yX7_bars ∈ tg_tbl := mem_t (List.mem_of_getElem? (i := 952) (by decide +kernel)) rfl
theorem tw_905 : Cond.methodLink "TramGodLaw" 94 yX7_fund ∈ tg_tbl := mem_t (List.mem_of_getElem? (i := 954) (by decide +kernel)) rfl
theorem tw_906 : Cond.instanceMethod yX7_fund ∈ tg_tbl := mem_t (List.mem_of_getElem? (i := 955) (by decide +kernel)) rfl
theorem tw_907 : Cond.selects "TramGodModel" yX7_fund yX7_fund ∈ tg_tbl := mem_t (List.mem_of_getElem? (i := 956) (by decide +kernel)) rfl
theorem tw_909 : Cond.constantLong "TramGodModel" 191 (40) ∈ tg_tbl := mem_t (List.mem_of_getElem? (i := 958) (by decide +kernel)) rfl
theorem tw_910 : Cond.constantLong "TramGodModel" 193 (-1) ∈ tg_tbl := mem_t (List.mem_of_getElem? (i := 959) (by decide +kernel)) rfl
theorem tw_911 : Cond.methodLink "TramGodModel" 195 yX7_comingIn ∈ tg_tbl := mem_t (List.mem_of_getElem? (i := 960) (by decide +kernel)) rfl
theorem tw_913 : Cond.instanceMethod yX7_comingIn ∈ tg_tbl := mem_t (List.mem_of_getElem? (i := 962) (by decide +kernel)) rfl
theorem tw_915 : Cond.methodLink "TramGodLaw" 98 yX7_rival ∈ tg_tbl := mem_t (List.mem_of_getElem? (i := 964) (by decide +kernel)) rfl
theorem tw_916 : Cond.instanceMethod yX7_rival ∈ tg_tbl := mem_t (List.mem_of_getElem? (i := 965) (by decide +kernel)) rfl
theorem tw_917 : Cond.selects "TramGodModel" yX7_rival yX7_rival ∈ tg_tbl := mem_t (List.mem_of_getElem? (i := 966) (by decide +kernel)) rfl
theorem tw_919 : Cond.constantLong "TramGodModel" 214 (2) ∈ tg_tbl := mem_t (List.mem_of_getElem? (i := 968) (by decide +kernel)) rfl
theorem tw_920 : Cond.methodLink "TramGodModel" 204 yX7_power ∈ tg_tbl := mem_t (List.mem_of_getElem? (i := 969) (by decide +kernel)) rfl
theorem tw_921 : Cond.static yX7_power ∈ tg_tbl := mem_t (List.mem_of_getElem? (i := 970) (by decide +kernel)) rfl
theorem tw_923 : Cond.methodLink "TramGodModel" 216 yX7_layNumber ∈ tg_tbl := mem_t (List.mem_of_getElem? (i := 972) (by decide +kernel)) rfl
theorem tw_925 : Cond.instanceMethod yX7_layNumber ∈ tg_tbl := mem_t (List.mem_of_getElem? (i := 974) (by decide +kernel)) rfl
theorem tw_927 : Cond.methodLink "TramGodModel" 219 yX7_settle ∈ tg_tbl := mem_t (List.mem_of_getElem? (i := 976) (by decide +kernel)) rfl
theorem tw_929 : Cond.instanceMethod yX7_settle ∈ tg_tbl := mem_t (List.mem_of_getElem? (i := 978) (by decide +kernel)) rfl
theorem tw_931 : Cond.methodLink "TramGodModel" 207 yX7_canHoldAny ∈ tg_tbl := mem_t (List.mem_of_getElem? (i := 980) (by decide +kernel)) rfl
theorem tw_933 : Cond.instanceMethod yX7_canHoldAny ∈ tg_tbl := mem_t (List.mem_of_getElem? (i := 982) (by decide +kernel)) rfl
theorem tw_935 : Cond.methodLink "TramGodModel" 198 yX7_canHold ∈ tg_tbl := mem_t (List.mem_of_getElem? (i := 984) (by decide +kernel)) rfl
theorem tw_937 : Cond.instanceMethod yX7_canHold ∈ tg_tbl := mem_t (List.mem_of_getElem? (i := 986) (by decide +kernel)) rfl
theorem tw_939 : Cond.methodLink "TramGodModel" 210 yX7_choose ∈ tg_tbl := mem_t (List.mem_of_getElem? (i := 988) (by decide +kernel)) rfl
theorem tw_941 : Cond.instanceMethod yX7_choose ∈ tg_tbl := mem_t (List.mem_of_getElem? (i := 990) (by decide +kernel)) rfl
theorem tw_943 : Cond.methodLink "TramGodLaw" 102 yX7_closing ∈ tg_tbl := mem_t (List.mem_of_getElem? (i := 992) (by decide +kernel)) rfl
theorem tw_944 : Cond.instanceMethod yX7_closing ∈ tg_tbl := mem_t (List.mem_of_getElem? (i := 993) (by decide +kernel)) rfl
theorem tw_945 : Cond.selects "TramGodModel" yX7_closing yX7_closing ∈ tg_tbl := mem_t (List.mem_of_getElem? (i := 994) (by decide +kernel)) rfl
theorem tw_947 : Cond.constantLong "TramGodModel" 223 (6) ∈ tg_tbl := mem_t (List.mem_of_getElem? (i := 996) (by decide +kernel)) rfl
theorem tw_948 : Cond.methodLink "TramGodLaw" 106 yX7_seen ∈ tg_tbl := mem_t (List.mem_of_getElem? (i := 997) (by decide +kernel)) rfl
theorem tw_949 : Cond.instanceMethod yX7_seen ∈ tg_tbl := mem_t (List.mem_of_getElem? (i := 998) (by decide +kernel)) rfl
theorem tw_950 : Cond.selects "TramGodModel" yX7_seen yX7_seen ∈ tg_tbl := mem_t (List.mem_of_getElem? (i := 999) (by decide +kernel)) rfl
theorem tw_952 : Cond.methodLink "TramGodLaw" 110 yX7_forget ∈ tg_tbl := mem_t (List.mem_of_getElem? (i := 1001) (by decide +kernel)) rfl
theorem tw_953 : Cond.instanceMethod yX7_forget ∈ tg_tbl := mem_t (List.mem_of_getElem? (i := 1002) (by decide +kernel)) rfl
theorem tw_954 : Cond.selects "TramGodModel" yX7_forget yX7_forget ∈ tg_tbl := mem_t (List.mem_of_getElem? (i := 1003) (by decide +kernel)) rfl
theorem tw_956 : Cond.methodLink "TramGodLaw" 114 yX7_held ∈ tg_tbl := mem_t (List.mem_of_getElem? (i := 1005) (by decide +kernel)) rfl
theorem tw_957 : Cond.instanceMethod yX7_held ∈ tg_tbl := mem_t (List.mem_of_getElem? (i := 1006) (by decide +kernel)) rfl
theorem tw_958 : Cond.selects "TramGodModel" yX7_held yX7_held ∈ tg_tbl := mem_t (List.mem_of_getElem? (i := 1007) (by decide +kernel)) rfl
theorem tw_960 : Cond.constant "TramGodModel" 225 (1000000) ∈ tg_tbl := mem_t (List.mem_of_getElem? (i := 1009) (by decide +kernel)) rfl
theorem tw_961 : Cond.methodLink "TramGodModel" 226 yX7_isSeenSo ∈ tg_tbl := mem_t (List.mem_of_getElem? (i := 1010) (by decide +kernel)) rfl
theorem tw_963 : Cond.instanceMethod yX7_isSeenSo ∈ tg_tbl := mem_t (List.mem_of_getElem? (i := 1012) (by decide +kernel)) rfl
theorem tw_965 : Cond.methodLink "TramGodLaw" 119 yX7_runs ∈ tg_tbl := mem_t (List.mem_of_getElem? (i := 1014) (by decide +kernel)) rfl
theorem tw_966 : Cond.instanceMethod yX7_runs ∈ tg_tbl := mem_t (List.mem_of_getElem? (i := 1015) (by decide +kernel)) rfl
theorem tw_967 : Cond.selects "TramGodModel" yX7_runs yX7_runs ∈ tg_tbl := mem_t (List.mem_of_getElem? (i := 1016) (by decide +kernel)) rfl
theorem tw_969 : Cond.constantLong "TramGodModel" 233 (-1000000000000000001) ∈ tg_tbl := mem_t (List.mem_of_getElem? (i := 1018) (by decide +kernel)) rfl
theorem tw_970 : Cond.methodLink "TramGodModel" 235 yX7_isRunning ∈ tg_tbl := mem_t (List.mem_of_getElem? (i := 1019) (by decide +kernel)) rfl
theorem tw_971 : Cond.static yX7_isRunning ∈ tg_tbl := mem_t (List.mem_of_getElem? (i := 1020) (by decide +kernel)) rfl
theorem tw_973 : Cond.constantLong "TramGodModel" 229 (20) ∈ tg_tbl := mem_t (List.mem_of_getElem? (i := 1022) (by decide +kernel)) rfl
theorem tw_974 : Cond.constantLong "TramGodModel" 231 (10) ∈ tg_tbl := mem_t (List.mem_of_getElem? (i := 1023) (by decide +kernel)) rfl
theorem tw_975 : Cond.constantLong "TramGodModel" 238 (-1000000000000000002) ∈ tg_tbl := mem_t (List.mem_of_getElem? (i := 1024) (by decide +kernel)) rfl
theorem tw_976 : Cond.constantLong "TramGodModel" 240 (-1000000000000000005) ∈ tg_tbl := mem_t (List.mem_of_getElem? (i := 1025) (by decide +kernel)) rfl
theorem tw_977 : Cond.methodLink "TramGodModel" 242 yX7_tenthsOf ∈ tg_tbl := mem_t (List.mem_of_getElem? (i := 1026) (by decide +kernel)) rfl
theorem tw_979 : Cond.instanceMethod yX7_tenthsOf ∈ tg_tbl := mem_t (List.mem_of_getElem? (i := 1028) (by decide +kernel)) rfl
theorem tw_981 : Cond.methodLink "TramGodModel" 246 yX7_lowest ∈ tg_tbl := mem_t (List.mem_of_getElem? (i := 1030) (by decide +kernel)) rfl
theorem tw_982 : Cond.static yX7_lowest ∈ tg_tbl := mem_t (List.mem_of_getElem? (i := 1031) (by decide +kernel)) rfl
theorem tw_984 : Cond.methodLink "TramGodLaw" 124 yX7_mean ∈ tg_tbl := mem_t (List.mem_of_getElem? (i := 1033) (by decide +kernel)) rfl
theorem tw_985 : Cond.instanceMethod yX7_mean ∈ tg_tbl := mem_t (List.mem_of_getElem? (i := 1034) (by decide +kernel)) rfl
theorem tw_986 : Cond.selects "TramGodModel" yX7_mean yX7_mean ∈ tg_tbl := mem_t (List.mem_of_getElem? (i := 1035) (by decide +kernel)) rfl
theorem tw_988 : Cond.methodLink "TramGodLaw" 129 yX7_waits ∈ tg_tbl := mem_t (List.mem_of_getElem? (i := 1037) (by decide +kernel)) rfl
theorem tw_989 : Cond.instanceMethod yX7_waits ∈ tg_tbl := mem_t (List.mem_of_getElem? (i := 1038) (by decide +kernel)) rfl
theorem tw_990 : Cond.selects "TramGodModel" yX7_waits yX7_waits ∈ tg_tbl := mem_t (List.mem_of_getElem? (i := 1039) (by decide +kernel)) rfl
theorem tw_992 : Cond.constantLong "TramGodModel" 250 (100) ∈ tg_tbl := mem_t (List.mem_of_getElem? (i := 1041) (by decide +kernel)) rfl
theorem tw_993 : Cond.methodLink "TramGodLaw" 133 yX7_year ∈ tg_tbl := mem_t (List.mem_of_getElem? (i := 1042) (by decide +kernel)) rfl
theorem tw_994 : Cond.instanceMethod yX7_year ∈ tg_tbl := mem_t (List.mem_of_getElem? (i := 1043) (by decide +kernel)) rfl
theorem tw_995 : Cond.selects "TramGodModel" yX7_year yX7_year ∈ tg_tbl := mem_t (List.mem_of_getElem? (i := 1044) (by decide +kernel)) rfl
theorem tw_997 : Cond.constantLong "TramGodModel" 252 (9999) ∈ tg_tbl := mem_t (List.mem_of_getElem? (i := 1046) (by decide +kernel)) rfl
theorem tw_998 : Cond.constant "TramGodModel" 254 (100000) ∈ tg_tbl := mem_t (List.mem_of_getElem? (i := 1047) (by decide +kernel)) rfl
theorem tw_999 : Cond.constantLong "TramGodModel" 255 (75) ∈ tg_tbl := mem_t (List.mem_of_getElem? (i := 1048) (by decide +kernel)) rfl
theorem tw_1000 : Cond.constantLong "TramGodModel" 257 (74) ∈ tg_tbl := mem_t (List.mem_of_getElem? (i := 1049) (by decide +kernel)) rfl
theorem tw_1001 : Cond.constantLong "TramGodModel" 259 (65537) ∈ tg_tbl := mem_t (List.mem_of_getElem? (i := 1050) (by decide +kernel)) rfl
theorem tw_1002 : Cond.methodLink "TramGodLaw" 137 yX7_image ∈ tg_tbl := mem_t (List.mem_of_getElem? (i := 1051) (by decide +kernel)) rfl
theorem tw_1003 : Cond.instanceMethod yX7_image ∈ tg_tbl := mem_t (List.mem_of_getElem? (i := 1052) (by decide +kernel)) rfl
theorem tw_1004 : Cond.selects "TramGodModel" yX7_image yX7_image ∈ tg_tbl := mem_t (List.mem_of_getElem? (i := 1053) (by decide +kernel)) rfl
theorem tw_1006 : Cond.methodLink "TramGodModel" 271 yX7_passAll ∈ tg_tbl := mem_t (List.mem_of_getElem? (i := 1055) (by decide +kernel)) rfl
theorem tw_1008 : Cond.instanceMethod yX7_passAll ∈ tg_tbl := mem_t (List.mem_of_getElem? (i := 1057) (by decide +kernel)) rfl
theorem tw_1010 : Cond.methodLink "TramGodModel" 268 yX7_pass ∈ tg_tbl := mem_t (List.mem_of_getElem? (i := 1059) (by decide +kernel)) rfl
theorem tw_1012 : Cond.instanceMethod yX7_pass ∈ tg_tbl := mem_t (List.mem_of_getElem? (i := 1061) (by decide +kernel)) rfl
theorem tw_1014 : Cond.methodLink "TramGodLaw" 141 yX7_restore ∈ tg_tbl := mem_t (List.mem_of_getElem? (i := 1063) (by decide +kernel)) rfl
theorem tw_1015 : Cond.instanceMethod yX7_restore ∈ tg_tbl := mem_t (List.mem_of_getElem? (i := 1064) (by decide +kernel)) rfl
theorem tw_1016 : Cond.selects "TramGodModel" yX7_restore yX7_restore ∈ tg_tbl := mem_t (List.mem_of_getElem? (i := 1065) (by decide +kernel)) rfl
theorem tw_1018 : Cond.methodLink "TramGodLaw" 145 yX7_told ∈ tg_tbl := mem_t (List.mem_of_getElem? (i := 1067) (by decide +kernel)) rfl
theorem tw_1019 : Cond.instanceMethod yX7_told ∈ tg_tbl := mem_t (List.mem_of_getElem? (i := 1068) (by decide +kernel)) rfl
theorem tw_1020 : Cond.selects "TramGodModel" yX7_told yX7_told ∈ tg_tbl := mem_t (List.mem_of_getElem? (i := 1069) (by decide +kernel)) rfl
theorem tw_1022 : Cond.methodLink "TramGodModel" 274 yX7_toldOf ∈ tg_tbl := mem_t (List.mem_of_getElem? (i := 1071) (by decide +kernel)) rfl
theorem tw_1024 : Cond.instanceMethod yX7_toldOf ∈ tg_tbl := mem_t (List.mem_of_getElem? (i := 1073) (by decide +kernel)) rfl
theorem ts_0 : Cond.selects "TramGod" yX6_readHold yX6_readHold ∈ tg_tbl := mem_t (List.mem_of_getElem? (i := 0) (by decide +kernel)) rfl
theorem ts_1 : Cond.selects "TramGod" yX6_stopOverEach yX6_stopOverEach ∈ tg_tbl := mem_t (List.mem_of_getElem? (i := 1) (by decide +kernel)) rfl
theorem ts_2 : Cond.selects "TramGod" yX6_stopOverBreaths yX6_stopOverBreaths ∈ tg_tbl := mem_t (List.mem_of_getElem? (i := 2) (by decide +kernel)) rfl
theorem ts_3 : Cond.selects "TramGod" yX6_readGoodHold yX6_readGoodHold ∈ tg_tbl := mem_t (List.mem_of_getElem? (i := 3) (by decide +kernel)) rfl
theorem ts_4 : Cond.selects "TramGod" yX6_addDelays yX6_addDelays ∈ tg_tbl := mem_t (List.mem_of_getElem? (i := 4) (by decide +kernel)) rfl
theorem ts_5 : Cond.selects "TramGod" yX6_ridersWithout yX6_ridersWithout ∈ tg_tbl := mem_t (List.mem_of_getElem? (i := 5) (by decide +kernel)) rfl
theorem ts_6 : Cond.selects "TramGod" yX6_isStopOrAll yX6_isStopOrAll ∈ tg_tbl := mem_t (List.mem_of_getElem? (i := 6) (by decide +kernel)) rfl
theorem ts_7 : Cond.selects "TramGod" yX6_mostGood yX6_mostGood ∈ tg_tbl := mem_t (List.mem_of_getElem? (i := 7) (by decide +kernel)) rfl
theorem ts_8 : Cond.selects "TramGod$Planner" yX2_clearGain yX2_clearGain ∈ tg_tbl := mem_t (List.mem_of_getElem? (i := 8) (by decide +kernel)) rfl
theorem ts_9 : Cond.selects "TramGod$Planner" yX2_startRow yX2_startRow ∈ tg_tbl := mem_t (List.mem_of_getElem? (i := 9) (by decide +kernel)) rfl
theorem ts_10 : Cond.selects "TramGod$Planner" yX2_choose yX2_choose ∈ tg_tbl := mem_t (List.mem_of_getElem? (i := 10) (by decide +kernel)) rfl
theorem ts_11 : Cond.selects "TramGod" yX6_areSets yX6_areSets ∈ tg_tbl := mem_t (List.mem_of_getElem? (i := 11) (by decide +kernel)) rfl
theorem ts_12 : Cond.selects "TramGod" yX6_fewestBreaths yX6_fewestBreaths ∈ tg_tbl := mem_t (List.mem_of_getElem? (i := 12) (by decide +kernel)) rfl
theorem ts_13 : Cond.selects "TramGod$Purse" yX3_fewestOfBest yX3_fewestOfBest ∈ tg_tbl := mem_t (List.mem_of_getElem? (i := 13) (by decide +kernel)) rfl
theorem ts_14 : Cond.selects "TramGod$Purse" yX3_scoreOf yX3_scoreOf ∈ tg_tbl := mem_t (List.mem_of_getElem? (i := 14) (by decide +kernel)) rfl
theorem ts_15 : Cond.selects "TramGod$Duel" yX0_findNext yX0_findNext ∈ tg_tbl := mem_t (List.mem_of_getElem? (i := 15) (by decide +kernel)) rfl
theorem ts_16 : Cond.selects "TramGod$Duel" yX0_settle yX0_settle ∈ tg_tbl := mem_t (List.mem_of_getElem? (i := 16) (by decide +kernel)) rfl
theorem ts_17 : Cond.selects "TramGod$Duel" yX0_findMove yX0_findMove ∈ tg_tbl := mem_t (List.mem_of_getElem? (i := 17) (by decide +kernel)) rfl
theorem ts_18 : Cond.selects "TramGod$Duel" yX0_stepDown yX0_stepDown ∈ tg_tbl := mem_t (List.mem_of_getElem? (i := 18) (by decide +kernel)) rfl
theorem ts_19 : Cond.selects "TramGod" yX6_clearDelays yX6_clearDelays ∈ tg_tbl := mem_t (List.mem_of_getElem? (i := 19) (by decide +kernel)) rfl
theorem ts_20 : Cond.selects "TramGodModel" yX7_faultOfDigits yX7_faultOfDigits ∈ tg_tbl := mem_t (List.mem_of_getElem? (i := 20) (by decide +kernel)) rfl
theorem ts_21 : Cond.selects "TramGodModel" yX7_isStop yX7_isStop ∈ tg_tbl := mem_t (List.mem_of_getElem? (i := 21) (by decide +kernel)) rfl
theorem ts_22 : Cond.selects "TramGodModel" yX7_isThere yX7_isThere ∈ tg_tbl := mem_t (List.mem_of_getElem? (i := 22) (by decide +kernel)) rfl
theorem ts_23 : Cond.selects "TramGodModel" yX7_judgeHold yX7_judgeHold ∈ tg_tbl := mem_t (List.mem_of_getElem? (i := 23) (by decide +kernel)) rfl
theorem ts_24 : Cond.selects "TramGodModel" yX7_isOpen yX7_isOpen ∈ tg_tbl := mem_t (List.mem_of_getElem? (i := 24) (by decide +kernel)) rfl
theorem ts_25 : Cond.selects "TramGodModel" yX7_isRefused yX7_isRefused ∈ tg_tbl := mem_t (List.mem_of_getElem? (i := 25) (by decide +kernel)) rfl
theorem ts_26 : Cond.selects "TramGodModel" yX7_ridersNow yX7_ridersNow ∈ tg_tbl := mem_t (List.mem_of_getElem? (i := 26) (by decide +kernel)) rfl
theorem ts_27 : Cond.selects "TramGodModel" yX7_findLeaves yX7_findLeaves ∈ tg_tbl := mem_t (List.mem_of_getElem? (i := 27) (by decide +kernel)) rfl
theorem ts_28 : Cond.selects "TramGodModel" yX7_rides yX7_rides ∈ tg_tbl := mem_t (List.mem_of_getElem? (i := 28) (by decide +kernel)) rfl
theorem ts_29 : Cond.selects "TramGodModel" yX7_goodOf yX7_goodOf ∈ tg_tbl := mem_t (List.mem_of_getElem? (i := 29) (by decide +kernel)) rfl
theorem ts_30 : Cond.selects "TramGodModel" yX7_othersOf yX7_othersOf ∈ tg_tbl := mem_t (List.mem_of_getElem? (i := 30) (by decide +kernel)) rfl
theorem ts_31 : Cond.selects "TramGodModel" yX7_bestBy yX7_bestBy ∈ tg_tbl := mem_t (List.mem_of_getElem? (i := 31) (by decide +kernel)) rfl
theorem ts_32 : Cond.selects "TramGodModel" yX7_noHold yX7_noHold ∈ tg_tbl := mem_t (List.mem_of_getElem? (i := 32) (by decide +kernel)) rfl
theorem ts_33 : Cond.selects "TramGodModel" yX7_keepHold yX7_keepHold ∈ tg_tbl := mem_t (List.mem_of_getElem? (i := 33) (by decide +kernel)) rfl
theorem ts_34 : Cond.selects "TramGodModel" yX7_nextHold yX7_nextHold ∈ tg_tbl := mem_t (List.mem_of_getElem? (i := 34) (by decide +kernel)) rfl
theorem ts_35 : Cond.selects "TramGodModel" yX7_heldIn yX7_heldIn ∈ tg_tbl := mem_t (List.mem_of_getElem? (i := 35) (by decide +kernel)) rfl
theorem ts_36 : Cond.selects "TramGodModel" yX7_areSets yX7_areSets ∈ tg_tbl := mem_t (List.mem_of_getElem? (i := 36) (by decide +kernel)) rfl
theorem ts_37 : Cond.selects "TramGodModel" yX7_fewestFor yX7_fewestFor ∈ tg_tbl := mem_t (List.mem_of_getElem? (i := 37) (by decide +kernel)) rfl
theorem ts_38 : Cond.selects "TramGodModel" yX7_comingIn yX7_comingIn ∈ tg_tbl := mem_t (List.mem_of_getElem? (i := 38) (by decide +kernel)) rfl
theorem ts_39 : Cond.selects "TramGodModel" yX7_layNumber yX7_layNumber ∈ tg_tbl := mem_t (List.mem_of_getElem? (i := 39) (by decide +kernel)) rfl
theorem ts_40 : Cond.selects "TramGodModel" yX7_settle yX7_settle ∈ tg_tbl := mem_t (List.mem_of_getElem? (i := 40) (by decide +kernel)) rfl
theorem ts_41 : Cond.selects "TramGodModel" yX7_canHoldAny yX7_canHoldAny ∈ tg_tbl := mem_t (List.mem_of_getElem? (i := 41) (by decide +kernel)) rfl
theorem ts_42 : Cond.selects "TramGodModel" yX7_canHold yX7_canHold ∈ tg_tbl := mem_t (List.mem_of_getElem? (i := 42) (by decide +kernel)) rfl
theorem ts_43 : Cond.selects "TramGodModel" yX7_choose yX7_choose ∈ tg_tbl := mem_t (List.mem_of_getElem? (i := 43) (by decide +kernel)) rfl
theorem ts_44 : Cond.selects "TramGodModel" yX7_isSeenSo yX7_isSeenSo ∈ tg_tbl := mem_t (List.mem_of_getElem? (i := 44) (by decide +kernel)) rfl
theorem ts_45 : Cond.selects "TramGodModel" yX7_tenthsOf yX7_tenthsOf ∈ tg_tbl := mem_t (List.mem_of_getElem? (i := 45) (by decide +kernel)) rfl
theorem ts_46 : Cond.selects "TramGodModel" yX7_passAll yX7_passAll ∈ tg_tbl := mem_t (List.mem_of_getElem? (i := 46) (by decide +kernel)) rfl
theorem ts_47 : Cond.selects "TramGodModel" yX7_pass yX7_pass ∈ tg_tbl := mem_t (List.mem_of_getElem? (i := 47) (by decide +kernel)) rfl
theorem ts_48 : Cond.selects "TramGodModel" yX7_toldOf yX7_toldOf ∈ tg_tbl := mem_t (List.mem_of_getElem? (i := 48) (by decide +kernel)) rfl
set_option maxRecDepth 20000 in
theorem tc_16 : Cond.code yX6_init cX6_init 1 none ∈ tg_tbl := mem_t (List.mem_of_getElem? (i := 65) rfl) rfl
set_option maxRecDepth 20000 in
theorem tc_19 : Cond.code Lib.objectInit ⟨#[0xb1]⟩ 1 none ∈ tg_tbl := mem_t (List.mem_of_getElem? (i := 68) rfl) rfl
set_option maxRecDepth 20000 in
theorem tc_24 : Cond.code yX1_init cX1_init 1 none ∈ tg_tbl := mem_t (List.mem_of_getElem? (i := 73) rfl) rfl
set_option maxRecDepth 20000 in
theorem tc_40 : Cond.code yX5_init cX5_init 1 none ∈ tg_tbl := mem_t (List.mem_of_getElem? (i := 89) rfl) rfl
set_option maxRecDepth 20000 in
theorem tc_117 : Cond.code yX4_init cX4_init 2 none ∈ tg_tbl := mem_t (List.mem_of_getElem? (i := 166) rfl) rfl
set_option maxRecDepth 20000 in
theorem tc_131 : Cond.code yX2_init cX2_init 3 none ∈ tg_tbl := mem_t (List.mem_of_getElem? (i := 180) rfl) rfl
set_option maxRecDepth 20000 in
theorem tc_157 : Cond.code yX3_init cX3_init 3 none ∈ tg_tbl := mem_t (List.mem_of_getElem? (i := 206) rfl) rfl
set_option maxRecDepth 20000 in
theorem tc_176 : Cond.code yX0_init cX0_init 3 none ∈ tg_tbl := mem_t (List.mem_of_getElem? (i := 225) rfl) rfl
set_option maxRecDepth 20000 in
theorem tc_238 : Cond.code yX6_say cX6_say 2 (some .int) ∈ tg_tbl := mem_t (List.mem_of_getElem? (i := 287) rfl) rfl
set_option maxRecDepth 20000 in
theorem tc_241 : Cond.code yX6_within cX6_within 3 (some .boolean) ∈ tg_tbl := mem_t (List.mem_of_getElem? (i := 290) rfl) rfl
set_option maxRecDepth 20000 in
theorem tc_245 : Cond.code yX1_put cX1_put 2 (some .boolean) ∈ tg_tbl := mem_t (List.mem_of_getElem? (i := 294) rfl) rfl
set_option maxRecDepth 20000 in
theorem tc_249 : Cond.code yX6_wipe cX6_wipe 2 (some .int) ∈ tg_tbl := mem_t (List.mem_of_getElem? (i := 298) rfl) rfl
set_option maxRecDepth 20000 in
theorem tc_253 : Cond.code yX6_fault cX6_fault 2 (some .int) ∈ tg_tbl := mem_t (List.mem_of_getElem? (i := 302) rfl) rfl
set_option maxRecDepth 20000 in
theorem tc_257 : Cond.code yX1_faultOf cX1_faultOf 4 (some .int) ∈ tg_tbl := mem_t (List.mem_of_getElem? (i := 306) rfl) rfl
set_option maxRecDepth 20000 in
theorem tc_261 : Cond.code yX1_digit cX1_digit 2 (some .int) ∈ tg_tbl := mem_t (List.mem_of_getElem? (i := 310) rfl) rfl
set_option maxRecDepth 20000 in
theorem tc_266 : Cond.code yX6_line cX6_line 1 (some .int) ∈ tg_tbl := mem_t (List.mem_of_getElem? (i := 315) rfl) rfl
set_option maxRecDepth 20000 in
theorem tc_270 : Cond.code yX5_startLine cX5_startLine 3 none ∈ tg_tbl := mem_t (List.mem_of_getElem? (i := 319) rfl) rfl
set_option maxRecDepth 20000 in
theorem tc_273 : Cond.code yJ9_min_7cf53 cJ9_min_7cf53 2 (some .int) ∈ tg_tbl := mem_t (List.mem_of_getElem? (i := 322) rfl) rfl
set_option maxRecDepth 20000 in
theorem tc_276 : Cond.code yJ9_max_7cf53 cJ9_max_7cf53 2 (some .int) ∈ tg_tbl := mem_t (List.mem_of_getElem? (i := 325) rfl) rfl
set_option maxRecDepth 20000 in
theorem tc_281 : Cond.code yX5_clearSights cX5_clearSights 1 none ∈ tg_tbl := mem_t (List.mem_of_getElem? (i := 330) rfl) rfl
set_option maxRecDepth 20000 in
theorem tc_285 : Cond.code yX6_close cX6_close 4 (some .int) ∈ tg_tbl := mem_t (List.mem_of_getElem? (i := 334) rfl) rfl
set_option maxRecDepth 20000 in
theorem tc_289 : Cond.code yX5_isStop cX5_isStop 2 (some .boolean) ∈ tg_tbl := mem_t (List.mem_of_getElem? (i := 338) rfl) rfl
set_option maxRecDepth 20000 in
theorem tc_294 : Cond.code yX6_person cX6_person 7 (some .int) ∈ tg_tbl := mem_t (List.mem_of_getElem? (i := 343) rfl) rfl
set_option maxRecDepth 20000 in
theorem tc_297 : Cond.code yX6_isGood cX6_isGood 1 (some .boolean) ∈ tg_tbl := mem_t (List.mem_of_getElem? (i := 346) rfl) rfl
set_option maxRecDepth 20000 in
theorem tc_300 : Cond.code yJ6_bitCount_0f7a4 cJ6_bitCount_0f7a4 1 (some .int) ∈ tg_tbl := mem_t (List.mem_of_getElem? (i := 349) rfl) rfl
set_option maxRecDepth 20000 in
theorem tc_307 : Cond.code yX6_leave cX6_leave 2 (some .int) ∈ tg_tbl := mem_t (List.mem_of_getElem? (i := 356) rfl) rfl
set_option maxRecDepth 20000 in
theorem tc_311 : Cond.code yX5_isPerson cX5_isPerson 2 (some .boolean) ∈ tg_tbl := mem_t (List.mem_of_getElem? (i := 360) rfl) rfl
set_option maxRecDepth 20000 in
theorem tc_315 : Cond.code yX6_nights cX6_nights 3 (some .int) ∈ tg_tbl := mem_t (List.mem_of_getElem? (i := 364) rfl) rfl
set_option maxRecDepth 20000 in
theorem tc_319 : Cond.code yX6_set cX6_set 4 (some .int) ∈ tg_tbl := mem_t (List.mem_of_getElem? (i := 368) rfl) rfl
set_option maxRecDepth 20000 in
theorem tc_323 : Cond.code yX6_judge cX6_judge 4 (some .int) ∈ tg_tbl := mem_t (List.mem_of_getElem? (i := 372) rfl) rfl
set_option maxRecDepth 20000 in
theorem tc_327 : Cond.code yX6_readHold cX6_readHold 2 (some .boolean) ∈ tg_tbl := mem_t (List.mem_of_getElem? (i := 376) rfl) rfl
set_option maxRecDepth 20000 in
theorem tc_331 : Cond.code yX5_isClosed cX5_isClosed 2 (some .boolean) ∈ tg_tbl := mem_t (List.mem_of_getElem? (i := 380) rfl) rfl
set_option maxRecDepth 20000 in
theorem tc_336 : Cond.code yX6_stopOverEach cX6_stopOverEach 2 (some .int) ∈ tg_tbl := mem_t (List.mem_of_getElem? (i := 385) rfl) rfl
set_option maxRecDepth 20000 in
theorem tc_340 : Cond.code yX6_stopOverBreaths cX6_stopOverBreaths 3 (some .int) ∈ tg_tbl := mem_t (List.mem_of_getElem? (i := 389) rfl) rfl
set_option maxRecDepth 20000 in
theorem tc_344 : Cond.code yX6_riders cX6_riders 1 (some .int) ∈ tg_tbl := mem_t (List.mem_of_getElem? (i := 393) rfl) rfl
set_option maxRecDepth 20000 in
theorem tc_348 : Cond.code yX6_readGoodHold cX6_readGoodHold 1 (some .boolean) ∈ tg_tbl := mem_t (List.mem_of_getElem? (i := 397) rfl) rfl
set_option maxRecDepth 20000 in
theorem tc_352 : Cond.code yX4_measure cX4_measure 5 none ∈ tg_tbl := mem_t (List.mem_of_getElem? (i := 401) rfl) rfl
set_option maxRecDepth 20000 in
theorem tc_357 : Cond.code yX5_departs cX5_departs 5 (some .int) ∈ tg_tbl := mem_t (List.mem_of_getElem? (i := 406) rfl) rfl
set_option maxRecDepth 20000 in
theorem tc_361 : Cond.code yX6_addDelays cX6_addDelays 3 none ∈ tg_tbl := mem_t (List.mem_of_getElem? (i := 410) rfl) rfl
set_option maxRecDepth 20000 in
theorem tc_365 : Cond.code yX4_ridersBy cX4_ridersBy 2 (some .int) ∈ tg_tbl := mem_t (List.mem_of_getElem? (i := 414) rfl) rfl
set_option maxRecDepth 20000 in
theorem tc_369 : Cond.code yX4_ridersLate cX4_ridersLate 5 (some .int) ∈ tg_tbl := mem_t (List.mem_of_getElem? (i := 418) rfl) rfl
set_option maxRecDepth 20000 in
theorem tc_373 : Cond.code yX6_good cX6_good 3 (some .int) ∈ tg_tbl := mem_t (List.mem_of_getElem? (i := 422) rfl) rfl
set_option maxRecDepth 20000 in
theorem tc_377 : Cond.code yX5_goodOf cX5_goodOf 2 (some .int) ∈ tg_tbl := mem_t (List.mem_of_getElem? (i := 426) rfl) rfl
set_option maxRecDepth 20000 in
theorem tc_381 : Cond.code yX5_goodAmong cX5_goodAmong 5 (some .int) ∈ tg_tbl := mem_t (List.mem_of_getElem? (i := 430) rfl) rfl
set_option maxRecDepth 20000 in
theorem tc_385 : Cond.code yX5_othersOf cX5_othersOf 4 (some .int) ∈ tg_tbl := mem_t (List.mem_of_getElem? (i := 434) rfl) rfl
set_option maxRecDepth 20000 in
theorem tc_389 : Cond.code yX6_leaves cX6_leaves 2 (some .int) ∈ tg_tbl := mem_t (List.mem_of_getElem? (i := 438) rfl) rfl
set_option maxRecDepth 20000 in
theorem tc_394 : Cond.code yX6_vain cX6_vain 3 (some .int) ∈ tg_tbl := mem_t (List.mem_of_getElem? (i := 443) rfl) rfl
set_option maxRecDepth 20000 in
theorem tc_398 : Cond.code yX6_ridersWithout cX6_ridersWithout 4 (some .int) ∈ tg_tbl := mem_t (List.mem_of_getElem? (i := 447) rfl) rfl
set_option maxRecDepth 20000 in
theorem tc_402 : Cond.code yX6_best cX6_best 3 (some .int) ∈ tg_tbl := mem_t (List.mem_of_getElem? (i := 451) rfl) rfl
set_option maxRecDepth 20000 in
theorem tc_406 : Cond.code yX6_isStopOrAll cX6_isStopOrAll 2 (some .boolean) ∈ tg_tbl := mem_t (List.mem_of_getElem? (i := 455) rfl) rfl
set_option maxRecDepth 20000 in
theorem tc_410 : Cond.code yX6_mostGood cX6_mostGood 2 (some .int) ∈ tg_tbl := mem_t (List.mem_of_getElem? (i := 459) rfl) rfl
set_option maxRecDepth 20000 in
theorem tc_414 : Cond.code yX2_wantGood cX2_wantGood 6 none ∈ tg_tbl := mem_t (List.mem_of_getElem? (i := 463) rfl) rfl
set_option maxRecDepth 20000 in
theorem tc_418 : Cond.code yX2_clearGain cX2_clearGain 2 none ∈ tg_tbl := mem_t (List.mem_of_getElem? (i := 467) rfl) rfl
set_option maxRecDepth 20000 in
theorem tc_422 : Cond.code yX2_weighAll cX2_weighAll 3 none ∈ tg_tbl := mem_t (List.mem_of_getElem? (i := 471) rfl) rfl
set_option maxRecDepth 20000 in
theorem tc_426 : Cond.code yX2_solve cX2_solve 4 (some .int) ∈ tg_tbl := mem_t (List.mem_of_getElem? (i := 475) rfl) rfl
set_option maxRecDepth 20000 in
theorem tc_430 : Cond.code yX2_startRow cX2_startRow 4 none ∈ tg_tbl := mem_t (List.mem_of_getElem? (i := 479) rfl) rfl
set_option maxRecDepth 20000 in
theorem tc_434 : Cond.code yX2_choose cX2_choose 9 none ∈ tg_tbl := mem_t (List.mem_of_getElem? (i := 483) rfl) rfl
set_option maxRecDepth 20000 in
theorem tc_438 : Cond.code yX5_mayHold cX5_mayHold 3 (some .int) ∈ tg_tbl := mem_t (List.mem_of_getElem? (i := 487) rfl) rfl
set_option maxRecDepth 20000 in
theorem tc_443 : Cond.code yX2_breathsAt cX2_breathsAt 5 (some .int) ∈ tg_tbl := mem_t (List.mem_of_getElem? (i := 492) rfl) rfl
set_option maxRecDepth 20000 in
theorem tc_448 : Cond.code yX6_worth cX6_worth 2 (some .int) ∈ tg_tbl := mem_t (List.mem_of_getElem? (i := 497) rfl) rfl
set_option maxRecDepth 20000 in
theorem tc_452 : Cond.code yX6_meant cX6_meant 5 (some .int) ∈ tg_tbl := mem_t (List.mem_of_getElem? (i := 501) rfl) rfl
set_option maxRecDepth 20000 in
theorem tc_456 : Cond.code yX6_areSets cX6_areSets 3 (some .boolean) ∈ tg_tbl := mem_t (List.mem_of_getElem? (i := 505) rfl) rfl
set_option maxRecDepth 20000 in
theorem tc_460 : Cond.code yX6_fewestBreaths cX6_fewestBreaths 4 (some .int) ∈ tg_tbl := mem_t (List.mem_of_getElem? (i := 509) rfl) rfl
set_option maxRecDepth 20000 in
theorem tc_464 : Cond.code yX2_wantSets cX2_wantSets 7 none ∈ tg_tbl := mem_t (List.mem_of_getElem? (i := 513) rfl) rfl
set_option maxRecDepth 20000 in
theorem tc_470 : Cond.code yX6_bars cX6_bars 5 (some .int) ∈ tg_tbl := mem_t (List.mem_of_getElem? (i := 519) rfl) rfl
set_option maxRecDepth 20000 in
theorem tc_474 : Cond.code yX6_fund cX6_fund 5 (some .int) ∈ tg_tbl := mem_t (List.mem_of_getElem? (i := 523) rfl) rfl
set_option maxRecDepth 20000 in
theorem tc_478 : Cond.code yX3_share cX3_share 5 (some .int) ∈ tg_tbl := mem_t (List.mem_of_getElem? (i := 527) rfl) rfl
set_option maxRecDepth 20000 in
theorem tc_482 : Cond.code yX5_comeIn cX5_comeIn 4 (some .int) ∈ tg_tbl := mem_t (List.mem_of_getElem? (i := 531) rfl) rfl
set_option maxRecDepth 20000 in
theorem tc_488 : Cond.code yX2_spendExactly cX2_spendExactly 9 none ∈ tg_tbl := mem_t (List.mem_of_getElem? (i := 537) rfl) rfl
set_option maxRecDepth 20000 in
theorem tc_493 : Cond.code yX3_fewestOfBest cX3_fewestOfBest 8 (some .int) ∈ tg_tbl := mem_t (List.mem_of_getElem? (i := 542) rfl) rfl
set_option maxRecDepth 20000 in
theorem tc_498 : Cond.code yX3_scoreOf cX3_scoreOf 4 (some .int) ∈ tg_tbl := mem_t (List.mem_of_getElem? (i := 547) rfl) rfl
set_option maxRecDepth 20000 in
theorem tc_502 : Cond.code yX3_spentIn cX3_spentIn 6 (some .int) ∈ tg_tbl := mem_t (List.mem_of_getElem? (i := 551) rfl) rfl
set_option maxRecDepth 20000 in
theorem tc_506 : Cond.code yX6_rival cX6_rival 2 (some .int) ∈ tg_tbl := mem_t (List.mem_of_getElem? (i := 555) rfl) rfl
set_option maxRecDepth 20000 in
theorem tc_510 : Cond.code yX0_play cX0_play 3 none ∈ tg_tbl := mem_t (List.mem_of_getElem? (i := 559) rfl) rfl
set_option maxRecDepth 20000 in
theorem tc_513 : Cond.code yX0_ways cX0_ways 3 (some .int) ∈ tg_tbl := mem_t (List.mem_of_getElem? (i := 562) rfl) rfl
set_option maxRecDepth 20000 in
theorem tc_521 : Cond.code yX0_findNext cX0_findNext 7 none ∈ tg_tbl := mem_t (List.mem_of_getElem? (i := 570) rfl) rfl
set_option maxRecDepth 20000 in
theorem tc_526 : Cond.code yX0_settle cX0_settle 7 none ∈ tg_tbl := mem_t (List.mem_of_getElem? (i := 575) rfl) rfl
set_option maxRecDepth 20000 in
theorem tc_533 : Cond.code yX0_findMove cX0_findMove 4 none ∈ tg_tbl := mem_t (List.mem_of_getElem? (i := 582) rfl) rfl
set_option maxRecDepth 20000 in
theorem tc_536 : Cond.code yX0_better cX0_better 3 (some .boolean) ∈ tg_tbl := mem_t (List.mem_of_getElem? (i := 585) rfl) rfl
set_option maxRecDepth 20000 in
theorem tc_540 : Cond.code yX0_stepDown cX0_stepDown 4 none ∈ tg_tbl := mem_t (List.mem_of_getElem? (i := 589) rfl) rfl
set_option maxRecDepth 20000 in
theorem tc_544 : Cond.code yX0_godHas cX0_godHas 1 (some .int) ∈ tg_tbl := mem_t (List.mem_of_getElem? (i := 593) rfl) rfl
set_option maxRecDepth 20000 in
theorem tc_548 : Cond.code yX0_rivalHas cX0_rivalHas 1 (some .int) ∈ tg_tbl := mem_t (List.mem_of_getElem? (i := 597) rfl) rfl
set_option maxRecDepth 20000 in
theorem tc_552 : Cond.code yX6_closing cX6_closing 7 (some .int) ∈ tg_tbl := mem_t (List.mem_of_getElem? (i := 601) rfl) rfl
set_option maxRecDepth 20000 in
theorem tc_556 : Cond.code yX6_clearDelays cX6_clearDelays 2 none ∈ tg_tbl := mem_t (List.mem_of_getElem? (i := 605) rfl) rfl
set_option maxRecDepth 20000 in
theorem tc_560 : Cond.code yX6_seen cX6_seen 3 (some .int) ∈ tg_tbl := mem_t (List.mem_of_getElem? (i := 609) rfl) rfl
set_option maxRecDepth 20000 in
theorem tc_564 : Cond.code yX5_addSight cX5_addSight 3 none ∈ tg_tbl := mem_t (List.mem_of_getElem? (i := 613) rfl) rfl
set_option maxRecDepth 20000 in
theorem tc_568 : Cond.code yX6_forget cX6_forget 2 (some .int) ∈ tg_tbl := mem_t (List.mem_of_getElem? (i := 617) rfl) rfl
set_option maxRecDepth 20000 in
theorem tc_573 : Cond.code yX6_held cX6_held 3 (some .int) ∈ tg_tbl := mem_t (List.mem_of_getElem? (i := 622) rfl) rfl
set_option maxRecDepth 20000 in
theorem tc_577 : Cond.code yX2_countHolds cX2_countHolds 8 (some .int) ∈ tg_tbl := mem_t (List.mem_of_getElem? (i := 626) rfl) rfl
set_option maxRecDepth 20000 in
theorem tc_581 : Cond.code yX6_runs cX6_runs 5 (some .long) ∈ tg_tbl := mem_t (List.mem_of_getElem? (i := 630) rfl) rfl
set_option maxRecDepth 20000 in
theorem tc_585 : Cond.code yX6_areRunners cX6_areRunners 3 (some .boolean) ∈ tg_tbl := mem_t (List.mem_of_getElem? (i := 634) rfl) rfl
set_option maxRecDepth 20000 in
theorem tc_591 : Cond.code yX4_tenths cX4_tenths 7 (some .int) ∈ tg_tbl := mem_t (List.mem_of_getElem? (i := 640) rfl) rfl
set_option maxRecDepth 20000 in
theorem tc_594 : Cond.code yX6_partOf cX6_partOf 7 (some .long) ∈ tg_tbl := mem_t (List.mem_of_getElem? (i := 643) rfl) rfl
set_option maxRecDepth 20000 in
theorem tc_597 : Cond.code yJ9_abs_0f7a4 cJ9_abs_0f7a4 1 (some .int) ∈ tg_tbl := mem_t (List.mem_of_getElem? (i := 646) rfl) rfl
set_option maxRecDepth 20000 in
theorem tc_601 : Cond.code yX6_mean cX6_mean 7 (some .long) ∈ tg_tbl := mem_t (List.mem_of_getElem? (i := 650) rfl) rfl
set_option maxRecDepth 20000 in
theorem tc_605 : Cond.code yX6_waits cX6_waits 9 (some .int) ∈ tg_tbl := mem_t (List.mem_of_getElem? (i := 654) rfl) rfl
set_option maxRecDepth 20000 in
theorem tc_610 : Cond.code yX6_year cX6_year 11 (some .int) ∈ tg_tbl := mem_t (List.mem_of_getElem? (i := 659) rfl) rfl
set_option maxRecDepth 20000 in
theorem tc_618 : Cond.code yX6_image cX6_image 3 (some .int) ∈ tg_tbl := mem_t (List.mem_of_getElem? (i := 667) rfl) rfl
set_option maxRecDepth 20000 in
theorem tc_622 : Cond.code yX5_copyFrom cX5_copyFrom 2 none ∈ tg_tbl := mem_t (List.mem_of_getElem? (i := 671) rfl) rfl
set_option maxRecDepth 20000 in
theorem tc_629 : Cond.code yX6_restore cX6_restore 3 (some .int) ∈ tg_tbl := mem_t (List.mem_of_getElem? (i := 678) rfl) rfl
set_option maxRecDepth 20000 in
theorem tc_633 : Cond.code yX6_told cX6_told 2 (some .int) ∈ tg_tbl := mem_t (List.mem_of_getElem? (i := 682) rfl) rfl
set_option maxRecDepth 20000 in
theorem tc_637 : Cond.code yX5_tellPerson cX5_tellPerson 3 (some .int) ∈ tg_tbl := mem_t (List.mem_of_getElem? (i := 686) rfl) rfl
set_option maxRecDepth 20000 in
theorem tc_642 : Cond.code yX7_init cX7_init 2 none ∈ tg_tbl := mem_t (List.mem_of_getElem? (i := 691) rfl) rfl
set_option maxRecDepth 20000 in
theorem tc_743 : Cond.code yX7_say cX7_say 2 (some .int) ∈ tg_tbl := mem_t (List.mem_of_getElem? (i := 792) rfl) rfl
set_option maxRecDepth 20000 in
theorem tc_748 : Cond.code yX7_in cX7_in 6 (some .boolean) ∈ tg_tbl := mem_t (List.mem_of_getElem? (i := 797) rfl) rfl
set_option maxRecDepth 20000 in
theorem tc_752 : Cond.code yX7_wipe cX7_wipe 2 (some .int) ∈ tg_tbl := mem_t (List.mem_of_getElem? (i := 801) rfl) rfl
set_option maxRecDepth 20000 in
theorem tc_756 : Cond.code yX7_fault cX7_fault 2 (some .int) ∈ tg_tbl := mem_t (List.mem_of_getElem? (i := 805) rfl) rfl
set_option maxRecDepth 20000 in
theorem tc_760 : Cond.code yX7_faultOfDigits cX7_faultOfDigits 4 (some .int) ∈ tg_tbl := mem_t (List.mem_of_getElem? (i := 809) rfl) rfl
set_option maxRecDepth 20000 in
theorem tc_766 : Cond.code yX7_line cX7_line 2 (some .int) ∈ tg_tbl := mem_t (List.mem_of_getElem? (i := 815) rfl) rfl
set_option maxRecDepth 20000 in
theorem tc_770 : Cond.code yX7_close cX7_close 3 (some .int) ∈ tg_tbl := mem_t (List.mem_of_getElem? (i := 819) rfl) rfl
set_option maxRecDepth 20000 in
theorem tc_774 : Cond.code yX7_isStop cX7_isStop 2 (some .boolean) ∈ tg_tbl := mem_t (List.mem_of_getElem? (i := 823) rfl) rfl
set_option maxRecDepth 20000 in
theorem tc_778 : Cond.code yX7_person cX7_person 7 (some .int) ∈ tg_tbl := mem_t (List.mem_of_getElem? (i := 827) rfl) rfl
set_option maxRecDepth 20000 in
theorem tc_783 : Cond.code yX7_isGood cX7_isGood 1 (some .boolean) ∈ tg_tbl := mem_t (List.mem_of_getElem? (i := 832) rfl) rfl
set_option maxRecDepth 20000 in
theorem tc_788 : Cond.code yX7_ones cX7_ones 3 (some .int) ∈ tg_tbl := mem_t (List.mem_of_getElem? (i := 837) rfl) rfl
set_option maxRecDepth 20000 in
theorem tc_792 : Cond.code yX7_leave cX7_leave 2 (some .int) ∈ tg_tbl := mem_t (List.mem_of_getElem? (i := 841) rfl) rfl
set_option maxRecDepth 20000 in
theorem tc_796 : Cond.code yX7_isThere cX7_isThere 2 (some .boolean) ∈ tg_tbl := mem_t (List.mem_of_getElem? (i := 845) rfl) rfl
set_option maxRecDepth 20000 in
theorem tc_800 : Cond.code yX7_nights cX7_nights 3 (some .int) ∈ tg_tbl := mem_t (List.mem_of_getElem? (i := 849) rfl) rfl
set_option maxRecDepth 20000 in
theorem tc_805 : Cond.code yX7_set cX7_set 4 (some .int) ∈ tg_tbl := mem_t (List.mem_of_getElem? (i := 854) rfl) rfl
set_option maxRecDepth 20000 in
theorem tc_809 : Cond.code yX7_judge cX7_judge 2 (some .int) ∈ tg_tbl := mem_t (List.mem_of_getElem? (i := 858) rfl) rfl
set_option maxRecDepth 20000 in
theorem tc_814 : Cond.code yX7_judgeHold cX7_judgeHold 5 none ∈ tg_tbl := mem_t (List.mem_of_getElem? (i := 863) rfl) rfl
set_option maxRecDepth 20000 in
theorem tc_818 : Cond.code yX7_isOpen cX7_isOpen 2 (some .boolean) ∈ tg_tbl := mem_t (List.mem_of_getElem? (i := 867) rfl) rfl
set_option maxRecDepth 20000 in
theorem tc_822 : Cond.code yX7_riders cX7_riders 1 (some .int) ∈ tg_tbl := mem_t (List.mem_of_getElem? (i := 871) rfl) rfl
set_option maxRecDepth 20000 in
theorem tc_826 : Cond.code yX7_isRefused cX7_isRefused 1 (some .boolean) ∈ tg_tbl := mem_t (List.mem_of_getElem? (i := 875) rfl) rfl
set_option maxRecDepth 20000 in
theorem tc_830 : Cond.code yX7_ridersNow cX7_ridersNow 3 (some .int) ∈ tg_tbl := mem_t (List.mem_of_getElem? (i := 879) rfl) rfl
set_option maxRecDepth 20000 in
theorem tc_834 : Cond.code yX7_findLeaves cX7_findLeaves 3 none ∈ tg_tbl := mem_t (List.mem_of_getElem? (i := 883) rfl) rfl
set_option maxRecDepth 20000 in
theorem tc_838 : Cond.code yX7_rides cX7_rides 3 (some .boolean) ∈ tg_tbl := mem_t (List.mem_of_getElem? (i := 887) rfl) rfl
set_option maxRecDepth 20000 in
theorem tc_842 : Cond.code yX7_good cX7_good 3 (some .int) ∈ tg_tbl := mem_t (List.mem_of_getElem? (i := 891) rfl) rfl
set_option maxRecDepth 20000 in
theorem tc_846 : Cond.code yX7_goodOf cX7_goodOf 6 (some .int) ∈ tg_tbl := mem_t (List.mem_of_getElem? (i := 895) rfl) rfl
set_option maxRecDepth 20000 in
theorem tc_850 : Cond.code yX7_othersOf cX7_othersOf 4 (some .int) ∈ tg_tbl := mem_t (List.mem_of_getElem? (i := 899) rfl) rfl
set_option maxRecDepth 20000 in
theorem tc_854 : Cond.code yX7_leaves cX7_leaves 2 (some .int) ∈ tg_tbl := mem_t (List.mem_of_getElem? (i := 903) rfl) rfl
set_option maxRecDepth 20000 in
theorem tc_858 : Cond.code yX7_vain cX7_vain 5 (some .int) ∈ tg_tbl := mem_t (List.mem_of_getElem? (i := 907) rfl) rfl
set_option maxRecDepth 20000 in
theorem tc_862 : Cond.code yX7_best cX7_best 3 (some .int) ∈ tg_tbl := mem_t (List.mem_of_getElem? (i := 911) rfl) rfl
set_option maxRecDepth 20000 in
theorem tc_866 : Cond.code yX7_bestBy cX7_bestBy 6 (some .int) ∈ tg_tbl := mem_t (List.mem_of_getElem? (i := 915) rfl) rfl
set_option maxRecDepth 20000 in
theorem tc_870 : Cond.code yX7_noHold cX7_noHold 2 none ∈ tg_tbl := mem_t (List.mem_of_getElem? (i := 919) rfl) rfl
set_option maxRecDepth 20000 in
theorem tc_875 : Cond.code yX7_keepHold cX7_keepHold 2 none ∈ tg_tbl := mem_t (List.mem_of_getElem? (i := 924) rfl) rfl
set_option maxRecDepth 20000 in
theorem tc_879 : Cond.code yX7_nextHold cX7_nextHold 5 (some .boolean) ∈ tg_tbl := mem_t (List.mem_of_getElem? (i := 928) rfl) rfl
set_option maxRecDepth 20000 in
theorem tc_883 : Cond.code yX7_heldIn cX7_heldIn 3 (some .int) ∈ tg_tbl := mem_t (List.mem_of_getElem? (i := 932) rfl) rfl
set_option maxRecDepth 20000 in
theorem tc_887 : Cond.code yX7_worth cX7_worth 1 (some .int) ∈ tg_tbl := mem_t (List.mem_of_getElem? (i := 936) rfl) rfl
set_option maxRecDepth 20000 in
theorem tc_891 : Cond.code yX7_meant cX7_meant 5 (some .int) ∈ tg_tbl := mem_t (List.mem_of_getElem? (i := 940) rfl) rfl
set_option maxRecDepth 20000 in
theorem tc_895 : Cond.code yX7_areSets cX7_areSets 3 (some .boolean) ∈ tg_tbl := mem_t (List.mem_of_getElem? (i := 944) rfl) rfl
set_option maxRecDepth 20000 in
theorem tc_900 : Cond.code yX7_fewestFor cX7_fewestFor 7 (some .int) ∈ tg_tbl := mem_t (List.mem_of_getElem? (i := 949) rfl) rfl
set_option maxRecDepth 20000 in
theorem tc_904 : Cond.code yX7_bars cX7_bars 5 (some .int) ∈ tg_tbl := mem_t (List.mem_of_getElem? (i := 953) rfl) rfl
set_option maxRecDepth 20000 in
theorem tc_908 : Cond.code yX7_fund cX7_fund 9 (some .int) ∈ tg_tbl := mem_t (List.mem_of_getElem? (i := 957) rfl) rfl
set_option maxRecDepth 20000 in
theorem tc_914 : Cond.code yX7_comingIn cX7_comingIn 4 (some .int) ∈ tg_tbl := mem_t (List.mem_of_getElem? (i := 963) rfl) rfl
set_option maxRecDepth 20000 in
theorem tc_918 : Cond.code yX7_rival cX7_rival 4 (some .int) ∈ tg_tbl := mem_t (List.mem_of_getElem? (i := 967) rfl) rfl
set_option maxRecDepth 20000 in
theorem tc_922 : Cond.code yX7_power cX7_power 3 (some .int) ∈ tg_tbl := mem_t (List.mem_of_getElem? (i := 971) rfl) rfl
set_option maxRecDepth 20000 in
theorem tc_926 : Cond.code yX7_layNumber cX7_layNumber 4 (some .boolean) ∈ tg_tbl := mem_t (List.mem_of_getElem? (i := 975) rfl) rfl
set_option maxRecDepth 20000 in
theorem tc_930 : Cond.code yX7_settle cX7_settle 6 none ∈ tg_tbl := mem_t (List.mem_of_getElem? (i := 979) rfl) rfl
set_option maxRecDepth 20000 in
theorem tc_934 : Cond.code yX7_canHoldAny cX7_canHoldAny 3 (some .boolean) ∈ tg_tbl := mem_t (List.mem_of_getElem? (i := 983) rfl) rfl
set_option maxRecDepth 20000 in
theorem tc_938 : Cond.code yX7_canHold cX7_canHold 2 (some .boolean) ∈ tg_tbl := mem_t (List.mem_of_getElem? (i := 987) rfl) rfl
set_option maxRecDepth 20000 in
theorem tc_942 : Cond.code yX7_choose cX7_choose 13 none ∈ tg_tbl := mem_t (List.mem_of_getElem? (i := 991) rfl) rfl
set_option maxRecDepth 20000 in
theorem tc_946 : Cond.code yX7_closing cX7_closing 9 (some .int) ∈ tg_tbl := mem_t (List.mem_of_getElem? (i := 995) rfl) rfl
set_option maxRecDepth 20000 in
theorem tc_951 : Cond.code yX7_seen cX7_seen 3 (some .int) ∈ tg_tbl := mem_t (List.mem_of_getElem? (i := 1000) rfl) rfl
set_option maxRecDepth 20000 in
theorem tc_955 : Cond.code yX7_forget cX7_forget 2 (some .int) ∈ tg_tbl := mem_t (List.mem_of_getElem? (i := 1004) rfl) rfl
set_option maxRecDepth 20000 in
theorem tc_959 : Cond.code yX7_held cX7_held 9 (some .int) ∈ tg_tbl := mem_t (List.mem_of_getElem? (i := 1008) rfl) rfl
set_option maxRecDepth 20000 in
theorem tc_964 : Cond.code yX7_isSeenSo cX7_isSeenSo 4 (some .boolean) ∈ tg_tbl := mem_t (List.mem_of_getElem? (i := 1013) rfl) rfl
set_option maxRecDepth 20000 in
theorem tc_968 : Cond.code yX7_runs cX7_runs 5 (some .long) ∈ tg_tbl := mem_t (List.mem_of_getElem? (i := 1017) rfl) rfl
set_option maxRecDepth 20000 in
theorem tc_972 : Cond.code yX7_isRunning cX7_isRunning 2 (some .boolean) ∈ tg_tbl := mem_t (List.mem_of_getElem? (i := 1021) rfl) rfl
set_option maxRecDepth 20000 in
theorem tc_980 : Cond.code yX7_tenthsOf cX7_tenthsOf 4 (some .int) ∈ tg_tbl := mem_t (List.mem_of_getElem? (i := 1029) rfl) rfl
set_option maxRecDepth 20000 in
theorem tc_983 : Cond.code yX7_lowest cX7_lowest 11 (some .long) ∈ tg_tbl := mem_t (List.mem_of_getElem? (i := 1032) rfl) rfl
set_option maxRecDepth 20000 in
theorem tc_987 : Cond.code yX7_mean cX7_mean 8 (some .long) ∈ tg_tbl := mem_t (List.mem_of_getElem? (i := 1036) rfl) rfl
set_option maxRecDepth 20000 in
theorem tc_991 : Cond.code yX7_waits cX7_waits 7 (some .int) ∈ tg_tbl := mem_t (List.mem_of_getElem? (i := 1040) rfl) rfl
set_option maxRecDepth 20000 in
theorem tc_996 : Cond.code yX7_year cX7_year 11 (some .int) ∈ tg_tbl := mem_t (List.mem_of_getElem? (i := 1045) rfl) rfl
set_option maxRecDepth 20000 in
theorem tc_1005 : Cond.code yX7_image cX7_image 2 (some .int) ∈ tg_tbl := mem_t (List.mem_of_getElem? (i := 1054) rfl) rfl
set_option maxRecDepth 20000 in
theorem tc_1009 : Cond.code yX7_passAll cX7_passAll 2 none ∈ tg_tbl := mem_t (List.mem_of_getElem? (i := 1058) rfl) rfl
set_option maxRecDepth 20000 in
theorem tc_1013 : Cond.code yX7_pass cX7_pass 3 (some .int) ∈ tg_tbl := mem_t (List.mem_of_getElem? (i := 1062) rfl) rfl
set_option maxRecDepth 20000 in
theorem tc_1017 : Cond.code yX7_restore cX7_restore 2 (some .int) ∈ tg_tbl := mem_t (List.mem_of_getElem? (i := 1066) rfl) rfl
set_option maxRecDepth 20000 in
theorem tc_1021 : Cond.code yX7_told cX7_told 2 (some .int) ∈ tg_tbl := mem_t (List.mem_of_getElem? (i := 1070) rfl) rfl
set_option maxRecDepth 20000 in
theorem tc_1025 : Cond.code yX7_toldOf cX7_toldOf 3 (some .int) ∈ tg_tbl := mem_t (List.mem_of_getElem? (i := 1074) rfl) rfl
end
section

abbrev classes : List vw_C := [(RX0, TX0, 9), (RX1, TX1, 2), (RX2, TX2, 6), (RX3, TX3, 4), (RX4, TX4, 2), (RX5, TX5, 15), (RX6, TX6, 9), (RX7, TX7, 31)]
/-- class ids and slots; int[], boolean[], World[]; the address of CHOOSE -/
abbrev tg_G : Type := va_G × ClassId × ClassId × ClassId × Nat
def tg_T (G : tg_G) : List (ClassId × FieldType) := [(G.2.1, .int), (G.2.2.1, .boolean), (G.2.2.2.1, .object "TramGod$World")]
def tg_cho : List Int32 := [1, 0, 0, 0, 0, 0, 0, 1, 1, 0, 0, 0, 0, 0, 1, 2, 1, 0, 0, 0, 0, 1, 3, 3, 1, 0, 0, 0, 1, 4, 6, 4, 1, 0, 0, 1, 5, 10, 10, 5, 1, 0, 1, 6, 15, 20, 15, 6, 1, 1, 7, 21, 35, 35, 21, 7, 1, 8, 28, 56, 70, 56, 28, 1, 9, 36, 84, 126, 126, 84, 1, 10, 45, 120, 210, 252, 210, 1, 11, 55, 165, 330, 462, 462]
def tg_chf (j : Nat) : Int32 := tg_cho.getD j 0
def tg_nest : List Cond := [Cond.methodLinkNest "TramGod" 9 yX1_init "TramGod", Cond.methodLinkNest "TramGod" 18 yX5_init "TramGod", Cond.methodLinkNest "TramGod$Pad" 23 yX6_within "TramGod", Cond.methodLinkNest "TramGod$World" 85 yX6_within "TramGod", Cond.methodLinkNest "TramGod$Duel" 60 yX6_within "TramGod", Cond.fieldLinkNest "TramGod$Duel" 64 "TramGod" "CHOOSE" "[I" "TramGod"]
def tg_K (G : tg_G) (A : Nat → Prop) (s : State) : Prop := va_K G.1 classes (tg_T G) s ∧ va_Z "TramGod" "CHOOSE" "[I" (.ref G.2.2.2.2) A s s.heap ∧ va_T .int G.2.2.2.2 84 (fun j => .int (tg_chf j)) A s s.heap ∧ (∀ x ∈ tg_nest, va_Nw x s) ∧ va_AO "TramGod$World" s
abbrev tg_Z : Type := State → Array Value → List Frame → (Nat → Prop) → State → Prop
abbrev tg_E : Type := State → (Nat → Prop) → Prop
def tg_C (G : tg_G) (E : tg_E) (own nm : String) (cc : ByteArray) (nL : Nat) (ret : Option FieldType) (A : Nat → Prop) (p : Program) (s : State) (m : MethodId) (args : Array Value) (meth : Method) (c : Code) : Prop :=
  p.tables.exec = Jvm.exec ∧ c.code = cc ∧ meth.sig.returnType = ret ∧ c.maxLocals = nL ∧ s.vm.findClass own = some m.cls ∧ (∀ w ∈ tg_tbl, w.before args s = true) ∧ meth.locks = false ∧ (∀ q, s.heap.size ≤ q → A q) ∧ meth.name = nm ∧ tg_K G A s ∧ E s A
def V (l : Launch) (G : tg_G) (Z : tg_Z) (E : tg_E) (R : Room) (own nm : String) (cc : ByteArray) (nL : Nat) (ret : Option FieldType) (pc : Nat) (lv : List (Nat × Value)) (st : List Value) (w : va_W) (k n : Nat) : Prop :=
  ∀ (p : Program) (e : Env) (s : State) (m : MethodId) (args : Array Value) (below : List Frame) (meth : Method) (c : Code) (A : Nat → Prop), tg_C G E own nm cc nL ret A p s m args meth c →
  ∀ (H : Heap) (locs : List Loc), va_P G.1 classes w H → va_D A w → va_S A s.heap H locs → ∀ (ls : Array Slot), lv_has ls nL lv → W p l e R s m args below meth c H locs k n (Z s args below A) (F0 m pc ls st)
def Dc (cc : ByteArray) (pc : Nat) (i : Instr) (len pc2 : Nat) : Prop := decode cc pc = .ok (i, len) ∧ pc + len = pc2
section TG
variable {l : Launch} {G : tg_G} {Z : tg_Z} {E : tg_E} {R : Room} {own nm : String} {cc : ByteArray} {nL : Nat} {ret : Option FieldType} {pc pc2 : Nat} {lv : List (Nat × Value)} {rest : List Value} {w : va_W} {k n : Nat}

theorem V_iconst {z : Int} {v : Int32} (d : Dc cc pc (.iconst z) 1 pc2) (hv : Int32.ofInt z = v) (kk : V l G Z E R own nm cc nL ret pc2 lv (.int v :: rest) w k n) : V l G Z E R own nm cc nL ret pc lv (rest) w k n := by
  intro p e s m args below meth c A C H locs hP hD hS ls hl
  obtain ⟨hd, rfl⟩ := d
  exact lv_iconst C.1 C.2.1 hd hv (kk p e s m args below meth c A C H locs hP hD hS ls hl)
theorem V_bipush {z : Int} {v : Int32} (d : Dc cc pc (.bipush z) 2 pc2) (hv : (Int8.ofInt z).toInt32 = v) (kk : V l G Z E R own nm cc nL ret pc2 lv (.int v :: rest) w k n) : V l G Z E R own nm cc nL ret pc lv (rest) w k n := by
  intro p e s m args below meth c A C H locs hP hD hS ls hl
  obtain ⟨hd, rfl⟩ := d
  exact lv_bipush C.1 C.2.1 hd hv (kk p e s m args below meth c A C H locs hP hD hS ls hl)
theorem V_sipush {z : Int} {v : Int32} (d : Dc cc pc (.sipush z) 3 pc2) (hv : (Int16.ofInt z).toInt32 = v) (kk : V l G Z E R own nm cc nL ret pc2 lv (.int v :: rest) w k n) : V l G Z E R own nm cc nL ret pc lv (rest) w k n := by
  intro p e s m args below meth c A C H locs hP hD hS ls hl
  obtain ⟨hd, rfl⟩ := d
  exact lv_sipush C.1 C.2.1 hd hv (kk p e s m args below meth c A C H locs hP hD hS ls hl)
theorem V_lconst {z : Fin 2} {v : Int64} (d : Dc cc pc (.lconst z) 1 pc2) (hv : Int64.ofNat (z : Nat) = v) (kk : V l G Z E R own nm cc nL ret pc2 lv (.long v :: rest) w k n) : V l G Z E R own nm cc nL ret pc lv (rest) w k n := by
  intro p e s m args below meth c A C H locs hP hD hS ls hl
  obtain ⟨hd, rfl⟩ := d
  exact lv_lconst C.1 C.2.1 hd hv (kk p e s m args below meth c A C H locs hP hD hS ls hl)
theorem V_ldc {ix : Nat} {v : Int32} (d : Dc cc pc (.ldc ix) 2 pc2) (hm : Cond.constant own ix v ∈ tg_tbl) (kk : V l G Z E R own nm cc nL ret pc2 lv (.int v :: rest) w k n) : V l G Z E R own nm cc nL ret pc lv (rest) w k n := by
  intro p e s m args below meth c A C H locs hP hD hS ls hl
  obtain ⟨hd, rfl⟩ := d
  exact lv_ldc C.1 C.2.1 C.2.2.2.2.1 (C.2.2.2.2.2.1 _ hm) hd (kk p e s m args below meth c A C H locs hP hD hS ls hl)
theorem V_ldcw {ix : Nat} {v : Int32} (d : Dc cc pc (.ldc_w ix) 3 pc2) (hm : Cond.constant own ix v ∈ tg_tbl) (kk : V l G Z E R own nm cc nL ret pc2 lv (.int v :: rest) w k n) : V l G Z E R own nm cc nL ret pc lv (rest) w k n := by
  intro p e s m args below meth c A C H locs hP hD hS ls hl
  obtain ⟨hd, rfl⟩ := d
  exact lv_ldcw C.1 C.2.1 C.2.2.2.2.1 (C.2.2.2.2.2.1 _ hm) hd (kk p e s m args below meth c A C H locs hP hD hS ls hl)
theorem V_ldc2 {ix : Nat} {v : Int64} (d : Dc cc pc (.ldc2_w ix) 3 pc2) (hm : Cond.constantLong own ix v ∈ tg_tbl) (kk : V l G Z E R own nm cc nL ret pc2 lv (.long v :: rest) w k n) : V l G Z E R own nm cc nL ret pc lv (rest) w k n := by
  intro p e s m args below meth c A C H locs hP hD hS ls hl
  obtain ⟨hd, rfl⟩ := d
  exact lv_ldc2 C.1 C.2.1 C.2.2.2.2.1 (C.2.2.2.2.2.1 _ hm) hd (kk p e s m args below meth c A C H locs hP hD hS ls hl)
theorem V_iload_n {z : Fin 4} {x : Int32} (d : Dc cc pc (.iload_n z) 1 pc2) (j : Nat) (hj : lv[j]? = some ((z : Nat), .int x)) (kk : V l G Z E R own nm cc nL ret pc2 lv (.int x :: rest) w k n) : V l G Z E R own nm cc nL ret pc lv rest w k n := by
  intro p e s m args below meth c A C H locs hP hD hS ls hl
  obtain ⟨hd, rfl⟩ := d
  exact lv_iload_n C.1 C.2.1 hd rfl (lv_at hl j hj) (kk p e s m args below meth c A C H locs hP hD hS ls hl)
theorem V_iload {z : Nat} {x : Int32} (d : Dc cc pc (.iload z) 2 pc2) (j : Nat) (hj : lv[j]? = some (z, .int x)) (kk : V l G Z E R own nm cc nL ret pc2 lv (.int x :: rest) w k n) : V l G Z E R own nm cc nL ret pc lv rest w k n := by
  intro p e s m args below meth c A C H locs hP hD hS ls hl
  obtain ⟨hd, rfl⟩ := d
  exact lv_iload C.1 C.2.1 hd (lv_at hl j hj) (kk p e s m args below meth c A C H locs hP hD hS ls hl)
theorem V_istore_n {z : Fin 4} {x : Int32} {lv' : List (Nat × Value)} (d : Dc cc pc (.istore_n z) 1 pc2) (hn : (z : Nat) < nL) (hl' : ((z : Nat), Value.int x) :: lv.filter (fun q => !(q.1 == (z : Nat)) && !(q.1 + 1 == (z : Nat) && q.2.category == 2)) = lv') (kk : V l G Z E R own nm cc nL ret pc2 lv' rest w k n) : V l G Z E R own nm cc nL ret pc lv (.int x :: rest) w k n := by
  intro p e s m args below meth c A C H locs hP hD hS ls hl
  obtain ⟨hd, rfl⟩ := d
  exact lv_istore_n C.1 C.2.1 hd rfl hl hn hl' (fun ls' hl2 => kk p e s m args below meth c A C H locs hP hD hS ls' hl2)
theorem V_istore {z : Nat} {x : Int32} {lv' : List (Nat × Value)} (d : Dc cc pc (.istore z) 2 pc2) (hn : z < nL) (hl' : (z, Value.int x) :: lv.filter (fun q => !(q.1 == z) && !(q.1 + 1 == z && q.2.category == 2)) = lv') (kk : V l G Z E R own nm cc nL ret pc2 lv' rest w k n) : V l G Z E R own nm cc nL ret pc lv (.int x :: rest) w k n := by
  intro p e s m args below meth c A C H locs hP hD hS ls hl
  obtain ⟨hd, rfl⟩ := d
  exact lv_istore C.1 C.2.1 hd hl hn hl' (fun ls' hl2 => kk p e s m args below meth c A C H locs hP hD hS ls' hl2)
theorem V_lload_n {z : Fin 4} {x : Int64} (d : Dc cc pc (.lload_n z) 1 pc2) (j : Nat) (hj : lv[j]? = some ((z : Nat), .long x)) (kk : V l G Z E R own nm cc nL ret pc2 lv (.long x :: rest) w k n) : V l G Z E R own nm cc nL ret pc lv rest w k n := by
  intro p e s m args below meth c A C H locs hP hD hS ls hl
  obtain ⟨hd, rfl⟩ := d
  exact lv_lload_n C.1 C.2.1 hd rfl (lv_at hl j hj) (kk p e s m args below meth c A C H locs hP hD hS ls hl)
theorem V_lload {z : Nat} {x : Int64} (d : Dc cc pc (.lload z) 2 pc2) (j : Nat) (hj : lv[j]? = some (z, .long x)) (kk : V l G Z E R own nm cc nL ret pc2 lv (.long x :: rest) w k n) : V l G Z E R own nm cc nL ret pc lv rest w k n := by
  intro p e s m args below meth c A C H locs hP hD hS ls hl
  obtain ⟨hd, rfl⟩ := d
  exact lv_lload C.1 C.2.1 hd (lv_at hl j hj) (kk p e s m args below meth c A C H locs hP hD hS ls hl)
theorem V_lstore_n {z : Fin 4} {x : Int64} {lv' : List (Nat × Value)} (d : Dc cc pc (.lstore_n z) 1 pc2) (hn : (z : Nat) + 1 < nL) (hl' : ((z : Nat), Value.long x) :: lv.filter (fun q => !(q.1 == (z : Nat)) && (!(q.1 == (z : Nat) + 1) && !(q.1 + 1 == (z : Nat) && q.2.category == 2))) = lv') (kk : V l G Z E R own nm cc nL ret pc2 lv' rest w k n) : V l G Z E R own nm cc nL ret pc lv (.long x :: rest) w k n := by
  intro p e s m args below meth c A C H locs hP hD hS ls hl
  obtain ⟨hd, rfl⟩ := d
  exact lv_lstore_n C.1 C.2.1 hd rfl hl hn hl' (fun ls' hl2 => kk p e s m args below meth c A C H locs hP hD hS ls' hl2)
theorem V_lstore {z : Nat} {x : Int64} {lv' : List (Nat × Value)} (d : Dc cc pc (.lstore z) 2 pc2) (hn : z + 1 < nL) (hl' : (z, Value.long x) :: lv.filter (fun q => !(q.1 == z) && (!(q.1 == z + 1) && !(q.1 + 1 == z && q.2.category == 2))) = lv') (kk : V l G Z E R own nm cc nL ret pc2 lv' rest w k n) : V l G Z E R own nm cc nL ret pc lv (.long x :: rest) w k n := by
  intro p e s m args below meth c A C H locs hP hD hS ls hl
  obtain ⟨hd, rfl⟩ := d
  exact lv_lstore C.1 C.2.1 hd hl hn hl' (fun ls' hl2 => kk p e s m args below meth c A C H locs hP hD hS ls' hl2)
theorem V_aload_n {z : Fin 4} {x : Nat} (d : Dc cc pc (.aload_n z) 1 pc2) (j : Nat) (hj : lv[j]? = some ((z : Nat), .ref x)) (kk : V l G Z E R own nm cc nL ret pc2 lv (.ref x :: rest) w k n) : V l G Z E R own nm cc nL ret pc lv rest w k n := by
  intro p e s m args below meth c A C H locs hP hD hS ls hl
  obtain ⟨hd, rfl⟩ := d
  exact lv_aload_n C.1 C.2.1 hd rfl (lv_at hl j hj) (kk p e s m args below meth c A C H locs hP hD hS ls hl)
theorem V_aload {z : Nat} {x : Nat} (d : Dc cc pc (.aload z) 2 pc2) (j : Nat) (hj : lv[j]? = some (z, .ref x)) (kk : V l G Z E R own nm cc nL ret pc2 lv (.ref x :: rest) w k n) : V l G Z E R own nm cc nL ret pc lv rest w k n := by
  intro p e s m args below meth c A C H locs hP hD hS ls hl
  obtain ⟨hd, rfl⟩ := d
  exact lv_aload C.1 C.2.1 hd (lv_at hl j hj) (kk p e s m args below meth c A C H locs hP hD hS ls hl)
theorem V_astore_n {z : Fin 4} {x : Nat} {lv' : List (Nat × Value)} (d : Dc cc pc (.astore_n z) 1 pc2) (hn : (z : Nat) < nL) (hl' : ((z : Nat), Value.ref x) :: lv.filter (fun q => !(q.1 == (z : Nat)) && !(q.1 + 1 == (z : Nat) && q.2.category == 2)) = lv') (kk : V l G Z E R own nm cc nL ret pc2 lv' rest w k n) : V l G Z E R own nm cc nL ret pc lv (.ref x :: rest) w k n := by
  intro p e s m args below meth c A C H locs hP hD hS ls hl
  obtain ⟨hd, rfl⟩ := d
  exact lv_astore_n C.1 C.2.1 hd rfl hl hn hl' (fun ls' hl2 => kk p e s m args below meth c A C H locs hP hD hS ls' hl2)
theorem V_astore {z : Nat} {x : Nat} {lv' : List (Nat × Value)} (d : Dc cc pc (.astore z) 2 pc2) (hn : z < nL) (hl' : (z, Value.ref x) :: lv.filter (fun q => !(q.1 == z) && !(q.1 + 1 == z && q.2.category == 2)) = lv') (kk : V l G Z E R own nm cc nL ret pc2 lv' rest w k n) : V l G Z E R own nm cc nL ret pc lv (.ref x :: rest) w k n := by
  intro p e s m args below meth c A C H locs hP hD hS ls hl
  obtain ⟨hd, rfl⟩ := d
  exact lv_astore C.1 C.2.1 hd hl hn hl' (fun ls' hl2 => kk p e s m args below meth c A C H locs hP hD hS ls' hl2)
theorem V_iinc {z : Nat} {y : Int} {x v : Int32} {lv' : List (Nat × Value)} (d : Dc cc pc (.iinc z y) 3 pc2) (j : Nat) (hj : lv[j]? = some (z, .int x)) (hv : x + Int32.ofInt y = v) (hn : z < nL) (hl' : (z, Value.int v) :: lv.filter (fun q => !(q.1 == z) && !(q.1 + 1 == z && q.2.category == 2)) = lv') (kk : V l G Z E R own nm cc nL ret pc2 lv' rest w k n) : V l G Z E R own nm cc nL ret pc lv rest w k n := by
  intro p e s m args below meth c A C H locs hP hD hS ls hl
  obtain ⟨hd, rfl⟩ := d
  exact lv_iinc C.1 C.2.1 hd hl hj hv hn hl' (fun ls' hl2 => kk p e s m args below meth c A C H locs hP hD hS ls' hl2)
theorem V_iadd {x y : Int32} (d : Dc cc pc (.iadd) 1 pc2)  (kk : V l G Z E R own nm cc nL ret pc2 lv (.int (x + y) :: rest) w k n) : V l G Z E R own nm cc nL ret pc lv (.int y :: .int x :: rest) w k n := by
  intro p e s m args below meth c A C H locs hP hD hS ls hl
  obtain ⟨hd, rfl⟩ := d
  exact lv_iadd C.1 C.2.1 hd (kk p e s m args below meth c A C H locs hP hD hS ls hl)
theorem V_isub {x y : Int32} (d : Dc cc pc (.isub) 1 pc2)  (kk : V l G Z E R own nm cc nL ret pc2 lv (.int (x - y) :: rest) w k n) : V l G Z E R own nm cc nL ret pc lv (.int y :: .int x :: rest) w k n := by
  intro p e s m args below meth c A C H locs hP hD hS ls hl
  obtain ⟨hd, rfl⟩ := d
  exact lv_isub C.1 C.2.1 hd (kk p e s m args below meth c A C H locs hP hD hS ls hl)
theorem V_imul {x y : Int32} (d : Dc cc pc (.imul) 1 pc2)  (kk : V l G Z E R own nm cc nL ret pc2 lv (.int (x * y) :: rest) w k n) : V l G Z E R own nm cc nL ret pc lv (.int y :: .int x :: rest) w k n := by
  intro p e s m args below meth c A C H locs hP hD hS ls hl
  obtain ⟨hd, rfl⟩ := d
  exact lv_imul C.1 C.2.1 hd (kk p e s m args below meth c A C H locs hP hD hS ls hl)
theorem V_iand {x y : Int32} (d : Dc cc pc (.iand) 1 pc2)  (kk : V l G Z E R own nm cc nL ret pc2 lv (.int (x &&& y) :: rest) w k n) : V l G Z E R own nm cc nL ret pc lv (.int y :: .int x :: rest) w k n := by
  intro p e s m args below meth c A C H locs hP hD hS ls hl
  obtain ⟨hd, rfl⟩ := d
  exact lv_iand C.1 C.2.1 hd (kk p e s m args below meth c A C H locs hP hD hS ls hl)
theorem V_ior {x y : Int32} (d : Dc cc pc (.ior) 1 pc2)  (kk : V l G Z E R own nm cc nL ret pc2 lv (.int (x ||| y) :: rest) w k n) : V l G Z E R own nm cc nL ret pc lv (.int y :: .int x :: rest) w k n := by
  intro p e s m args below meth c A C H locs hP hD hS ls hl
  obtain ⟨hd, rfl⟩ := d
  exact lv_ior C.1 C.2.1 hd (kk p e s m args below meth c A C H locs hP hD hS ls hl)
theorem V_ixor {x y : Int32} (d : Dc cc pc (.ixor) 1 pc2)  (kk : V l G Z E R own nm cc nL ret pc2 lv (.int (x ^^^ y) :: rest) w k n) : V l G Z E R own nm cc nL ret pc lv (.int y :: .int x :: rest) w k n := by
  intro p e s m args below meth c A C H locs hP hD hS ls hl
  obtain ⟨hd, rfl⟩ := d
  exact lv_ixor C.1 C.2.1 hd (kk p e s m args below meth c A C H locs hP hD hS ls hl)
theorem V_ishl {x y : Int32} (d : Dc cc pc (.ishl) 1 pc2)  (kk : V l G Z E R own nm cc nL ret pc2 lv (.int (x <<< (y &&& 31)) :: rest) w k n) : V l G Z E R own nm cc nL ret pc lv (.int y :: .int x :: rest) w k n := by
  intro p e s m args below meth c A C H locs hP hD hS ls hl
  obtain ⟨hd, rfl⟩ := d
  exact lv_ishl C.1 C.2.1 hd (kk p e s m args below meth c A C H locs hP hD hS ls hl)
theorem V_ishr {x y : Int32} (d : Dc cc pc (.ishr) 1 pc2)  (kk : V l G Z E R own nm cc nL ret pc2 lv (.int (x >>> (y &&& 31)) :: rest) w k n) : V l G Z E R own nm cc nL ret pc lv (.int y :: .int x :: rest) w k n := by
  intro p e s m args below meth c A C H locs hP hD hS ls hl
  obtain ⟨hd, rfl⟩ := d
  exact lv_ishr C.1 C.2.1 hd (kk p e s m args below meth c A C H locs hP hD hS ls hl)
theorem V_iushr {x y : Int32} (d : Dc cc pc (.iushr) 1 pc2)  (kk : V l G Z E R own nm cc nL ret pc2 lv (.int ((x.toUInt32 >>> (y.toUInt32 &&& Int32.toUInt32 31)).toInt32) :: rest) w k n) : V l G Z E R own nm cc nL ret pc lv (.int y :: .int x :: rest) w k n := by
  intro p e s m args below meth c A C H locs hP hD hS ls hl
  obtain ⟨hd, rfl⟩ := d
  exact lv_iushr C.1 C.2.1 hd rfl (kk p e s m args below meth c A C H locs hP hD hS ls hl)
theorem V_ineg {x : Int32} (d : Dc cc pc (.ineg) 1 pc2)  (kk : V l G Z E R own nm cc nL ret pc2 lv (.int (-x) :: rest) w k n) : V l G Z E R own nm cc nL ret pc lv (.int x :: rest) w k n := by
  intro p e s m args below meth c A C H locs hP hD hS ls hl
  obtain ⟨hd, rfl⟩ := d
  exact lv_ineg C.1 C.2.1 hd (kk p e s m args below meth c A C H locs hP hD hS ls hl)
theorem V_idiv {x y : Int32} (d : Dc cc pc (.idiv) 1 pc2) (hy : ¬ y = 0) (kk : V l G Z E R own nm cc nL ret pc2 lv (.int (x / y) :: rest) w k n) : V l G Z E R own nm cc nL ret pc lv (.int y :: .int x :: rest) w k n := by
  intro p e s m args below meth c A C H locs hP hD hS ls hl
  obtain ⟨hd, rfl⟩ := d
  exact lv_idiv C.1 C.2.1 hd hy (kk p e s m args below meth c A C H locs hP hD hS ls hl)
theorem V_irem {x y : Int32} (d : Dc cc pc (.irem) 1 pc2) (hy : ¬ y = 0) (kk : V l G Z E R own nm cc nL ret pc2 lv (.int (x - x / y * y) :: rest) w k n) : V l G Z E R own nm cc nL ret pc lv (.int y :: .int x :: rest) w k n := by
  intro p e s m args below meth c A C H locs hP hD hS ls hl
  obtain ⟨hd, rfl⟩ := d
  exact lv_irem C.1 C.2.1 hd hy (kk p e s m args below meth c A C H locs hP hD hS ls hl)
theorem V_ladd {x y : Int64} (d : Dc cc pc (.ladd) 1 pc2)  (kk : V l G Z E R own nm cc nL ret pc2 lv (.long (x + y) :: rest) w k n) : V l G Z E R own nm cc nL ret pc lv (.long y :: .long x :: rest) w k n := by
  intro p e s m args below meth c A C H locs hP hD hS ls hl
  obtain ⟨hd, rfl⟩ := d
  exact lv_ladd C.1 C.2.1 hd (kk p e s m args below meth c A C H locs hP hD hS ls hl)
theorem V_lsub {x y : Int64} (d : Dc cc pc (.lsub) 1 pc2)  (kk : V l G Z E R own nm cc nL ret pc2 lv (.long (x - y) :: rest) w k n) : V l G Z E R own nm cc nL ret pc lv (.long y :: .long x :: rest) w k n := by
  intro p e s m args below meth c A C H locs hP hD hS ls hl
  obtain ⟨hd, rfl⟩ := d
  exact lv_lsub C.1 C.2.1 hd (kk p e s m args below meth c A C H locs hP hD hS ls hl)
theorem V_lmul {x y : Int64} (d : Dc cc pc (.lmul) 1 pc2)  (kk : V l G Z E R own nm cc nL ret pc2 lv (.long (x * y) :: rest) w k n) : V l G Z E R own nm cc nL ret pc lv (.long y :: .long x :: rest) w k n := by
  intro p e s m args below meth c A C H locs hP hD hS ls hl
  obtain ⟨hd, rfl⟩ := d
  exact lv_lmul C.1 C.2.1 hd (kk p e s m args below meth c A C H locs hP hD hS ls hl)
theorem V_lneg {x : Int64} (d : Dc cc pc (.lneg) 1 pc2)  (kk : V l G Z E R own nm cc nL ret pc2 lv (.long (-x) :: rest) w k n) : V l G Z E R own nm cc nL ret pc lv (.long x :: rest) w k n := by
  intro p e s m args below meth c A C H locs hP hD hS ls hl
  obtain ⟨hd, rfl⟩ := d
  exact lv_lneg C.1 C.2.1 hd (kk p e s m args below meth c A C H locs hP hD hS ls hl)
theorem V_ldiv {x y : Int64} (d : Dc cc pc (.ldiv) 1 pc2) (hy : ¬ y = 0) (kk : V l G Z E R own nm cc nL ret pc2 lv (.long (x / y) :: rest) w k n) : V l G Z E R own nm cc nL ret pc lv (.long y :: .long x :: rest) w k n := by
  intro p e s m args below meth c A C H locs hP hD hS ls hl
  obtain ⟨hd, rfl⟩ := d
  exact lv_ldiv C.1 C.2.1 hd hy (kk p e s m args below meth c A C H locs hP hD hS ls hl)
theorem V_lrem {x y : Int64} (d : Dc cc pc (.lrem) 1 pc2) (hy : ¬ y = 0) (kk : V l G Z E R own nm cc nL ret pc2 lv (.long (x - x / y * y) :: rest) w k n) : V l G Z E R own nm cc nL ret pc lv (.long y :: .long x :: rest) w k n := by
  intro p e s m args below meth c A C H locs hP hD hS ls hl
  obtain ⟨hd, rfl⟩ := d
  exact lv_lrem C.1 C.2.1 hd hy (kk p e s m args below meth c A C H locs hP hD hS ls hl)
theorem V_lcmp {x y : Int64} (d : Dc cc pc (.lcmp) 1 pc2)  (kk : V l G Z E R own nm cc nL ret pc2 lv (.int (lg_cmp x y) :: rest) w k n) : V l G Z E R own nm cc nL ret pc lv (.long y :: .long x :: rest) w k n := by
  intro p e s m args below meth c A C H locs hP hD hS ls hl
  obtain ⟨hd, rfl⟩ := d
  exact W.lcmp C.1 C.2.1 hd (kk p e s m args below meth c A C H locs hP hD hS ls hl)
theorem V_i2l {x : Int32} (d : Dc cc pc (.i2l) 1 pc2)  (kk : V l G Z E R own nm cc nL ret pc2 lv (.long x.toInt64 :: rest) w k n) : V l G Z E R own nm cc nL ret pc lv (.int x :: rest) w k n := by
  intro p e s m args below meth c A C H locs hP hD hS ls hl
  obtain ⟨hd, rfl⟩ := d
  exact lv_i2l C.1 C.2.1 hd rfl (kk p e s m args below meth c A C H locs hP hD hS ls hl)
theorem V_l2i {x : Int64} (d : Dc cc pc (.l2i) 1 pc2)  (kk : V l G Z E R own nm cc nL ret pc2 lv (.int x.toInt32 :: rest) w k n) : V l G Z E R own nm cc nL ret pc lv (.long x :: rest) w k n := by
  intro p e s m args below meth c A C H locs hP hD hS ls hl
  obtain ⟨hd, rfl⟩ := d
  exact lv_l2i C.1 C.2.1 hd rfl (kk p e s m args below meth c A C H locs hP hD hS ls hl)
theorem V_dup {va : Value} (d : Dc cc pc (.dup) 1 pc2) (hc : va.category = 1) (kk : V l G Z E R own nm cc nL ret pc2 lv (va :: va :: rest) w k n) : V l G Z E R own nm cc nL ret pc lv (va :: rest) w k n := by
  intro p e s m args below meth c A C H locs hP hD hS ls hl
  obtain ⟨hd, rfl⟩ := d
  exact lv_dup C.1 C.2.1 hd hc (kk p e s m args below meth c A C H locs hP hD hS ls hl)
theorem V_dup2 {va vb : Value} (d : Dc cc pc (.dup2) 1 pc2) (hc : va.category = 1) (hc2 : vb.category = 1) (kk : V l G Z E R own nm cc nL ret pc2 lv (va :: vb :: va :: vb :: rest) w k n) : V l G Z E R own nm cc nL ret pc lv (va :: vb :: rest) w k n := by
  intro p e s m args below meth c A C H locs hP hD hS ls hl
  obtain ⟨hd, rfl⟩ := d
  exact lv_dup2_11 C.1 C.2.1 hd hc hc2 (kk p e s m args below meth c A C H locs hP hD hS ls hl)
theorem V_pop {va : Value} (d : Dc cc pc (.pop) 1 pc2) (hc : va.category = 1) (kk : V l G Z E R own nm cc nL ret pc2 lv (rest) w k n) : V l G Z E R own nm cc nL ret pc lv (va :: rest) w k n := by
  intro p e s m args below meth c A C H locs hP hD hS ls hl
  obtain ⟨hd, rfl⟩ := d
  exact lv_pop C.1 C.2.1 hd hc (kk p e s m args below meth c A C H locs hP hD hS ls hl)
theorem V_icmp_eq {x y : Int32} {off : Int} {tgt : Nat} (d : Dc cc pc (.if_icmp .eq off) 3 pc2) (ht : (pc : Int) + off = (tgt : Int)) (kt : x = y → V l G Z E R own nm cc nL ret tgt lv rest w k n) (kf : ¬ x = y → V l G Z E R own nm cc nL ret pc2 lv rest w k n) : V l G Z E R own nm cc nL ret pc lv (.int y :: .int x :: rest) w k n := by
  intro p e s m args below meth c A C H locs hP hD hS ls hl
  obtain ⟨hd, rfl⟩ := d
  exact lv_icmp_eq C.1 C.2.1 hd ht (fun h => kt h p e s m args below meth c A C H locs hP hD hS ls hl) (fun h => kf h p e s m args below meth c A C H locs hP hD hS ls hl)
theorem V_if_eq {x : Int32} {off : Int} {tgt : Nat} (d : Dc cc pc (.ifCond .eq off) 3 pc2) (ht : (pc : Int) + off = (tgt : Int)) (kt : x = 0 → V l G Z E R own nm cc nL ret tgt lv rest w k n) (kf : ¬ x = 0 → V l G Z E R own nm cc nL ret pc2 lv rest w k n) : V l G Z E R own nm cc nL ret pc lv (.int x :: rest) w k n := by
  intro p e s m args below meth c A C H locs hP hD hS ls hl
  obtain ⟨hd, rfl⟩ := d
  exact lv_if_eq C.1 C.2.1 hd ht (fun h => kt h p e s m args below meth c A C H locs hP hD hS ls hl) (fun h => kf h p e s m args below meth c A C H locs hP hD hS ls hl)
theorem V_icmp_ne {x y : Int32} {off : Int} {tgt : Nat} (d : Dc cc pc (.if_icmp .ne off) 3 pc2) (ht : (pc : Int) + off = (tgt : Int)) (kt : ¬ x = y → V l G Z E R own nm cc nL ret tgt lv rest w k n) (kf : x = y → V l G Z E R own nm cc nL ret pc2 lv rest w k n) : V l G Z E R own nm cc nL ret pc lv (.int y :: .int x :: rest) w k n := by
  intro p e s m args below meth c A C H locs hP hD hS ls hl
  obtain ⟨hd, rfl⟩ := d
  exact lv_icmp_ne C.1 C.2.1 hd ht (fun h => kt h p e s m args below meth c A C H locs hP hD hS ls hl) (fun h => kf h p e s m args below meth c A C H locs hP hD hS ls hl)
theorem V_if_ne {x : Int32} {off : Int} {tgt : Nat} (d : Dc cc pc (.ifCond .ne off) 3 pc2) (ht : (pc : Int) + off = (tgt : Int)) (kt : ¬ x = 0 → V l G Z E R own nm cc nL ret tgt lv rest w k n) (kf : x = 0 → V l G Z E R own nm cc nL ret pc2 lv rest w k n) : V l G Z E R own nm cc nL ret pc lv (.int x :: rest) w k n := by
  intro p e s m args below meth c A C H locs hP hD hS ls hl
  obtain ⟨hd, rfl⟩ := d
  exact lv_if_ne C.1 C.2.1 hd ht (fun h => kt h p e s m args below meth c A C H locs hP hD hS ls hl) (fun h => kf h p e s m args below meth c A C H locs hP hD hS ls hl)
theorem V_icmp_lt {x y : Int32} {off : Int} {tgt : Nat} (d : Dc cc pc (.if_icmp .lt off) 3 pc2) (ht : (pc : Int) + off = (tgt : Int)) (kt : x < y → V l G Z E R own nm cc nL ret tgt lv rest w k n) (kf : ¬ x < y → V l G Z E R own nm cc nL ret pc2 lv rest w k n) : V l G Z E R own nm cc nL ret pc lv (.int y :: .int x :: rest) w k n := by
  intro p e s m args below meth c A C H locs hP hD hS ls hl
  obtain ⟨hd, rfl⟩ := d
  exact lv_icmp_lt C.1 C.2.1 hd ht (fun h => kt h p e s m args below meth c A C H locs hP hD hS ls hl) (fun h => kf h p e s m args below meth c A C H locs hP hD hS ls hl)
theorem V_if_lt {x : Int32} {off : Int} {tgt : Nat} (d : Dc cc pc (.ifCond .lt off) 3 pc2) (ht : (pc : Int) + off = (tgt : Int)) (kt : x < 0 → V l G Z E R own nm cc nL ret tgt lv rest w k n) (kf : ¬ x < 0 → V l G Z E R own nm cc nL ret pc2 lv rest w k n) : V l G Z E R own nm cc nL ret pc lv (.int x :: rest) w k n := by
  intro p e s m args below meth c A C H locs hP hD hS ls hl
  obtain ⟨hd, rfl⟩ := d
  exact lv_if_lt C.1 C.2.1 hd ht (fun h => kt h p e s m args below meth c A C H locs hP hD hS ls hl) (fun h => kf h p e s m args below meth c A C H locs hP hD hS ls hl)
theorem V_icmp_ge {x y : Int32} {off : Int} {tgt : Nat} (d : Dc cc pc (.if_icmp .ge off) 3 pc2) (ht : (pc : Int) + off = (tgt : Int)) (kt : y ≤ x → V l G Z E R own nm cc nL ret tgt lv rest w k n) (kf : ¬ y ≤ x → V l G Z E R own nm cc nL ret pc2 lv rest w k n) : V l G Z E R own nm cc nL ret pc lv (.int y :: .int x :: rest) w k n := by
  intro p e s m args below meth c A C H locs hP hD hS ls hl
  obtain ⟨hd, rfl⟩ := d
  exact lv_icmp_ge C.1 C.2.1 hd ht (fun h => kt h p e s m args below meth c A C H locs hP hD hS ls hl) (fun h => kf h p e s m args below meth c A C H locs hP hD hS ls hl)
theorem V_if_ge {x : Int32} {off : Int} {tgt : Nat} (d : Dc cc pc (.ifCond .ge off) 3 pc2) (ht : (pc : Int) + off = (tgt : Int)) (kt : 0 ≤ x → V l G Z E R own nm cc nL ret tgt lv rest w k n) (kf : ¬ 0 ≤ x → V l G Z E R own nm cc nL ret pc2 lv rest w k n) : V l G Z E R own nm cc nL ret pc lv (.int x :: rest) w k n := by
  intro p e s m args below meth c A C H locs hP hD hS ls hl
  obtain ⟨hd, rfl⟩ := d
  exact lv_if_ge C.1 C.2.1 hd ht (fun h => kt h p e s m args below meth c A C H locs hP hD hS ls hl) (fun h => kf h p e s m args below meth c A C H locs hP hD hS ls hl)
theorem V_icmp_gt {x y : Int32} {off : Int} {tgt : Nat} (d : Dc cc pc (.if_icmp .gt off) 3 pc2) (ht : (pc : Int) + off = (tgt : Int)) (kt : y < x → V l G Z E R own nm cc nL ret tgt lv rest w k n) (kf : ¬ y < x → V l G Z E R own nm cc nL ret pc2 lv rest w k n) : V l G Z E R own nm cc nL ret pc lv (.int y :: .int x :: rest) w k n := by
  intro p e s m args below meth c A C H locs hP hD hS ls hl
  obtain ⟨hd, rfl⟩ := d
  exact lv_icmp_gt C.1 C.2.1 hd ht (fun h => kt h p e s m args below meth c A C H locs hP hD hS ls hl) (fun h => kf h p e s m args below meth c A C H locs hP hD hS ls hl)
theorem V_if_gt {x : Int32} {off : Int} {tgt : Nat} (d : Dc cc pc (.ifCond .gt off) 3 pc2) (ht : (pc : Int) + off = (tgt : Int)) (kt : 0 < x → V l G Z E R own nm cc nL ret tgt lv rest w k n) (kf : ¬ 0 < x → V l G Z E R own nm cc nL ret pc2 lv rest w k n) : V l G Z E R own nm cc nL ret pc lv (.int x :: rest) w k n := by
  intro p e s m args below meth c A C H locs hP hD hS ls hl
  obtain ⟨hd, rfl⟩ := d
  exact lv_if_gt C.1 C.2.1 hd ht (fun h => kt h p e s m args below meth c A C H locs hP hD hS ls hl) (fun h => kf h p e s m args below meth c A C H locs hP hD hS ls hl)
theorem V_icmp_le {x y : Int32} {off : Int} {tgt : Nat} (d : Dc cc pc (.if_icmp .le off) 3 pc2) (ht : (pc : Int) + off = (tgt : Int)) (kt : x ≤ y → V l G Z E R own nm cc nL ret tgt lv rest w k n) (kf : ¬ x ≤ y → V l G Z E R own nm cc nL ret pc2 lv rest w k n) : V l G Z E R own nm cc nL ret pc lv (.int y :: .int x :: rest) w k n := by
  intro p e s m args below meth c A C H locs hP hD hS ls hl
  obtain ⟨hd, rfl⟩ := d
  exact lv_icmp_le C.1 C.2.1 hd ht (fun h => kt h p e s m args below meth c A C H locs hP hD hS ls hl) (fun h => kf h p e s m args below meth c A C H locs hP hD hS ls hl)
theorem V_if_le {x : Int32} {off : Int} {tgt : Nat} (d : Dc cc pc (.ifCond .le off) 3 pc2) (ht : (pc : Int) + off = (tgt : Int)) (kt : x ≤ 0 → V l G Z E R own nm cc nL ret tgt lv rest w k n) (kf : ¬ x ≤ 0 → V l G Z E R own nm cc nL ret pc2 lv rest w k n) : V l G Z E R own nm cc nL ret pc lv (.int x :: rest) w k n := by
  intro p e s m args below meth c A C H locs hP hD hS ls hl
  obtain ⟨hd, rfl⟩ := d
  exact lv_if_le C.1 C.2.1 hd ht (fun h => kt h p e s m args below meth c A C H locs hP hD hS ls hl) (fun h => kf h p e s m args below meth c A C H locs hP hD hS ls hl)
theorem V_goto {off : Int} {tgt : Nat} (d : Dc cc pc (.goto off) 3 pc2) (ht : (pc : Int) + off = (tgt : Int)) (kk : V l G Z E R own nm cc nL ret tgt lv rest w k n) : V l G Z E R own nm cc nL ret pc lv rest w k n := by
  intro p e s m args below meth c A C H locs hP hD hS ls hl
  obtain ⟨hd, rfl⟩ := d
  exact lv_goto C.1 C.2.1 hd ht (kk p e s m args below meth c A C H locs hP hD hS ls hl)
theorem V_tin {dflt lo hi : Int} {offs : Array Int} {len : Nat} {x : Int32} (off : Int) {tgt : Nat} (d : Dc cc pc (.tableswitch dflt lo hi offs) len pc2) (h1 : ¬ x.toInt < lo) (h2 : ¬ hi < x.toInt) (ho : offs[(x.toInt - lo).toNat]? = some off) (ht : (pc : Int) + off = (tgt : Int)) (kk : V l G Z E R own nm cc nL ret tgt lv rest w k n) : V l G Z E R own nm cc nL ret pc lv (.int x :: rest) w k n := by
  intro p e s m args below meth c A C H locs hP hD hS ls hl
  obtain ⟨hd, rfl⟩ := d
  exact lv_tableIn C.1 C.2.1 hd h1 h2 ho ht (kk p e s m args below meth c A C H locs hP hD hS ls hl)
theorem V_tout {dflt lo hi : Int} {offs : Array Int} {len : Nat} {x : Int32} {tgt : Nat} (d : Dc cc pc (.tableswitch dflt lo hi offs) len pc2) (h1 : x.toInt < lo ∨ hi < x.toInt) (ht : (pc : Int) + dflt = (tgt : Int)) (kk : V l G Z E R own nm cc nL ret tgt lv rest w k n) : V l G Z E R own nm cc nL ret pc lv (.int x :: rest) w k n := by
  intro p e s m args below meth c A C H locs hP hD hS ls hl
  obtain ⟨hd, rfl⟩ := d
  exact lv_tableOut C.1 C.2.1 hd h1 ht (kk p e s m args below meth c A C H locs hP hD hS ls hl)
theorem V_ifnonnull {x : Nat} {off : Int} {tgt : Nat} (d : Dc cc pc (.ifnonnull off) 3 pc2) (ht : (pc : Int) + off = (tgt : Int)) (kk : V l G Z E R own nm cc nL ret tgt lv rest w k n) : V l G Z E R own nm cc nL ret pc lv (.ref x :: rest) w k n := by
  intro p e s m args below meth c A C H locs hP hD hS ls hl
  obtain ⟨hd, rfl⟩ := d
  exact lv_ifnonnull C.1 C.2.1 hd ht (kk p e s m args below meth c A C H locs hP hD hS ls hl)
theorem V_ifnonnullN {off : Int} (d : Dc cc pc (.ifnonnull off) 3 pc2) (kk : V l G Z E R own nm cc nL ret pc2 lv rest w k n) : V l G Z E R own nm cc nL ret pc lv (.null :: rest) w k n := by
  intro p e s m args below meth c A C H locs hP hD hS ls hl
  obtain ⟨hd, rfl⟩ := d
  exact lv_ifnonnullN C.1 C.2.1 hd (kk p e s m args below meth c A C H locs hP hD hS ls hl)
theorem V_get {a index ci N : Nat} {C0 : String} {T : u_T} {fs : List Value} {v : Value} (d : Dc cc pc (.getfield index) 3 pc2) (hin : ∀ w ∈ u_ws C0 T N, w ∈ tg_tbl) (q0 : Nat) (he : w[q0]? = some (a, .inr (ci, fs))) (hc : classes[ci]? = some (C0, T, N)) (f : Nat) (hk : f < N) (hm : Cond.fieldLink own index (T f).1 (T f).2.1 (T f).2.2.1 ∈ tg_tbl) (hv : fs[f]? = some v) (kk : V l G Z E R own nm cc nL ret pc2 lv (v :: rest) w k n) : V l G Z E R own nm cc nL ret pc lv (.ref a :: rest) w k n := by
  intro p e s m args below meth c A C H locs hP hD hS ls hl
  obtain ⟨hd, rfl⟩ := d
  exact va_get (D := G.1) C.1 C.2.1 C.2.2.2.2.2.1 hin C.2.2.2.2.1 C.2.2.2.2.2.2.2.2.2.1.1 hP q0 he hc f hk (C.2.2.2.2.2.1 _ hm) (fun _ h9 => h9) hv hd (kk p e s m args below meth c A C H locs hP hD hS ls hl)
theorem V_put {a index ci N : Nat} {C0 : String} {T : u_T} {fs : List Value} {v : Value} {ty : FieldType} {w' : va_W} (d : Dc cc pc (.putfield index) 3 pc2) (hin : ∀ w ∈ u_ws C0 T N, w ∈ tg_tbl) (ty0 : Nat → FieldType) (hty : ∀ k, k < N → parseFieldDescriptor (T k).2.2.1 = some (ty0 k)) (hnm : ∀ a, a < N → ∀ b, b < N → a ≠ b → (T a).2.1 ≠ (T b).2.1) (q0 : Nat) (he : w[q0]? = some (a, .inr (ci, fs))) (hc : classes[ci]? = some (C0, T, N)) (f : Nat) (hk : f < N) (hm : Cond.fieldLink own index (T f).1 (T f).2.1 (T f).2.2.1 ∈ tg_tbl) (hfin : (T f).2.2.2 = false) (ht : ty0 f = ty) (hn : narrow ty v = v) (hfit : fits ty v = true) (hlen : f < fs.length) (hw : w.set q0 (a, .inr (ci, fs.set f v)) = w') (kk : V l G Z E R own nm cc nL ret pc2 lv rest w' k n) : V l G Z E R own nm cc nL ret pc lv (v :: .ref a :: rest) w k n := by
  intro p e s m args below meth c A C H locs hP hD hS ls hl
  obtain ⟨hd, rfl⟩ := d
  subst hw
  subst ht
  exact va_put (D := G.1) C.1 C.2.1 C.2.2.2.2.2.1 hin ty0 hty hnm C.2.2.2.2.1 C.2.2.2.2.2.2.2.2.2.1.1 hP hD hS q0 he hc f hk (C.2.2.2.2.2.1 _ hm) (fun _ h9 => h9) hfin (hty f hk) hn hfit hlen hd (fun H1 locs1 a1 a2 a3 => kk p e s m args below meth c A C H1 locs1 a1 a2 a3 ls hl)
theorem V_putF {a index ci N : Nat} {C0 : String} {T : u_T} {fs : List Value} {v : Value} {ty : FieldType} {w' : va_W} (d : Dc cc pc (.putfield index) 3 pc2) (hnm0 : nm = "<init>") (hin : ∀ w ∈ u_ws C0 T N, w ∈ tg_tbl) (ty0 : Nat → FieldType) (hty : ∀ k, k < N → parseFieldDescriptor (T k).2.2.1 = some (ty0 k)) (hnm : ∀ a, a < N → ∀ b, b < N → a ≠ b → (T a).2.1 ≠ (T b).2.1) (q0 : Nat) (he : w[q0]? = some (a, .inr (ci, fs))) (hc : classes[ci]? = some (C0, T, N)) (f : Nat) (hk : f < N) (hm : Cond.fieldLink own index (T f).1 (T f).2.1 (T f).2.2.1 ∈ tg_tbl) (hfin : (T f).2.2.2 = true) (hdecl : (T f).1 = own) (ht : ty0 f = ty) (hn : narrow ty v = v) (hfit : fits ty v = true) (hlen : f < fs.length) (hw : w.set q0 (a, .inr (ci, fs.set f v)) = w') (kk : V l G Z E R own nm cc nL ret pc2 lv rest w' k n) : V l G Z E R own nm cc nL ret pc lv (v :: .ref a :: rest) w k n := by
  intro p e s m args below meth c A C H locs hP hD hS ls hl
  obtain ⟨hd, rfl⟩ := d
  subst hw
  subst ht
  exact va_putF (D := G.1) C.1 C.2.1 C.2.2.2.2.2.1 hin ty0 hty hnm C.2.2.2.2.1 C.2.2.2.2.2.2.2.2.2.1.1 hP hD hS q0 he hc f hk (C.2.2.2.2.2.1 _ hm) (fun _ h9 => h9) hfin (C.2.2.2.2.2.2.2.2.1.trans hnm0) hdecl (hty f hk) hn hfit hlen hd (fun H1 locs1 a1 a2 a3 => kk p e s m args below meth c A C H1 locs1 a1 a2 a3 ls hl)
theorem V_iald {a N : Nat} {f : Nat → Int32} {i : Int32} (d : Dc cc pc (.iaload) 1 pc2) (q0 : Nat) (he : w[q0]? = some (a, .inl (G.2.1, N, .inl f))) (hi : vp_in i N) (kk : V l G Z E R own nm cc nL ret pc2 lv (.int (f i.toNatClampNeg) :: rest) w k n) : V l G Z E R own nm cc nL ret pc lv (.int i :: .ref a :: rest) w k n := by
  intro p e s m args below meth c A C H locs hP hD hS ls hl
  obtain ⟨hd, rfl⟩ := d
  exact va_iald (D := G.1) C.1 C.2.1 C.2.2.2.2.2.2.2.2.2.1.1 hP q0 0 he rfl hi hd (kk p e s m args below meth c A C H locs hP hD hS ls hl)
theorem V_iast {a N : Nat} {f : Nat → Int32} {i x : Int32} {w' : va_W} (d : Dc cc pc (.iastore) 1 pc2) (q0 : Nat) (he : w[q0]? = some (a, .inl (G.2.1, N, .inl f))) (hi : vp_in i N) (hw : w.set q0 (a, .inl (G.2.1, N, .inl (upd f i.toNatClampNeg x))) = w') (kk : V l G Z E R own nm cc nL ret pc2 lv rest w' k n) : V l G Z E R own nm cc nL ret pc lv (.int x :: .int i :: .ref a :: rest) w k n := by
  intro p e s m args below meth c A C H locs hP hD hS ls hl
  obtain ⟨hd, rfl⟩ := d
  subst hw
  exact va_iast (D := G.1) C.1 C.2.1 C.2.2.2.2.2.2.2.2.2.1.1 hP hD hS q0 0 he rfl hi hd (fun H1 locs1 a1 a2 a3 => kk p e s m args below meth c A C H1 locs1 a1 a2 a3 ls hl)
theorem V_zald {a N : Nat} {f : Nat → Int32} {i : Int32} (d : Dc cc pc (.baload) 1 pc2) (q0 : Nat) (he : w[q0]? = some (a, .inl (G.2.2.1, N, .inl f))) (hi : vp_in i N) (kk : V l G Z E R own nm cc nL ret pc2 lv (.int (f i.toNatClampNeg) :: rest) w k n) : V l G Z E R own nm cc nL ret pc lv (.int i :: .ref a :: rest) w k n := by
  intro p e s m args below meth c A C H locs hP hD hS ls hl
  obtain ⟨hd, rfl⟩ := d
  exact va_zald (D := G.1) C.1 C.2.1 C.2.2.2.2.2.2.2.2.2.1.1 hP q0 1 he rfl hi hd (kk p e s m args below meth c A C H locs hP hD hS ls hl)
theorem V_zast {a N : Nat} {f : Nat → Int32} {i x : Int32} {w' : va_W} (d : Dc cc pc (.bastore) 1 pc2) (q0 : Nat) (he : w[q0]? = some (a, .inl (G.2.2.1, N, .inl f))) (hi : vp_in i N) (hw : w.set q0 (a, .inl (G.2.2.1, N, .inl (upd f i.toNatClampNeg (vp_nar .boolean x)))) = w') (kk : V l G Z E R own nm cc nL ret pc2 lv rest w' k n) : V l G Z E R own nm cc nL ret pc lv (.int x :: .int i :: .ref a :: rest) w k n := by
  intro p e s m args below meth c A C H locs hP hD hS ls hl
  obtain ⟨hd, rfl⟩ := d
  subst hw
  exact va_zast (D := G.1) C.1 C.2.1 C.2.2.2.2.2.2.2.2.2.1.1 hP hD hS q0 1 he rfl hi hd (fun H1 locs1 a1 a2 a3 => kk p e s m args below meth c A C H1 locs1 a1 a2 a3 ls hl)
theorem V_alen {a : Nat} {cA : ClassId} {x : vp_A} {ty : FieldType} {v : Int32} (d : Dc cc pc (.arraylength) 1 pc2) (q0 t0 : Nat) (he : w[q0]? = some (a, .inl (cA, x))) (ht : (tg_T G)[t0]? = some (cA, ty)) (hv : Int32.ofNat x.1 = v) (kk : V l G Z E R own nm cc nL ret pc2 lv (.int v :: rest) w k n) : V l G Z E R own nm cc nL ret pc lv (.ref a :: rest) w k n := by
  intro p e s m args below meth c A C H locs hP hD hS ls hl
  obtain ⟨hd, rfl⟩ := d
  exact va_alen (D := G.1) C.1 C.2.1 C.2.2.2.2.2.2.2.2.2.1.1 hP q0 t0 he ht hv hd (kk p e s m args below meth c A C H locs hP hD hS ls hl)
theorem V_aald {a N : Nat} {f : Nat → Option Nat} {i : Int32} {v : Value} (d : Dc cc pc (.aaload) 1 pc2) (q0 : Nat) (he : w[q0]? = some (a, .inl (G.2.2.2.1, N, .inr (.inr (.inr (.inr f)))))) (hi : vp_in i N) (hv : va_rf (f i.toNatClampNeg) = v) (kk : V l G Z E R own nm cc nL ret pc2 lv (v :: rest) w k n) : V l G Z E R own nm cc nL ret pc lv (.int i :: .ref a :: rest) w k n := by
  intro p e s m args below meth c A C H locs hP hD hS ls hl
  obtain ⟨hd, rfl⟩ := d
  subst hv
  exact va_aldq (D := G.1) C.1 C.2.1 C.2.2.2.2.2.2.2.2.2.1.1 hP q0 2 he rfl hi hd (kk p e s m args below meth c A C H locs hP hD hS ls hl)
theorem V_aast {a N v : Nat} {vs : List Value} {f : Nat → Option Nat} {i : Int32} {w' : va_W} (d : Dc cc pc (.aastore) 1 pc2) (q0 qk : Nat) (he : w[q0]? = some (a, .inl (G.2.2.2.1, N, .inr (.inr (.inr (.inr f)))))) (hv : w[qk]? = some (v, .inr (5, vs))) (hi : vp_in i N) (hw : w.set q0 (a, .inl (G.2.2.2.1, N, .inr (.inr (.inr (.inr (va_up f i.toNatClampNeg (some v))))))) = w') (kk : V l G Z E R own nm cc nL ret pc2 lv rest w' k n) : V l G Z E R own nm cc nL ret pc lv (.ref v :: .int i :: .ref a :: rest) w k n := by
  intro p e s m args below meth c A C H locs hP hD hS ls hl
  obtain ⟨hd, rfl⟩ := d
  subst hw
  exact va_astq (D := G.1) (r := (RX5, TX5, 15)) C.1 C.2.1 C.2.2.2.2.2.2.2.2.2.1.1 hP hD hS q0 2 qk 5 he rfl hv rfl hi hd (fun H1 locs1 a1 a2 a3 => kk p e s m args below meth c A C H1 locs1 a1 a2 a3 ls hl)
theorem V_gcho {index : Nat} {host : String} (d : Dc cc pc (.getstatic index) 3 pc2) (hm : Cond.fieldLinkNest own index "TramGod" "CHOOSE" "[I" host ∈ tg_nest) (kk : V l G Z E R own nm cc nL ret pc2 lv (.ref G.2.2.2.2 :: rest) w k n) : V l G Z E R own nm cc nL ret pc lv rest w k n := by
  intro p e s m args below meth c A C H locs hP hD hS ls hl
  obtain ⟨hd, rfl⟩ := d
  exact va_getsN C.1 C.2.1 C.2.2.2.2.2.2.2.2.2.1.2.1 hS C.2.2.2.2.1 (va_Nw.use rfl (C.2.2.2.2.2.2.2.2.2.1.2.2.2.1 _ hm)) (fun _ h => h) hd (kk p e s m args below meth c A C H locs hP hD hS ls hl)
theorem V_acho {i : Int32} (d : Dc cc pc (.iaload) 1 pc2) (hi : vp_in i 84) (kk : V l G Z E R own nm cc nL ret pc2 lv (.int (tg_chf i.toNatClampNeg) :: rest) w k n) : V l G Z E R own nm cc nL ret pc lv (.int i :: .ref G.2.2.2.2 :: rest) w k n := by
  intro p e s m args below meth c A C H locs hP hD hS ls hl
  obtain ⟨hd, rfl⟩ := d
  exact va_ti C.1 C.2.1 C.2.2.2.2.2.2.2.2.2.1.2.2.1 hS hi rfl hd (kk p e s m args below meth c A C H locs hP hD hS ls hl)
theorem V_objInit {a index : Nat} (d : Dc cc pc (.invokespecial index) 3 pc2) (hm : Cond.methodLink own index Lib.objectInit ∈ tg_tbl) (h1 : Cond.instanceMethod Lib.objectInit ∈ tg_tbl) (h2 : Cond.code Lib.objectInit ⟨#[0xb1]⟩ 1 none ∈ tg_tbl) (hf : 1 ≤ R.frames) (hR : (rest.map fun v => v.category).sum + 12 ≤ R.locals) (kk : V l G Z E R own nm cc nL ret pc2 lv rest w k n) : V l G Z E R own nm cc nL ret pc lv (.ref a :: rest) w k n := by
  intro p e s m args below meth c A C H locs hP hD hS ls hl
  obtain ⟨hd, rfl⟩ := d
  refine W.objInit C.1 C.2.1 C.2.2.2.2.1 (C.2.2.2.2.2.1 _ hm) (C.2.2.2.2.2.1 _ h1) (C.2.2.2.2.2.1 _ h2) rfl (by rw [C.2.2.2.1]; exact hl.1) rfl hd hf (by simpa [JFrame.monitorRoom] using hR) ?_
  exact (kk p e s m args below meth c A C H locs hP hD hS ls hl)
/-- a method's end: what it answers and what the cells are -/
def tg_Qc (G : tg_G) (A : Nat → Prop) (Q : Option Value → va_W → Prop) : Array Value → State → Outcome → State → Prop := fun _ st oc t => (∃ (v : Option Value) (w' : va_W), oc = .returned v ∧ Q v w' ∧ va_P G.1 classes w' t.heap ∧ va_D A w') ∧ va_F A st t
def tg_Zm (G : tg_G) (Q : Option Value → va_W → Prop) (mc ms : Nat) : tg_Z := fun s args below A => MQ below (tg_Qc G A Q) args s mc ms A
def tg_E0 : tg_E := fun _ _ => True
theorem V_ret {v : Int32} {Q : Option Value → va_W → Prop} (d : Dc cc pc (.ireturn) 1 pc2) (hr : ret = some .int) (hq : Q (some (.int v)) w) : V l G (tg_Zm G Q k n) E R own nm cc nL ret pc lv [.int v] w k n := by
  intro p e s m args below meth c A C H locs hP hD hS ls hl
  obtain ⟨hd, rfl⟩ := d
  subst hr
  exact W.iret C.1 C.2.1 C.2.2.1 (fun t ht hW => ⟨⟨_, w, rfl, hq, by rw [ht]; exact hP, hD⟩, hS.F ht⟩) hS.2.2 hd C.2.2.2.2.2.2.1
theorem V_zret {v : Int32} {Q : Option Value → va_W → Prop} (d : Dc cc pc (.ireturn) 1 pc2) (hr : ret = some .boolean) (hv : narrow .boolean (.int v) = .int v) (hq : Q (some (.int v)) w) : V l G (tg_Zm G Q k n) E R own nm cc nL ret pc lv [.int v] w k n := by
  intro p e s m args below meth c A C H locs hP hD hS ls hl
  obtain ⟨hd, rfl⟩ := d
  subst hr
  exact W.zret C.1 C.2.1 C.2.2.1 hv (fun t ht hW => ⟨⟨_, w, rfl, hq, by rw [ht]; exact hP, hD⟩, hS.F ht⟩) hS.2.2 hd C.2.2.2.2.2.2.1
theorem V_lret {v : Int64} {Q : Option Value → va_W → Prop} (d : Dc cc pc (.lreturn) 1 pc2) (hr : ret = some .long) (hq : Q (some (.long v)) w) : V l G (tg_Zm G Q k n) E R own nm cc nL ret pc lv [.long v] w k n := by
  intro p e s m args below meth c A C H locs hP hD hS ls hl
  obtain ⟨hd, rfl⟩ := d
  subst hr
  exact W.lret C.1 C.2.1 C.2.2.1 (fun t ht hW => ⟨⟨_, w, rfl, hq, by rw [ht]; exact hP, hD⟩, hS.F ht⟩) hS.2.2 hd C.2.2.2.2.2.2.1
theorem V_vret {Q : Option Value → va_W → Prop} (d : Dc cc pc (.return_) 1 pc2) (hr : ret = none) (hq : Q none w) : V l G (tg_Zm G Q k n) E R own nm cc nL ret pc lv [] w k n := by
  intro p e s m args below meth c A C H locs hP hD hS ls hl
  obtain ⟨hd, rfl⟩ := d
  subst hr
  exact W.vret C.1 C.2.1 C.2.2.1 (fun t ht hW => ⟨⟨_, w, rfl, hq, by rw [ht]; exact hP, hD⟩, hS.F ht⟩) hS.2.2 hd C.2.2.2.2.2.2.1
theorem V_widen {k' n' : Nat} {st : List Value} (h1 : k ≤ k') (h2 : n ≤ n') (kk : V l G Z E R own nm cc nL ret pc lv st w k' n') : V l G Z E R own nm cc nL ret pc lv st w k n := by
  intro p e s m args below meth c A C H locs hP hD hS ls hl
  exact W.widen h1 h2 (kk p e s m args below meth c A C H locs hP hD hS ls hl)
theorem V_lv {lv' : List (Nat × Value)} {st : List Value} (ks : List Nat) (h : lv_pick lv ks = lv') (kk : V l G Z E R own nm cc nL ret pc lv' st w k n) : V l G Z E R own nm cc nL ret pc lv st w k n := by
  intro p e s m args below meth c A C H locs hP hD hS ls hl
  exact kk p e s m args below meth c A C H locs hP hD hS ls (lv_sub hl ks h)
theorem V_w {w' : va_W} {st : List Value} (is : List Nat) (hn : va_nd is = true) (h : is.map (fun i => w[i]?) = w'.map some) (kk : V l G Z E R own nm cc nL ret pc lv st w' k n) : V l G Z E R own nm cc nL ret pc lv st w k n := by
  intro p e s m args below meth c A C H locs hP hD hS ls hl
  refine kk p e s m args below meth c A C H locs (hP.sub is ?_) (hD.sub is hn h) hS ls hl
  have h2 := congrArg (fun q => q.filterMap id) h
  simpa [List.filterMap_map, Function.comp_def] using h2


theorem tg_nest_warm {s U : State} (hW : s.WarmedH U.vm) (h : ∀ x ∈ tg_nest, va_Nw x s) : ∀ x ∈ tg_nest, va_Nw x U := by
  have h' := h
  simp only [tg_nest, List.forall_mem_cons] at h ⊢
  obtain ⟨h1, h2, h3, h4, h5, h6, -⟩ := h
  exact ⟨h1.warmM hW, h2.warmM hW, h3.warmM hW, h4.warmM hW, h5.warmM hW, h6.warmF hW, fun _ h => absurd h List.not_mem_nil⟩
theorem tg_nest_same {s U : State} (hv : s.vm = U.vm) (h : ∀ x ∈ tg_nest, va_Nw x s) : ∀ x ∈ tg_nest, va_Nw x U := by
  simp only [tg_nest, List.forall_mem_cons] at h ⊢
  obtain ⟨h1, h2, h3, h4, h5, h6, -⟩ := h
  exact ⟨h1.same rfl hv, h2.same rfl hv, h3.same rfl hv, h4.same rfl hv, h5.same rfl hv, h6.same rfl hv, fun _ h => absurd h List.not_mem_nil⟩
/-- a method's start -/
def tg_Pc (G : tg_G) (w : va_W) (sz : Nat) (U : State) : Prop := U.heap.size = sz ∧ va_P G.1 classes w U.heap ∧ va_D (fun _ => True) w ∧ tg_K G (va_A w sz) U
/-- THE CONTRACT: from the world w, with these arguments, the method returns and Q holds of its answer and of the world behind it -/
def Mt (l : Launch) (G : tg_G) (y : MethodName) (cc : ByteArray) (nL : Nat) (ret : Option FieldType) (rm : Room) (args : List Value) (w : va_W) (Q : Option Value → va_W → Prop) : Prop :=
  ∀ sz : Nat, Met l y (Cond.code y cc nL ret :: tg_tbl) rm (va_Pc args (tg_Pc G w sz)) (tg_Qc G (va_A w sz) Q) rm.cells rm.slots (va_A w sz)
theorem Mt_of {y : MethodName} {rm : Room} {av : List Value} {Q : Option Value → va_W → Prop} (hy : plainName y.cls = true) (hls : (lg_sl av).length ≤ nL) {lv : List (Nat × Value)} (hlv : lv_args 0 av = lv) (kk : V l G (tg_Zm G Q rm.cells rm.slots) tg_E0 rm y.cls y.name cc nL ret 0 lv [] w 0 0) : Mt l G y cc nL ret rm av w Q := by
  intro sz
  refine Met.ofW (cc := cc) (maxL := nL) (ret := ret) hy rfl ?_
  intro p e s m args below meth c s₁ B hml hv
  obtain ⟨rfl, hsz, hP, hD0, hK⟩ := hv
  subst hsz
  have hts := atoms_spec (ws := Cond.code y cc nL ret :: tg_tbl) B.pre
  have hown : s.vm.findClass y.cls = some m.cls := findClass_of_methodNamed B.named
  have hnm : meth.name = y.name := (name_of_methodNamed B.named B.method).1
  have hl := lv_entry av (n := nL) hls
  rw [hlv] at hl
  rw [lg_entry_eq]
  exact kk p e s m _ below meth c (va_A w s.heap.size) ⟨B.exec, B.bytes, B.returns, hml, hown, fun w hw => hts w (List.mem_cons_of_mem _ hw), B.notSynchronized, fun q h => Or.inr h, hnm, hK, trivial⟩ s.heap [] hP (hD0.self) va_S.rf _ hl
theorem tg_blind {av : List Value} {sz : Nat} : FrameBlind (va_Pc av (tg_Pc G w sz)) := by
  intro a U g mk q
  obtain ⟨q0, q1, q2, q3, q4, q5, q6, q7, q8⟩ := q
  exact ⟨q0, q1, q2, q3, va_K.moved (u := U) (U := U.calling g mk a) (Vm.Alike.refl U.vm) q4, q5, q6, tg_nest_same (s := U) (U := U.calling g mk a) rfl q7, va_AO.moved (u := U) (U := U.calling g mk a) (Vm.Alike.refl U.vm) q8⟩
/-- what the callee finds -/
theorem tg_pc {A : Nat → Prop} {s U : State} {H : Heap} {locs : List Loc} {wc : va_W} (hK : tg_K G A s) (hS : va_S A s.heap H locs) (hA : ∀ q, va_A wc H.size q → A q) (hP : va_P G.1 classes wc H) (hD : va_D (fun _ => True) wc) (hU : U.heap = H) (hW : s.WarmedH U.vm) : tg_Pc G wc H.size U := by
  obtain ⟨k1, k2, k3, k4, k5⟩ := hK
  refine ⟨by rw [hU], by rw [hU]; exact hP, hD, va_K.moved hW.alike k1, ?_, ?_, tg_nest_warm hW k4, va_AO.moved hW.alike k5⟩
  · have h1 := (va_Z.moved hW.alike k2).kept (H1 := U.heap) (fun a h1 h2 => by rw [hU]; exact hS.2.1 a h1 h2)
    exact h1.narrow hA
  · have h1 := (va_T.moved hW.alike k3).kept (H1 := U.heap) (fun a h1 h2 => by rw [hU]; exact hS.2.1 a h1 h2)
    exact h1.narrow hA


/-- behind a call: the rest of the world beside what came back -/
theorem V_after {p : Program} {e : Env} {s : State} {m : MethodId} {args : Array Value} {below : List Frame} {meth : Method} {c : Code} {A : Nat → Prop} {H : Heap} {locs : List Loc} {ls : Array Slot} {wc wr : va_W} {st0 : List Value} {mc ms : Nat} {a : Array Value} {Q : Option Value → va_W → Prop}
    (C : tg_C G E own nm cc nL ret A p s m args meth c) (hP : va_P G.1 classes w H) (hD : va_D A w) (hS : va_S A s.heap H locs) (hl : lv_has ls nL lv)
    (isC isR : List Nat) (hC : isC.map (fun i => w[i]?) = wc.map some) (hR : isR.map (fun i => w[i]?) = wr.map some) (hn : va_nd isR = true) (hdis : ∀ i ∈ isR, i ∉ isC)
    (hr : va_Run p l e R s m args below meth c H locs k n mc ms (F0 m pc ls st0) rest (tg_Qc G (va_A wc H.size) Q a) (va_A wc H.size))
    (kk : ∀ (v : Option Value) (w1 : va_W), Q v w1 → V l G Z E R own nm cc nL ret (pc + 3) lv (v.toList ++ rest) (wr ++ w1) (k + mc) (n + ms)) : W p l e R s m args below meth c H locs k n (Z s args below A) (F0 m pc ls st0) := by
  intro T hT X
  have hA := C.2.2.2.2.2.2.2.1
  have hF := va_free (wc := wc) hD hS hA isC hC
  obtain ⟨v, st₀, t, T', L, h0, X', hL, e1, e2, ⟨⟨v', w1, hv, hq, hP1, hD1⟩, hz, hk⟩, st⟩ := hr T hT X
  cases hv
  rw [h0] at hz hk
  rw [← e1] at hP1 hz hk
  obtain ⟨hP2, hD2⟩ := va_join hP hD isC isR hC hR hn hdis hk hF hP1 hD1
  have hS2 : va_S A s.heap T'.heap (locs ++ L) := ⟨Nat.le_trans hS.1 hz, fun q h1 h2 => by rw [hk q (Nat.lt_of_lt_of_le h1 hS.1) (fun z => h2 (hF q z))]; exact hS.2.1 q h1 h2, fun q hq => by
      rcases List.mem_append.mp hq with h | h
      · exact hS.2.2 q h
      · exact hF _ (hL q h)⟩
  obtain ⟨t2, a1, b1⟩ := kk v w1 hq p e s m args below meth c A C T'.heap (locs ++ L) hP2 hD2 hS2 ls hl T' rfl X'
  exact ⟨t2, st t2 a1, b1⟩
theorem tg_map (w : va_W) : (List.range w.length).map (fun i => w[i]?) = w.map some := by
  apply List.ext_getElem?
  intro i
  by_cases h : i < w.length
  · simp [h]
  · simp [h]
theorem tg_good {y : MethodName} {c2 : ByteArray} {n2 : Nat} {r2 : Option FieldType} (h : Cond.code y c2 n2 r2 ∈ tg_tbl) : GoodIn tg_tbl (Cond.code y c2 n2 r2 :: tg_tbl) := by
  intro w hw
  have hm : w ∈ tg_tbl := by
    rcases List.mem_cons.mp hw with rfl | h2
    · exact h
    · exact h2
  exact ⟨hm, good_of_word (List.mem_filter.mp hm).2⟩

theorem V_callV {y : MethodName} {c2 : ByteArray} {n2 na index : Nat} {r2 : Option FieldType} {rm : Room} {As : List Value} {st : List Value} {Q : Option Value → va_W → Prop} {b : Nat} {ci : Nat} {fs : List Value} {r : vw_C} (d : Dc cc pc (.invokevirtual index) 3 pc2) (hM : Mt l G y c2 n2 r2 rm (.ref b :: As) w Q) (hcode : Cond.code y c2 n2 r2 ∈ tg_tbl) (hlink : Cond.methodLink own index y ∈ tg_tbl) (hini : Cond.initialized y.cls ∈ tg_tbl) (hin : Cond.instanceMethod y ∈ tg_tbl) (hsel : Cond.selects r.1 y y ∈ tg_tbl) (q0 : Nat) (hq : w[q0]? = some (b, .inr (ci, fs))) (hci : classes[ci]? = some r) (hd2 : y.cls ≠ "java/lang/invoke/MethodHandle" ∧ y.cls ≠ "java/lang/invoke/VarHandle" ∧ (parseMethodDescriptor y.desc).map (fun d => d.parameters.length) = some na) (hna : As.length = na) (hR : rm.frames + 1 ≤ R.frames ∧ 8 + (n2 + 11) + rm.locals ≤ R.locals) (hcs : k + rm.cells ≤ R.cells ∧ n + rm.slots ≤ R.slots) (hst : (As.reverse ++ .ref b :: rest) = st) (hroom : (rest.map fun v => v.category).sum ≤ 8) (kk : ∀ (v : Option Value) (w1 : va_W), Q v w1 → V l G Z E R own nm cc nL ret pc2 lv (v.toList ++ rest) w1 (k + rm.cells) (n + rm.slots)) : V l G Z E R own nm cc nL ret pc lv st w k n := by
  intro p e s m args below meth c A C H locs hP hD hS ls hl
  obtain ⟨hd, rfl⟩ := d
  subst hst
  have hts := C.2.2.2.2.2.1
  have hPc := hP
  have hDc := hD
  have hF := va_free (wc := w) hD hS C.2.2.2.2.2.2.2.1 (List.range w.length) (tg_map w)
  have hrun := va_runV (g := F0 m pc ls ((As.reverse ++ .ref b :: rest))) (locs := locs) (cells := k) (slots := n) (e := e) (below := below) (meth := meth) ⟨C.1, C.2.1, C.2.2.2.1, C.2.2.2.2.1, hts⟩ (hM H.size) (⟨callB_of na hts (tg_good hcode) rfl rfl rfl (hts _ hini) (hts _ hlink) hd2 hR, hts _ hin, hts _ hsel⟩) (⟨tg_blind, va_recv C.2.2.2.2.2.2.2.2.2.1.1 hP hci hq, fun U hU hW => ⟨rfl, tg_pc C.2.2.2.2.2.2.2.2.2.1 hS hF hPc (hDc.weaken (fun _ _ _ _ => trivial)) hU hW⟩⟩) rfl hna hl.1 rfl (lv_room hroom) hd hcs
  exact V_after (wr := []) C hP hD hS hl (List.range w.length) [] (tg_map w) rfl rfl (fun _ h => absurd h List.not_mem_nil) hrun kk
theorem V_callVF {y : MethodName} {c2 : ByteArray} {n2 na index : Nat} {r2 : Option FieldType} {rm : Room} {As : List Value} {st : List Value} {Q : Option Value → va_W → Prop} {b : Nat} {ci : Nat} {fs : List Value} {r : vw_C} {wc wr : va_W} (d : Dc cc pc (.invokevirtual index) 3 pc2) (hM : Mt l G y c2 n2 r2 rm (.ref b :: As) wc Q) (hcode : Cond.code y c2 n2 r2 ∈ tg_tbl) (hlink : Cond.methodLink own index y ∈ tg_tbl) (hini : Cond.initialized y.cls ∈ tg_tbl) (hin : Cond.instanceMethod y ∈ tg_tbl) (hsel : Cond.selects r.1 y y ∈ tg_tbl) (q0 : Nat) (hq : w[q0]? = some (b, .inr (ci, fs))) (hci : classes[ci]? = some r) (hd2 : y.cls ≠ "java/lang/invoke/MethodHandle" ∧ y.cls ≠ "java/lang/invoke/VarHandle" ∧ (parseMethodDescriptor y.desc).map (fun d => d.parameters.length) = some na) (hna : As.length = na) (hR : rm.frames + 1 ≤ R.frames ∧ 8 + (n2 + 11) + rm.locals ≤ R.locals) (hcs : k + rm.cells ≤ R.cells ∧ n + rm.slots ≤ R.slots) (hst : (As.reverse ++ .ref b :: rest) = st) (hroom : (rest.map fun v => v.category).sum ≤ 8) (isC isR : List Nat) (hC : isC.map (fun i => w[i]?) = wc.map some) (hR2 : isR.map (fun i => w[i]?) = wr.map some) (hnC : va_nd isC = true) (hn : va_nd isR = true) (hdis : ∀ i ∈ isR, i ∉ isC) (kk : ∀ (v : Option Value) (w1 : va_W), Q v w1 → V l G Z E R own nm cc nL ret pc2 lv (v.toList ++ rest) (wr ++ w1) (k + rm.cells) (n + rm.slots)) : V l G Z E R own nm cc nL ret pc lv st w k n := by
  intro p e s m args below meth c A C H locs hP hD hS ls hl
  obtain ⟨hd, rfl⟩ := d
  subst hst
  have hts := C.2.2.2.2.2.1
  have hCs : wc.map some = isC.map (fun i => w[i]?) := hC.symm
  have hPc : va_P G.1 classes wc H := hP.sub isC (by have h2 := congrArg (fun q => q.filterMap id) hC; simpa [List.filterMap_map, Function.comp_def] using h2)
  have hDc : va_D A wc := hD.sub isC hnC hC
  have hF := va_free (wc := wc) hD hS C.2.2.2.2.2.2.2.1 isC hC
  have hrun := va_runV (g := F0 m pc ls ((As.reverse ++ .ref b :: rest))) (locs := locs) (cells := k) (slots := n) (e := e) (below := below) (meth := meth) ⟨C.1, C.2.1, C.2.2.2.1, C.2.2.2.2.1, hts⟩ (hM H.size) (⟨callB_of na hts (tg_good hcode) rfl rfl rfl (hts _ hini) (hts _ hlink) hd2 hR, hts _ hin, hts _ hsel⟩) (⟨tg_blind, va_recv C.2.2.2.2.2.2.2.2.2.1.1 hP hci hq, fun U hU hW => ⟨rfl, tg_pc C.2.2.2.2.2.2.2.2.2.1 hS hF hPc (hDc.weaken (fun _ _ _ _ => trivial)) hU hW⟩⟩) rfl hna hl.1 rfl (lv_room hroom) hd hcs
  exact V_after C hP hD hS hl isC isR hC hR2 hn hdis hrun kk
theorem V_callS {y : MethodName} {c2 : ByteArray} {n2 na index : Nat} {r2 : Option FieldType} {rm : Room} {As : List Value} {st : List Value} {Q : Option Value → va_W → Prop} (d : Dc cc pc (.invokestatic index) 3 pc2) (hM : Mt l G y c2 n2 r2 rm As w Q) (hcode : Cond.code y c2 n2 r2 ∈ tg_tbl) (hlink : Cond.methodLink own index y ∈ tg_tbl) (hini : Cond.initialized y.cls ∈ tg_tbl) (hin : Cond.static y ∈ tg_tbl) (hd2 : y.cls ≠ "java/lang/invoke/MethodHandle" ∧ y.cls ≠ "java/lang/invoke/VarHandle" ∧ (parseMethodDescriptor y.desc).map (fun d => d.parameters.length) = some na) (hna : As.length = na) (hR : rm.frames + 1 ≤ R.frames ∧ 8 + (n2 + 11) + rm.locals ≤ R.locals) (hcs : k + rm.cells ≤ R.cells ∧ n + rm.slots ≤ R.slots) (hst : (As.reverse ++ rest) = st) (hroom : (rest.map fun v => v.category).sum ≤ 8) (kk : ∀ (v : Option Value) (w1 : va_W), Q v w1 → V l G Z E R own nm cc nL ret pc2 lv (v.toList ++ rest) w1 (k + rm.cells) (n + rm.slots)) : V l G Z E R own nm cc nL ret pc lv st w k n := by
  intro p e s m args below meth c A C H locs hP hD hS ls hl
  obtain ⟨hd, rfl⟩ := d
  subst hst
  have hts := C.2.2.2.2.2.1
  have hPc := hP
  have hDc := hD
  have hF := va_free (wc := w) hD hS C.2.2.2.2.2.2.2.1 (List.range w.length) (tg_map w)
  have hrun := va_runS (g := F0 m pc ls ((As.reverse ++ rest))) (locs := locs) (cells := k) (slots := n) (e := e) (below := below) (meth := meth) ⟨C.1, C.2.1, C.2.2.2.1, C.2.2.2.2.1, hts⟩ (hM H.size) (⟨callB_of na hts (tg_good hcode) rfl rfl rfl (hts _ hini) (hts _ hlink) hd2 hR, hts _ hin⟩) (⟨tg_blind, fun U hU hW => ⟨rfl, tg_pc C.2.2.2.2.2.2.2.2.2.1 hS hF hPc (hDc.weaken (fun _ _ _ _ => trivial)) hU hW⟩⟩) rfl hna hl.1 rfl (lv_room hroom) hd hcs
  exact V_after (wr := []) C hP hD hS hl (List.range w.length) [] (tg_map w) rfl rfl (fun _ h => absurd h List.not_mem_nil) hrun kk
theorem V_callSF {y : MethodName} {c2 : ByteArray} {n2 na index : Nat} {r2 : Option FieldType} {rm : Room} {As : List Value} {st : List Value} {Q : Option Value → va_W → Prop} {wc wr : va_W} (d : Dc cc pc (.invokestatic index) 3 pc2) (hM : Mt l G y c2 n2 r2 rm As wc Q) (hcode : Cond.code y c2 n2 r2 ∈ tg_tbl) (hlink : Cond.methodLink own index y ∈ tg_tbl) (hini : Cond.initialized y.cls ∈ tg_tbl) (hin : Cond.static y ∈ tg_tbl) (hd2 : y.cls ≠ "java/lang/invoke/MethodHandle" ∧ y.cls ≠ "java/lang/invoke/VarHandle" ∧ (parseMethodDescriptor y.desc).map (fun d => d.parameters.length) = some na) (hna : As.length = na) (hR : rm.frames + 1 ≤ R.frames ∧ 8 + (n2 + 11) + rm.locals ≤ R.locals) (hcs : k + rm.cells ≤ R.cells ∧ n + rm.slots ≤ R.slots) (hst : (As.reverse ++ rest) = st) (hroom : (rest.map fun v => v.category).sum ≤ 8) (isC isR : List Nat) (hC : isC.map (fun i => w[i]?) = wc.map some) (hR2 : isR.map (fun i => w[i]?) = wr.map some) (hnC : va_nd isC = true) (hn : va_nd isR = true) (hdis : ∀ i ∈ isR, i ∉ isC) (kk : ∀ (v : Option Value) (w1 : va_W), Q v w1 → V l G Z E R own nm cc nL ret pc2 lv (v.toList ++ rest) (wr ++ w1) (k + rm.cells) (n + rm.slots)) : V l G Z E R own nm cc nL ret pc lv st w k n := by
  intro p e s m args below meth c A C H locs hP hD hS ls hl
  obtain ⟨hd, rfl⟩ := d
  subst hst
  have hts := C.2.2.2.2.2.1
  have hCs : wc.map some = isC.map (fun i => w[i]?) := hC.symm
  have hPc : va_P G.1 classes wc H := hP.sub isC (by have h2 := congrArg (fun q => q.filterMap id) hC; simpa [List.filterMap_map, Function.comp_def] using h2)
  have hDc : va_D A wc := hD.sub isC hnC hC
  have hF := va_free (wc := wc) hD hS C.2.2.2.2.2.2.2.1 isC hC
  have hrun := va_runS (g := F0 m pc ls ((As.reverse ++ rest))) (locs := locs) (cells := k) (slots := n) (e := e) (below := below) (meth := meth) ⟨C.1, C.2.1, C.2.2.2.1, C.2.2.2.2.1, hts⟩ (hM H.size) (⟨callB_of na hts (tg_good hcode) rfl rfl rfl (hts _ hini) (hts _ hlink) hd2 hR, hts _ hin⟩) (⟨tg_blind, fun U hU hW => ⟨rfl, tg_pc C.2.2.2.2.2.2.2.2.2.1 hS hF hPc (hDc.weaken (fun _ _ _ _ => trivial)) hU hW⟩⟩) rfl hna hl.1 rfl (lv_room hroom) hd hcs
  exact V_after C hP hD hS hl isC isR hC hR2 hn hdis hrun kk
theorem V_callSN {y : MethodName} {c2 : ByteArray} {n2 na index : Nat} {r2 : Option FieldType} {rm : Room} {As : List Value} {st : List Value} {Q : Option Value → va_W → Prop} {host : String} (d : Dc cc pc (.invokestatic index) 3 pc2) (hM : Mt l G y c2 n2 r2 rm As w Q) (hcode : Cond.code y c2 n2 r2 ∈ tg_tbl) (hlink : Cond.methodLinkNest own index y host ∈ tg_nest) (hini : Cond.initialized y.cls ∈ tg_tbl) (hin : Cond.static y ∈ tg_tbl) (hd2 : y.cls ≠ "java/lang/invoke/MethodHandle" ∧ y.cls ≠ "java/lang/invoke/VarHandle" ∧ (parseMethodDescriptor y.desc).map (fun d => d.parameters.length) = some na) (hna : As.length = na) (hR : rm.frames + 1 ≤ R.frames ∧ 8 + (n2 + 11) + rm.locals ≤ R.locals) (hcs : k + rm.cells ≤ R.cells ∧ n + rm.slots ≤ R.slots) (hst : (As.reverse ++ rest) = st) (hroom : (rest.map fun v => v.category).sum ≤ 8) (kk : ∀ (v : Option Value) (w1 : va_W), Q v w1 → V l G Z E R own nm cc nL ret pc2 lv (v.toList ++ rest) w1 (k + rm.cells) (n + rm.slots)) : V l G Z E R own nm cc nL ret pc lv st w k n := by
  intro p e s m args below meth c A C H locs hP hD hS ls hl
  obtain ⟨hd, rfl⟩ := d
  subst hst
  have hts := C.2.2.2.2.2.1
  have hPc := hP
  have hDc := hD
  have hF := va_free (wc := w) hD hS C.2.2.2.2.2.2.2.1 (List.range w.length) (tg_map w)
  have hrun := va_runSN (g := F0 m pc ls ((As.reverse ++ rest))) (locs := locs) (cells := k) (slots := n) (e := e) (below := below) (meth := meth) ⟨C.1, C.2.1, C.2.2.2.1, C.2.2.2.2.1, hts⟩ (hM H.size) (⟨va_cnB na hts (tg_good hcode) rfl rfl rfl (C.2.2.2.2.2.2.2.2.2.1.2.2.2.1 _ hlink) (hts _ hini) hd2 hR, hts _ hin, trivial⟩) (⟨tg_blind, fun U hU hW => ⟨rfl, tg_pc C.2.2.2.2.2.2.2.2.2.1 hS hF hPc (hDc.weaken (fun _ _ _ _ => trivial)) hU hW⟩⟩) rfl hna hl.1 rfl (lv_room hroom) hd hcs
  exact V_after (wr := []) C hP hD hS hl (List.range w.length) [] (tg_map w) rfl rfl (fun _ h => absurd h List.not_mem_nil) hrun kk
theorem V_callSNF {y : MethodName} {c2 : ByteArray} {n2 na index : Nat} {r2 : Option FieldType} {rm : Room} {As : List Value} {st : List Value} {Q : Option Value → va_W → Prop} {host : String} {wc wr : va_W} (d : Dc cc pc (.invokestatic index) 3 pc2) (hM : Mt l G y c2 n2 r2 rm As wc Q) (hcode : Cond.code y c2 n2 r2 ∈ tg_tbl) (hlink : Cond.methodLinkNest own index y host ∈ tg_nest) (hini : Cond.initialized y.cls ∈ tg_tbl) (hin : Cond.static y ∈ tg_tbl) (hd2 : y.cls ≠ "java/lang/invoke/MethodHandle" ∧ y.cls ≠ "java/lang/invoke/VarHandle" ∧ (parseMethodDescriptor y.desc).map (fun d => d.parameters.length) = some na) (hna : As.length = na) (hR : rm.frames + 1 ≤ R.frames ∧ 8 + (n2 + 11) + rm.locals ≤ R.locals) (hcs : k + rm.cells ≤ R.cells ∧ n + rm.slots ≤ R.slots) (hst : (As.reverse ++ rest) = st) (hroom : (rest.map fun v => v.category).sum ≤ 8) (isC isR : List Nat) (hC : isC.map (fun i => w[i]?) = wc.map some) (hR2 : isR.map (fun i => w[i]?) = wr.map some) (hnC : va_nd isC = true) (hn : va_nd isR = true) (hdis : ∀ i ∈ isR, i ∉ isC) (kk : ∀ (v : Option Value) (w1 : va_W), Q v w1 → V l G Z E R own nm cc nL ret pc2 lv (v.toList ++ rest) (wr ++ w1) (k + rm.cells) (n + rm.slots)) : V l G Z E R own nm cc nL ret pc lv st w k n := by
  intro p e s m args below meth c A C H locs hP hD hS ls hl
  obtain ⟨hd, rfl⟩ := d
  subst hst
  have hts := C.2.2.2.2.2.1
  have hCs : wc.map some = isC.map (fun i => w[i]?) := hC.symm
  have hPc : va_P G.1 classes wc H := hP.sub isC (by have h2 := congrArg (fun q => q.filterMap id) hC; simpa [List.filterMap_map, Function.comp_def] using h2)
  have hDc : va_D A wc := hD.sub isC hnC hC
  have hF := va_free (wc := wc) hD hS C.2.2.2.2.2.2.2.1 isC hC
  have hrun := va_runSN (g := F0 m pc ls ((As.reverse ++ rest))) (locs := locs) (cells := k) (slots := n) (e := e) (below := below) (meth := meth) ⟨C.1, C.2.1, C.2.2.2.1, C.2.2.2.2.1, hts⟩ (hM H.size) (⟨va_cnB na hts (tg_good hcode) rfl rfl rfl (C.2.2.2.2.2.2.2.2.2.1.2.2.2.1 _ hlink) (hts _ hini) hd2 hR, hts _ hin, trivial⟩) (⟨tg_blind, fun U hU hW => ⟨rfl, tg_pc C.2.2.2.2.2.2.2.2.2.1 hS hF hPc (hDc.weaken (fun _ _ _ _ => trivial)) hU hW⟩⟩) rfl hna hl.1 rfl (lv_room hroom) hd hcs
  exact V_after C hP hD hS hl isC isR hC hR2 hn hdis hrun kk
theorem V_callI {y : MethodName} {c2 : ByteArray} {n2 na index : Nat}  {rm : Room} {As : List Value} {st : List Value} {Q : Option Value → va_W → Prop} {b : Nat} (d : Dc cc pc (.invokespecial index) 3 pc2) (hM : Mt l G y c2 n2 none rm (.ref b :: As) w Q) (hcode : Cond.code y c2 n2 none ∈ tg_tbl) (hlink : Cond.methodLink own index y ∈ tg_tbl) (hini : Cond.initialized y.cls ∈ tg_tbl) (hin : Cond.instanceMethod y ∈ tg_tbl) (hy1 : y.name = "<init>") (hd2 : y.cls ≠ "java/lang/invoke/MethodHandle" ∧ y.cls ≠ "java/lang/invoke/VarHandle" ∧ (parseMethodDescriptor y.desc).map (fun d => d.parameters.length) = some na) (hna : As.length = na) (hR : rm.frames + 1 ≤ R.frames ∧ 8 + (n2 + 11) + rm.locals ≤ R.locals) (hcs : k + rm.cells ≤ R.cells ∧ n + rm.slots ≤ R.slots) (hst : (As.reverse ++ .ref b :: rest) = st) (hroom : (rest.map fun v => v.category).sum ≤ 8) (kk : ∀ (v : Option Value) (w1 : va_W), Q v w1 → V l G Z E R own nm cc nL ret pc2 lv (v.toList ++ rest) w1 (k + rm.cells) (n + rm.slots)) : V l G Z E R own nm cc nL ret pc lv st w k n := by
  intro p e s m args below meth c A C H locs hP hD hS ls hl
  obtain ⟨hd, rfl⟩ := d
  subst hst
  have hts := C.2.2.2.2.2.1
  have hPc := hP
  have hDc := hD
  have hF := va_free (wc := w) hD hS C.2.2.2.2.2.2.2.1 (List.range w.length) (tg_map w)
  have hrun := va_runI (g := F0 m pc ls ((As.reverse ++ .ref b :: rest))) (locs := locs) (cells := k) (slots := n) (e := e) (below := below) (meth := meth) ⟨C.1, C.2.1, C.2.2.2.1, C.2.2.2.2.1, hts⟩ (hM H.size) (⟨callB_of na hts (tg_good hcode) rfl rfl rfl (hts _ hini) (hts _ hlink) hd2 hR, hy1, hts _ hin⟩) (⟨tg_blind, fun U hU hW => ⟨rfl, tg_pc C.2.2.2.2.2.2.2.2.2.1 hS hF hPc (hDc.weaken (fun _ _ _ _ => trivial)) hU hW⟩⟩) rfl hna hl.1 rfl (lv_room hroom) hd hcs
  exact V_after (wr := []) C hP hD hS hl (List.range w.length) [] (tg_map w) rfl rfl (fun _ h => absurd h List.not_mem_nil) hrun kk
theorem V_callIF {y : MethodName} {c2 : ByteArray} {n2 na index : Nat}  {rm : Room} {As : List Value} {st : List Value} {Q : Option Value → va_W → Prop} {b : Nat} {wc wr : va_W} (d : Dc cc pc (.invokespecial index) 3 pc2) (hM : Mt l G y c2 n2 none rm (.ref b :: As) wc Q) (hcode : Cond.code y c2 n2 none ∈ tg_tbl) (hlink : Cond.methodLink own index y ∈ tg_tbl) (hini : Cond.initialized y.cls ∈ tg_tbl) (hin : Cond.instanceMethod y ∈ tg_tbl) (hy1 : y.name = "<init>") (hd2 : y.cls ≠ "java/lang/invoke/MethodHandle" ∧ y.cls ≠ "java/lang/invoke/VarHandle" ∧ (parseMethodDescriptor y.desc).map (fun d => d.parameters.length) = some na) (hna : As.length = na) (hR : rm.frames + 1 ≤ R.frames ∧ 8 + (n2 + 11) + rm.locals ≤ R.locals) (hcs : k + rm.cells ≤ R.cells ∧ n + rm.slots ≤ R.slots) (hst : (As.reverse ++ .ref b :: rest) = st) (hroom : (rest.map fun v => v.category).sum ≤ 8) (isC isR : List Nat) (hC : isC.map (fun i => w[i]?) = wc.map some) (hR2 : isR.map (fun i => w[i]?) = wr.map some) (hnC : va_nd isC = true) (hn : va_nd isR = true) (hdis : ∀ i ∈ isR, i ∉ isC) (kk : ∀ (v : Option Value) (w1 : va_W), Q v w1 → V l G Z E R own nm cc nL ret pc2 lv (v.toList ++ rest) (wr ++ w1) (k + rm.cells) (n + rm.slots)) : V l G Z E R own nm cc nL ret pc lv st w k n := by
  intro p e s m args below meth c A C H locs hP hD hS ls hl
  obtain ⟨hd, rfl⟩ := d
  subst hst
  have hts := C.2.2.2.2.2.1
  have hCs : wc.map some = isC.map (fun i => w[i]?) := hC.symm
  have hPc : va_P G.1 classes wc H := hP.sub isC (by have h2 := congrArg (fun q => q.filterMap id) hC; simpa [List.filterMap_map, Function.comp_def] using h2)
  have hDc : va_D A wc := hD.sub isC hnC hC
  have hF := va_free (wc := wc) hD hS C.2.2.2.2.2.2.2.1 isC hC
  have hrun := va_runI (g := F0 m pc ls ((As.reverse ++ .ref b :: rest))) (locs := locs) (cells := k) (slots := n) (e := e) (below := below) (meth := meth) ⟨C.1, C.2.1, C.2.2.2.1, C.2.2.2.2.1, hts⟩ (hM H.size) (⟨callB_of na hts (tg_good hcode) rfl rfl rfl (hts _ hini) (hts _ hlink) hd2 hR, hy1, hts _ hin⟩) (⟨tg_blind, fun U hU hW => ⟨rfl, tg_pc C.2.2.2.2.2.2.2.2.2.1 hS hF hPc (hDc.weaken (fun _ _ _ _ => trivial)) hU hW⟩⟩) rfl hna hl.1 rfl (lv_room hroom) hd hcs
  exact V_after C hP hD hS hl isC isR hC hR2 hn hdis hrun kk
theorem V_callIN {y : MethodName} {c2 : ByteArray} {n2 na index : Nat}  {rm : Room} {As : List Value} {st : List Value} {Q : Option Value → va_W → Prop} {b : Nat} {host : String} (d : Dc cc pc (.invokespecial index) 3 pc2) (hM : Mt l G y c2 n2 none rm (.ref b :: As) w Q) (hcode : Cond.code y c2 n2 none ∈ tg_tbl) (hlink : Cond.methodLinkNest own index y host ∈ tg_nest) (hini : Cond.initialized y.cls ∈ tg_tbl) (hin : Cond.instanceMethod y ∈ tg_tbl) (hy1 : y.name = "<init>") (hd2 : y.cls ≠ "java/lang/invoke/MethodHandle" ∧ y.cls ≠ "java/lang/invoke/VarHandle" ∧ (parseMethodDescriptor y.desc).map (fun d => d.parameters.length) = some na) (hna : As.length = na) (hR : rm.frames + 1 ≤ R.frames ∧ 8 + (n2 + 11) + rm.locals ≤ R.locals) (hcs : k + rm.cells ≤ R.cells ∧ n + rm.slots ≤ R.slots) (hst : (As.reverse ++ .ref b :: rest) = st) (hroom : (rest.map fun v => v.category).sum ≤ 8) (kk : ∀ (v : Option Value) (w1 : va_W), Q v w1 → V l G Z E R own nm cc nL ret pc2 lv (v.toList ++ rest) w1 (k + rm.cells) (n + rm.slots)) : V l G Z E R own nm cc nL ret pc lv st w k n := by
  intro p e s m args below meth c A C H locs hP hD hS ls hl
  obtain ⟨hd, rfl⟩ := d
  subst hst
  have hts := C.2.2.2.2.2.1
  have hPc := hP
  have hDc := hD
  have hF := va_free (wc := w) hD hS C.2.2.2.2.2.2.2.1 (List.range w.length) (tg_map w)
  have hrun := va_runIN (g := F0 m pc ls ((As.reverse ++ .ref b :: rest))) (locs := locs) (cells := k) (slots := n) (e := e) (below := below) (meth := meth) ⟨C.1, C.2.1, C.2.2.2.1, C.2.2.2.2.1, hts⟩ (hM H.size) (⟨va_cnB na hts (tg_good hcode) rfl rfl rfl (C.2.2.2.2.2.2.2.2.2.1.2.2.2.1 _ hlink) (hts _ hini) hd2 hR, hy1, hts _ hin⟩) (⟨tg_blind, fun U hU hW => ⟨rfl, tg_pc C.2.2.2.2.2.2.2.2.2.1 hS hF hPc (hDc.weaken (fun _ _ _ _ => trivial)) hU hW⟩⟩) rfl hna hl.1 rfl (lv_room hroom) hd hcs
  exact V_after (wr := []) C hP hD hS hl (List.range w.length) [] (tg_map w) rfl rfl (fun _ h => absurd h List.not_mem_nil) hrun kk
theorem V_callINF {y : MethodName} {c2 : ByteArray} {n2 na index : Nat}  {rm : Room} {As : List Value} {st : List Value} {Q : Option Value → va_W → Prop} {b : Nat} {host : String} {wc wr : va_W} (d : Dc cc pc (.invokespecial index) 3 pc2) (hM : Mt l G y c2 n2 none rm (.ref b :: As) wc Q) (hcode : Cond.code y c2 n2 none ∈ tg_tbl) (hlink : Cond.methodLinkNest own index y host ∈ tg_nest) (hini : Cond.initialized y.cls ∈ tg_tbl) (hin : Cond.instanceMethod y ∈ tg_tbl) (hy1 : y.name = "<init>") (hd2 : y.cls ≠ "java/lang/invoke/MethodHandle" ∧ y.cls ≠ "java/lang/invoke/VarHandle" ∧ (parseMethodDescriptor y.desc).map (fun d => d.parameters.length) = some na) (hna : As.length = na) (hR : rm.frames + 1 ≤ R.frames ∧ 8 + (n2 + 11) + rm.locals ≤ R.locals) (hcs : k + rm.cells ≤ R.cells ∧ n + rm.slots ≤ R.slots) (hst : (As.reverse ++ .ref b :: rest) = st) (hroom : (rest.map fun v => v.category).sum ≤ 8) (isC isR : List Nat) (hC : isC.map (fun i => w[i]?) = wc.map some) (hR2 : isR.map (fun i => w[i]?) = wr.map some) (hnC : va_nd isC = true) (hn : va_nd isR = true) (hdis : ∀ i ∈ isR, i ∉ isC) (kk : ∀ (v : Option Value) (w1 : va_W), Q v w1 → V l G Z E R own nm cc nL ret pc2 lv (v.toList ++ rest) (wr ++ w1) (k + rm.cells) (n + rm.slots)) : V l G Z E R own nm cc nL ret pc lv st w k n := by
  intro p e s m args below meth c A C H locs hP hD hS ls hl
  obtain ⟨hd, rfl⟩ := d
  subst hst
  have hts := C.2.2.2.2.2.1
  have hCs : wc.map some = isC.map (fun i => w[i]?) := hC.symm
  have hPc : va_P G.1 classes wc H := hP.sub isC (by have h2 := congrArg (fun q => q.filterMap id) hC; simpa [List.filterMap_map, Function.comp_def] using h2)
  have hDc : va_D A wc := hD.sub isC hnC hC
  have hF := va_free (wc := wc) hD hS C.2.2.2.2.2.2.2.1 isC hC
  have hrun := va_runIN (g := F0 m pc ls ((As.reverse ++ .ref b :: rest))) (locs := locs) (cells := k) (slots := n) (e := e) (below := below) (meth := meth) ⟨C.1, C.2.1, C.2.2.2.1, C.2.2.2.2.1, hts⟩ (hM H.size) (⟨va_cnB na hts (tg_good hcode) rfl rfl rfl (C.2.2.2.2.2.2.2.2.2.1.2.2.2.1 _ hlink) (hts _ hini) hd2 hR, hy1, hts _ hin⟩) (⟨tg_blind, fun U hU hW => ⟨rfl, tg_pc C.2.2.2.2.2.2.2.2.2.1 hS hF hPc (hDc.weaken (fun _ _ _ _ => trivial)) hU hW⟩⟩) rfl hna hl.1 rfl (lv_room hroom) hd hcs
  exact V_after C hP hD hS hl isC isR hC hR2 hn hdis hrun kk
end TG
end
section
abbrev SS : Type := (Nat → Int32) × (Nat → Nat → Int32)
def sF (c : SS) (k : Nat) (v : Int32) : SS := (upd c.1 k v, c.2)
def sA (c : SS) (k i : Nat) (v : Int32) : SS := (c.1, va_up c.2 k (upd (c.2 k) i v))
abbrev irm (x y : Int32) : Int32 := x - x / y * y
abbrev lrm (x y : Int64) : Int64 := x - x / y * y
abbrev ush (x y : Int32) : Int32 := (x.toUInt32 >>> (y.toUInt32 &&& Int32.toUInt32 31)).toInt32
abbrev tg_R (f n : Nat) : Room := { frames := f, cells := 0, slots := 0, locals := n }
def fu : Nat := 1000000
def oob (i : Int32) (n : Nat) : Prop := i < 0 ∨ n ≤ i.toNatClampNeg
def ald {β : Type} (n : Nat) (f : Nat → Int32) (i : Int32) (K : Int32 → Option β) : Option β := if i < 0 ∨ n ≤ i.toNatClampNeg then none else K (f i.toNatClampNeg)
def ckb {β : Type} (n : Nat) (i : Int32) (K : Option β) : Option β := if i < 0 ∨ n ≤ i.toNatClampNeg then none else K
def dvz {β : Type} (y : Int32) (K : Option β) : Option β := if y = 0 then none else K
def dvzl {β : Type} (y : Int64) (K : Option β) : Option β := if y = 0 then none else K
def gz {β : Type} (v : Int32) (K : Option β) : Option β := if v = 0 ∨ v = 1 then K else none
def swo {β : Type} (x lo hi : Int32) (K : Option β) : Option β := if x.toInt < lo.toInt ∨ hi.toInt < x.toInt then K else none
def jn {α β : Type} (B : α) (F : α → β) : β := F B
theorem ald_some {β : Type} {n : Nat} {f : Nat → Int32} {i : Int32} {K : Int32 → Option β} {z : β} (h : ald n f i K = some z) : ∃ v, vp_in i n ∧ f i.toNatClampNeg = v ∧ K v = some z := by
  unfold ald at h
  by_cases hc : i < 0 ∨ n ≤ i.toNatClampNeg
  · rw [if_pos hc] at h; cases h
  · rw [if_neg hc] at h; exact ⟨_, hc, rfl, h⟩
theorem ckb_some {β : Type} {n : Nat} {i : Int32} {K : Option β} {z : β} (h : ckb n i K = some z) : vp_in i n ∧ K = some z := by
  unfold ckb at h
  by_cases hc : i < 0 ∨ n ≤ i.toNatClampNeg
  · rw [if_pos hc] at h; cases h
  · rw [if_neg hc] at h; exact ⟨hc, h⟩
theorem dvz_some {β : Type} {y : Int32} {K : Option β} {z : β} (h : dvz y K = some z) : ¬ y = 0 ∧ K = some z := by
  unfold dvz at h
  by_cases hc : y = 0
  · rw [if_pos hc] at h; cases h
  · rw [if_neg hc] at h; exact ⟨hc, h⟩
theorem dvzl_some {β : Type} {y : Int64} {K : Option β} {z : β} (h : dvzl y K = some z) : ¬ y = 0 ∧ K = some z := by
  unfold dvzl at h
  by_cases hc : y = 0
  · rw [if_pos hc] at h; cases h
  · rw [if_neg hc] at h; exact ⟨hc, h⟩
theorem gz_some {β : Type} {v : Int32} {K : Option β} {z : β} (h : gz v K = some z) : narrow .boolean (.int v) = .int v ∧ K = some z := by
  unfold gz at h
  by_cases hc : v = 0 ∨ v = 1
  · rw [if_pos hc] at h; refine ⟨?_, h⟩
    rcases hc with rfl | rfl <;> rfl
  · rw [if_neg hc] at h; cases h
theorem swo_some {β : Type} {x lo hi : Int32} {K : Option β} {z : β} (h : swo x lo hi K = some z) : (x.toInt < lo.toInt ∨ hi.toInt < x.toInt) ∧ K = some z := by
  unfold swo at h
  by_cases hc : x.toInt < lo.toInt ∨ hi.toInt < x.toInt
  · rw [if_pos hc] at h; exact ⟨hc, h⟩
  · rw [if_neg hc] at h; cases h
theorem jn_elim {α β : Type} {B : α} {F : α → β} {z : β} {g : Prop} (h : jn B F = z) (P : α → Prop) (hB : P B) (hF : ∀ j, P j → F j = z → g) : g := hF B hB h
section TG2
variable {l : Launch} {G : tg_G} {Z : tg_Z} {E : tg_E} {R : Room} {own nm : String} {cc : ByteArray} {nL : Nat} {ret : Option FieldType} {pc pc2 : Nat} {lv : List (Nat × Value)} {rest : List Value} {w : va_W} {k n : Nat}
theorem Mt_of2 {y : MethodName} {rm : Room} {av : List Value} {Q : Option Value → va_W → Prop} (ho : y.cls = own) (hn : y.name = nm) (hy : plainName y.cls = true) (hls : (lg_sl av).length ≤ nL) {lv : List (Nat × Value)} (hlv : lv_args 0 av = lv) (kk : V l G (tg_Zm G Q rm.cells rm.slots) tg_E0 rm own nm cc nL ret 0 lv [] w 0 0) : Mt l G y cc nL ret rm av w Q := by
  subst ho; subst hn
  exact Mt_of hy hls hlv kk
theorem V_ialdv {a N : Nat} {f : Nat → Int32} {i v : Int32} (d : Dc cc pc (.iaload) 1 pc2) (q0 : Nat) (he : w[q0]? = some (a, .inl (G.2.1, N, .inl f))) (hi : vp_in i N) (hv : f i.toNatClampNeg = v) (kk : V l G Z E R own nm cc nL ret pc2 lv (.int v :: rest) w k n) : V l G Z E R own nm cc nL ret pc lv (.int i :: .ref a :: rest) w k n := by
  subst hv
  exact V_iald d q0 he hi kk
theorem V_zaldv {a N : Nat} {f : Nat → Int32} {i v : Int32} (d : Dc cc pc (.baload) 1 pc2) (q0 : Nat) (he : w[q0]? = some (a, .inl (G.2.2.1, N, .inl f))) (hi : vp_in i N) (hv : f i.toNatClampNeg = v) (kk : V l G Z E R own nm cc nL ret pc2 lv (.int v :: rest) w k n) : V l G Z E R own nm cc nL ret pc lv (.int i :: .ref a :: rest) w k n := by
  subst hv
  exact V_zald d q0 he hi kk
theorem V_callVi {y : MethodName} {c2 : ByteArray} {n2 na index f2 lo2 : Nat} {r2 : Option FieldType} {As st : List Value} {w1 : va_W} {v0 : Int32} {b ci : Nat} {fs : List Value} {r : vw_C} (d : Dc cc pc (.invokevirtual index) 3 pc2) (hM : Mt l G y c2 n2 r2 (tg_R f2 lo2) (.ref b :: As) w (fun v w2 => v = some (.int v0) ∧ w2 = w1)) (hcode : Cond.code y c2 n2 r2 ∈ tg_tbl) (hlink : Cond.methodLink own index y ∈ tg_tbl) (hini : Cond.initialized y.cls ∈ tg_tbl) (hin : Cond.instanceMethod y ∈ tg_tbl) (hsel : Cond.selects r.1 y y ∈ tg_tbl) (q0 : Nat) (hq : w[q0]? = some (b, .inr (ci, fs))) (hci : classes[ci]? = some r) (hd2 : y.cls ≠ "java/lang/invoke/MethodHandle" ∧ y.cls ≠ "java/lang/invoke/VarHandle" ∧ (parseMethodDescriptor y.desc).map (fun d => d.parameters.length) = some na) (hna : As.length = na) (hR : f2 + 1 ≤ R.frames ∧ 8 + (n2 + 11) + lo2 ≤ R.locals) (hst : (As.reverse ++ .ref b :: rest) = st) (hroom : (rest.map fun v => v.category).sum ≤ 8) (hcs : k ≤ R.cells ∧ n ≤ R.slots) (kk : V l G Z E R own nm cc nL ret pc2 lv (.int v0 :: rest) w1 k n) : V l G Z E R own nm cc nL ret pc lv st w k n := by
  refine V_callV d hM hcode hlink hini hin hsel q0 hq hci hd2 hna hR hcs hst hroom (fun v w2 hq2 => ?_)
  obtain ⟨rfl, rfl⟩ := hq2
  exact kk
theorem V_callVl {y : MethodName} {c2 : ByteArray} {n2 na index f2 lo2 : Nat} {r2 : Option FieldType} {As st : List Value} {w1 : va_W} {v0 : Int64} {b ci : Nat} {fs : List Value} {r : vw_C} (d : Dc cc pc (.invokevirtual index) 3 pc2) (hM : Mt l G y c2 n2 r2 (tg_R f2 lo2) (.ref b :: As) w (fun v w2 => v = some (.long v0) ∧ w2 = w1)) (hcode : Cond.code y c2 n2 r2 ∈ tg_tbl) (hlink : Cond.methodLink own index y ∈ tg_tbl) (hini : Cond.initialized y.cls ∈ tg_tbl) (hin : Cond.instanceMethod y ∈ tg_tbl) (hsel : Cond.selects r.1 y y ∈ tg_tbl) (q0 : Nat) (hq : w[q0]? = some (b, .inr (ci, fs))) (hci : classes[ci]? = some r) (hd2 : y.cls ≠ "java/lang/invoke/MethodHandle" ∧ y.cls ≠ "java/lang/invoke/VarHandle" ∧ (parseMethodDescriptor y.desc).map (fun d => d.parameters.length) = some na) (hna : As.length = na) (hR : f2 + 1 ≤ R.frames ∧ 8 + (n2 + 11) + lo2 ≤ R.locals) (hst : (As.reverse ++ .ref b :: rest) = st) (hroom : (rest.map fun v => v.category).sum ≤ 8) (hcs : k ≤ R.cells ∧ n ≤ R.slots) (kk : V l G Z E R own nm cc nL ret pc2 lv (.long v0 :: rest) w1 k n) : V l G Z E R own nm cc nL ret pc lv st w k n := by
  refine V_callV d hM hcode hlink hini hin hsel q0 hq hci hd2 hna hR hcs hst hroom (fun v w2 hq2 => ?_)
  obtain ⟨rfl, rfl⟩ := hq2
  exact kk
theorem V_callVv {y : MethodName} {c2 : ByteArray} {n2 na index f2 lo2 : Nat} {r2 : Option FieldType} {As st : List Value} {w1 : va_W} {b ci : Nat} {fs : List Value} {r : vw_C} (d : Dc cc pc (.invokevirtual index) 3 pc2) (hM : Mt l G y c2 n2 r2 (tg_R f2 lo2) (.ref b :: As) w (fun v w2 => v = none ∧ w2 = w1)) (hcode : Cond.code y c2 n2 r2 ∈ tg_tbl) (hlink : Cond.methodLink own index y ∈ tg_tbl) (hini : Cond.initialized y.cls ∈ tg_tbl) (hin : Cond.instanceMethod y ∈ tg_tbl) (hsel : Cond.selects r.1 y y ∈ tg_tbl) (q0 : Nat) (hq : w[q0]? = some (b, .inr (ci, fs))) (hci : classes[ci]? = some r) (hd2 : y.cls ≠ "java/lang/invoke/MethodHandle" ∧ y.cls ≠ "java/lang/invoke/VarHandle" ∧ (parseMethodDescriptor y.desc).map (fun d => d.parameters.length) = some na) (hna : As.length = na) (hR : f2 + 1 ≤ R.frames ∧ 8 + (n2 + 11) + lo2 ≤ R.locals) (hst : (As.reverse ++ .ref b :: rest) = st) (hroom : (rest.map fun v => v.category).sum ≤ 8) (hcs : k ≤ R.cells ∧ n ≤ R.slots) (kk : V l G Z E R own nm cc nL ret pc2 lv (rest) w1 k n) : V l G Z E R own nm cc nL ret pc lv st w k n := by
  refine V_callV d hM hcode hlink hini hin hsel q0 hq hci hd2 hna hR hcs hst hroom (fun v w2 hq2 => ?_)
  obtain ⟨rfl, rfl⟩ := hq2
  exact kk
theorem V_callSi {y : MethodName} {c2 : ByteArray} {n2 na index f2 lo2 : Nat} {r2 : Option FieldType} {As st : List Value} {w1 : va_W} {v0 : Int32} (d : Dc cc pc (.invokestatic index) 3 pc2) (hM : Mt l G y c2 n2 r2 (tg_R f2 lo2) As w (fun v w2 => v = some (.int v0) ∧ w2 = w1)) (hcode : Cond.code y c2 n2 r2 ∈ tg_tbl) (hlink : Cond.methodLink own index y ∈ tg_tbl) (hini : Cond.initialized y.cls ∈ tg_tbl) (hin : Cond.static y ∈ tg_tbl) (hd2 : y.cls ≠ "java/lang/invoke/MethodHandle" ∧ y.cls ≠ "java/lang/invoke/VarHandle" ∧ (parseMethodDescriptor y.desc).map (fun d => d.parameters.length) = some na) (hna : As.length = na) (hR : f2 + 1 ≤ R.frames ∧ 8 + (n2 + 11) + lo2 ≤ R.locals) (hst : (As.reverse ++ rest) = st) (hroom : (rest.map fun v => v.category).sum ≤ 8) (hcs : k ≤ R.cells ∧ n ≤ R.slots) (kk : V l G Z E R own nm cc nL ret pc2 lv (.int v0 :: rest) w1 k n) : V l G Z E R own nm cc nL ret pc lv st w k n := by
  refine V_callS d hM hcode hlink hini hin hd2 hna hR hcs hst hroom (fun v w2 hq2 => ?_)
  obtain ⟨rfl, rfl⟩ := hq2
  exact kk
theorem V_callSl {y : MethodName} {c2 : ByteArray} {n2 na index f2 lo2 : Nat} {r2 : Option FieldType} {As st : List Value} {w1 : va_W} {v0 : Int64} (d : Dc cc pc (.invokestatic index) 3 pc2) (hM : Mt l G y c2 n2 r2 (tg_R f2 lo2) As w (fun v w2 => v = some (.long v0) ∧ w2 = w1)) (hcode : Cond.code y c2 n2 r2 ∈ tg_tbl) (hlink : Cond.methodLink own index y ∈ tg_tbl) (hini : Cond.initialized y.cls ∈ tg_tbl) (hin : Cond.static y ∈ tg_tbl) (hd2 : y.cls ≠ "java/lang/invoke/MethodHandle" ∧ y.cls ≠ "java/lang/invoke/VarHandle" ∧ (parseMethodDescriptor y.desc).map (fun d => d.parameters.length) = some na) (hna : As.length = na) (hR : f2 + 1 ≤ R.frames ∧ 8 + (n2 + 11) + lo2 ≤ R.locals) (hst : (As.reverse ++ rest) = st) (hroom : (rest.map fun v => v.category).sum ≤ 8) (hcs : k ≤ R.cells ∧ n ≤ R.slots) (kk : V l G Z E R own nm cc nL ret pc2 lv (.long v0 :: rest) w1 k n) : V l G Z E R own nm cc nL ret pc lv st w k n := by
  refine V_callS d hM hcode hlink hini hin hd2 hna hR hcs hst hroom (fun v w2 hq2 => ?_)
  obtain ⟨rfl, rfl⟩ := hq2
  exact kk
theorem V_callSv {y : MethodName} {c2 : ByteArray} {n2 na index f2 lo2 : Nat} {r2 : Option FieldType} {As st : List Value} {w1 : va_W} (d : Dc cc pc (.invokestatic index) 3 pc2) (hM : Mt l G y c2 n2 r2 (tg_R f2 lo2) As w (fun v w2 => v = none ∧ w2 = w1)) (hcode : Cond.code y c2 n2 r2 ∈ tg_tbl) (hlink : Cond.methodLink own index y ∈ tg_tbl) (hini : Cond.initialized y.cls ∈ tg_tbl) (hin : Cond.static y ∈ tg_tbl) (hd2 : y.cls ≠ "java/lang/invoke/MethodHandle" ∧ y.cls ≠ "java/lang/invoke/VarHandle" ∧ (parseMethodDescriptor y.desc).map (fun d => d.parameters.length) = some na) (hna : As.length = na) (hR : f2 + 1 ≤ R.frames ∧ 8 + (n2 + 11) + lo2 ≤ R.locals) (hst : (As.reverse ++ rest) = st) (hroom : (rest.map fun v => v.category).sum ≤ 8) (hcs : k ≤ R.cells ∧ n ≤ R.slots) (kk : V l G Z E R own nm cc nL ret pc2 lv (rest) w1 k n) : V l G Z E R own nm cc nL ret pc lv st w k n := by
  refine V_callS d hM hcode hlink hini hin hd2 hna hR hcs hst hroom (fun v w2 hq2 => ?_)
  obtain ⟨rfl, rfl⟩ := hq2
  exact kk
theorem V_callSNi {y : MethodName} {c2 : ByteArray} {n2 na index f2 lo2 : Nat} {r2 : Option FieldType} {As st : List Value} {w1 : va_W} {v0 : Int32} {host : String} (d : Dc cc pc (.invokestatic index) 3 pc2) (hM : Mt l G y c2 n2 r2 (tg_R f2 lo2) As w (fun v w2 => v = some (.int v0) ∧ w2 = w1)) (hcode : Cond.code y c2 n2 r2 ∈ tg_tbl) (hlink : Cond.methodLinkNest own index y host ∈ tg_nest) (hini : Cond.initialized y.cls ∈ tg_tbl) (hin : Cond.static y ∈ tg_tbl) (hd2 : y.cls ≠ "java/lang/invoke/MethodHandle" ∧ y.cls ≠ "java/lang/invoke/VarHandle" ∧ (parseMethodDescriptor y.desc).map (fun d => d.parameters.length) = some na) (hna : As.length = na) (hR : f2 + 1 ≤ R.frames ∧ 8 + (n2 + 11) + lo2 ≤ R.locals) (hst : (As.reverse ++ rest) = st) (hroom : (rest.map fun v => v.category).sum ≤ 8) (hcs : k ≤ R.cells ∧ n ≤ R.slots) (kk : V l G Z E R own nm cc nL ret pc2 lv (.int v0 :: rest) w1 k n) : V l G Z E R own nm cc nL ret pc lv st w k n := by
  refine V_callSN d hM hcode hlink hini hin hd2 hna hR hcs hst hroom (fun v w2 hq2 => ?_)
  obtain ⟨rfl, rfl⟩ := hq2
  exact kk
theorem V_callSNl {y : MethodName} {c2 : ByteArray} {n2 na index f2 lo2 : Nat} {r2 : Option FieldType} {As st : List Value} {w1 : va_W} {v0 : Int64} {host : String} (d : Dc cc pc (.invokestatic index) 3 pc2) (hM : Mt l G y c2 n2 r2 (tg_R f2 lo2) As w (fun v w2 => v = some (.long v0) ∧ w2 = w1)) (hcode : Cond.code y c2 n2 r2 ∈ tg_tbl) (hlink : Cond.methodLinkNest own index y host ∈ tg_nest) (hini : Cond.initialized y.cls ∈ tg_tbl) (hin : Cond.static y ∈ tg_tbl) (hd2 : y.cls ≠ "java/lang/invoke/MethodHandle" ∧ y.cls ≠ "java/lang/invoke/VarHandle" ∧ (parseMethodDescriptor y.desc).map (fun d => d.parameters.length) = some na) (hna : As.length = na) (hR : f2 + 1 ≤ R.frames ∧ 8 + (n2 + 11) + lo2 ≤ R.locals) (hst : (As.reverse ++ rest) = st) (hroom : (rest.map fun v => v.category).sum ≤ 8) (hcs : k ≤ R.cells ∧ n ≤ R.slots) (kk : V l G Z E R own nm cc nL ret pc2 lv (.long v0 :: rest) w1 k n) : V l G Z E R own nm cc nL ret pc lv st w k n := by
  refine V_callSN d hM hcode hlink hini hin hd2 hna hR hcs hst hroom (fun v w2 hq2 => ?_)
  obtain ⟨rfl, rfl⟩ := hq2
  exact kk
theorem V_callSNv {y : MethodName} {c2 : ByteArray} {n2 na index f2 lo2 : Nat} {r2 : Option FieldType} {As st : List Value} {w1 : va_W} {host : String} (d : Dc cc pc (.invokestatic index) 3 pc2) (hM : Mt l G y c2 n2 r2 (tg_R f2 lo2) As w (fun v w2 => v = none ∧ w2 = w1)) (hcode : Cond.code y c2 n2 r2 ∈ tg_tbl) (hlink : Cond.methodLinkNest own index y host ∈ tg_nest) (hini : Cond.initialized y.cls ∈ tg_tbl) (hin : Cond.static y ∈ tg_tbl) (hd2 : y.cls ≠ "java/lang/invoke/MethodHandle" ∧ y.cls ≠ "java/lang/invoke/VarHandle" ∧ (parseMethodDescriptor y.desc).map (fun d => d.parameters.length) = some na) (hna : As.length = na) (hR : f2 + 1 ≤ R.frames ∧ 8 + (n2 + 11) + lo2 ≤ R.locals) (hst : (As.reverse ++ rest) = st) (hroom : (rest.map fun v => v.category).sum ≤ 8) (hcs : k ≤ R.cells ∧ n ≤ R.slots) (kk : V l G Z E R own nm cc nL ret pc2 lv (rest) w1 k n) : V l G Z E R own nm cc nL ret pc lv st w k n := by
  refine V_callSN d hM hcode hlink hini hin hd2 hna hR hcs hst hroom (fun v w2 hq2 => ?_)
  obtain ⟨rfl, rfl⟩ := hq2
  exact kk
end TG2
def wC (G : tg_G) (A : Nat → Nat) (c : SS) : va_W := [(A 0, .inr (6, [.ref (A 1), .ref (A 3), .ref (A 28), .ref (A 11), .ref (A 13), .ref (A 18), .ref (A 21), .ref (A 26), .ref (A 27)])), (A 1, .inr (1, [.ref (A 2), .int (c.1 0)])), (A 2, .inl (G.2.1, 20, .inl (c.2 0))), (A 3, .inr (5, [.int (c.1 1), .int (c.1 2), .int (c.1 3), .int (c.1 4), .int (c.1 5), .int (c.1 6), .int (c.1 7), .int (c.1 8), .ref (A 4), .ref (A 5), .ref (A 6), .ref (A 7), .ref (A 8), .ref (A 9), .ref (A 10)])), (A 4, .inl (G.2.1, 6, .inl (c.2 1))), (A 5, .inl (G.2.1, 8, .inl (c.2 2))), (A 6, .inl (G.2.1, 8, .inl (c.2 3))), (A 7, .inl (G.2.1, 8, .inl (c.2 4))), (A 8, .inl (G.2.1, 8, .inl (c.2 5))), (A 9, .inl (G.2.1, 8, .inl (c.2 6))), (A 10, .inl (G.2.1, 8, .inl (c.2 7))), (A 11, .inr (4, [.ref (A 3), .ref (A 12)])), (A 12, .inl (G.2.1, 8, .inl (c.2 8))), (A 13, .inr (2, [.ref (A 3), .ref (A 11), .ref (A 14), .ref (A 15), .ref (A 16), .ref (A 17)])), (A 14, .inl (G.2.1, 66, .inl (c.2 9))), (A 15, .inl (G.2.1, 6, .inl (c.2 10))), (A 16, .inl (G.2.1, 77, .inl (c.2 11))), (A 17, .inl (G.2.1, 66, .inl (c.2 12))), (A 18, .inr (3, [.ref (A 3), .ref (A 13), .ref (A 19), .ref (A 20)])), (A 19, .inl (G.2.1, 70, .inl (c.2 13))), (A 20, .inl (G.2.1, 328, .inl (c.2 14))), (A 21, .inr (0, [.ref (A 3), .ref (A 11), .ref (A 22), .ref (A 23), .ref (A 24), .ref (A 25), .int (c.1 9), .int (c.1 10), .int (c.1 11)])), (A 22, .inl (G.2.1, 462, .inl (c.2 15))), (A 23, .inl (G.2.1, 462, .inl (c.2 16))), (A 24, .inl (G.2.1, 6, .inl (c.2 17))), (A 25, .inl (G.2.1, 6, .inl (c.2 18))), (A 26, .inl (G.2.1, 6, .inl (c.2 19))), (A 27, .inl (G.2.1, 6, .inl (c.2 20)))]
def wM (G : tg_G) (A : Nat → Nat) (c : SS) : va_W := [(A 0, .inr (7, [.int (c.1 0), .ref (A 1), .int (c.1 2), .int (c.1 3), .ref (A 2), .ref (A 3), .ref (A 4), .ref (A 5), .ref (A 6), .ref (A 7), .int (c.1 10), .int (c.1 11), .ref (A 8), .ref (A 9), .int (c.1 14), .ref (A 10), .int (c.1 16), .ref (A 11), .ref (A 12), .int (c.1 19), .int (c.1 20), .ref (A 13), .ref (A 14), .ref (A 15), .ref (A 16), .ref (A 17), .int (c.1 26), .ref (A 18), .ref (A 19), .int (c.1 29), .int (c.1 30)])), (A 1, .inl (G.2.1, 6, .inl (c.2 1))), (A 2, .inl (G.2.1, 8, .inl (c.2 4))), (A 3, .inl (G.2.1, 8, .inl (c.2 5))), (A 4, .inl (G.2.1, 8, .inl (c.2 6))), (A 5, .inl (G.2.1, 8, .inl (c.2 7))), (A 6, .inl (G.2.1, 8, .inl (c.2 8))), (A 7, .inl (G.2.1, 8, .inl (c.2 9))), (A 8, .inl (G.2.1, 8, .inl (c.2 12))), (A 9, .inl (G.2.1, 8, .inl (c.2 13))), (A 10, .inl (G.2.1, 20, .inl (c.2 15))), (A 11, .inl (G.2.1, 6, .inl (c.2 17))), (A 12, .inl (G.2.1, 6, .inl (c.2 18))), (A 13, .inl (G.2.1, 6, .inl (c.2 21))), (A 14, .inl (G.2.1, 70, .inl (c.2 22))), (A 15, .inl (G.2.1, 328, .inl (c.2 23))), (A 16, .inl (G.2.1, 186624, .inl (c.2 24))), (A 17, .inl (G.2.1, 186624, .inl (c.2 25))), (A 18, .inl (G.2.1, 180, .inl (c.2 27))), (A 19, .inl (G.2.2.1, 2, .inl (c.2 28)))]
end
section
theorem hdX1_digit : yX1_digit.cls ≠ "java/lang/invoke/MethodHandle" ∧ yX1_digit.cls ≠ "java/lang/invoke/VarHandle" ∧ (parseMethodDescriptor yX1_digit.desc).map (fun d => d.parameters.length) = some 1 := by decide +kernel
theorem eX1_digit_0 : Dc cX1_digit 0 (.iload_n 1) 1 1 := ⟨by decide +kernel, rfl⟩
theorem eX1_digit_1 : Dc cX1_digit 1 (.ifCond .lt 23) 3 4 := ⟨by decide +kernel, rfl⟩
theorem eX1_digit_4 : Dc cX1_digit 4 (.iload_n 1) 1 5 := ⟨by decide +kernel, rfl⟩
theorem eX1_digit_5 : Dc cX1_digit 5 (.aload_n 0) 1 6 := ⟨by decide +kernel, rfl⟩
theorem eX1_digit_6 : Dc cX1_digit 6 (.getfield 15) 3 9 := ⟨by decide +kernel, rfl⟩
theorem eX1_digit_9 : Dc cX1_digit 9 (.if_icmp .ge 15) 3 12 := ⟨by decide +kernel, rfl⟩
theorem eX1_digit_12 : Dc cX1_digit 12 (.aload_n 0) 1 13 := ⟨by decide +kernel, rfl⟩
theorem eX1_digit_13 : Dc cX1_digit 13 (.getfield 9) 3 16 := ⟨by decide +kernel, rfl⟩
theorem eX1_digit_16 : Dc cX1_digit 16 (.iload_n 1) 1 17 := ⟨by decide +kernel, rfl⟩
theorem eX1_digit_17 : Dc cX1_digit 17 (.iaload) 1 18 := ⟨by decide +kernel, rfl⟩
theorem eX1_digit_18 : Dc cX1_digit 18 (.bipush 48) 2 20 := ⟨by decide +kernel, rfl⟩
theorem eX1_digit_20 : Dc cX1_digit 20 (.isub) 1 21 := ⟨by decide +kernel, rfl⟩
theorem eX1_digit_21 : Dc cX1_digit 21 (.goto 4) 3 24 := ⟨by decide +kernel, rfl⟩
theorem eX1_digit_24 : Dc cX1_digit 24 (.iconst 0) 1 25 := ⟨by decide +kernel, rfl⟩
theorem eX1_digit_25 : Dc cX1_digit 25 (.ireturn) 1 26 := ⟨by decide +kernel, rfl⟩
def fX1_digit (c : SS) (p1 : Int32) : Option (Int32) := if p1 < (0 : Int32) then some (0 : Int32) else if (c.1 0) ≤ p1 then some (0 : Int32) else ald 20 (c.2 0) p1 (fun v3 => some (v3 - (48 : Int32)))
set_option maxRecDepth 20000 in
theorem ctX1_digit (l : Launch) (G : tg_G) (A : Nat → Nat) (c : SS) (p1 : Int32) {z : Int32} (h : fX1_digit c p1 = some z) : Mt l G yX1_digit cX1_digit 2 (some .int) (tg_R 0 0) [.ref (A 1), .int p1] (wC G A c) (fun v w1 => v = some (.int z) ∧ w1 = wC G A c) := by
  refine Mt_of2 (own := "TramGod$Pad") (nm := "digit") rfl rfl rfl (Nat.le_of_ble_eq_true rfl) (lv := [(0, .ref (A 1)), (1, .int p1)]) rfl ?_
  unfold fX1_digit at h
  refine V_iload_n eX1_digit_0 1 rfl ?_
  refine V_if_lt (tgt := 24) eX1_digit_1 rfl (fun hb1 => ?_) (fun hb1 => ?_)
  · replace h := (if_pos hb1).symm.trans h
    refine V_iconst (v := (0 : Int32)) eX1_digit_24 rfl ?_
    obtain rfl := Option.some.inj h
    exact V_ret eX1_digit_25 rfl ⟨rfl, rfl⟩
  · replace h := (if_neg hb1).symm.trans h
    refine V_iload_n eX1_digit_4 1 rfl ?_
    refine V_aload_n eX1_digit_5 0 rfl ?_
    refine V_get (v := .int (c.1 0)) eX1_digit_6 inX1 1 rfl rfl 1 (Nat.le_of_ble_eq_true rfl) tw_27 rfl ?_
    refine V_icmp_ge (tgt := 24) eX1_digit_9 rfl (fun hb2 => ?_) (fun hb2 => ?_)
    · replace h := (if_pos hb2).symm.trans h
      refine V_iconst (v := (0 : Int32)) eX1_digit_24 rfl ?_
      obtain rfl := Option.some.inj h
      exact V_ret eX1_digit_25 rfl ⟨rfl, rfl⟩
    · replace h := (if_neg hb2).symm.trans h
      refine V_aload_n eX1_digit_12 0 rfl ?_
      refine V_get (v := .ref (A 2)) eX1_digit_13 inX1 1 rfl rfl 0 (Nat.le_of_ble_eq_true rfl) tw_26 rfl ?_
      refine V_iload_n eX1_digit_16 1 rfl ?_
      obtain ⟨v3, hi3, ev3, h⟩ := ald_some h
      refine V_ialdv eX1_digit_17 2 rfl hi3 ev3 ?_
      refine V_bipush (v := (48 : Int32)) eX1_digit_18 rfl ?_
      refine V_isub eX1_digit_20 ?_
      refine V_goto (tgt := 25) eX1_digit_21 rfl ?_
      obtain rfl := Option.some.inj h
      exact V_ret eX1_digit_25 rfl ⟨rfl, rfl⟩
theorem hdX6_within : yX6_within.cls ≠ "java/lang/invoke/MethodHandle" ∧ yX6_within.cls ≠ "java/lang/invoke/VarHandle" ∧ (parseMethodDescriptor yX6_within.desc).map (fun d => d.parameters.length) = some 3 := by decide +kernel
theorem eX6_within_0 : Dc cX6_within 0 (.iload_n 0) 1 1 := ⟨by decide +kernel, rfl⟩
theorem eX6_within_1 : Dc cX6_within 1 (.iload_n 1) 1 2 := ⟨by decide +kernel, rfl⟩
theorem eX6_within_2 : Dc cX6_within 2 (.if_icmp .lt 12) 3 5 := ⟨by decide +kernel, rfl⟩
theorem eX6_within_5 : Dc cX6_within 5 (.iload_n 0) 1 6 := ⟨by decide +kernel, rfl⟩
theorem eX6_within_6 : Dc cX6_within 6 (.iload_n 2) 1 7 := ⟨by decide +kernel, rfl⟩
theorem eX6_within_7 : Dc cX6_within 7 (.if_icmp .gt 7) 3 10 := ⟨by decide +kernel, rfl⟩
theorem eX6_within_10 : Dc cX6_within 10 (.iconst 1) 1 11 := ⟨by decide +kernel, rfl⟩
theorem eX6_within_11 : Dc cX6_within 11 (.goto 4) 3 14 := ⟨by decide +kernel, rfl⟩
theorem eX6_within_14 : Dc cX6_within 14 (.iconst 0) 1 15 := ⟨by decide +kernel, rfl⟩
theorem eX6_within_15 : Dc cX6_within 15 (.ireturn) 1 16 := ⟨by decide +kernel, rfl⟩
def fX6_within (p0 : Int32) (p1 : Int32) (p2 : Int32) : Int32 := if p0 < p1 then (0 : Int32) else if p2 < p0 then (0 : Int32) else (1 : Int32)
set_option maxRecDepth 20000 in
theorem ctX6_within (l : Launch) (G : tg_G) (w : va_W) (p0 : Int32) (p1 : Int32) (p2 : Int32) {z : Int32} (h : fX6_within p0 p1 p2 = z) : Mt l G yX6_within cX6_within 3 (some .boolean) (tg_R 0 0) [.int p0, .int p1, .int p2] (w) (fun v w1 => v = some (.int z) ∧ w1 = w) := by
  refine Mt_of2 (own := "TramGod") (nm := "within") rfl rfl rfl (Nat.le_of_ble_eq_true rfl) (lv := [(0, .int p0), (1, .int p1), (2, .int p2)]) rfl ?_
  unfold fX6_within at h
  refine V_iload_n eX6_within_0 0 rfl ?_
  refine V_iload_n eX6_within_1 1 rfl ?_
  refine V_icmp_lt (tgt := 14) eX6_within_2 rfl (fun hb1 => ?_) (fun hb1 => ?_)
  · replace h := (if_pos hb1).symm.trans h
    refine V_iconst (v := (0 : Int32)) eX6_within_14 rfl ?_
    subst h
    exact V_zret eX6_within_15 rfl rfl ⟨rfl, rfl⟩
  · replace h := (if_neg hb1).symm.trans h
    refine V_iload_n eX6_within_5 0 rfl ?_
    refine V_iload_n eX6_within_6 2 rfl ?_
    refine V_icmp_gt (tgt := 14) eX6_within_7 rfl (fun hb2 => ?_) (fun hb2 => ?_)
    · replace h := (if_pos hb2).symm.trans h
      refine V_iconst (v := (0 : Int32)) eX6_within_14 rfl ?_
      subst h
      exact V_zret eX6_within_15 rfl rfl ⟨rfl, rfl⟩
    · replace h := (if_neg hb2).symm.trans h
      refine V_iconst (v := (1 : Int32)) eX6_within_10 rfl ?_
      refine V_goto (tgt := 15) eX6_within_11 rfl ?_
      subst h
      exact V_zret eX6_within_15 rfl rfl ⟨rfl, rfl⟩
theorem bzX6_within (p0 : Int32) (p1 : Int32) (p2 : Int32) : narrow .boolean (.int (fX6_within p0 p1 p2)) = .int (fX6_within p0 p1 p2) := by
  unfold fX6_within
  repeat' split
  all_goals first | rfl
theorem hdX1_faultOf : yX1_faultOf.cls ≠ "java/lang/invoke/MethodHandle" ∧ yX1_faultOf.cls ≠ "java/lang/invoke/VarHandle" ∧ (parseMethodDescriptor yX1_faultOf.desc).map (fun d => d.parameters.length) = some 2 := by decide +kernel
theorem eX1_faultOf_0 : Dc cX1_faultOf 0 (.iconst 0) 1 1 := ⟨by decide +kernel, rfl⟩
theorem eX1_faultOf_1 : Dc cX1_faultOf 1 (.istore_n 3) 1 2 := ⟨by decide +kernel, rfl⟩
theorem eX1_faultOf_2 : Dc cX1_faultOf 2 (.iload_n 3) 1 3 := ⟨by decide +kernel, rfl⟩
theorem eX1_faultOf_3 : Dc cX1_faultOf 3 (.aload_n 0) 1 4 := ⟨by decide +kernel, rfl⟩
theorem eX1_faultOf_4 : Dc cX1_faultOf 4 (.getfield 15) 3 7 := ⟨by decide +kernel, rfl⟩
theorem eX1_faultOf_7 : Dc cX1_faultOf 7 (.if_icmp .ge 30) 3 10 := ⟨by decide +kernel, rfl⟩
theorem eX1_faultOf_10 : Dc cX1_faultOf 10 (.iload_n 3) 1 11 := ⟨by decide +kernel, rfl⟩
theorem eX1_faultOf_11 : Dc cX1_faultOf 11 (.iload_n 2) 1 12 := ⟨by decide +kernel, rfl⟩
theorem eX1_faultOf_12 : Dc cX1_faultOf 12 (.if_icmp .ge 17) 3 15 := ⟨by decide +kernel, rfl⟩
theorem eX1_faultOf_15 : Dc cX1_faultOf 15 (.aload_n 0) 1 16 := ⟨by decide +kernel, rfl⟩
theorem eX1_faultOf_16 : Dc cX1_faultOf 16 (.iload_n 3) 1 17 := ⟨by decide +kernel, rfl⟩
theorem eX1_faultOf_17 : Dc cX1_faultOf 17 (.invokevirtual 19) 3 20 := ⟨by decide +kernel, rfl⟩
theorem eX1_faultOf_20 : Dc cX1_faultOf 20 (.iconst 0) 1 21 := ⟨by decide +kernel, rfl⟩
theorem eX1_faultOf_21 : Dc cX1_faultOf 21 (.bipush 9) 2 23 := ⟨by decide +kernel, rfl⟩
theorem eX1_faultOf_23 : Dc cX1_faultOf 23 (.invokestatic 23) 3 26 := ⟨by decide +kernel, rfl⟩
theorem eX1_faultOf_26 : Dc cX1_faultOf 26 (.ifCond .ne 5) 3 29 := ⟨by decide +kernel, rfl⟩
theorem eX1_faultOf_29 : Dc cX1_faultOf 29 (.iload_n 3) 1 30 := ⟨by decide +kernel, rfl⟩
theorem eX1_faultOf_30 : Dc cX1_faultOf 30 (.ireturn) 1 31 := ⟨by decide +kernel, rfl⟩
theorem eX1_faultOf_31 : Dc cX1_faultOf 31 (.iinc 3 1) 3 34 := ⟨by decide +kernel, rfl⟩
theorem eX1_faultOf_34 : Dc cX1_faultOf 34 (.goto (-32)) 3 37 := ⟨by decide +kernel, rfl⟩
theorem eX1_faultOf_37 : Dc cX1_faultOf 37 (.aload_n 0) 1 38 := ⟨by decide +kernel, rfl⟩
theorem eX1_faultOf_38 : Dc cX1_faultOf 38 (.getfield 15) 3 41 := ⟨by decide +kernel, rfl⟩
theorem eX1_faultOf_41 : Dc cX1_faultOf 41 (.iload_n 1) 1 42 := ⟨by decide +kernel, rfl⟩
theorem eX1_faultOf_42 : Dc cX1_faultOf 42 (.if_icmp .ge 10) 3 45 := ⟨by decide +kernel, rfl⟩
theorem eX1_faultOf_45 : Dc cX1_faultOf 45 (.aload_n 0) 1 46 := ⟨by decide +kernel, rfl⟩
theorem eX1_faultOf_46 : Dc cX1_faultOf 46 (.getfield 15) 3 49 := ⟨by decide +kernel, rfl⟩
theorem eX1_faultOf_49 : Dc cX1_faultOf 49 (.goto 5) 3 52 := ⟨by decide +kernel, rfl⟩
theorem eX1_faultOf_52 : Dc cX1_faultOf 52 (.bipush (-6)) 2 54 := ⟨by decide +kernel, rfl⟩
theorem eX1_faultOf_54 : Dc cX1_faultOf 54 (.ireturn) 1 55 := ⟨by decide +kernel, rfl⟩
def fX1_faultOf_L2 (k : Unit → Option (Int32)) (c : SS) (a1 : Int32) (a2 : Int32) : Nat → Int32 → Option (Int32)
  | 0, _ => none
  | n + 1, a3 => if (c.1 0) ≤ a3 then k () else if a2 ≤ a3 then some a3 else Option.bind (fX1_digit c a3) (fun q4 => if (fX6_within q4 (0 : Int32) (9 : Int32)) = (0 : Int32) then some a3 else fX1_faultOf_L2 k c a1 a2 n (a3 + (1 : Int32)))
def fX1_faultOf (c : SS) (p1 : Int32) (p2 : Int32) : Option (Int32) := fX1_faultOf_L2 (fun (_ : Unit) => if p1 ≤ (c.1 0) then some (-6 : Int32) else some (c.1 0)) c p1 p2 fu (0 : Int32)
set_option maxRecDepth 20000 in
theorem ctX1_faultOf_L2 (l : Launch) (G : tg_G) (A : Nat → Nat) (k : Unit → Option (Int32)) (c : SS) (a1 : Int32) (a2 : Int32) {z : Int32} (hk : k () = some z → V l G (tg_Zm G (fun v w1 => v = some (.int z) ∧ w1 = wC G A c) 0 0) tg_E0 (tg_R 1 22) "TramGod$Pad" "faultOf" cX1_faultOf 4 (some .int) 37 [(0, .ref (A 1)), (1, .int a1)] [] (wC G A c) 0 0) : ∀ (n : Nat) (a3 : Int32), fX1_faultOf_L2 k c a1 a2 n a3 = some z → V l G (tg_Zm G (fun v w1 => v = some (.int z) ∧ w1 = wC G A c) 0 0) tg_E0 (tg_R 1 22) "TramGod$Pad" "faultOf" cX1_faultOf 4 (some .int) 2 [(0, .ref (A 1)), (1, .int a1), (2, .int a2), (3, .int a3)] [] (wC G A c) 0 0 := by
  intro n
  induction n with
  | zero => intro a3 h; exact absurd h (by simp [fX1_faultOf_L2])
  | succ n ih =>
    intro a3 h
    unfold fX1_faultOf_L2 at h
    refine V_iload_n eX1_faultOf_2 3 rfl ?_
    refine V_aload_n eX1_faultOf_3 0 rfl ?_
    refine V_get (v := .int (c.1 0)) eX1_faultOf_4 inX1 1 rfl rfl 1 (Nat.le_of_ble_eq_true rfl) tw_27 rfl ?_
    refine V_icmp_ge (tgt := 37) eX1_faultOf_7 rfl (fun hb1 => ?_) (fun hb1 => ?_)
    · replace h := (if_pos hb1).symm.trans h
      refine V_lv (lv' := [(0, .ref (A 1)), (1, .int a1)]) [0, 1] rfl ?_
      exact hk h
    · replace h := (if_neg hb1).symm.trans h
      refine V_iload_n eX1_faultOf_10 3 rfl ?_
      refine V_iload_n eX1_faultOf_11 2 rfl ?_
      refine V_icmp_ge (tgt := 29) eX1_faultOf_12 rfl (fun hb2 => ?_) (fun hb2 => ?_)
      · replace h := (if_pos hb2).symm.trans h
        refine V_iload_n eX1_faultOf_29 3 rfl ?_
        obtain rfl := Option.some.inj h
        exact V_ret eX1_faultOf_30 rfl ⟨rfl, rfl⟩
      · replace h := (if_neg hb2).symm.trans h
        refine V_aload_n eX1_faultOf_15 0 rfl ?_
        refine V_iload_n eX1_faultOf_16 3 rfl ?_
        obtain ⟨q4, hc4, h⟩ := Option.bind_eq_some_iff.mp h
        refine V_callVi (rest := []) eX1_faultOf_17 (ctX1_digit l G A c a3 hc4) tc_261 tw_258 tw_2 tw_259 tw_260 1 rfl rfl hdX1_digit rfl ⟨Nat.le_of_ble_eq_true rfl, Nat.le_of_ble_eq_true rfl⟩ rfl (Nat.le_of_ble_eq_true rfl) ⟨Nat.zero_le _, Nat.zero_le _⟩ ?_
        refine V_iconst (v := (0 : Int32)) eX1_faultOf_20 rfl ?_
        refine V_bipush (v := (9 : Int32)) eX1_faultOf_21 rfl ?_
        refine V_callSNi (rest := []) eX1_faultOf_23 (ctX6_within l G _ q4 (0 : Int32) (9 : Int32) rfl) tc_241 (List.mem_of_getElem? (i := 2) rfl) tw_1 tw_240 hdX6_within rfl ⟨Nat.le_of_ble_eq_true rfl, Nat.le_of_ble_eq_true rfl⟩ rfl (Nat.le_of_ble_eq_true rfl) ⟨Nat.zero_le _, Nat.zero_le _⟩ ?_
        refine V_if_ne (tgt := 31) eX1_faultOf_26 rfl (fun hb3 => ?_) (fun hb3 => ?_)
        · replace h := (if_neg hb3).symm.trans h
          refine V_iinc (v := (a3 + (1 : Int32))) (lv' := [(3, .int (a3 + (1 : Int32))), (0, .ref (A 1)), (1, .int a1), (2, .int a2)]) eX1_faultOf_31 3 rfl rfl (Nat.le_of_ble_eq_true rfl) rfl ?_
          refine V_goto (tgt := 2) eX1_faultOf_34 rfl ?_
          refine V_lv (lv' := [(0, .ref (A 1)), (1, .int a1), (2, .int a2), (3, .int (a3 + (1 : Int32)))]) [1, 2, 3, 0] rfl ?_
          exact ih (a3 + (1 : Int32)) h
        · replace h := (if_pos hb3).symm.trans h
          refine V_iload_n eX1_faultOf_29 3 rfl ?_
          obtain rfl := Option.some.inj h
          exact V_ret eX1_faultOf_30 rfl ⟨rfl, rfl⟩
set_option maxRecDepth 20000 in
theorem ctX1_faultOf (l : Launch) (G : tg_G) (A : Nat → Nat) (c : SS) (p1 : Int32) (p2 : Int32) {z : Int32} (h : fX1_faultOf c p1 p2 = some z) : Mt l G yX1_faultOf cX1_faultOf 4 (some .int) (tg_R 1 22) [.ref (A 1), .int p1, .int p2] (wC G A c) (fun v w1 => v = some (.int z) ∧ w1 = wC G A c) := by
  refine Mt_of2 (own := "TramGod$Pad") (nm := "faultOf") rfl rfl rfl (Nat.le_of_ble_eq_true rfl) (lv := [(0, .ref (A 1)), (1, .int p1), (2, .int p2)]) rfl ?_
  unfold fX1_faultOf at h
  refine V_iconst (v := (0 : Int32)) eX1_faultOf_0 rfl ?_
  refine V_istore_n (lv' := [(3, .int (0 : Int32)), (0, .ref (A 1)), (1, .int p1), (2, .int p2)]) eX1_faultOf_1 (Nat.le_of_ble_eq_true rfl) rfl ?_
  refine V_lv (lv' := [(0, .ref (A 1)), (1, .int p1), (2, .int p2), (3, .int (0 : Int32))]) [1, 2, 3, 0] rfl ?_
  refine ctX1_faultOf_L2 l G A _ c p1 p2 ?_ fu (0 : Int32) h
  · intro h
    refine V_aload_n eX1_faultOf_37 0 rfl ?_
    refine V_get (v := .int (c.1 0)) eX1_faultOf_38 inX1 1 rfl rfl 1 (Nat.le_of_ble_eq_true rfl) tw_27 rfl ?_
    refine V_iload_n eX1_faultOf_41 1 rfl ?_
    refine V_icmp_ge (tgt := 52) eX1_faultOf_42 rfl (fun hb4 => ?_) (fun hb4 => ?_)
    · replace h := (if_pos hb4).symm.trans h
      refine V_bipush (v := (-6 : Int32)) eX1_faultOf_52 rfl ?_
      obtain rfl := Option.some.inj h
      exact V_ret eX1_faultOf_54 rfl ⟨rfl, rfl⟩
    · replace h := (if_neg hb4).symm.trans h
      refine V_aload_n eX1_faultOf_45 0 rfl ?_
      refine V_get (v := .int (c.1 0)) eX1_faultOf_46 inX1 1 rfl rfl 1 (Nat.le_of_ble_eq_true rfl) tw_27 rfl ?_
      refine V_goto (tgt := 54) eX1_faultOf_49 rfl ?_
      obtain rfl := Option.some.inj h
      exact V_ret eX1_faultOf_54 rfl ⟨rfl, rfl⟩
theorem hdX7_in : yX7_in.cls ≠ "java/lang/invoke/MethodHandle" ∧ yX7_in.cls ≠ "java/lang/invoke/VarHandle" ∧ (parseMethodDescriptor yX7_in.desc).map (fun d => d.parameters.length) = some 3 := by decide +kernel
theorem eX7_in_0 : Dc cX7_in 0 (.lload_n 0) 1 1 := ⟨by decide +kernel, rfl⟩
theorem eX7_in_1 : Dc cX7_in 1 (.lload_n 2) 1 2 := ⟨by decide +kernel, rfl⟩
theorem eX7_in_2 : Dc cX7_in 2 (.lcmp) 1 3 := ⟨by decide +kernel, rfl⟩
theorem eX7_in_3 : Dc cX7_in 3 (.ifCond .lt 14) 3 6 := ⟨by decide +kernel, rfl⟩
theorem eX7_in_6 : Dc cX7_in 6 (.lload_n 0) 1 7 := ⟨by decide +kernel, rfl⟩
theorem eX7_in_7 : Dc cX7_in 7 (.lload 4) 2 9 := ⟨by decide +kernel, rfl⟩
theorem eX7_in_9 : Dc cX7_in 9 (.lcmp) 1 10 := ⟨by decide +kernel, rfl⟩
theorem eX7_in_10 : Dc cX7_in 10 (.ifCond .gt 7) 3 13 := ⟨by decide +kernel, rfl⟩
theorem eX7_in_13 : Dc cX7_in 13 (.iconst 1) 1 14 := ⟨by decide +kernel, rfl⟩
theorem eX7_in_14 : Dc cX7_in 14 (.goto 4) 3 17 := ⟨by decide +kernel, rfl⟩
theorem eX7_in_17 : Dc cX7_in 17 (.iconst 0) 1 18 := ⟨by decide +kernel, rfl⟩
theorem eX7_in_18 : Dc cX7_in 18 (.ireturn) 1 19 := ⟨by decide +kernel, rfl⟩
def fX7_in (p0 : Int64) (p2 : Int64) (p4 : Int64) : Int32 := if (lg_cmp p0 p2) < (0 : Int32) then (0 : Int32) else if (0 : Int32) < (lg_cmp p0 p4) then (0 : Int32) else (1 : Int32)
set_option maxRecDepth 20000 in
theorem ctX7_in (l : Launch) (G : tg_G) (w : va_W) (p0 : Int64) (p2 : Int64) (p4 : Int64) {z : Int32} (h : fX7_in p0 p2 p4 = z) : Mt l G yX7_in cX7_in 6 (some .boolean) (tg_R 0 0) [.long p0, .long p2, .long p4] (w) (fun v w1 => v = some (.int z) ∧ w1 = w) := by
  refine Mt_of2 (own := "TramGodModel") (nm := "in") rfl rfl rfl (Nat.le_of_ble_eq_true rfl) (lv := [(0, .long p0), (2, .long p2), (4, .long p4)]) rfl ?_
  unfold fX7_in at h
  refine V_lload_n eX7_in_0 0 rfl ?_
  refine V_lload_n eX7_in_1 1 rfl ?_
  refine V_lcmp eX7_in_2 ?_
  refine V_if_lt (tgt := 17) eX7_in_3 rfl (fun hb1 => ?_) (fun hb1 => ?_)
  · replace h := (if_pos hb1).symm.trans h
    refine V_iconst (v := (0 : Int32)) eX7_in_17 rfl ?_
    subst h
    exact V_zret eX7_in_18 rfl rfl ⟨rfl, rfl⟩
  · replace h := (if_neg hb1).symm.trans h
    refine V_lload_n eX7_in_6 0 rfl ?_
    refine V_lload eX7_in_7 2 rfl ?_
    refine V_lcmp eX7_in_9 ?_
    refine V_if_gt (tgt := 17) eX7_in_10 rfl (fun hb2 => ?_) (fun hb2 => ?_)
    · replace h := (if_pos hb2).symm.trans h
      refine V_iconst (v := (0 : Int32)) eX7_in_17 rfl ?_
      subst h
      exact V_zret eX7_in_18 rfl rfl ⟨rfl, rfl⟩
    · replace h := (if_neg hb2).symm.trans h
      refine V_iconst (v := (1 : Int32)) eX7_in_13 rfl ?_
      refine V_goto (tgt := 18) eX7_in_14 rfl ?_
      subst h
      exact V_zret eX7_in_18 rfl rfl ⟨rfl, rfl⟩
theorem bzX7_in (p0 : Int64) (p2 : Int64) (p4 : Int64) : narrow .boolean (.int (fX7_in p0 p2 p4)) = .int (fX7_in p0 p2 p4) := by
  unfold fX7_in
  repeat' split
  all_goals first | rfl
theorem hdX7_isThere : yX7_isThere.cls ≠ "java/lang/invoke/MethodHandle" ∧ yX7_isThere.cls ≠ "java/lang/invoke/VarHandle" ∧ (parseMethodDescriptor yX7_isThere.desc).map (fun d => d.parameters.length) = some 1 := by decide +kernel
theorem eX7_isThere_0 : Dc cX7_isThere 0 (.iload_n 1) 1 1 := ⟨by decide +kernel, rfl⟩
theorem eX7_isThere_1 : Dc cX7_isThere 1 (.i2l) 1 2 := ⟨by decide +kernel, rfl⟩
theorem eX7_isThere_2 : Dc cX7_isThere 2 (.lconst 0) 1 3 := ⟨by decide +kernel, rfl⟩
theorem eX7_isThere_3 : Dc cX7_isThere 3 (.ldc2_w 86) 3 6 := ⟨by decide +kernel, rfl⟩
theorem eX7_isThere_6 : Dc cX7_isThere 6 (.invokestatic 79) 3 9 := ⟨by decide +kernel, rfl⟩
theorem eX7_isThere_9 : Dc cX7_isThere 9 (.ifCond .eq 19) 3 12 := ⟨by decide +kernel, rfl⟩
theorem eX7_isThere_12 : Dc cX7_isThere 12 (.aload_n 0) 1 13 := ⟨by decide +kernel, rfl⟩
theorem eX7_isThere_13 : Dc cX7_isThere 13 (.getfield 88) 3 16 := ⟨by decide +kernel, rfl⟩
theorem eX7_isThere_16 : Dc cX7_isThere 16 (.iload_n 1) 1 17 := ⟨by decide +kernel, rfl⟩
theorem eX7_isThere_17 : Dc cX7_isThere 17 (.ishr) 1 18 := ⟨by decide +kernel, rfl⟩
theorem eX7_isThere_18 : Dc cX7_isThere 18 (.iconst 1) 1 19 := ⟨by decide +kernel, rfl⟩
theorem eX7_isThere_19 : Dc cX7_isThere 19 (.iand) 1 20 := ⟨by decide +kernel, rfl⟩
theorem eX7_isThere_20 : Dc cX7_isThere 20 (.iconst 1) 1 21 := ⟨by decide +kernel, rfl⟩
theorem eX7_isThere_21 : Dc cX7_isThere 21 (.if_icmp .ne 7) 3 24 := ⟨by decide +kernel, rfl⟩
theorem eX7_isThere_24 : Dc cX7_isThere 24 (.iconst 1) 1 25 := ⟨by decide +kernel, rfl⟩
theorem eX7_isThere_25 : Dc cX7_isThere 25 (.goto 4) 3 28 := ⟨by decide +kernel, rfl⟩
theorem eX7_isThere_28 : Dc cX7_isThere 28 (.iconst 0) 1 29 := ⟨by decide +kernel, rfl⟩
theorem eX7_isThere_29 : Dc cX7_isThere 29 (.ireturn) 1 30 := ⟨by decide +kernel, rfl⟩
def fX7_isThere (c : SS) (p1 : Int32) : Int32 := if (fX7_in (p1).toInt64 (0 : Int64) (7 : Int64)) = (0 : Int32) then (0 : Int32) else if (((c.1 3) >>> (p1 &&& 31)) &&& (1 : Int32)) = (1 : Int32) then (1 : Int32) else (0 : Int32)
set_option maxRecDepth 20000 in
theorem ctX7_isThere (l : Launch) (G : tg_G) (A : Nat → Nat) (c : SS) (p1 : Int32) {z : Int32} (h : fX7_isThere c p1 = z) : Mt l G yX7_isThere cX7_isThere 2 (some .boolean) (tg_R 1 25) [.ref (A 0), .int p1] (wM G A c) (fun v w1 => v = some (.int z) ∧ w1 = wM G A c) := by
  refine Mt_of2 (own := "TramGodModel") (nm := "isThere") rfl rfl rfl (Nat.le_of_ble_eq_true rfl) (lv := [(0, .ref (A 0)), (1, .int p1)]) rfl ?_
  unfold fX7_isThere at h
  refine V_iload_n eX7_isThere_0 1 rfl ?_
  refine V_i2l eX7_isThere_1 ?_
  refine V_lconst (v := (0 : Int64)) eX7_isThere_2 rfl ?_
  refine V_ldc2 eX7_isThere_3 tw_779 ?_
  refine V_callSi (rest := []) eX7_isThere_6 (ctX7_in l G _ (p1).toInt64 (0 : Int64) (7 : Int64) rfl) tc_748 tw_746 tw_8 tw_747 hdX7_in rfl ⟨Nat.le_of_ble_eq_true rfl, Nat.le_of_ble_eq_true rfl⟩ rfl (Nat.le_of_ble_eq_true rfl) ⟨Nat.zero_le _, Nat.zero_le _⟩ ?_
  refine V_if_eq (tgt := 28) eX7_isThere_9 rfl (fun hb3 => ?_) (fun hb3 => ?_)
  · replace h := (if_pos hb3).symm.trans h
    refine V_iconst (v := (0 : Int32)) eX7_isThere_28 rfl ?_
    subst h
    exact V_zret eX7_isThere_29 rfl rfl ⟨rfl, rfl⟩
  · replace h := (if_neg hb3).symm.trans h
    refine V_aload_n eX7_isThere_12 0 rfl ?_
    refine V_get (v := .int (c.1 3)) eX7_isThere_13 inX7 0 rfl rfl 3 (Nat.le_of_ble_eq_true rfl) tw_648 rfl ?_
    refine V_iload_n eX7_isThere_16 1 rfl ?_
    refine V_ishr eX7_isThere_17 ?_
    refine V_iconst (v := (1 : Int32)) eX7_isThere_18 rfl ?_
    refine V_iand eX7_isThere_19 ?_
    refine V_iconst (v := (1 : Int32)) eX7_isThere_20 rfl ?_
    refine V_icmp_ne (tgt := 28) eX7_isThere_21 rfl (fun hb4 => ?_) (fun hb4 => ?_)
    · replace h := (if_neg hb4).symm.trans h
      refine V_iconst (v := (0 : Int32)) eX7_isThere_28 rfl ?_
      subst h
      exact V_zret eX7_isThere_29 rfl rfl ⟨rfl, rfl⟩
    · replace h := (if_pos hb4).symm.trans h
      refine V_iconst (v := (1 : Int32)) eX7_isThere_24 rfl ?_
      refine V_goto (tgt := 29) eX7_isThere_25 rfl ?_
      subst h
      exact V_zret eX7_isThere_29 rfl rfl ⟨rfl, rfl⟩
theorem bzX7_isThere (c : SS) (p1 : Int32) : narrow .boolean (.int (fX7_isThere c p1)) = .int (fX7_isThere c p1) := by
  unfold fX7_isThere
  repeat' split
  all_goals first | rfl | exact (bzX7_in (p1).toInt64 (0 : Int64) (7 : Int64))
theorem hdX7_goodOf : yX7_goodOf.cls ≠ "java/lang/invoke/MethodHandle" ∧ yX7_goodOf.cls ≠ "java/lang/invoke/VarHandle" ∧ (parseMethodDescriptor yX7_goodOf.desc).map (fun d => d.parameters.length) = some 2 := by decide +kernel
theorem eX7_goodOf_0 : Dc cX7_goodOf 0 (.iconst 0) 1 1 := ⟨by decide +kernel, rfl⟩
theorem eX7_goodOf_1 : Dc cX7_goodOf 1 (.istore_n 3) 1 2 := ⟨by decide +kernel, rfl⟩
theorem eX7_goodOf_2 : Dc cX7_goodOf 2 (.iconst 0) 1 3 := ⟨by decide +kernel, rfl⟩
theorem eX7_goodOf_3 : Dc cX7_goodOf 3 (.istore 4) 2 5 := ⟨by decide +kernel, rfl⟩
theorem eX7_goodOf_5 : Dc cX7_goodOf 5 (.iload 4) 2 7 := ⟨by decide +kernel, rfl⟩
theorem eX7_goodOf_7 : Dc cX7_goodOf 7 (.bipush 8) 2 9 := ⟨by decide +kernel, rfl⟩
theorem eX7_goodOf_9 : Dc cX7_goodOf 9 (.if_icmp .ge 74) 3 12 := ⟨by decide +kernel, rfl⟩
theorem eX7_goodOf_12 : Dc cX7_goodOf 12 (.aload_n 0) 1 13 := ⟨by decide +kernel, rfl⟩
theorem eX7_goodOf_13 : Dc cX7_goodOf 13 (.iload 4) 2 15 := ⟨by decide +kernel, rfl⟩
theorem eX7_goodOf_15 : Dc cX7_goodOf 15 (.invokevirtual 126) 3 18 := ⟨by decide +kernel, rfl⟩
theorem eX7_goodOf_18 : Dc cX7_goodOf 18 (.ifCond .eq 17) 3 21 := ⟨by decide +kernel, rfl⟩
theorem eX7_goodOf_21 : Dc cX7_goodOf 21 (.iload_n 2) 1 22 := ⟨by decide +kernel, rfl⟩
theorem eX7_goodOf_22 : Dc cX7_goodOf 22 (.iload 4) 2 24 := ⟨by decide +kernel, rfl⟩
theorem eX7_goodOf_24 : Dc cX7_goodOf 24 (.ishr) 1 25 := ⟨by decide +kernel, rfl⟩
theorem eX7_goodOf_25 : Dc cX7_goodOf 25 (.iconst 1) 1 26 := ⟨by decide +kernel, rfl⟩
theorem eX7_goodOf_26 : Dc cX7_goodOf 26 (.iand) 1 27 := ⟨by decide +kernel, rfl⟩
theorem eX7_goodOf_27 : Dc cX7_goodOf 27 (.iconst 1) 1 28 := ⟨by decide +kernel, rfl⟩
theorem eX7_goodOf_28 : Dc cX7_goodOf 28 (.if_icmp .ne 7) 3 31 := ⟨by decide +kernel, rfl⟩
theorem eX7_goodOf_31 : Dc cX7_goodOf 31 (.iconst 1) 1 32 := ⟨by decide +kernel, rfl⟩
theorem eX7_goodOf_32 : Dc cX7_goodOf 32 (.goto 4) 3 35 := ⟨by decide +kernel, rfl⟩
theorem eX7_goodOf_35 : Dc cX7_goodOf 35 (.iconst 0) 1 36 := ⟨by decide +kernel, rfl⟩
theorem eX7_goodOf_36 : Dc cX7_goodOf 36 (.istore 5) 2 38 := ⟨by decide +kernel, rfl⟩
theorem eX7_goodOf_38 : Dc cX7_goodOf 38 (.iload_n 3) 1 39 := ⟨by decide +kernel, rfl⟩
theorem eX7_goodOf_39 : Dc cX7_goodOf 39 (.iload 5) 2 41 := ⟨by decide +kernel, rfl⟩
theorem eX7_goodOf_41 : Dc cX7_goodOf 41 (.ifCond .ne 7) 3 44 := ⟨by decide +kernel, rfl⟩
theorem eX7_goodOf_44 : Dc cX7_goodOf 44 (.iconst 0) 1 45 := ⟨by decide +kernel, rfl⟩
theorem eX7_goodOf_45 : Dc cX7_goodOf 45 (.goto 30) 3 48 := ⟨by decide +kernel, rfl⟩
theorem eX7_goodOf_48 : Dc cX7_goodOf 48 (.iload_n 1) 1 49 := ⟨by decide +kernel, rfl⟩
theorem eX7_goodOf_49 : Dc cX7_goodOf 49 (.iload 4) 2 51 := ⟨by decide +kernel, rfl⟩
theorem eX7_goodOf_51 : Dc cX7_goodOf 51 (.ishr) 1 52 := ⟨by decide +kernel, rfl⟩
theorem eX7_goodOf_52 : Dc cX7_goodOf 52 (.iconst 1) 1 53 := ⟨by decide +kernel, rfl⟩
theorem eX7_goodOf_53 : Dc cX7_goodOf 53 (.iand) 1 54 := ⟨by decide +kernel, rfl⟩
theorem eX7_goodOf_54 : Dc cX7_goodOf 54 (.iconst 1) 1 55 := ⟨by decide +kernel, rfl⟩
theorem eX7_goodOf_55 : Dc cX7_goodOf 55 (.if_icmp .ne 13) 3 58 := ⟨by decide +kernel, rfl⟩
theorem eX7_goodOf_58 : Dc cX7_goodOf 58 (.aload_n 0) 1 59 := ⟨by decide +kernel, rfl⟩
theorem eX7_goodOf_59 : Dc cX7_goodOf 59 (.getfield 19) 3 62 := ⟨by decide +kernel, rfl⟩
theorem eX7_goodOf_62 : Dc cX7_goodOf 62 (.iload 4) 2 64 := ⟨by decide +kernel, rfl⟩
theorem eX7_goodOf_64 : Dc cX7_goodOf 64 (.iaload) 1 65 := ⟨by decide +kernel, rfl⟩
theorem eX7_goodOf_65 : Dc cX7_goodOf 65 (.goto 10) 3 68 := ⟨by decide +kernel, rfl⟩
theorem eX7_goodOf_68 : Dc cX7_goodOf 68 (.aload_n 0) 1 69 := ⟨by decide +kernel, rfl⟩
theorem eX7_goodOf_69 : Dc cX7_goodOf 69 (.getfield 22) 3 72 := ⟨by decide +kernel, rfl⟩
theorem eX7_goodOf_72 : Dc cX7_goodOf 72 (.iload 4) 2 74 := ⟨by decide +kernel, rfl⟩
theorem eX7_goodOf_74 : Dc cX7_goodOf 74 (.iaload) 1 75 := ⟨by decide +kernel, rfl⟩
theorem eX7_goodOf_75 : Dc cX7_goodOf 75 (.iadd) 1 76 := ⟨by decide +kernel, rfl⟩
theorem eX7_goodOf_76 : Dc cX7_goodOf 76 (.istore_n 3) 1 77 := ⟨by decide +kernel, rfl⟩
theorem eX7_goodOf_77 : Dc cX7_goodOf 77 (.iinc 4 1) 3 80 := ⟨by decide +kernel, rfl⟩
theorem eX7_goodOf_80 : Dc cX7_goodOf 80 (.goto (-75)) 3 83 := ⟨by decide +kernel, rfl⟩
theorem eX7_goodOf_83 : Dc cX7_goodOf 83 (.iload_n 3) 1 84 := ⟨by decide +kernel, rfl⟩
theorem eX7_goodOf_84 : Dc cX7_goodOf 84 (.ireturn) 1 85 := ⟨by decide +kernel, rfl⟩
def fX7_goodOf_L5  (c : SS) (a1 : Int32) (a2 : Int32) : Nat → Int32 → Int32 → Option (Int32)
  | 0, _, _ => none
  | n + 1, a3, a4 => if (8 : Int32) ≤ a4 then some a3 else jn (fun (x5 : Int32) => jn (fun (x6 : Int32) => fX7_goodOf_L5 c a1 a2 n (a3 + x6) (a4 + (1 : Int32))) (fun j75 => if x5 = (0 : Int32) then j75 (0 : Int32) else if ((a1 >>> (a4 &&& 31)) &&& (1 : Int32)) = (1 : Int32) then ald 8 (c.2 6) a4 (fun v10 => j75 v10) else ald 8 (c.2 7) a4 (fun v9 => j75 v9))) (fun j36 => jn (fun (_ : Unit) => j36 (0 : Int32)) (fun j35 => if (fX7_isThere c a4) = (0 : Int32) then j35 () else if ((a2 >>> (a4 &&& 31)) &&& (1 : Int32)) = (1 : Int32) then j36 (1 : Int32) else j35 ()))
def fX7_goodOf (c : SS) (p1 : Int32) (p2 : Int32) : Option (Int32) := fX7_goodOf_L5 c p1 p2 fu (0 : Int32) (0 : Int32)
set_option maxRecDepth 20000 in
theorem ctX7_goodOf_L5 (l : Launch) (G : tg_G) (A : Nat → Nat)  (c : SS) (a1 : Int32) (a2 : Int32) {z : Int32}  : ∀ (n : Nat) (a3 : Int32) (a4 : Int32), fX7_goodOf_L5 c a1 a2 n a3 a4 = some z → V l G (tg_Zm G (fun v w1 => v = some (.int z) ∧ w1 = wM G A c) 0 0) tg_E0 (tg_R 2 46) "TramGodModel" "goodOf" cX7_goodOf 6 (some .int) 5 [(0, .ref (A 0)), (1, .int a1), (2, .int a2), (3, .int a3), (4, .int a4)] [] (wM G A c) 0 0 := by
  intro n
  induction n with
  | zero => intro a3 a4 h; exact absurd h (by simp [fX7_goodOf_L5])
  | succ n ih =>
    intro a3 a4 h
    unfold fX7_goodOf_L5 at h
    refine V_iload eX7_goodOf_5 4 rfl ?_
    refine V_bipush (v := (8 : Int32)) eX7_goodOf_7 rfl ?_
    refine V_icmp_ge (tgt := 83) eX7_goodOf_9 rfl (fun hb1 => ?_) (fun hb1 => ?_)
    · replace h := (if_pos hb1).symm.trans h
      refine V_iload_n eX7_goodOf_83 3 rfl ?_
      obtain rfl := Option.some.inj h
      exact V_ret eX7_goodOf_84 rfl ⟨rfl, rfl⟩
    · replace h := (if_neg hb1).symm.trans h
      refine V_aload_n eX7_goodOf_12 0 rfl ?_
      refine V_iload eX7_goodOf_13 4 rfl ?_
      refine V_callVi (rest := []) eX7_goodOf_15 (ctX7_isThere l G A c a4 rfl) tc_796 tw_793 tw_8 tw_795 ts_22 0 rfl rfl hdX7_isThere rfl ⟨Nat.le_of_ble_eq_true rfl, Nat.le_of_ble_eq_true rfl⟩ rfl (Nat.le_of_ble_eq_true rfl) ⟨Nat.zero_le _, Nat.zero_le _⟩ ?_
      refine jn_elim h (fun j => ∀ (x5 : Int32), j x5 = some z → V l G (tg_Zm G (fun v w1 => v = some (.int z) ∧ w1 = wM G A c) 0 0) tg_E0 (tg_R 2 46) "TramGodModel" "goodOf" cX7_goodOf 6 (some .int) 36 [(0, .ref (A 0)), (1, .int a1), (2, .int a2), (3, .int a3), (4, .int a4)] [.int x5] (wM G A c) 0 0) ?_ (fun j36 hj36 h => ?_)
      · intro x5 h
        refine V_istore (lv' := [(5, .int x5), (0, .ref (A 0)), (1, .int a1), (2, .int a2), (3, .int a3), (4, .int a4)]) eX7_goodOf_36 (Nat.le_of_ble_eq_true rfl) rfl ?_
        refine V_iload_n eX7_goodOf_38 4 rfl ?_
        refine V_iload eX7_goodOf_39 0 rfl ?_
        refine jn_elim h (fun j => ∀ (x6 : Int32), j x6 = some z → V l G (tg_Zm G (fun v w1 => v = some (.int z) ∧ w1 = wM G A c) 0 0) tg_E0 (tg_R 2 46) "TramGodModel" "goodOf" cX7_goodOf 6 (some .int) 75 [(0, .ref (A 0)), (1, .int a1), (2, .int a2), (4, .int a4)] [.int x6, .int a3] (wM G A c) 0 0) ?_ (fun j75 hj75 h => ?_)
        · intro x6 h
          refine V_iadd eX7_goodOf_75 ?_
          refine V_istore_n (lv' := [(3, .int (a3 + x6)), (0, .ref (A 0)), (1, .int a1), (2, .int a2), (4, .int a4)]) eX7_goodOf_76 (Nat.le_of_ble_eq_true rfl) rfl ?_
          refine V_iinc (v := (a4 + (1 : Int32))) (lv' := [(4, .int (a4 + (1 : Int32))), (3, .int (a3 + x6)), (0, .ref (A 0)), (1, .int a1), (2, .int a2)]) eX7_goodOf_77 4 rfl rfl (Nat.le_of_ble_eq_true rfl) rfl ?_
          refine V_goto (tgt := 5) eX7_goodOf_80 rfl ?_
          refine V_lv (lv' := [(0, .ref (A 0)), (1, .int a1), (2, .int a2), (3, .int (a3 + x6)), (4, .int (a4 + (1 : Int32)))]) [2, 3, 4, 1, 0] rfl ?_
          exact ih (a3 + x6) (a4 + (1 : Int32)) h
        refine V_if_ne (tgt := 48) eX7_goodOf_41 rfl (fun hb7 => ?_) (fun hb7 => ?_)
        · replace h := (if_neg hb7).symm.trans h
          refine V_iload_n eX7_goodOf_48 2 rfl ?_
          refine V_iload eX7_goodOf_49 5 rfl ?_
          refine V_ishr eX7_goodOf_51 ?_
          refine V_iconst (v := (1 : Int32)) eX7_goodOf_52 rfl ?_
          refine V_iand eX7_goodOf_53 ?_
          refine V_iconst (v := (1 : Int32)) eX7_goodOf_54 rfl ?_
          refine V_icmp_ne (tgt := 68) eX7_goodOf_55 rfl (fun hb8 => ?_) (fun hb8 => ?_)
          · replace h := (if_neg hb8).symm.trans h
            refine V_aload_n eX7_goodOf_68 1 rfl ?_
            refine V_get (v := .ref (A 5)) eX7_goodOf_69 inX7 0 rfl rfl 7 (Nat.le_of_ble_eq_true rfl) tw_652 rfl ?_
            refine V_iload eX7_goodOf_72 5 rfl ?_
            obtain ⟨v9, hi9, ev9, h⟩ := ald_some h
            refine V_ialdv eX7_goodOf_74 5 rfl hi9 ev9 ?_
            refine V_lv (lv' := [(0, .ref (A 0)), (1, .int a1), (2, .int a2), (4, .int a4)]) [1, 2, 3, 5] rfl ?_
            exact hj75 v9 h
          · replace h := (if_pos hb8).symm.trans h
            refine V_aload_n eX7_goodOf_58 1 rfl ?_
            refine V_get (v := .ref (A 4)) eX7_goodOf_59 inX7 0 rfl rfl 6 (Nat.le_of_ble_eq_true rfl) tw_651 rfl ?_
            refine V_iload eX7_goodOf_62 5 rfl ?_
            obtain ⟨v10, hi10, ev10, h⟩ := ald_some h
            refine V_ialdv eX7_goodOf_64 4 rfl hi10 ev10 ?_
            refine V_goto (tgt := 75) eX7_goodOf_65 rfl ?_
            refine V_lv (lv' := [(0, .ref (A 0)), (1, .int a1), (2, .int a2), (4, .int a4)]) [1, 2, 3, 5] rfl ?_
            exact hj75 v10 h
        · replace h := (if_pos hb7).symm.trans h
          refine V_iconst (v := (0 : Int32)) eX7_goodOf_44 rfl ?_
          refine V_goto (tgt := 75) eX7_goodOf_45 rfl ?_
          refine V_lv (lv' := [(0, .ref (A 0)), (1, .int a1), (2, .int a2), (4, .int a4)]) [1, 2, 3, 5] rfl ?_
          exact hj75 (0 : Int32) h
      refine jn_elim h (fun j => j () = some z → V l G (tg_Zm G (fun v w1 => v = some (.int z) ∧ w1 = wM G A c) 0 0) tg_E0 (tg_R 2 46) "TramGodModel" "goodOf" cX7_goodOf 6 (some .int) 35 [(0, .ref (A 0)), (1, .int a1), (2, .int a2), (3, .int a3), (4, .int a4)] [] (wM G A c) 0 0) ?_ (fun j35 hj35 h => ?_)
      · intro h
        refine V_iconst (v := (0 : Int32)) eX7_goodOf_35 rfl ?_
        exact hj36 (0 : Int32) h
      refine V_if_eq (tgt := 35) eX7_goodOf_18 rfl (fun hb11 => ?_) (fun hb11 => ?_)
      · replace h := (if_pos hb11).symm.trans h
        exact hj35 h
      · replace h := (if_neg hb11).symm.trans h
        refine V_iload_n eX7_goodOf_21 2 rfl ?_
        refine V_iload eX7_goodOf_22 4 rfl ?_
        refine V_ishr eX7_goodOf_24 ?_
        refine V_iconst (v := (1 : Int32)) eX7_goodOf_25 rfl ?_
        refine V_iand eX7_goodOf_26 ?_
        refine V_iconst (v := (1 : Int32)) eX7_goodOf_27 rfl ?_
        refine V_icmp_ne (tgt := 35) eX7_goodOf_28 rfl (fun hb12 => ?_) (fun hb12 => ?_)
        · replace h := (if_neg hb12).symm.trans h
          exact hj35 h
        · replace h := (if_pos hb12).symm.trans h
          refine V_iconst (v := (1 : Int32)) eX7_goodOf_31 rfl ?_
          refine V_goto (tgt := 36) eX7_goodOf_32 rfl ?_
          exact hj36 (1 : Int32) h
set_option maxRecDepth 20000 in
theorem ctX7_goodOf (l : Launch) (G : tg_G) (A : Nat → Nat) (c : SS) (p1 : Int32) (p2 : Int32) {z : Int32} (h : fX7_goodOf c p1 p2 = some z) : Mt l G yX7_goodOf cX7_goodOf 6 (some .int) (tg_R 2 46) [.ref (A 0), .int p1, .int p2] (wM G A c) (fun v w1 => v = some (.int z) ∧ w1 = wM G A c) := by
  refine Mt_of2 (own := "TramGodModel") (nm := "goodOf") rfl rfl rfl (Nat.le_of_ble_eq_true rfl) (lv := [(0, .ref (A 0)), (1, .int p1), (2, .int p2)]) rfl ?_
  unfold fX7_goodOf at h
  refine V_iconst (v := (0 : Int32)) eX7_goodOf_0 rfl ?_
  refine V_istore_n (lv' := [(3, .int (0 : Int32)), (0, .ref (A 0)), (1, .int p1), (2, .int p2)]) eX7_goodOf_1 (Nat.le_of_ble_eq_true rfl) rfl ?_
  refine V_iconst (v := (0 : Int32)) eX7_goodOf_2 rfl ?_
  refine V_istore (lv' := [(4, .int (0 : Int32)), (3, .int (0 : Int32)), (0, .ref (A 0)), (1, .int p1), (2, .int p2)]) eX7_goodOf_3 (Nat.le_of_ble_eq_true rfl) rfl ?_
  refine V_lv (lv' := [(0, .ref (A 0)), (1, .int p1), (2, .int p2), (3, .int (0 : Int32)), (4, .int (0 : Int32))]) [2, 3, 4, 1, 0] rfl ?_
  refine ctX7_goodOf_L5 l G A c p1 p2 fu (0 : Int32) (0 : Int32) h
theorem hdX7_isOpen : yX7_isOpen.cls ≠ "java/lang/invoke/MethodHandle" ∧ yX7_isOpen.cls ≠ "java/lang/invoke/VarHandle" ∧ (parseMethodDescriptor yX7_isOpen.desc).map (fun d => d.parameters.length) = some 1 := by decide +kernel
theorem eX7_isOpen_0 : Dc cX7_isOpen 0 (.aload_n 0) 1 1 := ⟨by decide +kernel, rfl⟩
theorem eX7_isOpen_1 : Dc cX7_isOpen 1 (.getfield 83) 3 4 := ⟨by decide +kernel, rfl⟩
theorem eX7_isOpen_4 : Dc cX7_isOpen 4 (.iload_n 1) 1 5 := ⟨by decide +kernel, rfl⟩
theorem eX7_isOpen_5 : Dc cX7_isOpen 5 (.ishr) 1 6 := ⟨by decide +kernel, rfl⟩
theorem eX7_isOpen_6 : Dc cX7_isOpen 6 (.iconst 1) 1 7 := ⟨by decide +kernel, rfl⟩
theorem eX7_isOpen_7 : Dc cX7_isOpen 7 (.iand) 1 8 := ⟨by decide +kernel, rfl⟩
theorem eX7_isOpen_8 : Dc cX7_isOpen 8 (.ifCond .ne 7) 3 11 := ⟨by decide +kernel, rfl⟩
theorem eX7_isOpen_11 : Dc cX7_isOpen 11 (.iconst 1) 1 12 := ⟨by decide +kernel, rfl⟩
theorem eX7_isOpen_12 : Dc cX7_isOpen 12 (.goto 4) 3 15 := ⟨by decide +kernel, rfl⟩
theorem eX7_isOpen_15 : Dc cX7_isOpen 15 (.iconst 0) 1 16 := ⟨by decide +kernel, rfl⟩
theorem eX7_isOpen_16 : Dc cX7_isOpen 16 (.ireturn) 1 17 := ⟨by decide +kernel, rfl⟩
def fX7_isOpen (c : SS) (p1 : Int32) : Int32 := if (((c.1 2) >>> (p1 &&& 31)) &&& (1 : Int32)) = (0 : Int32) then (1 : Int32) else (0 : Int32)
set_option maxRecDepth 20000 in
theorem ctX7_isOpen (l : Launch) (G : tg_G) (A : Nat → Nat) (c : SS) (p1 : Int32) {z : Int32} (h : fX7_isOpen c p1 = z) : Mt l G yX7_isOpen cX7_isOpen 2 (some .boolean) (tg_R 0 0) [.ref (A 0), .int p1] (wM G A c) (fun v w1 => v = some (.int z) ∧ w1 = wM G A c) := by
  refine Mt_of2 (own := "TramGodModel") (nm := "isOpen") rfl rfl rfl (Nat.le_of_ble_eq_true rfl) (lv := [(0, .ref (A 0)), (1, .int p1)]) rfl ?_
  unfold fX7_isOpen at h
  refine V_aload_n eX7_isOpen_0 0 rfl ?_
  refine V_get (v := .int (c.1 2)) eX7_isOpen_1 inX7 0 rfl rfl 2 (Nat.le_of_ble_eq_true rfl) tw_647 rfl ?_
  refine V_iload_n eX7_isOpen_4 1 rfl ?_
  refine V_ishr eX7_isOpen_5 ?_
  refine V_iconst (v := (1 : Int32)) eX7_isOpen_6 rfl ?_
  refine V_iand eX7_isOpen_7 ?_
  refine V_if_ne (tgt := 15) eX7_isOpen_8 rfl (fun hb1 => ?_) (fun hb1 => ?_)
  · replace h := (if_neg hb1).symm.trans h
    refine V_iconst (v := (0 : Int32)) eX7_isOpen_15 rfl ?_
    subst h
    exact V_zret eX7_isOpen_16 rfl rfl ⟨rfl, rfl⟩
  · replace h := (if_pos hb1).symm.trans h
    refine V_iconst (v := (1 : Int32)) eX7_isOpen_11 rfl ?_
    refine V_goto (tgt := 16) eX7_isOpen_12 rfl ?_
    subst h
    exact V_zret eX7_isOpen_16 rfl rfl ⟨rfl, rfl⟩
theorem bzX7_isOpen (c : SS) (p1 : Int32) : narrow .boolean (.int (fX7_isOpen c p1)) = .int (fX7_isOpen c p1) := by
  unfold fX7_isOpen
  repeat' split
  all_goals first | rfl
theorem hdX7_findLeaves : yX7_findLeaves.cls ≠ "java/lang/invoke/MethodHandle" ∧ yX7_findLeaves.cls ≠ "java/lang/invoke/VarHandle" ∧ (parseMethodDescriptor yX7_findLeaves.desc).map (fun d => d.parameters.length) = some 0 := by decide +kernel
theorem eX7_findLeaves_0 : Dc cX7_findLeaves 0 (.iconst 0) 1 1 := ⟨by decide +kernel, rfl⟩
theorem eX7_findLeaves_1 : Dc cX7_findLeaves 1 (.istore_n 1) 1 2 := ⟨by decide +kernel, rfl⟩
theorem eX7_findLeaves_2 : Dc cX7_findLeaves 2 (.iconst 0) 1 3 := ⟨by decide +kernel, rfl⟩
theorem eX7_findLeaves_3 : Dc cX7_findLeaves 3 (.istore_n 2) 1 4 := ⟨by decide +kernel, rfl⟩
theorem eX7_findLeaves_4 : Dc cX7_findLeaves 4 (.iload_n 2) 1 5 := ⟨by decide +kernel, rfl⟩
theorem eX7_findLeaves_5 : Dc cX7_findLeaves 5 (.aload_n 0) 1 6 := ⟨by decide +kernel, rfl⟩
theorem eX7_findLeaves_6 : Dc cX7_findLeaves 6 (.getfield 69) 3 9 := ⟨by decide +kernel, rfl⟩
theorem eX7_findLeaves_9 : Dc cX7_findLeaves 9 (.if_icmp .ge 69) 3 12 := ⟨by decide +kernel, rfl⟩
theorem eX7_findLeaves_12 : Dc cX7_findLeaves 12 (.iload_n 1) 1 13 := ⟨by decide +kernel, rfl⟩
theorem eX7_findLeaves_13 : Dc cX7_findLeaves 13 (.aload_n 0) 1 14 := ⟨by decide +kernel, rfl⟩
theorem eX7_findLeaves_14 : Dc cX7_findLeaves 14 (.getfield 7) 3 17 := ⟨by decide +kernel, rfl⟩
theorem eX7_findLeaves_17 : Dc cX7_findLeaves 17 (.iload_n 2) 1 18 := ⟨by decide +kernel, rfl⟩
theorem eX7_findLeaves_18 : Dc cX7_findLeaves 18 (.iaload) 1 19 := ⟨by decide +kernel, rfl⟩
theorem eX7_findLeaves_19 : Dc cX7_findLeaves 19 (.aload_n 0) 1 20 := ⟨by decide +kernel, rfl⟩
theorem eX7_findLeaves_20 : Dc cX7_findLeaves 20 (.iload_n 2) 1 21 := ⟨by decide +kernel, rfl⟩
theorem eX7_findLeaves_21 : Dc cX7_findLeaves 21 (.invokevirtual 131) 3 24 := ⟨by decide +kernel, rfl⟩
theorem eX7_findLeaves_24 : Dc cX7_findLeaves 24 (.ifCond .eq 12) 3 27 := ⟨by decide +kernel, rfl⟩
theorem eX7_findLeaves_27 : Dc cX7_findLeaves 27 (.aload_n 0) 1 28 := ⟨by decide +kernel, rfl⟩
theorem eX7_findLeaves_28 : Dc cX7_findLeaves 28 (.getfield 40) 3 31 := ⟨by decide +kernel, rfl⟩
theorem eX7_findLeaves_31 : Dc cX7_findLeaves 31 (.iload_n 2) 1 32 := ⟨by decide +kernel, rfl⟩
theorem eX7_findLeaves_32 : Dc cX7_findLeaves 32 (.iaload) 1 33 := ⟨by decide +kernel, rfl⟩
theorem eX7_findLeaves_33 : Dc cX7_findLeaves 33 (.goto 4) 3 36 := ⟨by decide +kernel, rfl⟩
theorem eX7_findLeaves_36 : Dc cX7_findLeaves 36 (.iconst 0) 1 37 := ⟨by decide +kernel, rfl⟩
theorem eX7_findLeaves_37 : Dc cX7_findLeaves 37 (.iadd) 1 38 := ⟨by decide +kernel, rfl⟩
theorem eX7_findLeaves_38 : Dc cX7_findLeaves 38 (.iadd) 1 39 := ⟨by decide +kernel, rfl⟩
theorem eX7_findLeaves_39 : Dc cX7_findLeaves 39 (.istore_n 1) 1 40 := ⟨by decide +kernel, rfl⟩
theorem eX7_findLeaves_40 : Dc cX7_findLeaves 40 (.aload_n 0) 1 41 := ⟨by decide +kernel, rfl⟩
theorem eX7_findLeaves_41 : Dc cX7_findLeaves 41 (.getfield 43) 3 44 := ⟨by decide +kernel, rfl⟩
theorem eX7_findLeaves_44 : Dc cX7_findLeaves 44 (.iload_n 2) 1 45 := ⟨by decide +kernel, rfl⟩
theorem eX7_findLeaves_45 : Dc cX7_findLeaves 45 (.iload_n 1) 1 46 := ⟨by decide +kernel, rfl⟩
theorem eX7_findLeaves_46 : Dc cX7_findLeaves 46 (.iastore) 1 47 := ⟨by decide +kernel, rfl⟩
theorem eX7_findLeaves_47 : Dc cX7_findLeaves 47 (.iload_n 1) 1 48 := ⟨by decide +kernel, rfl⟩
theorem eX7_findLeaves_48 : Dc cX7_findLeaves 48 (.aload_n 0) 1 49 := ⟨by decide +kernel, rfl⟩
theorem eX7_findLeaves_49 : Dc cX7_findLeaves 49 (.iload_n 2) 1 50 := ⟨by decide +kernel, rfl⟩
theorem eX7_findLeaves_50 : Dc cX7_findLeaves 50 (.invokevirtual 131) 3 53 := ⟨by decide +kernel, rfl⟩
theorem eX7_findLeaves_53 : Dc cX7_findLeaves 53 (.ifCond .ne 12) 3 56 := ⟨by decide +kernel, rfl⟩
theorem eX7_findLeaves_56 : Dc cX7_findLeaves 56 (.aload_n 0) 1 57 := ⟨by decide +kernel, rfl⟩
theorem eX7_findLeaves_57 : Dc cX7_findLeaves 57 (.getfield 7) 3 60 := ⟨by decide +kernel, rfl⟩
theorem eX7_findLeaves_60 : Dc cX7_findLeaves 60 (.iload_n 2) 1 61 := ⟨by decide +kernel, rfl⟩
theorem eX7_findLeaves_61 : Dc cX7_findLeaves 61 (.iaload) 1 62 := ⟨by decide +kernel, rfl⟩
theorem eX7_findLeaves_62 : Dc cX7_findLeaves 62 (.ifCond .ne 7) 3 65 := ⟨by decide +kernel, rfl⟩
theorem eX7_findLeaves_65 : Dc cX7_findLeaves 65 (.iconst 0) 1 66 := ⟨by decide +kernel, rfl⟩
theorem eX7_findLeaves_66 : Dc cX7_findLeaves 66 (.goto 4) 3 69 := ⟨by decide +kernel, rfl⟩
theorem eX7_findLeaves_69 : Dc cX7_findLeaves 69 (.iconst 1) 1 70 := ⟨by decide +kernel, rfl⟩
theorem eX7_findLeaves_70 : Dc cX7_findLeaves 70 (.isub) 1 71 := ⟨by decide +kernel, rfl⟩
theorem eX7_findLeaves_71 : Dc cX7_findLeaves 71 (.istore_n 1) 1 72 := ⟨by decide +kernel, rfl⟩
theorem eX7_findLeaves_72 : Dc cX7_findLeaves 72 (.iinc 2 1) 3 75 := ⟨by decide +kernel, rfl⟩
theorem eX7_findLeaves_75 : Dc cX7_findLeaves 75 (.goto (-71)) 3 78 := ⟨by decide +kernel, rfl⟩
theorem eX7_findLeaves_78 : Dc cX7_findLeaves 78 (.return_) 1 79 := ⟨by decide +kernel, rfl⟩
def fX7_findLeaves_L4   : Nat → Int32 → Int32 → SS → Option (SS)
  | 0, _, _, _ => none
  | n + 1, a1, a2, c => if (c.1 0) ≤ a2 then some c else ald 6 (c.2 1) a2 (fun v2 => jn (fun (x2 : Int32) => ckb 6 a2 (jn (fun (x4 : Int32) => fX7_findLeaves_L4  n ((a1 + (v2 + x2)) - x4) (a2 + (1 : Int32)) (sA c 18 (a2).toNatClampNeg (a1 + (v2 + x2)))) (fun j70 => jn (fun (_ : Unit) => j70 (0 : Int32)) (fun j65 => if (fX7_isOpen (sA c 18 (a2).toNatClampNeg (a1 + (v2 + x2))) a2) = (0 : Int32) then ald 6 (c.2 1) a2 (fun v6 => if v6 = (0 : Int32) then j65 () else j70 (1 : Int32)) else j65 ())))) (fun j37 => if (fX7_isOpen c a2) = (0 : Int32) then j37 (0 : Int32) else ald 6 (c.2 17) a2 (fun v9 => j37 v9)))
def fX7_findLeaves (c : SS)  : Option (SS) := fX7_findLeaves_L4  fu (0 : Int32) (0 : Int32) c
set_option maxRecDepth 20000 in
theorem ctX7_findLeaves_L4 (l : Launch) (G : tg_G) (A : Nat → Nat)   {z : SS}  : ∀ (n : Nat) (a1 : Int32) (a2 : Int32) (c : SS), fX7_findLeaves_L4  n a1 a2 c = some z → V l G (tg_Zm G (fun v w1 => v = none ∧ w1 = wM G A z) 0 0) tg_E0 (tg_R 1 21) "TramGodModel" "findLeaves" cX7_findLeaves 3 none 4 [(0, .ref (A 0)), (1, .int a1), (2, .int a2)] [] (wM G A c) 0 0 := by
  intro n
  induction n with
  | zero => intro a1 a2 c h; exact absurd h (by simp [fX7_findLeaves_L4])
  | succ n ih =>
    intro a1 a2 c h
    unfold fX7_findLeaves_L4 at h
    refine V_iload_n eX7_findLeaves_4 2 rfl ?_
    refine V_aload_n eX7_findLeaves_5 0 rfl ?_
    refine V_get (v := .int (c.1 0)) eX7_findLeaves_6 inX7 0 rfl rfl 0 (Nat.le_of_ble_eq_true rfl) tw_645 rfl ?_
    refine V_icmp_ge (tgt := 78) eX7_findLeaves_9 rfl (fun hb1 => ?_) (fun hb1 => ?_)
    · replace h := (if_pos hb1).symm.trans h
      obtain rfl := Option.some.inj h
      exact V_vret eX7_findLeaves_78 rfl ⟨rfl, rfl⟩
    · replace h := (if_neg hb1).symm.trans h
      refine V_iload_n eX7_findLeaves_12 1 rfl ?_
      refine V_aload_n eX7_findLeaves_13 0 rfl ?_
      refine V_get (v := .ref (A 1)) eX7_findLeaves_14 inX7 0 rfl rfl 1 (Nat.le_of_ble_eq_true rfl) tw_646 rfl ?_
      refine V_iload_n eX7_findLeaves_17 2 rfl ?_
      obtain ⟨v2, hi2, ev2, h⟩ := ald_some h
      refine V_ialdv eX7_findLeaves_18 1 rfl hi2 ev2 ?_
      refine V_aload_n eX7_findLeaves_19 0 rfl ?_
      refine V_iload_n eX7_findLeaves_20 2 rfl ?_
      refine V_callVi (rest := [.int v2, .int a1]) eX7_findLeaves_21 (ctX7_isOpen l G A c a2 rfl) tc_818 tw_815 tw_8 tw_817 ts_24 0 rfl rfl hdX7_isOpen rfl ⟨Nat.le_of_ble_eq_true rfl, Nat.le_of_ble_eq_true rfl⟩ rfl (Nat.le_of_ble_eq_true rfl) ⟨Nat.zero_le _, Nat.zero_le _⟩ ?_
      refine jn_elim h (fun j => ∀ (x2 : Int32), j x2 = some z → V l G (tg_Zm G (fun v w1 => v = none ∧ w1 = wM G A z) 0 0) tg_E0 (tg_R 1 21) "TramGodModel" "findLeaves" cX7_findLeaves 3 none 37 [(0, .ref (A 0)), (2, .int a2)] [.int x2, .int v2, .int a1] (wM G A c) 0 0) ?_ (fun j37 hj37 h => ?_)
      · intro x2 h
        refine V_iadd eX7_findLeaves_37 ?_
        refine V_iadd eX7_findLeaves_38 ?_
        refine V_istore_n (lv' := [(1, .int (a1 + (v2 + x2))), (0, .ref (A 0)), (2, .int a2)]) eX7_findLeaves_39 (Nat.le_of_ble_eq_true rfl) rfl ?_
        refine V_aload_n eX7_findLeaves_40 1 rfl ?_
        refine V_get (v := .ref (A 12)) eX7_findLeaves_41 inX7 0 rfl rfl 18 (Nat.le_of_ble_eq_true rfl) tw_663 rfl ?_
        refine V_iload_n eX7_findLeaves_44 2 rfl ?_
        refine V_iload_n eX7_findLeaves_45 0 rfl ?_
        obtain ⟨hi3, h⟩ := ckb_some h
        refine V_iast (w' := wM G A (sA c 18 (a2).toNatClampNeg (a1 + (v2 + x2)))) eX7_findLeaves_46 12 rfl hi3 rfl ?_
        refine V_iload_n eX7_findLeaves_47 0 rfl ?_
        refine V_aload_n eX7_findLeaves_48 1 rfl ?_
        refine V_iload_n eX7_findLeaves_49 2 rfl ?_
        refine V_callVi (rest := [.int (a1 + (v2 + x2))]) eX7_findLeaves_50 (ctX7_isOpen l G A (sA c 18 (a2).toNatClampNeg (a1 + (v2 + x2))) a2 rfl) tc_818 tw_815 tw_8 tw_817 ts_24 0 rfl rfl hdX7_isOpen rfl ⟨Nat.le_of_ble_eq_true rfl, Nat.le_of_ble_eq_true rfl⟩ rfl (Nat.le_of_ble_eq_true rfl) ⟨Nat.zero_le _, Nat.zero_le _⟩ ?_
        refine jn_elim h (fun j => ∀ (x4 : Int32), j x4 = some z → V l G (tg_Zm G (fun v w1 => v = none ∧ w1 = wM G A z) 0 0) tg_E0 (tg_R 1 21) "TramGodModel" "findLeaves" cX7_findLeaves 3 none 70 [(0, .ref (A 0)), (2, .int a2)] [.int x4, .int (a1 + (v2 + x2))] (wM G A (sA c 18 (a2).toNatClampNeg (a1 + (v2 + x2)))) 0 0) ?_ (fun j70 hj70 h => ?_)
        · intro x4 h
          refine V_isub eX7_findLeaves_70 ?_
          refine V_istore_n (lv' := [(1, .int ((a1 + (v2 + x2)) - x4)), (0, .ref (A 0)), (2, .int a2)]) eX7_findLeaves_71 (Nat.le_of_ble_eq_true rfl) rfl ?_
          refine V_iinc (v := (a2 + (1 : Int32))) (lv' := [(2, .int (a2 + (1 : Int32))), (1, .int ((a1 + (v2 + x2)) - x4)), (0, .ref (A 0))]) eX7_findLeaves_72 2 rfl rfl (Nat.le_of_ble_eq_true rfl) rfl ?_
          refine V_goto (tgt := 4) eX7_findLeaves_75 rfl ?_
          refine V_lv (lv' := [(0, .ref (A 0)), (1, .int ((a1 + (v2 + x2)) - x4)), (2, .int (a2 + (1 : Int32)))]) [2, 1, 0] rfl ?_
          exact ih ((a1 + (v2 + x2)) - x4) (a2 + (1 : Int32)) (sA c 18 (a2).toNatClampNeg (a1 + (v2 + x2))) h
        refine jn_elim h (fun j => j () = some z → V l G (tg_Zm G (fun v w1 => v = none ∧ w1 = wM G A z) 0 0) tg_E0 (tg_R 1 21) "TramGodModel" "findLeaves" cX7_findLeaves 3 none 65 [(0, .ref (A 0)), (2, .int a2)] [.int (a1 + (v2 + x2))] (wM G A (sA c 18 (a2).toNatClampNeg (a1 + (v2 + x2)))) 0 0) ?_ (fun j65 hj65 h => ?_)
        · intro h
          refine V_iconst (v := (0 : Int32)) eX7_findLeaves_65 rfl ?_
          refine V_goto (tgt := 70) eX7_findLeaves_66 rfl ?_
          exact hj70 (0 : Int32) h
        refine V_if_ne (tgt := 65) eX7_findLeaves_53 rfl (fun hb5 => ?_) (fun hb5 => ?_)
        · replace h := (if_neg hb5).symm.trans h
          refine V_lv (lv' := [(0, .ref (A 0)), (2, .int a2)]) [1, 2] rfl ?_
          exact hj65 h
        · replace h := (if_pos hb5).symm.trans h
          refine V_aload_n eX7_findLeaves_56 1 rfl ?_
          refine V_get (v := .ref (A 1)) eX7_findLeaves_57 inX7 0 rfl rfl 1 (Nat.le_of_ble_eq_true rfl) tw_646 rfl ?_
          refine V_iload_n eX7_findLeaves_60 2 rfl ?_
          obtain ⟨v6, hi6, ev6, h⟩ := ald_some h
          refine V_ialdv eX7_findLeaves_61 1 rfl hi6 ev6 ?_
          refine V_if_ne (tgt := 69) eX7_findLeaves_62 rfl (fun hb7 => ?_) (fun hb7 => ?_)
          · replace h := (if_neg hb7).symm.trans h
            refine V_iconst (v := (1 : Int32)) eX7_findLeaves_69 rfl ?_
            refine V_lv (lv' := [(0, .ref (A 0)), (2, .int a2)]) [1, 2] rfl ?_
            exact hj70 (1 : Int32) h
          · replace h := (if_pos hb7).symm.trans h
            refine V_lv (lv' := [(0, .ref (A 0)), (2, .int a2)]) [1, 2] rfl ?_
            exact hj65 h
      refine V_if_eq (tgt := 36) eX7_findLeaves_24 rfl (fun hb8 => ?_) (fun hb8 => ?_)
      · replace h := (if_pos hb8).symm.trans h
        refine V_iconst (v := (0 : Int32)) eX7_findLeaves_36 rfl ?_
        refine V_lv (lv' := [(0, .ref (A 0)), (2, .int a2)]) [0, 2] rfl ?_
        exact hj37 (0 : Int32) h
      · replace h := (if_neg hb8).symm.trans h
        refine V_aload_n eX7_findLeaves_27 0 rfl ?_
        refine V_get (v := .ref (A 11)) eX7_findLeaves_28 inX7 0 rfl rfl 17 (Nat.le_of_ble_eq_true rfl) tw_662 rfl ?_
        refine V_iload_n eX7_findLeaves_31 2 rfl ?_
        obtain ⟨v9, hi9, ev9, h⟩ := ald_some h
        refine V_ialdv eX7_findLeaves_32 11 rfl hi9 ev9 ?_
        refine V_goto (tgt := 37) eX7_findLeaves_33 rfl ?_
        refine V_lv (lv' := [(0, .ref (A 0)), (2, .int a2)]) [0, 2] rfl ?_
        exact hj37 v9 h
set_option maxRecDepth 20000 in
theorem ctX7_findLeaves (l : Launch) (G : tg_G) (A : Nat → Nat) (c : SS)  {z : SS} (h : fX7_findLeaves c  = some z) : Mt l G yX7_findLeaves cX7_findLeaves 3 none (tg_R 1 21) [.ref (A 0)] (wM G A c) (fun v w1 => v = none ∧ w1 = wM G A z) := by
  refine Mt_of2 (own := "TramGodModel") (nm := "findLeaves") rfl rfl rfl (Nat.le_of_ble_eq_true rfl) (lv := [(0, .ref (A 0))]) rfl ?_
  unfold fX7_findLeaves at h
  refine V_iconst (v := (0 : Int32)) eX7_findLeaves_0 rfl ?_
  refine V_istore_n (lv' := [(1, .int (0 : Int32)), (0, .ref (A 0))]) eX7_findLeaves_1 (Nat.le_of_ble_eq_true rfl) rfl ?_
  refine V_iconst (v := (0 : Int32)) eX7_findLeaves_2 rfl ?_
  refine V_istore_n (lv' := [(2, .int (0 : Int32)), (1, .int (0 : Int32)), (0, .ref (A 0))]) eX7_findLeaves_3 (Nat.le_of_ble_eq_true rfl) rfl ?_
  refine V_lv (lv' := [(0, .ref (A 0)), (1, .int (0 : Int32)), (2, .int (0 : Int32))]) [2, 1, 0] rfl ?_
  refine ctX7_findLeaves_L4 l G A fu (0 : Int32) (0 : Int32) c h
theorem hdX7_toldOf : yX7_toldOf.cls ≠ "java/lang/invoke/MethodHandle" ∧ yX7_toldOf.cls ≠ "java/lang/invoke/VarHandle" ∧ (parseMethodDescriptor yX7_toldOf.desc).map (fun d => d.parameters.length) = some 2 := by decide +kernel
theorem eX7_toldOf_0 : Dc cX7_toldOf 0 (.aload_n 0) 1 1 := ⟨by decide +kernel, rfl⟩
theorem eX7_toldOf_1 : Dc cX7_toldOf 1 (.iload_n 1) 1 2 := ⟨by decide +kernel, rfl⟩
theorem eX7_toldOf_2 : Dc cX7_toldOf 2 (.invokevirtual 126) 3 5 := ⟨by decide +kernel, rfl⟩
theorem eX7_toldOf_5 : Dc cX7_toldOf 5 (.ifCond .ne 6) 3 8 := ⟨by decide +kernel, rfl⟩
theorem eX7_toldOf_8 : Dc cX7_toldOf 8 (.bipush (-2)) 2 10 := ⟨by decide +kernel, rfl⟩
theorem eX7_toldOf_10 : Dc cX7_toldOf 10 (.ireturn) 1 11 := ⟨by decide +kernel, rfl⟩
theorem eX7_toldOf_11 : Dc cX7_toldOf 11 (.iload_n 2) 1 12 := ⟨by decide +kernel, rfl⟩
theorem eX7_toldOf_12 : Dc cX7_toldOf 12 (.tableswitch 91 0 5 #[40, 47, 54, 64, 74, 84]) 40 52 := ⟨by decide +kernel, rfl⟩
theorem eX7_toldOf_52 : Dc cX7_toldOf 52 (.aload_n 0) 1 53 := ⟨by decide +kernel, rfl⟩
theorem eX7_toldOf_53 : Dc cX7_toldOf 53 (.getfield 13) 3 56 := ⟨by decide +kernel, rfl⟩
theorem eX7_toldOf_56 : Dc cX7_toldOf 56 (.iload_n 1) 1 57 := ⟨by decide +kernel, rfl⟩
theorem eX7_toldOf_57 : Dc cX7_toldOf 57 (.iaload) 1 58 := ⟨by decide +kernel, rfl⟩
theorem eX7_toldOf_58 : Dc cX7_toldOf 58 (.ireturn) 1 59 := ⟨by decide +kernel, rfl⟩
theorem eX7_toldOf_59 : Dc cX7_toldOf 59 (.aload_n 0) 1 60 := ⟨by decide +kernel, rfl⟩
theorem eX7_toldOf_60 : Dc cX7_toldOf 60 (.getfield 16) 3 63 := ⟨by decide +kernel, rfl⟩
theorem eX7_toldOf_63 : Dc cX7_toldOf 63 (.iload_n 1) 1 64 := ⟨by decide +kernel, rfl⟩
theorem eX7_toldOf_64 : Dc cX7_toldOf 64 (.iaload) 1 65 := ⟨by decide +kernel, rfl⟩
theorem eX7_toldOf_65 : Dc cX7_toldOf 65 (.ireturn) 1 66 := ⟨by decide +kernel, rfl⟩
theorem eX7_toldOf_66 : Dc cX7_toldOf 66 (.aload_n 0) 1 67 := ⟨by decide +kernel, rfl⟩
theorem eX7_toldOf_67 : Dc cX7_toldOf 67 (.getfield 19) 3 70 := ⟨by decide +kernel, rfl⟩
theorem eX7_toldOf_70 : Dc cX7_toldOf 70 (.iload_n 1) 1 71 := ⟨by decide +kernel, rfl⟩
theorem eX7_toldOf_71 : Dc cX7_toldOf 71 (.iaload) 1 72 := ⟨by decide +kernel, rfl⟩
theorem eX7_toldOf_72 : Dc cX7_toldOf 72 (.bipush 10) 2 74 := ⟨by decide +kernel, rfl⟩
theorem eX7_toldOf_74 : Dc cX7_toldOf 74 (.iadd) 1 75 := ⟨by decide +kernel, rfl⟩
theorem eX7_toldOf_75 : Dc cX7_toldOf 75 (.ireturn) 1 76 := ⟨by decide +kernel, rfl⟩
theorem eX7_toldOf_76 : Dc cX7_toldOf 76 (.aload_n 0) 1 77 := ⟨by decide +kernel, rfl⟩
theorem eX7_toldOf_77 : Dc cX7_toldOf 77 (.getfield 22) 3 80 := ⟨by decide +kernel, rfl⟩
theorem eX7_toldOf_80 : Dc cX7_toldOf 80 (.iload_n 1) 1 81 := ⟨by decide +kernel, rfl⟩
theorem eX7_toldOf_81 : Dc cX7_toldOf 81 (.iaload) 1 82 := ⟨by decide +kernel, rfl⟩
theorem eX7_toldOf_82 : Dc cX7_toldOf 82 (.bipush 10) 2 84 := ⟨by decide +kernel, rfl⟩
theorem eX7_toldOf_84 : Dc cX7_toldOf 84 (.iadd) 1 85 := ⟨by decide +kernel, rfl⟩
theorem eX7_toldOf_85 : Dc cX7_toldOf 85 (.ireturn) 1 86 := ⟨by decide +kernel, rfl⟩
theorem eX7_toldOf_86 : Dc cX7_toldOf 86 (.aload_n 0) 1 87 := ⟨by decide +kernel, rfl⟩
theorem eX7_toldOf_87 : Dc cX7_toldOf 87 (.getfield 25) 3 90 := ⟨by decide +kernel, rfl⟩
theorem eX7_toldOf_90 : Dc cX7_toldOf 90 (.iload_n 1) 1 91 := ⟨by decide +kernel, rfl⟩
theorem eX7_toldOf_91 : Dc cX7_toldOf 91 (.iaload) 1 92 := ⟨by decide +kernel, rfl⟩
theorem eX7_toldOf_92 : Dc cX7_toldOf 92 (.bipush 10) 2 94 := ⟨by decide +kernel, rfl⟩
theorem eX7_toldOf_94 : Dc cX7_toldOf 94 (.iadd) 1 95 := ⟨by decide +kernel, rfl⟩
theorem eX7_toldOf_95 : Dc cX7_toldOf 95 (.ireturn) 1 96 := ⟨by decide +kernel, rfl⟩
theorem eX7_toldOf_96 : Dc cX7_toldOf 96 (.aload_n 0) 1 97 := ⟨by decide +kernel, rfl⟩
theorem eX7_toldOf_97 : Dc cX7_toldOf 97 (.getfield 28) 3 100 := ⟨by decide +kernel, rfl⟩
theorem eX7_toldOf_100 : Dc cX7_toldOf 100 (.iload_n 1) 1 101 := ⟨by decide +kernel, rfl⟩
theorem eX7_toldOf_101 : Dc cX7_toldOf 101 (.iaload) 1 102 := ⟨by decide +kernel, rfl⟩
theorem eX7_toldOf_102 : Dc cX7_toldOf 102 (.ireturn) 1 103 := ⟨by decide +kernel, rfl⟩
theorem eX7_toldOf_103 : Dc cX7_toldOf 103 (.bipush (-2)) 2 105 := ⟨by decide +kernel, rfl⟩
theorem eX7_toldOf_105 : Dc cX7_toldOf 105 (.ireturn) 1 106 := ⟨by decide +kernel, rfl⟩
def fX7_toldOf (c : SS) (p1 : Int32) (p2 : Int32) : Option (Int32) := if (fX7_isThere c p1) = (0 : Int32) then some (-2 : Int32) else if p2 = (0 : Int32) then ald 8 (c.2 4) p1 (fun v3 => some v3) else (if p2 = (1 : Int32) then ald 8 (c.2 5) p1 (fun v5 => some v5) else (if p2 = (2 : Int32) then ald 8 (c.2 6) p1 (fun v7 => some (v7 + (10 : Int32))) else (if p2 = (3 : Int32) then ald 8 (c.2 7) p1 (fun v9 => some (v9 + (10 : Int32))) else (if p2 = (4 : Int32) then ald 8 (c.2 8) p1 (fun v11 => some (v11 + (10 : Int32))) else (if p2 = (5 : Int32) then ald 8 (c.2 9) p1 (fun v13 => some v13) else (swo p2 (0 : Int32) (5 : Int32) (some (-2 : Int32))))))))
set_option maxRecDepth 20000 in
theorem ctX7_toldOf (l : Launch) (G : tg_G) (A : Nat → Nat) (c : SS) (p1 : Int32) (p2 : Int32) {z : Int32} (h : fX7_toldOf c p1 p2 = some z) : Mt l G yX7_toldOf cX7_toldOf 3 (some .int) (tg_R 2 46) [.ref (A 0), .int p1, .int p2] (wM G A c) (fun v w1 => v = some (.int z) ∧ w1 = wM G A c) := by
  refine Mt_of2 (own := "TramGodModel") (nm := "toldOf") rfl rfl rfl (Nat.le_of_ble_eq_true rfl) (lv := [(0, .ref (A 0)), (1, .int p1), (2, .int p2)]) rfl ?_
  unfold fX7_toldOf at h
  refine V_aload_n eX7_toldOf_0 0 rfl ?_
  refine V_iload_n eX7_toldOf_1 1 rfl ?_
  refine V_callVi (rest := []) eX7_toldOf_2 (ctX7_isThere l G A c p1 rfl) tc_796 tw_793 tw_8 tw_795 ts_22 0 rfl rfl hdX7_isThere rfl ⟨Nat.le_of_ble_eq_true rfl, Nat.le_of_ble_eq_true rfl⟩ rfl (Nat.le_of_ble_eq_true rfl) ⟨Nat.zero_le _, Nat.zero_le _⟩ ?_
  refine V_if_ne (tgt := 11) eX7_toldOf_5 rfl (fun hb1 => ?_) (fun hb1 => ?_)
  · replace h := (if_neg hb1).symm.trans h
    refine V_iload_n eX7_toldOf_11 2 rfl ?_
    by_cases hs2 : p2 = (0 : Int32)
    · replace h := (if_pos hs2).symm.trans h
      refine V_tin (tgt := 52) (40) eX7_toldOf_12 (by rw [hs2]; decide) (by rw [hs2]; decide) (by rw [hs2]; decide) rfl ?_
      refine V_aload_n eX7_toldOf_52 0 rfl ?_
      refine V_get (v := .ref (A 2)) eX7_toldOf_53 inX7 0 rfl rfl 4 (Nat.le_of_ble_eq_true rfl) tw_649 rfl ?_
      refine V_iload_n eX7_toldOf_56 1 rfl ?_
      obtain ⟨v3, hi3, ev3, h⟩ := ald_some h
      refine V_ialdv eX7_toldOf_57 2 rfl hi3 ev3 ?_
      obtain rfl := Option.some.inj h
      exact V_ret eX7_toldOf_58 rfl ⟨rfl, rfl⟩
    replace h := (if_neg hs2).symm.trans h
    by_cases hs4 : p2 = (1 : Int32)
    · replace h := (if_pos hs4).symm.trans h
      refine V_tin (tgt := 59) (47) eX7_toldOf_12 (by rw [hs4]; decide) (by rw [hs4]; decide) (by rw [hs4]; decide) rfl ?_
      refine V_aload_n eX7_toldOf_59 0 rfl ?_
      refine V_get (v := .ref (A 3)) eX7_toldOf_60 inX7 0 rfl rfl 5 (Nat.le_of_ble_eq_true rfl) tw_650 rfl ?_
      refine V_iload_n eX7_toldOf_63 1 rfl ?_
      obtain ⟨v5, hi5, ev5, h⟩ := ald_some h
      refine V_ialdv eX7_toldOf_64 3 rfl hi5 ev5 ?_
      obtain rfl := Option.some.inj h
      exact V_ret eX7_toldOf_65 rfl ⟨rfl, rfl⟩
    replace h := (if_neg hs4).symm.trans h
    by_cases hs6 : p2 = (2 : Int32)
    · replace h := (if_pos hs6).symm.trans h
      refine V_tin (tgt := 66) (54) eX7_toldOf_12 (by rw [hs6]; decide) (by rw [hs6]; decide) (by rw [hs6]; decide) rfl ?_
      refine V_aload_n eX7_toldOf_66 0 rfl ?_
      refine V_get (v := .ref (A 4)) eX7_toldOf_67 inX7 0 rfl rfl 6 (Nat.le_of_ble_eq_true rfl) tw_651 rfl ?_
      refine V_iload_n eX7_toldOf_70 1 rfl ?_
      obtain ⟨v7, hi7, ev7, h⟩ := ald_some h
      refine V_ialdv eX7_toldOf_71 4 rfl hi7 ev7 ?_
      refine V_bipush (v := (10 : Int32)) eX7_toldOf_72 rfl ?_
      refine V_iadd eX7_toldOf_74 ?_
      obtain rfl := Option.some.inj h
      exact V_ret eX7_toldOf_75 rfl ⟨rfl, rfl⟩
    replace h := (if_neg hs6).symm.trans h
    by_cases hs8 : p2 = (3 : Int32)
    · replace h := (if_pos hs8).symm.trans h
      refine V_tin (tgt := 76) (64) eX7_toldOf_12 (by rw [hs8]; decide) (by rw [hs8]; decide) (by rw [hs8]; decide) rfl ?_
      refine V_aload_n eX7_toldOf_76 0 rfl ?_
      refine V_get (v := .ref (A 5)) eX7_toldOf_77 inX7 0 rfl rfl 7 (Nat.le_of_ble_eq_true rfl) tw_652 rfl ?_
      refine V_iload_n eX7_toldOf_80 1 rfl ?_
      obtain ⟨v9, hi9, ev9, h⟩ := ald_some h
      refine V_ialdv eX7_toldOf_81 5 rfl hi9 ev9 ?_
      refine V_bipush (v := (10 : Int32)) eX7_toldOf_82 rfl ?_
      refine V_iadd eX7_toldOf_84 ?_
      obtain rfl := Option.some.inj h
      exact V_ret eX7_toldOf_85 rfl ⟨rfl, rfl⟩
    replace h := (if_neg hs8).symm.trans h
    by_cases hs10 : p2 = (4 : Int32)
    · replace h := (if_pos hs10).symm.trans h
      refine V_tin (tgt := 86) (74) eX7_toldOf_12 (by rw [hs10]; decide) (by rw [hs10]; decide) (by rw [hs10]; decide) rfl ?_
      refine V_aload_n eX7_toldOf_86 0 rfl ?_
      refine V_get (v := .ref (A 6)) eX7_toldOf_87 inX7 0 rfl rfl 8 (Nat.le_of_ble_eq_true rfl) tw_653 rfl ?_
      refine V_iload_n eX7_toldOf_90 1 rfl ?_
      obtain ⟨v11, hi11, ev11, h⟩ := ald_some h
      refine V_ialdv eX7_toldOf_91 6 rfl hi11 ev11 ?_
      refine V_bipush (v := (10 : Int32)) eX7_toldOf_92 rfl ?_
      refine V_iadd eX7_toldOf_94 ?_
      obtain rfl := Option.some.inj h
      exact V_ret eX7_toldOf_95 rfl ⟨rfl, rfl⟩
    replace h := (if_neg hs10).symm.trans h
    by_cases hs12 : p2 = (5 : Int32)
    · replace h := (if_pos hs12).symm.trans h
      refine V_tin (tgt := 96) (84) eX7_toldOf_12 (by rw [hs12]; decide) (by rw [hs12]; decide) (by rw [hs12]; decide) rfl ?_
      refine V_aload_n eX7_toldOf_96 0 rfl ?_
      refine V_get (v := .ref (A 7)) eX7_toldOf_97 inX7 0 rfl rfl 9 (Nat.le_of_ble_eq_true rfl) tw_654 rfl ?_
      refine V_iload_n eX7_toldOf_100 1 rfl ?_
      obtain ⟨v13, hi13, ev13, h⟩ := ald_some h
      refine V_ialdv eX7_toldOf_101 7 rfl hi13 ev13 ?_
      obtain rfl := Option.some.inj h
      exact V_ret eX7_toldOf_102 rfl ⟨rfl, rfl⟩
    replace h := (if_neg hs12).symm.trans h
    obtain ⟨hs14, h⟩ := swo_some h
    refine V_tout (tgt := 103) eX7_toldOf_12 hs14 rfl ?_
    refine V_bipush (v := (-2 : Int32)) eX7_toldOf_103 rfl ?_
    obtain rfl := Option.some.inj h
    exact V_ret eX7_toldOf_105 rfl ⟨rfl, rfl⟩
  · replace h := (if_pos hb1).symm.trans h
    refine V_bipush (v := (-2 : Int32)) eX7_toldOf_8 rfl ?_
    obtain rfl := Option.some.inj h
    exact V_ret eX7_toldOf_10 rfl ⟨rfl, rfl⟩
theorem hdX7_told : yX7_told.cls ≠ "java/lang/invoke/MethodHandle" ∧ yX7_told.cls ≠ "java/lang/invoke/VarHandle" ∧ (parseMethodDescriptor yX7_told.desc).map (fun d => d.parameters.length) = some 1 := by decide +kernel
theorem eX7_told_0 : Dc cX7_told 0 (.iload_n 1) 1 1 := ⟨by decide +kernel, rfl⟩
theorem eX7_told_1 : Dc cX7_told 1 (.i2l) 1 2 := ⟨by decide +kernel, rfl⟩
theorem eX7_told_2 : Dc cX7_told 2 (.ldc2_w 229) 3 5 := ⟨by decide +kernel, rfl⟩
theorem eX7_told_5 : Dc cX7_told 5 (.ldc2_w 117) 3 8 := ⟨by decide +kernel, rfl⟩
theorem eX7_told_8 : Dc cX7_told 8 (.invokestatic 79) 3 11 := ⟨by decide +kernel, rfl⟩
theorem eX7_told_11 : Dc cX7_told 11 (.ifCond .eq 18) 3 14 := ⟨by decide +kernel, rfl⟩
theorem eX7_told_14 : Dc cX7_told 14 (.aload_n 0) 1 15 := ⟨by decide +kernel, rfl⟩
theorem eX7_told_15 : Dc cX7_told 15 (.iload_n 1) 1 16 := ⟨by decide +kernel, rfl⟩
theorem eX7_told_16 : Dc cX7_told 16 (.bipush 10) 2 18 := ⟨by decide +kernel, rfl⟩
theorem eX7_told_18 : Dc cX7_told 18 (.idiv) 1 19 := ⟨by decide +kernel, rfl⟩
theorem eX7_told_19 : Dc cX7_told 19 (.iconst 2) 1 20 := ⟨by decide +kernel, rfl⟩
theorem eX7_told_20 : Dc cX7_told 20 (.isub) 1 21 := ⟨by decide +kernel, rfl⟩
theorem eX7_told_21 : Dc cX7_told 21 (.iload_n 1) 1 22 := ⟨by decide +kernel, rfl⟩
theorem eX7_told_22 : Dc cX7_told 22 (.bipush 10) 2 24 := ⟨by decide +kernel, rfl⟩
theorem eX7_told_24 : Dc cX7_told 24 (.irem) 1 25 := ⟨by decide +kernel, rfl⟩
theorem eX7_told_25 : Dc cX7_told 25 (.invokevirtual 274) 3 28 := ⟨by decide +kernel, rfl⟩
theorem eX7_told_28 : Dc cX7_told 28 (.ireturn) 1 29 := ⟨by decide +kernel, rfl⟩
theorem eX7_told_29 : Dc cX7_told 29 (.iload_n 1) 1 30 := ⟨by decide +kernel, rfl⟩
theorem eX7_told_30 : Dc cX7_told 30 (.i2l) 1 31 := ⟨by decide +kernel, rfl⟩
theorem eX7_told_31 : Dc cX7_told 31 (.ldc2_w 231) 3 34 := ⟨by decide +kernel, rfl⟩
theorem eX7_told_34 : Dc cX7_told 34 (.ldc2_w 115) 3 37 := ⟨by decide +kernel, rfl⟩
theorem eX7_told_37 : Dc cX7_told 37 (.aload_n 0) 1 38 := ⟨by decide +kernel, rfl⟩
theorem eX7_told_38 : Dc cX7_told 38 (.getfield 69) 3 41 := ⟨by decide +kernel, rfl⟩
theorem eX7_told_41 : Dc cX7_told 41 (.i2l) 1 42 := ⟨by decide +kernel, rfl⟩
theorem eX7_told_42 : Dc cX7_told 42 (.ladd) 1 43 := ⟨by decide +kernel, rfl⟩
theorem eX7_told_43 : Dc cX7_told 43 (.invokestatic 79) 3 46 := ⟨by decide +kernel, rfl⟩
theorem eX7_told_46 : Dc cX7_told 46 (.ifCond .eq 13) 3 49 := ⟨by decide +kernel, rfl⟩
theorem eX7_told_49 : Dc cX7_told 49 (.aload_n 0) 1 50 := ⟨by decide +kernel, rfl⟩
theorem eX7_told_50 : Dc cX7_told 50 (.getfield 7) 3 53 := ⟨by decide +kernel, rfl⟩
theorem eX7_told_53 : Dc cX7_told 53 (.iload_n 1) 1 54 := ⟨by decide +kernel, rfl⟩
theorem eX7_told_54 : Dc cX7_told 54 (.bipush 10) 2 56 := ⟨by decide +kernel, rfl⟩
theorem eX7_told_56 : Dc cX7_told 56 (.isub) 1 57 := ⟨by decide +kernel, rfl⟩
theorem eX7_told_57 : Dc cX7_told 57 (.iaload) 1 58 := ⟨by decide +kernel, rfl⟩
theorem eX7_told_58 : Dc cX7_told 58 (.ireturn) 1 59 := ⟨by decide +kernel, rfl⟩
theorem eX7_told_59 : Dc cX7_told 59 (.iload_n 1) 1 60 := ⟨by decide +kernel, rfl⟩
theorem eX7_told_60 : Dc cX7_told 60 (.tableswitch 79 0 6 #[44, 49, 54, 59, 64, 69, 74]) 44 104 := ⟨by decide +kernel, rfl⟩
theorem eX7_told_104 : Dc cX7_told 104 (.aload_n 0) 1 105 := ⟨by decide +kernel, rfl⟩
theorem eX7_told_105 : Dc cX7_told 105 (.getfield 95) 3 108 := ⟨by decide +kernel, rfl⟩
theorem eX7_told_108 : Dc cX7_told 108 (.ireturn) 1 109 := ⟨by decide +kernel, rfl⟩
theorem eX7_told_109 : Dc cX7_told 109 (.aload_n 0) 1 110 := ⟨by decide +kernel, rfl⟩
theorem eX7_told_110 : Dc cX7_told 110 (.getfield 69) 3 113 := ⟨by decide +kernel, rfl⟩
theorem eX7_told_113 : Dc cX7_told 113 (.ireturn) 1 114 := ⟨by decide +kernel, rfl⟩
theorem eX7_told_114 : Dc cX7_told 114 (.aload_n 0) 1 115 := ⟨by decide +kernel, rfl⟩
theorem eX7_told_115 : Dc cX7_told 115 (.getfield 83) 3 118 := ⟨by decide +kernel, rfl⟩
theorem eX7_told_118 : Dc cX7_told 118 (.ireturn) 1 119 := ⟨by decide +kernel, rfl⟩
theorem eX7_told_119 : Dc cX7_told 119 (.aload_n 0) 1 120 := ⟨by decide +kernel, rfl⟩
theorem eX7_told_120 : Dc cX7_told 120 (.getfield 88) 3 123 := ⟨by decide +kernel, rfl⟩
theorem eX7_told_123 : Dc cX7_told 123 (.ireturn) 1 124 := ⟨by decide +kernel, rfl⟩
theorem eX7_told_124 : Dc cX7_told 124 (.aload_n 0) 1 125 := ⟨by decide +kernel, rfl⟩
theorem eX7_told_125 : Dc cX7_told 125 (.getfield 73) 3 128 := ⟨by decide +kernel, rfl⟩
theorem eX7_told_128 : Dc cX7_told 128 (.ireturn) 1 129 := ⟨by decide +kernel, rfl⟩
theorem eX7_told_129 : Dc cX7_told 129 (.aload_n 0) 1 130 := ⟨by decide +kernel, rfl⟩
theorem eX7_told_130 : Dc cX7_told 130 (.getfield 76) 3 133 := ⟨by decide +kernel, rfl⟩
theorem eX7_told_133 : Dc cX7_told 133 (.ireturn) 1 134 := ⟨by decide +kernel, rfl⟩
theorem eX7_told_134 : Dc cX7_told 134 (.aload_n 0) 1 135 := ⟨by decide +kernel, rfl⟩
theorem eX7_told_135 : Dc cX7_told 135 (.getfield 106) 3 138 := ⟨by decide +kernel, rfl⟩
theorem eX7_told_138 : Dc cX7_told 138 (.ireturn) 1 139 := ⟨by decide +kernel, rfl⟩
theorem eX7_told_139 : Dc cX7_told 139 (.bipush (-2)) 2 141 := ⟨by decide +kernel, rfl⟩
theorem eX7_told_141 : Dc cX7_told 141 (.ireturn) 1 142 := ⟨by decide +kernel, rfl⟩
def fX7_told (c : SS) (p1 : Int32) : Option (Int32) := if (fX7_in (p1).toInt64 (20 : Int64) (99 : Int64)) = (0 : Int32) then if (fX7_in (p1).toInt64 (10 : Int64) ((9 : Int64) + ((c.1 0)).toInt64)) = (0 : Int32) then if p1 = (0 : Int32) then some (c.1 16) else (if p1 = (1 : Int32) then some (c.1 0) else (if p1 = (2 : Int32) then some (c.1 2) else (if p1 = (3 : Int32) then some (c.1 3) else (if p1 = (4 : Int32) then some (c.1 10) else (if p1 = (5 : Int32) then some (c.1 11) else (if p1 = (6 : Int32) then some (c.1 14) else (swo p1 (0 : Int32) (6 : Int32) (some (-2 : Int32))))))))) else ald 6 (c.2 1) (p1 - (10 : Int32)) (fun v11 => some v11) else Option.bind (fX7_toldOf c ((p1 / (10 : Int32)) - (2 : Int32)) (irm p1 (10 : Int32))) (fun q15 => some q15)
set_option maxRecDepth 20000 in
theorem ctX7_told (l : Launch) (G : tg_G) (A : Nat → Nat) (c : SS) (p1 : Int32) {z : Int32} (h : fX7_told c p1 = some z) : Mt l G yX7_told cX7_told 2 (some .int) (tg_R 3 68) [.ref (A 0), .int p1] (wM G A c) (fun v w1 => v = some (.int z) ∧ w1 = wM G A c) := by
  refine Mt_of2 (own := "TramGodModel") (nm := "told") rfl rfl rfl (Nat.le_of_ble_eq_true rfl) (lv := [(0, .ref (A 0)), (1, .int p1)]) rfl ?_
  unfold fX7_told at h
  refine V_iload_n eX7_told_0 1 rfl ?_
  refine V_i2l eX7_told_1 ?_
  refine V_ldc2 eX7_told_2 tw_973 ?_
  refine V_ldc2 eX7_told_5 tw_780 ?_
  refine V_callSi (rest := []) eX7_told_8 (ctX7_in l G _ (p1).toInt64 (20 : Int64) (99 : Int64) rfl) tc_748 tw_746 tw_8 tw_747 hdX7_in rfl ⟨Nat.le_of_ble_eq_true rfl, Nat.le_of_ble_eq_true rfl⟩ rfl (Nat.le_of_ble_eq_true rfl) ⟨Nat.zero_le _, Nat.zero_le _⟩ ?_
  refine V_if_eq (tgt := 29) eX7_told_11 rfl (fun hb1 => ?_) (fun hb1 => ?_)
  · replace h := (if_pos hb1).symm.trans h
    refine V_iload_n eX7_told_29 1 rfl ?_
    refine V_i2l eX7_told_30 ?_
    refine V_ldc2 eX7_told_31 tw_974 ?_
    refine V_ldc2 eX7_told_34 tw_785 ?_
    refine V_aload_n eX7_told_37 0 rfl ?_
    refine V_get (v := .int (c.1 0)) eX7_told_38 inX7 0 rfl rfl 0 (Nat.le_of_ble_eq_true rfl) tw_645 rfl ?_
    refine V_i2l eX7_told_41 ?_
    refine V_ladd eX7_told_42 ?_
    refine V_callSi (rest := []) eX7_told_43 (ctX7_in l G _ (p1).toInt64 (10 : Int64) ((9 : Int64) + ((c.1 0)).toInt64) rfl) tc_748 tw_746 tw_8 tw_747 hdX7_in rfl ⟨Nat.le_of_ble_eq_true rfl, Nat.le_of_ble_eq_true rfl⟩ rfl (Nat.le_of_ble_eq_true rfl) ⟨Nat.zero_le _, Nat.zero_le _⟩ ?_
    refine V_if_eq (tgt := 59) eX7_told_46 rfl (fun hb2 => ?_) (fun hb2 => ?_)
    · replace h := (if_pos hb2).symm.trans h
      refine V_iload_n eX7_told_59 1 rfl ?_
      by_cases hs3 : p1 = (0 : Int32)
      · replace h := (if_pos hs3).symm.trans h
        refine V_tin (tgt := 104) (44) eX7_told_60 (by rw [hs3]; decide) (by rw [hs3]; decide) (by rw [hs3]; decide) rfl ?_
        refine V_aload_n eX7_told_104 0 rfl ?_
        refine V_get (v := .int (c.1 16)) eX7_told_105 inX7 0 rfl rfl 16 (Nat.le_of_ble_eq_true rfl) tw_661 rfl ?_
        obtain rfl := Option.some.inj h
        exact V_ret eX7_told_108 rfl ⟨rfl, rfl⟩
      replace h := (if_neg hs3).symm.trans h
      by_cases hs4 : p1 = (1 : Int32)
      · replace h := (if_pos hs4).symm.trans h
        refine V_tin (tgt := 109) (49) eX7_told_60 (by rw [hs4]; decide) (by rw [hs4]; decide) (by rw [hs4]; decide) rfl ?_
        refine V_aload_n eX7_told_109 0 rfl ?_
        refine V_get (v := .int (c.1 0)) eX7_told_110 inX7 0 rfl rfl 0 (Nat.le_of_ble_eq_true rfl) tw_645 rfl ?_
        obtain rfl := Option.some.inj h
        exact V_ret eX7_told_113 rfl ⟨rfl, rfl⟩
      replace h := (if_neg hs4).symm.trans h
      by_cases hs5 : p1 = (2 : Int32)
      · replace h := (if_pos hs5).symm.trans h
        refine V_tin (tgt := 114) (54) eX7_told_60 (by rw [hs5]; decide) (by rw [hs5]; decide) (by rw [hs5]; decide) rfl ?_
        refine V_aload_n eX7_told_114 0 rfl ?_
        refine V_get (v := .int (c.1 2)) eX7_told_115 inX7 0 rfl rfl 2 (Nat.le_of_ble_eq_true rfl) tw_647 rfl ?_
        obtain rfl := Option.some.inj h
        exact V_ret eX7_told_118 rfl ⟨rfl, rfl⟩
      replace h := (if_neg hs5).symm.trans h
      by_cases hs6 : p1 = (3 : Int32)
      · replace h := (if_pos hs6).symm.trans h
        refine V_tin (tgt := 119) (59) eX7_told_60 (by rw [hs6]; decide) (by rw [hs6]; decide) (by rw [hs6]; decide) rfl ?_
        refine V_aload_n eX7_told_119 0 rfl ?_
        refine V_get (v := .int (c.1 3)) eX7_told_120 inX7 0 rfl rfl 3 (Nat.le_of_ble_eq_true rfl) tw_648 rfl ?_
        obtain rfl := Option.some.inj h
        exact V_ret eX7_told_123 rfl ⟨rfl, rfl⟩
      replace h := (if_neg hs6).symm.trans h
      by_cases hs7 : p1 = (4 : Int32)
      · replace h := (if_pos hs7).symm.trans h
        refine V_tin (tgt := 124) (64) eX7_told_60 (by rw [hs7]; decide) (by rw [hs7]; decide) (by rw [hs7]; decide) rfl ?_
        refine V_aload_n eX7_told_124 0 rfl ?_
        refine V_get (v := .int (c.1 10)) eX7_told_125 inX7 0 rfl rfl 10 (Nat.le_of_ble_eq_true rfl) tw_655 rfl ?_
        obtain rfl := Option.some.inj h
        exact V_ret eX7_told_128 rfl ⟨rfl, rfl⟩
      replace h := (if_neg hs7).symm.trans h
      by_cases hs8 : p1 = (5 : Int32)
      · replace h := (if_pos hs8).symm.trans h
        refine V_tin (tgt := 129) (69) eX7_told_60 (by rw [hs8]; decide) (by rw [hs8]; decide) (by rw [hs8]; decide) rfl ?_
        refine V_aload_n eX7_told_129 0 rfl ?_
        refine V_get (v := .int (c.1 11)) eX7_told_130 inX7 0 rfl rfl 11 (Nat.le_of_ble_eq_true rfl) tw_656 rfl ?_
        obtain rfl := Option.some.inj h
        exact V_ret eX7_told_133 rfl ⟨rfl, rfl⟩
      replace h := (if_neg hs8).symm.trans h
      by_cases hs9 : p1 = (6 : Int32)
      · replace h := (if_pos hs9).symm.trans h
        refine V_tin (tgt := 134) (74) eX7_told_60 (by rw [hs9]; decide) (by rw [hs9]; decide) (by rw [hs9]; decide) rfl ?_
        refine V_aload_n eX7_told_134 0 rfl ?_
        refine V_get (v := .int (c.1 14)) eX7_told_135 inX7 0 rfl rfl 14 (Nat.le_of_ble_eq_true rfl) tw_659 rfl ?_
        obtain rfl := Option.some.inj h
        exact V_ret eX7_told_138 rfl ⟨rfl, rfl⟩
      replace h := (if_neg hs9).symm.trans h
      obtain ⟨hs10, h⟩ := swo_some h
      refine V_tout (tgt := 139) eX7_told_60 hs10 rfl ?_
      refine V_bipush (v := (-2 : Int32)) eX7_told_139 rfl ?_
      obtain rfl := Option.some.inj h
      exact V_ret eX7_told_141 rfl ⟨rfl, rfl⟩
    · replace h := (if_neg hb2).symm.trans h
      refine V_aload_n eX7_told_49 0 rfl ?_
      refine V_get (v := .ref (A 1)) eX7_told_50 inX7 0 rfl rfl 1 (Nat.le_of_ble_eq_true rfl) tw_646 rfl ?_
      refine V_iload_n eX7_told_53 1 rfl ?_
      refine V_bipush (v := (10 : Int32)) eX7_told_54 rfl ?_
      refine V_isub eX7_told_56 ?_
      obtain ⟨v11, hi11, ev11, h⟩ := ald_some h
      refine V_ialdv eX7_told_57 1 rfl hi11 ev11 ?_
      obtain rfl := Option.some.inj h
      exact V_ret eX7_told_58 rfl ⟨rfl, rfl⟩
  · replace h := (if_neg hb1).symm.trans h
    refine V_aload_n eX7_told_14 0 rfl ?_
    refine V_iload_n eX7_told_15 1 rfl ?_
    refine V_bipush (v := (10 : Int32)) eX7_told_16 rfl ?_
    refine V_idiv eX7_told_18 (by decide) ?_
    refine V_iconst (v := (2 : Int32)) eX7_told_19 rfl ?_
    refine V_isub eX7_told_20 ?_
    refine V_iload_n eX7_told_21 1 rfl ?_
    refine V_bipush (v := (10 : Int32)) eX7_told_22 rfl ?_
    refine V_irem eX7_told_24 (by decide) ?_
    obtain ⟨q15, hc15, h⟩ := Option.bind_eq_some_iff.mp h
    refine V_callVi (rest := []) eX7_told_25 (ctX7_toldOf l G A c ((p1 / (10 : Int32)) - (2 : Int32)) (irm p1 (10 : Int32)) hc15) tc_1025 tw_1022 tw_8 tw_1024 ts_48 0 rfl rfl hdX7_toldOf rfl ⟨Nat.le_of_ble_eq_true rfl, Nat.le_of_ble_eq_true rfl⟩ rfl (Nat.le_of_ble_eq_true rfl) ⟨Nat.zero_le _, Nat.zero_le _⟩ ?_
    obtain rfl := Option.some.inj h
    exact V_ret eX7_told_28 rfl ⟨rfl, rfl⟩
end
