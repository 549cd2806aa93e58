section
-- ===== PART A: goes FIRST, ahead of the names: the tables' words, and 'selects' of the private methods out of them =====
/-- a private method of a class that the tables say can be made, by its rows of tables_1 -/
def lw_okq (q : MethodName × Nat) : Prop := (q.1.cls ≠ "java/lang/invoke/MethodHandle" ∧ q.1.cls ≠ "java/lang/invoke/VarHandle") ∧ Cond.instantiable q.1.cls q.2 ∈ tables_1 ∧ Cond.privateMethod q.1 ∈ tables_1 ∧ Cond.instanceMethod q.1 ∈ tables_1
theorem lw_p0 : lw_okq (⟨"WellOfTheSilent", "refused", "(I)I"⟩, 8) := ⟨⟨by decide +kernel, by decide +kernel⟩, List.mem_of_getElem? (i := 13) (by decide +kernel), List.mem_of_getElem? (i := 127) (by decide +kernel), List.mem_of_getElem? (i := 128) (by decide +kernel)⟩
theorem lw_p1 : lw_okq (⟨"WellOfTheSilent$Telling", "letterAt", "(I)I"⟩, 2) := ⟨⟨by decide +kernel, by decide +kernel⟩, List.mem_of_getElem? (i := 77) (by decide +kernel), List.mem_of_getElem? (i := 139) (by decide +kernel), List.mem_of_getElem? (i := 140) (by decide +kernel)⟩
theorem lw_p2 : lw_okq (⟨"WellOfTheSilent", "thoughtOfNow", "()LWellOfTheSilent$Hill;"⟩, 8) := ⟨⟨by decide +kernel, by decide +kernel⟩, List.mem_of_getElem? (i := 13) (by decide +kernel), List.mem_of_getElem? (i := 269) (by decide +kernel), List.mem_of_getElem? (i := 270) (by decide +kernel)⟩
theorem lw_p3 : lw_okq (⟨"WellOfTheSilent$Telling", "letCome", "(LWellOfTheSilent$Hill;I)Z"⟩, 2) := ⟨⟨by decide +kernel, by decide +kernel⟩, List.mem_of_getElem? (i := 77) (by decide +kernel), List.mem_of_getElem? (i := 281) (by decide +kernel), List.mem_of_getElem? (i := 282) (by decide +kernel)⟩
theorem lw_p4 : lw_okq (⟨"WellOfTheSilent$Telling", "digitAt", "(I)I"⟩, 2) := ⟨⟨by decide +kernel, by decide +kernel⟩, List.mem_of_getElem? (i := 77) (by decide +kernel), List.mem_of_getElem? (i := 285) (by decide +kernel), List.mem_of_getElem? (i := 286) (by decide +kernel)⟩
theorem lw_p5 : lw_okq (⟨"WellOfTheSilent$Telling", "twoDigitsAt", "(I)I"⟩, 2) := ⟨⟨by decide +kernel, by decide +kernel⟩, List.mem_of_getElem? (i := 77) (by decide +kernel), List.mem_of_getElem? (i := 289) (by decide +kernel), List.mem_of_getElem? (i := 290) (by decide +kernel)⟩
theorem lw_p6 : lw_okq (⟨"WellOfTheSilent$Hill", "beginDay", "()V"⟩, 12) := ⟨⟨by decide +kernel, by decide +kernel⟩, List.mem_of_getElem? (i := 21) (by decide +kernel), List.mem_of_getElem? (i := 333) (by decide +kernel), List.mem_of_getElem? (i := 334) (by decide +kernel)⟩
theorem lw_p7 : lw_okq (⟨"WellOfTheSilent$Hill", "letSpeakAt", "(I)V"⟩, 12) := ⟨⟨by decide +kernel, by decide +kernel⟩, List.mem_of_getElem? (i := 21) (by decide +kernel), List.mem_of_getElem? (i := 338) (by decide +kernel), List.mem_of_getElem? (i := 339) (by decide +kernel)⟩
theorem lw_p8 : lw_okq (⟨"WellOfTheSilent$Hill", "mayDraw", "(I)Z"⟩, 12) := ⟨⟨by decide +kernel, by decide +kernel⟩, List.mem_of_getElem? (i := 21) (by decide +kernel), List.mem_of_getElem? (i := 350) (by decide +kernel), List.mem_of_getElem? (i := 351) (by decide +kernel)⟩
theorem lw_p9 : lw_okq (⟨"WellOfTheSilent$Hill", "letDraw", "(I)V"⟩, 12) := ⟨⟨by decide +kernel, by decide +kernel⟩, List.mem_of_getElem? (i := 21) (by decide +kernel), List.mem_of_getElem? (i := 366) (by decide +kernel), List.mem_of_getElem? (i := 367) (by decide +kernel)⟩
theorem lw_p10 : lw_okq (⟨"WellOfTheSilent$Hill", "givesToFriend", "(I)Z"⟩, 12) := ⟨⟨by decide +kernel, by decide +kernel⟩, List.mem_of_getElem? (i := 21) (by decide +kernel), List.mem_of_getElem? (i := 370) (by decide +kernel), List.mem_of_getElem? (i := 371) (by decide +kernel)⟩
theorem lw_p11 : lw_okq (⟨"WellOfTheSilent$Hill", "letDrink", "()V"⟩, 12) := ⟨⟨by decide +kernel, by decide +kernel⟩, List.mem_of_getElem? (i := 21) (by decide +kernel), List.mem_of_getElem? (i := 374) (by decide +kernel), List.mem_of_getElem? (i := 375) (by decide +kernel)⟩
theorem lw_p12 : lw_okq (⟨"WellOfTheSilent", "oneRefusal", "(III)I"⟩, 8) := ⟨⟨by decide +kernel, by decide +kernel⟩, List.mem_of_getElem? (i := 13) (by decide +kernel), List.mem_of_getElem? (i := 421) (by decide +kernel), List.mem_of_getElem? (i := 422) (by decide +kernel)⟩
theorem lw_p13 : lw_okq (⟨"WellOfTheSilent", "thoughtBehind", "(I)LWellOfTheSilent$Hill;"⟩, 8) := ⟨⟨by decide +kernel, by decide +kernel⟩, List.mem_of_getElem? (i := 13) (by decide +kernel), List.mem_of_getElem? (i := 451) (by decide +kernel), List.mem_of_getElem? (i := 452) (by decide +kernel)⟩
theorem lw_p14 : lw_okq (⟨"WellOfTheSilent", "firstDry", "()I"⟩, 8) := ⟨⟨by decide +kernel, by decide +kernel⟩, List.mem_of_getElem? (i := 13) (by decide +kernel), List.mem_of_getElem? (i := 470) (by decide +kernel), List.mem_of_getElem? (i := 471) (by decide +kernel)⟩
theorem lw_p15 : lw_okq (⟨"WellOfTheSilent$Hill", "dryPeople", "()I"⟩, 12) := ⟨⟨by decide +kernel, by decide +kernel⟩, List.mem_of_getElem? (i := 21) (by decide +kernel), List.mem_of_getElem? (i := 491) (by decide +kernel), List.mem_of_getElem? (i := 492) (by decide +kernel)⟩
def lw_privs_1 : List (MethodName × Nat) := [(⟨"WellOfTheSilent", "refused", "(I)I"⟩, 8), (⟨"WellOfTheSilent$Telling", "letterAt", "(I)I"⟩, 2), (⟨"WellOfTheSilent", "thoughtOfNow", "()LWellOfTheSilent$Hill;"⟩, 8), (⟨"WellOfTheSilent$Telling", "letCome", "(LWellOfTheSilent$Hill;I)Z"⟩, 2), (⟨"WellOfTheSilent$Telling", "digitAt", "(I)I"⟩, 2), (⟨"WellOfTheSilent$Telling", "twoDigitsAt", "(I)I"⟩, 2), (⟨"WellOfTheSilent$Hill", "beginDay", "()V"⟩, 12), (⟨"WellOfTheSilent$Hill", "letSpeakAt", "(I)V"⟩, 12), (⟨"WellOfTheSilent$Hill", "mayDraw", "(I)Z"⟩, 12), (⟨"WellOfTheSilent$Hill", "letDraw", "(I)V"⟩, 12), (⟨"WellOfTheSilent$Hill", "givesToFriend", "(I)Z"⟩, 12), (⟨"WellOfTheSilent$Hill", "letDrink", "()V"⟩, 12), (⟨"WellOfTheSilent", "oneRefusal", "(III)I"⟩, 8), (⟨"WellOfTheSilent", "thoughtBehind", "(I)LWellOfTheSilent$Hill;"⟩, 8), (⟨"WellOfTheSilent", "firstDry", "()I"⟩, 8), (⟨"WellOfTheSilent$Hill", "dryPeople", "()I"⟩, 12)]
theorem lw_r1 : ∀ q ∈ lw_privs_1, lw_okq q := List.forall_mem_cons.mpr ⟨lw_p0, List.forall_mem_cons.mpr ⟨lw_p1, List.forall_mem_cons.mpr ⟨lw_p2, List.forall_mem_cons.mpr ⟨lw_p3, List.forall_mem_cons.mpr ⟨lw_p4, List.forall_mem_cons.mpr ⟨lw_p5, List.forall_mem_cons.mpr ⟨lw_p6, List.forall_mem_cons.mpr ⟨lw_p7, List.forall_mem_cons.mpr ⟨lw_p8, List.forall_mem_cons.mpr ⟨lw_p9, List.forall_mem_cons.mpr ⟨lw_p10, List.forall_mem_cons.mpr ⟨lw_p11, List.forall_mem_cons.mpr ⟨lw_p12, List.forall_mem_cons.mpr ⟨lw_p13, List.forall_mem_cons.mpr ⟨lw_p14, List.forall_mem_cons.mpr ⟨lw_p15, fun _ h => absurd h List.not_mem_nil⟩⟩⟩⟩⟩⟩⟩⟩⟩⟩⟩⟩⟩⟩⟩⟩
theorem lw_p16 : lw_okq (⟨"WellOfTheSilent", "isWetWithHushed", "(II)Z"⟩, 8) := ⟨⟨by decide +kernel, by decide +kernel⟩, List.mem_of_getElem? (i := 13) (by decide +kernel), List.mem_of_getElem? (i := 515) (by decide +kernel), List.mem_of_getElem? (i := 516) (by decide +kernel)⟩
theorem lw_p17 : lw_okq (⟨"WellOfTheSilent", "othersWetBySending", "(II)I"⟩, 8) := ⟨⟨by decide +kernel, by decide +kernel⟩, List.mem_of_getElem? (i := 13) (by decide +kernel), List.mem_of_getElem? (i := 527) (by decide +kernel), List.mem_of_getElem? (i := 528) (by decide +kernel)⟩
theorem lw_p18 : lw_okq (⟨"WellOfTheSilent", "rank", "(II)I"⟩, 8) := ⟨⟨by decide +kernel, by decide +kernel⟩, List.mem_of_getElem? (i := 13) (by decide +kernel), List.mem_of_getElem? (i := 547) (by decide +kernel), List.mem_of_getElem? (i := 548) (by decide +kernel)⟩
theorem lw_p19 : lw_okq (⟨"WellOfTheSilent", "friendsOfOthers", "()I"⟩, 8) := ⟨⟨by decide +kernel, by decide +kernel⟩, List.mem_of_getElem? (i := 13) (by decide +kernel), List.mem_of_getElem? (i := 567) (by decide +kernel), List.mem_of_getElem? (i := 568) (by decide +kernel)⟩
theorem lw_p20 : lw_okq (⟨"WellOfTheSilent", "mutualTwos", "()I"⟩, 8) := ⟨⟨by decide +kernel, by decide +kernel⟩, List.mem_of_getElem? (i := 13) (by decide +kernel), List.mem_of_getElem? (i := 571) (by decide +kernel), List.mem_of_getElem? (i := 572) (by decide +kernel)⟩
theorem lw_p21 : lw_okq (⟨"WellOfTheSilent", "gain", "(IIIII)I"⟩, 8) := ⟨⟨by decide +kernel, by decide +kernel⟩, List.mem_of_getElem? (i := 13) (by decide +kernel), List.mem_of_getElem? (i := 579) (by decide +kernel), List.mem_of_getElem? (i := 580) (by decide +kernel)⟩
theorem lw_p22 : lw_okq (⟨"WellOfTheSilent", "sneezeRefusal", "(IIIII)I"⟩, 8) := ⟨⟨by decide +kernel, by decide +kernel⟩, List.mem_of_getElem? (i := 13) (by decide +kernel), List.mem_of_getElem? (i := 587) (by decide +kernel), List.mem_of_getElem? (i := 588) (by decide +kernel)⟩
theorem lw_p23 : lw_okq (⟨"WellOfTheSilent", "refusedLong", "(I)J"⟩, 8) := ⟨⟨by decide +kernel, by decide +kernel⟩, List.mem_of_getElem? (i := 13) (by decide +kernel), List.mem_of_getElem? (i := 591) (by decide +kernel), List.mem_of_getElem? (i := 592) (by decide +kernel)⟩
theorem lw_p24 : lw_okq (⟨"WellOfTheSilent", "hasBehindSneezes", "(III)I"⟩, 8) := ⟨⟨by decide +kernel, by decide +kernel⟩, List.mem_of_getElem? (i := 13) (by decide +kernel), List.mem_of_getElem? (i := 596) (by decide +kernel), List.mem_of_getElem? (i := 597) (by decide +kernel)⟩
theorem lw_p25 : lw_okq (⟨"WellOfTheSilent", "kindsByRow", "(I)I"⟩, 8) := ⟨⟨by decide +kernel, by decide +kernel⟩, List.mem_of_getElem? (i := 13) (by decide +kernel), List.mem_of_getElem? (i := 618) (by decide +kernel), List.mem_of_getElem? (i := 619) (by decide +kernel)⟩
theorem lw_p26 : lw_okq (⟨"WellOfTheSilent", "goesAsRow", "(LWellOfTheSilent$Hill;I)Z"⟩, 8) := ⟨⟨by decide +kernel, by decide +kernel⟩, List.mem_of_getElem? (i := 13) (by decide +kernel), List.mem_of_getElem? (i := 622) (by decide +kernel), List.mem_of_getElem? (i := 623) (by decide +kernel)⟩
theorem lw_p27 : lw_okq (⟨"WellOfTheSilent", "figuresByRow", "(I)I"⟩, 8) := ⟨⟨by decide +kernel, by decide +kernel⟩, List.mem_of_getElem? (i := 13) (by decide +kernel), List.mem_of_getElem? (i := 626) (by decide +kernel), List.mem_of_getElem? (i := 627) (by decide +kernel)⟩
theorem lw_p28 : lw_okq (⟨"WellOfTheSilent", "countRefusals", "(I)I"⟩, 8) := ⟨⟨by decide +kernel, by decide +kernel⟩, List.mem_of_getElem? (i := 13) (by decide +kernel), List.mem_of_getElem? (i := 672) (by decide +kernel), List.mem_of_getElem? (i := 673) (by decide +kernel)⟩
theorem lw_p29 : lw_okq (⟨"WellOfTheSilentModel", "no", "(I)I"⟩, 13) := ⟨⟨by decide +kernel, by decide +kernel⟩, List.mem_of_getElem? (i := 676) (by decide +kernel), List.mem_of_getElem? (i := 726) (by decide +kernel), List.mem_of_getElem? (i := 727) (by decide +kernel)⟩
theorem lw_p30 : lw_okq (⟨"WellOfTheSilentModel", "readsStatement", "()Z"⟩, 13) := ⟨⟨by decide +kernel, by decide +kernel⟩, List.mem_of_getElem? (i := 676) (by decide +kernel), List.mem_of_getElem? (i := 734) (by decide +kernel), List.mem_of_getElem? (i := 735) (by decide +kernel)⟩
theorem lw_p31 : lw_okq (⟨"WellOfTheSilentModel", "here", "()I"⟩, 13) := ⟨⟨by decide +kernel, by decide +kernel⟩, List.mem_of_getElem? (i := 676) (by decide +kernel), List.mem_of_getElem? (i := 738) (by decide +kernel), List.mem_of_getElem? (i := 739) (by decide +kernel)⟩
def lw_privs_2 : List (MethodName × Nat) := [(⟨"WellOfTheSilent", "isWetWithHushed", "(II)Z"⟩, 8), (⟨"WellOfTheSilent", "othersWetBySending", "(II)I"⟩, 8), (⟨"WellOfTheSilent", "rank", "(II)I"⟩, 8), (⟨"WellOfTheSilent", "friendsOfOthers", "()I"⟩, 8), (⟨"WellOfTheSilent", "mutualTwos", "()I"⟩, 8), (⟨"WellOfTheSilent", "gain", "(IIIII)I"⟩, 8), (⟨"WellOfTheSilent", "sneezeRefusal", "(IIIII)I"⟩, 8), (⟨"WellOfTheSilent", "refusedLong", "(I)J"⟩, 8), (⟨"WellOfTheSilent", "hasBehindSneezes", "(III)I"⟩, 8), (⟨"WellOfTheSilent", "kindsByRow", "(I)I"⟩, 8), (⟨"WellOfTheSilent", "goesAsRow", "(LWellOfTheSilent$Hill;I)Z"⟩, 8), (⟨"WellOfTheSilent", "figuresByRow", "(I)I"⟩, 8), (⟨"WellOfTheSilent", "countRefusals", "(I)I"⟩, 8), (⟨"WellOfTheSilentModel", "no", "(I)I"⟩, 13), (⟨"WellOfTheSilentModel", "readsStatement", "()Z"⟩, 13), (⟨"WellOfTheSilentModel", "here", "()I"⟩, 13)]
theorem lw_r2 : ∀ q ∈ lw_privs_2, lw_okq q := List.forall_mem_cons.mpr ⟨lw_p16, List.forall_mem_cons.mpr ⟨lw_p17, List.forall_mem_cons.mpr ⟨lw_p18, List.forall_mem_cons.mpr ⟨lw_p19, List.forall_mem_cons.mpr ⟨lw_p20, List.forall_mem_cons.mpr ⟨lw_p21, List.forall_mem_cons.mpr ⟨lw_p22, List.forall_mem_cons.mpr ⟨lw_p23, List.forall_mem_cons.mpr ⟨lw_p24, List.forall_mem_cons.mpr ⟨lw_p25, List.forall_mem_cons.mpr ⟨lw_p26, List.forall_mem_cons.mpr ⟨lw_p27, List.forall_mem_cons.mpr ⟨lw_p28, List.forall_mem_cons.mpr ⟨lw_p29, List.forall_mem_cons.mpr ⟨lw_p30, List.forall_mem_cons.mpr ⟨lw_p31, fun _ h => absurd h List.not_mem_nil⟩⟩⟩⟩⟩⟩⟩⟩⟩⟩⟩⟩⟩⟩⟩⟩
theorem lw_p32 : lw_okq (⟨"WellOfTheSilentModel", "readsKind", "()Z"⟩, 13) := ⟨⟨by decide +kernel, by decide +kernel⟩, List.mem_of_getElem? (i := 676) (by decide +kernel), List.mem_of_getElem? (i := 742) (by decide +kernel), List.mem_of_getElem? (i := 743) (by decide +kernel)⟩
theorem lw_p33 : lw_okq (⟨"WellOfTheSilentModel", "readsNumber", "(II)Z"⟩, 13) := ⟨⟨by decide +kernel, by decide +kernel⟩, List.mem_of_getElem? (i := 676) (by decide +kernel), List.mem_of_getElem? (i := 749) (by decide +kernel), List.mem_of_getElem? (i := 750) (by decide +kernel)⟩
theorem lw_p34 : lw_okq (⟨"WellOfTheSilentModel", "isDone", "(I)Z"⟩, 13) := ⟨⟨by decide +kernel, by decide +kernel⟩, List.mem_of_getElem? (i := 676) (by decide +kernel), List.mem_of_getElem? (i := 759) (by decide +kernel), List.mem_of_getElem? (i := 760) (by decide +kernel)⟩
theorem lw_p35 : lw_okq (⟨"WellOfTheSilentModel", "addsPerson", "()Z"⟩, 13) := ⟨⟨by decide +kernel, by decide +kernel⟩, List.mem_of_getElem? (i := 676) (by decide +kernel), List.mem_of_getElem? (i := 763) (by decide +kernel), List.mem_of_getElem? (i := 764) (by decide +kernel)⟩
theorem lw_p36 : lw_okq (⟨"WellOfTheSilentModel", "isPerson", "(I)Z"⟩, 13) := ⟨⟨by decide +kernel, by decide +kernel⟩, List.mem_of_getElem? (i := 676) (by decide +kernel), List.mem_of_getElem? (i := 770) (by decide +kernel), List.mem_of_getElem? (i := 771) (by decide +kernel)⟩
theorem lw_p37 : lw_okq (⟨"WellOfTheSilentModel", "sets", "(II)I"⟩, 13) := ⟨⟨by decide +kernel, by decide +kernel⟩, List.mem_of_getElem? (i := 676) (by decide +kernel), List.mem_of_getElem? (i := 819) (by decide +kernel), List.mem_of_getElem? (i := 820) (by decide +kernel)⟩
theorem lw_p38 : lw_okq (⟨"WellOfTheSilentModel", "setsOf", "(IIII)I"⟩, 13) := ⟨⟨by decide +kernel, by decide +kernel⟩, List.mem_of_getElem? (i := 676) (by decide +kernel), List.mem_of_getElem? (i := 827) (by decide +kernel), List.mem_of_getElem? (i := 828) (by decide +kernel)⟩
theorem lw_p39 : lw_okq (⟨"WellOfTheSilentModel", "setsIn", "(III)I"⟩, 13) := ⟨⟨by decide +kernel, by decide +kernel⟩, List.mem_of_getElem? (i := 676) (by decide +kernel), List.mem_of_getElem? (i := 842) (by decide +kernel), List.mem_of_getElem? (i := 843) (by decide +kernel)⟩
theorem lw_p40 : lw_okq (⟨"WellOfTheSilentModel", "takes", "(I)V"⟩, 13) := ⟨⟨by decide +kernel, by decide +kernel⟩, List.mem_of_getElem? (i := 676) (by decide +kernel), List.mem_of_getElem? (i := 862) (by decide +kernel), List.mem_of_getElem? (i := 863) (by decide +kernel)⟩
theorem lw_p41 : lw_okq (⟨"WellOfTheSilentModel", "firstDry", "()I"⟩, 13) := ⟨⟨by decide +kernel, by decide +kernel⟩, List.mem_of_getElem? (i := 676) (by decide +kernel), List.mem_of_getElem? (i := 877) (by decide +kernel), List.mem_of_getElem? (i := 878) (by decide +kernel)⟩
theorem lw_p42 : lw_okq (⟨"WellOfTheSilentModel", "whenNothing", "(I)I"⟩, 13) := ⟨⟨by decide +kernel, by decide +kernel⟩, List.mem_of_getElem? (i := 676) (by decide +kernel), List.mem_of_getElem? (i := 882) (by decide +kernel), List.mem_of_getElem? (i := 883) (by decide +kernel)⟩
theorem lw_p43 : lw_okq (⟨"WellOfTheSilentModel", "isNoneDry", "(II)Z"⟩, 13) := ⟨⟨by decide +kernel, by decide +kernel⟩, List.mem_of_getElem? (i := 676) (by decide +kernel), List.mem_of_getElem? (i := 894) (by decide +kernel), List.mem_of_getElem? (i := 895) (by decide +kernel)⟩
theorem lw_p44 : lw_okq (⟨"WellOfTheSilentModel", "extreme", "(IZ)I"⟩, 13) := ⟨⟨by decide +kernel, by decide +kernel⟩, List.mem_of_getElem? (i := 676) (by decide +kernel), List.mem_of_getElem? (i := 936) (by decide +kernel), List.mem_of_getElem? (i := 937) (by decide +kernel)⟩
theorem lw_p45 : lw_okq (⟨"WellOfTheSilentModel", "hasBy", "(IIIIII)I"⟩, 13) := ⟨⟨by decide +kernel, by decide +kernel⟩, List.mem_of_getElem? (i := 676) (by decide +kernel), List.mem_of_getElem? (i := 960) (by decide +kernel), List.mem_of_getElem? (i := 961) (by decide +kernel)⟩
theorem lw_p46 : lw_okq (⟨"WellOfTheSilentModel", "noWide", "(I)J"⟩, 13) := ⟨⟨by decide +kernel, by decide +kernel⟩, List.mem_of_getElem? (i := 676) (by decide +kernel), List.mem_of_getElem? (i := 968) (by decide +kernel), List.mem_of_getElem? (i := 969) (by decide +kernel)⟩
theorem lw_p47 : lw_okq (⟨"WellOfTheSilentModel", "drawn", "(I)I"⟩, 13) := ⟨⟨by decide +kernel, by decide +kernel⟩, List.mem_of_getElem? (i := 676) (by decide +kernel), List.mem_of_getElem? (i := 1003) (by decide +kernel), List.mem_of_getElem? (i := 1004) (by decide +kernel)⟩
def lw_privs_3 : List (MethodName × Nat) := [(⟨"WellOfTheSilentModel", "readsKind", "()Z"⟩, 13), (⟨"WellOfTheSilentModel", "readsNumber", "(II)Z"⟩, 13), (⟨"WellOfTheSilentModel", "isDone", "(I)Z"⟩, 13), (⟨"WellOfTheSilentModel", "addsPerson", "()Z"⟩, 13), (⟨"WellOfTheSilentModel", "isPerson", "(I)Z"⟩, 13), (⟨"WellOfTheSilentModel", "sets", "(II)I"⟩, 13), (⟨"WellOfTheSilentModel", "setsOf", "(IIII)I"⟩, 13), (⟨"WellOfTheSilentModel", "setsIn", "(III)I"⟩, 13), (⟨"WellOfTheSilentModel", "takes", "(I)V"⟩, 13), (⟨"WellOfTheSilentModel", "firstDry", "()I"⟩, 13), (⟨"WellOfTheSilentModel", "whenNothing", "(I)I"⟩, 13), (⟨"WellOfTheSilentModel", "isNoneDry", "(II)Z"⟩, 13), (⟨"WellOfTheSilentModel", "extreme", "(IZ)I"⟩, 13), (⟨"WellOfTheSilentModel", "hasBy", "(IIIIII)I"⟩, 13), (⟨"WellOfTheSilentModel", "noWide", "(I)J"⟩, 13), (⟨"WellOfTheSilentModel", "drawn", "(I)I"⟩, 13)]
theorem lw_r3 : ∀ q ∈ lw_privs_3, lw_okq q := List.forall_mem_cons.mpr ⟨lw_p32, List.forall_mem_cons.mpr ⟨lw_p33, List.forall_mem_cons.mpr ⟨lw_p34, List.forall_mem_cons.mpr ⟨lw_p35, List.forall_mem_cons.mpr ⟨lw_p36, List.forall_mem_cons.mpr ⟨lw_p37, List.forall_mem_cons.mpr ⟨lw_p38, List.forall_mem_cons.mpr ⟨lw_p39, List.forall_mem_cons.mpr ⟨lw_p40, List.forall_mem_cons.mpr ⟨lw_p41, List.forall_mem_cons.mpr ⟨lw_p42, List.forall_mem_cons.mpr ⟨lw_p43, List.forall_mem_cons.mpr ⟨lw_p44, List.forall_mem_cons.mpr ⟨lw_p45, List.forall_mem_cons.mpr ⟨lw_p46, List.forall_mem_cons.mpr ⟨lw_p47, fun _ h => absurd h List.not_mem_nil⟩⟩⟩⟩⟩⟩⟩⟩⟩⟩⟩⟩⟩⟩⟩⟩
def lw_privs : List (MethodName × Nat) := lw_privs_1 ++ (lw_privs_2 ++ (lw_privs_3))
def lw_tbl : List Cond := k2_sels lw_privs ++ tables_1
theorem lw_privs_ok : ∀ q ∈ lw_privs, lw_okq q := by
  show ∀ q ∈ lw_privs_1 ++ (lw_privs_2 ++ (lw_privs_3)), lw_okq q
  exact List.forall_mem_append.mpr ⟨lw_r1, List.forall_mem_append.mpr ⟨lw_r2, lw_r3⟩⟩
end
section
def RX0 : String := "WellOfTheSilent$Hill"
def TX0 : u_T := fun k => match k with
  | 0 => ("WellOfTheSilent$Hill", "kinds", "[I", true)
  | 1 => ("WellOfTheSilent$Hill", "figures", "[I", true)
  | 2 => ("WellOfTheSilent$Hill", "cans", "[I", true)
  | 3 => ("WellOfTheSilent$Hill", "has", "[I", true)
  | 4 => ("WellOfTheSilent$Hill", "friends", "[I", true)
  | 5 => ("WellOfTheSilent$Hill", "size", "I", false)
  | 6 => ("WellOfTheSilent$Hill", "water", "I", false)
  | 7 => ("WellOfTheSilent$Hill", "flow", "I", false)
  | 8 => ("WellOfTheSilent$Hill", "hour", "I", false)
  | 9 => ("WellOfTheSilent$Hill", "spoken", "I", false)
  | 10 => ("WellOfTheSilent$Hill", "drew", "I", false)
  | _ => ("WellOfTheSilent$Hill", "hushed", "I", false)
def tyX0 : Nat → FieldType := fun k => match k with
  | 0 => .array .int
  | 1 => .array .int
  | 2 => .array .int
  | 3 => .array .int
  | 4 => .array .int
  | 5 => .int
  | 6 => .int
  | 7 => .int
  | 8 => .int
  | 9 => .int
  | 10 => .int
  | _ => .int
abbrev wsX00 : List Cond := u_ws RX0 TX0 12
theorem nmX0 : ∀ a, a < 12 → ∀ b, b < 12 → a ≠ b → (TX0 a).2.1 ≠ (TX0 b).2.1 := by decide +kernel
theorem tyX0_ok : ∀ k, k < 12 → parseFieldDescriptor (TX0 k).2.2.1 = some (tyX0 k) := by decide +kernel
abbrev cX0_init : ByteArray := prog_2_method_1_code
def yX0_init : MethodName := ⟨RX0, "<init>", "()V"⟩
abbrev cX0_copyFrom : ByteArray := prog_2_method_2_code
def yX0_copyFrom : MethodName := ⟨RX0, "copyFrom", "(LWellOfTheSilent$Hill;)V"⟩
abbrev cX0_isThere : ByteArray := prog_2_method_3_code
def yX0_isThere : MethodName := ⟨RX0, "isThere", "(I)Z"⟩
abbrev cX0_addPerson : ByteArray := prog_2_method_4_code
def yX0_addPerson : MethodName := ⟨RX0, "addPerson", "(III)Z"⟩
abbrev cX0_setFriend : ByteArray := prog_2_method_5_code
def yX0_setFriend : MethodName := ⟨RX0, "setFriend", "(II)Z"⟩
abbrev cX0_setHas : ByteArray := prog_2_method_6_code
def yX0_setHas : MethodName := ⟨RX0, "setHas", "(II)Z"⟩
abbrev cX0_setWater : ByteArray := prog_2_method_7_code
def yX0_setWater : MethodName := ⟨RX0, "setWater", "(I)Z"⟩
abbrev cX0_setFlow : ByteArray := prog_2_method_8_code
def yX0_setFlow : MethodName := ⟨RX0, "setFlow", "(I)Z"⟩
abbrev cX0_letSpeak : ByteArray := prog_2_method_9_code
def yX0_letSpeak : MethodName := ⟨RX0, "letSpeak", "(I)Z"⟩
abbrev cX0_everybody : ByteArray := prog_2_method_10_code
def yX0_everybody : MethodName := ⟨RX0, "everybody", "()I"⟩
abbrev cX0_hasSpoken : ByteArray := prog_2_method_11_code
def yX0_hasSpoken : MethodName := ⟨RX0, "hasSpoken", "(I)Z"⟩
abbrev cX0_hasDrawn : ByteArray := prog_2_method_12_code
def yX0_hasDrawn : MethodName := ⟨RX0, "hasDrawn", "(I)Z"⟩
abbrev cX0_isHushed : ByteArray := prog_2_method_13_code
def yX0_isHushed : MethodName := ⟨RX0, "isHushed", "(I)Z"⟩
abbrev cX0_speakingHour : ByteArray := prog_2_method_14_code
def yX0_speakingHour : MethodName := ⟨RX0, "speakingHour", "(I)I"⟩
abbrev cX0_drinkOf : ByteArray := prog_2_method_15_code
def yX0_drinkOf : MethodName := ⟨RX0, "drinkOf", "(I)I"⟩
abbrev cX0_drawsThoughSpoken : ByteArray := prog_2_method_16_code
def yX0_drawsThoughSpoken : MethodName := ⟨RX0, "drawsThoughSpoken", "(I)Z"⟩
abbrev cX0_mayPass : ByteArray := prog_2_method_17_code
def yX0_mayPass : MethodName := ⟨RX0, "mayPass", "(I)Z"⟩
abbrev cX0_passHours : ByteArray := prog_2_method_18_code
def yX0_passHours : MethodName := ⟨RX0, "passHours", "(I)V"⟩
abbrev cX0_passHour : ByteArray := prog_2_method_19_code
def yX0_passHour : MethodName := ⟨RX0, "passHour", "(I)V"⟩
abbrev cX0_passHourForDrawers : ByteArray := prog_2_method_20_code
def yX0_passHourForDrawers : MethodName := ⟨RX0, "passHourForDrawers", "()I"⟩
abbrev cX0_beginDay : ByteArray := prog_2_method_21_code
def yX0_beginDay : MethodName := ⟨RX0, "beginDay", "()V"⟩
abbrev cX0_letSpeakAt : ByteArray := prog_2_method_22_code
def yX0_letSpeakAt : MethodName := ⟨RX0, "letSpeakAt", "(I)V"⟩
abbrev cX0_mayDraw : ByteArray := prog_2_method_23_code
def yX0_mayDraw : MethodName := ⟨RX0, "mayDraw", "(I)Z"⟩
abbrev cX0_letDraw : ByteArray := prog_2_method_24_code
def yX0_letDraw : MethodName := ⟨RX0, "letDraw", "(I)V"⟩
abbrev cX0_givesToFriend : ByteArray := prog_2_method_25_code
def yX0_givesToFriend : MethodName := ⟨RX0, "givesToFriend", "(I)Z"⟩
abbrev cX0_letDrink : ByteArray := prog_2_method_26_code
def yX0_letDrink : MethodName := ⟨RX0, "letDrink", "()V"⟩
abbrev cX0_giveToWell : ByteArray := prog_2_method_27_code
def yX0_giveToWell : MethodName := ⟨RX0, "giveToWell", "(I)V"⟩
abbrev cX0_together : ByteArray := prog_2_method_28_code
def yX0_together : MethodName := ⟨RX0, "together", "()I"⟩
abbrev cX0_leastHas : ByteArray := prog_2_method_29_code
def yX0_leastHas : MethodName := ⟨RX0, "leastHas", "()I"⟩
abbrev cX0_countDry : ByteArray := prog_2_method_30_code
def yX0_countDry : MethodName := ⟨RX0, "countDry", "()I"⟩
abbrev cX0_dryPeople : ByteArray := prog_2_method_31_code
def yX0_dryPeople : MethodName := ⟨RX0, "dryPeople", "()I"⟩
abbrev cX0_staysWet : ByteArray := prog_2_method_32_code
def yX0_staysWet : MethodName := ⟨RX0, "staysWet", "(II)Z"⟩
def RX1 : String := "WellOfTheSilent$Telling"
def TX1 : u_T := fun k => match k with
  | 0 => ("WellOfTheSilent$Telling", "letters", "[I", true)
  | _ => ("WellOfTheSilent$Telling", "size", "I", false)
def tyX1 : Nat → FieldType := fun k => match k with
  | 0 => .array .int
  | _ => .int
abbrev wsX10 : List Cond := u_ws RX1 TX1 2
theorem nmX1 : ∀ a, a < 2 → ∀ b, b < 2 → a ≠ b → (TX1 a).2.1 ≠ (TX1 b).2.1 := by decide +kernel
theorem tyX1_ok : ∀ k, k < 2 → parseFieldDescriptor (TX1 k).2.2.1 = some (tyX1 k) := by decide +kernel
abbrev cX1_init : ByteArray := prog_3_method_1_code
def yX1_init : MethodName := ⟨RX1, "<init>", "()V"⟩
abbrev cX1_add : ByteArray := prog_3_method_2_code
def yX1_add : MethodName := ⟨RX1, "add", "(I)Z"⟩
abbrev cX1_forget : ByteArray := prog_3_method_3_code
def yX1_forget : MethodName := ⟨RX1, "forget", "()V"⟩
abbrev cX1_firstWrongLetter : ByteArray := prog_3_method_4_code
def yX1_firstWrongLetter : MethodName := ⟨RX1, "firstWrongLetter", "()I"⟩
abbrev cX1_firstWrongStatement : ByteArray := prog_3_method_5_code
def yX1_firstWrongStatement : MethodName := ⟨RX1, "firstWrongStatement", "(LWellOfTheSilent$Hill;)I"⟩
abbrev cX1_statements : ByteArray := prog_3_method_6_code
def yX1_statements : MethodName := ⟨RX1, "statements", "()I"⟩
abbrev cX1_letterAt : ByteArray := prog_3_method_7_code
def yX1_letterAt : MethodName := ⟨RX1, "letterAt", "(I)I"⟩
abbrev cX1_digitAt : ByteArray := prog_3_method_8_code
def yX1_digitAt : MethodName := ⟨RX1, "digitAt", "(I)I"⟩
abbrev cX1_twoDigitsAt : ByteArray := prog_3_method_9_code
def yX1_twoDigitsAt : MethodName := ⟨RX1, "twoDigitsAt", "(I)I"⟩
abbrev cX1_shapeBehind : ByteArray := prog_3_method_10_code
def yX1_shapeBehind : MethodName := ⟨RX1, "shapeBehind", "(I)Ljava/lang/String;"⟩
abbrev cX1_fits : ByteArray := prog_3_method_11_code
def yX1_fits : MethodName := ⟨RX1, "fits", "(CI)Z"⟩
abbrev cX1_kindOf : ByteArray := prog_3_method_12_code
def yX1_kindOf : MethodName := ⟨RX1, "kindOf", "(I)I"⟩
abbrev cX1_letCome : ByteArray := prog_3_method_13_code
def yX1_letCome : MethodName := ⟨RX1, "letCome", "(LWellOfTheSilent$Hill;I)Z"⟩
def RX2 : String := "WellOfTheSilent"
def TX2 : u_T := fun k => match k with
  | 0 => ("WellOfTheSilent", "now", "LWellOfTheSilent$Hill;", true)
  | 1 => ("WellOfTheSilent", "thought", "LWellOfTheSilent$Hill;", true)
  | 2 => ("WellOfTheSilent", "kept", "LWellOfTheSilent$Hill;", true)
  | 3 => ("WellOfTheSilent", "telling", "LWellOfTheSilent$Telling;", true)
  | 4 => ("WellOfTheSilent", "rowNumbers", "[I", true)
  | 5 => ("WellOfTheSilent", "refusals", "[I", true)
  | 6 => ("WellOfTheSilent", "rowSize", "I", false)
  | _ => ("WellOfTheSilent", "isKept", "Z", false)
def tyX2 : Nat → FieldType := fun k => match k with
  | 0 => .object "WellOfTheSilent$Hill"
  | 1 => .object "WellOfTheSilent$Hill"
  | 2 => .object "WellOfTheSilent$Hill"
  | 3 => .object "WellOfTheSilent$Telling"
  | 4 => .array .int
  | 5 => .array .int
  | 6 => .int
  | _ => .boolean
abbrev wsX20 : List Cond := u_ws RX2 TX2 8
theorem nmX2 : ∀ a, a < 8 → ∀ b, b < 8 → a ≠ b → (TX2 a).2.1 ≠ (TX2 b).2.1 := by decide +kernel
theorem tyX2_ok : ∀ k, k < 8 → parseFieldDescriptor (TX2 k).2.2.1 = some (tyX2 k) := by decide +kernel
abbrev cX2_init : ByteArray := prog_1_method_1_code
def yX2_init : MethodName := ⟨RX2, "<init>", "()V"⟩
abbrev cX2_letter : ByteArray := prog_1_method_2_code
def yX2_letter : MethodName := ⟨RX2, "letter", "(I)I"⟩
abbrev cX2_hill : ByteArray := prog_1_method_3_code
def yX2_hill : MethodName := ⟨RX2, "hill", "()I"⟩
abbrev cX2_person : ByteArray := prog_1_method_4_code
def yX2_person : MethodName := ⟨RX2, "person", "(II)I"⟩
abbrev cX2_speaks : ByteArray := prog_1_method_5_code
def yX2_speaks : MethodName := ⟨RX2, "speaks", "(I)I"⟩
abbrev cX2_befriends : ByteArray := prog_1_method_6_code
def yX2_befriends : MethodName := ⟨RX2, "befriends", "(II)I"⟩
abbrev cX2_pours : ByteArray := prog_1_method_7_code
def yX2_pours : MethodName := ⟨RX2, "pours", "(II)I"⟩
abbrev cX2_cans : ByteArray := prog_1_method_8_code
def yX2_cans : MethodName := ⟨RX2, "cans", "(II)I"⟩
abbrev cX2_water : ByteArray := prog_1_method_9_code
def yX2_water : MethodName := ⟨RX2, "water", "(I)I"⟩
abbrev cX2_flow : ByteArray := prog_1_method_10_code
def yX2_flow : MethodName := ⟨RX2, "flow", "(I)I"⟩
abbrev cX2_turn : ByteArray := prog_1_method_11_code
def yX2_turn : MethodName := ⟨RX2, "turn", "(III)I"⟩
abbrev cX2_hours : ByteArray := prog_1_method_12_code
def yX2_hours : MethodName := ⟨RX2, "hours", "(I)I"⟩
abbrev cX2_hasThen : ByteArray := prog_1_method_13_code
def yX2_hasThen : MethodName := ⟨RX2, "hasThen", "(II)I"⟩
abbrev cX2_then : ByteArray := prog_1_method_14_code
def yX2_then : MethodName := ⟨RX2, "then", "(II)I"⟩
abbrev cX2_dry : ByteArray := prog_1_method_15_code
def yX2_dry : MethodName := ⟨RX2, "dry", "(I)I"⟩
abbrev cX2_empty : ByteArray := prog_1_method_16_code
def yX2_empty : MethodName := ⟨RX2, "empty", "()I"⟩
abbrev cX2_flowBest : ByteArray := prog_1_method_17_code
def yX2_flowBest : MethodName := ⟨RX2, "flowBest", "(I)I"⟩
abbrev cX2_canBest : ByteArray := prog_1_method_18_code
def yX2_canBest : MethodName := ⟨RX2, "canBest", "(II)I"⟩
abbrev cX2_friendBest : ByteArray := prog_1_method_19_code
def yX2_friendBest : MethodName := ⟨RX2, "friendBest", "(II)I"⟩
abbrev cX2_hush : ByteArray := prog_1_method_20_code
def yX2_hush : MethodName := ⟨RX2, "hush", "(I)I"⟩
abbrev cX2_fewest : ByteArray := prog_1_method_21_code
def yX2_fewest : MethodName := ⟨RX2, "fewest", "(I)I"⟩
abbrev cX2_word : ByteArray := prog_1_method_22_code
def yX2_word : MethodName := ⟨RX2, "word", "(I)I"⟩
abbrev cX2_send : ByteArray := prog_1_method_23_code
def yX2_send : MethodName := ⟨RX2, "send", "(II)I"⟩
abbrev cX2_next : ByteArray := prog_1_method_24_code
def yX2_next : MethodName := ⟨RX2, "next", "()I"⟩
abbrev cX2_richest : ByteArray := prog_1_method_25_code
def yX2_richest : MethodName := ⟨RX2, "richest", "(I)I"⟩
abbrev cX2_quiet : ByteArray := prog_1_method_26_code
def yX2_quiet : MethodName := ⟨RX2, "quiet", "(I)I"⟩
abbrev cX2_thirst : ByteArray := prog_1_method_27_code
def yX2_thirst : MethodName := ⟨RX2, "thirst", "()I"⟩
abbrev cX2_lasts : ByteArray := prog_1_method_28_code
def yX2_lasts : MethodName := ⟨RX2, "lasts", "(I)I"⟩
abbrev cX2_carries : ByteArray := prog_1_method_29_code
def yX2_carries : MethodName := ⟨RX2, "carries", "(I)I"⟩
abbrev cX2_two : ByteArray := prog_1_method_30_code
def yX2_two : MethodName := ⟨RX2, "two", "(III)I"⟩
abbrev cX2_sneeze : ByteArray := prog_1_method_31_code
def yX2_sneeze : MethodName := ⟨RX2, "sneeze", "(IIIII)J"⟩
abbrev cX2_mean : ByteArray := prog_1_method_32_code
def yX2_mean : MethodName := ⟨RX2, "mean", "(I)J"⟩
abbrev cX2_whatIs : ByteArray := prog_1_method_33_code
def yX2_whatIs : MethodName := ⟨RX2, "whatIs", "(II)I"⟩
abbrev cX2_row : ByteArray := prog_1_method_34_code
def yX2_row : MethodName := ⟨RX2, "row", "(I)I"⟩
abbrev cX2_judge : ByteArray := prog_1_method_35_code
def yX2_judge : MethodName := ⟨RX2, "judge", "()I"⟩
abbrev cX2_clear : ByteArray := prog_1_method_36_code
def yX2_clear : MethodName := ⟨RX2, "clear", "()I"⟩
abbrev cX2_lots : ByteArray := prog_1_method_37_code
def yX2_lots : MethodName := ⟨RX2, "lots", "(III)I"⟩
abbrev cX2_image : ByteArray := prog_1_method_38_code
def yX2_image : MethodName := ⟨RX2, "image", "()I"⟩
abbrev cX2_on : ByteArray := prog_1_method_39_code
def yX2_on : MethodName := ⟨RX2, "on", "()I"⟩
abbrev cX2_count : ByteArray := prog_1_method_40_code
def yX2_count : MethodName := ⟨RX2, "count", "(I)I"⟩
abbrev cX2_countRefusals : ByteArray := prog_1_method_41_code
def yX2_countRefusals : MethodName := ⟨RX2, "countRefusals", "(I)I"⟩
abbrev cX2_refused : ByteArray := prog_1_method_42_code
def yX2_refused : MethodName := ⟨RX2, "refused", "(I)I"⟩
abbrev cX2_refusedLong : ByteArray := prog_1_method_43_code
def yX2_refusedLong : MethodName := ⟨RX2, "refusedLong", "(I)J"⟩
abbrev cX2_rangeRefusal : ByteArray := prog_1_method_44_code
def yX2_rangeRefusal : MethodName := ⟨RX2, "rangeRefusal", "(III)I"⟩
abbrev cX2_whatRefusal : ByteArray := prog_1_method_45_code
def yX2_whatRefusal : MethodName := ⟨RX2, "whatRefusal", "(II)I"⟩
abbrev cX2_oneRefusal : ByteArray := prog_1_method_46_code
def yX2_oneRefusal : MethodName := ⟨RX2, "oneRefusal", "(III)I"⟩
abbrev cX2_sneezeRefusal : ByteArray := prog_1_method_47_code
def yX2_sneezeRefusal : MethodName := ⟨RX2, "sneezeRefusal", "(IIIII)I"⟩
abbrev cX2_thoughtOfNow : ByteArray := prog_1_method_48_code
def yX2_thoughtOfNow : MethodName := ⟨RX2, "thoughtOfNow", "()LWellOfTheSilent$Hill;"⟩
abbrev cX2_thoughtBehind : ByteArray := prog_1_method_49_code
def yX2_thoughtBehind : MethodName := ⟨RX2, "thoughtBehind", "(I)LWellOfTheSilent$Hill;"⟩
abbrev cX2_firstDry : ByteArray := prog_1_method_50_code
def yX2_firstDry : MethodName := ⟨RX2, "firstDry", "()I"⟩
abbrev cX2_isWetWithHushed : ByteArray := prog_1_method_51_code
def yX2_isWetWithHushed : MethodName := ⟨RX2, "isWetWithHushed", "(II)Z"⟩
abbrev cX2_othersWetBySending : ByteArray := prog_1_method_52_code
def yX2_othersWetBySending : MethodName := ⟨RX2, "othersWetBySending", "(II)I"⟩
abbrev cX2_rank : ByteArray := prog_1_method_53_code
def yX2_rank : MethodName := ⟨RX2, "rank", "(II)I"⟩
abbrev cX2_friendsOfOthers : ByteArray := prog_1_method_54_code
def yX2_friendsOfOthers : MethodName := ⟨RX2, "friendsOfOthers", "()I"⟩
abbrev cX2_mutualTwos : ByteArray := prog_1_method_55_code
def yX2_mutualTwos : MethodName := ⟨RX2, "mutualTwos", "()I"⟩
abbrev cX2_gain : ByteArray := prog_1_method_56_code
def yX2_gain : MethodName := ⟨RX2, "gain", "(IIIII)I"⟩
abbrev cX2_hasBehindSneezes : ByteArray := prog_1_method_57_code
def yX2_hasBehindSneezes : MethodName := ⟨RX2, "hasBehindSneezes", "(III)I"⟩
abbrev cX2_power : ByteArray := prog_1_method_58_code
def yX2_power : MethodName := ⟨RX2, "power", "(II)J"⟩
abbrev cX2_partOfFraction : ByteArray := prog_1_method_59_code
def yX2_partOfFraction : MethodName := ⟨RX2, "partOfFraction", "(JJI)J"⟩
abbrev cX2_greatestDivisor : ByteArray := prog_1_method_60_code
def yX2_greatestDivisor : MethodName := ⟨RX2, "greatestDivisor", "(JJ)J"⟩
abbrev cX2_kindsByRow : ByteArray := prog_1_method_61_code
def yX2_kindsByRow : MethodName := ⟨RX2, "kindsByRow", "(I)I"⟩
abbrev cX2_figuresByRow : ByteArray := prog_1_method_62_code
def yX2_figuresByRow : MethodName := ⟨RX2, "figuresByRow", "(I)I"⟩
abbrev cX2_goesAsRow : ByteArray := prog_1_method_63_code
def yX2_goesAsRow : MethodName := ⟨RX2, "goesAsRow", "(LWellOfTheSilent$Hill;I)Z"⟩
abbrev cX2_nextSeed : ByteArray := prog_1_method_64_code
def yX2_nextSeed : MethodName := ⟨RX2, "nextSeed", "(I)I"⟩
abbrev cX2_lotBelow : ByteArray := prog_1_method_65_code
def yX2_lotBelow : MethodName := ⟨RX2, "lotBelow", "(II)I"⟩
def RX3 : String := "WellOfTheSilentModel"
def TX3 : u_T := fun k => match k with
  | 0 => ("WellOfTheSilentModel", "s", "[I", true)
  | 1 => ("WellOfTheSilentModel", "m", "[I", true)
  | 2 => ("WellOfTheSilentModel", "image", "[I", true)
  | 3 => ("WellOfTheSilentModel", "was", "[I", true)
  | 4 => ("WellOfTheSilentModel", "hasImage", "Z", false)
  | 5 => ("WellOfTheSilentModel", "letters", "[I", true)
  | 6 => ("WellOfTheSilentModel", "row", "[I", true)
  | 7 => ("WellOfTheSilentModel", "refused", "[I", true)
  | 8 => ("WellOfTheSilentModel", "letterMany", "I", false)
  | 9 => ("WellOfTheSilentModel", "rowMany", "I", false)
  | 10 => ("WellOfTheSilentModel", "place", "I", false)
  | 11 => ("WellOfTheSilentModel", "numbers", "[I", true)
  | _ => ("WellOfTheSilentModel", "seed", "I", false)
def tyX3 : Nat → FieldType := fun k => match k with
  | 0 => .array .int
  | 1 => .array .int
  | 2 => .array .int
  | 3 => .array .int
  | 4 => .boolean
  | 5 => .array .int
  | 6 => .array .int
  | 7 => .array .int
  | 8 => .int
  | 9 => .int
  | 10 => .int
  | 11 => .array .int
  | _ => .int
abbrev wsX30 : List Cond := u_ws RX3 TX3 13
theorem nmX3 : ∀ a, a < 13 → ∀ b, b < 13 → a ≠ b → (TX3 a).2.1 ≠ (TX3 b).2.1 := by decide +kernel
theorem tyX3_ok : ∀ k, k < 13 → parseFieldDescriptor (TX3 k).2.2.1 = some (tyX3 k) := by decide +kernel
abbrev cX3_init : ByteArray := prog_5_method_1_code
def yX3_init : MethodName := ⟨RX3, "<init>", "()V"⟩
abbrev cX3_isIn : ByteArray := prog_5_method_2_code
def yX3_isIn : MethodName := ⟨RX3, "isIn", "(III)Z"⟩
abbrev cX3_least : ByteArray := prog_5_method_3_code
def yX3_least : MethodName := ⟨RX3, "least", "(II)I"⟩
abbrev cX3_copies : ByteArray := prog_5_method_4_code
def yX3_copies : MethodName := ⟨RX3, "copies", "([I[I)V"⟩
abbrev cX3_no : ByteArray := prog_5_method_5_code
def yX3_no : MethodName := ⟨RX3, "no", "(I)I"⟩
abbrev cX3_noWide : ByteArray := prog_5_method_6_code
def yX3_noWide : MethodName := ⟨RX3, "noWide", "(I)J"⟩
abbrev cX3_of : ByteArray := prog_5_method_7_code
def yX3_of : MethodName := ⟨RX3, "of", "(II)I"⟩
abbrev cX3_isPerson : ByteArray := prog_5_method_8_code
def yX3_isPerson : MethodName := ⟨RX3, "isPerson", "(I)Z"⟩
abbrev cX3_has : ByteArray := prog_5_method_9_code
def yX3_has : MethodName := ⟨RX3, "has", "(II)Z"⟩
abbrev cX3_bits : ByteArray := prog_5_method_10_code
def yX3_bits : MethodName := ⟨RX3, "bits", "(I)I"⟩
abbrev cX3_speaksBy : ByteArray := prog_5_method_11_code
def yX3_speaksBy : MethodName := ⟨RX3, "speaksBy", "(II)I"⟩
abbrev cX3_drinksBy : ByteArray := prog_5_method_12_code
def yX3_drinksBy : MethodName := ⟨RX3, "drinksBy", "(I)I"⟩
abbrev cX3_speaksIn : ByteArray := prog_5_method_13_code
def yX3_speaksIn : MethodName := ⟨RX3, "speaksIn", "([II)I"⟩
abbrev cX3_mayDraw : ByteArray := prog_5_method_14_code
def yX3_mayDraw : MethodName := ⟨RX3, "mayDraw", "([II)Z"⟩
abbrev cX3_draws : ByteArray := prog_5_method_15_code
def yX3_draws : MethodName := ⟨RX3, "draws", "([II)V"⟩
abbrev cX3_hour : ByteArray := prog_5_method_16_code
def yX3_hour : MethodName := ⟨RX3, "hour", "([II)V"⟩
abbrev cX3_hoursOn : ByteArray := prog_5_method_17_code
def yX3_hoursOn : MethodName := ⟨RX3, "hoursOn", "([II)V"⟩
abbrev cX3_allHave : ByteArray := prog_5_method_18_code
def yX3_allHave : MethodName := ⟨RX3, "allHave", "([I)I"⟩
abbrev cX3_flagged : ByteArray := prog_5_method_19_code
def yX3_flagged : MethodName := ⟨RX3, "flagged", "([II)I"⟩
abbrev cX3_dryOnes : ByteArray := prog_5_method_20_code
def yX3_dryOnes : MethodName := ⟨RX3, "dryOnes", "([I)I"⟩
abbrev cX3_letter : ByteArray := prog_5_method_21_code
def yX3_letter : MethodName := ⟨RX3, "letter", "(I)I"⟩
abbrev cX3_here : ByteArray := prog_5_method_22_code
def yX3_here : MethodName := ⟨RX3, "here", "()I"⟩
abbrev cX3_readsNumber : ByteArray := prog_5_method_23_code
def yX3_readsNumber : MethodName := ⟨RX3, "readsNumber", "(II)Z"⟩
abbrev cX3_kindBy : ByteArray := prog_5_method_24_code
def yX3_kindBy : MethodName := ⟨RX3, "kindBy", "(I)I"⟩
abbrev cX3_readsKind : ByteArray := prog_5_method_25_code
def yX3_readsKind : MethodName := ⟨RX3, "readsKind", "()Z"⟩
abbrev cX3_readsStatement : ByteArray := prog_5_method_26_code
def yX3_readsStatement : MethodName := ⟨RX3, "readsStatement", "()Z"⟩
abbrev cX3_addsPerson : ByteArray := prog_5_method_27_code
def yX3_addsPerson : MethodName := ⟨RX3, "addsPerson", "()Z"⟩
abbrev cX3_isDone : ByteArray := prog_5_method_28_code
def yX3_isDone : MethodName := ⟨RX3, "isDone", "(I)Z"⟩
abbrev cX3_hill : ByteArray := prog_5_method_29_code
def yX3_hill : MethodName := ⟨RX3, "hill", "()I"⟩
abbrev cX3_person : ByteArray := prog_5_method_30_code
def yX3_person : MethodName := ⟨RX3, "person", "(II)I"⟩
abbrev cX3_speaks : ByteArray := prog_5_method_31_code
def yX3_speaks : MethodName := ⟨RX3, "speaks", "(I)I"⟩
abbrev cX3_sets : ByteArray := prog_5_method_32_code
def yX3_sets : MethodName := ⟨RX3, "sets", "(II)I"⟩
abbrev cX3_befriends : ByteArray := prog_5_method_33_code
def yX3_befriends : MethodName := ⟨RX3, "befriends", "(II)I"⟩
abbrev cX3_wrongBy : ByteArray := prog_5_method_34_code
def yX3_wrongBy : MethodName := ⟨RX3, "wrongBy", "(III)I"⟩
abbrev cX3_setsOf : ByteArray := prog_5_method_35_code
def yX3_setsOf : MethodName := ⟨RX3, "setsOf", "(IIII)I"⟩
abbrev cX3_pours : ByteArray := prog_5_method_36_code
def yX3_pours : MethodName := ⟨RX3, "pours", "(II)I"⟩
abbrev cX3_cans : ByteArray := prog_5_method_37_code
def yX3_cans : MethodName := ⟨RX3, "cans", "(II)I"⟩
abbrev cX3_setsIn : ByteArray := prog_5_method_38_code
def yX3_setsIn : MethodName := ⟨RX3, "setsIn", "(III)I"⟩
abbrev cX3_water : ByteArray := prog_5_method_39_code
def yX3_water : MethodName := ⟨RX3, "water", "(I)I"⟩
abbrev cX3_flow : ByteArray := prog_5_method_40_code
def yX3_flow : MethodName := ⟨RX3, "flow", "(I)I"⟩
abbrev cX3_turn : ByteArray := prog_5_method_41_code
def yX3_turn : MethodName := ⟨RX3, "turn", "(III)I"⟩
abbrev cX3_hours : ByteArray := prog_5_method_42_code
def yX3_hours : MethodName := ⟨RX3, "hours", "(I)I"⟩
abbrev cX3_takes : ByteArray := prog_5_method_43_code
def yX3_takes : MethodName := ⟨RX3, "takes", "(I)V"⟩
abbrev cX3_hasThen : ByteArray := prog_5_method_44_code
def yX3_hasThen : MethodName := ⟨RX3, "hasThen", "(II)I"⟩
abbrev cX3_then : ByteArray := prog_5_method_45_code
def yX3_then : MethodName := ⟨RX3, "then", "(II)I"⟩
abbrev cX3_whenNothing : ByteArray := prog_5_method_46_code
def yX3_whenNothing : MethodName := ⟨RX3, "whenNothing", "(I)I"⟩
abbrev cX3_firstDry : ByteArray := prog_5_method_47_code
def yX3_firstDry : MethodName := ⟨RX3, "firstDry", "()I"⟩
abbrev cX3_dry : ByteArray := prog_5_method_48_code
def yX3_dry : MethodName := ⟨RX3, "dry", "(I)I"⟩
abbrev cX3_empty : ByteArray := prog_5_method_49_code
def yX3_empty : MethodName := ⟨RX3, "empty", "()I"⟩
abbrev cX3_isNoneDry : ByteArray := prog_5_method_50_code
def yX3_isNoneDry : MethodName := ⟨RX3, "isNoneDry", "(II)Z"⟩
abbrev cX3_flowBest : ByteArray := prog_5_method_51_code
def yX3_flowBest : MethodName := ⟨RX3, "flowBest", "(I)I"⟩
abbrev cX3_canBest : ByteArray := prog_5_method_52_code
def yX3_canBest : MethodName := ⟨RX3, "canBest", "(II)I"⟩
abbrev cX3_leastHas : ByteArray := prog_5_method_53_code
def yX3_leastHas : MethodName := ⟨RX3, "leastHas", "([I)I"⟩
abbrev cX3_friendBest : ByteArray := prog_5_method_54_code
def yX3_friendBest : MethodName := ⟨RX3, "friendBest", "(II)I"⟩
abbrev cX3_hush : ByteArray := prog_5_method_55_code
def yX3_hush : MethodName := ⟨RX3, "hush", "(I)I"⟩
abbrev cX3_fewest : ByteArray := prog_5_method_56_code
def yX3_fewest : MethodName := ⟨RX3, "fewest", "(I)I"⟩
abbrev cX3_word : ByteArray := prog_5_method_57_code
def yX3_word : MethodName := ⟨RX3, "word", "(I)I"⟩
abbrev cX3_send : ByteArray := prog_5_method_58_code
def yX3_send : MethodName := ⟨RX3, "send", "(II)I"⟩
abbrev cX3_next : ByteArray := prog_5_method_59_code
def yX3_next : MethodName := ⟨RX3, "next", "()I"⟩
abbrev cX3_extreme : ByteArray := prog_5_method_60_code
def yX3_extreme : MethodName := ⟨RX3, "extreme", "(IZ)I"⟩
abbrev cX3_richest : ByteArray := prog_5_method_61_code
def yX3_richest : MethodName := ⟨RX3, "richest", "(I)I"⟩
abbrev cX3_quiet : ByteArray := prog_5_method_62_code
def yX3_quiet : MethodName := ⟨RX3, "quiet", "(I)I"⟩
abbrev cX3_thirst : ByteArray := prog_5_method_63_code
def yX3_thirst : MethodName := ⟨RX3, "thirst", "()I"⟩
abbrev cX3_lasts : ByteArray := prog_5_method_64_code
def yX3_lasts : MethodName := ⟨RX3, "lasts", "(I)I"⟩
abbrev cX3_carries : ByteArray := prog_5_method_65_code
def yX3_carries : MethodName := ⟨RX3, "carries", "(I)I"⟩
abbrev cX3_hasBy : ByteArray := prog_5_method_66_code
def yX3_hasBy : MethodName := ⟨RX3, "hasBy", "(IIIIII)I"⟩
abbrev cX3_two : ByteArray := prog_5_method_67_code
def yX3_two : MethodName := ⟨RX3, "two", "(III)I"⟩
abbrev cX3_gcd : ByteArray := prog_5_method_68_code
def yX3_gcd : MethodName := ⟨RX3, "gcd", "(JJ)J"⟩
abbrev cX3_partOf : ByteArray := prog_5_method_69_code
def yX3_partOf : MethodName := ⟨RX3, "partOf", "(JJI)J"⟩
abbrev cX3_sneeze : ByteArray := prog_5_method_70_code
def yX3_sneeze : MethodName := ⟨RX3, "sneeze", "(IIIII)J"⟩
abbrev cX3_mean : ByteArray := prog_5_method_71_code
def yX3_mean : MethodName := ⟨RX3, "mean", "(I)J"⟩
abbrev cX3_whatIs : ByteArray := prog_5_method_72_code
def yX3_whatIs : MethodName := ⟨RX3, "whatIs", "(II)I"⟩
abbrev cX3_row : ByteArray := prog_5_method_73_code
def yX3_row : MethodName := ⟨RX3, "row", "(I)I"⟩
abbrev cX3_judge : ByteArray := prog_5_method_74_code
def yX3_judge : MethodName := ⟨RX3, "judge", "()I"⟩
abbrev cX3_clear : ByteArray := prog_5_method_75_code
def yX3_clear : MethodName := ⟨RX3, "clear", "()I"⟩
abbrev cX3_drawn : ByteArray := prog_5_method_76_code
def yX3_drawn : MethodName := ⟨RX3, "drawn", "(I)I"⟩
abbrev cX3_lots : ByteArray := prog_5_method_77_code
def yX3_lots : MethodName := ⟨RX3, "lots", "(III)I"⟩
abbrev cX3_image : ByteArray := prog_5_method_78_code
def yX3_image : MethodName := ⟨RX3, "image", "()I"⟩
abbrev cX3_on : ByteArray := prog_5_method_79_code
def yX3_on : MethodName := ⟨RX3, "on", "()I"⟩
abbrev cX3_count : ByteArray := prog_5_method_80_code
def yX3_count : MethodName := ⟨RX3, "count", "(I)I"⟩
def RJ11 : String := "java/lang/Character"
def TJ11 : u_T := fun k => match k with
  | _ => ("", "", "", false)
def tyJ11 : Nat → FieldType := fun k => match k with
  | _ => .int
abbrev wsJ110 : List Cond := u_ws RJ11 TJ11 0
theorem nmJ11 : ∀ a, a < 0 → ∀ b, b < 0 → a ≠ b → (TJ11 a).2.1 ≠ (TJ11 b).2.1 := by decide +kernel
theorem tyJ11_ok : ∀ k, k < 0 → parseFieldDescriptor (TJ11 k).2.2.1 = some (tyJ11 k) := by decide +kernel
abbrev cJ11_isValidCodePoint_9a6ad : ByteArray := prog_6_method_11_code
def yJ11_isValidCodePoint_9a6ad : MethodName := ⟨RJ11, "isValidCodePoint", "(I)Z"⟩
abbrev cJ11_highSurrogate_5068e : ByteArray := prog_6_method_28_code
def yJ11_highSurrogate_5068e : MethodName := ⟨RJ11, "highSurrogate", "(I)C"⟩
abbrev cJ11_lowSurrogate_5068e : ByteArray := prog_6_method_29_code
def yJ11_lowSurrogate_5068e : MethodName := ⟨RJ11, "lowSurrogate", "(I)C"⟩
def RJ6 : String := "java/lang/Integer"
def TJ6 : u_T := fun k => match k with
  | _ => ("", "", "", false)
def tyJ6 : Nat → FieldType := fun k => match k with
  | _ => .int
abbrev wsJ60 : List Cond := u_ws RJ6 TJ6 0
theorem nmJ6 : ∀ a, a < 0 → ∀ b, b < 0 → a ≠ b → (TJ6 a).2.1 ≠ (TJ6 b).2.1 := by decide +kernel
theorem tyJ6_ok : ∀ k, k < 0 → parseFieldDescriptor (TJ6 k).2.2.1 = some (tyJ6 k) := by decide +kernel
abbrev cJ6_bitCount_0f7a4 : ByteArray := prog_7_method_49_code
def yJ6_bitCount_0f7a4 : MethodName := ⟨RJ6, "bitCount", "(I)I"⟩
def RJ9 : String := "java/lang/Math"
def TJ9 : u_T := fun k => match k with
  | _ => ("", "", "", false)
def tyJ9 : Nat → FieldType := fun k => match k with
  | _ => .int
abbrev wsJ90 : List Cond := u_ws RJ9 TJ9 0
theorem nmJ9 : ∀ a, a < 0 → ∀ b, b < 0 → a ≠ b → (TJ9 a).2.1 ≠ (TJ9 b).2.1 := by decide +kernel
theorem tyJ9_ok : ∀ k, k < 0 → parseFieldDescriptor (TJ9 k).2.2.1 = some (tyJ9 k) := by decide +kernel
abbrev cJ9_max_7cf53 : ByteArray := prog_8_method_65_code
def yJ9_max_7cf53 : MethodName := ⟨RJ9, "max", "(II)I"⟩
abbrev cJ9_min_7cf53 : ByteArray := prog_8_method_69_code
def yJ9_min_7cf53 : MethodName := ⟨RJ9, "min", "(II)I"⟩
def RJ0 : String := "java/lang/String"
def TJ0 : u_T := fun k => match k with
  | _ => ("", "", "", false)
def tyJ0 : Nat → FieldType := fun k => match k with
  | _ => .int
abbrev wsJ00 : List Cond := u_ws RJ0 TJ0 0
theorem nmJ0 : ∀ a, a < 0 → ∀ b, b < 0 → a ≠ b → (TJ0 a).2.1 ≠ (TJ0 b).2.1 := by decide +kernel
theorem tyJ0_ok : ∀ k, k < 0 → parseFieldDescriptor (TJ0 k).2.2.1 = some (tyJ0 k) := by decide +kernel
abbrev cJ0_length_8abf5 : ByteArray := prog_9_method_54_code
def yJ0_length_8abf5 : MethodName := ⟨RJ0, "length", "()I"⟩
abbrev cJ0_isEmpty_aae02 : ByteArray := prog_9_method_55_code
def yJ0_isEmpty_aae02 : MethodName := ⟨RJ0, "isEmpty", "()Z"⟩
abbrev cJ0_charAt_5068e : ByteArray := prog_9_method_56_code
def yJ0_charAt_5068e : MethodName := ⟨RJ0, "charAt", "(I)C"⟩
abbrev cJ0_indexOf_0f7a4 : ByteArray := prog_9_method_79_code
def yJ0_indexOf_0f7a4 : MethodName := ⟨RJ0, "indexOf", "(I)I"⟩
abbrev cJ0_indexOf_7cf53 : ByteArray := prog_9_method_80_code
def yJ0_indexOf_7cf53 : MethodName := ⟨RJ0, "indexOf", "(II)I"⟩
abbrev cJ0_coder_7d493 : ByteArray := prog_9_method_152_code
def yJ0_coder_7d493 : MethodName := ⟨RJ0, "coder", "()B"⟩
abbrev cJ0_isLatin1_aae02 : ByteArray := prog_9_method_154_code
def yJ0_isLatin1_aae02 : MethodName := ⟨RJ0, "isLatin1", "()Z"⟩
abbrev cJ0_checkIndex_df160 : ByteArray := prog_9_method_155_code
def yJ0_checkIndex_df160 : MethodName := ⟨RJ0, "checkIndex", "(II)V"⟩
abbrev cJ0_checkBoundsBeginEnd_23922 : ByteArray := prog_9_method_158_code
def yJ0_checkBoundsBeginEnd_23922 : MethodName := ⟨RJ0, "checkBoundsBeginEnd", "(III)V"⟩
def RJ1 : String := "java/lang/StringLatin1"
def TJ1 : u_T := fun k => match k with
  | _ => ("", "", "", false)
def tyJ1 : Nat → FieldType := fun k => match k with
  | _ => .int
abbrev wsJ10 : List Cond := u_ws RJ1 TJ1 0
theorem nmJ1 : ∀ a, a < 0 → ∀ b, b < 0 → a ≠ b → (TJ1 a).2.1 ≠ (TJ1 b).2.1 := by decide +kernel
theorem tyJ1_ok : ∀ k, k < 0 → parseFieldDescriptor (TJ1 k).2.2.1 = some (tyJ1 k) := by decide +kernel
abbrev cJ1_charAt_3b067 : ByteArray := prog_10_method_2_code
def yJ1_charAt_3b067 : MethodName := ⟨RJ1, "charAt", "([BI)C"⟩
abbrev cJ1_canEncode_9a6ad : ByteArray := prog_10_method_4_code
def yJ1_canEncode_9a6ad : MethodName := ⟨RJ1, "canEncode", "(I)Z"⟩
abbrev cJ1_indexOf_4cfef : ByteArray := prog_10_method_22_code
def yJ1_indexOf_4cfef : MethodName := ⟨RJ1, "indexOf", "([BIII)I"⟩
abbrev cJ1_indexOfChar_4cfef : ByteArray := prog_10_method_23_code
def yJ1_indexOfChar_4cfef : MethodName := ⟨RJ1, "indexOfChar", "([BIII)I"⟩
def RJ2 : String := "java/lang/StringUTF16"
def TJ2 : u_T := fun k => match k with
  | _ => ("", "", "", false)
def tyJ2 : Nat → FieldType := fun k => match k with
  | _ => .int
abbrev wsJ20 : List Cond := u_ws RJ2 TJ2 0
theorem nmJ2 : ∀ a, a < 0 → ∀ b, b < 0 → a ≠ b → (TJ2 a).2.1 ≠ (TJ2 b).2.1 := by decide +kernel
theorem tyJ2_ok : ∀ k, k < 0 → parseFieldDescriptor (TJ2 k).2.2.1 = some (tyJ2 k) := by decide +kernel
abbrev cJ2_getChar_3b067 : ByteArray := prog_11_method_5_code
def yJ2_getChar_3b067 : MethodName := ⟨RJ2, "getChar", "([BI)C"⟩
abbrev cJ2_length_9d52b : ByteArray := prog_11_method_6_code
def yJ2_length_9d52b : MethodName := ⟨RJ2, "length", "([B)I"⟩
abbrev cJ2_indexOf_4cfef : ByteArray := prog_11_method_40_code
def yJ2_indexOf_4cfef : MethodName := ⟨RJ2, "indexOf", "([BIII)I"⟩
abbrev cJ2_indexOfChar_4cfef : ByteArray := prog_11_method_47_code
def yJ2_indexOfChar_4cfef : MethodName := ⟨RJ2, "indexOfChar", "([BIII)I"⟩
abbrev cJ2_indexOfCharUnsafe_4cfef : ByteArray := prog_11_method_48_code
def yJ2_indexOfCharUnsafe_4cfef : MethodName := ⟨RJ2, "indexOfCharUnsafe", "([BIII)I"⟩
abbrev cJ2_indexOfSupplementary_4cfef : ByteArray := prog_11_method_49_code
def yJ2_indexOfSupplementary_4cfef : MethodName := ⟨RJ2, "indexOfSupplementary", "([BIII)I"⟩
abbrev cJ2_charAt_3b067 : ByteArray := prog_11_method_83_code
def yJ2_charAt_3b067 : MethodName := ⟨RJ2, "charAt", "([BI)C"⟩
abbrev cJ2_checkIndex_2214a : ByteArray := prog_11_method_91_code
def yJ2_checkIndex_2214a : MethodName := ⟨RJ2, "checkIndex", "(I[B)V"⟩
abbrev cJ2_checkBoundsBeginEnd_d044e : ByteArray := prog_11_method_93_code
def yJ2_checkBoundsBeginEnd_d044e : MethodName := ⟨RJ2, "checkBoundsBeginEnd", "(II[B)V"⟩
def RJ3 : String := "jdk/internal/util/Preconditions"
def TJ3 : u_T := fun k => match k with
  | _ => ("", "", "", false)
def tyJ3 : Nat → FieldType := fun k => match k with
  | _ => .int
abbrev wsJ30 : List Cond := u_ws RJ3 TJ3 0
theorem nmJ3 : ∀ a, a < 0 → ∀ b, b < 0 → a ≠ b → (TJ3 a).2.1 ≠ (TJ3 b).2.1 := by decide +kernel
theorem tyJ3_ok : ∀ k, k < 0 → parseFieldDescriptor (TJ3 k).2.2.1 = some (tyJ3 k) := by decide +kernel
abbrev cJ3_checkIndex_8e157 : ByteArray := prog_12_method_11_code
def yJ3_checkIndex_8e157 : MethodName := ⟨RJ3, "checkIndex", "(IILjava/util/function/BiFunction;)I"⟩
abbrev cJ3_checkFromToIndex_8c36e : ByteArray := prog_12_method_12_code
def yJ3_checkFromToIndex_8c36e : MethodName := ⟨RJ3, "checkFromToIndex", "(IIILjava/util/function/BiFunction;)I"⟩
def RL : String := "WellOfTheSilentLaw"
abbrev cL_law : ByteArray := code
def yL_law : MethodName := ⟨RL, "law", "([I)Z"⟩
abbrev vwCl : List vw_C := [(RX0, TX0, 12), (RX1, TX1, 2), (RX2, TX2, 8), (RX3, TX3, 13)]
/-! the tables' good words, and each by its place -/
def xAL : List Cond := lw_tbl.filter goodWord
theorem xAL_of {w : Cond} (h : w ∈ lw_tbl) (g : goodWord w = true) : w ∈ xAL := List.mem_filter.mpr ⟨h, g⟩
theorem xAL_good : GoodIn xAL xAL := fun w h => ⟨h, good_of_word (List.mem_filter.mp h).2⟩
theorem xAL_in : ∀ w ∈ xAL, w ∈ lw_tbl := fun w h => (List.mem_filter.mp h).1
theorem xAL_1 {w : Cond} (i : Nat) (h : tables_1_1[i]? = some w) (g : goodWord w = true) : w ∈ xAL := xAL_of (List.mem_append_right _ (List.mem_append_left _ (List.mem_of_getElem? h))) g
theorem xAL_2 {w : Cond} (i : Nat) (h : tables_1_2[i]? = some w) (g : goodWord w = true) : w ∈ xAL := xAL_of (List.mem_append_right _ (List.mem_append_right _ (List.mem_append_left _ (List.mem_of_getElem? h)))) g
theorem xAL_3 {w : Cond} (i : Nat) (h : tables_1_3[i]? = some w) (g : goodWord w = true) : w ∈ xAL := xAL_of (List.mem_append_right _ (List.mem_append_right _ (List.mem_append_right _ (List.mem_append_left _ (List.mem_of_getElem? h))))) g
theorem xAL_4 {w : Cond} (i : Nat) (h : tables_1_4[i]? = some w) (g : goodWord w = true) : w ∈ xAL := xAL_of (List.mem_append_right _ (List.mem_append_right _ (List.mem_append_right _ (List.mem_append_right _ (List.mem_append_left _ (List.mem_of_getElem? h)))))) g
theorem xAL_5 {w : Cond} (i : Nat) (h : tables_1_5[i]? = some w) (g : goodWord w = true) : w ∈ xAL := xAL_of (List.mem_append_right _ (List.mem_append_right _ (List.mem_append_right _ (List.mem_append_right _ (List.mem_append_right _ (List.mem_of_getElem? h)))))) g
theorem xTB_1 {w : Cond} (i : Nat) (h : tables_1_1[i]? = some w) : w ∈ lw_tbl := List.mem_append_right _ (List.mem_append_left _ (List.mem_of_getElem? h))
theorem xTB_2 {w : Cond} (i : Nat) (h : tables_1_2[i]? = some w) : w ∈ lw_tbl := List.mem_append_right _ (List.mem_append_right _ (List.mem_append_left _ (List.mem_of_getElem? h)))
theorem xAL_p1 {q : MethodName × Nat} (i : Nat) (h : lw_privs_1[i]? = some q) : Cond.selects q.1.cls q.1 q.1 ∈ xAL := xAL_of (List.mem_append_left _ (List.mem_map.mpr ⟨q, List.mem_append_left _ (List.mem_of_getElem? h), rfl⟩)) rfl
theorem xAL_p2 {q : MethodName × Nat} (i : Nat) (h : lw_privs_2[i]? = some q) : Cond.selects q.1.cls q.1 q.1 ∈ xAL := xAL_of (List.mem_append_left _ (List.mem_map.mpr ⟨q, List.mem_append_right _ (List.mem_append_left _ (List.mem_of_getElem? h)), rfl⟩)) rfl
theorem xAL_p3 {q : MethodName × Nat} (i : Nat) (h : lw_privs_3[i]? = some q) : Cond.selects q.1.cls q.1 q.1 ∈ xAL := xAL_of (List.mem_append_left _ (List.mem_map.mpr ⟨q, List.mem_append_right _ (List.mem_append_right _ (List.mem_of_getElem? h)), rfl⟩)) rfl
theorem kin_L : Cond.initialized RL ∈ xAL := xAL_1 0 rfl rfl
theorem kin_X2 : Cond.initialized RX2 ∈ xAL := xAL_1 1 rfl rfl
theorem kin_X0 : Cond.initialized RX0 ∈ xAL := xAL_1 2 rfl rfl
theorem kin_X1 : Cond.initialized RX1 ∈ xAL := xAL_1 3 rfl rfl
theorem kin_X3 : Cond.initialized RX3 ∈ xAL := xAL_1 4 rfl rfl
theorem kin_J0 : Cond.initialized RJ0 ∈ xAL := xAL_1 5 rfl rfl
theorem kin_J1 : Cond.initialized RJ1 ∈ xAL := xAL_1 6 rfl rfl
theorem kin_J3 : Cond.initialized RJ3 ∈ xAL := xAL_1 7 rfl rfl
theorem kin_J2 : Cond.initialized RJ2 ∈ xAL := xAL_1 8 rfl rfl
theorem kin_J9 : Cond.initialized RJ9 ∈ xAL := xAL_1 9 rfl rfl
theorem kin_J11 : Cond.initialized RJ11 ∈ xAL := xAL_1 10 rfl rfl
theorem kin_J6 : Cond.initialized RJ6 ∈ xAL := xAL_1 11 rfl rfl
theorem kcl_L_7 : Cond.classLink RL 7 RX2 ∈ xAL := xAL_1 12 rfl rfl
theorem kit_X2 : Cond.instantiable RX2 8 ∈ xAL := xAL_1 13 rfl rfl
theorem km_L_9 : Cond.methodLink RL 9 yX2_init ∈ xAL := xAL_1 14 rfl rfl
theorem ki_X2_init : Cond.instanceMethod yX2_init ∈ xAL := xAL_1 15 rfl rfl
theorem kc_X2_init : Cond.code yX2_init cX2_init 1 none ∈ xAL := xAL_1 16 rfl rfl
theorem km_X2_1 : Cond.methodLink RX2 1 objectInit ∈ xAL := xAL_1 17 rfl rfl
theorem ki_O_init : Cond.instanceMethod objectInit ∈ xAL := xAL_1 18 rfl rfl
theorem kcl_X2_7 : Cond.classLink RX2 7 RX0 ∈ xAL := xAL_1 20 rfl rfl
theorem kit_X0 : Cond.instantiable RX0 12 ∈ xAL := xAL_1 21 rfl rfl
theorem kmn_X2_9 : Cond.methodLinkNest RX2 9 yX0_init RX2 ∈ lw_tbl := xTB_1 22 rfl
theorem ki_X0_init : Cond.instanceMethod yX0_init ∈ xAL := xAL_1 23 rfl rfl
theorem kc_X0_init : Cond.code yX0_init cX0_init 1 none ∈ xAL := xAL_1 24 rfl rfl
theorem km_X0_3 : Cond.methodLink RX0 3 objectInit ∈ xAL := xAL_1 25 rfl rfl
theorem kf_X0_9 : Cond.fieldLink RX0 9 "WellOfTheSilent$Hill" "kinds" "[I" ∈ xAL := xAL_1 26 rfl rfl
theorem kf_X2_84 : Cond.fieldLink RX2 84 "WellOfTheSilent$Hill" "kinds" "[I" ∈ xAL := xAL_1 27 rfl rfl
theorem kf_X0_15 : Cond.fieldLink RX0 15 "WellOfTheSilent$Hill" "figures" "[I" ∈ xAL := xAL_1 28 rfl rfl
theorem kf_X2_87 : Cond.fieldLink RX2 87 "WellOfTheSilent$Hill" "figures" "[I" ∈ xAL := xAL_1 29 rfl rfl
theorem kf_X0_18 : Cond.fieldLink RX0 18 "WellOfTheSilent$Hill" "cans" "[I" ∈ xAL := xAL_1 30 rfl rfl
theorem kf_X2_90 : Cond.fieldLink RX2 90 "WellOfTheSilent$Hill" "cans" "[I" ∈ xAL := xAL_1 31 rfl rfl
theorem kf_X0_21 : Cond.fieldLink RX0 21 "WellOfTheSilent$Hill" "has" "[I" ∈ xAL := xAL_1 32 rfl rfl
theorem kf_X2_93 : Cond.fieldLink RX2 93 "WellOfTheSilent$Hill" "has" "[I" ∈ xAL := xAL_1 33 rfl rfl
theorem kf_X0_24 : Cond.fieldLink RX0 24 "WellOfTheSilent$Hill" "friends" "[I" ∈ xAL := xAL_1 34 rfl rfl
theorem kf_X2_102 : Cond.fieldLink RX2 102 "WellOfTheSilent$Hill" "friends" "[I" ∈ xAL := xAL_1 35 rfl rfl
theorem kf_X0_27 : Cond.fieldLink RX0 27 "WellOfTheSilent$Hill" "size" "I" ∈ xAL := xAL_1 36 rfl rfl
theorem kf_X2_171 : Cond.fieldLink RX2 171 "WellOfTheSilent$Hill" "size" "I" ∈ xAL := xAL_1 37 rfl rfl
theorem kf_X0_31 : Cond.fieldLink RX0 31 "WellOfTheSilent$Hill" "water" "I" ∈ xAL := xAL_1 38 rfl rfl
theorem kf_X2_129 : Cond.fieldLink RX2 129 "WellOfTheSilent$Hill" "water" "I" ∈ xAL := xAL_1 39 rfl rfl
theorem kf_X0_34 : Cond.fieldLink RX0 34 "WellOfTheSilent$Hill" "flow" "I" ∈ xAL := xAL_1 40 rfl rfl
theorem kf_X2_132 : Cond.fieldLink RX2 132 "WellOfTheSilent$Hill" "flow" "I" ∈ xAL := xAL_1 41 rfl rfl
theorem kf_X0_37 : Cond.fieldLink RX0 37 "WellOfTheSilent$Hill" "hour" "I" ∈ xAL := xAL_1 42 rfl rfl
theorem kf_X2_235 : Cond.fieldLink RX2 235 "WellOfTheSilent$Hill" "hour" "I" ∈ xAL := xAL_1 43 rfl rfl
theorem kf_X0_40 : Cond.fieldLink RX0 40 "WellOfTheSilent$Hill" "spoken" "I" ∈ xAL := xAL_1 44 rfl rfl
theorem kf_X2_114 : Cond.fieldLink RX2 114 "WellOfTheSilent$Hill" "spoken" "I" ∈ xAL := xAL_1 45 rfl rfl
theorem kf_X0_43 : Cond.fieldLink RX0 43 "WellOfTheSilent$Hill" "drew" "I" ∈ xAL := xAL_1 46 rfl rfl
theorem kf_X2_150 : Cond.fieldLink RX2 150 "WellOfTheSilent$Hill" "drew" "I" ∈ xAL := xAL_1 47 rfl rfl
theorem kf_X0_46 : Cond.fieldLink RX0 46 "WellOfTheSilent$Hill" "hushed" "I" ∈ xAL := xAL_1 48 rfl rfl
theorem kf_X2_172 : Cond.fieldLink RX2 172 "WellOfTheSilent$Hill" "hushed" "I" ∈ xAL := xAL_1 49 rfl rfl
theorem kar_int : Cond.arrayClass .int ∈ xAL := xAL_1 75 rfl rfl
theorem kcl_X2_22 : Cond.classLink RX2 22 RX1 ∈ xAL := xAL_1 76 rfl rfl
theorem kit_X1 : Cond.instantiable RX1 2 ∈ xAL := xAL_1 77 rfl rfl
theorem kmn_X2_24 : Cond.methodLinkNest RX2 24 yX1_init RX2 ∈ lw_tbl := xTB_1 78 rfl
theorem ki_X1_init : Cond.instanceMethod yX1_init ∈ xAL := xAL_1 79 rfl rfl
theorem kc_X1_init : Cond.code yX1_init cX1_init 1 none ∈ xAL := xAL_1 80 rfl rfl
theorem km_X1_3 : Cond.methodLink RX1 3 objectInit ∈ xAL := xAL_1 81 rfl rfl
theorem kf_X1_9 : Cond.fieldLink RX1 9 "WellOfTheSilent$Telling" "letters" "[I" ∈ xAL := xAL_1 82 rfl rfl
theorem kf_X1_15 : Cond.fieldLink RX1 15 "WellOfTheSilent$Telling" "size" "I" ∈ xAL := xAL_1 83 rfl rfl
theorem kf_X2_56 : Cond.fieldLink RX2 56 "WellOfTheSilent$Telling" "size" "I" ∈ xAL := xAL_1 84 rfl rfl
theorem kf_X2_10 : Cond.fieldLink RX2 10 "WellOfTheSilent" "now" "LWellOfTheSilent$Hill;" ∈ xAL := xAL_1 90 rfl rfl
theorem kf_X2_16 : Cond.fieldLink RX2 16 "WellOfTheSilent" "thought" "LWellOfTheSilent$Hill;" ∈ xAL := xAL_1 91 rfl rfl
theorem kf_X2_19 : Cond.fieldLink RX2 19 "WellOfTheSilent" "kept" "LWellOfTheSilent$Hill;" ∈ xAL := xAL_1 92 rfl rfl
theorem kf_X2_25 : Cond.fieldLink RX2 25 "WellOfTheSilent" "telling" "LWellOfTheSilent$Telling;" ∈ xAL := xAL_1 93 rfl rfl
theorem kf_X2_29 : Cond.fieldLink RX2 29 "WellOfTheSilent" "rowNumbers" "[I" ∈ xAL := xAL_1 94 rfl rfl
theorem kf_X2_33 : Cond.fieldLink RX2 33 "WellOfTheSilent" "refusals" "[I" ∈ xAL := xAL_1 95 rfl rfl
theorem kf_X2_36 : Cond.fieldLink RX2 36 "WellOfTheSilent" "rowSize" "I" ∈ xAL := xAL_1 96 rfl rfl
theorem kf_X2_40 : Cond.fieldLink RX2 40 "WellOfTheSilent" "isKept" "Z" ∈ xAL := xAL_1 97 rfl rfl
theorem km_L_13 : Cond.methodLink RL 13 yX2_letter ∈ xAL := xAL_1 115 rfl rfl
theorem ki_X2_letter : Cond.instanceMethod yX2_letter ∈ xAL := xAL_1 116 rfl rfl
theorem kse_X2_letter : Cond.selects RX2 yX2_letter yX2_letter ∈ xAL := xAL_1 117 rfl rfl
theorem kc_X2_letter : Cond.code yX2_letter cX2_letter 3 (some .int) ∈ xAL := xAL_1 118 rfl rfl
theorem km_X2_44 : Cond.methodLink RX2 44 yX2_rangeRefusal ∈ xAL := xAL_1 119 rfl rfl
theorem kst_X2_rangeRefusal : Cond.static yX2_rangeRefusal ∈ xAL := xAL_1 120 rfl rfl
theorem kc_X2_rangeRefusal : Cond.code yX2_rangeRefusal cX2_rangeRefusal 3 (some .int) ∈ xAL := xAL_1 121 rfl rfl
theorem km_X2_48 : Cond.methodLink RX2 48 yX1_add ∈ xAL := xAL_1 122 rfl rfl
theorem ki_X1_add : Cond.instanceMethod yX1_add ∈ xAL := xAL_1 123 rfl rfl
theorem kse_X1_add : Cond.selects RX1 yX1_add yX1_add ∈ xAL := xAL_1 124 rfl rfl
theorem kc_X1_add : Cond.code yX1_add cX1_add 2 (some .boolean) ∈ xAL := xAL_1 125 rfl rfl
theorem km_X2_52 : Cond.methodLink RX2 52 yX2_refused ∈ xAL := xAL_1 126 rfl rfl
theorem ki_X2_refused : Cond.instanceMethod yX2_refused ∈ xAL := xAL_1 128 rfl rfl
theorem kc_X2_refused : Cond.code yX2_refused cX2_refused 2 (some .int) ∈ xAL := xAL_1 129 rfl rfl
theorem km_L_18 : Cond.methodLink RL 18 yX2_hill ∈ xAL := xAL_1 130 rfl rfl
theorem ki_X2_hill : Cond.instanceMethod yX2_hill ∈ xAL := xAL_1 131 rfl rfl
theorem kse_X2_hill : Cond.selects RX2 yX2_hill yX2_hill ∈ xAL := xAL_1 132 rfl rfl
theorem kc_X2_hill : Cond.code yX2_hill cX2_hill 5 (some .int) ∈ xAL := xAL_1 133 rfl rfl
theorem km_X2_59 : Cond.methodLink RX2 59 yX1_firstWrongLetter ∈ xAL := xAL_1 134 rfl rfl
theorem ki_X1_firstWrongLetter : Cond.instanceMethod yX1_firstWrongLetter ∈ xAL := xAL_1 135 rfl rfl
theorem kse_X1_firstWrongLetter : Cond.selects RX1 yX1_firstWrongLetter yX1_firstWrongLetter ∈ xAL := xAL_1 136 rfl rfl
theorem kc_X1_firstWrongLetter : Cond.code yX1_firstWrongLetter cX1_firstWrongLetter 4 (some .int) ∈ xAL := xAL_1 137 rfl rfl
theorem km_X1_19 : Cond.methodLink RX1 19 yX1_letterAt ∈ xAL := xAL_1 138 rfl rfl
theorem ki_X1_letterAt : Cond.instanceMethod yX1_letterAt ∈ xAL := xAL_1 140 rfl rfl
theorem kc_X1_letterAt : Cond.code yX1_letterAt cX1_letterAt 2 (some .int) ∈ xAL := xAL_1 141 rfl rfl
theorem km_X1_23 : Cond.methodLink RX1 23 yX1_shapeBehind ∈ xAL := xAL_1 142 rfl rfl
theorem kst_X1_shapeBehind : Cond.static yX1_shapeBehind ∈ xAL := xAL_1 143 rfl rfl
theorem kc_X1_shapeBehind : Cond.code yX1_shapeBehind cX1_shapeBehind 1 (some (.object "java/lang/String")) ∈ xAL := xAL_1 144 rfl rfl
theorem ksr_X1_52 : Cond.stringRef RX1 52 "kdd;" ∈ lw_tbl := xTB_1 145 rfl
theorem ksr_X1_54 : Cond.stringRef RX1 54 "dd;" ∈ lw_tbl := xTB_1 146 rfl
theorem ksr_X1_56 : Cond.stringRef RX1 56 "ddd;" ∈ lw_tbl := xTB_1 147 rfl
theorem ksr_X1_58 : Cond.stringRef RX1 58 "d;" ∈ lw_tbl := xTB_1 148 rfl
theorem ksr_X1_60 : Cond.stringRef RX1 60 "" ∈ lw_tbl := xTB_1 149 rfl
theorem km_X1_27 : Cond.methodLink RX1 27 yJ0_isEmpty_aae02 ∈ xAL := xAL_1 150 rfl rfl
theorem ki_J0_isEmpty_aae02 : Cond.instanceMethod yJ0_isEmpty_aae02 ∈ xAL := xAL_1 151 rfl rfl
theorem kse_J0_isEmpty_aae02 : Cond.selects RJ0 yJ0_isEmpty_aae02 yJ0_isEmpty_aae02 ∈ xAL := xAL_1 152 rfl rfl
theorem kc_J0_isEmpty_aae02 : Cond.code yJ0_isEmpty_aae02 cJ0_isEmpty_aae02 1 (some .boolean) ∈ xAL := xAL_1 153 rfl rfl
theorem km_X1_33 : Cond.methodLink RX1 33 yJ0_length_8abf5 ∈ xAL := xAL_1 154 rfl rfl
theorem ki_J0_length_8abf5 : Cond.instanceMethod yJ0_length_8abf5 ∈ xAL := xAL_1 155 rfl rfl
theorem kse_J0_length_8abf5 : Cond.selects RJ0 yJ0_length_8abf5 yJ0_length_8abf5 ∈ xAL := xAL_1 156 rfl rfl
theorem kc_J0_length_8abf5 : Cond.code yJ0_length_8abf5 cJ0_length_8abf5 1 (some .int) ∈ xAL := xAL_1 157 rfl rfl
theorem km_J0_335 : Cond.methodLink RJ0 335 yJ0_coder_7d493 ∈ xAL := xAL_1 158 rfl rfl
theorem ki_J0_coder_7d493 : Cond.instanceMethod yJ0_coder_7d493 ∈ xAL := xAL_1 159 rfl rfl
theorem kse_J0_coder_7d493 : Cond.selects RJ0 yJ0_coder_7d493 yJ0_coder_7d493 ∈ xAL := xAL_1 160 rfl rfl
theorem kc_J0_coder_7d493 : Cond.code yJ0_coder_7d493 cJ0_coder_7d493 1 (some .byte) ∈ xAL := xAL_1 161 rfl rfl
theorem kf_J0_38 : Cond.fieldLink RJ0 38 "java/lang/String" "COMPACT_STRINGS" "Z" ∈ xAL := xAL_1 162 rfl rfl
theorem kls_J0_COMPACT_STRINGSS_ : Cond.laysStatic RJ0 "COMPACT_STRINGS" "Z" ∈ lw_tbl := xTB_1 163 rfl
theorem km_X1_37 : Cond.methodLink RX1 37 yJ0_charAt_5068e ∈ xAL := xAL_1 164 rfl rfl
theorem ki_J0_charAt_5068e : Cond.instanceMethod yJ0_charAt_5068e ∈ xAL := xAL_1 165 rfl rfl
theorem kse_J0_charAt_5068e : Cond.selects RJ0 yJ0_charAt_5068e yJ0_charAt_5068e ∈ xAL := xAL_1 166 rfl rfl
theorem kc_J0_charAt_5068e : Cond.code yJ0_charAt_5068e cJ0_charAt_5068e 2 (some .char) ∈ xAL := xAL_1 167 rfl rfl
theorem km_J0_492 : Cond.methodLink RJ0 492 yJ0_isLatin1_aae02 ∈ xAL := xAL_1 168 rfl rfl
theorem ki_J0_isLatin1_aae02 : Cond.instanceMethod yJ0_isLatin1_aae02 ∈ xAL := xAL_1 169 rfl rfl
theorem kse_J0_isLatin1_aae02 : Cond.selects RJ0 yJ0_isLatin1_aae02 yJ0_isLatin1_aae02 ∈ xAL := xAL_1 170 rfl rfl
theorem kc_J0_isLatin1_aae02 : Cond.code yJ0_isLatin1_aae02 cJ0_isLatin1_aae02 1 (some .boolean) ∈ xAL := xAL_1 171 rfl rfl
theorem km_J0_495 : Cond.methodLink RJ0 495 yJ1_charAt_3b067 ∈ xAL := xAL_1 172 rfl rfl
theorem kst_J1_charAt_3b067 : Cond.static yJ1_charAt_3b067 ∈ xAL := xAL_1 173 rfl rfl
theorem kc_J1_charAt_3b067 : Cond.code yJ1_charAt_3b067 cJ1_charAt_3b067 2 (some .char) ∈ xAL := xAL_1 174 rfl rfl
theorem km_J1_9 : Cond.methodLink RJ1 9 yJ0_checkIndex_df160 ∈ xAL := xAL_1 175 rfl rfl
theorem kst_J0_checkIndex_df160 : Cond.static yJ0_checkIndex_df160 ∈ xAL := xAL_1 176 rfl rfl
theorem kc_J0_checkIndex_df160 : Cond.code yJ0_checkIndex_df160 cJ0_checkIndex_df160 2 none ∈ xAL := xAL_1 177 rfl rfl
theorem kf_J0_1053 : Cond.fieldLink RJ0 1053 "jdk/internal/util/Preconditions" "SIOOBE_FORMATTER" "Ljava/util/function/BiFunction;" ∈ xAL := xAL_1 178 rfl rfl
theorem kls_J3_SIOOBE_FORMATTERS_ : Cond.laysStatic RJ3 "SIOOBE_FORMATTER" "Ljava/util/function/BiFunction;" ∈ lw_tbl := xTB_1 179 rfl
theorem km_J0_1059 : Cond.methodLink RJ0 1059 yJ3_checkIndex_8e157 ∈ xAL := xAL_1 180 rfl rfl
theorem kst_J3_checkIndex_8e157 : Cond.static yJ3_checkIndex_8e157 ∈ xAL := xAL_1 181 rfl rfl
theorem kc_J3_checkIndex_8e157 : Cond.code yJ3_checkIndex_8e157 cJ3_checkIndex_8e157 3 (some .int) ∈ xAL := xAL_1 182 rfl rfl
theorem km_J0_498 : Cond.methodLink RJ0 498 yJ2_charAt_3b067 ∈ xAL := xAL_1 183 rfl rfl
theorem kst_J2_charAt_3b067 : Cond.static yJ2_charAt_3b067 ∈ xAL := xAL_1 184 rfl rfl
theorem kc_J2_charAt_3b067 : Cond.code yJ2_charAt_3b067 cJ2_charAt_3b067 2 (some .char) ∈ xAL := xAL_1 185 rfl rfl
theorem km_J2_67 : Cond.methodLink RJ2 67 yJ2_checkIndex_2214a ∈ xAL := xAL_1 186 rfl rfl
theorem kst_J2_checkIndex_2214a : Cond.static yJ2_checkIndex_2214a ∈ xAL := xAL_1 187 rfl rfl
theorem kc_J2_checkIndex_2214a : Cond.code yJ2_checkIndex_2214a cJ2_checkIndex_2214a 2 none ∈ xAL := xAL_1 188 rfl rfl
theorem km_J2_48 : Cond.methodLink RJ2 48 yJ2_length_9d52b ∈ xAL := xAL_1 189 rfl rfl
theorem kst_J2_length_9d52b : Cond.static yJ2_length_9d52b ∈ xAL := xAL_1 190 rfl rfl
theorem kc_J2_length_9d52b : Cond.code yJ2_length_9d52b cJ2_length_9d52b 1 (some .int) ∈ xAL := xAL_1 191 rfl rfl
theorem km_J2_414 : Cond.methodLink RJ2 414 yJ0_checkIndex_df160 ∈ xAL := xAL_1 192 rfl rfl
theorem km_J2_71 : Cond.methodLink RJ2 71 yJ2_getChar_3b067 ∈ xAL := xAL_1 193 rfl rfl
theorem kst_J2_getChar_3b067 : Cond.static yJ2_getChar_3b067 ∈ xAL := xAL_1 194 rfl rfl
theorem kc_J2_getChar_3b067 : Cond.code yJ2_getChar_3b067 cJ2_getChar_3b067 2 (some .char) ∈ xAL := xAL_1 195 rfl rfl
theorem kf_J2_44 : Cond.fieldLink RJ2 44 "java/lang/StringUTF16" "$assertionsDisabled" "Z" ∈ xAL := xAL_1 196 rfl rfl
theorem kls_J2_S_assertionsDisabledS_ : Cond.laysStatic RJ2 "$assertionsDisabled" "Z" ∈ lw_tbl := xTB_1 197 rfl
theorem kf_J2_59 : Cond.fieldLink RJ2 59 "java/lang/StringUTF16" "HI_BYTE_SHIFT" "I" ∈ xAL := xAL_1 198 rfl rfl
theorem kls_J2_HI_BYTE_SHIFTS_ : Cond.laysStatic RJ2 "HI_BYTE_SHIFT" "I" ∈ lw_tbl := xTB_1 199 rfl
theorem kf_J2_63 : Cond.fieldLink RJ2 63 "java/lang/StringUTF16" "LO_BYTE_SHIFT" "I" ∈ xAL := xAL_1 200 rfl rfl
theorem kls_J2_LO_BYTE_SHIFTS_ : Cond.laysStatic RJ2 "LO_BYTE_SHIFT" "I" ∈ lw_tbl := xTB_1 201 rfl
theorem km_X1_41 : Cond.methodLink RX1 41 yX1_fits ∈ xAL := xAL_1 202 rfl rfl
theorem kst_X1_fits : Cond.static yX1_fits ∈ xAL := xAL_1 203 rfl rfl
theorem kc_X1_fits : Cond.code yX1_fits cX1_fits 2 (some .boolean) ∈ xAL := xAL_1 204 rfl rfl
theorem km_X1_62 : Cond.methodLink RX1 62 yX1_kindOf ∈ xAL := xAL_1 205 rfl rfl
theorem kst_X1_kindOf : Cond.static yX1_kindOf ∈ xAL := xAL_1 206 rfl rfl
theorem kc_X1_kindOf : Cond.code yX1_kindOf cX1_kindOf 1 (some .int) ∈ xAL := xAL_1 207 rfl rfl
theorem ksr_X1_65 : Cond.stringRef RX1 65 "pwsmtl" ∈ lw_tbl := xTB_1 208 rfl
theorem km_X1_67 : Cond.methodLink RX1 67 yJ0_indexOf_0f7a4 ∈ xAL := xAL_1 209 rfl rfl
theorem ki_J0_indexOf_0f7a4 : Cond.instanceMethod yJ0_indexOf_0f7a4 ∈ xAL := xAL_1 210 rfl rfl
theorem kse_J0_indexOf_0f7a4 : Cond.selects RJ0 yJ0_indexOf_0f7a4 yJ0_indexOf_0f7a4 ∈ xAL := xAL_1 211 rfl rfl
theorem kc_J0_indexOf_0f7a4 : Cond.code yJ0_indexOf_0f7a4 cJ0_indexOf_0f7a4 2 (some .int) ∈ xAL := xAL_1 212 rfl rfl
theorem km_J0_633 : Cond.methodLink RJ0 633 yJ0_indexOf_7cf53 ∈ xAL := xAL_1 213 rfl rfl
theorem ki_J0_indexOf_7cf53 : Cond.instanceMethod yJ0_indexOf_7cf53 ∈ xAL := xAL_1 214 rfl rfl
theorem kse_J0_indexOf_7cf53 : Cond.selects RJ0 yJ0_indexOf_7cf53 yJ0_indexOf_7cf53 ∈ xAL := xAL_1 215 rfl rfl
theorem kc_J0_indexOf_7cf53 : Cond.code yJ0_indexOf_7cf53 cJ0_indexOf_7cf53 3 (some .int) ∈ xAL := xAL_1 216 rfl rfl
theorem km_J0_505 : Cond.methodLink RJ0 505 yJ0_length_8abf5 ∈ xAL := xAL_1 217 rfl rfl
theorem km_J0_637 : Cond.methodLink RJ0 637 yJ1_indexOf_4cfef ∈ xAL := xAL_1 218 rfl rfl
theorem kst_J1_indexOf_4cfef : Cond.static yJ1_indexOf_4cfef ∈ xAL := xAL_1 219 rfl rfl
theorem kc_J1_indexOf_4cfef : Cond.code yJ1_indexOf_4cfef cJ1_indexOf_4cfef 4 (some .int) ∈ xAL := xAL_1 220 rfl rfl
theorem km_J1_88 : Cond.methodLink RJ1 88 yJ1_canEncode_9a6ad ∈ xAL := xAL_1 221 rfl rfl
theorem kst_J1_canEncode_9a6ad : Cond.static yJ1_canEncode_9a6ad ∈ xAL := xAL_1 222 rfl rfl
theorem kc_J1_canEncode_9a6ad : Cond.code yJ1_canEncode_9a6ad cJ1_canEncode_9a6ad 1 (some .boolean) ∈ xAL := xAL_1 223 rfl rfl
theorem km_J1_92 : Cond.methodLink RJ1 92 yJ9_max_7cf53 ∈ xAL := xAL_1 224 rfl rfl
theorem kst_J9_max_7cf53 : Cond.static yJ9_max_7cf53 ∈ xAL := xAL_1 225 rfl rfl
theorem kc_J9_max_7cf53 : Cond.code yJ9_max_7cf53 cJ9_max_7cf53 2 (some .int) ∈ xAL := xAL_1 226 rfl rfl
theorem km_J1_38 : Cond.methodLink RJ1 38 yJ9_min_7cf53 ∈ xAL := xAL_1 227 rfl rfl
theorem kst_J9_min_7cf53 : Cond.static yJ9_min_7cf53 ∈ xAL := xAL_1 228 rfl rfl
theorem kc_J9_min_7cf53 : Cond.code yJ9_min_7cf53 cJ9_min_7cf53 2 (some .int) ∈ xAL := xAL_1 229 rfl rfl
theorem km_J1_95 : Cond.methodLink RJ1 95 yJ1_indexOfChar_4cfef ∈ xAL := xAL_1 230 rfl rfl
theorem kst_J1_indexOfChar_4cfef : Cond.static yJ1_indexOfChar_4cfef ∈ xAL := xAL_1 231 rfl rfl
theorem kc_J1_indexOfChar_4cfef : Cond.code yJ1_indexOfChar_4cfef cJ1_indexOfChar_4cfef 6 (some .int) ∈ xAL := xAL_1 232 rfl rfl
theorem km_J0_640 : Cond.methodLink RJ0 640 yJ2_indexOf_4cfef ∈ xAL := xAL_1 233 rfl rfl
theorem kst_J2_indexOf_4cfef : Cond.static yJ2_indexOf_4cfef ∈ xAL := xAL_1 234 rfl rfl
theorem kc_J2_indexOf_4cfef : Cond.code yJ2_indexOf_4cfef cJ2_indexOf_4cfef 4 (some .int) ∈ xAL := xAL_1 235 rfl rfl
theorem km_J2_224 : Cond.methodLink RJ2 224 yJ9_max_7cf53 ∈ xAL := xAL_1 236 rfl rfl
theorem km_J2_183 : Cond.methodLink RJ2 183 yJ9_min_7cf53 ∈ xAL := xAL_1 237 rfl rfl
theorem kk_J2_227 : Cond.constant RJ2 227 (65536) ∈ xAL := xAL_1 238 rfl rfl
theorem km_J2_228 : Cond.methodLink RJ2 228 yJ2_indexOfChar_4cfef ∈ xAL := xAL_1 239 rfl rfl
theorem kst_J2_indexOfChar_4cfef : Cond.static yJ2_indexOfChar_4cfef ∈ xAL := xAL_2 0 rfl rfl
theorem kc_J2_indexOfChar_4cfef : Cond.code yJ2_indexOfChar_4cfef cJ2_indexOfChar_4cfef 4 (some .int) ∈ xAL := xAL_2 1 rfl rfl
theorem km_J2_96 : Cond.methodLink RJ2 96 yJ2_checkBoundsBeginEnd_d044e ∈ xAL := xAL_2 2 rfl rfl
theorem kst_J2_checkBoundsBeginEnd_d044e : Cond.static yJ2_checkBoundsBeginEnd_d044e ∈ xAL := xAL_2 3 rfl rfl
theorem kc_J2_checkBoundsBeginEnd_d044e : Cond.code yJ2_checkBoundsBeginEnd_d044e cJ2_checkBoundsBeginEnd_d044e 3 none ∈ xAL := xAL_2 4 rfl rfl
theorem km_J2_241 : Cond.methodLink RJ2 241 yJ0_checkBoundsBeginEnd_23922 ∈ xAL := xAL_2 5 rfl rfl
theorem kst_J0_checkBoundsBeginEnd_23922 : Cond.static yJ0_checkBoundsBeginEnd_23922 ∈ xAL := xAL_2 6 rfl rfl
theorem kc_J0_checkBoundsBeginEnd_23922 : Cond.code yJ0_checkBoundsBeginEnd_23922 cJ0_checkBoundsBeginEnd_23922 3 none ∈ xAL := xAL_2 7 rfl rfl
theorem km_J0_1062 : Cond.methodLink RJ0 1062 yJ3_checkFromToIndex_8c36e ∈ xAL := xAL_2 8 rfl rfl
theorem kst_J3_checkFromToIndex_8c36e : Cond.static yJ3_checkFromToIndex_8c36e ∈ xAL := xAL_2 9 rfl rfl
theorem kc_J3_checkFromToIndex_8c36e : Cond.code yJ3_checkFromToIndex_8c36e cJ3_checkFromToIndex_8c36e 4 (some .int) ∈ xAL := xAL_2 10 rfl rfl
theorem km_J2_244 : Cond.methodLink RJ2 244 yJ2_indexOfCharUnsafe_4cfef ∈ xAL := xAL_2 11 rfl rfl
theorem kst_J2_indexOfCharUnsafe_4cfef : Cond.static yJ2_indexOfCharUnsafe_4cfef ∈ xAL := xAL_2 12 rfl rfl
theorem kc_J2_indexOfCharUnsafe_4cfef : Cond.code yJ2_indexOfCharUnsafe_4cfef cJ2_indexOfCharUnsafe_4cfef 5 (some .int) ∈ xAL := xAL_2 13 rfl rfl
theorem km_J2_232 : Cond.methodLink RJ2 232 yJ2_indexOfSupplementary_4cfef ∈ xAL := xAL_2 14 rfl rfl
theorem kst_J2_indexOfSupplementary_4cfef : Cond.static yJ2_indexOfSupplementary_4cfef ∈ xAL := xAL_2 15 rfl rfl
theorem kc_J2_indexOfSupplementary_4cfef : Cond.code yJ2_indexOfSupplementary_4cfef cJ2_indexOfSupplementary_4cfef 7 (some .int) ∈ xAL := xAL_2 16 rfl rfl
theorem km_J2_164 : Cond.methodLink RJ2 164 yJ11_isValidCodePoint_9a6ad ∈ xAL := xAL_2 17 rfl rfl
theorem kst_J11_isValidCodePoint_9a6ad : Cond.static yJ11_isValidCodePoint_9a6ad ∈ xAL := xAL_2 18 rfl rfl
theorem kc_J11_isValidCodePoint_9a6ad : Cond.code yJ11_isValidCodePoint_9a6ad cJ11_isValidCodePoint_9a6ad 2 (some .boolean) ∈ xAL := xAL_2 19 rfl rfl
theorem km_J2_157 : Cond.methodLink RJ2 157 yJ11_highSurrogate_5068e ∈ xAL := xAL_2 20 rfl rfl
theorem kst_J11_highSurrogate_5068e : Cond.static yJ11_highSurrogate_5068e ∈ xAL := xAL_2 21 rfl rfl
theorem kc_J11_highSurrogate_5068e : Cond.code yJ11_highSurrogate_5068e cJ11_highSurrogate_5068e 1 (some .char) ∈ xAL := xAL_2 22 rfl rfl
theorem kk_J11_110 : Cond.constant RJ11 110 (55232) ∈ xAL := xAL_2 23 rfl rfl
theorem km_J2_161 : Cond.methodLink RJ2 161 yJ11_lowSurrogate_5068e ∈ xAL := xAL_2 24 rfl rfl
theorem kst_J11_lowSurrogate_5068e : Cond.static yJ11_lowSurrogate_5068e ∈ xAL := xAL_2 25 rfl rfl
theorem kc_J11_lowSurrogate_5068e : Cond.code yJ11_lowSurrogate_5068e cJ11_lowSurrogate_5068e 1 (some .char) ∈ xAL := xAL_2 26 rfl rfl
theorem kk_J11_76 : Cond.constant RJ11 76 (56320) ∈ xAL := xAL_2 27 rfl rfl
theorem km_X2_63 : Cond.methodLink RX2 63 yX2_thoughtOfNow ∈ xAL := xAL_2 28 rfl rfl
theorem ki_X2_thoughtOfNow : Cond.instanceMethod yX2_thoughtOfNow ∈ xAL := xAL_2 30 rfl rfl
theorem kc_X2_thoughtOfNow : Cond.code yX2_thoughtOfNow cX2_thoughtOfNow 1 (some (.object "WellOfTheSilent$Hill")) ∈ xAL := xAL_2 31 rfl rfl
theorem km_X2_77 : Cond.methodLink RX2 77 yX0_copyFrom ∈ xAL := xAL_2 32 rfl rfl
theorem ki_X0_copyFrom : Cond.instanceMethod yX0_copyFrom ∈ xAL := xAL_2 33 rfl rfl
theorem kse_X0_copyFrom : Cond.selects RX0 yX0_copyFrom yX0_copyFrom ∈ xAL := xAL_2 34 rfl rfl
theorem kc_X0_copyFrom : Cond.code yX0_copyFrom cX0_copyFrom 3 none ∈ xAL := xAL_2 35 rfl rfl
theorem km_X2_67 : Cond.methodLink RX2 67 yX1_firstWrongStatement ∈ xAL := xAL_2 36 rfl rfl
theorem ki_X1_firstWrongStatement : Cond.instanceMethod yX1_firstWrongStatement ∈ xAL := xAL_2 37 rfl rfl
theorem kse_X1_firstWrongStatement : Cond.selects RX1 yX1_firstWrongStatement yX1_firstWrongStatement ∈ xAL := xAL_2 38 rfl rfl
theorem kc_X1_firstWrongStatement : Cond.code yX1_firstWrongStatement cX1_firstWrongStatement 3 (some .int) ∈ xAL := xAL_2 39 rfl rfl
theorem km_X1_45 : Cond.methodLink RX1 45 yX1_letCome ∈ xAL := xAL_2 40 rfl rfl
theorem ki_X1_letCome : Cond.instanceMethod yX1_letCome ∈ xAL := xAL_2 42 rfl rfl
theorem kc_X1_letCome : Cond.code yX1_letCome cX1_letCome 6 (some .boolean) ∈ xAL := xAL_2 43 rfl rfl
theorem km_X1_49 : Cond.methodLink RX1 49 yX1_digitAt ∈ xAL := xAL_2 44 rfl rfl
theorem ki_X1_digitAt : Cond.instanceMethod yX1_digitAt ∈ xAL := xAL_2 46 rfl rfl
theorem kc_X1_digitAt : Cond.code yX1_digitAt cX1_digitAt 2 (some .int) ∈ xAL := xAL_2 47 rfl rfl
theorem km_X1_70 : Cond.methodLink RX1 70 yX1_twoDigitsAt ∈ xAL := xAL_2 48 rfl rfl
theorem ki_X1_twoDigitsAt : Cond.instanceMethod yX1_twoDigitsAt ∈ xAL := xAL_2 50 rfl rfl
theorem kc_X1_twoDigitsAt : Cond.code yX1_twoDigitsAt cX1_twoDigitsAt 2 (some .int) ∈ xAL := xAL_2 51 rfl rfl
theorem km_X1_73 : Cond.methodLink RX1 73 yX0_addPerson ∈ xAL := xAL_2 52 rfl rfl
theorem ki_X0_addPerson : Cond.instanceMethod yX0_addPerson ∈ xAL := xAL_2 53 rfl rfl
theorem kse_X0_addPerson : Cond.selects RX0 yX0_addPerson yX0_addPerson ∈ xAL := xAL_2 54 rfl rfl
theorem kc_X0_addPerson : Cond.code yX0_addPerson cX0_addPerson 4 (some .boolean) ∈ xAL := xAL_2 55 rfl rfl
theorem km_X1_79 : Cond.methodLink RX1 79 yX0_setFriend ∈ xAL := xAL_2 56 rfl rfl
theorem ki_X0_setFriend : Cond.instanceMethod yX0_setFriend ∈ xAL := xAL_2 57 rfl rfl
theorem kse_X0_setFriend : Cond.selects RX0 yX0_setFriend yX0_setFriend ∈ xAL := xAL_2 58 rfl rfl
theorem kc_X0_setFriend : Cond.code yX0_setFriend cX0_setFriend 3 (some .boolean) ∈ xAL := xAL_2 59 rfl rfl
theorem km_X0_49 : Cond.methodLink RX0 49 yX0_isThere ∈ xAL := xAL_2 60 rfl rfl
theorem ki_X0_isThere : Cond.instanceMethod yX0_isThere ∈ xAL := xAL_2 61 rfl rfl
theorem kse_X0_isThere : Cond.selects RX0 yX0_isThere yX0_isThere ∈ xAL := xAL_2 62 rfl rfl
theorem kc_X0_isThere : Cond.code yX0_isThere cX0_isThere 2 (some .boolean) ∈ xAL := xAL_2 63 rfl rfl
theorem km_X1_83 : Cond.methodLink RX1 83 yX0_setHas ∈ xAL := xAL_2 64 rfl rfl
theorem ki_X0_setHas : Cond.instanceMethod yX0_setHas ∈ xAL := xAL_2 65 rfl rfl
theorem kse_X0_setHas : Cond.selects RX0 yX0_setHas yX0_setHas ∈ xAL := xAL_2 66 rfl rfl
theorem kc_X0_setHas : Cond.code yX0_setHas cX0_setHas 3 (some .boolean) ∈ xAL := xAL_2 67 rfl rfl
theorem km_X1_86 : Cond.methodLink RX1 86 yX0_setWater ∈ xAL := xAL_2 68 rfl rfl
theorem ki_X0_setWater : Cond.instanceMethod yX0_setWater ∈ xAL := xAL_2 69 rfl rfl
theorem kse_X0_setWater : Cond.selects RX0 yX0_setWater yX0_setWater ∈ xAL := xAL_2 70 rfl rfl
theorem kc_X0_setWater : Cond.code yX0_setWater cX0_setWater 2 (some .boolean) ∈ xAL := xAL_2 71 rfl rfl
theorem km_X1_90 : Cond.methodLink RX1 90 yX0_setFlow ∈ xAL := xAL_2 72 rfl rfl
theorem ki_X0_setFlow : Cond.instanceMethod yX0_setFlow ∈ xAL := xAL_2 73 rfl rfl
theorem kse_X0_setFlow : Cond.selects RX0 yX0_setFlow yX0_setFlow ∈ xAL := xAL_2 74 rfl rfl
theorem kc_X0_setFlow : Cond.code yX0_setFlow cX0_setFlow 2 (some .boolean) ∈ xAL := xAL_2 75 rfl rfl
theorem km_X1_93 : Cond.methodLink RX1 93 yX0_letSpeak ∈ xAL := xAL_2 76 rfl rfl
theorem ki_X0_letSpeak : Cond.instanceMethod yX0_letSpeak ∈ xAL := xAL_2 77 rfl rfl
theorem kse_X0_letSpeak : Cond.selects RX0 yX0_letSpeak yX0_letSpeak ∈ xAL := xAL_2 78 rfl rfl
theorem kc_X0_letSpeak : Cond.code yX0_letSpeak cX0_letSpeak 2 (some .boolean) ∈ xAL := xAL_2 79 rfl rfl
theorem km_X1_96 : Cond.methodLink RX1 96 yX0_mayPass ∈ xAL := xAL_2 80 rfl rfl
theorem ki_X0_mayPass : Cond.instanceMethod yX0_mayPass ∈ xAL := xAL_2 81 rfl rfl
theorem kse_X0_mayPass : Cond.selects RX0 yX0_mayPass yX0_mayPass ∈ xAL := xAL_2 82 rfl rfl
theorem kc_X0_mayPass : Cond.code yX0_mayPass cX0_mayPass 2 (some .boolean) ∈ xAL := xAL_2 83 rfl rfl
theorem km_X1_99 : Cond.methodLink RX1 99 yX0_passHours ∈ xAL := xAL_2 84 rfl rfl
theorem ki_X0_passHours : Cond.instanceMethod yX0_passHours ∈ xAL := xAL_2 85 rfl rfl
theorem kse_X0_passHours : Cond.selects RX0 yX0_passHours yX0_passHours ∈ xAL := xAL_2 86 rfl rfl
theorem kc_X0_passHours : Cond.code yX0_passHours cX0_passHours 3 none ∈ xAL := xAL_2 87 rfl rfl
theorem km_X0_62 : Cond.methodLink RX0 62 yX0_passHour ∈ xAL := xAL_2 88 rfl rfl
theorem ki_X0_passHour : Cond.instanceMethod yX0_passHour ∈ xAL := xAL_2 89 rfl rfl
theorem kse_X0_passHour : Cond.selects RX0 yX0_passHour yX0_passHour ∈ xAL := xAL_2 90 rfl rfl
theorem kc_X0_passHour : Cond.code yX0_passHour cX0_passHour 4 none ∈ xAL := xAL_2 91 rfl rfl
theorem km_X0_66 : Cond.methodLink RX0 66 yX0_beginDay ∈ xAL := xAL_2 92 rfl rfl
theorem ki_X0_beginDay : Cond.instanceMethod yX0_beginDay ∈ xAL := xAL_2 94 rfl rfl
theorem kc_X0_beginDay : Cond.code yX0_beginDay cX0_beginDay 1 none ∈ xAL := xAL_2 95 rfl rfl
theorem km_X0_53 : Cond.methodLink RX0 53 yJ9_min_7cf53 ∈ xAL := xAL_2 96 rfl rfl
theorem km_X0_69 : Cond.methodLink RX0 69 yX0_letSpeakAt ∈ xAL := xAL_2 97 rfl rfl
theorem ki_X0_letSpeakAt : Cond.instanceMethod yX0_letSpeakAt ∈ xAL := xAL_2 99 rfl rfl
theorem kc_X0_letSpeakAt : Cond.code yX0_letSpeakAt cX0_letSpeakAt 3 none ∈ xAL := xAL_2 100 rfl rfl
theorem km_X0_59 : Cond.methodLink RX0 59 yX0_isHushed ∈ xAL := xAL_2 101 rfl rfl
theorem ki_X0_isHushed : Cond.instanceMethod yX0_isHushed ∈ xAL := xAL_2 102 rfl rfl
theorem kse_X0_isHushed : Cond.selects RX0 yX0_isHushed yX0_isHushed ∈ xAL := xAL_2 103 rfl rfl
theorem kc_X0_isHushed : Cond.code yX0_isHushed cX0_isHushed 2 (some .boolean) ∈ xAL := xAL_2 104 rfl rfl
theorem km_X0_81 : Cond.methodLink RX0 81 yX0_speakingHour ∈ xAL := xAL_2 105 rfl rfl
theorem ki_X0_speakingHour : Cond.instanceMethod yX0_speakingHour ∈ xAL := xAL_2 106 rfl rfl
theorem kse_X0_speakingHour : Cond.selects RX0 yX0_speakingHour yX0_speakingHour ∈ xAL := xAL_2 107 rfl rfl
theorem kc_X0_speakingHour : Cond.code yX0_speakingHour cX0_speakingHour 4 (some .int) ∈ xAL := xAL_2 108 rfl rfl
theorem km_X0_72 : Cond.methodLink RX0 72 yX0_mayDraw ∈ xAL := xAL_2 109 rfl rfl
theorem ki_X0_mayDraw : Cond.instanceMethod yX0_mayDraw ∈ xAL := xAL_2 111 rfl rfl
theorem kc_X0_mayDraw : Cond.code yX0_mayDraw cX0_mayDraw 3 (some .boolean) ∈ xAL := xAL_2 112 rfl rfl
theorem km_X0_85 : Cond.methodLink RX0 85 yX0_hasSpoken ∈ xAL := xAL_2 113 rfl rfl
theorem ki_X0_hasSpoken : Cond.instanceMethod yX0_hasSpoken ∈ xAL := xAL_2 114 rfl rfl
theorem kse_X0_hasSpoken : Cond.selects RX0 yX0_hasSpoken yX0_hasSpoken ∈ xAL := xAL_2 115 rfl rfl
theorem kc_X0_hasSpoken : Cond.code yX0_hasSpoken cX0_hasSpoken 2 (some .boolean) ∈ xAL := xAL_2 116 rfl rfl
theorem km_X0_88 : Cond.methodLink RX0 88 yX0_drawsThoughSpoken ∈ xAL := xAL_2 117 rfl rfl
theorem ki_X0_drawsThoughSpoken : Cond.instanceMethod yX0_drawsThoughSpoken ∈ xAL := xAL_2 118 rfl rfl
theorem kse_X0_drawsThoughSpoken : Cond.selects RX0 yX0_drawsThoughSpoken yX0_drawsThoughSpoken ∈ xAL := xAL_2 119 rfl rfl
theorem kc_X0_drawsThoughSpoken : Cond.code yX0_drawsThoughSpoken cX0_drawsThoughSpoken 2 (some .boolean) ∈ xAL := xAL_2 120 rfl rfl
theorem km_X0_91 : Cond.methodLink RX0 91 yX0_hasDrawn ∈ xAL := xAL_2 121 rfl rfl
theorem ki_X0_hasDrawn : Cond.instanceMethod yX0_hasDrawn ∈ xAL := xAL_2 122 rfl rfl
theorem kse_X0_hasDrawn : Cond.selects RX0 yX0_hasDrawn yX0_hasDrawn ∈ xAL := xAL_2 123 rfl rfl
theorem kc_X0_hasDrawn : Cond.code yX0_hasDrawn cX0_hasDrawn 2 (some .boolean) ∈ xAL := xAL_2 124 rfl rfl
theorem km_X0_75 : Cond.methodLink RX0 75 yX0_letDraw ∈ xAL := xAL_2 125 rfl rfl
theorem ki_X0_letDraw : Cond.instanceMethod yX0_letDraw ∈ xAL := xAL_2 127 rfl rfl
theorem kc_X0_letDraw : Cond.code yX0_letDraw cX0_letDraw 4 none ∈ xAL := xAL_2 128 rfl rfl
theorem km_X0_94 : Cond.methodLink RX0 94 yX0_givesToFriend ∈ xAL := xAL_2 129 rfl rfl
theorem ki_X0_givesToFriend : Cond.instanceMethod yX0_givesToFriend ∈ xAL := xAL_2 131 rfl rfl
theorem kc_X0_givesToFriend : Cond.code yX0_givesToFriend cX0_givesToFriend 3 (some .boolean) ∈ xAL := xAL_2 132 rfl rfl
theorem km_X0_78 : Cond.methodLink RX0 78 yX0_letDrink ∈ xAL := xAL_2 133 rfl rfl
theorem ki_X0_letDrink : Cond.instanceMethod yX0_letDrink ∈ xAL := xAL_2 135 rfl rfl
theorem kc_X0_letDrink : Cond.code yX0_letDrink cX0_letDrink 2 none ∈ xAL := xAL_2 136 rfl rfl
theorem km_X0_97 : Cond.methodLink RX0 97 yX0_drinkOf ∈ xAL := xAL_2 137 rfl rfl
theorem ki_X0_drinkOf : Cond.instanceMethod yX0_drinkOf ∈ xAL := xAL_2 138 rfl rfl
theorem kse_X0_drinkOf : Cond.selects RX0 yX0_drinkOf yX0_drinkOf ∈ xAL := xAL_2 139 rfl rfl
theorem kc_X0_drinkOf : Cond.code yX0_drinkOf cX0_drinkOf 4 (some .int) ∈ xAL := xAL_2 140 rfl rfl
theorem km_X0_100 : Cond.methodLink RX0 100 yJ9_max_7cf53 ∈ xAL := xAL_2 141 rfl rfl
theorem km_X2_71 : Cond.methodLink RX2 71 yX1_statements ∈ xAL := xAL_2 142 rfl rfl
theorem ki_X1_statements : Cond.instanceMethod yX1_statements ∈ xAL := xAL_2 143 rfl rfl
theorem kse_X1_statements : Cond.selects RX1 yX1_statements yX1_statements ∈ xAL := xAL_2 144 rfl rfl
theorem kc_X1_statements : Cond.code yX1_statements cX1_statements 3 (some .int) ∈ xAL := xAL_2 145 rfl rfl
theorem km_X2_74 : Cond.methodLink RX2 74 yX1_forget ∈ xAL := xAL_2 146 rfl rfl
theorem ki_X1_forget : Cond.instanceMethod yX1_forget ∈ xAL := xAL_2 147 rfl rfl
theorem kse_X1_forget : Cond.selects RX1 yX1_forget yX1_forget ∈ xAL := xAL_2 148 rfl rfl
theorem kc_X1_forget : Cond.code yX1_forget cX1_forget 1 none ∈ xAL := xAL_2 149 rfl rfl
theorem km_L_23 : Cond.methodLink RL 23 yX2_person ∈ xAL := xAL_2 151 rfl rfl
theorem ki_X2_person : Cond.instanceMethod yX2_person ∈ xAL := xAL_2 152 rfl rfl
theorem kse_X2_person : Cond.selects RX2 yX2_person yX2_person ∈ xAL := xAL_2 153 rfl rfl
theorem kc_X2_person : Cond.code yX2_person cX2_person 3 (some .int) ∈ xAL := xAL_2 154 rfl rfl
theorem km_X2_81 : Cond.methodLink RX2 81 yX0_isThere ∈ xAL := xAL_2 155 rfl rfl
theorem km_X2_96 : Cond.methodLink RX2 96 yX0_hasSpoken ∈ xAL := xAL_2 156 rfl rfl
theorem km_X2_99 : Cond.methodLink RX2 99 yX0_hasDrawn ∈ xAL := xAL_2 157 rfl rfl
theorem km_X2_105 : Cond.methodLink RX2 105 yX0_speakingHour ∈ xAL := xAL_2 158 rfl rfl
theorem km_X2_108 : Cond.methodLink RX2 108 yX0_drinkOf ∈ xAL := xAL_2 159 rfl rfl
theorem km_L_28 : Cond.methodLink RL 28 yX2_speaks ∈ xAL := xAL_2 160 rfl rfl
theorem ki_X2_speaks : Cond.instanceMethod yX2_speaks ∈ xAL := xAL_2 161 rfl rfl
theorem kse_X2_speaks : Cond.selects RX2 yX2_speaks yX2_speaks ∈ xAL := xAL_2 162 rfl rfl
theorem kc_X2_speaks : Cond.code yX2_speaks cX2_speaks 2 (some .int) ∈ xAL := xAL_2 163 rfl rfl
theorem km_X2_111 : Cond.methodLink RX2 111 yX0_letSpeak ∈ xAL := xAL_2 164 rfl rfl
theorem km_X2_117 : Cond.methodLink RX2 117 yJ6_bitCount_0f7a4 ∈ xAL := xAL_2 165 rfl rfl
theorem kst_J6_bitCount_0f7a4 : Cond.static yJ6_bitCount_0f7a4 ∈ xAL := xAL_2 166 rfl rfl
theorem kc_J6_bitCount_0f7a4 : Cond.code yJ6_bitCount_0f7a4 cJ6_bitCount_0f7a4 1 (some .int) ∈ xAL := xAL_2 167 rfl rfl
theorem kk_J6_265 : Cond.constant RJ6 265 (1431655765) ∈ xAL := xAL_2 168 rfl rfl
theorem kk_J6_266 : Cond.constant RJ6 266 (858993459) ∈ xAL := xAL_2 169 rfl rfl
theorem kk_J6_267 : Cond.constant RJ6 267 (252645135) ∈ xAL := xAL_2 170 rfl rfl
theorem km_L_32 : Cond.methodLink RL 32 yX2_befriends ∈ xAL := xAL_2 171 rfl rfl
theorem ki_X2_befriends : Cond.instanceMethod yX2_befriends ∈ xAL := xAL_2 172 rfl rfl
theorem kse_X2_befriends : Cond.selects RX2 yX2_befriends yX2_befriends ∈ xAL := xAL_2 173 rfl rfl
theorem kc_X2_befriends : Cond.code yX2_befriends cX2_befriends 4 (some .int) ∈ xAL := xAL_2 174 rfl rfl
theorem km_X2_122 : Cond.methodLink RX2 122 yX0_setFriend ∈ xAL := xAL_2 175 rfl rfl
theorem km_L_36 : Cond.methodLink RL 36 yX2_pours ∈ xAL := xAL_2 176 rfl rfl
theorem ki_X2_pours : Cond.instanceMethod yX2_pours ∈ xAL := xAL_2 177 rfl rfl
theorem kse_X2_pours : Cond.selects RX2 yX2_pours yX2_pours ∈ xAL := xAL_2 178 rfl rfl
theorem kc_X2_pours : Cond.code yX2_pours cX2_pours 5 (some .int) ∈ xAL := xAL_2 179 rfl rfl
theorem km_X2_126 : Cond.methodLink RX2 126 yX2_oneRefusal ∈ xAL := xAL_2 180 rfl rfl
theorem ki_X2_oneRefusal : Cond.instanceMethod yX2_oneRefusal ∈ xAL := xAL_2 182 rfl rfl
theorem kc_X2_oneRefusal : Cond.code yX2_oneRefusal cX2_oneRefusal 4 (some .int) ∈ xAL := xAL_2 183 rfl rfl
theorem km_L_40 : Cond.methodLink RL 40 yX2_cans ∈ xAL := xAL_2 184 rfl rfl
theorem ki_X2_cans : Cond.instanceMethod yX2_cans ∈ xAL := xAL_2 185 rfl rfl
theorem kse_X2_cans : Cond.selects RX2 yX2_cans yX2_cans ∈ xAL := xAL_2 186 rfl rfl
theorem kc_X2_cans : Cond.code yX2_cans cX2_cans 5 (some .int) ∈ xAL := xAL_2 187 rfl rfl
theorem km_L_44 : Cond.methodLink RL 44 yX2_water ∈ xAL := xAL_2 188 rfl rfl
theorem ki_X2_water : Cond.instanceMethod yX2_water ∈ xAL := xAL_2 189 rfl rfl
theorem kse_X2_water : Cond.selects RX2 yX2_water yX2_water ∈ xAL := xAL_2 190 rfl rfl
theorem kc_X2_water : Cond.code yX2_water cX2_water 4 (some .int) ∈ xAL := xAL_2 191 rfl rfl
theorem km_L_48 : Cond.methodLink RL 48 yX2_flow ∈ xAL := xAL_2 192 rfl rfl
theorem ki_X2_flow : Cond.instanceMethod yX2_flow ∈ xAL := xAL_2 193 rfl rfl
theorem kse_X2_flow : Cond.selects RX2 yX2_flow yX2_flow ∈ xAL := xAL_2 194 rfl rfl
theorem kc_X2_flow : Cond.code yX2_flow cX2_flow 4 (some .int) ∈ xAL := xAL_2 195 rfl rfl
theorem km_L_52 : Cond.methodLink RL 52 yX2_turn ∈ xAL := xAL_2 196 rfl rfl
theorem ki_X2_turn : Cond.instanceMethod yX2_turn ∈ xAL := xAL_2 197 rfl rfl
theorem kse_X2_turn : Cond.selects RX2 yX2_turn yX2_turn ∈ xAL := xAL_2 198 rfl rfl
theorem kc_X2_turn : Cond.code yX2_turn cX2_turn 6 (some .int) ∈ xAL := xAL_2 199 rfl rfl
theorem km_L_57 : Cond.methodLink RL 57 yX2_hours ∈ xAL := xAL_2 200 rfl rfl
theorem ki_X2_hours : Cond.instanceMethod yX2_hours ∈ xAL := xAL_2 201 rfl rfl
theorem kse_X2_hours : Cond.selects RX2 yX2_hours yX2_hours ∈ xAL := xAL_2 202 rfl rfl
theorem kc_X2_hours : Cond.code yX2_hours cX2_hours 3 (some .int) ∈ xAL := xAL_2 203 rfl rfl
theorem km_X2_135 : Cond.methodLink RX2 135 yX0_mayPass ∈ xAL := xAL_2 204 rfl rfl
theorem km_X2_138 : Cond.methodLink RX2 138 yX0_passHours ∈ xAL := xAL_2 205 rfl rfl
theorem km_L_61 : Cond.methodLink RL 61 yX2_hasThen ∈ xAL := xAL_2 206 rfl rfl
theorem ki_X2_hasThen : Cond.instanceMethod yX2_hasThen ∈ xAL := xAL_2 207 rfl rfl
theorem kse_X2_hasThen : Cond.selects RX2 yX2_hasThen yX2_hasThen ∈ xAL := xAL_2 208 rfl rfl
theorem kc_X2_hasThen : Cond.code yX2_hasThen cX2_hasThen 4 (some .int) ∈ xAL := xAL_2 209 rfl rfl
theorem km_X2_142 : Cond.methodLink RX2 142 yX2_thoughtBehind ∈ xAL := xAL_2 210 rfl rfl
theorem ki_X2_thoughtBehind : Cond.instanceMethod yX2_thoughtBehind ∈ xAL := xAL_2 212 rfl rfl
theorem kc_X2_thoughtBehind : Cond.code yX2_thoughtBehind cX2_thoughtBehind 3 (some (.object "WellOfTheSilent$Hill")) ∈ xAL := xAL_2 213 rfl rfl
theorem km_L_65 : Cond.methodLink RL 65 yX2_then ∈ xAL := xAL_2 214 rfl rfl
theorem ki_X2_then : Cond.instanceMethod yX2_then ∈ xAL := xAL_2 215 rfl rfl
theorem kse_X2_then : Cond.selects RX2 yX2_then yX2_then ∈ xAL := xAL_2 216 rfl rfl
theorem kc_X2_then : Cond.code yX2_then cX2_then 5 (some .int) ∈ xAL := xAL_2 217 rfl rfl
theorem km_X2_146 : Cond.methodLink RX2 146 yX2_whatRefusal ∈ xAL := xAL_2 218 rfl rfl
theorem kst_X2_whatRefusal : Cond.static yX2_whatRefusal ∈ xAL := xAL_2 219 rfl rfl
theorem kc_X2_whatRefusal : Cond.code yX2_whatRefusal cX2_whatRefusal 2 (some .int) ∈ xAL := xAL_2 220 rfl rfl
theorem km_X2_153 : Cond.methodLink RX2 153 yX0_together ∈ xAL := xAL_2 221 rfl rfl
theorem ki_X0_together : Cond.instanceMethod yX0_together ∈ xAL := xAL_2 222 rfl rfl
theorem kse_X0_together : Cond.selects RX0 yX0_together yX0_together ∈ xAL := xAL_2 223 rfl rfl
theorem kc_X0_together : Cond.code yX0_together cX0_together 3 (some .int) ∈ xAL := xAL_2 224 rfl rfl
theorem km_L_69 : Cond.methodLink RL 69 yX2_dry ∈ xAL := xAL_2 225 rfl rfl
theorem ki_X2_dry : Cond.instanceMethod yX2_dry ∈ xAL := xAL_2 226 rfl rfl
theorem kse_X2_dry : Cond.selects RX2 yX2_dry yX2_dry ∈ xAL := xAL_2 227 rfl rfl
theorem kc_X2_dry : Cond.code yX2_dry cX2_dry 4 (some .int) ∈ xAL := xAL_2 228 rfl rfl
theorem km_X2_156 : Cond.methodLink RX2 156 yX2_firstDry ∈ xAL := xAL_2 229 rfl rfl
theorem ki_X2_firstDry : Cond.instanceMethod yX2_firstDry ∈ xAL := xAL_2 231 rfl rfl
theorem kc_X2_firstDry : Cond.code yX2_firstDry cX2_firstDry 4 (some .int) ∈ xAL := xAL_2 232 rfl rfl
theorem km_X2_159 : Cond.methodLink RX2 159 yX0_passHour ∈ xAL := xAL_2 233 rfl rfl
theorem km_L_73 : Cond.methodLink RL 73 yX2_empty ∈ xAL := xAL_2 234 rfl rfl
theorem ki_X2_empty : Cond.instanceMethod yX2_empty ∈ xAL := xAL_2 235 rfl rfl
theorem kse_X2_empty : Cond.selects RX2 yX2_empty yX2_empty ∈ xAL := xAL_2 236 rfl rfl
theorem kc_X2_empty : Cond.code yX2_empty cX2_empty 3 (some .int) ∈ xAL := xAL_2 237 rfl rfl
theorem km_L_77 : Cond.methodLink RL 77 yX2_flowBest ∈ xAL := xAL_2 238 rfl rfl
theorem ki_X2_flowBest : Cond.instanceMethod yX2_flowBest ∈ xAL := xAL_2 239 rfl rfl
theorem kse_X2_flowBest : Cond.selects RX2 yX2_flowBest yX2_flowBest ∈ xAL := xAL_3 0 rfl rfl
theorem kc_X2_flowBest : Cond.code yX2_flowBest cX2_flowBest 5 (some .int) ∈ xAL := xAL_3 1 rfl rfl
theorem km_X2_162 : Cond.methodLink RX2 162 yX0_everybody ∈ xAL := xAL_3 2 rfl rfl
theorem ki_X0_everybody : Cond.instanceMethod yX0_everybody ∈ xAL := xAL_3 3 rfl rfl
theorem kse_X0_everybody : Cond.selects RX0 yX0_everybody yX0_everybody ∈ xAL := xAL_3 4 rfl rfl
theorem kc_X0_everybody : Cond.code yX0_everybody cX0_everybody 1 (some .int) ∈ xAL := xAL_3 5 rfl rfl
theorem km_X2_165 : Cond.methodLink RX2 165 yX0_staysWet ∈ xAL := xAL_3 6 rfl rfl
theorem ki_X0_staysWet : Cond.instanceMethod yX0_staysWet ∈ xAL := xAL_3 7 rfl rfl
theorem kse_X0_staysWet : Cond.selects RX0 yX0_staysWet yX0_staysWet ∈ xAL := xAL_3 8 rfl rfl
theorem kc_X0_staysWet : Cond.code yX0_staysWet cX0_staysWet 4 (some .boolean) ∈ xAL := xAL_3 9 rfl rfl
theorem km_X0_103 : Cond.methodLink RX0 103 yX0_dryPeople ∈ xAL := xAL_3 10 rfl rfl
theorem ki_X0_dryPeople : Cond.instanceMethod yX0_dryPeople ∈ xAL := xAL_3 12 rfl rfl
theorem kc_X0_dryPeople : Cond.code yX0_dryPeople cX0_dryPeople 3 (some .int) ∈ xAL := xAL_3 13 rfl rfl
theorem km_L_81 : Cond.methodLink RL 81 yX2_canBest ∈ xAL := xAL_3 14 rfl rfl
theorem ki_X2_canBest : Cond.instanceMethod yX2_canBest ∈ xAL := xAL_3 15 rfl rfl
theorem kse_X2_canBest : Cond.selects RX2 yX2_canBest yX2_canBest ∈ xAL := xAL_3 16 rfl rfl
theorem kc_X2_canBest : Cond.code yX2_canBest cX2_canBest 6 (some .int) ∈ xAL := xAL_3 17 rfl rfl
theorem km_L_85 : Cond.methodLink RL 85 yX2_friendBest ∈ xAL := xAL_3 18 rfl rfl
theorem ki_X2_friendBest : Cond.instanceMethod yX2_friendBest ∈ xAL := xAL_3 19 rfl rfl
theorem kse_X2_friendBest : Cond.selects RX2 yX2_friendBest yX2_friendBest ∈ xAL := xAL_3 20 rfl rfl
theorem kc_X2_friendBest : Cond.code yX2_friendBest cX2_friendBest 8 (some .int) ∈ xAL := xAL_3 21 rfl rfl
theorem km_X2_168 : Cond.methodLink RX2 168 yX0_leastHas ∈ xAL := xAL_3 22 rfl rfl
theorem ki_X0_leastHas : Cond.instanceMethod yX0_leastHas ∈ xAL := xAL_3 23 rfl rfl
theorem kse_X0_leastHas : Cond.selects RX0 yX0_leastHas yX0_leastHas ∈ xAL := xAL_3 24 rfl rfl
theorem kc_X0_leastHas : Cond.code yX0_leastHas cX0_leastHas 3 (some .int) ∈ xAL := xAL_3 25 rfl rfl
theorem km_L_89 : Cond.methodLink RL 89 yX2_hush ∈ xAL := xAL_3 26 rfl rfl
theorem ki_X2_hush : Cond.instanceMethod yX2_hush ∈ xAL := xAL_3 27 rfl rfl
theorem kse_X2_hush : Cond.selects RX2 yX2_hush yX2_hush ∈ xAL := xAL_3 28 rfl rfl
theorem kc_X2_hush : Cond.code yX2_hush cX2_hush 7 (some .int) ∈ xAL := xAL_3 29 rfl rfl
theorem km_L_93 : Cond.methodLink RL 93 yX2_fewest ∈ xAL := xAL_3 30 rfl rfl
theorem ki_X2_fewest : Cond.instanceMethod yX2_fewest ∈ xAL := xAL_3 31 rfl rfl
theorem kse_X2_fewest : Cond.selects RX2 yX2_fewest yX2_fewest ∈ xAL := xAL_3 32 rfl rfl
theorem kc_X2_fewest : Cond.code yX2_fewest cX2_fewest 6 (some .int) ∈ xAL := xAL_3 33 rfl rfl
theorem km_X2_175 : Cond.methodLink RX2 175 yX2_isWetWithHushed ∈ xAL := xAL_3 34 rfl rfl
theorem ki_X2_isWetWithHushed : Cond.instanceMethod yX2_isWetWithHushed ∈ xAL := xAL_3 36 rfl rfl
theorem kc_X2_isWetWithHushed : Cond.code yX2_isWetWithHushed cX2_isWetWithHushed 4 (some .boolean) ∈ xAL := xAL_3 37 rfl rfl
theorem km_L_97 : Cond.methodLink RL 97 yX2_word ∈ xAL := xAL_3 38 rfl rfl
theorem ki_X2_word : Cond.instanceMethod yX2_word ∈ xAL := xAL_3 39 rfl rfl
theorem kse_X2_word : Cond.selects RX2 yX2_word yX2_word ∈ xAL := xAL_3 40 rfl rfl
theorem kc_X2_word : Cond.code yX2_word cX2_word 7 (some .int) ∈ xAL := xAL_3 41 rfl rfl
theorem km_L_101 : Cond.methodLink RL 101 yX2_send ∈ xAL := xAL_3 42 rfl rfl
theorem ki_X2_send : Cond.instanceMethod yX2_send ∈ xAL := xAL_3 43 rfl rfl
theorem kse_X2_send : Cond.selects RX2 yX2_send yX2_send ∈ xAL := xAL_3 44 rfl rfl
theorem kc_X2_send : Cond.code yX2_send cX2_send 8 (some .int) ∈ xAL := xAL_3 45 rfl rfl
theorem km_X2_178 : Cond.methodLink RX2 178 yX2_othersWetBySending ∈ xAL := xAL_3 46 rfl rfl
theorem ki_X2_othersWetBySending : Cond.instanceMethod yX2_othersWetBySending ∈ xAL := xAL_3 48 rfl rfl
theorem kc_X2_othersWetBySending : Cond.code yX2_othersWetBySending cX2_othersWetBySending 6 (some .int) ∈ xAL := xAL_3 49 rfl rfl
theorem km_X2_243 : Cond.methodLink RX2 243 yX0_giveToWell ∈ xAL := xAL_3 50 rfl rfl
theorem ki_X0_giveToWell : Cond.instanceMethod yX0_giveToWell ∈ xAL := xAL_3 51 rfl rfl
theorem kse_X0_giveToWell : Cond.selects RX0 yX0_giveToWell yX0_giveToWell ∈ xAL := xAL_3 52 rfl rfl
theorem kc_X0_giveToWell : Cond.code yX0_giveToWell cX0_giveToWell 2 none ∈ xAL := xAL_3 53 rfl rfl
theorem km_L_105 : Cond.methodLink RL 105 yX2_next ∈ xAL := xAL_3 54 rfl rfl
theorem ki_X2_next : Cond.instanceMethod yX2_next ∈ xAL := xAL_3 55 rfl rfl
theorem kse_X2_next : Cond.selects RX2 yX2_next yX2_next ∈ xAL := xAL_3 56 rfl rfl
theorem kc_X2_next : Cond.code yX2_next cX2_next 1 (some .int) ∈ xAL := xAL_3 57 rfl rfl
theorem km_X2_181 : Cond.methodLink RX2 181 yX0_passHourForDrawers ∈ xAL := xAL_3 58 rfl rfl
theorem ki_X0_passHourForDrawers : Cond.instanceMethod yX0_passHourForDrawers ∈ xAL := xAL_3 59 rfl rfl
theorem kse_X0_passHourForDrawers : Cond.selects RX0 yX0_passHourForDrawers yX0_passHourForDrawers ∈ xAL := xAL_3 60 rfl rfl
theorem kc_X0_passHourForDrawers : Cond.code yX0_passHourForDrawers cX0_passHourForDrawers 2 (some .int) ∈ xAL := xAL_3 61 rfl rfl
theorem km_L_109 : Cond.methodLink RL 109 yX2_richest ∈ xAL := xAL_3 62 rfl rfl
theorem ki_X2_richest : Cond.instanceMethod yX2_richest ∈ xAL := xAL_3 63 rfl rfl
theorem kse_X2_richest : Cond.selects RX2 yX2_richest yX2_richest ∈ xAL := xAL_3 64 rfl rfl
theorem kc_X2_richest : Cond.code yX2_richest cX2_richest 5 (some .int) ∈ xAL := xAL_3 65 rfl rfl
theorem km_X2_184 : Cond.methodLink RX2 184 yX2_rank ∈ xAL := xAL_3 66 rfl rfl
theorem ki_X2_rank : Cond.instanceMethod yX2_rank ∈ xAL := xAL_3 68 rfl rfl
theorem kc_X2_rank : Cond.code yX2_rank cX2_rank 3 (some .int) ∈ xAL := xAL_3 69 rfl rfl
theorem km_L_113 : Cond.methodLink RL 113 yX2_quiet ∈ xAL := xAL_3 70 rfl rfl
theorem ki_X2_quiet : Cond.instanceMethod yX2_quiet ∈ xAL := xAL_3 71 rfl rfl
theorem kse_X2_quiet : Cond.selects RX2 yX2_quiet yX2_quiet ∈ xAL := xAL_3 72 rfl rfl
theorem kc_X2_quiet : Cond.code yX2_quiet cX2_quiet 5 (some .int) ∈ xAL := xAL_3 73 rfl rfl
theorem km_L_117 : Cond.methodLink RL 117 yX2_thirst ∈ xAL := xAL_3 74 rfl rfl
theorem ki_X2_thirst : Cond.instanceMethod yX2_thirst ∈ xAL := xAL_3 75 rfl rfl
theorem kse_X2_thirst : Cond.selects RX2 yX2_thirst yX2_thirst ∈ xAL := xAL_3 76 rfl rfl
theorem kc_X2_thirst : Cond.code yX2_thirst cX2_thirst 3 (some .int) ∈ xAL := xAL_3 77 rfl rfl
theorem km_L_121 : Cond.methodLink RL 121 yX2_lasts ∈ xAL := xAL_3 78 rfl rfl
theorem ki_X2_lasts : Cond.instanceMethod yX2_lasts ∈ xAL := xAL_3 79 rfl rfl
theorem kse_X2_lasts : Cond.selects RX2 yX2_lasts yX2_lasts ∈ xAL := xAL_3 80 rfl rfl
theorem kc_X2_lasts : Cond.code yX2_lasts cX2_lasts 3 (some .int) ∈ xAL := xAL_3 81 rfl rfl
theorem km_L_125 : Cond.methodLink RL 125 yX2_carries ∈ xAL := xAL_3 82 rfl rfl
theorem ki_X2_carries : Cond.instanceMethod yX2_carries ∈ xAL := xAL_3 83 rfl rfl
theorem kse_X2_carries : Cond.selects RX2 yX2_carries yX2_carries ∈ xAL := xAL_3 84 rfl rfl
theorem kc_X2_carries : Cond.code yX2_carries cX2_carries 3 (some .int) ∈ xAL := xAL_3 85 rfl rfl
theorem km_X2_187 : Cond.methodLink RX2 187 yX2_friendsOfOthers ∈ xAL := xAL_3 86 rfl rfl
theorem ki_X2_friendsOfOthers : Cond.instanceMethod yX2_friendsOfOthers ∈ xAL := xAL_3 88 rfl rfl
theorem kc_X2_friendsOfOthers : Cond.code yX2_friendsOfOthers cX2_friendsOfOthers 4 (some .int) ∈ xAL := xAL_3 89 rfl rfl
theorem km_X2_190 : Cond.methodLink RX2 190 yX2_mutualTwos ∈ xAL := xAL_3 90 rfl rfl
theorem ki_X2_mutualTwos : Cond.instanceMethod yX2_mutualTwos ∈ xAL := xAL_3 92 rfl rfl
theorem kc_X2_mutualTwos : Cond.code yX2_mutualTwos cX2_mutualTwos 4 (some .int) ∈ xAL := xAL_3 93 rfl rfl
theorem km_L_129 : Cond.methodLink RL 129 yX2_two ∈ xAL := xAL_3 94 rfl rfl
theorem ki_X2_two : Cond.instanceMethod yX2_two ∈ xAL := xAL_3 95 rfl rfl
theorem kse_X2_two : Cond.selects RX2 yX2_two yX2_two ∈ xAL := xAL_3 96 rfl rfl
theorem kc_X2_two : Cond.code yX2_two cX2_two 9 (some .int) ∈ xAL := xAL_3 97 rfl rfl
theorem km_X2_193 : Cond.methodLink RX2 193 yX2_gain ∈ xAL := xAL_3 98 rfl rfl
theorem ki_X2_gain : Cond.instanceMethod yX2_gain ∈ xAL := xAL_3 100 rfl rfl
theorem kc_X2_gain : Cond.code yX2_gain cX2_gain 7 (some .int) ∈ xAL := xAL_3 101 rfl rfl
theorem km_L_133 : Cond.methodLink RL 133 yX2_sneeze ∈ xAL := xAL_3 102 rfl rfl
theorem ki_X2_sneeze : Cond.instanceMethod yX2_sneeze ∈ xAL := xAL_3 103 rfl rfl
theorem kse_X2_sneeze : Cond.selects RX2 yX2_sneeze yX2_sneeze ∈ xAL := xAL_3 104 rfl rfl
theorem kc_X2_sneeze : Cond.code yX2_sneeze cX2_sneeze 10 (some .long) ∈ xAL := xAL_3 105 rfl rfl
theorem km_X2_197 : Cond.methodLink RX2 197 yX2_sneezeRefusal ∈ xAL := xAL_3 106 rfl rfl
theorem ki_X2_sneezeRefusal : Cond.instanceMethod yX2_sneezeRefusal ∈ xAL := xAL_3 108 rfl rfl
theorem kc_X2_sneezeRefusal : Cond.code yX2_sneezeRefusal cX2_sneezeRefusal 6 (some .int) ∈ xAL := xAL_3 109 rfl rfl
theorem km_X2_200 : Cond.methodLink RX2 200 yX2_refusedLong ∈ xAL := xAL_3 110 rfl rfl
theorem ki_X2_refusedLong : Cond.instanceMethod yX2_refusedLong ∈ xAL := xAL_3 112 rfl rfl
theorem kc_X2_refusedLong : Cond.code yX2_refusedLong cX2_refusedLong 2 (some .long) ∈ xAL := xAL_3 113 rfl rfl
theorem kk_X2_241 : Cond.constantLong RX2 241 (4000000000000000000) ∈ xAL := xAL_3 114 rfl rfl
theorem km_X2_204 : Cond.methodLink RX2 204 yX2_hasBehindSneezes ∈ xAL := xAL_3 115 rfl rfl
theorem ki_X2_hasBehindSneezes : Cond.instanceMethod yX2_hasBehindSneezes ∈ xAL := xAL_3 117 rfl rfl
theorem kc_X2_hasBehindSneezes : Cond.code yX2_hasBehindSneezes cX2_hasBehindSneezes 7 (some .int) ∈ xAL := xAL_3 118 rfl rfl
theorem km_X2_207 : Cond.methodLink RX2 207 yX2_power ∈ xAL := xAL_3 119 rfl rfl
theorem kst_X2_power : Cond.static yX2_power ∈ xAL := xAL_3 120 rfl rfl
theorem kc_X2_power : Cond.code yX2_power cX2_power 5 (some .long) ∈ xAL := xAL_3 121 rfl rfl
theorem km_X2_211 : Cond.methodLink RX2 211 yX2_partOfFraction ∈ xAL := xAL_3 122 rfl rfl
theorem kst_X2_partOfFraction : Cond.static yX2_partOfFraction ∈ xAL := xAL_3 123 rfl rfl
theorem kc_X2_partOfFraction : Cond.code yX2_partOfFraction cX2_partOfFraction 9 (some .long) ∈ xAL := xAL_3 124 rfl rfl
theorem km_X2_246 : Cond.methodLink RX2 246 yX2_greatestDivisor ∈ xAL := xAL_3 125 rfl rfl
theorem kst_X2_greatestDivisor : Cond.static yX2_greatestDivisor ∈ xAL := xAL_3 126 rfl rfl
theorem kc_X2_greatestDivisor : Cond.code yX2_greatestDivisor cX2_greatestDivisor 11 (some .long) ∈ xAL := xAL_3 127 rfl rfl
theorem km_L_138 : Cond.methodLink RL 138 yX2_mean ∈ xAL := xAL_3 128 rfl rfl
theorem ki_X2_mean : Cond.instanceMethod yX2_mean ∈ xAL := xAL_3 129 rfl rfl
theorem kse_X2_mean : Cond.selects RX2 yX2_mean yX2_mean ∈ xAL := xAL_3 130 rfl rfl
theorem kc_X2_mean : Cond.code yX2_mean cX2_mean 3 (some .long) ∈ xAL := xAL_3 131 rfl rfl
theorem km_X2_215 : Cond.methodLink RX2 215 yJ9_max_7cf53 ∈ xAL := xAL_3 132 rfl rfl
theorem km_L_143 : Cond.methodLink RL 143 yX2_whatIs ∈ xAL := xAL_3 133 rfl rfl
theorem ki_X2_whatIs : Cond.instanceMethod yX2_whatIs ∈ xAL := xAL_3 134 rfl rfl
theorem kse_X2_whatIs : Cond.selects RX2 yX2_whatIs yX2_whatIs ∈ xAL := xAL_3 135 rfl rfl
theorem kc_X2_whatIs : Cond.code yX2_whatIs cX2_whatIs 4 (some .int) ∈ xAL := xAL_3 136 rfl rfl
theorem km_X2_220 : Cond.methodLink RX2 220 yX2_kindsByRow ∈ xAL := xAL_3 137 rfl rfl
theorem ki_X2_kindsByRow : Cond.instanceMethod yX2_kindsByRow ∈ xAL := xAL_3 139 rfl rfl
theorem kc_X2_kindsByRow : Cond.code yX2_kindsByRow cX2_kindsByRow 5 (some .int) ∈ xAL := xAL_3 140 rfl rfl
theorem km_X2_250 : Cond.methodLink RX2 250 yX2_goesAsRow ∈ xAL := xAL_3 141 rfl rfl
theorem ki_X2_goesAsRow : Cond.instanceMethod yX2_goesAsRow ∈ xAL := xAL_3 143 rfl rfl
theorem kc_X2_goesAsRow : Cond.code yX2_goesAsRow cX2_goesAsRow 4 (some .boolean) ∈ xAL := xAL_3 144 rfl rfl
theorem km_X2_223 : Cond.methodLink RX2 223 yX2_figuresByRow ∈ xAL := xAL_3 145 rfl rfl
theorem ki_X2_figuresByRow : Cond.instanceMethod yX2_figuresByRow ∈ xAL := xAL_3 147 rfl rfl
theorem kc_X2_figuresByRow : Cond.code yX2_figuresByRow cX2_figuresByRow 5 (some .int) ∈ xAL := xAL_3 148 rfl rfl
theorem km_L_147 : Cond.methodLink RL 147 yX2_row ∈ xAL := xAL_3 149 rfl rfl
theorem ki_X2_row : Cond.instanceMethod yX2_row ∈ xAL := xAL_3 150 rfl rfl
theorem kse_X2_row : Cond.selects RX2 yX2_row yX2_row ∈ xAL := xAL_3 151 rfl rfl
theorem kc_X2_row : Cond.code yX2_row cX2_row 3 (some .int) ∈ xAL := xAL_3 152 rfl rfl
theorem km_L_151 : Cond.methodLink RL 151 yX2_judge ∈ xAL := xAL_3 153 rfl rfl
theorem ki_X2_judge : Cond.instanceMethod yX2_judge ∈ xAL := xAL_3 154 rfl rfl
theorem kse_X2_judge : Cond.selects RX2 yX2_judge yX2_judge ∈ xAL := xAL_3 155 rfl rfl
theorem kc_X2_judge : Cond.code yX2_judge cX2_judge 3 (some .int) ∈ xAL := xAL_3 156 rfl rfl
theorem km_L_155 : Cond.methodLink RL 155 yX2_clear ∈ xAL := xAL_3 157 rfl rfl
theorem ki_X2_clear : Cond.instanceMethod yX2_clear ∈ xAL := xAL_3 158 rfl rfl
theorem kse_X2_clear : Cond.selects RX2 yX2_clear yX2_clear ∈ xAL := xAL_3 159 rfl rfl
theorem kc_X2_clear : Cond.code yX2_clear cX2_clear 2 (some .int) ∈ xAL := xAL_3 160 rfl rfl
theorem km_L_159 : Cond.methodLink RL 159 yX2_lots ∈ xAL := xAL_3 161 rfl rfl
theorem ki_X2_lots : Cond.instanceMethod yX2_lots ∈ xAL := xAL_3 162 rfl rfl
theorem kse_X2_lots : Cond.selects RX2 yX2_lots yX2_lots ∈ xAL := xAL_3 163 rfl rfl
theorem kc_X2_lots : Cond.code yX2_lots cX2_lots 10 (some .int) ∈ xAL := xAL_3 164 rfl rfl
theorem km_X2_226 : Cond.methodLink RX2 226 yX2_nextSeed ∈ xAL := xAL_3 165 rfl rfl
theorem kst_X2_nextSeed : Cond.static yX2_nextSeed ∈ xAL := xAL_3 166 rfl rfl
theorem kc_X2_nextSeed : Cond.code yX2_nextSeed cX2_nextSeed 1 (some .int) ∈ xAL := xAL_3 167 rfl rfl
theorem kk_X2_254 : Cond.constant RX2 254 (1664525) ∈ xAL := xAL_3 168 rfl rfl
theorem kk_X2_255 : Cond.constant RX2 255 (1013904223) ∈ xAL := xAL_3 169 rfl rfl
theorem km_X2_229 : Cond.methodLink RX2 229 yX2_lotBelow ∈ xAL := xAL_3 170 rfl rfl
theorem kst_X2_lotBelow : Cond.static yX2_lotBelow ∈ xAL := xAL_3 171 rfl rfl
theorem kc_X2_lotBelow : Cond.code yX2_lotBelow cX2_lotBelow 2 (some .int) ∈ xAL := xAL_3 172 rfl rfl
theorem kk_X2_256 : Cond.constant RX2 256 (2147483647) ∈ xAL := xAL_3 173 rfl rfl
theorem km_X2_232 : Cond.methodLink RX2 232 yX0_countDry ∈ xAL := xAL_3 174 rfl rfl
theorem ki_X0_countDry : Cond.instanceMethod yX0_countDry ∈ xAL := xAL_3 175 rfl rfl
theorem kse_X0_countDry : Cond.selects RX0 yX0_countDry yX0_countDry ∈ xAL := xAL_3 176 rfl rfl
theorem kc_X0_countDry : Cond.code yX0_countDry cX0_countDry 1 (some .int) ∈ xAL := xAL_3 177 rfl rfl
theorem km_X0_107 : Cond.methodLink RX0 107 yJ6_bitCount_0f7a4 ∈ xAL := xAL_3 178 rfl rfl
theorem km_L_163 : Cond.methodLink RL 163 yX2_image ∈ xAL := xAL_3 179 rfl rfl
theorem ki_X2_image : Cond.instanceMethod yX2_image ∈ xAL := xAL_3 180 rfl rfl
theorem kse_X2_image : Cond.selects RX2 yX2_image yX2_image ∈ xAL := xAL_3 181 rfl rfl
theorem kc_X2_image : Cond.code yX2_image cX2_image 1 (some .int) ∈ xAL := xAL_3 182 rfl rfl
theorem km_L_167 : Cond.methodLink RL 167 yX2_on ∈ xAL := xAL_3 183 rfl rfl
theorem ki_X2_on : Cond.instanceMethod yX2_on ∈ xAL := xAL_3 184 rfl rfl
theorem kse_X2_on : Cond.selects RX2 yX2_on yX2_on ∈ xAL := xAL_3 185 rfl rfl
theorem kc_X2_on : Cond.code yX2_on cX2_on 1 (some .int) ∈ xAL := xAL_3 186 rfl rfl
theorem km_L_171 : Cond.methodLink RL 171 yX2_count ∈ xAL := xAL_3 187 rfl rfl
theorem ki_X2_count : Cond.instanceMethod yX2_count ∈ xAL := xAL_3 188 rfl rfl
theorem kse_X2_count : Cond.selects RX2 yX2_count yX2_count ∈ xAL := xAL_3 189 rfl rfl
theorem kc_X2_count : Cond.code yX2_count cX2_count 2 (some .int) ∈ xAL := xAL_3 190 rfl rfl
theorem km_X2_238 : Cond.methodLink RX2 238 yX2_countRefusals ∈ xAL := xAL_3 191 rfl rfl
theorem ki_X2_countRefusals : Cond.instanceMethod yX2_countRefusals ∈ xAL := xAL_3 193 rfl rfl
theorem kc_X2_countRefusals : Cond.code yX2_countRefusals cX2_countRefusals 2 (some .int) ∈ xAL := xAL_3 194 rfl rfl
theorem kcl_L_10 : Cond.classLink RL 10 RX3 ∈ xAL := xAL_3 195 rfl rfl
theorem kit_X3 : Cond.instantiable RX3 13 ∈ xAL := xAL_3 196 rfl rfl
theorem km_L_12 : Cond.methodLink RL 12 yX3_init ∈ xAL := xAL_3 197 rfl rfl
theorem ki_X3_init : Cond.instanceMethod yX3_init ∈ xAL := xAL_3 198 rfl rfl
theorem kc_X3_init : Cond.code yX3_init cX3_init 1 none ∈ xAL := xAL_3 199 rfl rfl
theorem km_X3_1 : Cond.methodLink RX3 1 objectInit ∈ xAL := xAL_3 200 rfl rfl
theorem kf_X3_9 : Cond.fieldLink RX3 9 "WellOfTheSilentModel" "s" "[I" ∈ xAL := xAL_3 201 rfl rfl
theorem kf_X3_13 : Cond.fieldLink RX3 13 "WellOfTheSilentModel" "m" "[I" ∈ xAL := xAL_3 202 rfl rfl
theorem kf_X3_16 : Cond.fieldLink RX3 16 "WellOfTheSilentModel" "image" "[I" ∈ xAL := xAL_3 203 rfl rfl
theorem kf_X3_19 : Cond.fieldLink RX3 19 "WellOfTheSilentModel" "was" "[I" ∈ xAL := xAL_3 204 rfl rfl
theorem kf_X3_193 : Cond.fieldLink RX3 193 "WellOfTheSilentModel" "hasImage" "Z" ∈ xAL := xAL_3 205 rfl rfl
theorem kf_X3_22 : Cond.fieldLink RX3 22 "WellOfTheSilentModel" "letters" "[I" ∈ xAL := xAL_3 206 rfl rfl
theorem kf_X3_25 : Cond.fieldLink RX3 25 "WellOfTheSilentModel" "row" "[I" ∈ xAL := xAL_3 207 rfl rfl
theorem kf_X3_28 : Cond.fieldLink RX3 28 "WellOfTheSilentModel" "refused" "[I" ∈ xAL := xAL_3 208 rfl rfl
theorem kf_X3_76 : Cond.fieldLink RX3 76 "WellOfTheSilentModel" "letterMany" "I" ∈ xAL := xAL_3 209 rfl rfl
theorem kf_X3_181 : Cond.fieldLink RX3 181 "WellOfTheSilentModel" "rowMany" "I" ∈ xAL := xAL_3 210 rfl rfl
theorem kf_X3_80 : Cond.fieldLink RX3 80 "WellOfTheSilentModel" "place" "I" ∈ xAL := xAL_3 211 rfl rfl
theorem kf_X3_31 : Cond.fieldLink RX3 31 "WellOfTheSilentModel" "numbers" "[I" ∈ xAL := xAL_3 212 rfl rfl
theorem kf_X3_184 : Cond.fieldLink RX3 184 "WellOfTheSilentModel" "seed" "I" ∈ xAL := xAL_3 213 rfl rfl
theorem km_L_17 : Cond.methodLink RL 17 yX3_letter ∈ xAL := xAL_4 1 rfl rfl
theorem ki_X3_letter : Cond.instanceMethod yX3_letter ∈ xAL := xAL_4 2 rfl rfl
theorem kse_X3_letter : Cond.selects RX3 yX3_letter yX3_letter ∈ xAL := xAL_4 3 rfl rfl
theorem kc_X3_letter : Cond.code yX3_letter cX3_letter 2 (some .int) ∈ xAL := xAL_4 4 rfl rfl
theorem km_X3_36 : Cond.methodLink RX3 36 yX3_no ∈ xAL := xAL_4 5 rfl rfl
theorem ki_X3_no : Cond.instanceMethod yX3_no ∈ xAL := xAL_4 7 rfl rfl
theorem kc_X3_no : Cond.code yX3_no cX3_no 2 (some .int) ∈ xAL := xAL_4 8 rfl rfl
theorem km_L_22 : Cond.methodLink RL 22 yX3_hill ∈ xAL := xAL_4 9 rfl rfl
theorem ki_X3_hill : Cond.instanceMethod yX3_hill ∈ xAL := xAL_4 10 rfl rfl
theorem kse_X3_hill : Cond.selects RX3 yX3_hill yX3_hill ∈ xAL := xAL_4 11 rfl rfl
theorem kc_X3_hill : Cond.code yX3_hill cX3_hill 6 (some .int) ∈ xAL := xAL_4 12 rfl rfl
theorem km_X3_107 : Cond.methodLink RX3 107 yX3_readsStatement ∈ xAL := xAL_4 13 rfl rfl
theorem ki_X3_readsStatement : Cond.instanceMethod yX3_readsStatement ∈ xAL := xAL_4 15 rfl rfl
theorem kc_X3_readsStatement : Cond.code yX3_readsStatement cX3_readsStatement 3 (some .boolean) ∈ xAL := xAL_4 16 rfl rfl
theorem km_X3_83 : Cond.methodLink RX3 83 yX3_here ∈ xAL := xAL_4 17 rfl rfl
theorem ki_X3_here : Cond.instanceMethod yX3_here ∈ xAL := xAL_4 19 rfl rfl
theorem kc_X3_here : Cond.code yX3_here cX3_here 1 (some .int) ∈ xAL := xAL_4 20 rfl rfl
theorem km_X3_90 : Cond.methodLink RX3 90 yX3_readsKind ∈ xAL := xAL_4 21 rfl rfl
theorem ki_X3_readsKind : Cond.instanceMethod yX3_readsKind ∈ xAL := xAL_4 23 rfl rfl
theorem kc_X3_readsKind : Cond.code yX3_readsKind cX3_readsKind 1 (some .boolean) ∈ xAL := xAL_4 24 rfl rfl
theorem km_X3_87 : Cond.methodLink RX3 87 yX3_kindBy ∈ xAL := xAL_4 25 rfl rfl
theorem kst_X3_kindBy : Cond.static yX3_kindBy ∈ xAL := xAL_4 26 rfl rfl
theorem kc_X3_kindBy : Cond.code yX3_kindBy cX3_kindBy 1 (some .int) ∈ xAL := xAL_4 27 rfl rfl
theorem km_X3_94 : Cond.methodLink RX3 94 yX3_readsNumber ∈ xAL := xAL_4 28 rfl rfl
theorem ki_X3_readsNumber : Cond.instanceMethod yX3_readsNumber ∈ xAL := xAL_4 30 rfl rfl
theorem kc_X3_readsNumber : Cond.code yX3_readsNumber cX3_readsNumber 4 (some .boolean) ∈ xAL := xAL_4 31 rfl rfl
theorem km_X3_40 : Cond.methodLink RX3 40 yX3_isIn ∈ xAL := xAL_4 32 rfl rfl
theorem kst_X3_isIn : Cond.static yX3_isIn ∈ xAL := xAL_4 33 rfl rfl
theorem kc_X3_isIn : Cond.code yX3_isIn cX3_isIn 3 (some .boolean) ∈ xAL := xAL_4 34 rfl rfl
theorem km_X3_110 : Cond.methodLink RX3 110 yX3_copies ∈ xAL := xAL_4 35 rfl rfl
theorem kst_X3_copies : Cond.static yX3_copies ∈ xAL := xAL_4 36 rfl rfl
theorem kc_X3_copies : Cond.code yX3_copies cX3_copies 3 none ∈ xAL := xAL_4 37 rfl rfl
theorem km_X3_114 : Cond.methodLink RX3 114 yX3_isDone ∈ xAL := xAL_4 38 rfl rfl
theorem ki_X3_isDone : Cond.instanceMethod yX3_isDone ∈ xAL := xAL_4 40 rfl rfl
theorem kc_X3_isDone : Cond.code yX3_isDone cX3_isDone 4 (some .boolean) ∈ xAL := xAL_4 41 rfl rfl
theorem km_X3_97 : Cond.methodLink RX3 97 yX3_addsPerson ∈ xAL := xAL_4 42 rfl rfl
theorem ki_X3_addsPerson : Cond.instanceMethod yX3_addsPerson ∈ xAL := xAL_4 44 rfl rfl
theorem kc_X3_addsPerson : Cond.code yX3_addsPerson cX3_addsPerson 3 (some .boolean) ∈ xAL := xAL_4 45 rfl rfl
theorem km_X3_52 : Cond.methodLink RX3 52 yX3_of ∈ xAL := xAL_4 46 rfl rfl
theorem kst_X3_of : Cond.static yX3_of ∈ xAL := xAL_4 47 rfl rfl
theorem kc_X3_of : Cond.code yX3_of cX3_of 2 (some .int) ∈ xAL := xAL_4 48 rfl rfl
theorem km_X3_100 : Cond.methodLink RX3 100 yX3_isPerson ∈ xAL := xAL_4 49 rfl rfl
theorem ki_X3_isPerson : Cond.instanceMethod yX3_isPerson ∈ xAL := xAL_4 51 rfl rfl
theorem kc_X3_isPerson : Cond.code yX3_isPerson cX3_isPerson 2 (some .boolean) ∈ xAL := xAL_4 52 rfl rfl
theorem km_X3_104 : Cond.methodLink RX3 104 yX3_hoursOn ∈ xAL := xAL_4 53 rfl rfl
theorem kst_X3_hoursOn : Cond.static yX3_hoursOn ∈ xAL := xAL_4 54 rfl rfl
theorem kc_X3_hoursOn : Cond.code yX3_hoursOn cX3_hoursOn 3 none ∈ xAL := xAL_4 55 rfl rfl
theorem km_X3_73 : Cond.methodLink RX3 73 yX3_hour ∈ xAL := xAL_4 56 rfl rfl
theorem kst_X3_hour : Cond.static yX3_hour ∈ xAL := xAL_4 57 rfl rfl
theorem kc_X3_hour : Cond.code yX3_hour cX3_hour 5 none ∈ xAL := xAL_4 58 rfl rfl
theorem km_X3_44 : Cond.methodLink RX3 44 yX3_least ∈ xAL := xAL_4 59 rfl rfl
theorem kst_X3_least : Cond.static yX3_least ∈ xAL := xAL_4 60 rfl rfl
theorem kc_X3_least : Cond.code yX3_least cX3_least 2 (some .int) ∈ xAL := xAL_4 61 rfl rfl
theorem km_X3_62 : Cond.methodLink RX3 62 yX3_speaksIn ∈ xAL := xAL_4 62 rfl rfl
theorem kst_X3_speaksIn : Cond.static yX3_speaksIn ∈ xAL := xAL_4 63 rfl rfl
theorem kc_X3_speaksIn : Cond.code yX3_speaksIn cX3_speaksIn 2 (some .int) ∈ xAL := xAL_4 64 rfl rfl
theorem km_X3_48 : Cond.methodLink RX3 48 yX3_has ∈ xAL := xAL_4 65 rfl rfl
theorem kst_X3_has : Cond.static yX3_has ∈ xAL := xAL_4 66 rfl rfl
theorem kc_X3_has : Cond.code yX3_has cX3_has 2 (some .boolean) ∈ xAL := xAL_4 67 rfl rfl
theorem km_X3_55 : Cond.methodLink RX3 55 yX3_speaksBy ∈ xAL := xAL_4 68 rfl rfl
theorem kst_X3_speaksBy : Cond.static yX3_speaksBy ∈ xAL := xAL_4 69 rfl rfl
theorem kc_X3_speaksBy : Cond.code yX3_speaksBy cX3_speaksBy 3 (some .int) ∈ xAL := xAL_4 70 rfl rfl
theorem km_X3_66 : Cond.methodLink RX3 66 yX3_draws ∈ xAL := xAL_4 71 rfl rfl
theorem kst_X3_draws : Cond.static yX3_draws ∈ xAL := xAL_4 72 rfl rfl
theorem kc_X3_draws : Cond.code yX3_draws cX3_draws 4 none ∈ xAL := xAL_4 73 rfl rfl
theorem km_X3_58 : Cond.methodLink RX3 58 yX3_mayDraw ∈ xAL := xAL_4 74 rfl rfl
theorem kst_X3_mayDraw : Cond.static yX3_mayDraw ∈ xAL := xAL_4 75 rfl rfl
theorem kc_X3_mayDraw : Cond.code yX3_mayDraw cX3_mayDraw 2 (some .boolean) ∈ xAL := xAL_4 76 rfl rfl
theorem km_X3_70 : Cond.methodLink RX3 70 yX3_drinksBy ∈ xAL := xAL_4 77 rfl rfl
theorem kst_X3_drinksBy : Cond.static yX3_drinksBy ∈ xAL := xAL_4 78 rfl rfl
theorem kc_X3_drinksBy : Cond.code yX3_drinksBy cX3_drinksBy 1 (some .int) ∈ xAL := xAL_4 79 rfl rfl
theorem km_L_27 : Cond.methodLink RL 27 yX3_person ∈ xAL := xAL_4 80 rfl rfl
theorem ki_X3_person : Cond.instanceMethod yX3_person ∈ xAL := xAL_4 81 rfl rfl
theorem kse_X3_person : Cond.selects RX3 yX3_person yX3_person ∈ xAL := xAL_4 82 rfl rfl
theorem kc_X3_person : Cond.code yX3_person cX3_person 3 (some .int) ∈ xAL := xAL_4 83 rfl rfl
theorem km_L_31 : Cond.methodLink RL 31 yX3_speaks ∈ xAL := xAL_4 84 rfl rfl
theorem ki_X3_speaks : Cond.instanceMethod yX3_speaks ∈ xAL := xAL_4 85 rfl rfl
theorem kse_X3_speaks : Cond.selects RX3 yX3_speaks yX3_speaks ∈ xAL := xAL_4 86 rfl rfl
theorem kc_X3_speaks : Cond.code yX3_speaks cX3_speaks 2 (some .int) ∈ xAL := xAL_4 87 rfl rfl
theorem km_X3_117 : Cond.methodLink RX3 117 yX3_flagged ∈ xAL := xAL_4 88 rfl rfl
theorem kst_X3_flagged : Cond.static yX3_flagged ∈ xAL := xAL_4 89 rfl rfl
theorem kc_X3_flagged : Cond.code yX3_flagged cX3_flagged 4 (some .int) ∈ xAL := xAL_4 90 rfl rfl
theorem km_X3_120 : Cond.methodLink RX3 120 yX3_bits ∈ xAL := xAL_4 91 rfl rfl
theorem kst_X3_bits : Cond.static yX3_bits ∈ xAL := xAL_4 92 rfl rfl
theorem kc_X3_bits : Cond.code yX3_bits cX3_bits 3 (some .int) ∈ xAL := xAL_4 93 rfl rfl
theorem km_L_35 : Cond.methodLink RL 35 yX3_befriends ∈ xAL := xAL_4 94 rfl rfl
theorem ki_X3_befriends : Cond.instanceMethod yX3_befriends ∈ xAL := xAL_4 95 rfl rfl
theorem kse_X3_befriends : Cond.selects RX3 yX3_befriends yX3_befriends ∈ xAL := xAL_4 96 rfl rfl
theorem kc_X3_befriends : Cond.code yX3_befriends cX3_befriends 3 (some .int) ∈ xAL := xAL_4 97 rfl rfl
theorem km_X3_123 : Cond.methodLink RX3 123 yX3_sets ∈ xAL := xAL_4 98 rfl rfl
theorem ki_X3_sets : Cond.instanceMethod yX3_sets ∈ xAL := xAL_4 100 rfl rfl
theorem kc_X3_sets : Cond.code yX3_sets cX3_sets 4 (some .int) ∈ xAL := xAL_4 101 rfl rfl
theorem km_L_39 : Cond.methodLink RL 39 yX3_pours ∈ xAL := xAL_4 102 rfl rfl
theorem ki_X3_pours : Cond.instanceMethod yX3_pours ∈ xAL := xAL_4 103 rfl rfl
theorem kse_X3_pours : Cond.selects RX3 yX3_pours yX3_pours ∈ xAL := xAL_4 104 rfl rfl
theorem kc_X3_pours : Cond.code yX3_pours cX3_pours 3 (some .int) ∈ xAL := xAL_4 105 rfl rfl
theorem km_X3_130 : Cond.methodLink RX3 130 yX3_setsOf ∈ xAL := xAL_4 106 rfl rfl
theorem ki_X3_setsOf : Cond.instanceMethod yX3_setsOf ∈ xAL := xAL_4 108 rfl rfl
theorem kc_X3_setsOf : Cond.code yX3_setsOf cX3_setsOf 6 (some .int) ∈ xAL := xAL_4 109 rfl rfl
theorem km_X3_126 : Cond.methodLink RX3 126 yX3_wrongBy ∈ xAL := xAL_4 110 rfl rfl
theorem kst_X3_wrongBy : Cond.static yX3_wrongBy ∈ xAL := xAL_4 111 rfl rfl
theorem kc_X3_wrongBy : Cond.code yX3_wrongBy cX3_wrongBy 3 (some .int) ∈ xAL := xAL_4 112 rfl rfl
theorem km_L_43 : Cond.methodLink RL 43 yX3_cans ∈ xAL := xAL_4 113 rfl rfl
theorem ki_X3_cans : Cond.instanceMethod yX3_cans ∈ xAL := xAL_4 114 rfl rfl
theorem kse_X3_cans : Cond.selects RX3 yX3_cans yX3_cans ∈ xAL := xAL_4 115 rfl rfl
theorem kc_X3_cans : Cond.code yX3_cans cX3_cans 3 (some .int) ∈ xAL := xAL_4 116 rfl rfl
theorem km_L_47 : Cond.methodLink RL 47 yX3_water ∈ xAL := xAL_4 117 rfl rfl
theorem ki_X3_water : Cond.instanceMethod yX3_water ∈ xAL := xAL_4 118 rfl rfl
theorem kse_X3_water : Cond.selects RX3 yX3_water yX3_water ∈ xAL := xAL_4 119 rfl rfl
theorem kc_X3_water : Cond.code yX3_water cX3_water 2 (some .int) ∈ xAL := xAL_4 120 rfl rfl
theorem km_X3_134 : Cond.methodLink RX3 134 yX3_setsIn ∈ xAL := xAL_4 121 rfl rfl
theorem ki_X3_setsIn : Cond.instanceMethod yX3_setsIn ∈ xAL := xAL_4 123 rfl rfl
theorem kc_X3_setsIn : Cond.code yX3_setsIn cX3_setsIn 5 (some .int) ∈ xAL := xAL_4 124 rfl rfl
theorem km_L_51 : Cond.methodLink RL 51 yX3_flow ∈ xAL := xAL_4 125 rfl rfl
theorem ki_X3_flow : Cond.instanceMethod yX3_flow ∈ xAL := xAL_4 126 rfl rfl
theorem kse_X3_flow : Cond.selects RX3 yX3_flow yX3_flow ∈ xAL := xAL_4 127 rfl rfl
theorem kc_X3_flow : Cond.code yX3_flow cX3_flow 2 (some .int) ∈ xAL := xAL_4 128 rfl rfl
theorem km_L_56 : Cond.methodLink RL 56 yX3_turn ∈ xAL := xAL_4 129 rfl rfl
theorem ki_X3_turn : Cond.instanceMethod yX3_turn ∈ xAL := xAL_4 130 rfl rfl
theorem kse_X3_turn : Cond.selects RX3 yX3_turn yX3_turn ∈ xAL := xAL_4 131 rfl rfl
theorem kc_X3_turn : Cond.code yX3_turn cX3_turn 6 (some .int) ∈ xAL := xAL_4 132 rfl rfl
theorem km_L_60 : Cond.methodLink RL 60 yX3_hours ∈ xAL := xAL_4 133 rfl rfl
theorem ki_X3_hours : Cond.instanceMethod yX3_hours ∈ xAL := xAL_4 134 rfl rfl
theorem kse_X3_hours : Cond.selects RX3 yX3_hours yX3_hours ∈ xAL := xAL_4 135 rfl rfl
theorem kc_X3_hours : Cond.code yX3_hours cX3_hours 2 (some .int) ∈ xAL := xAL_4 136 rfl rfl
theorem km_L_64 : Cond.methodLink RL 64 yX3_hasThen ∈ xAL := xAL_4 137 rfl rfl
theorem ki_X3_hasThen : Cond.instanceMethod yX3_hasThen ∈ xAL := xAL_4 138 rfl rfl
theorem kse_X3_hasThen : Cond.selects RX3 yX3_hasThen yX3_hasThen ∈ xAL := xAL_4 139 rfl rfl
theorem kc_X3_hasThen : Cond.code yX3_hasThen cX3_hasThen 4 (some .int) ∈ xAL := xAL_4 140 rfl rfl
theorem km_X3_137 : Cond.methodLink RX3 137 yX3_takes ∈ xAL := xAL_4 141 rfl rfl
theorem ki_X3_takes : Cond.instanceMethod yX3_takes ∈ xAL := xAL_4 143 rfl rfl
theorem kc_X3_takes : Cond.code yX3_takes cX3_takes 2 none ∈ xAL := xAL_4 144 rfl rfl
theorem km_L_68 : Cond.methodLink RL 68 yX3_then ∈ xAL := xAL_4 145 rfl rfl
theorem ki_X3_then : Cond.instanceMethod yX3_then ∈ xAL := xAL_4 146 rfl rfl
theorem kse_X3_then : Cond.selects RX3 yX3_then yX3_then ∈ xAL := xAL_4 147 rfl rfl
theorem kc_X3_then : Cond.code yX3_then cX3_then 4 (some .int) ∈ xAL := xAL_4 148 rfl rfl
theorem km_X3_141 : Cond.methodLink RX3 141 yX3_allHave ∈ xAL := xAL_4 149 rfl rfl
theorem kst_X3_allHave : Cond.static yX3_allHave ∈ xAL := xAL_4 150 rfl rfl
theorem kc_X3_allHave : Cond.code yX3_allHave cX3_allHave 3 (some .int) ∈ xAL := xAL_4 151 rfl rfl
theorem km_L_72 : Cond.methodLink RL 72 yX3_dry ∈ xAL := xAL_4 152 rfl rfl
theorem ki_X3_dry : Cond.instanceMethod yX3_dry ∈ xAL := xAL_4 153 rfl rfl
theorem kse_X3_dry : Cond.selects RX3 yX3_dry yX3_dry ∈ xAL := xAL_4 154 rfl rfl
theorem kc_X3_dry : Cond.code yX3_dry cX3_dry 2 (some .int) ∈ xAL := xAL_4 155 rfl rfl
theorem km_X3_149 : Cond.methodLink RX3 149 yX3_firstDry ∈ xAL := xAL_4 156 rfl rfl
theorem ki_X3_firstDry : Cond.instanceMethod yX3_firstDry ∈ xAL := xAL_4 158 rfl rfl
theorem kc_X3_firstDry : Cond.code yX3_firstDry cX3_firstDry 5 (some .int) ∈ xAL := xAL_4 159 rfl rfl
theorem kk_X3_145 : Cond.constant RX3 145 (1000000000) ∈ xAL := xAL_4 160 rfl rfl
theorem km_X3_146 : Cond.methodLink RX3 146 yX3_whenNothing ∈ xAL := xAL_4 161 rfl rfl
theorem ki_X3_whenNothing : Cond.instanceMethod yX3_whenNothing ∈ xAL := xAL_4 163 rfl rfl
theorem kc_X3_whenNothing : Cond.code yX3_whenNothing cX3_whenNothing 3 (some .int) ∈ xAL := xAL_4 164 rfl rfl
theorem km_L_76 : Cond.methodLink RL 76 yX3_empty ∈ xAL := xAL_4 165 rfl rfl
theorem ki_X3_empty : Cond.instanceMethod yX3_empty ∈ xAL := xAL_4 166 rfl rfl
theorem kse_X3_empty : Cond.selects RX3 yX3_empty yX3_empty ∈ xAL := xAL_4 167 rfl rfl
theorem kc_X3_empty : Cond.code yX3_empty cX3_empty 1 (some .int) ∈ xAL := xAL_4 168 rfl rfl
theorem km_L_80 : Cond.methodLink RL 80 yX3_flowBest ∈ xAL := xAL_4 169 rfl rfl
theorem ki_X3_flowBest : Cond.instanceMethod yX3_flowBest ∈ xAL := xAL_4 170 rfl rfl
theorem kse_X3_flowBest : Cond.selects RX3 yX3_flowBest yX3_flowBest ∈ xAL := xAL_4 171 rfl rfl
theorem kc_X3_flowBest : Cond.code yX3_flowBest cX3_flowBest 4 (some .int) ∈ xAL := xAL_4 172 rfl rfl
theorem km_X3_155 : Cond.methodLink RX3 155 yX3_isNoneDry ∈ xAL := xAL_4 173 rfl rfl
theorem ki_X3_isNoneDry : Cond.instanceMethod yX3_isNoneDry ∈ xAL := xAL_4 175 rfl rfl
theorem kc_X3_isNoneDry : Cond.code yX3_isNoneDry cX3_isNoneDry 4 (some .boolean) ∈ xAL := xAL_4 176 rfl rfl
theorem km_X3_152 : Cond.methodLink RX3 152 yX3_dryOnes ∈ xAL := xAL_4 177 rfl rfl
theorem kst_X3_dryOnes : Cond.static yX3_dryOnes ∈ xAL := xAL_4 178 rfl rfl
theorem kc_X3_dryOnes : Cond.code yX3_dryOnes cX3_dryOnes 3 (some .int) ∈ xAL := xAL_4 179 rfl rfl
theorem km_L_84 : Cond.methodLink RL 84 yX3_canBest ∈ xAL := xAL_4 180 rfl rfl
theorem ki_X3_canBest : Cond.instanceMethod yX3_canBest ∈ xAL := xAL_4 181 rfl rfl
theorem kse_X3_canBest : Cond.selects RX3 yX3_canBest yX3_canBest ∈ xAL := xAL_4 182 rfl rfl
theorem kc_X3_canBest : Cond.code yX3_canBest cX3_canBest 5 (some .int) ∈ xAL := xAL_4 183 rfl rfl
theorem km_L_88 : Cond.methodLink RL 88 yX3_friendBest ∈ xAL := xAL_4 184 rfl rfl
theorem ki_X3_friendBest : Cond.instanceMethod yX3_friendBest ∈ xAL := xAL_4 185 rfl rfl
theorem kse_X3_friendBest : Cond.selects RX3 yX3_friendBest yX3_friendBest ∈ xAL := xAL_4 186 rfl rfl
theorem kc_X3_friendBest : Cond.code yX3_friendBest cX3_friendBest 7 (some .int) ∈ xAL := xAL_4 187 rfl rfl
theorem km_X3_158 : Cond.methodLink RX3 158 yX3_leastHas ∈ xAL := xAL_4 188 rfl rfl
theorem kst_X3_leastHas : Cond.static yX3_leastHas ∈ xAL := xAL_4 189 rfl rfl
theorem kc_X3_leastHas : Cond.code yX3_leastHas cX3_leastHas 3 (some .int) ∈ xAL := xAL_4 190 rfl rfl
theorem km_L_92 : Cond.methodLink RL 92 yX3_hush ∈ xAL := xAL_4 191 rfl rfl
theorem ki_X3_hush : Cond.instanceMethod yX3_hush ∈ xAL := xAL_4 192 rfl rfl
theorem kse_X3_hush : Cond.selects RX3 yX3_hush yX3_hush ∈ xAL := xAL_4 193 rfl rfl
theorem kc_X3_hush : Cond.code yX3_hush cX3_hush 6 (some .int) ∈ xAL := xAL_4 194 rfl rfl
theorem km_L_96 : Cond.methodLink RL 96 yX3_fewest ∈ xAL := xAL_4 195 rfl rfl
theorem ki_X3_fewest : Cond.instanceMethod yX3_fewest ∈ xAL := xAL_4 196 rfl rfl
theorem kse_X3_fewest : Cond.selects RX3 yX3_fewest yX3_fewest ∈ xAL := xAL_4 197 rfl rfl
theorem kc_X3_fewest : Cond.code yX3_fewest cX3_fewest 5 (some .int) ∈ xAL := xAL_4 198 rfl rfl
theorem km_L_100 : Cond.methodLink RL 100 yX3_word ∈ xAL := xAL_4 199 rfl rfl
theorem ki_X3_word : Cond.instanceMethod yX3_word ∈ xAL := xAL_4 200 rfl rfl
theorem kse_X3_word : Cond.selects RX3 yX3_word yX3_word ∈ xAL := xAL_4 201 rfl rfl
theorem kc_X3_word : Cond.code yX3_word cX3_word 6 (some .int) ∈ xAL := xAL_4 202 rfl rfl
theorem km_L_104 : Cond.methodLink RL 104 yX3_send ∈ xAL := xAL_4 203 rfl rfl
theorem ki_X3_send : Cond.instanceMethod yX3_send ∈ xAL := xAL_4 204 rfl rfl
theorem kse_X3_send : Cond.selects RX3 yX3_send yX3_send ∈ xAL := xAL_4 205 rfl rfl
theorem kc_X3_send : Cond.code yX3_send cX3_send 8 (some .int) ∈ xAL := xAL_4 206 rfl rfl
theorem km_L_108 : Cond.methodLink RL 108 yX3_next ∈ xAL := xAL_4 207 rfl rfl
theorem ki_X3_next : Cond.instanceMethod yX3_next ∈ xAL := xAL_4 208 rfl rfl
theorem kse_X3_next : Cond.selects RX3 yX3_next yX3_next ∈ xAL := xAL_4 209 rfl rfl
theorem kc_X3_next : Cond.code yX3_next cX3_next 2 (some .int) ∈ xAL := xAL_4 210 rfl rfl
theorem km_L_112 : Cond.methodLink RL 112 yX3_richest ∈ xAL := xAL_4 211 rfl rfl
theorem ki_X3_richest : Cond.instanceMethod yX3_richest ∈ xAL := xAL_4 212 rfl rfl
theorem kse_X3_richest : Cond.selects RX3 yX3_richest yX3_richest ∈ xAL := xAL_4 213 rfl rfl
theorem kc_X3_richest : Cond.code yX3_richest cX3_richest 2 (some .int) ∈ xAL := xAL_4 214 rfl rfl
theorem km_X3_161 : Cond.methodLink RX3 161 yX3_extreme ∈ xAL := xAL_4 215 rfl rfl
theorem ki_X3_extreme : Cond.instanceMethod yX3_extreme ∈ xAL := xAL_4 217 rfl rfl
theorem kc_X3_extreme : Cond.code yX3_extreme cX3_extreme 7 (some .int) ∈ xAL := xAL_4 218 rfl rfl
theorem km_L_116 : Cond.methodLink RL 116 yX3_quiet ∈ xAL := xAL_4 219 rfl rfl
theorem ki_X3_quiet : Cond.instanceMethod yX3_quiet ∈ xAL := xAL_4 220 rfl rfl
theorem kse_X3_quiet : Cond.selects RX3 yX3_quiet yX3_quiet ∈ xAL := xAL_4 221 rfl rfl
theorem kc_X3_quiet : Cond.code yX3_quiet cX3_quiet 5 (some .int) ∈ xAL := xAL_4 222 rfl rfl
theorem km_L_120 : Cond.methodLink RL 120 yX3_thirst ∈ xAL := xAL_4 223 rfl rfl
theorem ki_X3_thirst : Cond.instanceMethod yX3_thirst ∈ xAL := xAL_4 224 rfl rfl
theorem kse_X3_thirst : Cond.selects RX3 yX3_thirst yX3_thirst ∈ xAL := xAL_4 225 rfl rfl
theorem kc_X3_thirst : Cond.code yX3_thirst cX3_thirst 3 (some .int) ∈ xAL := xAL_4 226 rfl rfl
theorem km_L_124 : Cond.methodLink RL 124 yX3_lasts ∈ xAL := xAL_4 227 rfl rfl
theorem ki_X3_lasts : Cond.instanceMethod yX3_lasts ∈ xAL := xAL_4 228 rfl rfl
theorem kse_X3_lasts : Cond.selects RX3 yX3_lasts yX3_lasts ∈ xAL := xAL_4 229 rfl rfl
theorem kc_X3_lasts : Cond.code yX3_lasts cX3_lasts 2 (some .int) ∈ xAL := xAL_4 230 rfl rfl
theorem km_L_128 : Cond.methodLink RL 128 yX3_carries ∈ xAL := xAL_4 231 rfl rfl
theorem ki_X3_carries : Cond.instanceMethod yX3_carries ∈ xAL := xAL_4 232 rfl rfl
theorem kse_X3_carries : Cond.selects RX3 yX3_carries yX3_carries ∈ xAL := xAL_4 233 rfl rfl
theorem kc_X3_carries : Cond.code yX3_carries cX3_carries 6 (some .int) ∈ xAL := xAL_4 234 rfl rfl
theorem km_L_132 : Cond.methodLink RL 132 yX3_two ∈ xAL := xAL_4 235 rfl rfl
theorem ki_X3_two : Cond.instanceMethod yX3_two ∈ xAL := xAL_4 236 rfl rfl
theorem kse_X3_two : Cond.selects RX3 yX3_two yX3_two ∈ xAL := xAL_4 237 rfl rfl
theorem kc_X3_two : Cond.code yX3_two cX3_two 8 (some .int) ∈ xAL := xAL_4 238 rfl rfl
theorem km_X3_165 : Cond.methodLink RX3 165 yX3_hasBy ∈ xAL := xAL_4 239 rfl rfl
theorem ki_X3_hasBy : Cond.instanceMethod yX3_hasBy ∈ xAL := xAL_5 1 rfl rfl
theorem kc_X3_hasBy : Cond.code yX3_hasBy cX3_hasBy 7 (some .int) ∈ xAL := xAL_5 2 rfl rfl
theorem km_L_137 : Cond.methodLink RL 137 yX3_sneeze ∈ xAL := xAL_5 3 rfl rfl
theorem ki_X3_sneeze : Cond.instanceMethod yX3_sneeze ∈ xAL := xAL_5 4 rfl rfl
theorem kse_X3_sneeze : Cond.selects RX3 yX3_sneeze yX3_sneeze ∈ xAL := xAL_5 5 rfl rfl
theorem kc_X3_sneeze : Cond.code yX3_sneeze cX3_sneeze 14 (some .long) ∈ xAL := xAL_5 6 rfl rfl
theorem km_X3_173 : Cond.methodLink RX3 173 yX3_noWide ∈ xAL := xAL_5 7 rfl rfl
theorem ki_X3_noWide : Cond.instanceMethod yX3_noWide ∈ xAL := xAL_5 9 rfl rfl
theorem kc_X3_noWide : Cond.code yX3_noWide cX3_noWide 2 (some .long) ∈ xAL := xAL_5 10 rfl rfl
theorem kk_X3_34 : Cond.constantLong RX3 34 (4000000000000000000) ∈ xAL := xAL_5 11 rfl rfl
theorem km_X3_177 : Cond.methodLink RX3 177 yX3_partOf ∈ xAL := xAL_5 12 rfl rfl
theorem kst_X3_partOf : Cond.static yX3_partOf ∈ xAL := xAL_5 13 rfl rfl
theorem kc_X3_partOf : Cond.code yX3_partOf cX3_partOf 5 (some .long) ∈ xAL := xAL_5 14 rfl rfl
theorem km_X3_169 : Cond.methodLink RX3 169 yX3_gcd ∈ xAL := xAL_5 15 rfl rfl
theorem kst_X3_gcd : Cond.static yX3_gcd ∈ xAL := xAL_5 16 rfl rfl
theorem kc_X3_gcd : Cond.code yX3_gcd cX3_gcd 10 (some .long) ∈ xAL := xAL_5 17 rfl rfl
theorem km_L_142 : Cond.methodLink RL 142 yX3_mean ∈ xAL := xAL_5 18 rfl rfl
theorem ki_X3_mean : Cond.instanceMethod yX3_mean ∈ xAL := xAL_5 19 rfl rfl
theorem kse_X3_mean : Cond.selects RX3 yX3_mean yX3_mean ∈ xAL := xAL_5 20 rfl rfl
theorem kc_X3_mean : Cond.code yX3_mean cX3_mean 2 (some .long) ∈ xAL := xAL_5 21 rfl rfl
theorem km_L_146 : Cond.methodLink RL 146 yX3_whatIs ∈ xAL := xAL_5 22 rfl rfl
theorem ki_X3_whatIs : Cond.instanceMethod yX3_whatIs ∈ xAL := xAL_5 23 rfl rfl
theorem kse_X3_whatIs : Cond.selects RX3 yX3_whatIs yX3_whatIs ∈ xAL := xAL_5 24 rfl rfl
theorem kc_X3_whatIs : Cond.code yX3_whatIs cX3_whatIs 7 (some .int) ∈ xAL := xAL_5 25 rfl rfl
theorem km_L_150 : Cond.methodLink RL 150 yX3_row ∈ xAL := xAL_5 26 rfl rfl
theorem ki_X3_row : Cond.instanceMethod yX3_row ∈ xAL := xAL_5 27 rfl rfl
theorem kse_X3_row : Cond.selects RX3 yX3_row yX3_row ∈ xAL := xAL_5 28 rfl rfl
theorem kc_X3_row : Cond.code yX3_row cX3_row 3 (some .int) ∈ xAL := xAL_5 29 rfl rfl
theorem km_L_154 : Cond.methodLink RL 154 yX3_judge ∈ xAL := xAL_5 30 rfl rfl
theorem ki_X3_judge : Cond.instanceMethod yX3_judge ∈ xAL := xAL_5 31 rfl rfl
theorem kse_X3_judge : Cond.selects RX3 yX3_judge yX3_judge ∈ xAL := xAL_5 32 rfl rfl
theorem kc_X3_judge : Cond.code yX3_judge cX3_judge 3 (some .int) ∈ xAL := xAL_5 33 rfl rfl
theorem km_L_158 : Cond.methodLink RL 158 yX3_clear ∈ xAL := xAL_5 34 rfl rfl
theorem ki_X3_clear : Cond.instanceMethod yX3_clear ∈ xAL := xAL_5 35 rfl rfl
theorem kse_X3_clear : Cond.selects RX3 yX3_clear yX3_clear ∈ xAL := xAL_5 36 rfl rfl
theorem kc_X3_clear : Cond.code yX3_clear cX3_clear 2 (some .int) ∈ xAL := xAL_5 37 rfl rfl
theorem km_L_162 : Cond.methodLink RL 162 yX3_lots ∈ xAL := xAL_5 38 rfl rfl
theorem ki_X3_lots : Cond.instanceMethod yX3_lots ∈ xAL := xAL_5 39 rfl rfl
theorem kse_X3_lots : Cond.selects RX3 yX3_lots yX3_lots ∈ xAL := xAL_5 40 rfl rfl
theorem kc_X3_lots : Cond.code yX3_lots cX3_lots 7 (some .int) ∈ xAL := xAL_5 41 rfl rfl
theorem km_X3_190 : Cond.methodLink RX3 190 yX3_drawn ∈ xAL := xAL_5 42 rfl rfl
theorem ki_X3_drawn : Cond.instanceMethod yX3_drawn ∈ xAL := xAL_5 44 rfl rfl
theorem kc_X3_drawn : Cond.code yX3_drawn cX3_drawn 2 (some .int) ∈ xAL := xAL_5 45 rfl rfl
theorem kk_X3_187 : Cond.constant RX3 187 (1664525) ∈ xAL := xAL_5 46 rfl rfl
theorem kk_X3_188 : Cond.constant RX3 188 (1013904223) ∈ xAL := xAL_5 47 rfl rfl
theorem kk_X3_189 : Cond.constant RX3 189 (2147483647) ∈ xAL := xAL_5 48 rfl rfl
theorem km_L_166 : Cond.methodLink RL 166 yX3_image ∈ xAL := xAL_5 49 rfl rfl
theorem ki_X3_image : Cond.instanceMethod yX3_image ∈ xAL := xAL_5 50 rfl rfl
theorem kse_X3_image : Cond.selects RX3 yX3_image yX3_image ∈ xAL := xAL_5 51 rfl rfl
theorem kc_X3_image : Cond.code yX3_image cX3_image 1 (some .int) ∈ xAL := xAL_5 52 rfl rfl
theorem km_L_170 : Cond.methodLink RL 170 yX3_on ∈ xAL := xAL_5 53 rfl rfl
theorem ki_X3_on : Cond.instanceMethod yX3_on ∈ xAL := xAL_5 54 rfl rfl
theorem kse_X3_on : Cond.selects RX3 yX3_on yX3_on ∈ xAL := xAL_5 55 rfl rfl
theorem kc_X3_on : Cond.code yX3_on cX3_on 1 (some .int) ∈ xAL := xAL_5 56 rfl rfl
theorem km_L_174 : Cond.methodLink RL 174 yX3_count ∈ xAL := xAL_5 57 rfl rfl
theorem ki_X3_count : Cond.instanceMethod yX3_count ∈ xAL := xAL_5 58 rfl rfl
theorem kse_X3_count : Cond.selects RX3 yX3_count yX3_count ∈ xAL := xAL_5 59 rfl rfl
theorem kc_X3_count : Cond.code yX3_count cX3_count 2 (some .int) ∈ xAL := xAL_5 60 rfl rfl
theorem kf_J0_9 : Cond.fieldLink RJ0 9 "java/lang/String" "value" "[B" ∈ xAL := xAL_5 61 rfl rfl
theorem kf_J0_15 : Cond.fieldLink RJ0 15 "java/lang/String" "coder" "B" ∈ xAL := xAL_5 62 rfl rfl
theorem kse_X2_refused : Cond.selects RX2 yX2_refused yX2_refused ∈ xAL := xAL_p1 0 rfl
theorem kse_X1_letterAt : Cond.selects RX1 yX1_letterAt yX1_letterAt ∈ xAL := xAL_p1 1 rfl
theorem kse_X2_thoughtOfNow : Cond.selects RX2 yX2_thoughtOfNow yX2_thoughtOfNow ∈ xAL := xAL_p1 2 rfl
theorem kse_X1_letCome : Cond.selects RX1 yX1_letCome yX1_letCome ∈ xAL := xAL_p1 3 rfl
theorem kse_X1_digitAt : Cond.selects RX1 yX1_digitAt yX1_digitAt ∈ xAL := xAL_p1 4 rfl
theorem kse_X1_twoDigitsAt : Cond.selects RX1 yX1_twoDigitsAt yX1_twoDigitsAt ∈ xAL := xAL_p1 5 rfl
theorem kse_X0_beginDay : Cond.selects RX0 yX0_beginDay yX0_beginDay ∈ xAL := xAL_p1 6 rfl
theorem kse_X0_letSpeakAt : Cond.selects RX0 yX0_letSpeakAt yX0_letSpeakAt ∈ xAL := xAL_p1 7 rfl
theorem kse_X0_mayDraw : Cond.selects RX0 yX0_mayDraw yX0_mayDraw ∈ xAL := xAL_p1 8 rfl
theorem kse_X0_letDraw : Cond.selects RX0 yX0_letDraw yX0_letDraw ∈ xAL := xAL_p1 9 rfl
theorem kse_X0_givesToFriend : Cond.selects RX0 yX0_givesToFriend yX0_givesToFriend ∈ xAL := xAL_p1 10 rfl
theorem kse_X0_letDrink : Cond.selects RX0 yX0_letDrink yX0_letDrink ∈ xAL := xAL_p1 11 rfl
theorem kse_X2_oneRefusal : Cond.selects RX2 yX2_oneRefusal yX2_oneRefusal ∈ xAL := xAL_p1 12 rfl
theorem kse_X2_thoughtBehind : Cond.selects RX2 yX2_thoughtBehind yX2_thoughtBehind ∈ xAL := xAL_p1 13 rfl
theorem kse_X2_firstDry : Cond.selects RX2 yX2_firstDry yX2_firstDry ∈ xAL := xAL_p1 14 rfl
theorem kse_X0_dryPeople : Cond.selects RX0 yX0_dryPeople yX0_dryPeople ∈ xAL := xAL_p1 15 rfl
theorem kse_X2_isWetWithHushed : Cond.selects RX2 yX2_isWetWithHushed yX2_isWetWithHushed ∈ xAL := xAL_p2 0 rfl
theorem kse_X2_othersWetBySending : Cond.selects RX2 yX2_othersWetBySending yX2_othersWetBySending ∈ xAL := xAL_p2 1 rfl
theorem kse_X2_rank : Cond.selects RX2 yX2_rank yX2_rank ∈ xAL := xAL_p2 2 rfl
theorem kse_X2_friendsOfOthers : Cond.selects RX2 yX2_friendsOfOthers yX2_friendsOfOthers ∈ xAL := xAL_p2 3 rfl
theorem kse_X2_mutualTwos : Cond.selects RX2 yX2_mutualTwos yX2_mutualTwos ∈ xAL := xAL_p2 4 rfl
theorem kse_X2_gain : Cond.selects RX2 yX2_gain yX2_gain ∈ xAL := xAL_p2 5 rfl
theorem kse_X2_sneezeRefusal : Cond.selects RX2 yX2_sneezeRefusal yX2_sneezeRefusal ∈ xAL := xAL_p2 6 rfl
theorem kse_X2_refusedLong : Cond.selects RX2 yX2_refusedLong yX2_refusedLong ∈ xAL := xAL_p2 7 rfl
theorem kse_X2_hasBehindSneezes : Cond.selects RX2 yX2_hasBehindSneezes yX2_hasBehindSneezes ∈ xAL := xAL_p2 8 rfl
theorem kse_X2_kindsByRow : Cond.selects RX2 yX2_kindsByRow yX2_kindsByRow ∈ xAL := xAL_p2 9 rfl
theorem kse_X2_goesAsRow : Cond.selects RX2 yX2_goesAsRow yX2_goesAsRow ∈ xAL := xAL_p2 10 rfl
theorem kse_X2_figuresByRow : Cond.selects RX2 yX2_figuresByRow yX2_figuresByRow ∈ xAL := xAL_p2 11 rfl
theorem kse_X2_countRefusals : Cond.selects RX2 yX2_countRefusals yX2_countRefusals ∈ xAL := xAL_p2 12 rfl
theorem kse_X3_no : Cond.selects RX3 yX3_no yX3_no ∈ xAL := xAL_p2 13 rfl
theorem kse_X3_readsStatement : Cond.selects RX3 yX3_readsStatement yX3_readsStatement ∈ xAL := xAL_p2 14 rfl
theorem kse_X3_here : Cond.selects RX3 yX3_here yX3_here ∈ xAL := xAL_p2 15 rfl
theorem kse_X3_readsKind : Cond.selects RX3 yX3_readsKind yX3_readsKind ∈ xAL := xAL_p3 0 rfl
theorem kse_X3_readsNumber : Cond.selects RX3 yX3_readsNumber yX3_readsNumber ∈ xAL := xAL_p3 1 rfl
theorem kse_X3_isDone : Cond.selects RX3 yX3_isDone yX3_isDone ∈ xAL := xAL_p3 2 rfl
theorem kse_X3_addsPerson : Cond.selects RX3 yX3_addsPerson yX3_addsPerson ∈ xAL := xAL_p3 3 rfl
theorem kse_X3_isPerson : Cond.selects RX3 yX3_isPerson yX3_isPerson ∈ xAL := xAL_p3 4 rfl
theorem kse_X3_sets : Cond.selects RX3 yX3_sets yX3_sets ∈ xAL := xAL_p3 5 rfl
theorem kse_X3_setsOf : Cond.selects RX3 yX3_setsOf yX3_setsOf ∈ xAL := xAL_p3 6 rfl
theorem kse_X3_setsIn : Cond.selects RX3 yX3_setsIn yX3_setsIn ∈ xAL := xAL_p3 7 rfl
theorem kse_X3_takes : Cond.selects RX3 yX3_takes yX3_takes ∈ xAL := xAL_p3 8 rfl
theorem kse_X3_firstDry : Cond.selects RX3 yX3_firstDry yX3_firstDry ∈ xAL := xAL_p3 9 rfl
theorem kse_X3_whenNothing : Cond.selects RX3 yX3_whenNothing yX3_whenNothing ∈ xAL := xAL_p3 10 rfl
theorem kse_X3_isNoneDry : Cond.selects RX3 yX3_isNoneDry yX3_isNoneDry ∈ xAL := xAL_p3 11 rfl
theorem kse_X3_extreme : Cond.selects RX3 yX3_extreme yX3_extreme ∈ xAL := xAL_p3 12 rfl
theorem kse_X3_hasBy : Cond.selects RX3 yX3_hasBy yX3_hasBy ∈ xAL := xAL_p3 13 rfl
theorem kse_X3_noWide : Cond.selects RX3 yX3_noWide yX3_noWide ∈ xAL := xAL_p3 14 rfl
theorem kse_X3_drawn : Cond.selects RX3 yX3_drawn yX3_drawn ∈ xAL := xAL_p3 15 rfl
theorem ky_X0 : ∀ k, k < 12 → u_lay RX0 TX0 k ∈ xAL := fun k h => match k, h with
  | 0, _ => xAL_1 50 rfl rfl
  | 1, _ => xAL_1 52 rfl rfl
  | 2, _ => xAL_1 54 rfl rfl
  | 3, _ => xAL_1 56 rfl rfl
  | 4, _ => xAL_1 58 rfl rfl
  | 5, _ => xAL_1 60 rfl rfl
  | 6, _ => xAL_1 62 rfl rfl
  | 7, _ => xAL_1 64 rfl rfl
  | 8, _ => xAL_1 66 rfl rfl
  | 9, _ => xAL_1 68 rfl rfl
  | 10, _ => xAL_1 70 rfl rfl
  | 11, _ => xAL_1 72 rfl rfl
  | k + 12, h => absurd h (by omega)
theorem kl_X0 : ∀ w ∈ u_ws RX0 TX0 12, w ∈ xAL := fun w h => by
  obtain ⟨k, hk, rfl⟩ := List.mem_map.mp h
  exact ky_X0 k (List.mem_range.mp hk)
theorem ky_X1 : ∀ k, k < 2 → u_lay RX1 TX1 k ∈ xAL := fun k h => match k, h with
  | 0, _ => xAL_1 85 rfl rfl
  | 1, _ => xAL_1 87 rfl rfl
  | k + 2, h => absurd h (by omega)
theorem kl_X1 : ∀ w ∈ u_ws RX1 TX1 2, w ∈ xAL := fun w h => by
  obtain ⟨k, hk, rfl⟩ := List.mem_map.mp h
  exact ky_X1 k (List.mem_range.mp hk)
theorem ky_X2 : ∀ k, k < 8 → u_lay RX2 TX2 k ∈ xAL := fun k h => match k, h with
  | 0, _ => xAL_1 98 rfl rfl
  | 1, _ => xAL_1 100 rfl rfl
  | 2, _ => xAL_1 102 rfl rfl
  | 3, _ => xAL_1 104 rfl rfl
  | 4, _ => xAL_1 106 rfl rfl
  | 5, _ => xAL_1 108 rfl rfl
  | 6, _ => xAL_1 110 rfl rfl
  | 7, _ => xAL_1 112 rfl rfl
  | k + 8, h => absurd h (by omega)
theorem kl_X2 : ∀ w ∈ u_ws RX2 TX2 8, w ∈ xAL := fun w h => by
  obtain ⟨k, hk, rfl⟩ := List.mem_map.mp h
  exact ky_X2 k (List.mem_range.mp hk)
theorem ky_X3 : ∀ k, k < 13 → u_lay RX3 TX3 k ∈ xAL := fun k h => match k, h with
  | 0, _ => xAL_3 214 rfl rfl
  | 1, _ => xAL_3 216 rfl rfl
  | 2, _ => xAL_3 218 rfl rfl
  | 3, _ => xAL_3 220 rfl rfl
  | 4, _ => xAL_3 222 rfl rfl
  | 5, _ => xAL_3 224 rfl rfl
  | 6, _ => xAL_3 226 rfl rfl
  | 7, _ => xAL_3 228 rfl rfl
  | 8, _ => xAL_3 230 rfl rfl
  | 9, _ => xAL_3 232 rfl rfl
  | 10, _ => xAL_3 234 rfl rfl
  | 11, _ => xAL_3 236 rfl rfl
  | 12, _ => xAL_3 238 rfl rfl
  | k + 13, h => absurd h (by omega)
theorem kl_X3 : ∀ w ∈ u_ws RX3 TX3 13, w ∈ xAL := fun w h => by
  obtain ⟨k, hk, rfl⟩ := List.mem_map.mp h
  exact ky_X3 k (List.mem_range.mp hk)
end
section
/-! ===== a small machine over the system's cells: its values, its memory, its instructions; what it comes to, the JVM comes to ===== -/
abbrev xOb : Type := Fin 3 ⊕ ((Fin 5 × Fin 3) ⊕ (Fin 4 ⊕ Nat))
abbrev xV : Type := Int32 ⊕ (Int64 ⊕ xOb)
abbrev xM : Type := xOb → Nat → Int32
abbrev xF : Type := List (Option xV) × (List xV × xM)
abbrev xK : Type := Nat → xF → Prop
abbrev xR : Type := Option xV → xM → Prop
abbrev xi (a : Int32) : xV := .inl a
abbrev xl (a : Int64) : xV := .inr (.inl a)
abbrev xo (o : xOb) : xV := .inr (.inr o)
/-- a hill; a row of a hill; a row of the model; what there is once -/
abbrev xH (i : Fin 3) : xOb := .inl i
abbrev xA (k : Fin 5) (i : Fin 3) : xOb := .inr (.inl (k, i))
abbrev xW (r : Fin 4) : xOb := .inr (.inr (.inl r))
abbrev xN (n : Nat) : xOb := .inr (.inr (.inr n))
/-- an instruction: what must hold so that it goes on as K says, or ends as R says; larger K, R: larger -/
def xI : Type := { i : xF → xK → xR → Prop // ∀ (f : xF) (K K' : xK) (R R' : xR), (∀ a b, K a b → K' a b) → (∀ a b, R a b → R' a b) → i f K R → i f K' R' }
/-- a method's own meaning -/
def xZ : Type := { w : List xV → xM → xR → Prop // ∀ (a : List xV) (M : xM) (R R' : xR), (∀ a b, R a b → R' a b) → w a M R → w a M R' }
def xWP (pg : Nat → xI) (pc : Nat) (f : xF) (R : xR) : Prop := ∀ P : xK, (∀ pc f, (pg pc).1 f P R → P pc f) → P pc f
theorem xmk {pg : Nat → xI} {pc : Nat} {f : xF} {R : xR} (h : (pg pc).1 f (fun a b => xWP pg a b R) R) : xWP pg pc f R :=
  fun P hP => hP pc f ((pg pc).2 _ _ _ _ _ (fun _ _ hw => hw P hP) (fun _ _ h => h) h)
theorem xWP_mono {pg : Nat → xI} {pc : Nat} {f : xF} {R R' : xR} (hR : ∀ a b, R a b → R' a b) (h : xWP pg pc f R) : xWP pg pc f R' :=
  fun P hP => h P (fun pc f hi => hP pc f ((pg pc).2 _ _ _ _ _ (fun _ _ h => h) hR hi))
/-- k instructions at once; it stays at the places S -/
def xit (S : List Nat) (pg : Nat → xI) (R : xR) : Nat → Nat → xF → Prop
  | 0, pc, f => xWP pg pc f R
  | k + 1, pc, f => (pg pc).1 f (fun a b => cond (S.contains a) (xWP pg a b R) (xit S pg R k a b)) R
theorem xgo {pg : Nat → xI} {R : xR} (S : List Nat) : ∀ (k : Nat) {pc : Nat} {f : xF}, xit S pg R k pc f → xWP pg pc f R
  | 0, _, _, h => h
  | k + 1, pc, f, h => xmk ((pg pc).2 _ _ _ _ _ (fun a b hw => by
      cases hS : S.contains a with
      | true => rw [hS] at hw; exact hw
      | false => rw [hS] at hw; exact xgo S k hw) (fun _ _ h => h) h)
/-! the forms of instructions -/
def xdet (g : xF → Option (Nat × xF)) : xI := ⟨fun f K _ => match g f with
  | some (n, f') => K n f'
  | none => False, fun f K K' R R' hK _ h => by
    dsimp only at h ⊢
    revert h
    cases g f with
    | none => exact fun h => h
    | some q => exact fun h => hK _ _ h⟩
def xdec (g : xF → Option (Prop × (Nat × xF))) : xI := ⟨fun f K _ => match g f with
  | some (c, n, f') => c ∧ K n f'
  | none => False, fun f K K' R R' hK _ h => by
    dsimp only at h ⊢
    revert h
    cases g f with
    | none => exact fun h => h
    | some q => exact fun h => ⟨h.1, hK _ _ h.2⟩⟩
def xbr (g : xF → Option (Prop × (Nat × (Nat × xF)))) : xI := ⟨fun f K _ => match g f with
  | some (c, t, n, f') => (c → K t f') ∧ (¬ c → K n f')
  | none => False, fun f K K' R R' hK _ h => by
    dsimp only at h ⊢
    revert h
    cases g f with
    | none => exact fun h => h
    | some q => exact fun h => ⟨fun c => hK _ _ (h.1 c), fun c => hK _ _ (h.2 c)⟩⟩
def xre (g : xF → Option (Prop × (Option xV × xM))) : xI := ⟨fun f _ R => match g f with
  | some (c, v, M) => c ∧ R v M
  | none => False, fun f K K' R R' _ hR h => by
    dsimp only at h ⊢
    revert h
    cases g f with
    | none => exact fun h => h
    | some q => exact fun h => ⟨h.1, hR _ _ h.2⟩⟩
def xsw (a : Int32) (d : Nat) (k : Nat → Prop) : List (Int32 × Nat) → Prop
  | [] => k d
  | (c, t) :: r => (a = c → k t) ∧ (¬ a = c → xsw a d k r)
theorem xsw_mono {a : Int32} {d : Nat} {k k' : Nat → Prop} (h : ∀ n, k n → k' n) : ∀ (r : List (Int32 × Nat)), xsw a d k r → xsw a d k' r
  | [], q => h _ q
  | (_, _) :: r, q => ⟨fun c => h _ (q.1 c), fun c => xsw_mono h r (q.2 c)⟩
def xswi (d : Nat) (r : List (Int32 × Nat)) : xI := ⟨fun f K _ => match f with
  | (ls, .inl a :: st, M) => xsw a d (fun n => K n (ls, st, M)) r
  | _ => False, fun f K K' R R' hK _ h => by
    obtain ⟨ls, st, M⟩ := f
    match st, h with
    | .inl a :: st, h => exact xsw_mono (fun n => hK _ _) r h
    | [], h => exact h
    | .inr _ :: _, h => exact h⟩
def xcat : xV → Nat
  | .inr (.inl _) => 2
  | _ => 1
def xcs : List xV → Nat
  | [] => 0
  | v :: r => xcat v + xcs r
def xpop : Nat → List xV → List xV → Option (List xV × List xV)
  | 0, st, acc => some (acc, st)
  | _ + 1, [], _ => none
  | n + 1, v :: st, acc => xpop n st (v :: acc)
/-- a call of a method that has the meaning w, with n values on the stack; 'ok' looks at the receiver -/
def xcall (ok : List xV → Bool) (w : xZ) (n nx : Nat) : xI := ⟨fun f K _ => match f with
  | (ls, st, M) => match xpop n st [] with
    | some (as, rest) => (ok as && Nat.ble (xcs rest) 8) = true ∧ w.1 as M (fun v M' => K nx (ls, v.toList ++ rest, M'))
    | none => False, fun f K K' R R' hK _ h => by
    obtain ⟨ls, st, M⟩ := f
    dsimp only at h ⊢
    revert h
    show (match xpop n st [] with
      | some (as, rest) => (ok as && Nat.ble (xcs rest) 8) = true ∧ w.1 as M (fun v M' => K nx (ls, v.toList ++ rest, M'))
      | none => False) → (match xpop n st [] with
      | some (as, rest) => (ok as && Nat.ble (xcs rest) 8) = true ∧ w.1 as M (fun v M' => K' nx (ls, v.toList ++ rest, M'))
      | none => False)
    cases xpop n st [] with
    | none => exact fun h => h
    | some q => exact fun h => ⟨h.1, w.2 _ _ _ _ (fun _ _ => hK _ _) h.2⟩⟩
def xst : xI := ⟨fun _ _ _ => False, fun _ _ _ _ _ _ _ h => h⟩
/-! locals -/
def xget : List (Option xV) → Nat → Option xV
  | [], _ => none
  | a :: _, 0 => a
  | _ :: l, n + 1 => xget l n
def xst1 : List (Option xV) → Nat → xV → List (Option xV)
  | [], _, _ => []
  | _ :: l, 0, v => some v :: l
  | some (.inr (.inl _)) :: l, 1, v => none :: xst1 l 0 v
  | a :: l, n + 1, v => a :: xst1 l n v
def xclr : List (Option xV) → List (Option xV)
  | [] => []
  | _ :: l => none :: l
def xst2 : List (Option xV) → Nat → xV → List (Option xV)
  | [], _, _ => []
  | _ :: l, 0, v => some v :: xclr l
  | some (.inr (.inl _)) :: l, 1, v => none :: xst2 l 0 v
  | a :: l, n + 1, v => a :: xst2 l n v
def xent : Nat → List xV → List (Option xV)
  | 0, _ => []
  | n + 1, [] => none :: xent n []
  | n + 2, .inr (.inl a) :: r => some (.inr (.inl a)) :: none :: xent n r
  | n + 1, v :: r => some v :: xent n r
def xmet (pg : Nat → xI) (mL : Nat) : xZ := ⟨fun as M R => xWP pg 0 (xent mL as, [], M) R, fun _ _ _ _ hR h => xWP_mono hR h⟩
def x_push (v : xV) (nx : Nat) : xI := xdet fun f => match f with
  | (ls, st, M) => some (nx, (ls, v :: st, M))
def x_ild (i nx : Nat) : xI := xdet fun f => match f with
  | (ls, st, M) => match xget ls i with
    | some (.inl a) => some (nx, ls, (.inl a) :: st, M)
    | _ => none
def x_lld (i nx : Nat) : xI := xdet fun f => match f with
  | (ls, st, M) => match xget ls i with
    | some (.inr (.inl a)) => some (nx, ls, (.inr (.inl a)) :: st, M)
    | _ => none
def x_ald (i nx : Nat) : xI := xdet fun f => match f with
  | (ls, st, M) => match xget ls i with
    | some (.inr (.inr a)) => some (nx, ls, (.inr (.inr a)) :: st, M)
    | _ => none
def x_ist (i nx : Nat) : xI := xdet fun f => match f with
  | (ls, (.inl a) :: st, M) => some (nx, xst1 ls i (.inl a), st, M)
  | _ => none
def x_lst (i nx : Nat) : xI := xdet fun f => match f with
  | (ls, (.inr (.inl a)) :: st, M) => some (nx, xst2 ls i (.inr (.inl a)), st, M)
  | _ => none
def x_ast (i nx : Nat) : xI := xdet fun f => match f with
  | (ls, (.inr (.inr a)) :: st, M) => some (nx, xst1 ls i (.inr (.inr a)), st, M)
  | _ => none
def x_iinc (i : Nat) (n : Int32) (nx : Nat) : xI := xdet fun f => match f with
  | (ls, st, M) => match xget ls i with
    | some (.inl a) => some (nx, xst1 ls i (.inl (a + n)), st, M)
    | _ => none
def x_iadd (nx : Nat) : xI := xdet fun f => match f with
  | (ls, .inl b :: .inl a :: st, M) => some (nx, (ls, .inl (a + b) :: st, M))
  | _ => none
def x_isub (nx : Nat) : xI := xdet fun f => match f with
  | (ls, .inl b :: .inl a :: st, M) => some (nx, (ls, .inl (a - b) :: st, M))
  | _ => none
def x_imul (nx : Nat) : xI := xdet fun f => match f with
  | (ls, .inl b :: .inl a :: st, M) => some (nx, (ls, .inl (a * b) :: st, M))
  | _ => none
def x_iand (nx : Nat) : xI := xdet fun f => match f with
  | (ls, .inl b :: .inl a :: st, M) => some (nx, (ls, .inl (a &&& b) :: st, M))
  | _ => none
def x_ior (nx : Nat) : xI := xdet fun f => match f with
  | (ls, .inl b :: .inl a :: st, M) => some (nx, (ls, .inl (a ||| b) :: st, M))
  | _ => none
def x_ixor (nx : Nat) : xI := xdet fun f => match f with
  | (ls, .inl b :: .inl a :: st, M) => some (nx, (ls, .inl (a ^^^ b) :: st, M))
  | _ => none
def x_ishl (nx : Nat) : xI := xdet fun f => match f with
  | (ls, .inl b :: .inl a :: st, M) => some (nx, (ls, .inl (a <<< (b &&& 31)) :: st, M))
  | _ => none
def x_ishr (nx : Nat) : xI := xdet fun f => match f with
  | (ls, .inl b :: .inl a :: st, M) => some (nx, (ls, .inl (a >>> (b &&& 31)) :: st, M))
  | _ => none
def x_iushr (nx : Nat) : xI := xdet fun f => match f with
  | (ls, .inl b :: .inl a :: st, M) => some (nx, (ls, .inl ((a.toUInt32 >>> (b.toUInt32 &&& Int32.toUInt32 31)).toInt32) :: st, M))
  | _ => none
def x_idiv (nx : Nat) : xI := xdec fun f => match f with
  | (ls, .inl b :: .inl a :: st, M) => some (¬ b = 0, nx, (ls, .inl (a / b) :: st, M))
  | _ => none
def x_irem (nx : Nat) : xI := xdec fun f => match f with
  | (ls, .inl b :: .inl a :: st, M) => some (¬ b = 0, nx, (ls, .inl (a - a / b * b) :: st, M))
  | _ => none
def x_ineg (nx : Nat) : xI := xdet fun f => match f with
  | (ls, .inl a :: st, M) => some (nx, (ls, .inl (-a) :: st, M))
  | _ => none
def x_ladd (nx : Nat) : xI := xdet fun f => match f with
  | (ls, .inr (.inl b) :: .inr (.inl a) :: st, M) => some (nx, (ls, .inr (.inl (a + b)) :: st, M))
  | _ => none
def x_lsub (nx : Nat) : xI := xdet fun f => match f with
  | (ls, .inr (.inl b) :: .inr (.inl a) :: st, M) => some (nx, (ls, .inr (.inl (a - b)) :: st, M))
  | _ => none
def x_lmul (nx : Nat) : xI := xdet fun f => match f with
  | (ls, .inr (.inl b) :: .inr (.inl a) :: st, M) => some (nx, (ls, .inr (.inl (a * b)) :: st, M))
  | _ => none
def x_ldiv (nx : Nat) : xI := xdec fun f => match f with
  | (ls, .inr (.inl b) :: .inr (.inl a) :: st, M) => some (¬ b = 0, nx, (ls, .inr (.inl (a / b)) :: st, M))
  | _ => none
def x_lrem (nx : Nat) : xI := xdec fun f => match f with
  | (ls, .inr (.inl b) :: .inr (.inl a) :: st, M) => some (¬ b = 0, nx, (ls, .inr (.inl (a - a / b * b)) :: st, M))
  | _ => none
def x_lcmp (nx : Nat) : xI := xdet fun f => match f with
  | (ls, .inr (.inl b) :: .inr (.inl a) :: st, M) => some (nx, (ls, .inl (lg_cmp a b) :: st, M))
  | _ => none
def x_i2l (nx : Nat) : xI := xdet fun f => match f with
  | (ls, .inl a :: st, M) => some (nx, (ls, .inr (.inl a.toInt64) :: st, M))
  | _ => none
def x_i2c (nx : Nat) : xI := xdet fun f => match f with
  | (ls, .inl a :: st, M) => some (nx, (ls, .inl (a.toUInt32 % 65536).toInt32 :: st, M))
  | _ => none
def x_dupi (nx : Nat) : xI := xdet fun f => match f with
  | (ls, .inl a :: st, M) => some (nx, (ls, .inl a :: .inl a :: st, M))
  | _ => none
def x_popi (nx : Nat) : xI := xdet fun f => match f with
  | (ls, .inl a :: st, M) => some (nx, (ls, st, M))
  | _ => none
def x_dupo (nx : Nat) : xI := xdet fun f => match f with
  | (ls, .inr (.inr a) :: st, M) => some (nx, (ls, .inr (.inr a) :: .inr (.inr a) :: st, M))
  | _ => none
def x_popo (nx : Nat) : xI := xdet fun f => match f with
  | (ls, .inr (.inr a) :: st, M) => some (nx, (ls, st, M))
  | _ => none
def x_dup2 (nx : Nat) : xI := xdet fun f => match f with
  | (ls, .inl b :: .inr (.inr a) :: st, M) => some (nx, (ls, .inl b :: .inr (.inr a) :: .inl b :: .inr (.inr a) :: st, M))
  | _ => none
def x_ifeq (tg nx : Nat) : xI := xbr fun f => match f with
  | (ls, .inl a :: st, M) => some (a = 0, tg, nx, ls, st, M)
  | _ => none
def x_iflt (tg nx : Nat) : xI := xbr fun f => match f with
  | (ls, .inl a :: st, M) => some (a < 0, tg, nx, ls, st, M)
  | _ => none
def x_ifge (tg nx : Nat) : xI := xbr fun f => match f with
  | (ls, .inl a :: st, M) => some (0 ≤ a, tg, nx, ls, st, M)
  | _ => none
def x_ifgt (tg nx : Nat) : xI := xbr fun f => match f with
  | (ls, .inl a :: st, M) => some (0 < a, tg, nx, ls, st, M)
  | _ => none
def x_ifle (tg nx : Nat) : xI := xbr fun f => match f with
  | (ls, .inl a :: st, M) => some (a ≤ 0, tg, nx, ls, st, M)
  | _ => none
def x_iceq (tg nx : Nat) : xI := xbr fun f => match f with
  | (ls, .inl b :: .inl a :: st, M) => some (a = b, tg, nx, ls, st, M)
  | _ => none
def x_iclt (tg nx : Nat) : xI := xbr fun f => match f with
  | (ls, .inl b :: .inl a :: st, M) => some (a < b, tg, nx, ls, st, M)
  | _ => none
def x_icge (tg nx : Nat) : xI := xbr fun f => match f with
  | (ls, .inl b :: .inl a :: st, M) => some (b ≤ a, tg, nx, ls, st, M)
  | _ => none
def x_icgt (tg nx : Nat) : xI := xbr fun f => match f with
  | (ls, .inl b :: .inl a :: st, M) => some (b < a, tg, nx, ls, st, M)
  | _ => none
def x_icle (tg nx : Nat) : xI := xbr fun f => match f with
  | (ls, .inl b :: .inl a :: st, M) => some (a ≤ b, tg, nx, ls, st, M)
  | _ => none
def x_ifne (tg nx : Nat) : xI := xbr fun f => match f with
  | (ls, .inl a :: st, M) => some (a = 0, nx, tg, ls, st, M)
  | _ => none
def x_icne (tg nx : Nat) : xI := xbr fun f => match f with
  | (ls, .inl b :: .inl a :: st, M) => some (a = b, nx, tg, ls, st, M)
  | _ => none
def x_goto (nx : Nat) : xI := xdet fun f => match f with
  | (ls, st, M) => some (nx, (ls, st, M))
def xal : xOb → Option Nat
  | .inl _ => none
  | .inr (.inl _) => some 6
  | .inr (.inr (.inl _)) => some 47
  | .inr (.inr (.inr n)) => match n with
    | 3 => some 96
    | 4 => some 16
    | 5 => some 7
    | 6 => some 96
    | 7 => some 16
    | 8 => some 7
    | 9 => some 3
    | _ => none
def xci : xOb → Nat
  | .inl _ => 0
  | .inr (.inl _) => 9
  | .inr (.inr (.inl _)) => 9
  | .inr (.inr (.inr n)) => match n with
    | 0 => 2
    | 1 => 1
    | 2 => 3
    | _ => 9
def xfl (o : xOb) (g : Nat → Int32) : List xV := match o with
  | .inl i => [xo (xA 0 i), xo (xA 1 i), xo (xA 2 i), xo (xA 3 i), xo (xA 4 i), xi (g 5), xi (g 6), xi (g 7), xi (g 8), xi (g 9), xi (g 10), xi (g 11)]
  | .inr (.inl _) => []
  | .inr (.inr (.inl _)) => []
  | .inr (.inr (.inr n)) => match n with
    | 0 => [xo (xH 0), xo (xH 1), xo (xH 2), xo (xN 1), xo (xN 4), xo (xN 5), xi (g 6), xi (g 7)]
    | 1 => [xo (xN 3), xi (g 1)]
    | 2 => [xo (xW 0), xo (xW 1), xo (xW 2), xo (xW 3), xi (g 4), xo (xN 6), xo (xN 7), xo (xN 8), xi (g 8), xi (g 9), xi (g 10), xo (xN 9), xi (g 12)]
    | _ => []
def xup (M : xM) (o : xOb) (k : Nat) (v : Int32) : xM := fun o' => if o' = o then upd (M o) k v else M o'
def xat (l : List xV) (k : Nat) : Option xV := match l, k with
  | [], _ => none
  | a :: _, 0 => some a
  | _ :: l, k + 1 => xat l k
def x_get (ci k nx : Nat) : xI := xdet fun f => match f with
  | (ls, .inr (.inr o) :: st, M) => cond (Nat.beq (xci o) ci) (match xat (xfl o (M o)) k with
    | some v => some (nx, ls, v :: st, M)
    | none => none) none
  | _ => none
def x_put (ci k nx : Nat) : xI := xdet fun f => match f with
  | (ls, .inl a :: .inr (.inr o) :: st, M) => cond (Nat.beq (xci o) ci) (some (nx, ls, st, xup M o k a)) none
  | _ => none
def x_putz (ci k nx : Nat) : xI := xdec fun f => match f with
  | (ls, .inl a :: .inr (.inr o) :: st, M) => cond (Nat.beq (xci o) ci) (some (a = 0 ∨ a = 1, nx, ls, st, xup M o k a)) none
  | _ => none
def x_iald (nx : Nat) : xI := xdec fun f => match f with
  | (ls, .inl a :: .inr (.inr o) :: st, M) => match xal o with
    | some n => some (vp_in a n, nx, ls, .inl (M o a.toNatClampNeg) :: st, M)
    | none => none
  | _ => none
def x_iast (nx : Nat) : xI := xdec fun f => match f with
  | (ls, .inl b :: .inl a :: .inr (.inr o) :: st, M) => match xal o with
    | some n => some (vp_in a n, nx, ls, st, xup M o a.toNatClampNeg b)
    | none => none
  | _ => none
def x_min (nx : Nat) : xI := xdet fun f => match f with
  | (ls, .inl b :: .inl a :: st, M) => cond (Nat.ble (xcs st) 8) (some (nx, ls, .inl (if b < a then b else a) :: st, M)) none
  | _ => none
def x_max (nx : Nat) : xI := xdet fun f => match f with
  | (ls, .inl b :: .inl a :: st, M) => cond (Nat.ble (xcs st) 8) (some (nx, ls, .inl (if a < b then b else a) :: st, M)) none
  | _ => none
def x_iret : xI := xre fun f => match f with
  | (_, [.inl a], M) => some (True, some (.inl a), M)
  | _ => none
def x_zret : xI := xre fun f => match f with
  | (_, [.inl a], M) => some (a = 0 ∨ a = 1, some (.inl a), M)
  | _ => none
def x_lret : xI := xre fun f => match f with
  | (_, [.inr (.inl a)], M) => some (True, some (.inr (.inl a)), M)
  | _ => none
def x_aret : xI := xre fun f => match f with
  | (_, [.inr (.inr a)], M) => some (True, some (.inr (.inr a)), M)
  | _ => none
def x_vret : xI := xre fun f => match f with
  | (_, [], M) => some (True, none, M)
  | _ => none
/-! the world of the machine's cells -/
def xobs : List xOb := [xN 0, xH 0, xA 0 0, xA 1 0, xA 2 0, xA 3 0, xA 4 0, xH 1, xA 0 1, xA 1 1, xA 2 1, xA 3 1, xA 4 1, xH 2, xA 0 2, xA 1 2, xA 2 2, xA 3 2, xA 4 2, xN 1, xN 3, xN 4, xN 5, xN 2, xW 0, xW 1, xW 2, xW 3, xN 6, xN 7, xN 8, xN 9]
def xix : xOb → Nat
  | .inl i => 1 + 6 * i.val
  | .inr (.inl (k, i)) => 2 + 6 * i.val + k.val
  | .inr (.inr (.inl r)) => 24 + r.val
  | .inr (.inr (.inr n)) => match n with
    | 0 => 0
    | 1 => 19
    | 2 => 23
    | 3 => 20
    | 4 => 21
    | 5 => 22
    | 6 => 28
    | 7 => 29
    | 8 => 30
    | 9 => 31
    | n => n + 22
theorem xobs_ix : ∀ j : Nat, j < 32 → (xobs[j]?).map xix = some j := by decide +kernel
theorem xobs_at : ∀ j : Nat, ∀ o, xobs[j]? = some o → xix o = j := by
  intro j o h
  have hj : j < 32 := (List.getElem?_eq_some_iff.mp h).1
  have h1 := xobs_ix j hj
  rw [h] at h1
  exact Option.some.inj h1
theorem xobs_H : ∀ i : Fin 3, xobs[xix (xH i)]? = some (xH i) := by decide +kernel
theorem xobs_A : ∀ (k : Fin 5) (i : Fin 3), xobs[xix (xA k i)]? = some (xA k i) := by decide +kernel
theorem xobs_W : ∀ r : Fin 4, xobs[xix (xW r)]? = some (xW r) := by decide +kernel
theorem xobs_N : ∀ n : Nat, n < 10 → xobs[xix (xN n)]? = some (xN n) := fun n h => match n, h with
  | 0, _ => rfl
  | 1, _ => rfl
  | 2, _ => rfl
  | 3, _ => rfl
  | 4, _ => rfl
  | 5, _ => rfl
  | 6, _ => rfl
  | 7, _ => rfl
  | 8, _ => rfl
  | 9, _ => rfl
  | k + 10, h => absurd h (by omega)
theorem xobs_ar : ∀ (o : xOb) (n : Nat), xal o = some n → xobs[xix o]? = some o
  | .inl _, _, h => by cases h
  | .inr (.inl (k, i)), _, _ => xobs_A k i
  | .inr (.inr (.inl r)), _, _ => xobs_W r
  | .inr (.inr (.inr q)), n, h => by
    by_cases hq : q < 10
    · exact xobs_N q hq
    · obtain ⟨q, rfl⟩ : ∃ k, q = k + 10 := ⟨q - 10, by omega⟩
      cases h
theorem xobs_cl : ∀ (o : xOb), xci o < 4 → xobs[xix o]? = some o
  | .inl i, _ => xobs_H i
  | .inr (.inl (k, i)), _ => xobs_A k i
  | .inr (.inr (.inl r)), _ => xobs_W r
  | .inr (.inr (.inr q)), h => by
    by_cases hq : q < 10
    · exact xobs_N q hq
    · obtain ⟨q, rfl⟩ : ∃ k, q = k + 10 := ⟨q - 10, by omega⟩
      exact absurd h (by show ¬ (9 < 4); omega)
theorem xal_cl : ∀ (o : xOb), xci o < 4 → xal o = none
  | .inl _, _ => rfl
  | .inr (.inl _), h => absurd h (by show ¬ (9 < 4); omega)
  | .inr (.inr (.inl _)), h => absurd h (by show ¬ (9 < 4); omega)
  | .inr (.inr (.inr 0)), _ => rfl
  | .inr (.inr (.inr 1)), _ => rfl
  | .inr (.inr (.inr 2)), _ => rfl
  | .inr (.inr (.inr (_ + 3))), h => absurd h (by show ¬ (9 < 4); omega)
def xtv (ad : xOb → Nat) : xV → Value
  | .inl a => .int a
  | .inr (.inl a) => .long a
  | .inr (.inr o) => .ref (ad o)
theorem xtv_cat (ad : xOb → Nat) : ∀ v : xV, (xtv ad v).category = xcat v
  | .inl _ => rfl
  | .inr (.inl _) => rfl
  | .inr (.inr _) => rfl
def xen (ad : xOb → Nat) (cA : ClassId) (o : xOb) (g : Nat → Int32) : va_E := match xal o with
  | some n => .inl (cA, n, .inl g)
  | none => .inr (xci o, (xfl o g).map (xtv ad))
def xwd (ad : xOb → Nat) (cA : ClassId) (M : xM) : va_W := xobs.map (fun o => (ad o, xen ad cA o (M o)))
theorem xwd_at {ad : xOb → Nat} {cA : ClassId} {M : xM} {o : xOb} (h : xobs[xix o]? = some o) : (xwd ad cA M)[xix o]? = some (ad o, xen ad cA o (M o)) := by
  unfold xwd
  rw [List.getElem?_map, h]
  rfl
theorem xwd_set {ad : xOb → Nat} {cA : ClassId} {M : xM} {o : xOb} (h : xobs[xix o]? = some o) (g : Nat → Int32) : (xwd ad cA M).set (xix o) (ad o, xen ad cA o g) = xwd ad cA (fun o' => if o' = o then g else M o') := by
  apply List.ext_getElem?
  intro j
  have hl : xix o < xobs.length := (List.getElem?_eq_some_iff.mp h).1
  by_cases hj : j = xix o
  · subst hj
    rw [List.getElem?_set_self (by unfold xwd; rw [List.length_map]; exact hl)]
    unfold xwd
    rw [List.getElem?_map, h]
    simp
  · rw [List.getElem?_set_ne (fun q => hj q.symm)]
    unfold xwd
    rw [List.getElem?_map, List.getElem?_map]
    cases hq : xobs[j]? with
    | none => rfl
    | some o' =>
      have hne : ¬ o' = o := fun q => hj (by rw [← xobs_at j o' hq, q])
      simp [hne]
def xAd (ad : xOb → Nat) : Nat → Prop := fun q => ∃ (j : Nat) (o : xOb), xobs[j]? = some o ∧ q = ad o
def xJ (ad : xOb → Nat) : Prop := ∀ (i j : Nat) (o o' : xOb), xobs[i]? = some o → xobs[j]? = some o' → ad o = ad o' → i = j
theorem xwd_D {ad : xOb → Nat} {cA : ClassId} {M : xM} (hJ : xJ ad) : va_D (xAd ad) (xwd ad cA M) := by
  have key : ∀ (k : Nat) (q : Nat × va_E), (xwd ad cA M)[k]? = some q → ∃ o, xobs[k]? = some o ∧ q.1 = ad o := by
    intro k q hk
    unfold xwd at hk
    rw [List.getElem?_map] at hk
    cases ho : xobs[k]? with
    | none => rw [ho] at hk; cases hk
    | some o => rw [ho] at hk; cases hk; exact ⟨o, rfl, rfl⟩
  refine ⟨fun i j a b hi hj hab => ?_, fun k q hk => ?_⟩
  · obtain ⟨o, h1, h2⟩ := key i a hi
    obtain ⟨o', h3, h4⟩ := key j b hj
    exact hJ i j o o' h1 h3 (by rw [← h2, ← h4]; exact hab)
  · obtain ⟨o, h1, h2⟩ := key k q hk
    exact ⟨k, o, h1, h2⟩
/-- the String constants, the statics that their methods read -/
def xlen : List Nat := [4, 3, 4, 2, 0, 6]
def xbyt : List (List Int32) := [[107, 100, 100, 59], [100, 100, 59], [100, 100, 100, 59], [100, 59], [], [112, 119, 115, 109, 116, 108]]
def xtx : List (Nat × String) := [(52, "kdd;"), (54, "dd;"), (56, "ddd;"), (58, "d;"), (60, ""), (65, "pwsmtl")]
def xStr (ad : xOb → Nat) (s : State) : Prop :=
  va_Z "java/lang/String" "COMPACT_STRINGS" "Z" (.int 1) (xAd ad) s s.heap ∧ va_Zq "jdk/internal/util/Preconditions" "SIOOBE_FORMATTER" "Ljava/util/function/BiFunction;" (xAd ad) s s.heap ∧
  vk_S 6 xlen xbyt (fun i => ad (xN (20 + i))) (fun i => ad (xN (40 + i))) (xAd ad) s s.heap ∧
  ∀ i q, xtx[i]? = some q → vk_R RX1 q.1 q.2 (ad (xN (20 + i))) s
def xSx (D : va_G) (cA : ClassId) (ad : xOb → Nat) (s : State) : Prop := va_K D vwCl [(cA, .int)] s ∧ xJ ad ∧ xStr ad s
theorem xSx_same {D : va_G} {cA : ClassId} {ad : xOb → Nat} {u U : State} (hv : U.vm = u.vm) (hh : U.heap = u.heap) (h : xSx D cA ad u) : xSx D cA ad U := by
  have ha : u.vm.Alike U.vm := by rw [hv]; exact Vm.Alike.refl u.vm
  obtain ⟨h1, h2, h3, h4, h5, h6⟩ := h
  exact ⟨va_K.moved ha h1, h2, by rw [hh]; exact h3.moved ha, by rw [hh]; exact h4.moved ha, by rw [hh]; exact h5.moved ha, fun i q hq => (h6 i q hq).same hv⟩
theorem xSx_warm {D : va_G} {cA : ClassId} {ad : xOb → Nat} {s U : State} {locs : List Loc} (hW : s.WarmedH U.vm) (hS : va_S (xAd ad) s.heap U.heap locs) (h : xSx D cA ad s) : xSx D cA ad U := by
  have ha := hW.alike
  obtain ⟨h1, h2, h3, h4, h5, h6⟩ := h
  exact ⟨va_K.moved ha h1, h2, (h3.kept hS.2.1).moved ha, (h4.kept hS.2.1).moved ha, (h5.kept hS.2.1).moved ha, fun i q hq => (h6 i q hq).warm hW⟩
def xPre (D : va_G) (cA : ClassId) (ad : xOb → Nat) (as : List xV) (M : xM) : Array Value → State → Prop := fun v U => v = (as.map (xtv ad)).toArray ∧ va_P D vwCl (xwd ad cA M) U.heap ∧ xSx D cA ad U
def xPost (D : va_G) (cA : ClassId) (ad : xOb → Nat) (Rt : xR) : Array Value → State → Outcome → State → Prop := fun _ st oc t => (∃ (v : Option xV) (M : xM), oc = .returned (v.map (xtv ad)) ∧ Rt v M ∧ va_P D vwCl (xwd ad cA M) t.heap) ∧ va_F (xAd ad) st t
theorem xPre_blind {D : va_G} {cA : ClassId} {ad : xOb → Nat} {as : List xV} {M : xM} : FrameBlind (xPre D cA ad as M) := fun a U g mk h => ⟨h.1, h.2.1, xSx_same (u := U) (U := U.calling g mk a) rfl rfl h.2.2⟩
/-- the locals that a frame's list tells -/
def xas (ad : xOb → Nat) : Nat → List (Option xV) → List (Nat × Value)
  | _, [] => []
  | k, none :: l => xas ad (k + 1) l
  | k, some v :: l => (k, xtv ad v) :: xas ad (k + 1) l
theorem xas_get {ad : xOb → Nat} : ∀ (L : List (Option xV)) (k i : Nat) (v : xV), xget L i = some v → (k + i, xtv ad v) ∈ xas ad k L
  | [], _, _, _, h => by cases h
  | none :: l, k, 0, v, h => by cases h
  | some w :: l, k, 0, v, h => by
    cases h
    exact List.mem_cons_self
  | none :: l, k, i + 1, v, h => by
    have := xas_get (ad := ad) l (k + 1) i v h
    rw [show k + (i + 1) = k + 1 + i by omega]
    exact this
  | some w :: l, k, i + 1, v, h => by
    have := xas_get (ad := ad) l (k + 1) i v h
    rw [show k + (i + 1) = k + 1 + i by omega]
    exact List.mem_cons_of_mem _ this
theorem xas_mem {ad : xOb → Nat} : ∀ (L : List (Option xV)) (k : Nat) (q : Nat × Value), q ∈ xas ad k L → ∃ i v, q = (k + i, xtv ad v) ∧ xget L i = some v
  | [], _, _, h => by cases h
  | none :: l, k, q, h => by
    obtain ⟨i, v, h1, h2⟩ := xas_mem l (k + 1) q h
    exact ⟨i + 1, v, by rw [h1, show k + 1 + i = k + (i + 1) by omega], h2⟩
  | some w :: l, k, q, h => by
    rcases List.mem_cons.mp h with h | h
    · exact ⟨0, w, h, rfl⟩
    · obtain ⟨i, v, h1, h2⟩ := xas_mem l (k + 1) q h
      exact ⟨i + 1, v, by rw [h1, show k + 1 + i = k + (i + 1) by omega], h2⟩
def xLk (ad : xOb → Nat) (ls : Array Slot) (mL : Nat) (L : List (Option xV)) : Prop := L.length = mL ∧ lv_has ls mL (xas ad 0 L)
theorem xLk_at {ad : xOb → Nat} {ls : Array Slot} {mL : Nat} {L : List (Option xV)} (h : xLk ad ls mL L) {i : Nat} {v : xV} (hv : xget L i = some v) : ls[i]? = some (.val (xtv ad v)) := by
  have := h.2.2.2 _ (xas_get L 0 i v hv)
  rw [Nat.zero_add] at this
  exact this
theorem xst1_len : ∀ (L : List (Option xV)) (i : Nat) (v : xV), (xst1 L i v).length = L.length
  | [], _, _ => rfl
  | _ :: l, 0, v => rfl
  | some (.inr (.inl _)) :: l, 1, v => by show (none :: xst1 l 0 v).length = _; rw [List.length_cons, xst1_len l 0 v]; rfl
  | none :: l, 1, v => by show (none :: xst1 l 0 v).length = _; rw [List.length_cons, xst1_len l 0 v]; rfl
  | some (.inl a) :: l, 1, v => by show (some (.inl a) :: xst1 l 0 v).length = _; rw [List.length_cons, xst1_len l 0 v]; rfl
  | some (.inr (.inr a)) :: l, 1, v => by show (some (.inr (.inr a)) :: xst1 l 0 v).length = _; rw [List.length_cons, xst1_len l 0 v]; rfl
  | a :: l, n + 2, v => by rw [show xst1 (a :: l) (n + 2) v = a :: xst1 l (n + 1) v by cases a <;> simp [xst1], List.length_cons, xst1_len l (n + 1) v]; rfl
theorem xst1_get : ∀ (L : List (Option xV)) (i : Nat) (v : xV) (j : Nat) (w : xV), xget (xst1 L i v) j = some w → (j = i ∧ w = v) ∨ (j ≠ i ∧ xget L j = some w ∧ ¬ (j + 1 = i ∧ xcat w = 2))
  | [], _, _, _, _, h => by cases h
  | _ :: l, 0, v, 0, w, h => Or.inl ⟨rfl, (Option.some.inj h).symm⟩
  | _ :: l, 0, v, j + 1, w, h => Or.inr ⟨by omega, h, fun q => by omega⟩
  | some (.inr (.inl _)) :: l, 1, v, 0, w, h => by cases h
  | some (.inr (.inl _)) :: l, 1, v, j + 1, w, h => by
    rcases xst1_get l 0 v j w h with ⟨a, b⟩ | ⟨a, b, c⟩
    · exact Or.inl ⟨by omega, b⟩
    · exact Or.inr ⟨by omega, b, fun q => c ⟨by omega, q.2⟩⟩
  | none :: l, 1, v, 0, w, h => by cases h
  | none :: l, 1, v, j + 1, w, h => by
    rcases xst1_get l 0 v j w h with ⟨a, b⟩ | ⟨a, b, c⟩
    · exact Or.inl ⟨by omega, b⟩
    · exact Or.inr ⟨by omega, b, fun q => c ⟨by omega, q.2⟩⟩
  | some (.inl a) :: l, 1, v, 0, w, h => by
    cases h
    exact Or.inr ⟨by omega, rfl, fun q => by cases q.2⟩
  | some (.inl a) :: l, 1, v, j + 1, w, h => by
    rcases xst1_get l 0 v j w h with ⟨a, b⟩ | ⟨a, b, c⟩
    · exact Or.inl ⟨by omega, b⟩
    · exact Or.inr ⟨by omega, b, fun q => c ⟨by omega, q.2⟩⟩
  | some (.inr (.inr a)) :: l, 1, v, 0, w, h => by
    cases h
    exact Or.inr ⟨by omega, rfl, fun q => by cases q.2⟩
  | some (.inr (.inr a)) :: l, 1, v, j + 1, w, h => by
    rcases xst1_get l 0 v j w h with ⟨a, b⟩ | ⟨a, b, c⟩
    · exact Or.inl ⟨by omega, b⟩
    · exact Or.inr ⟨by omega, b, fun q => c ⟨by omega, q.2⟩⟩
  | a :: l, n + 2, v, 0, w, h => by
    rw [show xst1 (a :: l) (n + 2) v = a :: xst1 l (n + 1) v by cases a <;> simp [xst1]] at h
    exact Or.inr ⟨by omega, h, fun q => by omega⟩
  | a :: l, n + 2, v, j + 1, w, h => by
    rw [show xst1 (a :: l) (n + 2) v = a :: xst1 l (n + 1) v by cases a <;> simp [xst1]] at h
    rcases xst1_get l (n + 1) v j w h with ⟨a, b⟩ | ⟨a, b, c⟩
    · exact Or.inl ⟨by omega, b⟩
    · exact Or.inr ⟨by omega, b, fun q => c ⟨by omega, q.2⟩⟩
theorem xLk_st1 {ad : xOb → Nat} {ls ls' : Array Slot} {mL : Nat} {L : List (Option xV)} {i : Nat} {v : xV} (h : xLk ad ls mL L) (h' : lv_has ls' mL ((i, xtv ad v) :: (xas ad 0 L).filter (fun q => !(q.1 == i) && !(q.1 + 1 == i && q.2.category == 2)))) : xLk ad ls' mL (xst1 L i v) := by
  refine ⟨by rw [xst1_len]; exact h.1, h'.1, h'.2.1, fun q hq => ?_⟩
  obtain ⟨j, w, rfl, hw⟩ := xas_mem _ 0 q hq
  rw [Nat.zero_add]
  rcases xst1_get L i v j w hw with ⟨rfl, rfl⟩ | ⟨h1, h2, h3⟩
  · exact h'.2.2 _ List.mem_cons_self
  · refine h'.2.2 (j, xtv ad w) (List.mem_cons_of_mem _ (List.mem_filter.mpr ⟨?_, ?_⟩))
    · have := xas_get (ad := ad) L 0 j w h2
      rw [Nat.zero_add] at this
      exact this
    · rw [xtv_cat]
      simp only [Bool.and_eq_true, Bool.not_eq_true', beq_eq_false_iff_ne, Bool.and_eq_false_iff]
      refine ⟨h1, ?_⟩
      by_cases hj : j + 1 = i
      · exact Or.inr (fun q => h3 ⟨hj, q⟩)
      · exact Or.inl hj
theorem xclr_len : ∀ L : List (Option xV), (xclr L).length = L.length
  | [] => rfl
  | _ :: _ => rfl
theorem xst2_len : ∀ (L : List (Option xV)) (i : Nat) (v : xV), (xst2 L i v).length = L.length
  | [], _, _ => rfl
  | _ :: l, 0, v => by show (some v :: xclr l).length = _; rw [List.length_cons, xclr_len l]; rfl
  | some (.inr (.inl _)) :: l, 1, v => by show (none :: xst2 l 0 v).length = _; rw [List.length_cons, xst2_len l 0 v]; rfl
  | none :: l, 1, v => by show (none :: xst2 l 0 v).length = _; rw [List.length_cons, xst2_len l 0 v]; rfl
  | some (.inl a) :: l, 1, v => by show (some (.inl a) :: xst2 l 0 v).length = _; rw [List.length_cons, xst2_len l 0 v]; rfl
  | some (.inr (.inr a)) :: l, 1, v => by show (some (.inr (.inr a)) :: xst2 l 0 v).length = _; rw [List.length_cons, xst2_len l 0 v]; rfl
  | a :: l, n + 2, v => by rw [show xst2 (a :: l) (n + 2) v = a :: xst2 l (n + 1) v by cases a <;> simp [xst2], List.length_cons, xst2_len l (n + 1) v]; rfl
theorem xclr_get : ∀ (L : List (Option xV)) (j : Nat) (w : xV), xget (xclr L) j = some w → j ≠ 0 ∧ xget L j = some w
  | [], _, _, h => by cases h
  | _ :: l, 0, w, h => by cases h
  | _ :: l, j + 1, w, h => ⟨by omega, h⟩
theorem xst2_get : ∀ (L : List (Option xV)) (i : Nat) (v : xV) (j : Nat) (w : xV), xget (xst2 L i v) j = some w → (j = i ∧ w = v) ∨ (j ≠ i ∧ j ≠ i + 1 ∧ xget L j = some w ∧ ¬ (j + 1 = i ∧ xcat w = 2))
  | [], _, _, _, _, h => by cases h
  | _ :: l, 0, v, 0, w, h => Or.inl ⟨rfl, (Option.some.inj h).symm⟩
  | _ :: l, 0, v, j + 1, w, h => by
    obtain ⟨h1, h2⟩ := xclr_get l j w h
    exact Or.inr ⟨by omega, by omega, h2, fun q => by omega⟩
  | some (.inr (.inl _)) :: l, 1, v, 0, w, h => by cases h
  | some (.inr (.inl _)) :: l, 1, v, j + 1, w, h => by
    rcases xst2_get l 0 v j w h with ⟨a, b⟩ | ⟨a, a', b, c⟩
    · exact Or.inl ⟨by omega, b⟩
    · exact Or.inr ⟨by omega, by omega, b, fun q => c ⟨by omega, q.2⟩⟩
  | none :: l, 1, v, 0, w, h => by cases h
  | none :: l, 1, v, j + 1, w, h => by
    rcases xst2_get l 0 v j w h with ⟨a, b⟩ | ⟨a, a', b, c⟩
    · exact Or.inl ⟨by omega, b⟩
    · exact Or.inr ⟨by omega, by omega, b, fun q => c ⟨by omega, q.2⟩⟩
  | some (.inl a) :: l, 1, v, 0, w, h => by
    cases h
    exact Or.inr ⟨by omega, by omega, rfl, fun q => by cases q.2⟩
  | some (.inl a) :: l, 1, v, j + 1, w, h => by
    rcases xst2_get l 0 v j w h with ⟨a, b⟩ | ⟨a, a', b, c⟩
    · exact Or.inl ⟨by omega, b⟩
    · exact Or.inr ⟨by omega, by omega, b, fun q => c ⟨by omega, q.2⟩⟩
  | some (.inr (.inr a)) :: l, 1, v, 0, w, h => by
    cases h
    exact Or.inr ⟨by omega, by omega, rfl, fun q => by cases q.2⟩
  | some (.inr (.inr a)) :: l, 1, v, j + 1, w, h => by
    rcases xst2_get l 0 v j w h with ⟨a, b⟩ | ⟨a, a', b, c⟩
    · exact Or.inl ⟨by omega, b⟩
    · exact Or.inr ⟨by omega, by omega, b, fun q => c ⟨by omega, q.2⟩⟩
  | a :: l, n + 2, v, 0, w, h => by
    rw [show xst2 (a :: l) (n + 2) v = a :: xst2 l (n + 1) v by cases a <;> simp [xst2]] at h
    exact Or.inr ⟨by omega, by omega, h, fun q => by omega⟩
  | a :: l, n + 2, v, j + 1, w, h => by
    rw [show xst2 (a :: l) (n + 2) v = a :: xst2 l (n + 1) v by cases a <;> simp [xst2]] at h
    rcases xst2_get l (n + 1) v j w h with ⟨a, b⟩ | ⟨a, a', b, c⟩
    · exact Or.inl ⟨by omega, b⟩
    · exact Or.inr ⟨by omega, by omega, b, fun q => c ⟨by omega, q.2⟩⟩
theorem xLk_st2 {ad : xOb → Nat} {ls ls' : Array Slot} {mL : Nat} {L : List (Option xV)} {i : Nat} {v : xV} (h : xLk ad ls mL L) (h' : lv_has ls' mL ((i, xtv ad v) :: (xas ad 0 L).filter (fun q => !(q.1 == i) && (!(q.1 == i + 1) && !(q.1 + 1 == i && q.2.category == 2))))) : xLk ad ls' mL (xst2 L i v) := by
  refine ⟨by rw [xst2_len]; exact h.1, h'.1, h'.2.1, fun q hq => ?_⟩
  obtain ⟨j, w, rfl, hw⟩ := xas_mem _ 0 q hq
  rw [Nat.zero_add]
  rcases xst2_get L i v j w hw with ⟨rfl, rfl⟩ | ⟨h1, h4, h2, h3⟩
  · exact h'.2.2 _ List.mem_cons_self
  · refine h'.2.2 (j, xtv ad w) (List.mem_cons_of_mem _ (List.mem_filter.mpr ⟨?_, ?_⟩))
    · have := xas_get (ad := ad) L 0 j w h2
      rw [Nat.zero_add] at this
      exact this
    · rw [xtv_cat]
      simp only [Bool.and_eq_true, Bool.not_eq_true', beq_eq_false_iff_ne, Bool.and_eq_false_iff]
      refine ⟨h1, h4, ?_⟩
      by_cases hj : j + 1 = i
      · exact Or.inr (fun q => h3 ⟨hj, q⟩)
      · exact Or.inl hj
end
section
/-! ===== what the small machine comes to, the JVM comes to: an instruction, a lemma ===== -/
def xPW (p : Program) (l : Launch) (e : Env) (R : Room) (s : State) (m : MethodId) (args : Array Value) (below : List Frame) (meth : Method) (c : Code) (cells slots : Nat) (Q : State → Prop) (D : va_G) (cA : ClassId) (ad : xOb → Nat) (mL : Nat) : xK := fun pc f =>
  ∀ (H : Heap) (locs : List Loc) (ls : Array Slot), va_P D vwCl (xwd ad cA f.2.2) H → va_S (xAd ad) s.heap H locs → xLk ad ls mL f.1 → W p l e R s m args below meth c H locs cells slots Q (F0 m pc ls (f.2.1.map (xtv ad)))
def xCx (p : Program) (s : State) (m : MethodId) (args : Array Value) (c : Code) (own : String) (cc : ByteArray) (mL : Nat) (R : Room) (cells slots : Nat) (D : va_G) (cA : ClassId) (ad : xOb → Nat) : Prop :=
  p.tables.exec = Jvm.exec ∧ c.code = cc ∧ c.maxLocals = mL ∧ s.vm.findClass own = some m.cls ∧ (∀ w ∈ xAL, w.before args s = true) ∧ xSx D cA ad s ∧ cells ≤ R.cells ∧ slots ≤ R.slots
def xOk (own : String) (cc : ByteArray) (mL : Nat) (R : Room) (pc : Nat) (i : xI) : Prop :=
  ∀ (p : Program) (l : Launch) (e : Env) (s : State) (m : MethodId) (args : Array Value) (below : List Frame) (meth : Method) (c : Code) (cells slots : Nat) (Q : State → Prop) (D : va_G) (cA : ClassId) (ad : xOb → Nat) (Rt : xR),
    xCx p s m args c own cc mL R cells slots D cA ad → ∀ f : xF, i.1 f (xPW p l e R s m args below meth c cells slots Q D cA ad mL) Rt → xPW p l e R s m args below meth c cells slots Q D cA ad mL pc f
theorem xdet_inv {g : xF → Option (Nat × xF)} {f : xF} {K : xK} {R : xR} (h : (xdet g).1 f K R) : ∃ n f', g f = some (n, f') ∧ K n f' := by
  have h : (match g f with
    | some (n, f') => K n f'
    | none => False) := h
  cases hg : g f with
  | none => rw [hg] at h; exact h.elim
  | some q => rw [hg] at h; exact ⟨q.1, q.2, rfl, h⟩
theorem xdec_inv {g : xF → Option (Prop × (Nat × xF))} {f : xF} {K : xK} {R : xR} (h : (xdec g).1 f K R) : ∃ c n f', g f = some (c, n, f') ∧ c ∧ K n f' := by
  have h : (match g f with
    | some (c, n, f') => c ∧ K n f'
    | none => False) := h
  cases hg : g f with
  | none => rw [hg] at h; exact h.elim
  | some q => rw [hg] at h; exact ⟨q.1, q.2.1, q.2.2, rfl, h⟩
theorem xbr_inv {g : xF → Option (Prop × (Nat × (Nat × xF)))} {f : xF} {K : xK} {R : xR} (h : (xbr g).1 f K R) : ∃ c t n f', g f = some (c, t, n, f') ∧ (c → K t f') ∧ (¬ c → K n f') := by
  have h : (match g f with
    | some (c, t, n, f') => (c → K t f') ∧ (¬ c → K n f')
    | none => False) := h
  cases hg : g f with
  | none => rw [hg] at h; exact h.elim
  | some q => rw [hg] at h; exact ⟨q.1, q.2.1, q.2.2.1, q.2.2.2, rfl, h⟩
theorem xre_inv {g : xF → Option (Prop × (Option xV × xM))} {f : xF} {K : xK} {R : xR} (h : (xre g).1 f K R) : ∃ c v M, g f = some (c, v, M) ∧ c ∧ R v M := by
  have h : (match g f with
    | some (c, v, M) => c ∧ R v M
    | none => False) := h
  cases hg : g f with
  | none => rw [hg] at h; exact h.elim
  | some q => rw [hg] at h; exact ⟨q.1, q.2.1, q.2.2, rfl, h⟩
section XOK
variable {own : String} {cc : ByteArray} {mL : Nat} {R : Room} {pc nx tg : Nat}

theorem ok_iadd (hd : decode cc pc = .ok (.iadd, 1)) (hn : pc + 1 = nx) : xOk own cc mL R pc (x_iadd nx) := by
  subst hn
  intro p l e s m args below meth c cells slots Q D cA ad Rt hC f hi
  obtain ⟨n, f', hg, hk⟩ := xdet_inv hi
  (try dsimp only at hg)
  split at hg <;> cases hg
  exact fun H locs ls hP hS hL => lv_iadd hC.1 hC.2.1 hd (hk H locs ls hP hS hL)
theorem ok_isub (hd : decode cc pc = .ok (.isub, 1)) (hn : pc + 1 = nx) : xOk own cc mL R pc (x_isub nx) := by
  subst hn
  intro p l e s m args below meth c cells slots Q D cA ad Rt hC f hi
  obtain ⟨n, f', hg, hk⟩ := xdet_inv hi
  (try dsimp only at hg)
  split at hg <;> cases hg
  exact fun H locs ls hP hS hL => lv_isub hC.1 hC.2.1 hd (hk H locs ls hP hS hL)
theorem ok_imul (hd : decode cc pc = .ok (.imul, 1)) (hn : pc + 1 = nx) : xOk own cc mL R pc (x_imul nx) := by
  subst hn
  intro p l e s m args below meth c cells slots Q D cA ad Rt hC f hi
  obtain ⟨n, f', hg, hk⟩ := xdet_inv hi
  (try dsimp only at hg)
  split at hg <;> cases hg
  exact fun H locs ls hP hS hL => lv_imul hC.1 hC.2.1 hd (hk H locs ls hP hS hL)
theorem ok_iand (hd : decode cc pc = .ok (.iand, 1)) (hn : pc + 1 = nx) : xOk own cc mL R pc (x_iand nx) := by
  subst hn
  intro p l e s m args below meth c cells slots Q D cA ad Rt hC f hi
  obtain ⟨n, f', hg, hk⟩ := xdet_inv hi
  (try dsimp only at hg)
  split at hg <;> cases hg
  exact fun H locs ls hP hS hL => lv_iand hC.1 hC.2.1 hd (hk H locs ls hP hS hL)
theorem ok_ior (hd : decode cc pc = .ok (.ior, 1)) (hn : pc + 1 = nx) : xOk own cc mL R pc (x_ior nx) := by
  subst hn
  intro p l e s m args below meth c cells slots Q D cA ad Rt hC f hi
  obtain ⟨n, f', hg, hk⟩ := xdet_inv hi
  (try dsimp only at hg)
  split at hg <;> cases hg
  exact fun H locs ls hP hS hL => lv_ior hC.1 hC.2.1 hd (hk H locs ls hP hS hL)
theorem ok_ixor (hd : decode cc pc = .ok (.ixor, 1)) (hn : pc + 1 = nx) : xOk own cc mL R pc (x_ixor nx) := by
  subst hn
  intro p l e s m args below meth c cells slots Q D cA ad Rt hC f hi
  obtain ⟨n, f', hg, hk⟩ := xdet_inv hi
  (try dsimp only at hg)
  split at hg <;> cases hg
  exact fun H locs ls hP hS hL => lv_ixor hC.1 hC.2.1 hd (hk H locs ls hP hS hL)
theorem ok_ishl (hd : decode cc pc = .ok (.ishl, 1)) (hn : pc + 1 = nx) : xOk own cc mL R pc (x_ishl nx) := by
  subst hn
  intro p l e s m args below meth c cells slots Q D cA ad Rt hC f hi
  obtain ⟨n, f', hg, hk⟩ := xdet_inv hi
  (try dsimp only at hg)
  split at hg <;> cases hg
  exact fun H locs ls hP hS hL => lv_ishl hC.1 hC.2.1 hd (hk H locs ls hP hS hL)
theorem ok_ishr (hd : decode cc pc = .ok (.ishr, 1)) (hn : pc + 1 = nx) : xOk own cc mL R pc (x_ishr nx) := by
  subst hn
  intro p l e s m args below meth c cells slots Q D cA ad Rt hC f hi
  obtain ⟨n, f', hg, hk⟩ := xdet_inv hi
  (try dsimp only at hg)
  split at hg <;> cases hg
  exact fun H locs ls hP hS hL => lv_ishr hC.1 hC.2.1 hd (hk H locs ls hP hS hL)
theorem ok_ineg (hd : decode cc pc = .ok (.ineg, 1)) (hn : pc + 1 = nx) : xOk own cc mL R pc (x_ineg nx) := by
  subst hn
  intro p l e s m args below meth c cells slots Q D cA ad Rt hC f hi
  obtain ⟨n, f', hg, hk⟩ := xdet_inv hi
  (try dsimp only at hg)
  split at hg <;> cases hg
  exact fun H locs ls hP hS hL => lv_ineg hC.1 hC.2.1 hd (hk H locs ls hP hS hL)
theorem ok_iushr (hd : decode cc pc = .ok (.iushr, 1)) (hn : pc + 1 = nx) : xOk own cc mL R pc (x_iushr nx) := by
  subst hn
  intro p l e s m args below meth c cells slots Q D cA ad Rt hC f hi
  obtain ⟨n, f', hg, hk⟩ := xdet_inv hi
  (try dsimp only at hg)
  split at hg <;> cases hg
  exact fun H locs ls hP hS hL => lv_iushr hC.1 hC.2.1 hd rfl (hk H locs ls hP hS hL)
theorem ok_idiv (hd : decode cc pc = .ok (.idiv, 1)) (hn : pc + 1 = nx) : xOk own cc mL R pc (x_idiv nx) := by
  subst hn
  intro p l e s m args below meth c cells slots Q D cA ad Rt hC f hi
  obtain ⟨cd, n, f', hg, hc, hk⟩ := xdec_inv hi
  (try dsimp only at hg)
  split at hg <;> cases hg
  exact fun H locs ls hP hS hL => lv_idiv hC.1 hC.2.1 hd hc (hk H locs ls hP hS hL)
theorem ok_irem (hd : decode cc pc = .ok (.irem, 1)) (hn : pc + 1 = nx) : xOk own cc mL R pc (x_irem nx) := by
  subst hn
  intro p l e s m args below meth c cells slots Q D cA ad Rt hC f hi
  obtain ⟨cd, n, f', hg, hc, hk⟩ := xdec_inv hi
  (try dsimp only at hg)
  split at hg <;> cases hg
  exact fun H locs ls hP hS hL => lv_irem hC.1 hC.2.1 hd hc (hk H locs ls hP hS hL)
theorem ok_ladd (hd : decode cc pc = .ok (.ladd, 1)) (hn : pc + 1 = nx) : xOk own cc mL R pc (x_ladd nx) := by
  subst hn
  intro p l e s m args below meth c cells slots Q D cA ad Rt hC f hi
  obtain ⟨n, f', hg, hk⟩ := xdet_inv hi
  (try dsimp only at hg)
  split at hg <;> cases hg
  exact fun H locs ls hP hS hL => lv_ladd hC.1 hC.2.1 hd (hk H locs ls hP hS hL)
theorem ok_lsub (hd : decode cc pc = .ok (.lsub, 1)) (hn : pc + 1 = nx) : xOk own cc mL R pc (x_lsub nx) := by
  subst hn
  intro p l e s m args below meth c cells slots Q D cA ad Rt hC f hi
  obtain ⟨n, f', hg, hk⟩ := xdet_inv hi
  (try dsimp only at hg)
  split at hg <;> cases hg
  exact fun H locs ls hP hS hL => lv_lsub hC.1 hC.2.1 hd (hk H locs ls hP hS hL)
theorem ok_lmul (hd : decode cc pc = .ok (.lmul, 1)) (hn : pc + 1 = nx) : xOk own cc mL R pc (x_lmul nx) := by
  subst hn
  intro p l e s m args below meth c cells slots Q D cA ad Rt hC f hi
  obtain ⟨n, f', hg, hk⟩ := xdet_inv hi
  (try dsimp only at hg)
  split at hg <;> cases hg
  exact fun H locs ls hP hS hL => lv_lmul hC.1 hC.2.1 hd (hk H locs ls hP hS hL)
theorem ok_ldiv (hd : decode cc pc = .ok (.ldiv, 1)) (hn : pc + 1 = nx) : xOk own cc mL R pc (x_ldiv nx) := by
  subst hn
  intro p l e s m args below meth c cells slots Q D cA ad Rt hC f hi
  obtain ⟨cd, n, f', hg, hc, hk⟩ := xdec_inv hi
  (try dsimp only at hg)
  split at hg <;> cases hg
  exact fun H locs ls hP hS hL => lv_ldiv hC.1 hC.2.1 hd hc (hk H locs ls hP hS hL)
theorem ok_lrem (hd : decode cc pc = .ok (.lrem, 1)) (hn : pc + 1 = nx) : xOk own cc mL R pc (x_lrem nx) := by
  subst hn
  intro p l e s m args below meth c cells slots Q D cA ad Rt hC f hi
  obtain ⟨cd, n, f', hg, hc, hk⟩ := xdec_inv hi
  (try dsimp only at hg)
  split at hg <;> cases hg
  exact fun H locs ls hP hS hL => lv_lrem hC.1 hC.2.1 hd hc (hk H locs ls hP hS hL)
theorem ok_lcmp (hd : decode cc pc = .ok (.lcmp, 1)) (hn : pc + 1 = nx) : xOk own cc mL R pc (x_lcmp nx) := by
  subst hn
  intro p l e s m args below meth c cells slots Q D cA ad Rt hC f hi
  obtain ⟨n, f', hg, hk⟩ := xdet_inv hi
  (try dsimp only at hg)
  split at hg <;> cases hg
  exact fun H locs ls hP hS hL => W.lcmp hC.1 hC.2.1 hd (hk H locs ls hP hS hL)
theorem ok_i2l (hd : decode cc pc = .ok (.i2l, 1)) (hn : pc + 1 = nx) : xOk own cc mL R pc (x_i2l nx) := by
  subst hn
  intro p l e s m args below meth c cells slots Q D cA ad Rt hC f hi
  obtain ⟨n, f', hg, hk⟩ := xdet_inv hi
  (try dsimp only at hg)
  split at hg <;> cases hg
  exact fun H locs ls hP hS hL => lv_i2l hC.1 hC.2.1 hd rfl (hk H locs ls hP hS hL)
theorem ok_i2c (hd : decode cc pc = .ok (.i2c, 1)) (hn : pc + 1 = nx) : xOk own cc mL R pc (x_i2c nx) := by
  subst hn
  intro p l e s m args below meth c cells slots Q D cA ad Rt hC f hi
  obtain ⟨n, f', hg, hk⟩ := xdet_inv hi
  (try dsimp only at hg)
  split at hg <;> cases hg
  exact fun H locs ls hP hS hL => lv_i2c hC.1 hC.2.1 hd rfl (hk H locs ls hP hS hL)
theorem ok_dupi (hd : decode cc pc = .ok (.dup, 1)) (hn : pc + 1 = nx) : xOk own cc mL R pc (x_dupi nx) := by
  subst hn
  intro p l e s m args below meth c cells slots Q D cA ad Rt hC f hi
  obtain ⟨n, f', hg, hk⟩ := xdet_inv hi
  (try dsimp only at hg)
  split at hg <;> cases hg
  exact fun H locs ls hP hS hL => lv_dup hC.1 hC.2.1 hd rfl (hk H locs ls hP hS hL)
theorem ok_dupo (hd : decode cc pc = .ok (.dup, 1)) (hn : pc + 1 = nx) : xOk own cc mL R pc (x_dupo nx) := by
  subst hn
  intro p l e s m args below meth c cells slots Q D cA ad Rt hC f hi
  obtain ⟨n, f', hg, hk⟩ := xdet_inv hi
  (try dsimp only at hg)
  split at hg <;> cases hg
  exact fun H locs ls hP hS hL => lv_dup hC.1 hC.2.1 hd rfl (hk H locs ls hP hS hL)
theorem ok_popi (hd : decode cc pc = .ok (.pop, 1)) (hn : pc + 1 = nx) : xOk own cc mL R pc (x_popi nx) := by
  subst hn
  intro p l e s m args below meth c cells slots Q D cA ad Rt hC f hi
  obtain ⟨n, f', hg, hk⟩ := xdet_inv hi
  (try dsimp only at hg)
  split at hg <;> cases hg
  exact fun H locs ls hP hS hL => lv_pop hC.1 hC.2.1 hd rfl (hk H locs ls hP hS hL)
theorem ok_popo (hd : decode cc pc = .ok (.pop, 1)) (hn : pc + 1 = nx) : xOk own cc mL R pc (x_popo nx) := by
  subst hn
  intro p l e s m args below meth c cells slots Q D cA ad Rt hC f hi
  obtain ⟨n, f', hg, hk⟩ := xdet_inv hi
  (try dsimp only at hg)
  split at hg <;> cases hg
  exact fun H locs ls hP hS hL => lv_pop hC.1 hC.2.1 hd rfl (hk H locs ls hP hS hL)
theorem ok_dup2 (hd : decode cc pc = .ok (.dup2, 1)) (hn : pc + 1 = nx) : xOk own cc mL R pc (x_dup2 nx) := by
  subst hn
  intro p l e s m args below meth c cells slots Q D cA ad Rt hC f hi
  obtain ⟨n, f', hg, hk⟩ := xdet_inv hi
  (try dsimp only at hg)
  split at hg <;> cases hg
  exact fun H locs ls hP hS hL => lv_dup2_11 hC.1 hC.2.1 hd rfl rfl (hk H locs ls hP hS hL)
theorem ok_iconst {n : Int} {v : Int32} (hd : decode cc pc = .ok (.iconst n, 1)) (hv : Int32.ofInt n = v) (hn : pc + 1 = nx) : xOk own cc mL R pc (x_push (xi v) nx) := by
  subst hn
  intro p l e s m args below meth c cells slots Q D cA ad Rt hC f hi
  exact fun H locs ls hP hS hL => lv_iconst hC.1 hC.2.1 hd hv (hi H locs ls hP hS hL)
theorem ok_bipush {n : Int} {v : Int32} (hd : decode cc pc = .ok (.bipush n, 2)) (hv : (Int8.ofInt n).toInt32 = v) (hn : pc + 2 = nx) : xOk own cc mL R pc (x_push (xi v) nx) := by
  subst hn
  intro p l e s m args below meth c cells slots Q D cA ad Rt hC f hi
  exact fun H locs ls hP hS hL => lv_bipush hC.1 hC.2.1 hd hv (hi H locs ls hP hS hL)
theorem ok_sipush {n : Int} {v : Int32} (hd : decode cc pc = .ok (.sipush n, 3)) (hv : (Int16.ofInt n).toInt32 = v) (hn : pc + 3 = nx) : xOk own cc mL R pc (x_push (xi v) nx) := by
  subst hn
  intro p l e s m args below meth c cells slots Q D cA ad Rt hC f hi
  exact fun H locs ls hP hS hL => lv_sipush hC.1 hC.2.1 hd hv (hi H locs ls hP hS hL)
theorem ok_lconst {n : Fin 2} {v : Int64} (hd : decode cc pc = .ok (.lconst n, 1)) (hv : Int64.ofNat (n : Nat) = v) (hn : pc + 1 = nx) : xOk own cc mL R pc (x_push (xl v) nx) := by
  subst hn
  intro p l e s m args below meth c cells slots Q D cA ad Rt hC f hi
  exact fun H locs ls hP hS hL => lv_lconst hC.1 hC.2.1 hd hv (hi H locs ls hP hS hL)
theorem ok_ldc {ix : Nat} {v : Int32} (hd : decode cc pc = .ok (.ldc ix, 2)) (hw : Cond.constant own ix v ∈ xAL) (hn : pc + 2 = nx) : xOk own cc mL R pc (x_push (xi v) nx) := by
  subst hn
  intro p l e s m args below meth c cells slots Q D cA ad Rt hC f hi
  exact fun H locs ls hP hS hL => lv_ldc hC.1 hC.2.1 hC.2.2.2.1 (hC.2.2.2.2.1 _ hw) hd (hi H locs ls hP hS hL)
theorem ok_ldcw {ix : Nat} {v : Int32} (hd : decode cc pc = .ok (.ldc_w ix, 3)) (hw : Cond.constant own ix v ∈ xAL) (hn : pc + 3 = nx) : xOk own cc mL R pc (x_push (xi v) nx) := by
  subst hn
  intro p l e s m args below meth c cells slots Q D cA ad Rt hC f hi
  exact fun H locs ls hP hS hL => lv_ldcw hC.1 hC.2.1 hC.2.2.2.1 (hC.2.2.2.2.1 _ hw) hd (hi H locs ls hP hS hL)
theorem ok_ldc2 {ix : Nat} {v : Int64} (hd : decode cc pc = .ok (.ldc2_w ix, 3)) (hw : Cond.constantLong own ix v ∈ xAL) (hn : pc + 3 = nx) : xOk own cc mL R pc (x_push (xl v) nx) := by
  subst hn
  intro p l e s m args below meth c cells slots Q D cA ad Rt hC f hi
  exact fun H locs ls hP hS hL => lv_ldc2 hC.1 hC.2.1 hC.2.2.2.1 (hC.2.2.2.2.1 _ hw) hd (hi H locs ls hP hS hL)
theorem ok_ldcs {j : Nat} {q : Nat × String} (hq : xtx[j]? = some q) (ho : own = RX1) (hd : decode cc pc = .ok (.ldc q.1, 2)) (hn : pc + 2 = nx) : xOk own cc mL R pc (x_push (xo (xN (20 + j))) nx) := by
  subst hn
  intro p l e s m args below meth c cells slots Q D cA ad Rt hC f hi
  subst ho
  exact fun H locs ls hP hS hL => va_ldcS hC.1 hC.2.1 hC.2.2.2.1 (hC.2.2.2.2.2.1.2.2.2.2.2 j q hq) hd (hi H locs ls hP hS hL)
theorem ok_goto {off : Int} (hd : decode cc pc = .ok (.goto off, 3)) (hn : (pc : Int) + off = (nx : Int)) : xOk own cc mL R pc (x_goto nx) := by
  intro p l e s m args below meth c cells slots Q D cA ad Rt hC f hi
  exact fun H locs ls hP hS hL => lv_goto hC.1 hC.2.1 hd hn (hi H locs ls hP hS hL)
theorem ok_ildn {k : Fin 4} {i : Nat} (hd : decode cc pc = .ok (.iload_n k, 1)) (hi0 : (k : Nat) = i) (hn : pc + 1 = nx) : xOk own cc mL R pc (x_ild i nx) := by
  subst hn
  intro p l e s m args below meth c cells slots Q D cA ad Rt hC f hi
  obtain ⟨n, f', hg, hk⟩ := xdet_inv hi
  obtain ⟨ls0, st, M⟩ := f
  (try dsimp only at hg)
  split at hg <;> cases hg
  rename_i hx
  exact fun H locs ls hP hS hL => lv_iload_n hC.1 hC.2.1 hd hi0 (xLk_at hL hx) (hk H locs ls hP hS hL)
theorem ok_ild {i : Nat} (hd : decode cc pc = .ok (.iload i, 2)) (hn : pc + 2 = nx) : xOk own cc mL R pc (x_ild i nx) := by
  subst hn
  intro p l e s m args below meth c cells slots Q D cA ad Rt hC f hi
  obtain ⟨n, f', hg, hk⟩ := xdet_inv hi
  obtain ⟨ls0, st, M⟩ := f
  (try dsimp only at hg)
  split at hg <;> cases hg
  rename_i hx
  exact fun H locs ls hP hS hL => lv_iload hC.1 hC.2.1 hd (xLk_at hL hx) (hk H locs ls hP hS hL)
theorem ok_lldn {k : Fin 4} {i : Nat} (hd : decode cc pc = .ok (.lload_n k, 1)) (hi0 : (k : Nat) = i) (hn : pc + 1 = nx) : xOk own cc mL R pc (x_lld i nx) := by
  subst hn
  intro p l e s m args below meth c cells slots Q D cA ad Rt hC f hi
  obtain ⟨n, f', hg, hk⟩ := xdet_inv hi
  obtain ⟨ls0, st, M⟩ := f
  (try dsimp only at hg)
  split at hg <;> cases hg
  rename_i hx
  exact fun H locs ls hP hS hL => lv_lload_n hC.1 hC.2.1 hd hi0 (xLk_at hL hx) (hk H locs ls hP hS hL)
theorem ok_lld {i : Nat} (hd : decode cc pc = .ok (.lload i, 2)) (hn : pc + 2 = nx) : xOk own cc mL R pc (x_lld i nx) := by
  subst hn
  intro p l e s m args below meth c cells slots Q D cA ad Rt hC f hi
  obtain ⟨n, f', hg, hk⟩ := xdet_inv hi
  obtain ⟨ls0, st, M⟩ := f
  (try dsimp only at hg)
  split at hg <;> cases hg
  rename_i hx
  exact fun H locs ls hP hS hL => lv_lload hC.1 hC.2.1 hd (xLk_at hL hx) (hk H locs ls hP hS hL)
theorem ok_aldn {k : Fin 4} {i : Nat} (hd : decode cc pc = .ok (.aload_n k, 1)) (hi0 : (k : Nat) = i) (hn : pc + 1 = nx) : xOk own cc mL R pc (x_ald i nx) := by
  subst hn
  intro p l e s m args below meth c cells slots Q D cA ad Rt hC f hi
  obtain ⟨n, f', hg, hk⟩ := xdet_inv hi
  obtain ⟨ls0, st, M⟩ := f
  (try dsimp only at hg)
  split at hg <;> cases hg
  rename_i hx
  exact fun H locs ls hP hS hL => lv_aload_n hC.1 hC.2.1 hd hi0 (xLk_at hL hx) (hk H locs ls hP hS hL)
theorem ok_ald {i : Nat} (hd : decode cc pc = .ok (.aload i, 2)) (hn : pc + 2 = nx) : xOk own cc mL R pc (x_ald i nx) := by
  subst hn
  intro p l e s m args below meth c cells slots Q D cA ad Rt hC f hi
  obtain ⟨n, f', hg, hk⟩ := xdet_inv hi
  obtain ⟨ls0, st, M⟩ := f
  (try dsimp only at hg)
  split at hg <;> cases hg
  rename_i hx
  exact fun H locs ls hP hS hL => lv_aload hC.1 hC.2.1 hd (xLk_at hL hx) (hk H locs ls hP hS hL)
theorem ok_istn {k : Fin 4} {i : Nat} (hd : decode cc pc = .ok (.istore_n k, 1)) (hi0 : (k : Nat) = i) (hm : i < mL) (hn : pc + 1 = nx) : xOk own cc mL R pc (x_ist i nx) := by
  subst hn
  intro p l e s m args below meth c cells slots Q D cA ad Rt hC f hi
  obtain ⟨n, f', hg, hk⟩ := xdet_inv hi
  (try dsimp only at hg)
  split at hg <;> cases hg
  exact fun H locs ls hP hS hL => lv_istore_n hC.1 hC.2.1 hd hi0 hL.2 hm rfl (fun ls' hl' => hk H locs ls' hP hS (xLk_st1 hL hl'))
theorem ok_ist {i : Nat} (hd : decode cc pc = .ok (.istore i, 2)) (hm : i < mL) (hn : pc + 2 = nx) : xOk own cc mL R pc (x_ist i nx) := by
  subst hn
  intro p l e s m args below meth c cells slots Q D cA ad Rt hC f hi
  obtain ⟨n, f', hg, hk⟩ := xdet_inv hi
  (try dsimp only at hg)
  split at hg <;> cases hg
  exact fun H locs ls hP hS hL => lv_istore hC.1 hC.2.1 hd hL.2 hm rfl (fun ls' hl' => hk H locs ls' hP hS (xLk_st1 hL hl'))
theorem ok_astn {k : Fin 4} {i : Nat} (hd : decode cc pc = .ok (.astore_n k, 1)) (hi0 : (k : Nat) = i) (hm : i < mL) (hn : pc + 1 = nx) : xOk own cc mL R pc (x_ast i nx) := by
  subst hn
  intro p l e s m args below meth c cells slots Q D cA ad Rt hC f hi
  obtain ⟨n, f', hg, hk⟩ := xdet_inv hi
  (try dsimp only at hg)
  split at hg <;> cases hg
  exact fun H locs ls hP hS hL => lv_astore_n hC.1 hC.2.1 hd hi0 hL.2 hm rfl (fun ls' hl' => hk H locs ls' hP hS (xLk_st1 hL hl'))
theorem ok_ast {i : Nat} (hd : decode cc pc = .ok (.astore i, 2)) (hm : i < mL) (hn : pc + 2 = nx) : xOk own cc mL R pc (x_ast i nx) := by
  subst hn
  intro p l e s m args below meth c cells slots Q D cA ad Rt hC f hi
  obtain ⟨n, f', hg, hk⟩ := xdet_inv hi
  (try dsimp only at hg)
  split at hg <;> cases hg
  exact fun H locs ls hP hS hL => lv_astore hC.1 hC.2.1 hd hL.2 hm rfl (fun ls' hl' => hk H locs ls' hP hS (xLk_st1 hL hl'))
theorem ok_lstn {k : Fin 4} {i : Nat} (hd : decode cc pc = .ok (.lstore_n k, 1)) (hi0 : (k : Nat) = i) (hm : i + 1 < mL) (hn : pc + 1 = nx) : xOk own cc mL R pc (x_lst i nx) := by
  subst hn
  intro p l e s m args below meth c cells slots Q D cA ad Rt hC f hi
  obtain ⟨n, f', hg, hk⟩ := xdet_inv hi
  (try dsimp only at hg)
  split at hg <;> cases hg
  exact fun H locs ls hP hS hL => lv_lstore_n hC.1 hC.2.1 hd hi0 hL.2 hm rfl (fun ls' hl' => hk H locs ls' hP hS (xLk_st2 hL hl'))
theorem ok_lst {i : Nat} (hd : decode cc pc = .ok (.lstore i, 2)) (hm : i + 1 < mL) (hn : pc + 2 = nx) : xOk own cc mL R pc (x_lst i nx) := by
  subst hn
  intro p l e s m args below meth c cells slots Q D cA ad Rt hC f hi
  obtain ⟨n, f', hg, hk⟩ := xdet_inv hi
  (try dsimp only at hg)
  split at hg <;> cases hg
  exact fun H locs ls hP hS hL => lv_lstore hC.1 hC.2.1 hd hL.2 hm rfl (fun ls' hl' => hk H locs ls' hP hS (xLk_st2 hL hl'))
theorem ok_iinc {i : Nat} {n : Int} {v : Int32} (hd : decode cc pc = .ok (.iinc i n, 3)) (hv : Int32.ofInt n = v) (hm : i < mL) (hn : pc + 3 = nx) : xOk own cc mL R pc (x_iinc i v nx) := by
  subst hn
  intro p l e s m args below meth c cells slots Q D cA ad Rt hC f hi
  obtain ⟨n', f', hg, hk⟩ := xdet_inv hi
  obtain ⟨ls0, st, M⟩ := f
  (try dsimp only at hg)
  split at hg <;> cases hg
  rename_i a hx
  intro H locs ls hP hS hL
  obtain ⟨k, hk2⟩ := List.getElem?_of_mem (xas_get (ad := ad) ls0 0 i _ hx)
  rw [Nat.zero_add] at hk2
  exact lv_iinc hC.1 hC.2.1 hd hL.2 hk2 (by rw [hv]) hm rfl (fun ls' hl' => hk H locs ls' hP hS (xLk_st1 hL hl'))
theorem ok_ifeq {off : Int} (hd : decode cc pc = .ok (.ifCond .eq off, 3)) (ht : (pc : Int) + off = (tg : Int)) (hn : pc + 3 = nx) : xOk own cc mL R pc (x_ifeq tg nx) := by
  subst hn
  intro p l e s m args below meth c cells slots Q D cA ad Rt hC f hi
  obtain ⟨cd, t, n, f', hg, h1, h2⟩ := xbr_inv hi
  (try dsimp only at hg)
  split at hg <;> cases hg
  exact fun H locs ls hP hS hL => lv_if_eq hC.1 hC.2.1 hd ht (fun q => h1 q H locs ls hP hS hL) (fun q => h2 q H locs ls hP hS hL)
theorem ok_iceq {off : Int} (hd : decode cc pc = .ok (.if_icmp .eq off, 3)) (ht : (pc : Int) + off = (tg : Int)) (hn : pc + 3 = nx) : xOk own cc mL R pc (x_iceq tg nx) := by
  subst hn
  intro p l e s m args below meth c cells slots Q D cA ad Rt hC f hi
  obtain ⟨cd, t, n, f', hg, h1, h2⟩ := xbr_inv hi
  (try dsimp only at hg)
  split at hg <;> cases hg
  exact fun H locs ls hP hS hL => lv_icmp_eq hC.1 hC.2.1 hd ht (fun q => h1 q H locs ls hP hS hL) (fun q => h2 q H locs ls hP hS hL)
theorem ok_ifne {off : Int} (hd : decode cc pc = .ok (.ifCond .ne off, 3)) (ht : (pc : Int) + off = (tg : Int)) (hn : pc + 3 = nx) : xOk own cc mL R pc (x_ifne tg nx) := by
  subst hn
  intro p l e s m args below meth c cells slots Q D cA ad Rt hC f hi
  obtain ⟨cd, t, n, f', hg, h1, h2⟩ := xbr_inv hi
  (try dsimp only at hg)
  split at hg <;> cases hg
  exact fun H locs ls hP hS hL => lv_if_ne hC.1 hC.2.1 hd ht (fun q => h2 q H locs ls hP hS hL) (fun q => h1 q H locs ls hP hS hL)
theorem ok_icne {off : Int} (hd : decode cc pc = .ok (.if_icmp .ne off, 3)) (ht : (pc : Int) + off = (tg : Int)) (hn : pc + 3 = nx) : xOk own cc mL R pc (x_icne tg nx) := by
  subst hn
  intro p l e s m args below meth c cells slots Q D cA ad Rt hC f hi
  obtain ⟨cd, t, n, f', hg, h1, h2⟩ := xbr_inv hi
  (try dsimp only at hg)
  split at hg <;> cases hg
  exact fun H locs ls hP hS hL => lv_icmp_ne hC.1 hC.2.1 hd ht (fun q => h2 q H locs ls hP hS hL) (fun q => h1 q H locs ls hP hS hL)
theorem ok_iflt {off : Int} (hd : decode cc pc = .ok (.ifCond .lt off, 3)) (ht : (pc : Int) + off = (tg : Int)) (hn : pc + 3 = nx) : xOk own cc mL R pc (x_iflt tg nx) := by
  subst hn
  intro p l e s m args below meth c cells slots Q D cA ad Rt hC f hi
  obtain ⟨cd, t, n, f', hg, h1, h2⟩ := xbr_inv hi
  (try dsimp only at hg)
  split at hg <;> cases hg
  exact fun H locs ls hP hS hL => lv_if_lt hC.1 hC.2.1 hd ht (fun q => h1 q H locs ls hP hS hL) (fun q => h2 q H locs ls hP hS hL)
theorem ok_iclt {off : Int} (hd : decode cc pc = .ok (.if_icmp .lt off, 3)) (ht : (pc : Int) + off = (tg : Int)) (hn : pc + 3 = nx) : xOk own cc mL R pc (x_iclt tg nx) := by
  subst hn
  intro p l e s m args below meth c cells slots Q D cA ad Rt hC f hi
  obtain ⟨cd, t, n, f', hg, h1, h2⟩ := xbr_inv hi
  (try dsimp only at hg)
  split at hg <;> cases hg
  exact fun H locs ls hP hS hL => lv_icmp_lt hC.1 hC.2.1 hd ht (fun q => h1 q H locs ls hP hS hL) (fun q => h2 q H locs ls hP hS hL)
theorem ok_ifge {off : Int} (hd : decode cc pc = .ok (.ifCond .ge off, 3)) (ht : (pc : Int) + off = (tg : Int)) (hn : pc + 3 = nx) : xOk own cc mL R pc (x_ifge tg nx) := by
  subst hn
  intro p l e s m args below meth c cells slots Q D cA ad Rt hC f hi
  obtain ⟨cd, t, n, f', hg, h1, h2⟩ := xbr_inv hi
  (try dsimp only at hg)
  split at hg <;> cases hg
  exact fun H locs ls hP hS hL => lv_if_ge hC.1 hC.2.1 hd ht (fun q => h1 q H locs ls hP hS hL) (fun q => h2 q H locs ls hP hS hL)
theorem ok_icge {off : Int} (hd : decode cc pc = .ok (.if_icmp .ge off, 3)) (ht : (pc : Int) + off = (tg : Int)) (hn : pc + 3 = nx) : xOk own cc mL R pc (x_icge tg nx) := by
  subst hn
  intro p l e s m args below meth c cells slots Q D cA ad Rt hC f hi
  obtain ⟨cd, t, n, f', hg, h1, h2⟩ := xbr_inv hi
  (try dsimp only at hg)
  split at hg <;> cases hg
  exact fun H locs ls hP hS hL => lv_icmp_ge hC.1 hC.2.1 hd ht (fun q => h1 q H locs ls hP hS hL) (fun q => h2 q H locs ls hP hS hL)
theorem ok_ifgt {off : Int} (hd : decode cc pc = .ok (.ifCond .gt off, 3)) (ht : (pc : Int) + off = (tg : Int)) (hn : pc + 3 = nx) : xOk own cc mL R pc (x_ifgt tg nx) := by
  subst hn
  intro p l e s m args below meth c cells slots Q D cA ad Rt hC f hi
  obtain ⟨cd, t, n, f', hg, h1, h2⟩ := xbr_inv hi
  (try dsimp only at hg)
  split at hg <;> cases hg
  exact fun H locs ls hP hS hL => lv_if_gt hC.1 hC.2.1 hd ht (fun q => h1 q H locs ls hP hS hL) (fun q => h2 q H locs ls hP hS hL)
theorem ok_icgt {off : Int} (hd : decode cc pc = .ok (.if_icmp .gt off, 3)) (ht : (pc : Int) + off = (tg : Int)) (hn : pc + 3 = nx) : xOk own cc mL R pc (x_icgt tg nx) := by
  subst hn
  intro p l e s m args below meth c cells slots Q D cA ad Rt hC f hi
  obtain ⟨cd, t, n, f', hg, h1, h2⟩ := xbr_inv hi
  (try dsimp only at hg)
  split at hg <;> cases hg
  exact fun H locs ls hP hS hL => lv_icmp_gt hC.1 hC.2.1 hd ht (fun q => h1 q H locs ls hP hS hL) (fun q => h2 q H locs ls hP hS hL)
theorem ok_ifle {off : Int} (hd : decode cc pc = .ok (.ifCond .le off, 3)) (ht : (pc : Int) + off = (tg : Int)) (hn : pc + 3 = nx) : xOk own cc mL R pc (x_ifle tg nx) := by
  subst hn
  intro p l e s m args below meth c cells slots Q D cA ad Rt hC f hi
  obtain ⟨cd, t, n, f', hg, h1, h2⟩ := xbr_inv hi
  (try dsimp only at hg)
  split at hg <;> cases hg
  exact fun H locs ls hP hS hL => lv_if_le hC.1 hC.2.1 hd ht (fun q => h1 q H locs ls hP hS hL) (fun q => h2 q H locs ls hP hS hL)
theorem ok_icle {off : Int} (hd : decode cc pc = .ok (.if_icmp .le off, 3)) (ht : (pc : Int) + off = (tg : Int)) (hn : pc + 3 = nx) : xOk own cc mL R pc (x_icle tg nx) := by
  subst hn
  intro p l e s m args below meth c cells slots Q D cA ad Rt hC f hi
  obtain ⟨cd, t, n, f', hg, h1, h2⟩ := xbr_inv hi
  (try dsimp only at hg)
  split at hg <;> cases hg
  exact fun H locs ls hP hS hL => lv_icmp_le hC.1 hC.2.1 hd ht (fun q => h1 q H locs ls hP hS hL) (fun q => h2 q H locs ls hP hS hL)
end XOK
section XOK2
variable {own : String} {cc : ByteArray} {mL : Nat} {R : Room} {pc nx tg : Nat}
theorem xat_get {ad : xOb → Nat} : ∀ (l : List xV) (k : Nat) (v : xV), xat l k = some v → (l.map (xtv ad))[k]? = some (xtv ad v)
  | [], _, _, h => by cases h
  | a :: l, 0, v, h => by cases h; rfl
  | a :: l, k + 1, v, h => by
    have := xat_get (ad := ad) l k v h
    rw [List.map_cons, List.getElem?_cons_succ]
    exact this
theorem xwd_ob {ad : xOb → Nat} {cA : ClassId} {M : xM} {o : xOb} {ci : Nat} (h : xci o = ci) (h4 : ci < 4) : (xwd ad cA M)[xix o]? = some (ad o, .inr (ci, (xfl o (M o)).map (xtv ad))) := by
  subst h
  rw [xwd_at (xobs_cl o h4)]
  unfold xen
  rw [xal_cl o h4]
theorem xwd_ar {ad : xOb → Nat} {cA : ClassId} {M : xM} {o : xOb} {n : Nat} (h : xal o = some n) : (xwd ad cA M)[xix o]? = some (ad o, .inl (cA, n, .inl (M o))) := by
  rw [xwd_at (xobs_ar o n h)]
  unfold xen
  rw [h]
theorem ok_get {ci k ix : Nat} {C : String} {T : u_T} {N : Nat} (hcl : vwCl[ci]? = some (C, T, N)) (hlay : ∀ w ∈ u_ws C T N, w ∈ xAL) (hk : k < N) (hw : Cond.fieldLink own ix (T k).1 (T k).2.1 (T k).2.2.1 ∈ xAL) (hd : decode cc pc = .ok (.getfield ix, 3)) (hn : pc + 3 = nx) : xOk own cc mL R pc (x_get ci k nx) := by
  subst hn
  intro p l e s m args below meth c cells slots Q D cA ad Rt hC f hi
  obtain ⟨n, f', hg, hk2⟩ := xdet_inv hi
  (try dsimp only at hg)
  split at hg
  · rename_i ls0 o st M
    cases hb : Nat.beq (xci o) ci with
    | false => rw [hb] at hg; cases hg
    | true =>
      rw [hb] at hg
      have hg : (match xat (xfl o (M o)) k with
        | some v => some (pc + 3, ls0, v :: st, M)
        | none => none) = some (n, f') := hg
      split at hg <;> cases hg
      rename_i v hv
      have hci := Nat.eq_of_beq_eq_true hb
      have h4 : ci < 4 := (List.getElem?_eq_some_iff.mp hcl).1
      intro H locs ls hP hS hL
      exact va_get hC.1 hC.2.1 hC.2.2.2.2.1 hlay hC.2.2.2.1 hC.2.2.2.2.2.1.1 hP (xix o) (xwd_ob hci h4) hcl k hk (hC.2.2.2.2.1 _ hw) (fun _ h9 => h9) (xat_get _ k v hv) hd (hk2 H locs ls hP hS hL)
  · cases hg
theorem xwd_put {ad : xOb → Nat} {cA : ClassId} {M : xM} {o : xOb} {ci k : Nat} {a : Int32} (h : xci o = ci) (h4 : ci < 4) (hf : (xfl o (M o)).set k (xi a) = xfl o (upd (M o) k a)) : (xwd ad cA M).set (xix o) (ad o, .inr (ci, ((xfl o (M o)).map (xtv ad)).set k (.int a))) = xwd ad cA (xup M o k a) := by
  subst h
  have h1 := xwd_set (ad := ad) (cA := cA) (M := M) (xobs_cl o h4) (upd (M o) k a)
  have h2 : xen ad cA o (upd (M o) k a) = .inr (xci o, ((xfl o (M o)).map (xtv ad)).set k (.int a)) := by
    unfold xen
    rw [xal_cl o h4, ← hf, List.map_set]
    rfl
  rw [h2] at h1
  exact h1
theorem xwd_put2 {ad : xOb → Nat} {cA : ClassId} {M : xM} {o : xOb} {n k : Nat} {a : Int32} (h : xal o = some n) : (xwd ad cA M).set (xix o) (ad o, .inl (cA, n, .inl (upd (M o) k a))) = xwd ad cA (xup M o k a) := by
  have h1 := xwd_set (ad := ad) (cA := cA) (M := M) (xobs_ar o n h) (upd (M o) k a)
  have h2 : xen ad cA o (upd (M o) k a) = .inl (cA, n, .inl (upd (M o) k a)) := by
    unfold xen
    rw [h]
  rw [h2] at h1
  exact h1
theorem xput_at {l : List xV} {k : Nat} {a b : xV} (h : xat l k = some b) : k < l.length := by
  have := xat_get (ad := fun _ => 0) l k b h
  have := (List.getElem?_eq_some_iff.mp this).1
  simpa using this
theorem ok_put {ci k ix : Nat} {C : String} {T : u_T} {N : Nat} (hcl : vwCl[ci]? = some (C, T, N)) (hlay : ∀ w ∈ u_ws C T N, w ∈ xAL) (ty0 : Nat → FieldType) (hty : ∀ k, k < N → parseFieldDescriptor (T k).2.2.1 = some (ty0 k)) (hnm : ∀ a, a < N → ∀ b, b < N → a ≠ b → (T a).2.1 ≠ (T b).2.1) (hk : k < N) (hfin : (T k).2.2.2 = false) (hint : ty0 k = .int) (hfl : ∀ (o : xOb) (g : Nat → Int32) (a : Int32), xci o = ci → (xfl o g).set k (xi a) = xfl o (upd g k a) ∧ k < (xfl o g).length) (hw : Cond.fieldLink own ix (T k).1 (T k).2.1 (T k).2.2.1 ∈ xAL) (hd : decode cc pc = .ok (.putfield ix, 3)) (hn : pc + 3 = nx) : xOk own cc mL R pc (x_put ci k nx) := by
  subst hn
  intro p l e s m args below meth c cells slots Q D cA ad Rt hC f hi
  obtain ⟨n, f', hg, hk2⟩ := xdet_inv hi
  (try dsimp only at hg)
  split at hg
  · rename_i ls0 a o st M
    cases hb : Nat.beq (xci o) ci with
    | false => rw [hb] at hg; cases hg
    | true =>
      rw [hb] at hg
      have hg : some (pc + 3, ls0, st, xup M o k a) = some (n, f') := hg
      cases hg
      have hci := Nat.eq_of_beq_eq_true hb
      have h4 : ci < 4 := (List.getElem?_eq_some_iff.mp hcl).1
      intro H locs ls hP hS hL
      refine va_put (v := .int a) (ty := .int) hC.1 hC.2.1 hC.2.2.2.2.1 hlay ty0 hty hnm hC.2.2.2.1 hC.2.2.2.2.2.1.1 hP (xwd_D hC.2.2.2.2.2.1.2.1) hS (xix o) (xwd_ob hci h4) hcl k hk (hC.2.2.2.2.1 _ hw) (fun _ h9 => h9) hfin (by rw [hty k hk, hint]) rfl rfl (by rw [List.length_map]; exact (hfl o (M o) a hci).2) hd (fun H1 locs1 hP1 _ hS1 => ?_)
      rw [xwd_put hci h4 (hfl o (M o) a hci).1] at hP1
      exact hk2 H1 locs1 ls hP1 hS1 hL
  · cases hg
theorem ok_putz {ci k ix : Nat} {C : String} {T : u_T} {N : Nat} (hcl : vwCl[ci]? = some (C, T, N)) (hlay : ∀ w ∈ u_ws C T N, w ∈ xAL) (ty0 : Nat → FieldType) (hty : ∀ k, k < N → parseFieldDescriptor (T k).2.2.1 = some (ty0 k)) (hnm : ∀ a, a < N → ∀ b, b < N → a ≠ b → (T a).2.1 ≠ (T b).2.1) (hk : k < N) (hfin : (T k).2.2.2 = false) (hint : ty0 k = .boolean) (hfl : ∀ (o : xOb) (g : Nat → Int32) (a : Int32), xci o = ci → (xfl o g).set k (xi a) = xfl o (upd g k a) ∧ k < (xfl o g).length) (hw : Cond.fieldLink own ix (T k).1 (T k).2.1 (T k).2.2.1 ∈ xAL) (hd : decode cc pc = .ok (.putfield ix, 3)) (hn : pc + 3 = nx) : xOk own cc mL R pc (x_putz ci k nx) := by
  subst hn
  intro p l e s m args below meth c cells slots Q D cA ad Rt hC f hi
  obtain ⟨cd, n, f', hg, hcd, hk2⟩ := xdec_inv hi
  (try dsimp only at hg)
  split at hg
  · rename_i ls0 a o st M
    cases hb : Nat.beq (xci o) ci with
    | false => rw [hb] at hg; cases hg
    | true =>
      rw [hb] at hg
      have hg : some ((a = 0 ∨ a = 1), pc + 3, ls0, st, xup M o k a) = some (cd, n, f') := hg
      cases hg
      have hci := Nat.eq_of_beq_eq_true hb
      have h4 : ci < 4 := (List.getElem?_eq_some_iff.mp hcl).1
      have hnr : narrow .boolean (.int a) = .int a ∧ fits .boolean (.int a) = true := by
        rcases hcd with rfl | rfl <;> exact ⟨rfl, rfl⟩
      intro H locs ls hP hS hL
      refine va_put (v := .int a) (ty := .boolean) hC.1 hC.2.1 hC.2.2.2.2.1 hlay ty0 hty hnm hC.2.2.2.1 hC.2.2.2.2.2.1.1 hP (xwd_D hC.2.2.2.2.2.1.2.1) hS (xix o) (xwd_ob hci h4) hcl k hk (hC.2.2.2.2.1 _ hw) (fun _ h9 => h9) hfin (by rw [hty k hk, hint]) hnr.1 hnr.2 (by rw [List.length_map]; exact (hfl o (M o) a hci).2) hd (fun H1 locs1 hP1 _ hS1 => ?_)
      rw [xwd_put hci h4 (hfl o (M o) a hci).1] at hP1
      exact hk2 H1 locs1 ls hP1 hS1 hL
  · cases hg
theorem ok_iald (hd : decode cc pc = .ok (.iaload, 1)) (hn : pc + 1 = nx) : xOk own cc mL R pc (x_iald nx) := by
  subst hn
  intro p l e s m args below meth c cells slots Q D cA ad Rt hC f hi
  obtain ⟨cd, n, f', hg, hcd, hk2⟩ := xdec_inv hi
  (try dsimp only at hg)
  split at hg
  · split at hg <;> cases hg
    rename_i hal
    intro H locs ls hP hS hL
    exact va_iald hC.1 hC.2.1 hC.2.2.2.2.2.1.1 hP _ 0 (xwd_ar hal) rfl hcd hd (hk2 H locs ls hP hS hL)
  · cases hg
theorem ok_iast (hd : decode cc pc = .ok (.iastore, 1)) (hn : pc + 1 = nx) : xOk own cc mL R pc (x_iast nx) := by
  subst hn
  intro p l e s m args below meth c cells slots Q D cA ad Rt hC f hi
  obtain ⟨cd, n, f', hg, hcd, hk2⟩ := xdec_inv hi
  (try dsimp only at hg)
  split at hg
  · split at hg <;> cases hg
    rename_i hal
    intro H locs ls hP hS hL
    refine va_iast hC.1 hC.2.1 hC.2.2.2.2.2.1.1 hP (xwd_D hC.2.2.2.2.2.1.2.1) hS _ 0 (xwd_ar hal) rfl hcd hd (fun H1 locs1 hP1 _ hS1 => ?_)
    rw [xwd_put2 hal] at hP1
    exact hk2 H1 locs1 ls hP1 hS1 hL
  · cases hg
theorem xcs_sum (ad : xOb → Nat) : ∀ st : List xV, ((st.map (xtv ad)).map fun v => v.category).sum = xcs st
  | [] => rfl
  | v :: r => by
    rw [List.map_cons, List.map_cons, List.sum_cons, xcs_sum ad r, xtv_cat]
    rfl
theorem ok_min {ix : Nat} (hw : Cond.methodLink own ix Lib.Math.min.name ∈ xAL) (hR : 1 ≤ R.frames ∧ 21 ≤ R.locals) (hd : decode cc pc = .ok (.invokestatic ix, 3)) (hn : pc + 3 = nx) : xOk own cc mL R pc (x_min nx) := by
  subst hn
  intro p l e s m args below meth c cells slots Q D cA ad Rt hC f hi
  obtain ⟨n, f', hg, hk2⟩ := xdet_inv hi
  (try dsimp only at hg)
  split at hg
  · rename_i ls0 b a st M
    cases hb : Nat.ble (xcs st) 8 with
    | false => rw [hb] at hg; cases hg
    | true =>
      rw [hb] at hg
      have hg : some (pc + 3, ls0, (.inl (if b < a then b else a) : xV) :: st, M) = some (n, f') := hg
      cases hg
      have h8 := Nat.le_of_ble_eq_true hb
      intro H locs ls hP hS hL
      exact va_mmin hC.1 hC.2.1 (by rw [hC.2.2.1]; exact hL.2.1.symm) hC.2.2.2.1 (hC.2.2.2.2.1 _ hw) (hC.2.2.2.2.1 _ kst_J9_min_7cf53) (hC.2.2.2.2.1 _ kin_J9) (hC.2.2.2.2.1 _ kc_J9_min_7cf53) hR.1 (by rw [xcs_sum]; omega) hC.2.2.2.2.2.2.1 hC.2.2.2.2.2.2.2 hd (hk2 H locs ls hP hS hL)
  · cases hg
theorem ok_max {ix : Nat} (hw : Cond.methodLink own ix Lib.Math.max.name ∈ xAL) (hR : 1 ≤ R.frames ∧ 21 ≤ R.locals) (hd : decode cc pc = .ok (.invokestatic ix, 3)) (hn : pc + 3 = nx) : xOk own cc mL R pc (x_max nx) := by
  subst hn
  intro p l e s m args below meth c cells slots Q D cA ad Rt hC f hi
  obtain ⟨n, f', hg, hk2⟩ := xdet_inv hi
  (try dsimp only at hg)
  split at hg
  · rename_i ls0 b a st M
    cases hb : Nat.ble (xcs st) 8 with
    | false => rw [hb] at hg; cases hg
    | true =>
      rw [hb] at hg
      have hg : some (pc + 3, ls0, (.inl (if a < b then b else a) : xV) :: st, M) = some (n, f') := hg
      cases hg
      have h8 := Nat.le_of_ble_eq_true hb
      intro H locs ls hP hS hL
      exact va_mmax hC.1 hC.2.1 (by rw [hC.2.2.1]; exact hL.2.1.symm) hC.2.2.2.1 (hC.2.2.2.2.1 _ hw) (hC.2.2.2.2.1 _ kst_J9_max_7cf53) (hC.2.2.2.2.1 _ kin_J9) (hC.2.2.2.2.1 _ kc_J9_max_7cf53) hR.1 (by rw [xcs_sum]; omega) hC.2.2.2.2.2.2.1 hC.2.2.2.2.2.2.2 hd (hk2 H locs ls hP hS hL)
  · cases hg
end XOK2
end
section
theorem xpop_spec : ∀ (n : Nat) (st acc as rest : List xV), xpop n st acc = some (as, rest) → ∃ bs, as = bs ++ acc ∧ st = bs.reverse ++ rest ∧ bs.length = n
  | 0, st, acc, as, rest, h => by
    cases h
    exact ⟨[], rfl, rfl, rfl⟩
  | n + 1, [], acc, as, rest, h => by cases h
  | n + 1, v :: st, acc, as, rest, h => by
    obtain ⟨bs, h1, h2, h3⟩ := xpop_spec n st (v :: acc) as rest h
    refine ⟨bs ++ [v], ?_, ?_, ?_⟩
    · rw [h1, List.append_assoc]; rfl
    · rw [h2, List.reverse_append]; rfl
    · rw [List.length_append, h3]; rfl
/-- a method's meaning is what the JVM does -/
def xSnd (y : MethodName) (bytes : ByteArray) (maxL : Nat) (ret : Option FieldType) (rm : Room) (w : xZ) : Prop :=
  ∀ (l : Launch) (D : va_G) (cA : ClassId) (ad : xOb → Nat) (as : List xV) (M : xM) (Rt : xR), xcs as ≤ maxL → w.1 as M Rt → Met l y (Cond.code y bytes maxL ret :: xAL) rm (xPre D cA ad as M) (xPost D cA ad Rt) 0 0 (xAd ad)
section XCA
variable {p : Program} {l : Launch} {e : Env} {R : Room} {s : State} {m : MethodId} {args : Array Value} {below : List Frame} {meth : Method} {c : Code} {cells slots : Nat} {Q : State → Prop} {D : va_G} {cA : ClassId} {ad : xOb → Nat} {mL pc : Nat}
theorem xrun_W {H : Heap} {locs : List Loc} {ls : Array Slot} {st0 : List Value} {ls0 : List (Option xV)} {rest : List xV} {Rt : xR} {a : Array Value}
    (hr : va_Run p l e R s m args below meth c H locs cells slots 0 0 (F0 m pc ls st0) (rest.map (xtv ad)) (xPost D cA ad Rt a) (xAd ad)) (hS : va_S (xAd ad) s.heap H locs) (hL : xLk ad ls mL ls0)
    (kk : ∀ v M', Rt v M' → xPW p l e R s m args below meth c cells slots Q D cA ad mL (pc + 3) (ls0, v.toList ++ rest, M')) : W p l e R s m args below meth c H locs cells slots Q (F0 m pc ls st0) := by
  intro T hT X
  obtain ⟨v, st₀, t, T', L, h0, X', hLo, e1, e2, ⟨⟨v', M', hv, hp, hb⟩, hz, hk⟩, st⟩ := hr T hT X
  cases hv
  rw [h0] at hz hk
  have key := kk v' M' hp T'.heap (locs ++ L) ls (by rw [e1]; exact hb)
    ⟨Nat.le_trans hS.1 (by rw [e1]; exact hz), fun q h1 h2 => by rw [e1, hk q (Nat.lt_of_lt_of_le h1 hS.1) h2]; exact hS.2.1 q h1 h2, fun q hq => by
      rcases List.mem_append.mp hq with h | h
      · exact hS.2.2 q h
      · exact hLo q h⟩ hL
  obtain ⟨t2, a1, b1⟩ := key T' rfl X'
  refine ⟨t2, st t2 ?_, b1⟩
  have he : (v'.map (xtv ad)).toList ++ rest.map (xtv ad) = (v'.toList ++ rest).map (xtv ad) := by cases v' <;> rfl
  rw [he]
  exact a1
end XCA
def xoS (mL : Nat) : List xV → Bool := fun as => Nat.ble (xcs as) mL
def xoV (ci mL : Nat) : List xV → Bool := fun as => match as with
  | .inr (.inr o) :: _ => Nat.beq (xci o) ci && Nat.ble (xcs as) mL
  | _ => false
def xoT (mL : Nat) : List xV → Bool := fun as => match as with
  | .inr (.inr (.inr (.inr (.inr n)))) :: _ => (Nat.ble 20 n && Nat.ble n 25) && Nat.ble (xcs as) mL
  | _ => false
section XOK3
variable {own : String} {cc : ByteArray} {mL : Nat} {R : Room} {pc nx tg : Nat}
theorem xcall_inv {ok : List xV → Bool} {w : xZ} {n : Nat} {f : xF} {K : xK} {Rt : xR} (h : (xcall ok w n nx).1 f K Rt) : ∃ ls0 as rest M, f = (ls0, as.reverse ++ rest, M) ∧ as.length = n ∧ ok as = true ∧ xcs rest ≤ 8 ∧ w.1 as M (fun v M' => K nx (ls0, v.toList ++ rest, M')) := by
  obtain ⟨ls0, st, M⟩ := f
  have h : (match xpop n st [] with
    | some (as, rest) => (ok as && Nat.ble (xcs rest) 8) = true ∧ w.1 as M (fun v M' => K nx (ls0, v.toList ++ rest, M'))
    | none => False) := h
  cases hp : xpop n st [] with
  | none => rw [hp] at h; exact h.elim
  | some q =>
    obtain ⟨as, rest⟩ := q
    rw [hp] at h
    obtain ⟨bs, h1, h2, h3⟩ := xpop_spec n st [] as rest hp
    rw [List.append_nil] at h1
    subst h1
    have hb := Bool.and_eq_true_iff.mp h.1
    exact ⟨ls0, as, rest, M, by rw [h2], h3, hb.1, Nat.le_of_ble_eq_true hb.2, h.2⟩
theorem xgood {y : MethodName} {bytes : ByteArray} {maxL : Nat} {ret : Option FieldType} (h : Cond.code y bytes maxL ret ∈ xAL) : GoodIn xAL (Cond.code y bytes maxL ret :: xAL) := fun w hw => by
  rcases List.mem_cons.mp hw with rfl | hw
  · exact xAL_good _ h
  · exact xAL_good _ hw
def xDs (y : MethodName) (n : Nat) : Prop := y.cls ≠ "java/lang/invoke/MethodHandle" ∧ y.cls ≠ "java/lang/invoke/VarHandle" ∧ (parseMethodDescriptor y.desc).map (fun d => d.parameters.length) = some n
theorem ok_callS {y : MethodName} {bytes : ByteArray} {maxL : Nat} {ret : Option FieldType} {rm : Room} {w : xZ} {ix n : Nat} (hM : xSnd y bytes maxL ret rm w) (hrm : rm.cells = 0 ∧ rm.slots = 0) (hR : rm.frames + 1 ≤ R.frames ∧ 8 + (maxL + 11) + rm.locals ≤ R.locals) (hds : xDs y n)
    (w1 : Cond.methodLink own ix y ∈ xAL) (w2 : Cond.static y ∈ xAL) (w3 : Cond.initialized y.cls ∈ xAL) (w4 : Cond.code y bytes maxL ret ∈ xAL) (hd : decode cc pc = .ok (.invokestatic ix, 3)) (hn : pc + 3 = nx) : xOk own cc mL R pc (xcall (xoS maxL) w n nx) := by
  subst hn
  intro p l e s m args below meth c cells slots Q D cA ad Rt hC f hi
  obtain ⟨ls0, as, rest, M, rfl, hlen, hok, h8, hw⟩ := xcall_inv hi
  intro H locs ls hP hS hL
  have hts := hC.2.2.2.2.1
  have hM2 := hM l D cA ad as M _ (Nat.le_of_ble_eq_true hok) hw
  have hcb : CallB R s args own ix y bytes maxL ret (Cond.code y bytes maxL ret :: xAL) rm 0 0 n := callB_of n hts (xgood w4) rfl hrm.1 hrm.2 (hts _ w3) (hts _ w1) hds hR
  refine xrun_W (a := ((as.map (xtv ad))).toArray) (rest := rest) (va_runS (As := as.map (xtv ad)) ⟨hC.1, hC.2.1, hC.2.2.1, hC.2.2.2.1, hts⟩ hM2 ⟨hcb, hts _ w2⟩ ⟨xPre_blind, fun U hU hW => ⟨rfl, by rw [hU]; exact hP, xSx_warm hW (by rw [hU]; exact hS) hC.2.2.2.2.2.1⟩⟩ rfl (by rw [List.length_map]; exact hlen) hL.2.1 (by show (as.reverse ++ rest).map (xtv ad) = _; rw [List.map_append, List.map_reverse]) (lv_room (by rw [xcs_sum]; exact h8)) hd ⟨hC.2.2.2.2.2.2.1, hC.2.2.2.2.2.2.2⟩) hS hL (fun v M' h => h)
theorem ok_callV {ci : Nat} {C : String} {T : u_T} {N : Nat} {y : MethodName} {bytes : ByteArray} {maxL : Nat} {ret : Option FieldType} {rm : Room} {w : xZ} {ix n : Nat} (hcl : vwCl[ci]? = some (C, T, N)) (hM : xSnd y bytes maxL ret rm w) (hrm : rm.cells = 0 ∧ rm.slots = 0) (hR : rm.frames + 1 ≤ R.frames ∧ 8 + (maxL + 11) + rm.locals ≤ R.locals) (hds : xDs y n) 
    (w1 : Cond.methodLink own ix y ∈ xAL) (w2 : Cond.instanceMethod y ∈ xAL) (w5 : Cond.selects C y y ∈ xAL) (w3 : Cond.initialized y.cls ∈ xAL) (w4 : Cond.code y bytes maxL ret ∈ xAL) (hd : decode cc pc = .ok (.invokevirtual ix, 3)) (hn : pc + 3 = nx) : xOk own cc mL R pc (xcall (xoV ci maxL) w (n + 1) nx) := by
  subst hn
  intro p l e s m args below meth c cells slots Q D cA ad Rt hC f hi
  obtain ⟨ls0, as, rest, M, rfl, hlen, hok, h8, hw⟩ := xcall_inv hi
  intro H locs ls hP hS hL
  have hts := hC.2.2.2.2.1
  match as, hlen, hok, hw with
  | .inr (.inr o) :: as, hlen, hok, hw =>
    have hb := Bool.and_eq_true_iff.mp hok
    have hci := Nat.eq_of_beq_eq_true hb.1
    have h4 : ci < 4 := (List.getElem?_eq_some_iff.mp hcl).1
    have hM2 := hM l D cA ad _ M _ (Nat.le_of_ble_eq_true hb.2) hw
    have hcb : CallB R s args own ix y bytes maxL ret (Cond.code y bytes maxL ret :: xAL) rm 0 0 n := callB_of n hts (xgood w4) rfl hrm.1 hrm.2 (hts _ w3) (hts _ w1) hds hR
    refine xrun_W (a := (Value.ref (ad o) :: as.map (xtv ad)).toArray) (rest := rest) (va_runV (b := ad o) (C := C) (As := as.map (xtv ad)) ⟨hC.1, hC.2.1, hC.2.2.1, hC.2.2.2.1, hts⟩ hM2 ⟨hcb, hts _ w2, hts _ w5⟩ ⟨xPre_blind, va_recv hC.2.2.2.2.2.1.1 hP hcl (xwd_ob hci h4), fun U hU hW => ⟨rfl, by rw [hU]; exact hP, xSx_warm hW (by rw [hU]; exact hS) hC.2.2.2.2.2.1⟩⟩ rfl (by rw [List.length_map]; exact Nat.succ.inj hlen) hL.2.1 (by show ((.inr (.inr o) :: as).reverse ++ rest).map (xtv ad) = _; rw [List.reverse_cons, List.append_assoc, List.map_append, List.map_reverse]; rfl) (lv_room (by rw [xcs_sum]; exact h8)) hd ⟨hC.2.2.2.2.2.2.1, hC.2.2.2.2.2.2.2⟩) hS hL (fun v M' h => h)
  | [], _, hok, _ => cases hok
  | .inl _ :: _, _, hok, _ => cases hok
  | .inr (.inl _) :: _, _, hok, _ => cases hok
theorem ok_callT {y : MethodName} {bytes : ByteArray} {maxL : Nat} {ret : Option FieldType} {rm : Room} {w : xZ} {ix n : Nat} (hM : xSnd y bytes maxL ret rm w) (hrm : rm.cells = 0 ∧ rm.slots = 0) (hR : rm.frames + 1 ≤ R.frames ∧ 8 + (maxL + 11) + rm.locals ≤ R.locals) (hds : xDs y n) 
    (w1 : Cond.methodLink own ix y ∈ xAL) (w2 : Cond.instanceMethod y ∈ xAL) (w5 : Cond.selects "java/lang/String" y y ∈ xAL) (w3 : Cond.initialized y.cls ∈ xAL) (w4 : Cond.code y bytes maxL ret ∈ xAL) (hd : decode cc pc = .ok (.invokevirtual ix, 3)) (hn : pc + 3 = nx) : xOk own cc mL R pc (xcall (xoT maxL) w (n + 1) nx) := by
  subst hn
  intro p l e s m args below meth c cells slots Q D cA ad Rt hC f hi
  obtain ⟨ls0, as, rest, M, rfl, hlen, hok, h8, hw⟩ := xcall_inv hi
  intro H locs ls hP hS hL
  have hts := hC.2.2.2.2.1
  match as, hlen, hok, hw with
  | .inr (.inr (.inr (.inr (.inr k)))) :: as, hlen, hok, hw =>
    have hb := Bool.and_eq_true_iff.mp hok
    have hb2 := Bool.and_eq_true_iff.mp hb.1
    have k1 := Nat.le_of_ble_eq_true hb2.1
    have k2 := Nat.le_of_ble_eq_true hb2.2
    obtain ⟨i, rfl⟩ : ∃ i, k = 20 + i := ⟨k - 20, by omega⟩
    have hM2 := hM l D cA ad _ M _ (Nat.le_of_ble_eq_true hb.2) hw
    have hcb : CallB R s args own ix y bytes maxL ret (Cond.code y bytes maxL ret :: xAL) rm 0 0 n := callB_of n hts (xgood w4) rfl hrm.1 hrm.2 (hts _ w3) (hts _ w1) hds hR
    refine xrun_W (a := (Value.ref (ad (xN (20 + i))) :: as.map (xtv ad)).toArray) (rest := rest) (va_runV (b := ad (xN (20 + i))) (C := "java/lang/String") (As := as.map (xtv ad)) ⟨hC.1, hC.2.1, hC.2.2.1, hC.2.2.2.1, hts⟩ hM2 ⟨hcb, hts _ w2, hts _ w5⟩ ⟨xPre_blind, vk_recv (adK := fun i => ad (xN (20 + i))) (i := i) hC.2.2.2.2.2.1.2.2.2.2.1 (by omega) hS, fun U hU hW => ⟨rfl, by rw [hU]; exact hP, xSx_warm hW (by rw [hU]; exact hS) hC.2.2.2.2.2.1⟩⟩ rfl (by rw [List.length_map]; exact Nat.succ.inj hlen) hL.2.1 (by show ((.inr (.inr (xN (20 + i))) :: as).reverse ++ rest).map (xtv ad) = _; rw [List.reverse_cons, List.append_assoc, List.map_append, List.map_reverse]; rfl) (lv_room (by rw [xcs_sum]; exact h8)) hd ⟨hC.2.2.2.2.2.2.1, hC.2.2.2.2.2.2.2⟩) hS hL (fun v M' h => h)
  | [], _, hok, _ => cases hok
  | .inl _ :: _, _, hok, _ => cases hok
  | .inr (.inl _) :: _, _, hok, _ => cases hok
  | .inr (.inr (.inl _)) :: _, _, hok, _ => cases hok
  | .inr (.inr (.inr (.inl _))) :: _, _, hok, _ => cases hok
  | .inr (.inr (.inr (.inr (.inl _)))) :: _, _, hok, _ => cases hok
/-! switches -/
theorem xsw_at {a : Int32} {d : Nat} {k : Nat → Prop} : ∀ {r : List (Int32 × Nat)}, xsw a d k r → k (((r.find? (fun q => q.1 == a)).map (fun q => q.2)).getD d)
  | [], h => h
  | (c, t) :: r, h => by
    by_cases hc : a = c
    · subst hc
      simpa using h.1 rfl
    · have := xsw_at (h.2 hc)
      have hf : ((c, t).1 == a) = false := by
        rw [beq_eq_false_iff_ne]
        exact fun q => hc q.symm
      rw [List.find?_cons_of_neg (by rw [hf]; decide)]
      exact this
theorem xswi_inv {d : Nat} {r : List (Int32 × Nat)} {f : xF} {K : xK} {Rt : xR} (h : (xswi d r).1 f K Rt) : ∃ ls0 a st M, f = (ls0, .inl a :: st, M) ∧ K (((r.find? (fun q => q.1 == a)).map (fun q => q.2)).getD d) (ls0, st, M) := by
  obtain ⟨ls0, st, M⟩ := f
  match st, h with
  | .inl a :: st, h => exact ⟨ls0, a, st, M, rfl, xsw_at (k := fun n => K n (ls0, st, M)) h⟩
  | [], h => exact h.elim
  | .inr _ :: _, h => exact h.elim
/-- a tableswitch: its cases lo, lo + 1 .. and where each goes -/
theorem ok_tsw {dflt lo hi : Int} {offs : Array Int} {len d : Nat} {r : List (Int32 × Nat)} (hd : decode cc pc = .ok (.tableswitch dflt lo hi offs, len)) (h0 : (pc : Int) + dflt = (d : Int))
    (hin : ∀ q ∈ r, ¬ q.1.toInt < lo ∧ ¬ hi < q.1.toInt ∧ ∃ off, offs[(q.1.toInt - lo).toNat]? = some off ∧ (pc : Int) + off = (q.2 : Int)) (hall : ∀ k : Nat, k < (hi - lo + 1).toNat → ∃ q ∈ r, q.1.toInt = lo + k) : xOk own cc mL R pc (xswi d r) := by
  intro p l e s m args below meth c cells slots Q D cA ad Rt hC f hi0
  obtain ⟨ls0, a, st, M, rfl, hk⟩ := xswi_inv hi0
  intro H locs ls hP hS hL
  cases hf : r.find? (fun q => q.1 == a) with
  | some q =>
    rw [hf] at hk
    have hq := List.find?_some hf
    have hqa : q.1 = a := by simpa using hq
    obtain ⟨h1, h2, off, h3, h4⟩ := hin q (List.mem_of_find?_eq_some hf)
    rw [hqa] at h1 h2 h3
    exact lv_tableIn hC.1 hC.2.1 hd h1 h2 h3 h4 (hk H locs ls hP hS hL)
  | none =>
    rw [hf] at hk
    have hn := List.find?_eq_none.mp hf
    refine lv_tableOut hC.1 hC.2.1 hd ?_ h0 (hk H locs ls hP hS hL)
    by_cases h1 : a.toInt < lo
    · exact Or.inl h1
    · by_cases h2 : hi < a.toInt
      · exact Or.inr h2
      · exfalso
        obtain ⟨q, hq, he⟩ := hall (a.toInt - lo).toNat (by omega)
        have he : q.1.toInt = a.toInt := by rw [he]; omega
        exact hn q hq (by simpa using Int32.toInt_inj.mp he)
theorem xlk_off : ∀ (r : List (Int32 × Nat)) (pc d : Nat) (dflt : Int) (a : Int32), (pc : Int) + dflt = (d : Int) → (pc : Int) + Op.lookupswitch.offset (r.map fun q => (q.1.toInt, (q.2 : Int) - pc)) dflt a.toInt = ((((r.find? (fun q => q.1 == a)).map (fun q => q.2)).getD d : Nat) : Int)
  | [], pc, d, dflt, a, h => h
  | (c, t) :: r, pc, d, dflt, a, h => by
    rw [List.map_cons, Op.lookupswitch.offset_cons]
    by_cases hc : a = c
    · subst hc
      rw [if_pos rfl]
      simp
      omega
    · rw [if_neg (fun q => hc (Int32.toInt_inj.mp q.symm)), xlk_off r pc d dflt a h]
      have hf : ((c, t).1 == a) = false := by
        rw [beq_eq_false_iff_ne]
        exact fun q => hc q.symm
      rw [List.find?_cons_of_neg (by rw [hf]; decide)]
theorem ok_lsw {dflt : Int} {ps : Array (Int × Int)} {len d : Nat} {r : List (Int32 × Nat)} (hd : decode cc pc = .ok (.lookupswitch dflt ps, len)) (h0 : (pc : Int) + dflt = (d : Int)) (hs : (ps.toList.zip (ps.toList.drop 1)).all (fun (a, next) => a.1 < next.1) = true) (hr : ps.toList = r.map fun q => (q.1.toInt, (q.2 : Int) - pc)) : xOk own cc mL R pc (xswi d r) := by
  intro p l e s m args below meth c cells slots Q D cA ad Rt hC f hi0
  obtain ⟨ls0, a, st, M, rfl, hk⟩ := xswi_inv hi0
  intro H locs ls hP hS hL
  exact lv_lookup hC.1 hC.2.1 hd hs rfl (by rw [hr]; exact xlk_off r pc d dflt a h0) (hk H locs ls hP hS hL)
/-! a method: its instructions, its ends -/
def xOkM (own : String) (cc : ByteArray) (mL : Nat) (ret : Option FieldType) (R : Room) (pc : Nat) (i : xI) : Prop :=
  ∀ (p : Program) (l : Launch) (e : Env) (s : State) (m : MethodId) (args : Array Value) (below : List Frame) (meth : Method) (c : Code) (D : va_G) (cA : ClassId) (ad : xOb → Nat) (Rt : xR),
    xCx p s m args c own cc mL R 0 0 D cA ad → meth.sig.returnType = ret → meth.locks = false → ∀ f : xF, i.1 f (xPW p l e R s m args below meth c 0 0 (MQ below (xPost D cA ad Rt) args s 0 0 (xAd ad)) D cA ad mL) Rt → xPW p l e R s m args below meth c 0 0 (MQ below (xPost D cA ad Rt) args s 0 0 (xAd ad)) D cA ad mL pc f
theorem xOk.m {ret : Option FieldType} {i : xI} (h : xOk own cc mL R pc i) : xOkM own cc mL ret R pc i := fun p l e s m args below meth c D cA ad Rt hC _ _ f hi => h p l e s m args below meth c 0 0 _ D cA ad Rt hC f hi
theorem ok_st {ret : Option FieldType} : xOkM own cc mL ret R pc xst := fun _ _ _ _ _ _ _ _ _ _ _ _ _ _ _ _ _ hi => hi.elim
theorem ok_iret (hd : decode cc pc = .ok (.ireturn, 1)) : xOkM own cc mL (some .int) R pc x_iret := by
  intro p l e s m args below meth c D cA ad Rt hC hr hlk f hi
  obtain ⟨cd, v, M, hg, hcd, hk⟩ := xre_inv hi
  (try dsimp only at hg)
  split at hg <;> cases hg
  exact fun H locs ls hP hS hL => W.iret hC.1 hC.2.1 hr (fun t ht hW => ⟨⟨_, _, rfl, hk, by rw [ht]; exact hP⟩, hS.F ht⟩) hS.2.2 hd
theorem ok_zret (hd : decode cc pc = .ok (.ireturn, 1)) : xOkM own cc mL (some .boolean) R pc x_zret := by
  intro p l e s m args below meth c D cA ad Rt hC hr hlk f hi
  obtain ⟨cd, v, M, hg, hcd, hk⟩ := xre_inv hi
  (try dsimp only at hg)
  split at hg <;> cases hg
  exact fun H locs ls hP hS hL => W.zret hC.1 hC.2.1 hr (by rcases hcd with rfl | rfl <;> rfl) (fun t ht hW => ⟨⟨_, _, rfl, hk, by rw [ht]; exact hP⟩, hS.F ht⟩) hS.2.2 hd
theorem ok_lret (hd : decode cc pc = .ok (.lreturn, 1)) : xOkM own cc mL (some .long) R pc x_lret := by
  intro p l e s m args below meth c D cA ad Rt hC hr hlk f hi
  obtain ⟨cd, v, M, hg, hcd, hk⟩ := xre_inv hi
  (try dsimp only at hg)
  split at hg <;> cases hg
  exact fun H locs ls hP hS hL => W.lret hC.1 hC.2.1 hr (fun t ht hW => ⟨⟨_, _, rfl, hk, by rw [ht]; exact hP⟩, hS.F ht⟩) hS.2.2 hd
theorem ok_aret {nm : String} (hd : decode cc pc = .ok (.areturn, 1)) : xOkM own cc mL (some (.object nm)) R pc x_aret := by
  intro p l e s m args below meth c D cA ad Rt hC hr hlk f hi
  obtain ⟨cd, v, M, hg, hcd, hk⟩ := xre_inv hi
  (try dsimp only at hg)
  split at hg <;> cases hg
  exact fun H locs ls hP hS hL => W.aret hC.1 hC.2.1 hr (Or.inl ⟨nm, rfl⟩) (Or.inr ⟨_, rfl⟩) (fun t ht hW => ⟨⟨_, _, rfl, hk, by rw [ht]; exact hP⟩, hS.F ht⟩) hS.2.2 hd
theorem ok_vret (hd : decode cc pc = .ok (.return_, 1)) : xOkM own cc mL none R pc x_vret := by
  intro p l e s m args below meth c D cA ad Rt hC hr hlk f hi
  obtain ⟨cd, v, M, hg, hcd, hk⟩ := xre_inv hi
  (try dsimp only at hg)
  split at hg <;> cases hg
  exact fun H locs ls hP hS hL => W.vret hC.1 hC.2.1 hr (fun t ht hW => ⟨⟨_, _, rfl, hk, by rw [ht]; exact hP⟩, hS.F ht⟩) hS.2.2 hd
theorem xlg_len (ad : xOb → Nat) : ∀ as : List xV, (lg_sl (as.map (xtv ad))).length = xcs as
  | [] => rfl
  | .inl a :: r => by
    have := xlg_len ad r
    show (lg_sl (.int a :: r.map (xtv ad))).length = 1 + xcs r
    rw [← this]
    simp [lg_sl, Value.category]
    omega
  | .inr (.inl a) :: r => by
    have := xlg_len ad r
    show (lg_sl (.long a :: r.map (xtv ad))).length = 2 + xcs r
    rw [← this]
    simp [lg_sl, Value.category]
    omega
  | .inr (.inr a) :: r => by
    have := xlg_len ad r
    show (lg_sl (.ref (ad a) :: r.map (xtv ad))).length = 1 + xcs r
    rw [← this]
    simp [lg_sl, Value.category]
    omega
theorem xent_len : ∀ (n : Nat) (as : List xV), (xent n as).length = n
  | 0, _ => by simp [xent]
  | n + 1, [] => by simp [xent, xent_len n []]
  | 1, .inr (.inl a) :: r => by simp [xent]
  | n + 2, .inr (.inl a) :: r => by simp [xent, xent_len n r]
  | n + 1, .inl a :: r => by simp [xent, xent_len n r]
  | n + 1, .inr (.inr a) :: r => by simp [xent, xent_len n r]
theorem xent_nil (ad : xOb → Nat) : ∀ (n k : Nat), xas ad k (xent n []) = []
  | 0, _ => by simp [xent, xas]
  | n + 1, k => by simp [xent, xas, xent_nil ad n (k + 1)]
theorem xent_as (ad : xOb → Nat) : ∀ (n k : Nat) (as : List xV), xcs as ≤ n → ∀ q ∈ xas ad k (xent n as), q ∈ lv_args k (as.map (xtv ad))
  | n, k, [], _, q, hq => by rw [xent_nil] at hq; cases hq
  | 0, k, v :: r, h, q, hq => by simp [xent, xas] at hq
  | 1, k, .inr (.inl a) :: r, h, q, hq => by
    have : xcs (.inr (.inl a) :: r) = 2 + xcs r := rfl
    omega
  | n + 2, k, .inr (.inl a) :: r, h, q, hq => by
    have h1 : xcs (.inr (.inl a) :: r) = 2 + xcs r := rfl
    rw [show xent (n + 2) (.inr (.inl a) :: r) = some (.inr (.inl a)) :: none :: xent n r by simp [xent]] at hq
    rcases List.mem_cons.mp hq with rfl | hq
    · exact List.mem_cons_self
    · have := xent_as ad n (k + 2) r (by omega) q hq
      exact List.mem_cons_of_mem _ this
  | n + 1, k, .inl a :: r, h, q, hq => by
    have h1 : xcs (.inl a :: r) = 1 + xcs r := rfl
    rw [show xent (n + 1) (.inl a :: r) = some (.inl a) :: xent n r by simp [xent]] at hq
    rcases List.mem_cons.mp hq with rfl | hq
    · exact List.mem_cons_self
    · have := xent_as ad n (k + 1) r (by omega) q hq
      exact List.mem_cons_of_mem _ this
  | n + 1, k, .inr (.inr a) :: r, h, q, hq => by
    have h1 : xcs (.inr (.inr a) :: r) = 1 + xcs r := rfl
    rw [show xent (n + 1) (.inr (.inr a) :: r) = some (.inr (.inr a)) :: xent n r by simp [xent]] at hq
    rcases List.mem_cons.mp hq with rfl | hq
    · exact List.mem_cons_self
    · have := xent_as ad n (k + 1) r (by omega) q hq
      exact List.mem_cons_of_mem _ this
/-- a method whose instructions are as the small machine has them means what the small machine says -/
theorem xsnd {y : MethodName} {pg : Nat → xI} {ret : Option FieldType} (hy : plainName y.cls = true) (hok : ∀ pc, xOkM y.cls cc mL ret R pc (pg pc)) : xSnd y cc mL ret R (xmet pg mL) := by
  intro l D cA ad as M Rt hcs hw
  refine Met.ofW (cc := cc) (maxL := mL) (ret := ret) hy rfl ?_
  intro p e s m args below meth c s₁ B hml hv
  obtain ⟨rfl, hP, hSx⟩ := hv
  have hts := atoms_spec (ws := Cond.code y cc mL ret :: xAL) B.pre
  have hC : xCx p s m ((as.map (xtv ad)).toArray) c y.cls cc mL R 0 0 D cA ad := ⟨B.exec, B.bytes, hml, findClass_of_methodNamed B.named, fun w h => hts w (List.mem_cons_of_mem _ h), hSx, Nat.zero_le _, Nat.zero_le _⟩
  have hlocks := B.notSynchronized
  have h0 : xPW p l e R s m ((as.map (xtv ad)).toArray) below meth c 0 0 (MQ below (xPost D cA ad Rt) ((as.map (xtv ad)).toArray) s 0 0 (xAd ad)) D cA ad mL 0 (xent mL as, [], M) := hw _ (fun pc f hi => hok pc p l e s m _ below meth c D cA ad Rt hC B.returns hlocks f hi)
  have hle : (lg_sl (as.map (xtv ad))).length ≤ mL := by rw [xlg_len]; exact hcs
  have hl := lv_entry (as.map (xtv ad)) (n := mL) hle
  rw [lg_entry_eq]
  exact h0 s.heap [] _ hP va_S.rf ⟨xent_len mL as, hl.1, hl.2.1, fun q hq => hl.2.2 q (xent_as ad mL 0 as hcs q hq)⟩
/-- programs are trees of places -/
theorem ok_lf {ret : Option FieldType} {k : Nat} {i : xI} (h : xOkM own cc mL ret R k i) : ∀ pc, xOkM own cc mL ret R pc (cond (Nat.beq pc k) i xst) := fun pc => by
  cases hb : Nat.beq pc k with
  | false => exact ok_st
  | true =>
    have := Nat.eq_of_beq_eq_true hb
    subst this
    exact h
theorem ok_nd {ret : Option FieldType} {k : Nat} {a b : Nat → xI} (h1 : ∀ pc, xOkM own cc mL ret R pc (a pc)) (h2 : ∀ pc, xOkM own cc mL ret R pc (b pc)) : ∀ pc, xOkM own cc mL ret R pc (cond (Nat.ble pc k) (a pc) (b pc)) := fun pc => by
  cases Nat.ble pc k with
  | false => exact h2 pc
  | true => exact h1 pc
end XOK3
end
