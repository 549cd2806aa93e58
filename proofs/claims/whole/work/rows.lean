section
-- ===== PART A: goes FIRST, ahead of the names: the tables' words, and 'selects' of the private methods out of them =====
/-- a private method of a class that the tables say can be made, by its rows of tables_1 -/
def lw_okq (q : MethodName × Nat) : Prop := (q.1.cls ≠ "java/lang/invoke/MethodHandle" ∧ q.1.cls ≠ "java/lang/invoke/VarHandle") ∧ Cond.instantiable q.1.cls q.2 ∈ tables_1 ∧ Cond.privateMethod q.1 ∈ tables_1 ∧ Cond.instanceMethod q.1 ∈ tables_1
theorem lw_p0 : lw_okq (⟨"WellOfTheSilent", "refused", "(I)I"⟩, 8) := ⟨⟨by decide +kernel, by decide +kernel⟩, List.mem_of_getElem? (i := 13) (by decide +kernel), List.mem_of_getElem? (i := 127) (by decide +kernel), List.mem_of_getElem? (i := 128) (by decide +kernel)⟩
theorem lw_p1 : lw_okq (⟨"WellOfTheSilent$Telling", "letterAt", "(I)I"⟩, 2) := ⟨⟨by decide +kernel, by decide +kernel⟩, List.mem_of_getElem? (i := 77) (by decide +kernel), List.mem_of_getElem? (i := 139) (by decide +kernel), List.mem_of_getElem? (i := 140) (by decide +kernel)⟩
theorem lw_p2 : lw_okq (⟨"WellOfTheSilent", "thoughtOfNow", "()LWellOfTheSilent$Hill;"⟩, 8) := ⟨⟨by decide +kernel, by decide +kernel⟩, List.mem_of_getElem? (i := 13) (by decide +kernel), List.mem_of_getElem? (i := 269) (by decide +kernel), List.mem_of_getElem? (i := 270) (by decide +kernel)⟩
theorem lw_p3 : lw_okq (⟨"WellOfTheSilent$Telling", "letCome", "(LWellOfTheSilent$Hill;I)Z"⟩, 2) := ⟨⟨by decide +kernel, by decide +kernel⟩, List.mem_of_getElem? (i := 77) (by decide +kernel), List.mem_of_getElem? (i := 281) (by decide +kernel), List.mem_of_getElem? (i := 282) (by decide +kernel)⟩
theorem lw_p4 : lw_okq (⟨"WellOfTheSilent$Telling", "digitAt", "(I)I"⟩, 2) := ⟨⟨by decide +kernel, by decide +kernel⟩, List.mem_of_getElem? (i := 77) (by decide +kernel), List.mem_of_getElem? (i := 285) (by decide +kernel), List.mem_of_getElem? (i := 286) (by decide +kernel)⟩
theorem lw_p5 : lw_okq (⟨"WellOfTheSilent$Telling", "twoDigitsAt", "(I)I"⟩, 2) := ⟨⟨by decide +kernel, by decide +kernel⟩, List.mem_of_getElem? (i := 77) (by decide +kernel), List.mem_of_getElem? (i := 289) (by decide +kernel), List.mem_of_getElem? (i := 290) (by decide +kernel)⟩
theorem lw_p6 : lw_okq (⟨"WellOfTheSilent$Hill", "beginDay", "()V"⟩, 12) := ⟨⟨by decide +kernel, by decide +kernel⟩, List.mem_of_getElem? (i := 21) (by decide +kernel), List.mem_of_getElem? (i := 333) (by decide +kernel), List.mem_of_getElem? (i := 334) (by decide +kernel)⟩
theorem lw_p7 : lw_okq (⟨"WellOfTheSilent$Hill", "letSpeakAt", "(I)V"⟩, 12) := ⟨⟨by decide +kernel, by decide +kernel⟩, List.mem_of_getElem? (i := 21) (by decide +kernel), List.mem_of_getElem? (i := 338) (by decide +kernel), List.mem_of_getElem? (i := 339) (by decide +kernel)⟩
theorem lw_p8 : lw_okq (⟨"WellOfTheSilent$Hill", "mayDraw", "(I)Z"⟩, 12) := ⟨⟨by decide +kernel, by decide +kernel⟩, List.mem_of_getElem? (i := 21) (by decide +kernel), List.mem_of_getElem? (i := 350) (by decide +kernel), List.mem_of_getElem? (i := 351) (by decide +kernel)⟩
theorem lw_p9 : lw_okq (⟨"WellOfTheSilent$Hill", "letDraw", "(I)V"⟩, 12) := ⟨⟨by decide +kernel, by decide +kernel⟩, List.mem_of_getElem? (i := 21) (by decide +kernel), List.mem_of_getElem? (i := 366) (by decide +kernel), List.mem_of_getElem? (i := 367) (by decide +kernel)⟩
theorem lw_p10 : lw_okq (⟨"WellOfTheSilent$Hill", "givesToFriend", "(I)Z"⟩, 12) := ⟨⟨by decide +kernel, by decide +kernel⟩, List.mem_of_getElem? (i := 21) (by decide +kernel), List.mem_of_getElem? (i := 370) (by decide +kernel), List.mem_of_getElem? (i := 371) (by decide +kernel)⟩
theorem lw_p11 : lw_okq (⟨"WellOfTheSilent$Hill", "letDrink", "()V"⟩, 12) := ⟨⟨by decide +kernel, by decide +kernel⟩, List.mem_of_getElem? (i := 21) (by decide +kernel), List.mem_of_getElem? (i := 374) (by decide +kernel), List.mem_of_getElem? (i := 375) (by decide +kernel)⟩
theorem lw_p12 : lw_okq (⟨"WellOfTheSilent", "oneRefusal", "(III)I"⟩, 8) := ⟨⟨by decide +kernel, by decide +kernel⟩, List.mem_of_getElem? (i := 13) (by decide +kernel), List.mem_of_getElem? (i := 421) (by decide +kernel), List.mem_of_getElem? (i := 422) (by decide +kernel)⟩
theorem lw_p13 : lw_okq (⟨"WellOfTheSilent", "thoughtBehind", "(I)LWellOfTheSilent$Hill;"⟩, 8) := ⟨⟨by decide +kernel, by decide +kernel⟩, List.mem_of_getElem? (i := 13) (by decide +kernel), List.mem_of_getElem? (i := 451) (by decide +kernel), List.mem_of_getElem? (i := 452) (by decide +kernel)⟩
theorem lw_p14 : lw_okq (⟨"WellOfTheSilent", "firstDry", "()I"⟩, 8) := ⟨⟨by decide +kernel, by decide +kernel⟩, List.mem_of_getElem? (i := 13) (by decide +kernel), List.mem_of_getElem? (i := 470) (by decide +kernel), List.mem_of_getElem? (i := 471) (by decide +kernel)⟩
theorem lw_p15 : lw_okq (⟨"WellOfTheSilent$Hill", "dryPeople", "()I"⟩, 12) := ⟨⟨by decide +kernel, by decide +kernel⟩, List.mem_of_getElem? (i := 21) (by decide +kernel), List.mem_of_getElem? (i := 491) (by decide +kernel), List.mem_of_getElem? (i := 492) (by decide +kernel)⟩
def lw_privs_1 : List (MethodName × Nat) := [(⟨"WellOfTheSilent", "refused", "(I)I"⟩, 8), (⟨"WellOfTheSilent$Telling", "letterAt", "(I)I"⟩, 2), (⟨"WellOfTheSilent", "thoughtOfNow", "()LWellOfTheSilent$Hill;"⟩, 8), (⟨"WellOfTheSilent$Telling", "letCome", "(LWellOfTheSilent$Hill;I)Z"⟩, 2), (⟨"WellOfTheSilent$Telling", "digitAt", "(I)I"⟩, 2), (⟨"WellOfTheSilent$Telling", "twoDigitsAt", "(I)I"⟩, 2), (⟨"WellOfTheSilent$Hill", "beginDay", "()V"⟩, 12), (⟨"WellOfTheSilent$Hill", "letSpeakAt", "(I)V"⟩, 12), (⟨"WellOfTheSilent$Hill", "mayDraw", "(I)Z"⟩, 12), (⟨"WellOfTheSilent$Hill", "letDraw", "(I)V"⟩, 12), (⟨"WellOfTheSilent$Hill", "givesToFriend", "(I)Z"⟩, 12), (⟨"WellOfTheSilent$Hill", "letDrink", "()V"⟩, 12), (⟨"WellOfTheSilent", "oneRefusal", "(III)I"⟩, 8), (⟨"WellOfTheSilent", "thoughtBehind", "(I)LWellOfTheSilent$Hill;"⟩, 8), (⟨"WellOfTheSilent", "firstDry", "()I"⟩, 8), (⟨"WellOfTheSilent$Hill", "dryPeople", "()I"⟩, 12)]
theorem lw_r1 : ∀ q ∈ lw_privs_1, lw_okq q := List.forall_mem_cons.mpr ⟨lw_p0, List.forall_mem_cons.mpr ⟨lw_p1, List.forall_mem_cons.mpr ⟨lw_p2, List.forall_mem_cons.mpr ⟨lw_p3, List.forall_mem_cons.mpr ⟨lw_p4, List.forall_mem_cons.mpr ⟨lw_p5, List.forall_mem_cons.mpr ⟨lw_p6, List.forall_mem_cons.mpr ⟨lw_p7, List.forall_mem_cons.mpr ⟨lw_p8, List.forall_mem_cons.mpr ⟨lw_p9, List.forall_mem_cons.mpr ⟨lw_p10, List.forall_mem_cons.mpr ⟨lw_p11, List.forall_mem_cons.mpr ⟨lw_p12, List.forall_mem_cons.mpr ⟨lw_p13, List.forall_mem_cons.mpr ⟨lw_p14, List.forall_mem_cons.mpr ⟨lw_p15, fun _ h => absurd h List.not_mem_nil⟩⟩⟩⟩⟩⟩⟩⟩⟩⟩⟩⟩⟩⟩⟩⟩
theorem lw_p16 : lw_okq (⟨"WellOfTheSilent", "isWetWithHushed", "(II)Z"⟩, 8) := ⟨⟨by decide +kernel, by decide +kernel⟩, List.mem_of_getElem? (i := 13) (by decide +kernel), List.mem_of_getElem? (i := 515) (by decide +kernel), List.mem_of_getElem? (i := 516) (by decide +kernel)⟩
theorem lw_p17 : lw_okq (⟨"WellOfTheSilent", "othersWetBySending", "(II)I"⟩, 8) := ⟨⟨by decide +kernel, by decide +kernel⟩, List.mem_of_getElem? (i := 13) (by decide +kernel), List.mem_of_getElem? (i := 527) (by decide +kernel), List.mem_of_getElem? (i := 528) (by decide +kernel)⟩
theorem lw_p18 : lw_okq (⟨"WellOfTheSilent", "rank", "(II)I"⟩, 8) := ⟨⟨by decide +kernel, by decide +kernel⟩, List.mem_of_getElem? (i := 13) (by decide +kernel), List.mem_of_getElem? (i := 547) (by decide +kernel), List.mem_of_getElem? (i := 548) (by decide +kernel)⟩
theorem lw_p19 : lw_okq (⟨"WellOfTheSilent", "friendsOfOthers", "()I"⟩, 8) := ⟨⟨by decide +kernel, by decide +kernel⟩, List.mem_of_getElem? (i := 13) (by decide +kernel), List.mem_of_getElem? (i := 567) (by decide +kernel), List.mem_of_getElem? (i := 568) (by decide +kernel)⟩
theorem lw_p20 : lw_okq (⟨"WellOfTheSilent", "mutualTwos", "()I"⟩, 8) := ⟨⟨by decide +kernel, by decide +kernel⟩, List.mem_of_getElem? (i := 13) (by decide +kernel), List.mem_of_getElem? (i := 571) (by decide +kernel), List.mem_of_getElem? (i := 572) (by decide +kernel)⟩
theorem lw_p21 : lw_okq (⟨"WellOfTheSilent", "gain", "(IIIII)I"⟩, 8) := ⟨⟨by decide +kernel, by decide +kernel⟩, List.mem_of_getElem? (i := 13) (by decide +kernel), List.mem_of_getElem? (i := 579) (by decide +kernel), List.mem_of_getElem? (i := 580) (by decide +kernel)⟩
theorem lw_p22 : lw_okq (⟨"WellOfTheSilent", "sneezeRefusal", "(IIIII)I"⟩, 8) := ⟨⟨by decide +kernel, by decide +kernel⟩, List.mem_of_getElem? (i := 13) (by decide +kernel), List.mem_of_getElem? (i := 587) (by decide +kernel), List.mem_of_getElem? (i := 588) (by decide +kernel)⟩
theorem lw_p23 : lw_okq (⟨"WellOfTheSilent", "refusedLong", "(I)J"⟩, 8) := ⟨⟨by decide +kernel, by decide +kernel⟩, List.mem_of_getElem? (i := 13) (by decide +kernel), List.mem_of_getElem? (i := 591) (by decide +kernel), List.mem_of_getElem? (i := 592) (by decide +kernel)⟩
theorem lw_p24 : lw_okq (⟨"WellOfTheSilent", "hasBehindSneezes", "(III)I"⟩, 8) := ⟨⟨by decide +kernel, by decide +kernel⟩, List.mem_of_getElem? (i := 13) (by decide +kernel), List.mem_of_getElem? (i := 596) (by decide +kernel), List.mem_of_getElem? (i := 597) (by decide +kernel)⟩
theorem lw_p25 : lw_okq (⟨"WellOfTheSilent", "kindsByRow", "(I)I"⟩, 8) := ⟨⟨by decide +kernel, by decide +kernel⟩, List.mem_of_getElem? (i := 13) (by decide +kernel), List.mem_of_getElem? (i := 618) (by decide +kernel), List.mem_of_getElem? (i := 619) (by decide +kernel)⟩
theorem lw_p26 : lw_okq (⟨"WellOfTheSilent", "goesAsRow", "(LWellOfTheSilent$Hill;I)Z"⟩, 8) := ⟨⟨by decide +kernel, by decide +kernel⟩, List.mem_of_getElem? (i := 13) (by decide +kernel), List.mem_of_getElem? (i := 622) (by decide +kernel), List.mem_of_getElem? (i := 623) (by decide +kernel)⟩
theorem lw_p27 : lw_okq (⟨"WellOfTheSilent", "figuresByRow", "(I)I"⟩, 8) := ⟨⟨by decide +kernel, by decide +kernel⟩, List.mem_of_getElem? (i := 13) (by decide +kernel), List.mem_of_getElem? (i := 626) (by decide +kernel), List.mem_of_getElem? (i := 627) (by decide +kernel)⟩
theorem lw_p28 : lw_okq (⟨"WellOfTheSilent", "countRefusals", "(I)I"⟩, 8) := ⟨⟨by decide +kernel, by decide +kernel⟩, List.mem_of_getElem? (i := 13) (by decide +kernel), List.mem_of_getElem? (i := 672) (by decide +kernel), List.mem_of_getElem? (i := 673) (by decide +kernel)⟩
theorem lw_p29 : lw_okq (⟨"WellOfTheSilentModel", "no", "(I)I"⟩, 13) := ⟨⟨by decide +kernel, by decide +kernel⟩, List.mem_of_getElem? (i := 676) (by decide +kernel), List.mem_of_getElem? (i := 726) (by decide +kernel), List.mem_of_getElem? (i := 727) (by decide +kernel)⟩
theorem lw_p30 : lw_okq (⟨"WellOfTheSilentModel", "readsStatement", "()Z"⟩, 13) := ⟨⟨by decide +kernel, by decide +kernel⟩, List.mem_of_getElem? (i := 676) (by decide +kernel), List.mem_of_getElem? (i := 734) (by decide +kernel), List.mem_of_getElem? (i := 735) (by decide +kernel)⟩
theorem lw_p31 : lw_okq (⟨"WellOfTheSilentModel", "here", "()I"⟩, 13) := ⟨⟨by decide +kernel, by decide +kernel⟩, List.mem_of_getElem? (i := 676) (by decide +kernel), List.mem_of_getElem? (i := 738) (by decide +kernel), List.mem_of_getElem? (i := 739) (by decide +kernel)⟩
def lw_privs_2 : List (MethodName × Nat) := [(⟨"WellOfTheSilent", "isWetWithHushed", "(II)Z"⟩, 8), (⟨"WellOfTheSilent", "othersWetBySending", "(II)I"⟩, 8), (⟨"WellOfTheSilent", "rank", "(II)I"⟩, 8), (⟨"WellOfTheSilent", "friendsOfOthers", "()I"⟩, 8), (⟨"WellOfTheSilent", "mutualTwos", "()I"⟩, 8), (⟨"WellOfTheSilent", "gain", "(IIIII)I"⟩, 8), (⟨"WellOfTheSilent", "sneezeRefusal", "(IIIII)I"⟩, 8), (⟨"WellOfTheSilent", "refusedLong", "(I)J"⟩, 8), (⟨"WellOfTheSilent", "hasBehindSneezes", "(III)I"⟩, 8), (⟨"WellOfTheSilent", "kindsByRow", "(I)I"⟩, 8), (⟨"WellOfTheSilent", "goesAsRow", "(LWellOfTheSilent$Hill;I)Z"⟩, 8), (⟨"WellOfTheSilent", "figuresByRow", "(I)I"⟩, 8), (⟨"WellOfTheSilent", "countRefusals", "(I)I"⟩, 8), (⟨"WellOfTheSilentModel", "no", "(I)I"⟩, 13), (⟨"WellOfTheSilentModel", "readsStatement", "()Z"⟩, 13), (⟨"WellOfTheSilentModel", "here", "()I"⟩, 13)]
theorem lw_r2 : ∀ q ∈ lw_privs_2, lw_okq q := List.forall_mem_cons.mpr ⟨lw_p16, List.forall_mem_cons.mpr ⟨lw_p17, List.forall_mem_cons.mpr ⟨lw_p18, List.forall_mem_cons.mpr ⟨lw_p19, List.forall_mem_cons.mpr ⟨lw_p20, List.forall_mem_cons.mpr ⟨lw_p21, List.forall_mem_cons.mpr ⟨lw_p22, List.forall_mem_cons.mpr ⟨lw_p23, List.forall_mem_cons.mpr ⟨lw_p24, List.forall_mem_cons.mpr ⟨lw_p25, List.forall_mem_cons.mpr ⟨lw_p26, List.forall_mem_cons.mpr ⟨lw_p27, List.forall_mem_cons.mpr ⟨lw_p28, List.forall_mem_cons.mpr ⟨lw_p29, List.forall_mem_cons.mpr ⟨lw_p30, List.forall_mem_cons.mpr ⟨lw_p31, fun _ h => absurd h List.not_mem_nil⟩⟩⟩⟩⟩⟩⟩⟩⟩⟩⟩⟩⟩⟩⟩⟩
theorem lw_p32 : lw_okq (⟨"WellOfTheSilentModel", "readsKind", "()Z"⟩, 13) := ⟨⟨by decide +kernel, by decide +kernel⟩, List.mem_of_getElem? (i := 676) (by decide +kernel), List.mem_of_getElem? (i := 742) (by decide +kernel), List.mem_of_getElem? (i := 743) (by decide +kernel)⟩
theorem lw_p33 : lw_okq (⟨"WellOfTheSilentModel", "readsNumber", "(II)Z"⟩, 13) := ⟨⟨by decide +kernel, by decide +kernel⟩, List.mem_of_getElem? (i := 676) (by decide +kernel), List.mem_of_getElem? (i := 749) (by decide +kernel), List.mem_of_getElem? (i := 750) (by decide +kernel)⟩
theorem lw_p34 : lw_okq (⟨"WellOfTheSilentModel", "isDone", "(I)Z"⟩, 13) := ⟨⟨by decide +kernel, by decide +kernel⟩, List.mem_of_getElem? (i := 676) (by decide +kernel), List.mem_of_getElem? (i := 759) (by decide +kernel), List.mem_of_getElem? (i := 760) (by decide +kernel)⟩
theorem lw_p35 : lw_okq (⟨"WellOfTheSilentModel", "addsPerson", "()Z"⟩, 13) := ⟨⟨by decide +kernel, by decide +kernel⟩, List.mem_of_getElem? (i := 676) (by decide +kernel), List.mem_of_getElem? (i := 763) (by decide +kernel), List.mem_of_getElem? (i := 764) (by decide +kernel)⟩
theorem lw_p36 : lw_okq (⟨"WellOfTheSilentModel", "isPerson", "(I)Z"⟩, 13) := ⟨⟨by decide +kernel, by decide +kernel⟩, List.mem_of_getElem? (i := 676) (by decide +kernel), List.mem_of_getElem? (i := 770) (by decide +kernel), List.mem_of_getElem? (i := 771) (by decide +kernel)⟩
theorem lw_p37 : lw_okq (⟨"WellOfTheSilentModel", "sets", "(II)I"⟩, 13) := ⟨⟨by decide +kernel, by decide +kernel⟩, List.mem_of_getElem? (i := 676) (by decide +kernel), List.mem_of_getElem? (i := 819) (by decide +kernel), List.mem_of_getElem? (i := 820) (by decide +kernel)⟩
theorem lw_p38 : lw_okq (⟨"WellOfTheSilentModel", "setsOf", "(IIII)I"⟩, 13) := ⟨⟨by decide +kernel, by decide +kernel⟩, List.mem_of_getElem? (i := 676) (by decide +kernel), List.mem_of_getElem? (i := 827) (by decide +kernel), List.mem_of_getElem? (i := 828) (by decide +kernel)⟩
theorem lw_p39 : lw_okq (⟨"WellOfTheSilentModel", "setsIn", "(III)I"⟩, 13) := ⟨⟨by decide +kernel, by decide +kernel⟩, List.mem_of_getElem? (i := 676) (by decide +kernel), List.mem_of_getElem? (i := 842) (by decide +kernel), List.mem_of_getElem? (i := 843) (by decide +kernel)⟩
theorem lw_p40 : lw_okq (⟨"WellOfTheSilentModel", "takes", "(I)V"⟩, 13) := ⟨⟨by decide +kernel, by decide +kernel⟩, List.mem_of_getElem? (i := 676) (by decide +kernel), List.mem_of_getElem? (i := 862) (by decide +kernel), List.mem_of_getElem? (i := 863) (by decide +kernel)⟩
theorem lw_p41 : lw_okq (⟨"WellOfTheSilentModel", "firstDry", "()I"⟩, 13) := ⟨⟨by decide +kernel, by decide +kernel⟩, List.mem_of_getElem? (i := 676) (by decide +kernel), List.mem_of_getElem? (i := 877) (by decide +kernel), List.mem_of_getElem? (i := 878) (by decide +kernel)⟩
theorem lw_p42 : lw_okq (⟨"WellOfTheSilentModel", "whenNothing", "(I)I"⟩, 13) := ⟨⟨by decide +kernel, by decide +kernel⟩, List.mem_of_getElem? (i := 676) (by decide +kernel), List.mem_of_getElem? (i := 882) (by decide +kernel), List.mem_of_getElem? (i := 883) (by decide +kernel)⟩
theorem lw_p43 : lw_okq (⟨"WellOfTheSilentModel", "isNoneDry", "(II)Z"⟩, 13) := ⟨⟨by decide +kernel, by decide +kernel⟩, List.mem_of_getElem? (i := 676) (by decide +kernel), List.mem_of_getElem? (i := 894) (by decide +kernel), List.mem_of_getElem? (i := 895) (by decide +kernel)⟩
theorem lw_p44 : lw_okq (⟨"WellOfTheSilentModel", "extreme", "(IZ)I"⟩, 13) := ⟨⟨by decide +kernel, by decide +kernel⟩, List.mem_of_getElem? (i := 676) (by decide +kernel), List.mem_of_getElem? (i := 936) (by decide +kernel), List.mem_of_getElem? (i := 937) (by decide +kernel)⟩
theorem lw_p45 : lw_okq (⟨"WellOfTheSilentModel", "hasBy", "(IIIIII)I"⟩, 13) := ⟨⟨by decide +kernel, by decide +kernel⟩, List.mem_of_getElem? (i := 676) (by decide +kernel), List.mem_of_getElem? (i := 960) (by decide +kernel), List.mem_of_getElem? (i := 961) (by decide +kernel)⟩
theorem lw_p46 : lw_okq (⟨"WellOfTheSilentModel", "noWide", "(I)J"⟩, 13) := ⟨⟨by decide +kernel, by decide +kernel⟩, List.mem_of_getElem? (i := 676) (by decide +kernel), List.mem_of_getElem? (i := 968) (by decide +kernel), List.mem_of_getElem? (i := 969) (by decide +kernel)⟩
theorem lw_p47 : lw_okq (⟨"WellOfTheSilentModel", "drawn", "(I)I"⟩, 13) := ⟨⟨by decide +kernel, by decide +kernel⟩, List.mem_of_getElem? (i := 676) (by decide +kernel), List.mem_of_getElem? (i := 1003) (by decide +kernel), List.mem_of_getElem? (i := 1004) (by decide +kernel)⟩
def lw_privs_3 : List (MethodName × Nat) := [(⟨"WellOfTheSilentModel", "readsKind", "()Z"⟩, 13), (⟨"WellOfTheSilentModel", "readsNumber", "(II)Z"⟩, 13), (⟨"WellOfTheSilentModel", "isDone", "(I)Z"⟩, 13), (⟨"WellOfTheSilentModel", "addsPerson", "()Z"⟩, 13), (⟨"WellOfTheSilentModel", "isPerson", "(I)Z"⟩, 13), (⟨"WellOfTheSilentModel", "sets", "(II)I"⟩, 13), (⟨"WellOfTheSilentModel", "setsOf", "(IIII)I"⟩, 13), (⟨"WellOfTheSilentModel", "setsIn", "(III)I"⟩, 13), (⟨"WellOfTheSilentModel", "takes", "(I)V"⟩, 13), (⟨"WellOfTheSilentModel", "firstDry", "()I"⟩, 13), (⟨"WellOfTheSilentModel", "whenNothing", "(I)I"⟩, 13), (⟨"WellOfTheSilentModel", "isNoneDry", "(II)Z"⟩, 13), (⟨"WellOfTheSilentModel", "extreme", "(IZ)I"⟩, 13), (⟨"WellOfTheSilentModel", "hasBy", "(IIIIII)I"⟩, 13), (⟨"WellOfTheSilentModel", "noWide", "(I)J"⟩, 13), (⟨"WellOfTheSilentModel", "drawn", "(I)I"⟩, 13)]
theorem lw_r3 : ∀ q ∈ lw_privs_3, lw_okq q := List.forall_mem_cons.mpr ⟨lw_p32, List.forall_mem_cons.mpr ⟨lw_p33, List.forall_mem_cons.mpr ⟨lw_p34, List.forall_mem_cons.mpr ⟨lw_p35, List.forall_mem_cons.mpr ⟨lw_p36, List.forall_mem_cons.mpr ⟨lw_p37, List.forall_mem_cons.mpr ⟨lw_p38, List.forall_mem_cons.mpr ⟨lw_p39, List.forall_mem_cons.mpr ⟨lw_p40, List.forall_mem_cons.mpr ⟨lw_p41, List.forall_mem_cons.mpr ⟨lw_p42, List.forall_mem_cons.mpr ⟨lw_p43, List.forall_mem_cons.mpr ⟨lw_p44, List.forall_mem_cons.mpr ⟨lw_p45, List.forall_mem_cons.mpr ⟨lw_p46, List.forall_mem_cons.mpr ⟨lw_p47, fun _ h => absurd h List.not_mem_nil⟩⟩⟩⟩⟩⟩⟩⟩⟩⟩⟩⟩⟩⟩⟩⟩
def lw_privs : List (MethodName × Nat) := lw_privs_1 ++ (lw_privs_2 ++ (lw_privs_3))
def lw_tbl : List Cond := k2_sels lw_privs ++ tables_1
theorem lw_privs_ok : ∀ q ∈ lw_privs, lw_okq q := by
  show ∀ q ∈ lw_privs_1 ++ (lw_privs_2 ++ (lw_privs_3)), lw_okq q
  exact List.forall_mem_append.mpr ⟨lw_r1, List.forall_mem_append.mpr ⟨lw_r2, lw_r3⟩⟩
end
section
def RX0 : String := "WellOfTheSilent$Hill"
def TX0 : u_T := fun k => match k with
  | 0 => ("WellOfTheSilent$Hill", "kinds", "[I", true)
  | 1 => ("WellOfTheSilent$Hill", "figures", "[I", true)
  | 2 => ("WellOfTheSilent$Hill", "cans", "[I", true)
  | 3 => ("WellOfTheSilent$Hill", "has", "[I", true)
  | 4 => ("WellOfTheSilent$Hill", "friends", "[I", true)
  | 5 => ("WellOfTheSilent$Hill", "size", "I", false)
  | 6 => ("WellOfTheSilent$Hill", "water", "I", false)
  | 7 => ("WellOfTheSilent$Hill", "flow", "I", false)
  | 8 => ("WellOfTheSilent$Hill", "hour", "I", false)
  | 9 => ("WellOfTheSilent$Hill", "spoken", "I", false)
  | 10 => ("WellOfTheSilent$Hill", "drew", "I", false)
  | _ => ("WellOfTheSilent$Hill", "hushed", "I", false)
def tyX0 : Nat → FieldType := fun k => match k with
  | 0 => .array .int
  | 1 => .array .int
  | 2 => .array .int
  | 3 => .array .int
  | 4 => .array .int
  | 5 => .int
  | 6 => .int
  | 7 => .int
  | 8 => .int
  | 9 => .int
  | 10 => .int
  | _ => .int
abbrev wsX00 : List Cond := u_ws RX0 TX0 12
theorem nmX0 : ∀ a, a < 12 → ∀ b, b < 12 → a ≠ b → (TX0 a).2.1 ≠ (TX0 b).2.1 := by decide +kernel
theorem tyX0_ok : ∀ k, k < 12 → parseFieldDescriptor (TX0 k).2.2.1 = some (tyX0 k) := by decide +kernel
abbrev cX0_init : ByteArray := prog_2_method_1_code
def yX0_init : MethodName := ⟨RX0, "<init>", "()V"⟩
abbrev cX0_copyFrom : ByteArray := prog_2_method_2_code
def yX0_copyFrom : MethodName := ⟨RX0, "copyFrom", "(LWellOfTheSilent$Hill;)V"⟩
abbrev cX0_isThere : ByteArray := prog_2_method_3_code
def yX0_isThere : MethodName := ⟨RX0, "isThere", "(I)Z"⟩
abbrev cX0_addPerson : ByteArray := prog_2_method_4_code
def yX0_addPerson : MethodName := ⟨RX0, "addPerson", "(III)Z"⟩
abbrev cX0_setFriend : ByteArray := prog_2_method_5_code
def yX0_setFriend : MethodName := ⟨RX0, "setFriend", "(II)Z"⟩
abbrev cX0_setHas : ByteArray := prog_2_method_6_code
def yX0_setHas : MethodName := ⟨RX0, "setHas", "(II)Z"⟩
abbrev cX0_setWater : ByteArray := prog_2_method_7_code
def yX0_setWater : MethodName := ⟨RX0, "setWater", "(I)Z"⟩
abbrev cX0_setFlow : ByteArray := prog_2_method_8_code
def yX0_setFlow : MethodName := ⟨RX0, "setFlow", "(I)Z"⟩
abbrev cX0_letSpeak : ByteArray := prog_2_method_9_code
def yX0_letSpeak : MethodName := ⟨RX0, "letSpeak", "(I)Z"⟩
abbrev cX0_everybody : ByteArray := prog_2_method_10_code
def yX0_everybody : MethodName := ⟨RX0, "everybody", "()I"⟩
abbrev cX0_hasSpoken : ByteArray := prog_2_method_11_code
def yX0_hasSpoken : MethodName := ⟨RX0, "hasSpoken", "(I)Z"⟩
abbrev cX0_hasDrawn : ByteArray := prog_2_method_12_code
def yX0_hasDrawn : MethodName := ⟨RX0, "hasDrawn", "(I)Z"⟩
abbrev cX0_isHushed : ByteArray := prog_2_method_13_code
def yX0_isHushed : MethodName := ⟨RX0, "isHushed", "(I)Z"⟩
abbrev cX0_speakingHour : ByteArray := prog_2_method_14_code
def yX0_speakingHour : MethodName := ⟨RX0, "speakingHour", "(I)I"⟩
abbrev cX0_drinkOf : ByteArray := prog_2_method_15_code
def yX0_drinkOf : MethodName := ⟨RX0, "drinkOf", "(I)I"⟩
abbrev cX0_drawsThoughSpoken : ByteArray := prog_2_method_16_code
def yX0_drawsThoughSpoken : MethodName := ⟨RX0, "drawsThoughSpoken", "(I)Z"⟩
abbrev cX0_mayPass : ByteArray := prog_2_method_17_code
def yX0_mayPass : MethodName := ⟨RX0, "mayPass", "(I)Z"⟩
abbrev cX0_passHours : ByteArray := prog_2_method_18_code
def yX0_passHours : MethodName := ⟨RX0, "passHours", "(I)V"⟩
abbrev cX0_passHour : ByteArray := prog_2_method_19_code
def yX0_passHour : MethodName := ⟨RX0, "passHour", "(I)V"⟩
abbrev cX0_passHourForDrawers : ByteArray := prog_2_method_20_code
def yX0_passHourForDrawers : MethodName := ⟨RX0, "passHourForDrawers", "()I"⟩
abbrev cX0_beginDay : ByteArray := prog_2_method_21_code
def yX0_beginDay : MethodName := ⟨RX0, "beginDay", "()V"⟩
abbrev cX0_letSpeakAt : ByteArray := prog_2_method_22_code
def yX0_letSpeakAt : MethodName := ⟨RX0, "letSpeakAt", "(I)V"⟩
abbrev cX0_mayDraw : ByteArray := prog_2_method_23_code
def yX0_mayDraw : MethodName := ⟨RX0, "mayDraw", "(I)Z"⟩
abbrev cX0_letDraw : ByteArray := prog_2_method_24_code
def yX0_letDraw : MethodName := ⟨RX0, "letDraw", "(I)V"⟩
abbrev cX0_givesToFriend : ByteArray := prog_2_method_25_code
def yX0_givesToFriend : MethodName := ⟨RX0, "givesToFriend", "(I)Z"⟩
abbrev cX0_letDrink : ByteArray := prog_2_method_26_code
def yX0_letDrink : MethodName := ⟨RX0, "letDrink", "()V"⟩
abbrev cX0_giveToWell : ByteArray := prog_2_method_27_code
def yX0_giveToWell : MethodName := ⟨RX0, "giveToWell", "(I)V"⟩
abbrev cX0_together : ByteArray := prog_2_method_28_code
def yX0_together : MethodName := ⟨RX0, "together", "()I"⟩
abbrev cX0_leastHas : ByteArray := prog_2_method_29_code
def yX0_leastHas : MethodName := ⟨RX0, "leastHas", "()I"⟩
abbrev cX0_countDry : ByteArray := prog_2_method_30_code
def yX0_countDry : MethodName := ⟨RX0, "countDry", "()I"⟩
abbrev cX0_dryPeople : ByteArray := prog_2_method_31_code
def yX0_dryPeople : MethodName := ⟨RX0, "dryPeople", "()I"⟩
abbrev cX0_staysWet : ByteArray := prog_2_method_32_code
def yX0_staysWet : MethodName := ⟨RX0, "staysWet", "(II)Z"⟩
def RX1 : String := "WellOfTheSilent$Telling"
def TX1 : u_T := fun k => match k with
  | 0 => ("WellOfTheSilent$Telling", "letters", "[I", true)
  | _ => ("WellOfTheSilent$Telling", "size", "I", false)
def tyX1 : Nat → FieldType := fun k => match k with
  | 0 => .array .int
  | _ => .int
abbrev wsX10 : List Cond := u_ws RX1 TX1 2
theorem nmX1 : ∀ a, a < 2 → ∀ b, b < 2 → a ≠ b → (TX1 a).2.1 ≠ (TX1 b).2.1 := by decide +kernel
theorem tyX1_ok : ∀ k, k < 2 → parseFieldDescriptor (TX1 k).2.2.1 = some (tyX1 k) := by decide +kernel
abbrev cX1_init : ByteArray := prog_3_method_1_code
def yX1_init : MethodName := ⟨RX1, "<init>", "()V"⟩
abbrev cX1_add : ByteArray := prog_3_method_2_code
def yX1_add : MethodName := ⟨RX1, "add", "(I)Z"⟩
abbrev cX1_forget : ByteArray := prog_3_method_3_code
def yX1_forget : MethodName := ⟨RX1, "forget", "()V"⟩
abbrev cX1_firstWrongLetter : ByteArray := prog_3_method_4_code
def yX1_firstWrongLetter : MethodName := ⟨RX1, "firstWrongLetter", "()I"⟩
abbrev cX1_firstWrongStatement : ByteArray := prog_3_method_5_code
def yX1_firstWrongStatement : MethodName := ⟨RX1, "firstWrongStatement", "(LWellOfTheSilent$Hill;)I"⟩
abbrev cX1_statements : ByteArray := prog_3_method_6_code
def yX1_statements : MethodName := ⟨RX1, "statements", "()I"⟩
abbrev cX1_letterAt : ByteArray := prog_3_method_7_code
def yX1_letterAt : MethodName := ⟨RX1, "letterAt", "(I)I"⟩
abbrev cX1_digitAt : ByteArray := prog_3_method_8_code
def yX1_digitAt : MethodName := ⟨RX1, "digitAt", "(I)I"⟩
abbrev cX1_twoDigitsAt : ByteArray := prog_3_method_9_code
def yX1_twoDigitsAt : MethodName := ⟨RX1, "twoDigitsAt", "(I)I"⟩
abbrev cX1_shapeBehind : ByteArray := prog_3_method_10_code
def yX1_shapeBehind : MethodName := ⟨RX1, "shapeBehind", "(I)Ljava/lang/String;"⟩
abbrev cX1_fits : ByteArray := prog_3_method_11_code
def yX1_fits : MethodName := ⟨RX1, "fits", "(CI)Z"⟩
abbrev cX1_kindOf : ByteArray := prog_3_method_12_code
def yX1_kindOf : MethodName := ⟨RX1, "kindOf", "(I)I"⟩
abbrev cX1_letCome : ByteArray := prog_3_method_13_code
def yX1_letCome : MethodName := ⟨RX1, "letCome", "(LWellOfTheSilent$Hill;I)Z"⟩
def RX2 : String := "WellOfTheSilent"
def TX2 : u_T := fun k => match k with
  | 0 => ("WellOfTheSilent", "now", "LWellOfTheSilent$Hill;", true)
  | 1 => ("WellOfTheSilent", "thought", "LWellOfTheSilent$Hill;", true)
  | 2 => ("WellOfTheSilent", "kept", "LWellOfTheSilent$Hill;", true)
  | 3 => ("WellOfTheSilent", "telling", "LWellOfTheSilent$Telling;", true)
  | 4 => ("WellOfTheSilent", "rowNumbers", "[I", true)
  | 5 => ("WellOfTheSilent", "refusals", "[I", true)
  | 6 => ("WellOfTheSilent", "rowSize", "I", false)
  | _ => ("WellOfTheSilent", "isKept", "Z", false)
def tyX2 : Nat → FieldType := fun k => match k with
  | 0 => .object "WellOfTheSilent$Hill"
  | 1 => .object "WellOfTheSilent$Hill"
  | 2 => .object "WellOfTheSilent$Hill"
  | 3 => .object "WellOfTheSilent$Telling"
  | 4 => .array .int
  | 5 => .array .int
  | 6 => .int
  | _ => .boolean
abbrev wsX20 : List Cond := u_ws RX2 TX2 8
theorem nmX2 : ∀ a, a < 8 → ∀ b, b < 8 → a ≠ b → (TX2 a).2.1 ≠ (TX2 b).2.1 := by decide +kernel
theorem tyX2_ok : ∀ k, k < 8 → parseFieldDescriptor (TX2 k).2.2.1 = some (tyX2 k) := by decide +kernel
abbrev cX2_init : ByteArray := prog_1_method_1_code
def yX2_init : MethodName := ⟨RX2, "<init>", "()V"⟩
abbrev cX2_letter : ByteArray := prog_1_method_2_code
def yX2_letter : MethodName := ⟨RX2, "letter", "(I)I"⟩
abbrev cX2_hill : ByteArray := prog_1_method_3_code
def yX2_hill : MethodName := ⟨RX2, "hill", "()I"⟩
abbrev cX2_person : ByteArray := prog_1_method_4_code
def yX2_person : MethodName := ⟨RX2, "person", "(II)I"⟩
abbrev cX2_speaks : ByteArray := prog_1_method_5_code
def yX2_speaks : MethodName := ⟨RX2, "speaks", "(I)I"⟩
abbrev cX2_befriends : ByteArray := prog_1_method_6_code
def yX2_befriends : MethodName := ⟨RX2, "befriends", "(II)I"⟩
abbrev cX2_pours : ByteArray := prog_1_method_7_code
def yX2_pours : MethodName := ⟨RX2, "pours", "(II)I"⟩
abbrev cX2_cans : ByteArray := prog_1_method_8_code
def yX2_cans : MethodName := ⟨RX2, "cans", "(II)I"⟩
abbrev cX2_water : ByteArray := prog_1_method_9_code
def yX2_water : MethodName := ⟨RX2, "water", "(I)I"⟩
abbrev cX2_flow : ByteArray := prog_1_method_10_code
def yX2_flow : MethodName := ⟨RX2, "flow", "(I)I"⟩
abbrev cX2_turn : ByteArray := prog_1_method_11_code
def yX2_turn : MethodName := ⟨RX2, "turn", "(III)I"⟩
abbrev cX2_hours : ByteArray := prog_1_method_12_code
def yX2_hours : MethodName := ⟨RX2, "hours", "(I)I"⟩
abbrev cX2_hasThen : ByteArray := prog_1_method_13_code
def yX2_hasThen : MethodName := ⟨RX2, "hasThen", "(II)I"⟩
abbrev cX2_then : ByteArray := prog_1_method_14_code
def yX2_then : MethodName := ⟨RX2, "then", "(II)I"⟩
abbrev cX2_dry : ByteArray := prog_1_method_15_code
def yX2_dry : MethodName := ⟨RX2, "dry", "(I)I"⟩
abbrev cX2_empty : ByteArray := prog_1_method_16_code
def yX2_empty : MethodName := ⟨RX2, "empty", "()I"⟩
abbrev cX2_flowBest : ByteArray := prog_1_method_17_code
def yX2_flowBest : MethodName := ⟨RX2, "flowBest", "(I)I"⟩
abbrev cX2_canBest : ByteArray := prog_1_method_18_code
def yX2_canBest : MethodName := ⟨RX2, "canBest", "(II)I"⟩
abbrev cX2_friendBest : ByteArray := prog_1_method_19_code
def yX2_friendBest : MethodName := ⟨RX2, "friendBest", "(II)I"⟩
abbrev cX2_hush : ByteArray := prog_1_method_20_code
def yX2_hush : MethodName := ⟨RX2, "hush", "(I)I"⟩
abbrev cX2_fewest : ByteArray := prog_1_method_21_code
def yX2_fewest : MethodName := ⟨RX2, "fewest", "(I)I"⟩
abbrev cX2_word : ByteArray := prog_1_method_22_code
def yX2_word : MethodName := ⟨RX2, "word", "(I)I"⟩
abbrev cX2_send : ByteArray := prog_1_method_23_code
def yX2_send : MethodName := ⟨RX2, "send", "(II)I"⟩
abbrev cX2_next : ByteArray := prog_1_method_24_code
def yX2_next : MethodName := ⟨RX2, "next", "()I"⟩
abbrev cX2_richest : ByteArray := prog_1_method_25_code
def yX2_richest : MethodName := ⟨RX2, "richest", "(I)I"⟩
abbrev cX2_quiet : ByteArray := prog_1_method_26_code
def yX2_quiet : MethodName := ⟨RX2, "quiet", "(I)I"⟩
abbrev cX2_thirst : ByteArray := prog_1_method_27_code
def yX2_thirst : MethodName := ⟨RX2, "thirst", "()I"⟩
abbrev cX2_lasts : ByteArray := prog_1_method_28_code
def yX2_lasts : MethodName := ⟨RX2, "lasts", "(I)I"⟩
abbrev cX2_carries : ByteArray := prog_1_method_29_code
def yX2_carries : MethodName := ⟨RX2, "carries", "(I)I"⟩
abbrev cX2_two : ByteArray := prog_1_method_30_code
def yX2_two : MethodName := ⟨RX2, "two", "(III)I"⟩
abbrev cX2_sneeze : ByteArray := prog_1_method_31_code
def yX2_sneeze : MethodName := ⟨RX2, "sneeze", "(IIIII)J"⟩
abbrev cX2_mean : ByteArray := prog_1_method_32_code
def yX2_mean : MethodName := ⟨RX2, "mean", "(I)J"⟩
abbrev cX2_whatIs : ByteArray := prog_1_method_33_code
def yX2_whatIs : MethodName := ⟨RX2, "whatIs", "(II)I"⟩
abbrev cX2_row : ByteArray := prog_1_method_34_code
def yX2_row : MethodName := ⟨RX2, "row", "(I)I"⟩
abbrev cX2_judge : ByteArray := prog_1_method_35_code
def yX2_judge : MethodName := ⟨RX2, "judge", "()I"⟩
abbrev cX2_clear : ByteArray := prog_1_method_36_code
def yX2_clear : MethodName := ⟨RX2, "clear", "()I"⟩
abbrev cX2_lots : ByteArray := prog_1_method_37_code
def yX2_lots : MethodName := ⟨RX2, "lots", "(III)I"⟩
abbrev cX2_image : ByteArray := prog_1_method_38_code
def yX2_image : MethodName := ⟨RX2, "image", "()I"⟩
abbrev cX2_on : ByteArray := prog_1_method_39_code
def yX2_on : MethodName := ⟨RX2, "on", "()I"⟩
abbrev cX2_count : ByteArray := prog_1_method_40_code
def yX2_count : MethodName := ⟨RX2, "count", "(I)I"⟩
abbrev cX2_countRefusals : ByteArray := prog_1_method_41_code
def yX2_countRefusals : MethodName := ⟨RX2, "countRefusals", "(I)I"⟩
abbrev cX2_refused : ByteArray := prog_1_method_42_code
def yX2_refused : MethodName := ⟨RX2, "refused", "(I)I"⟩
abbrev cX2_refusedLong : ByteArray := prog_1_method_43_code
def yX2_refusedLong : MethodName := ⟨RX2, "refusedLong", "(I)J"⟩
abbrev cX2_rangeRefusal : ByteArray := prog_1_method_44_code
def yX2_rangeRefusal : MethodName := ⟨RX2, "rangeRefusal", "(III)I"⟩
abbrev cX2_whatRefusal : ByteArray := prog_1_method_45_code
def yX2_whatRefusal : MethodName := ⟨RX2, "whatRefusal", "(II)I"⟩
abbrev cX2_oneRefusal : ByteArray := prog_1_method_46_code
def yX2_oneRefusal : MethodName := ⟨RX2, "oneRefusal", "(III)I"⟩
abbrev cX2_sneezeRefusal : ByteArray := prog_1_method_47_code
def yX2_sneezeRefusal : MethodName := ⟨RX2, "sneezeRefusal", "(IIIII)I"⟩
abbrev cX2_thoughtOfNow : ByteArray := prog_1_method_48_code
def yX2_thoughtOfNow : MethodName := ⟨RX2, "thoughtOfNow", "()LWellOfTheSilent$Hill;"⟩
abbrev cX2_thoughtBehind : ByteArray := prog_1_method_49_code
def yX2_thoughtBehind : MethodName := ⟨RX2, "thoughtBehind", "(I)LWellOfTheSilent$Hill;"⟩
abbrev cX2_firstDry : ByteArray := prog_1_method_50_code
def yX2_firstDry : MethodName := ⟨RX2, "firstDry", "()I"⟩
abbrev cX2_isWetWithHushed : ByteArray := prog_1_method_51_code
def yX2_isWetWithHushed : MethodName := ⟨RX2, "isWetWithHushed", "(II)Z"⟩
abbrev cX2_othersWetBySending : ByteArray := prog_1_method_52_code
def yX2_othersWetBySending : MethodName := ⟨RX2, "othersWetBySending", "(II)I"⟩
abbrev cX2_rank : ByteArray := prog_1_method_53_code
def yX2_rank : MethodName := ⟨RX2, "rank", "(II)I"⟩
abbrev cX2_friendsOfOthers : ByteArray := prog_1_method_54_code
def yX2_friendsOfOthers : MethodName := ⟨RX2, "friendsOfOthers", "()I"⟩
abbrev cX2_mutualTwos : ByteArray := prog_1_method_55_code
def yX2_mutualTwos : MethodName := ⟨RX2, "mutualTwos", "()I"⟩
abbrev cX2_gain : ByteArray := prog_1_method_56_code
def yX2_gain : MethodName := ⟨RX2, "gain", "(IIIII)I"⟩
abbrev cX2_hasBehindSneezes : ByteArray := prog_1_method_57_code
def yX2_hasBehindSneezes : MethodName := ⟨RX2, "hasBehindSneezes", "(III)I"⟩
abbrev cX2_power : ByteArray := prog_1_method_58_code
def yX2_power : MethodName := ⟨RX2, "power", "(II)J"⟩
abbrev cX2_partOfFraction : ByteArray := prog_1_method_59_code
def yX2_partOfFraction : MethodName := ⟨RX2, "partOfFraction", "(JJI)J"⟩
abbrev cX2_greatestDivisor : ByteArray := prog_1_method_60_code
def yX2_greatestDivisor : MethodName := ⟨RX2, "greatestDivisor", "(JJ)J"⟩
abbrev cX2_kindsByRow : ByteArray := prog_1_method_61_code
def yX2_kindsByRow : MethodName := ⟨RX2, "kindsByRow", "(I)I"⟩
abbrev cX2_figuresByRow : ByteArray := prog_1_method_62_code
def yX2_figuresByRow : MethodName := ⟨RX2, "figuresByRow", "(I)I"⟩
abbrev cX2_goesAsRow : ByteArray := prog_1_method_63_code
def yX2_goesAsRow : MethodName := ⟨RX2, "goesAsRow", "(LWellOfTheSilent$Hill;I)Z"⟩
abbrev cX2_nextSeed : ByteArray := prog_1_method_64_code
def yX2_nextSeed : MethodName := ⟨RX2, "nextSeed", "(I)I"⟩
abbrev cX2_lotBelow : ByteArray := prog_1_method_65_code
def yX2_lotBelow : MethodName := ⟨RX2, "lotBelow", "(II)I"⟩
def RX3 : String := "WellOfTheSilentModel"
def TX3 : u_T := fun k => match k with
  | 0 => ("WellOfTheSilentModel", "s", "[I", true)
  | 1 => ("WellOfTheSilentModel", "m", "[I", true)
  | 2 => ("WellOfTheSilentModel", "image", "[I", true)
  | 3 => ("WellOfTheSilentModel", "was", "[I", true)
  | 4 => ("WellOfTheSilentModel", "hasImage", "Z", false)
  | 5 => ("WellOfTheSilentModel", "letters", "[I", true)
  | 6 => ("WellOfTheSilentModel", "row", "[I", true)
  | 7 => ("WellOfTheSilentModel", "refused", "[I", true)
  | 8 => ("WellOfTheSilentModel", "letterMany", "I", false)
  | 9 => ("WellOfTheSilentModel", "rowMany", "I", false)
  | 10 => ("WellOfTheSilentModel", "place", "I", false)
  | 11 => ("WellOfTheSilentModel", "numbers", "[I", true)
  | _ => ("WellOfTheSilentModel", "seed", "I", false)
def tyX3 : Nat → FieldType := fun k => match k with
  | 0 => .array .int
  | 1 => .array .int
  | 2 => .array .int
  | 3 => .array .int
  | 4 => .boolean
  | 5 => .array .int
  | 6 => .array .int
  | 7 => .array .int
  | 8 => .int
  | 9 => .int
  | 10 => .int
  | 11 => .array .int
  | _ => .int
abbrev wsX30 : List Cond := u_ws RX3 TX3 13
theorem nmX3 : ∀ a, a < 13 → ∀ b, b < 13 → a ≠ b → (TX3 a).2.1 ≠ (TX3 b).2.1 := by decide +kernel
theorem tyX3_ok : ∀ k, k < 13 → parseFieldDescriptor (TX3 k).2.2.1 = some (tyX3 k) := by decide +kernel
abbrev cX3_init : ByteArray := prog_5_method_1_code
def yX3_init : MethodName := ⟨RX3, "<init>", "()V"⟩
abbrev cX3_isIn : ByteArray := prog_5_method_2_code
def yX3_isIn : MethodName := ⟨RX3, "isIn", "(III)Z"⟩
abbrev cX3_least : ByteArray := prog_5_method_3_code
def yX3_least : MethodName := ⟨RX3, "least", "(II)I"⟩
abbrev cX3_copies : ByteArray := prog_5_method_4_code
def yX3_copies : MethodName := ⟨RX3, "copies", "([I[I)V"⟩
abbrev cX3_no : ByteArray := prog_5_method_5_code
def yX3_no : MethodName := ⟨RX3, "no", "(I)I"⟩
abbrev cX3_noWide : ByteArray := prog_5_method_6_code
def yX3_noWide : MethodName := ⟨RX3, "noWide", "(I)J"⟩
abbrev cX3_of : ByteArray := prog_5_method_7_code
def yX3_of : MethodName := ⟨RX3, "of", "(II)I"⟩
abbrev cX3_isPerson : ByteArray := prog_5_method_8_code
def yX3_isPerson : MethodName := ⟨RX3, "isPerson", "(I)Z"⟩
abbrev cX3_has : ByteArray := prog_5_method_9_code
def yX3_has : MethodName := ⟨RX3, "has", "(II)Z"⟩
abbrev cX3_bits : ByteArray := prog_5_method_10_code
def yX3_bits : MethodName := ⟨RX3, "bits", "(I)I"⟩
abbrev cX3_speaksBy : ByteArray := prog_5_method_11_code
def yX3_speaksBy : MethodName := ⟨RX3, "speaksBy", "(II)I"⟩
abbrev cX3_drinksBy : ByteArray := prog_5_method_12_code
def yX3_drinksBy : MethodName := ⟨RX3, "drinksBy", "(I)I"⟩
abbrev cX3_speaksIn : ByteArray := prog_5_method_13_code
def yX3_speaksIn : MethodName := ⟨RX3, "speaksIn", "([II)I"⟩
abbrev cX3_mayDraw : ByteArray := prog_5_method_14_code
def yX3_mayDraw : MethodName := ⟨RX3, "mayDraw", "([II)Z"⟩
abbrev cX3_draws : ByteArray := prog_5_method_15_code
def yX3_draws : MethodName := ⟨RX3, "draws", "([II)V"⟩
abbrev cX3_hour : ByteArray := prog_5_method_16_code
def yX3_hour : MethodName := ⟨RX3, "hour", "([II)V"⟩
abbrev cX3_hoursOn : ByteArray := prog_5_method_17_code
def yX3_hoursOn : MethodName := ⟨RX3, "hoursOn", "([II)V"⟩
abbrev cX3_allHave : ByteArray := prog_5_method_18_code
def yX3_allHave : MethodName := ⟨RX3, "allHave", "([I)I"⟩
abbrev cX3_flagged : ByteArray := prog_5_method_19_code
def yX3_flagged : MethodName := ⟨RX3, "flagged", "([II)I"⟩
abbrev cX3_dryOnes : ByteArray := prog_5_method_20_code
def yX3_dryOnes : MethodName := ⟨RX3, "dryOnes", "([I)I"⟩
abbrev cX3_letter : ByteArray := prog_5_method_21_code
def yX3_letter : MethodName := ⟨RX3, "letter", "(I)I"⟩
abbrev cX3_here : ByteArray := prog_5_method_22_code
def yX3_here : MethodName := ⟨RX3, "here", "()I"⟩
abbrev cX3_readsNumber : ByteArray := prog_5_method_23_code
def yX3_readsNumber : MethodName := ⟨RX3, "readsNumber", "(II)Z"⟩
abbrev cX3_kindBy : ByteArray := prog_5_method_24_code
def yX3_kindBy : MethodName := ⟨RX3, "kindBy", "(I)I"⟩
abbrev cX3_readsKind : ByteArray := prog_5_method_25_code
def yX3_readsKind : MethodName := ⟨RX3, "readsKind", "()Z"⟩
abbrev cX3_readsStatement : ByteArray := prog_5_method_26_code
def yX3_readsStatement : MethodName := ⟨RX3, "readsStatement", "()Z"⟩
abbrev cX3_addsPerson : ByteArray := prog_5_method_27_code
def yX3_addsPerson : MethodName := ⟨RX3, "addsPerson", "()Z"⟩
abbrev cX3_isDone : ByteArray := prog_5_method_28_code
def yX3_isDone : MethodName := ⟨RX3, "isDone", "(I)Z"⟩
abbrev cX3_hill : ByteArray := prog_5_method_29_code
def yX3_hill : MethodName := ⟨RX3, "hill", "()I"⟩
abbrev cX3_person : ByteArray := prog_5_method_30_code
def yX3_person : MethodName := ⟨RX3, "person", "(II)I"⟩
abbrev cX3_speaks : ByteArray := prog_5_method_31_code
def yX3_speaks : MethodName := ⟨RX3, "speaks", "(I)I"⟩
abbrev cX3_sets : ByteArray := prog_5_method_32_code
def yX3_sets : MethodName := ⟨RX3, "sets", "(II)I"⟩
abbrev cX3_befriends : ByteArray := prog_5_method_33_code
def yX3_befriends : MethodName := ⟨RX3, "befriends", "(II)I"⟩
abbrev cX3_wrongBy : ByteArray := prog_5_method_34_code
def yX3_wrongBy : MethodName := ⟨RX3, "wrongBy", "(III)I"⟩
abbrev cX3_setsOf : ByteArray := prog_5_method_35_code
def yX3_setsOf : MethodName := ⟨RX3, "setsOf", "(IIII)I"⟩
abbrev cX3_pours : ByteArray := prog_5_method_36_code
def yX3_pours : MethodName := ⟨RX3, "pours", "(II)I"⟩
abbrev cX3_cans : ByteArray := prog_5_method_37_code
def yX3_cans : MethodName := ⟨RX3, "cans", "(II)I"⟩
abbrev cX3_setsIn : ByteArray := prog_5_method_38_code
def yX3_setsIn : MethodName := ⟨RX3, "setsIn", "(III)I"⟩
abbrev cX3_water : ByteArray := prog_5_method_39_code
def yX3_water : MethodName := ⟨RX3, "water", "(I)I"⟩
abbrev cX3_flow : ByteArray := prog_5_method_40_code
def yX3_flow : MethodName := ⟨RX3, "flow", "(I)I"⟩
abbrev cX3_turn : ByteArray := prog_5_method_41_code
def yX3_turn : MethodName := ⟨RX3, "turn", "(III)I"⟩
abbrev cX3_hours : ByteArray := prog_5_method_42_code
def yX3_hours : MethodName := ⟨RX3, "hours", "(I)I"⟩
abbrev cX3_takes : ByteArray := prog_5_method_43_code
def yX3_takes : MethodName := ⟨RX3, "takes", "(I)V"⟩
abbrev cX3_hasThen : ByteArray := prog_5_method_44_code
def yX3_hasThen : MethodName := ⟨RX3, "hasThen", "(II)I"⟩
abbrev cX3_then : ByteArray := prog_5_method_45_code
def yX3_then : MethodName := ⟨RX3, "then", "(II)I"⟩
abbrev cX3_whenNothing : ByteArray := prog_5_method_46_code
def yX3_whenNothing : MethodName := ⟨RX3, "whenNothing", "(I)I"⟩
abbrev cX3_firstDry : ByteArray := prog_5_method_47_code
def yX3_firstDry : MethodName := ⟨RX3, "firstDry", "()I"⟩
abbrev cX3_dry : ByteArray := prog_5_method_48_code
def yX3_dry : MethodName := ⟨RX3, "dry", "(I)I"⟩
abbrev cX3_empty : ByteArray := prog_5_method_49_code
def yX3_empty : MethodName := ⟨RX3, "empty", "()I"⟩
abbrev cX3_isNoneDry : ByteArray := prog_5_method_50_code
def yX3_isNoneDry : MethodName := ⟨RX3, "isNoneDry", "(II)Z"⟩
abbrev cX3_flowBest : ByteArray := prog_5_method_51_code
def yX3_flowBest : MethodName := ⟨RX3, "flowBest", "(I)I"⟩
abbrev cX3_canBest : ByteArray := prog_5_method_52_code
def yX3_canBest : MethodName := ⟨RX3, "canBest", "(II)I"⟩
abbrev cX3_leastHas : ByteArray := prog_5_method_53_code
def yX3_leastHas : MethodName := ⟨RX3, "leastHas", "([I)I"⟩
abbrev cX3_friendBest : ByteArray := prog_5_method_54_code
def yX3_friendBest : MethodName := ⟨RX3, "friendBest", "(II)I"⟩
abbrev cX3_hush : ByteArray := prog_5_method_55_code
def yX3_hush : MethodName := ⟨RX3, "hush", "(I)I"⟩
abbrev cX3_fewest : ByteArray := prog_5_method_56_code
def yX3_fewest : MethodName := ⟨RX3, "fewest", "(I)I"⟩
abbrev cX3_word : ByteArray := prog_5_method_57_code
def yX3_word : MethodName := ⟨RX3, "word", "(I)I"⟩
abbrev cX3_send : ByteArray := prog_5_method_58_code
def yX3_send : MethodName := ⟨RX3, "send", "(II)I"⟩
abbrev cX3_next : ByteArray := prog_5_method_59_code
def yX3_next : MethodName := ⟨RX3, "next", "()I"⟩
abbrev cX3_extreme : ByteArray := prog_5_method_60_code
def yX3_extreme : MethodName := ⟨RX3, "extreme", "(IZ)I"⟩
abbrev cX3_richest : ByteArray := prog_5_method_61_code
def yX3_richest : MethodName := ⟨RX3, "richest", "(I)I"⟩
abbrev cX3_quiet : ByteArray := prog_5_method_62_code
def yX3_quiet : MethodName := ⟨RX3, "quiet", "(I)I"⟩
abbrev cX3_thirst : ByteArray := prog_5_method_63_code
def yX3_thirst : MethodName := ⟨RX3, "thirst", "()I"⟩
abbrev cX3_lasts : ByteArray := prog_5_method_64_code
def yX3_lasts : MethodName := ⟨RX3, "lasts", "(I)I"⟩
abbrev cX3_carries : ByteArray := prog_5_method_65_code
def yX3_carries : MethodName := ⟨RX3, "carries", "(I)I"⟩
abbrev cX3_hasBy : ByteArray := prog_5_method_66_code
def yX3_hasBy : MethodName := ⟨RX3, "hasBy", "(IIIIII)I"⟩
abbrev cX3_two : ByteArray := prog_5_method_67_code
def yX3_two : MethodName := ⟨RX3, "two", "(III)I"⟩
abbrev cX3_gcd : ByteArray := prog_5_method_68_code
def yX3_gcd : MethodName := ⟨RX3, "gcd", "(JJ)J"⟩
abbrev cX3_partOf : ByteArray := prog_5_method_69_code
def yX3_partOf : MethodName := ⟨RX3, "partOf", "(JJI)J"⟩
abbrev cX3_sneeze : ByteArray := prog_5_method_70_code
def yX3_sneeze : MethodName := ⟨RX3, "sneeze", "(IIIII)J"⟩
abbrev cX3_mean : ByteArray := prog_5_method_71_code
def yX3_mean : MethodName := ⟨RX3, "mean", "(I)J"⟩
abbrev cX3_whatIs : ByteArray := prog_5_method_72_code
def yX3_whatIs : MethodName := ⟨RX3, "whatIs", "(II)I"⟩
abbrev cX3_row : ByteArray := prog_5_method_73_code
def yX3_row : MethodName := ⟨RX3, "row", "(I)I"⟩
abbrev cX3_judge : ByteArray := prog_5_method_74_code
def yX3_judge : MethodName := ⟨RX3, "judge", "()I"⟩
abbrev cX3_clear : ByteArray := prog_5_method_75_code
def yX3_clear : MethodName := ⟨RX3, "clear", "()I"⟩
abbrev cX3_drawn : ByteArray := prog_5_method_76_code
def yX3_drawn : MethodName := ⟨RX3, "drawn", "(I)I"⟩
abbrev cX3_lots : ByteArray := prog_5_method_77_code
def yX3_lots : MethodName := ⟨RX3, "lots", "(III)I"⟩
abbrev cX3_image : ByteArray := prog_5_method_78_code
def yX3_image : MethodName := ⟨RX3, "image", "()I"⟩
abbrev cX3_on : ByteArray := prog_5_method_79_code
def yX3_on : MethodName := ⟨RX3, "on", "()I"⟩
abbrev cX3_count : ByteArray := prog_5_method_80_code
def yX3_count : MethodName := ⟨RX3, "count", "(I)I"⟩
def RJ11 : String := "java/lang/Character"
def TJ11 : u_T := fun k => match k with
  | _ => ("", "", "", false)
def tyJ11 : Nat → FieldType := fun k => match k with
  | _ => .int
abbrev wsJ110 : List Cond := u_ws RJ11 TJ11 0
theorem nmJ11 : ∀ a, a < 0 → ∀ b, b < 0 → a ≠ b → (TJ11 a).2.1 ≠ (TJ11 b).2.1 := by decide +kernel
theorem tyJ11_ok : ∀ k, k < 0 → parseFieldDescriptor (TJ11 k).2.2.1 = some (tyJ11 k) := by decide +kernel
abbrev cJ11_isValidCodePoint_9a6ad : ByteArray := prog_6_method_11_code
def yJ11_isValidCodePoint_9a6ad : MethodName := ⟨RJ11, "isValidCodePoint", "(I)Z"⟩
abbrev cJ11_highSurrogate_5068e : ByteArray := prog_6_method_28_code
def yJ11_highSurrogate_5068e : MethodName := ⟨RJ11, "highSurrogate", "(I)C"⟩
abbrev cJ11_lowSurrogate_5068e : ByteArray := prog_6_method_29_code
def yJ11_lowSurrogate_5068e : MethodName := ⟨RJ11, "lowSurrogate", "(I)C"⟩
def RJ6 : String := "java/lang/Integer"
def TJ6 : u_T := fun k => match k with
  | _ => ("", "", "", false)
def tyJ6 : Nat → FieldType := fun k => match k with
  | _ => .int
abbrev wsJ60 : List Cond := u_ws RJ6 TJ6 0
theorem nmJ6 : ∀ a, a < 0 → ∀ b, b < 0 → a ≠ b → (TJ6 a).2.1 ≠ (TJ6 b).2.1 := by decide +kernel
theorem tyJ6_ok : ∀ k, k < 0 → parseFieldDescriptor (TJ6 k).2.2.1 = some (tyJ6 k) := by decide +kernel
abbrev cJ6_bitCount_0f7a4 : ByteArray := prog_7_method_49_code
def yJ6_bitCount_0f7a4 : MethodName := ⟨RJ6, "bitCount", "(I)I"⟩
def RJ9 : String := "java/lang/Math"
def TJ9 : u_T := fun k => match k with
  | _ => ("", "", "", false)
def tyJ9 : Nat → FieldType := fun k => match k with
  | _ => .int
abbrev wsJ90 : List Cond := u_ws RJ9 TJ9 0
theorem nmJ9 : ∀ a, a < 0 → ∀ b, b < 0 → a ≠ b → (TJ9 a).2.1 ≠ (TJ9 b).2.1 := by decide +kernel
theorem tyJ9_ok : ∀ k, k < 0 → parseFieldDescriptor (TJ9 k).2.2.1 = some (tyJ9 k) := by decide +kernel
abbrev cJ9_max_7cf53 : ByteArray := prog_8_method_65_code
def yJ9_max_7cf53 : MethodName := ⟨RJ9, "max", "(II)I"⟩
abbrev cJ9_min_7cf53 : ByteArray := prog_8_method_69_code
def yJ9_min_7cf53 : MethodName := ⟨RJ9, "min", "(II)I"⟩
def RJ0 : String := "java/lang/String"
def TJ0 : u_T := fun k => match k with
  | _ => ("", "", "", false)
def tyJ0 : Nat → FieldType := fun k => match k with
  | _ => .int
abbrev wsJ00 : List Cond := u_ws RJ0 TJ0 0
theorem nmJ0 : ∀ a, a < 0 → ∀ b, b < 0 → a ≠ b → (TJ0 a).2.1 ≠ (TJ0 b).2.1 := by decide +kernel
theorem tyJ0_ok : ∀ k, k < 0 → parseFieldDescriptor (TJ0 k).2.2.1 = some (tyJ0 k) := by decide +kernel
abbrev cJ0_length_8abf5 : ByteArray := prog_9_method_54_code
def yJ0_length_8abf5 : MethodName := ⟨RJ0, "length", "()I"⟩
abbrev cJ0_isEmpty_aae02 : ByteArray := prog_9_method_55_code
def yJ0_isEmpty_aae02 : MethodName := ⟨RJ0, "isEmpty", "()Z"⟩
abbrev cJ0_charAt_5068e : ByteArray := prog_9_method_56_code
def yJ0_charAt_5068e : MethodName := ⟨RJ0, "charAt", "(I)C"⟩
abbrev cJ0_indexOf_0f7a4 : ByteArray := prog_9_method_79_code
def yJ0_indexOf_0f7a4 : MethodName := ⟨RJ0, "indexOf", "(I)I"⟩
abbrev cJ0_indexOf_7cf53 : ByteArray := prog_9_method_80_code
def yJ0_indexOf_7cf53 : MethodName := ⟨RJ0, "indexOf", "(II)I"⟩
abbrev cJ0_coder_7d493 : ByteArray := prog_9_method_152_code
def yJ0_coder_7d493 : MethodName := ⟨RJ0, "coder", "()B"⟩
abbrev cJ0_isLatin1_aae02 : ByteArray := prog_9_method_154_code
def yJ0_isLatin1_aae02 : MethodName := ⟨RJ0, "isLatin1", "()Z"⟩
abbrev cJ0_checkIndex_df160 : ByteArray := prog_9_method_155_code
def yJ0_checkIndex_df160 : MethodName := ⟨RJ0, "checkIndex", "(II)V"⟩
abbrev cJ0_checkBoundsBeginEnd_23922 : ByteArray := prog_9_method_158_code
def yJ0_checkBoundsBeginEnd_23922 : MethodName := ⟨RJ0, "checkBoundsBeginEnd", "(III)V"⟩
def RJ1 : String := "java/lang/StringLatin1"
def TJ1 : u_T := fun k => match k with
  | _ => ("", "", "", false)
def tyJ1 : Nat → FieldType := fun k => match k with
  | _ => .int
abbrev wsJ10 : List Cond := u_ws RJ1 TJ1 0
theorem nmJ1 : ∀ a, a < 0 → ∀ b, b < 0 → a ≠ b → (TJ1 a).2.1 ≠ (TJ1 b).2.1 := by decide +kernel
theorem tyJ1_ok : ∀ k, k < 0 → parseFieldDescriptor (TJ1 k).2.2.1 = some (tyJ1 k) := by decide +kernel
abbrev cJ1_charAt_3b067 : ByteArray := prog_10_method_2_code
def yJ1_charAt_3b067 : MethodName := ⟨RJ1, "charAt", "([BI)C"⟩
abbrev cJ1_canEncode_9a6ad : ByteArray := prog_10_method_4_code
def yJ1_canEncode_9a6ad : MethodName := ⟨RJ1, "canEncode", "(I)Z"⟩
abbrev cJ1_indexOf_4cfef : ByteArray := prog_10_method_22_code
def yJ1_indexOf_4cfef : MethodName := ⟨RJ1, "indexOf", "([BIII)I"⟩
abbrev cJ1_indexOfChar_4cfef : ByteArray := prog_10_method_23_code
def yJ1_indexOfChar_4cfef : MethodName := ⟨RJ1, "indexOfChar", "([BIII)I"⟩
def RJ2 : String := "java/lang/StringUTF16"
def TJ2 : u_T := fun k => match k with
  | _ => ("", "", "", false)
def tyJ2 : Nat → FieldType := fun k => match k with
  | _ => .int
abbrev wsJ20 : List Cond := u_ws RJ2 TJ2 0
theorem nmJ2 : ∀ a, a < 0 → ∀ b, b < 0 → a ≠ b → (TJ2 a).2.1 ≠ (TJ2 b).2.1 := by decide +kernel
theorem tyJ2_ok : ∀ k, k < 0 → parseFieldDescriptor (TJ2 k).2.2.1 = some (tyJ2 k) := by decide +kernel
abbrev cJ2_getChar_3b067 : ByteArray := prog_11_method_5_code
def yJ2_getChar_3b067 : MethodName := ⟨RJ2, "getChar", "([BI)C"⟩
abbrev cJ2_length_9d52b : ByteArray := prog_11_method_6_code
def yJ2_length_9d52b : MethodName := ⟨RJ2, "length", "([B)I"⟩
abbrev cJ2_indexOf_4cfef : ByteArray := prog_11_method_40_code
def yJ2_indexOf_4cfef : MethodName := ⟨RJ2, "indexOf", "([BIII)I"⟩
abbrev cJ2_indexOfChar_4cfef : ByteArray := prog_11_method_47_code
def yJ2_indexOfChar_4cfef : MethodName := ⟨RJ2, "indexOfChar", "([BIII)I"⟩
abbrev cJ2_indexOfCharUnsafe_4cfef : ByteArray := prog_11_method_48_code
def yJ2_indexOfCharUnsafe_4cfef : MethodName := ⟨RJ2, "indexOfCharUnsafe", "([BIII)I"⟩
abbrev cJ2_indexOfSupplementary_4cfef : ByteArray := prog_11_method_49_code
def yJ2_indexOfSupplementary_4cfef : MethodName := ⟨RJ2, "indexOfSupplementary", "([BIII)I"⟩
abbrev cJ2_charAt_3b067 : ByteArray := prog_11_method_83_code
def yJ2_charAt_3b067 : MethodName := ⟨RJ2, "charAt", "([BI)C"⟩
abbrev cJ2_checkIndex_2214a : ByteArray := prog_11_method_91_code
def yJ2_checkIndex_2214a : MethodName := ⟨RJ2, "checkIndex", "(I[B)V"⟩
abbrev cJ2_checkBoundsBeginEnd_d044e : ByteArray := prog_11_method_93_code
def yJ2_checkBoundsBeginEnd_d044e : MethodName := ⟨RJ2, "checkBoundsBeginEnd", "(II[B)V"⟩
def RJ3 : String := "jdk/internal/util/Preconditions"
def TJ3 : u_T := fun k => match k with
  | _ => ("", "", "", false)
def tyJ3 : Nat → FieldType := fun k => match k with
  | _ => .int
abbrev wsJ30 : List Cond := u_ws RJ3 TJ3 0
theorem nmJ3 : ∀ a, a < 0 → ∀ b, b < 0 → a ≠ b → (TJ3 a).2.1 ≠ (TJ3 b).2.1 := by decide +kernel
theorem tyJ3_ok : ∀ k, k < 0 → parseFieldDescriptor (TJ3 k).2.2.1 = some (tyJ3 k) := by decide +kernel
abbrev cJ3_checkIndex_8e157 : ByteArray := prog_12_method_11_code
def yJ3_checkIndex_8e157 : MethodName := ⟨RJ3, "checkIndex", "(IILjava/util/function/BiFunction;)I"⟩
abbrev cJ3_checkFromToIndex_8c36e : ByteArray := prog_12_method_12_code
def yJ3_checkFromToIndex_8c36e : MethodName := ⟨RJ3, "checkFromToIndex", "(IIILjava/util/function/BiFunction;)I"⟩
def RL : String := "WellOfTheSilentLaw"
abbrev cL_law : ByteArray := code
def yL_law : MethodName := ⟨RL, "law", "([I)Z"⟩
abbrev vwCl : List vw_C := [(RX0, TX0, 12), (RX1, TX1, 2), (RX2, TX2, 8), (RX3, TX3, 13)]
/-! the tables' good words, and each by its place -/
def xAL : List Cond := lw_tbl.filter goodWord
theorem xAL_of {w : Cond} (h : w ∈ lw_tbl) (g : goodWord w = true) : w ∈ xAL := List.mem_filter.mpr ⟨h, g⟩
theorem xAL_good : GoodIn xAL xAL := fun w h => ⟨h, good_of_word (List.mem_filter.mp h).2⟩
theorem xAL_in : ∀ w ∈ xAL, w ∈ lw_tbl := fun w h => (List.mem_filter.mp h).1
theorem xAL_1 {w : Cond} (i : Nat) (h : tables_1_1[i]? = some w) (g : goodWord w = true) : w ∈ xAL := xAL_of (List.mem_append_right _ (List.mem_append_left _ (List.mem_of_getElem? h))) g
theorem xAL_2 {w : Cond} (i : Nat) (h : tables_1_2[i]? = some w) (g : goodWord w = true) : w ∈ xAL := xAL_of (List.mem_append_right _ (List.mem_append_right _ (List.mem_append_left _ (List.mem_of_getElem? h)))) g
theorem xAL_3 {w : Cond} (i : Nat) (h : tables_1_3[i]? = some w) (g : goodWord w = true) : w ∈ xAL := xAL_of (List.mem_append_right _ (List.mem_append_right _ (List.mem_append_right _ (List.mem_append_left _ (List.mem_of_getElem? h))))) g
theorem xAL_4 {w : Cond} (i : Nat) (h : tables_1_4[i]? = some w) (g : goodWord w = true) : w ∈ xAL := xAL_of (List.mem_append_right _ (List.mem_append_right _ (List.mem_append_right _ (List.mem_append_right _ (List.mem_append_left _ (List.mem_of_getElem? h)))))) g
theorem xAL_5 {w : Cond} (i : Nat) (h : tables_1_5[i]? = some w) (g : goodWord w = true) : w ∈ xAL := xAL_of (List.mem_append_right _ (List.mem_append_right _ (List.mem_append_right _ (List.mem_append_right _ (List.mem_append_right _ (List.mem_of_getElem? h)))))) g
theorem xTB_1 {w : Cond} (i : Nat) (h : tables_1_1[i]? = some w) : w ∈ lw_tbl := List.mem_append_right _ (List.mem_append_left _ (List.mem_of_getElem? h))
theorem xTB_2 {w : Cond} (i : Nat) (h : tables_1_2[i]? = some w) : w ∈ lw_tbl := List.mem_append_right _ (List.mem_append_right _ (List.mem_append_left _ (List.mem_of_getElem? h)))
theorem xAL_p1 {q : MethodName × Nat} (i : Nat) (h : lw_privs_1[i]? = some q) : Cond.selects q.1.cls q.1 q.1 ∈ xAL := xAL_of (List.mem_append_left _ (List.mem_map.mpr ⟨q, List.mem_append_left _ (List.mem_of_getElem? h), rfl⟩)) rfl
theorem xAL_p2 {q : MethodName × Nat} (i : Nat) (h : lw_privs_2[i]? = some q) : Cond.selects q.1.cls q.1 q.1 ∈ xAL := xAL_of (List.mem_append_left _ (List.mem_map.mpr ⟨q, List.mem_append_right _ (List.mem_append_left _ (List.mem_of_getElem? h)), rfl⟩)) rfl
theorem xAL_p3 {q : MethodName × Nat} (i : Nat) (h : lw_privs_3[i]? = some q) : Cond.selects q.1.cls q.1 q.1 ∈ xAL := xAL_of (List.mem_append_left _ (List.mem_map.mpr ⟨q, List.mem_append_right _ (List.mem_append_right _ (List.mem_of_getElem? h)), rfl⟩)) rfl
theorem kin_L : Cond.initialized RL ∈ xAL := xAL_1 0 rfl rfl
theorem kin_X2 : Cond.initialized RX2 ∈ xAL := xAL_1 1 rfl rfl
theorem kin_X0 : Cond.initialized RX0 ∈ xAL := xAL_1 2 rfl rfl
theorem kin_X1 : Cond.initialized RX1 ∈ xAL := xAL_1 3 rfl rfl
theorem kin_X3 : Cond.initialized RX3 ∈ xAL := xAL_1 4 rfl rfl
theorem kin_J0 : Cond.initialized RJ0 ∈ xAL := xAL_1 5 rfl rfl
theorem kin_J1 : Cond.initialized RJ1 ∈ xAL := xAL_1 6 rfl rfl
theorem kin_J3 : Cond.initialized RJ3 ∈ xAL := xAL_1 7 rfl rfl
theorem kin_J2 : Cond.initialized RJ2 ∈ xAL := xAL_1 8 rfl rfl
theorem kin_J9 : Cond.initialized RJ9 ∈ xAL := xAL_1 9 rfl rfl
theorem kin_J11 : Cond.initialized RJ11 ∈ xAL := xAL_1 10 rfl rfl
theorem kin_J6 : Cond.initialized RJ6 ∈ xAL := xAL_1 11 rfl rfl
theorem kcl_L_7 : Cond.classLink RL 7 RX2 ∈ xAL := xAL_1 12 rfl rfl
theorem kit_X2 : Cond.instantiable RX2 8 ∈ xAL := xAL_1 13 rfl rfl
theorem km_L_9 : Cond.methodLink RL 9 yX2_init ∈ xAL := xAL_1 14 rfl rfl
theorem ki_X2_init : Cond.instanceMethod yX2_init ∈ xAL := xAL_1 15 rfl rfl
theorem kc_X2_init : Cond.code yX2_init cX2_init 1 none ∈ xAL := xAL_1 16 rfl rfl
theorem km_X2_1 : Cond.methodLink RX2 1 objectInit ∈ xAL := xAL_1 17 rfl rfl
theorem ki_O_init : Cond.instanceMethod objectInit ∈ xAL := xAL_1 18 rfl rfl
theorem kcl_X2_7 : Cond.classLink RX2 7 RX0 ∈ xAL := xAL_1 20 rfl rfl
theorem kit_X0 : Cond.instantiable RX0 12 ∈ xAL := xAL_1 21 rfl rfl
theorem kmn_X2_9 : Cond.methodLinkNest RX2 9 yX0_init RX2 ∈ lw_tbl := xTB_1 22 rfl
theorem ki_X0_init : Cond.instanceMethod yX0_init ∈ xAL := xAL_1 23 rfl rfl
theorem kc_X0_init : Cond.code yX0_init cX0_init 1 none ∈ xAL := xAL_1 24 rfl rfl
theorem km_X0_3 : Cond.methodLink RX0 3 objectInit ∈ xAL := xAL_1 25 rfl rfl
theorem kf_X0_9 : Cond.fieldLink RX0 9 "WellOfTheSilent$Hill" "kinds" "[I" ∈ xAL := xAL_1 26 rfl rfl
theorem kf_X2_84 : Cond.fieldLink RX2 84 "WellOfTheSilent$Hill" "kinds" "[I" ∈ xAL := xAL_1 27 rfl rfl
theorem kf_X0_15 : Cond.fieldLink RX0 15 "WellOfTheSilent$Hill" "figures" "[I" ∈ xAL := xAL_1 28 rfl rfl
theorem kf_X2_87 : Cond.fieldLink RX2 87 "WellOfTheSilent$Hill" "figures" "[I" ∈ xAL := xAL_1 29 rfl rfl
theorem kf_X0_18 : Cond.fieldLink RX0 18 "WellOfTheSilent$Hill" "cans" "[I" ∈ xAL := xAL_1 30 rfl rfl
theorem kf_X2_90 : Cond.fieldLink RX2 90 "WellOfTheSilent$Hill" "cans" "[I" ∈ xAL := xAL_1 31 rfl rfl
theorem kf_X0_21 : Cond.fieldLink RX0 21 "WellOfTheSilent$Hill" "has" "[I" ∈ xAL := xAL_1 32 rfl rfl
theorem kf_X2_93 : Cond.fieldLink RX2 93 "WellOfTheSilent$Hill" "has" "[I" ∈ xAL := xAL_1 33 rfl rfl
theorem kf_X0_24 : Cond.fieldLink RX0 24 "WellOfTheSilent$Hill" "friends" "[I" ∈ xAL := xAL_1 34 rfl rfl
theorem kf_X2_102 : Cond.fieldLink RX2 102 "WellOfTheSilent$Hill" "friends" "[I" ∈ xAL := xAL_1 35 rfl rfl
theorem kf_X0_27 : Cond.fieldLink RX0 27 "WellOfTheSilent$Hill" "size" "I" ∈ xAL := xAL_1 36 rfl rfl
theorem kf_X2_171 : Cond.fieldLink RX2 171 "WellOfTheSilent$Hill" "size" "I" ∈ xAL := xAL_1 37 rfl rfl
theorem kf_X0_31 : Cond.fieldLink RX0 31 "WellOfTheSilent$Hill" "water" "I" ∈ xAL := xAL_1 38 rfl rfl
theorem kf_X2_129 : Cond.fieldLink RX2 129 "WellOfTheSilent$Hill" "water" "I" ∈ xAL := xAL_1 39 rfl rfl
theorem kf_X0_34 : Cond.fieldLink RX0 34 "WellOfTheSilent$Hill" "flow" "I" ∈ xAL := xAL_1 40 rfl rfl
theorem kf_X2_132 : Cond.fieldLink RX2 132 "WellOfTheSilent$Hill" "flow" "I" ∈ xAL := xAL_1 41 rfl rfl
theorem kf_X0_37 : Cond.fieldLink RX0 37 "WellOfTheSilent$Hill" "hour" "I" ∈ xAL := xAL_1 42 rfl rfl
theorem kf_X2_235 : Cond.fieldLink RX2 235 "WellOfTheSilent$Hill" "hour" "I" ∈ xAL := xAL_1 43 rfl rfl
theorem kf_X0_40 : Cond.fieldLink RX0 40 "WellOfTheSilent$Hill" "spoken" "I" ∈ xAL := xAL_1 44 rfl rfl
theorem kf_X2_114 : Cond.fieldLink RX2 114 "WellOfTheSilent$Hill" "spoken" "I" ∈ xAL := xAL_1 45 rfl rfl
theorem kf_X0_43 : Cond.fieldLink RX0 43 "WellOfTheSilent$Hill" "drew" "I" ∈ xAL := xAL_1 46 rfl rfl
theorem kf_X2_150 : Cond.fieldLink RX2 150 "WellOfTheSilent$Hill" "drew" "I" ∈ xAL := xAL_1 47 rfl rfl
theorem kf_X0_46 : Cond.fieldLink RX0 46 "WellOfTheSilent$Hill" "hushed" "I" ∈ xAL := xAL_1 48 rfl rfl
theorem kf_X2_172 : Cond.fieldLink RX2 172 "WellOfTheSilent$Hill" "hushed" "I" ∈ xAL := xAL_1 49 rfl rfl
theorem kar_int : Cond.arrayClass .int ∈ xAL := xAL_1 75 rfl rfl
theorem kcl_X2_22 : Cond.classLink RX2 22 RX1 ∈ xAL := xAL_1 76 rfl rfl
theorem kit_X1 : Cond.instantiable RX1 2 ∈ xAL := xAL_1 77 rfl rfl
theorem kmn_X2_24 : Cond.methodLinkNest RX2 24 yX1_init RX2 ∈ lw_tbl := xTB_1 78 rfl
theorem ki_X1_init : Cond.instanceMethod yX1_init ∈ xAL := xAL_1 79 rfl rfl
theorem kc_X1_init : Cond.code yX1_init cX1_init 1 none ∈ xAL := xAL_1 80 rfl rfl
theorem km_X1_3 : Cond.methodLink RX1 3 objectInit ∈ xAL := xAL_1 81 rfl rfl
theorem kf_X1_9 : Cond.fieldLink RX1 9 "WellOfTheSilent$Telling" "letters" "[I" ∈ xAL := xAL_1 82 rfl rfl
theorem kf_X1_15 : Cond.fieldLink RX1 15 "WellOfTheSilent$Telling" "size" "I" ∈ xAL := xAL_1 83 rfl rfl
theorem kf_X2_56 : Cond.fieldLink RX2 56 "WellOfTheSilent$Telling" "size" "I" ∈ xAL := xAL_1 84 rfl rfl
theorem kf_X2_10 : Cond.fieldLink RX2 10 "WellOfTheSilent" "now" "LWellOfTheSilent$Hill;" ∈ xAL := xAL_1 90 rfl rfl
theorem kf_X2_16 : Cond.fieldLink RX2 16 "WellOfTheSilent" "thought" "LWellOfTheSilent$Hill;" ∈ xAL := xAL_1 91 rfl rfl
theorem kf_X2_19 : Cond.fieldLink RX2 19 "WellOfTheSilent" "kept" "LWellOfTheSilent$Hill;" ∈ xAL := xAL_1 92 rfl rfl
theorem kf_X2_25 : Cond.fieldLink RX2 25 "WellOfTheSilent" "telling" "LWellOfTheSilent$Telling;" ∈ xAL := xAL_1 93 rfl rfl
theorem kf_X2_29 : Cond.fieldLink RX2 29 "WellOfTheSilent" "rowNumbers" "[I" ∈ xAL := xAL_1 94 rfl rfl
theorem kf_X2_33 : Cond.fieldLink RX2 33 "WellOfTheSilent" "refusals" "[I" ∈ xAL := xAL_1 95 rfl rfl
theorem kf_X2_36 : Cond.fieldLink RX2 36 "WellOfTheSilent" "rowSize" "I" ∈ xAL := xAL_1 96 rfl rfl
theorem kf_X2_40 : Cond.fieldLink RX2 40 "WellOfTheSilent" "isKept" "Z" ∈ xAL := xAL_1 97 rfl rfl
theorem km_L_13 : Cond.methodLink RL 13 yX2_letter ∈ xAL := xAL_1 115 rfl rfl
theorem ki_X2_letter : Cond.instanceMethod yX2_letter ∈ xAL := xAL_1 116 rfl rfl
theorem kse_X2_letter : Cond.selects RX2 yX2_letter yX2_letter ∈ xAL := xAL_1 117 rfl rfl
theorem kc_X2_letter : Cond.code yX2_letter cX2_letter 3 (some .int) ∈ xAL := xAL_1 118 rfl rfl
theorem km_X2_44 : Cond.methodLink RX2 44 yX2_rangeRefusal ∈ xAL := xAL_1 119 rfl rfl
theorem kst_X2_rangeRefusal : Cond.static yX2_rangeRefusal ∈ xAL := xAL_1 120 rfl rfl
theorem kc_X2_rangeRefusal : Cond.code yX2_rangeRefusal cX2_rangeRefusal 3 (some .int) ∈ xAL := xAL_1 121 rfl rfl
theorem km_X2_48 : Cond.methodLink RX2 48 yX1_add ∈ xAL := xAL_1 122 rfl rfl
theorem ki_X1_add : Cond.instanceMethod yX1_add ∈ xAL := xAL_1 123 rfl rfl
theorem kse_X1_add : Cond.selects RX1 yX1_add yX1_add ∈ xAL := xAL_1 124 rfl rfl
theorem kc_X1_add : Cond.code yX1_add cX1_add 2 (some .boolean) ∈ xAL := xAL_1 125 rfl rfl
theorem km_X2_52 : Cond.methodLink RX2 52 yX2_refused ∈ xAL := xAL_1 126 rfl rfl
theorem ki_X2_refused : Cond.instanceMethod yX2_refused ∈ xAL := xAL_1 128 rfl rfl
theorem kc_X2_refused : Cond.code yX2_refused cX2_refused 2 (some .int) ∈ xAL := xAL_1 129 rfl rfl
theorem km_L_18 : Cond.methodLink RL 18 yX2_hill ∈ xAL := xAL_1 130 rfl rfl
theorem ki_X2_hill : Cond.instanceMethod yX2_hill ∈ xAL := xAL_1 131 rfl rfl
theorem kse_X2_hill : Cond.selects RX2 yX2_hill yX2_hill ∈ xAL := xAL_1 132 rfl rfl
theorem kc_X2_hill : Cond.code yX2_hill cX2_hill 5 (some .int) ∈ xAL := xAL_1 133 rfl rfl
theorem km_X2_59 : Cond.methodLink RX2 59 yX1_firstWrongLetter ∈ xAL := xAL_1 134 rfl rfl
theorem ki_X1_firstWrongLetter : Cond.instanceMethod yX1_firstWrongLetter ∈ xAL := xAL_1 135 rfl rfl
theorem kse_X1_firstWrongLetter : Cond.selects RX1 yX1_firstWrongLetter yX1_firstWrongLetter ∈ xAL := xAL_1 136 rfl rfl
theorem kc_X1_firstWrongLetter : Cond.code yX1_firstWrongLetter cX1_firstWrongLetter 4 (some .int) ∈ xAL := xAL_1 137 rfl rfl
theorem km_X1_19 : Cond.methodLink RX1 19 yX1_letterAt ∈ xAL := xAL_1 138 rfl rfl
theorem ki_X1_letterAt : Cond.instanceMethod yX1_letterAt ∈ xAL := xAL_1 140 rfl rfl
theorem kc_X1_letterAt : Cond.code yX1_letterAt cX1_letterAt 2 (some .int) ∈ xAL := xAL_1 141 rfl rfl
theorem km_X1_23 : Cond.methodLink RX1 23 yX1_shapeBehind ∈ xAL := xAL_1 142 rfl rfl
theorem kst_X1_shapeBehind : Cond.static yX1_shapeBehind ∈ xAL := xAL_1 143 rfl rfl
theorem kc_X1_shapeBehind : Cond.code yX1_shapeBehind cX1_shapeBehind 1 (some (.object "java/lang/String")) ∈ xAL := xAL_1 144 rfl rfl
theorem ksr_X1_52 : Cond.stringRef RX1 52 "kdd;" ∈ lw_tbl := xTB_1 145 rfl
theorem ksr_X1_54 : Cond.stringRef RX1 54 "dd;" ∈ lw_tbl := xTB_1 146 rfl
theorem ksr_X1_56 : Cond.stringRef RX1 56 "ddd;" ∈ lw_tbl := xTB_1 147 rfl
theorem ksr_X1_58 : Cond.stringRef RX1 58 "d;" ∈ lw_tbl := xTB_1 148 rfl
theorem ksr_X1_60 : Cond.stringRef RX1 60 "" ∈ lw_tbl := xTB_1 149 rfl
theorem km_X1_27 : Cond.methodLink RX1 27 yJ0_isEmpty_aae02 ∈ xAL := xAL_1 150 rfl rfl
theorem ki_J0_isEmpty_aae02 : Cond.instanceMethod yJ0_isEmpty_aae02 ∈ xAL := xAL_1 151 rfl rfl
theorem kse_J0_isEmpty_aae02 : Cond.selects RJ0 yJ0_isEmpty_aae02 yJ0_isEmpty_aae02 ∈ xAL := xAL_1 152 rfl rfl
theorem kc_J0_isEmpty_aae02 : Cond.code yJ0_isEmpty_aae02 cJ0_isEmpty_aae02 1 (some .boolean) ∈ xAL := xAL_1 153 rfl rfl
theorem km_X1_33 : Cond.methodLink RX1 33 yJ0_length_8abf5 ∈ xAL := xAL_1 154 rfl rfl
theorem ki_J0_length_8abf5 : Cond.instanceMethod yJ0_length_8abf5 ∈ xAL := xAL_1 155 rfl rfl
theorem kse_J0_length_8abf5 : Cond.selects RJ0 yJ0_length_8abf5 yJ0_length_8abf5 ∈ xAL := xAL_1 156 rfl rfl
theorem kc_J0_length_8abf5 : Cond.code yJ0_length_8abf5 cJ0_length_8abf5 1 (some .int) ∈ xAL := xAL_1 157 rfl rfl
theorem km_J0_335 : Cond.methodLink RJ0 335 yJ0_coder_7d493 ∈ xAL := xAL_1 158 rfl rfl
theorem ki_J0_coder_7d493 : Cond.instanceMethod yJ0_coder_7d493 ∈ xAL := xAL_1 159 rfl rfl
theorem kse_J0_coder_7d493 : Cond.selects RJ0 yJ0_coder_7d493 yJ0_coder_7d493 ∈ xAL := xAL_1 160 rfl rfl
theorem kc_J0_coder_7d493 : Cond.code yJ0_coder_7d493 cJ0_coder_7d493 1 (some .byte) ∈ xAL := xAL_1 161 rfl rfl
theorem kf_J0_38 : Cond.fieldLink RJ0 38 "java/lang/String" "COMPACT_STRINGS" "Z" ∈ xAL := xAL_1 162 rfl rfl
theorem kls_J0_COMPACT_STRINGSS_ : Cond.laysStatic RJ0 "COMPACT_STRINGS" "Z" ∈ lw_tbl := xTB_1 163 rfl
theorem km_X1_37 : Cond.methodLink RX1 37 yJ0_charAt_5068e ∈ xAL := xAL_1 164 rfl rfl
theorem ki_J0_charAt_5068e : Cond.instanceMethod yJ0_charAt_5068e ∈ xAL := xAL_1 165 rfl rfl
theorem kse_J0_charAt_5068e : Cond.selects RJ0 yJ0_charAt_5068e yJ0_charAt_5068e ∈ xAL := xAL_1 166 rfl rfl
theorem kc_J0_charAt_5068e : Cond.code yJ0_charAt_5068e cJ0_charAt_5068e 2 (some .char) ∈ xAL := xAL_1 167 rfl rfl
theorem km_J0_492 : Cond.methodLink RJ0 492 yJ0_isLatin1_aae02 ∈ xAL := xAL_1 168 rfl rfl
theorem ki_J0_isLatin1_aae02 : Cond.instanceMethod yJ0_isLatin1_aae02 ∈ xAL := xAL_1 169 rfl rfl
theorem kse_J0_isLatin1_aae02 : Cond.selects RJ0 yJ0_isLatin1_aae02 yJ0_isLatin1_aae02 ∈ xAL := xAL_1 170 rfl rfl
theorem kc_J0_isLatin1_aae02 : Cond.code yJ0_isLatin1_aae02 cJ0_isLatin1_aae02 1 (some .boolean) ∈ xAL := xAL_1 171 rfl rfl
theorem km_J0_495 : Cond.methodLink RJ0 495 yJ1_charAt_3b067 ∈ xAL := xAL_1 172 rfl rfl
theorem kst_J1_charAt_3b067 : Cond.static yJ1_charAt_3b067 ∈ xAL := xAL_1 173 rfl rfl
theorem kc_J1_charAt_3b067 : Cond.code yJ1_charAt_3b067 cJ1_charAt_3b067 2 (some .char) ∈ xAL := xAL_1 174 rfl rfl
theorem km_J1_9 : Cond.methodLink RJ1 9 yJ0_checkIndex_df160 ∈ xAL := xAL_1 175 rfl rfl
theorem kst_J0_checkIndex_df160 : Cond.static yJ0_checkIndex_df160 ∈ xAL := xAL_1 176 rfl rfl
theorem kc_J0_checkIndex_df160 : Cond.code yJ0_checkIndex_df160 cJ0_checkIndex_df160 2 none ∈ xAL := xAL_1 177 rfl rfl
theorem kf_J0_1053 : Cond.fieldLink RJ0 1053 "jdk/internal/util/Preconditions" "SIOOBE_FORMATTER" "Ljava/util/function/BiFunction;" ∈ xAL := xAL_1 178 rfl rfl
theorem kls_J3_SIOOBE_FORMATTERS_ : Cond.laysStatic RJ3 "SIOOBE_FORMATTER" "Ljava/util/function/BiFunction;" ∈ lw_tbl := xTB_1 179 rfl
theorem km_J0_1059 : Cond.methodLink RJ0 1059 yJ3_checkIndex_8e157 ∈ xAL := xAL_1 180 rfl rfl
theorem kst_J3_checkIndex_8e157 : Cond.static yJ3_checkIndex_8e157 ∈ xAL := xAL_1 181 rfl rfl
theorem kc_J3_checkIndex_8e157 : Cond.code yJ3_checkIndex_8e157 cJ3_checkIndex_8e157 3 (some .int) ∈ xAL := xAL_1 182 rfl rfl
theorem km_J0_498 : Cond.methodLink RJ0 498 yJ2_charAt_3b067 ∈ xAL := xAL_1 183 rfl rfl
theorem kst_J2_charAt_3b067 : Cond.static yJ2_charAt_3b067 ∈ xAL := xAL_1 184 rfl rfl
theorem kc_J2_charAt_3b067 : Cond.code yJ2_charAt_3b067 cJ2_charAt_3b067 2 (some .char) ∈ xAL := xAL_1 185 rfl rfl
theorem km_J2_67 : Cond.methodLink RJ2 67 yJ2_checkIndex_2214a ∈ xAL := xAL_1 186 rfl rfl
theorem kst_J2_checkIndex_2214a : Cond.static yJ2_checkIndex_2214a ∈ xAL := xAL_1 187 rfl rfl
theorem kc_J2_checkIndex_2214a : Cond.code yJ2_checkIndex_2214a cJ2_checkIndex_2214a 2 none ∈ xAL := xAL_1 188 rfl rfl
theorem km_J2_48 : Cond.methodLink RJ2 48 yJ2_length_9d52b ∈ xAL := xAL_1 189 rfl rfl
theorem kst_J2_length_9d52b : Cond.static yJ2_length_9d52b ∈ xAL := xAL_1 190 rfl rfl
theorem kc_J2_length_9d52b : Cond.code yJ2_length_9d52b cJ2_length_9d52b 1 (some .int) ∈ xAL := xAL_1 191 rfl rfl
theorem km_J2_414 : Cond.methodLink RJ2 414 yJ0_checkIndex_df160 ∈ xAL := xAL_1 192 rfl rfl
theorem km_J2_71 : Cond.methodLink RJ2 71 yJ2_getChar_3b067 ∈ xAL := xAL_1 193 rfl rfl
theorem kst_J2_getChar_3b067 : Cond.static yJ2_getChar_3b067 ∈ xAL := xAL_1 194 rfl rfl
theorem kc_J2_getChar_3b067 : Cond.code yJ2_getChar_3b067 cJ2_getChar_3b067 2 (some .char) ∈ xAL := xAL_1 195 rfl rfl
theorem kf_J2_44 : Cond.fieldLink RJ2 44 "java/lang/StringUTF16" "$assertionsDisabled" "Z" ∈ xAL := xAL_1 196 rfl rfl
theorem kls_J2_S_assertionsDisabledS_ : Cond.laysStatic RJ2 "$assertionsDisabled" "Z" ∈ lw_tbl := xTB_1 197 rfl
theorem kf_J2_59 : Cond.fieldLink RJ2 59 "java/lang/StringUTF16" "HI_BYTE_SHIFT" "I" ∈ xAL := xAL_1 198 rfl rfl
theorem kls_J2_HI_BYTE_SHIFTS_ : Cond.laysStatic RJ2 "HI_BYTE_SHIFT" "I" ∈ lw_tbl := xTB_1 199 rfl
theorem kf_J2_63 : Cond.fieldLink RJ2 63 "java/lang/StringUTF16" "LO_BYTE_SHIFT" "I" ∈ xAL := xAL_1 200 rfl rfl
theorem kls_J2_LO_BYTE_SHIFTS_ : Cond.laysStatic RJ2 "LO_BYTE_SHIFT" "I" ∈ lw_tbl := xTB_1 201 rfl
theorem km_X1_41 : Cond.methodLink RX1 41 yX1_fits ∈ xAL := xAL_1 202 rfl rfl
theorem kst_X1_fits : Cond.static yX1_fits ∈ xAL := xAL_1 203 rfl rfl
theorem kc_X1_fits : Cond.code yX1_fits cX1_fits 2 (some .boolean) ∈ xAL := xAL_1 204 rfl rfl
theorem km_X1_62 : Cond.methodLink RX1 62 yX1_kindOf ∈ xAL := xAL_1 205 rfl rfl
theorem kst_X1_kindOf : Cond.static yX1_kindOf ∈ xAL := xAL_1 206 rfl rfl
theorem kc_X1_kindOf : Cond.code yX1_kindOf cX1_kindOf 1 (some .int) ∈ xAL := xAL_1 207 rfl rfl
theorem ksr_X1_65 : Cond.stringRef RX1 65 "pwsmtl" ∈ lw_tbl := xTB_1 208 rfl
theorem km_X1_67 : Cond.methodLink RX1 67 yJ0_indexOf_0f7a4 ∈ xAL := xAL_1 209 rfl rfl
theorem ki_J0_indexOf_0f7a4 : Cond.instanceMethod yJ0_indexOf_0f7a4 ∈ xAL := xAL_1 210 rfl rfl
theorem kse_J0_indexOf_0f7a4 : Cond.selects RJ0 yJ0_indexOf_0f7a4 yJ0_indexOf_0f7a4 ∈ xAL := xAL_1 211 rfl rfl
theorem kc_J0_indexOf_0f7a4 : Cond.code yJ0_indexOf_0f7a4 cJ0_indexOf_0f7a4 2 (some .int) ∈ xAL := xAL_1 212 rfl rfl
theorem km_J0_633 : Cond.methodLink RJ0 633 yJ0_indexOf_7cf53 ∈ xAL := xAL_1 213 rfl rfl
theorem ki_J0_indexOf_7cf53 : Cond.instanceMethod yJ0_indexOf_7cf53 ∈ xAL := xAL_1 214 rfl rfl
theorem kse_J0_indexOf_7cf53 : Cond.selects RJ0 yJ0_indexOf_7cf53 yJ0_indexOf_7cf53 ∈ xAL := xAL_1 215 rfl rfl
theorem kc_J0_indexOf_7cf53 : Cond.code yJ0_indexOf_7cf53 cJ0_indexOf_7cf53 3 (some .int) ∈ xAL := xAL_1 216 rfl rfl
theorem km_J0_505 : Cond.methodLink RJ0 505 yJ0_length_8abf5 ∈ xAL := xAL_1 217 rfl rfl
theorem km_J0_637 : Cond.methodLink RJ0 637 yJ1_indexOf_4cfef ∈ xAL := xAL_1 218 rfl rfl
theorem kst_J1_indexOf_4cfef : Cond.static yJ1_indexOf_4cfef ∈ xAL := xAL_1 219 rfl rfl
theorem kc_J1_indexOf_4cfef : Cond.code yJ1_indexOf_4cfef cJ1_indexOf_4cfef 4 (some .int) ∈ xAL := xAL_1 220 rfl rfl
theorem km_J1_88 : Cond.methodLink RJ1 88 yJ1_canEncode_9a6ad ∈ xAL := xAL_1 221 rfl rfl
theorem kst_J1_canEncode_9a6ad : Cond.static yJ1_canEncode_9a6ad ∈ xAL := xAL_1 222 rfl rfl
theorem kc_J1_canEncode_9a6ad : Cond.code yJ1_canEncode_9a6ad cJ1_canEncode_9a6ad 1 (some .boolean) ∈ xAL := xAL_1 223 rfl rfl
theorem km_J1_92 : Cond.methodLink RJ1 92 yJ9_max_7cf53 ∈ xAL := xAL_1 224 rfl rfl
theorem kst_J9_max_7cf53 : Cond.static yJ9_max_7cf53 ∈ xAL := xAL_1 225 rfl rfl
theorem kc_J9_max_7cf53 : Cond.code yJ9_max_7cf53 cJ9_max_7cf53 2 (some .int) ∈ xAL := xAL_1 226 rfl rfl
theorem km_J1_38 : Cond.methodLink RJ1 38 yJ9_min_7cf53 ∈ xAL := xAL_1 227 rfl rfl
theorem kst_J9_min_7cf53 : Cond.static yJ9_min_7cf53 ∈ xAL := xAL_1 228 rfl rfl
theorem kc_J9_min_7cf53 : Cond.code yJ9_min_7cf53 cJ9_min_7cf53 2 (some .int) ∈ xAL := xAL_1 229 rfl rfl
theorem km_J1_95 : Cond.methodLink RJ1 95 yJ1_indexOfChar_4cfef ∈ xAL := xAL_1 230 rfl rfl
theorem kst_J1_indexOfChar_4cfef : Cond.static yJ1_indexOfChar_4cfef ∈ xAL := xAL_1 231 rfl rfl
theorem kc_J1_indexOfChar_4cfef : Cond.code yJ1_indexOfChar_4cfef cJ1_indexOfChar_4cfef 6 (some .int) ∈ xAL := xAL_1 232 rfl rfl
theorem km_J0_640 : Cond.methodLink RJ0 640 yJ2_indexOf_4cfef ∈ xAL := xAL_1 233 rfl rfl
theorem kst_J2_indexOf_4cfef : Cond.static yJ2_indexOf_4cfef ∈ xAL := xAL_1 234 rfl rfl
theorem kc_J2_indexOf_4cfef : Cond.code yJ2_indexOf_4cfef cJ2_indexOf_4cfef 4 (some .int) ∈ xAL := xAL_1 235 rfl rfl
theorem km_J2_224 : Cond.methodLink RJ2 224 yJ9_max_7cf53 ∈ xAL := xAL_1 236 rfl rfl
theorem km_J2_183 : Cond.methodLink RJ2 183 yJ9_min_7cf53 ∈ xAL := xAL_1 237 rfl rfl
theorem kk_J2_227 : Cond.constant RJ2 227 (65536) ∈ xAL := xAL_1 238 rfl rfl
theorem km_J2_228 : Cond.methodLink RJ2 228 yJ2_indexOfChar_4cfef ∈ xAL := xAL_1 239 rfl rfl
theorem kst_J2_indexOfChar_4cfef : Cond.static yJ2_indexOfChar_4cfef ∈ xAL := xAL_2 0 rfl rfl
theorem kc_J2_indexOfChar_4cfef : Cond.code yJ2_indexOfChar_4cfef cJ2_indexOfChar_4cfef 4 (some .int) ∈ xAL := xAL_2 1 rfl rfl
theorem km_J2_96 : Cond.methodLink RJ2 96 yJ2_checkBoundsBeginEnd_d044e ∈ xAL := xAL_2 2 rfl rfl
theorem kst_J2_checkBoundsBeginEnd_d044e : Cond.static yJ2_checkBoundsBeginEnd_d044e ∈ xAL := xAL_2 3 rfl rfl
theorem kc_J2_checkBoundsBeginEnd_d044e : Cond.code yJ2_checkBoundsBeginEnd_d044e cJ2_checkBoundsBeginEnd_d044e 3 none ∈ xAL := xAL_2 4 rfl rfl
theorem km_J2_241 : Cond.methodLink RJ2 241 yJ0_checkBoundsBeginEnd_23922 ∈ xAL := xAL_2 5 rfl rfl
theorem kst_J0_checkBoundsBeginEnd_23922 : Cond.static yJ0_checkBoundsBeginEnd_23922 ∈ xAL := xAL_2 6 rfl rfl
theorem kc_J0_checkBoundsBeginEnd_23922 : Cond.code yJ0_checkBoundsBeginEnd_23922 cJ0_checkBoundsBeginEnd_23922 3 none ∈ xAL := xAL_2 7 rfl rfl
theorem km_J0_1062 : Cond.methodLink RJ0 1062 yJ3_checkFromToIndex_8c36e ∈ xAL := xAL_2 8 rfl rfl
theorem kst_J3_checkFromToIndex_8c36e : Cond.static yJ3_checkFromToIndex_8c36e ∈ xAL := xAL_2 9 rfl rfl
theorem kc_J3_checkFromToIndex_8c36e : Cond.code yJ3_checkFromToIndex_8c36e cJ3_checkFromToIndex_8c36e 4 (some .int) ∈ xAL := xAL_2 10 rfl rfl
theorem km_J2_244 : Cond.methodLink RJ2 244 yJ2_indexOfCharUnsafe_4cfef ∈ xAL := xAL_2 11 rfl rfl
theorem kst_J2_indexOfCharUnsafe_4cfef : Cond.static yJ2_indexOfCharUnsafe_4cfef ∈ xAL := xAL_2 12 rfl rfl
theorem kc_J2_indexOfCharUnsafe_4cfef : Cond.code yJ2_indexOfCharUnsafe_4cfef cJ2_indexOfCharUnsafe_4cfef 5 (some .int) ∈ xAL := xAL_2 13 rfl rfl
theorem km_J2_232 : Cond.methodLink RJ2 232 yJ2_indexOfSupplementary_4cfef ∈ xAL := xAL_2 14 rfl rfl
theorem kst_J2_indexOfSupplementary_4cfef : Cond.static yJ2_indexOfSupplementary_4cfef ∈ xAL := xAL_2 15 rfl rfl
theorem kc_J2_indexOfSupplementary_4cfef : Cond.code yJ2_indexOfSupplementary_4cfef cJ2_indexOfSupplementary_4cfef 7 (some .int) ∈ xAL := xAL_2 16 rfl rfl
theorem km_J2_164 : Cond.methodLink RJ2 164 yJ11_isValidCodePoint_9a6ad ∈ xAL := xAL_2 17 rfl rfl
theorem kst_J11_isValidCodePoint_9a6ad : Cond.static yJ11_isValidCodePoint_9a6ad ∈ xAL := xAL_2 18 rfl rfl
theorem kc_J11_isValidCodePoint_9a6ad : Cond.code yJ11_isValidCodePoint_9a6ad cJ11_isValidCodePoint_9a6ad 2 (some .boolean) ∈ xAL := xAL_2 19 rfl rfl
theorem km_J2_157 : Cond.methodLink RJ2 157 yJ11_highSurrogate_5068e ∈ xAL := xAL_2 20 rfl rfl
theorem kst_J11_highSurrogate_5068e : Cond.static yJ11_highSurrogate_5068e ∈ xAL := xAL_2 21 rfl rfl
theorem kc_J11_highSurrogate_5068e : Cond.code yJ11_highSurrogate_5068e cJ11_highSurrogate_5068e 1 (some .char) ∈ xAL := xAL_2 22 rfl rfl
theorem kk_J11_110 : Cond.constant RJ11 110 (55232) ∈ xAL := xAL_2 23 rfl rfl
theorem km_J2_161 : Cond.methodLink RJ2 161 yJ11_lowSurrogate_5068e ∈ xAL := xAL_2 24 rfl rfl
theorem kst_J11_lowSurrogate_5068e : Cond.static yJ11_lowSurrogate_5068e ∈ xAL := xAL_2 25 rfl rfl
theorem kc_J11_lowSurrogate_5068e : Cond.code yJ11_lowSurrogate_5068e cJ11_lowSurrogate_5068e 1 (some .char) ∈ xAL := xAL_2 26 rfl rfl
theorem kk_J11_76 : Cond.constant RJ11 76 (56320) ∈ xAL := xAL_2 27 rfl rfl
theorem km_X2_63 : Cond.methodLink RX2 63 yX2_thoughtOfNow ∈ xAL := xAL_2 28 rfl rfl
theorem ki_X2_thoughtOfNow : Cond.instanceMethod yX2_thoughtOfNow ∈ xAL := xAL_2 30 rfl rfl
theorem kc_X2_thoughtOfNow : Cond.code yX2_thoughtOfNow cX2_thoughtOfNow 1 (some (.object "WellOfTheSilent$Hill")) ∈ xAL := xAL_2 31 rfl rfl
theorem km_X2_77 : Cond.methodLink RX2 77 yX0_copyFrom ∈ xAL := xAL_2 32 rfl rfl
theorem ki_X0_copyFrom : Cond.instanceMethod yX0_copyFrom ∈ xAL := xAL_2 33 rfl rfl
theorem kse_X0_copyFrom : Cond.selects RX0 yX0_copyFrom yX0_copyFrom ∈ xAL := xAL_2 34 rfl rfl
theorem kc_X0_copyFrom : Cond.code yX0_copyFrom cX0_copyFrom 3 none ∈ xAL := xAL_2 35 rfl rfl
theorem km_X2_67 : Cond.methodLink RX2 67 yX1_firstWrongStatement ∈ xAL := xAL_2 36 rfl rfl
theorem ki_X1_firstWrongStatement : Cond.instanceMethod yX1_firstWrongStatement ∈ xAL := xAL_2 37 rfl rfl
theorem kse_X1_firstWrongStatement : Cond.selects RX1 yX1_firstWrongStatement yX1_firstWrongStatement ∈ xAL := xAL_2 38 rfl rfl
theorem kc_X1_firstWrongStatement : Cond.code yX1_firstWrongStatement cX1_firstWrongStatement 3 (some .int) ∈ xAL := xAL_2 39 rfl rfl
theorem km_X1_45 : Cond.methodLink RX1 45 yX1_letCome ∈ xAL := xAL_2 40 rfl rfl
theorem ki_X1_letCome : Cond.instanceMethod yX1_letCome ∈ xAL := xAL_2 42 rfl rfl
theorem kc_X1_letCome : Cond.code yX1_letCome cX1_letCome 6 (some .boolean) ∈ xAL := xAL_2 43 rfl rfl
theorem km_X1_49 : Cond.methodLink RX1 49 yX1_digitAt ∈ xAL := xAL_2 44 rfl rfl
theorem ki_X1_digitAt : Cond.instanceMethod yX1_digitAt ∈ xAL := xAL_2 46 rfl rfl
theorem kc_X1_digitAt : Cond.code yX1_digitAt cX1_digitAt 2 (some .int) ∈ xAL := xAL_2 47 rfl rfl
theorem km_X1_70 : Cond.methodLink RX1 70 yX1_twoDigitsAt ∈ xAL := xAL_2 48 rfl rfl
theorem ki_X1_twoDigitsAt : Cond.instanceMethod yX1_twoDigitsAt ∈ xAL := xAL_2 50 rfl rfl
theorem kc_X1_twoDigitsAt : Cond.code yX1_twoDigitsAt cX1_twoDigitsAt 2 (some .int) ∈ xAL := xAL_2 51 rfl rfl
theorem km_X1_73 : Cond.methodLink RX1 73 yX0_addPerson ∈ xAL := xAL_2 52 rfl rfl
theorem ki_X0_addPerson : Cond.instanceMethod yX0_addPerson ∈ xAL := xAL_2 53 rfl rfl
theorem kse_X0_addPerson : Cond.selects RX0 yX0_addPerson yX0_addPerson ∈ xAL := xAL_2 54 rfl rfl
theorem kc_X0_addPerson : Cond.code yX0_addPerson cX0_addPerson 4 (some .boolean) ∈ xAL := xAL_2 55 rfl rfl
theorem km_X1_79 : Cond.methodLink RX1 79 yX0_setFriend ∈ xAL := xAL_2 56 rfl rfl
theorem ki_X0_setFriend : Cond.instanceMethod yX0_setFriend ∈ xAL := xAL_2 57 rfl rfl
theorem kse_X0_setFriend : Cond.selects RX0 yX0_setFriend yX0_setFriend ∈ xAL := xAL_2 58 rfl rfl
theorem kc_X0_setFriend : Cond.code yX0_setFriend cX0_setFriend 3 (some .boolean) ∈ xAL := xAL_2 59 rfl rfl
theorem km_X0_49 : Cond.methodLink RX0 49 yX0_isThere ∈ xAL := xAL_2 60 rfl rfl
theorem ki_X0_isThere : Cond.instanceMethod yX0_isThere ∈ xAL := xAL_2 61 rfl rfl
theorem kse_X0_isThere : Cond.selects RX0 yX0_isThere yX0_isThere ∈ xAL := xAL_2 62 rfl rfl
theorem kc_X0_isThere : Cond.code yX0_isThere cX0_isThere 2 (some .boolean) ∈ xAL := xAL_2 63 rfl rfl
theorem km_X1_83 : Cond.methodLink RX1 83 yX0_setHas ∈ xAL := xAL_2 64 rfl rfl
theorem ki_X0_setHas : Cond.instanceMethod yX0_setHas ∈ xAL := xAL_2 65 rfl rfl
theorem kse_X0_setHas : Cond.selects RX0 yX0_setHas yX0_setHas ∈ xAL := xAL_2 66 rfl rfl
theorem kc_X0_setHas : Cond.code yX0_setHas cX0_setHas 3 (some .boolean) ∈ xAL := xAL_2 67 rfl rfl
theorem km_X1_86 : Cond.methodLink RX1 86 yX0_setWater ∈ xAL := xAL_2 68 rfl rfl
theorem ki_X0_setWater : Cond.instanceMethod yX0_setWater ∈ xAL := xAL_2 69 rfl rfl
theorem kse_X0_setWater : Cond.selects RX0 yX0_setWater yX0_setWater ∈ xAL := xAL_2 70 rfl rfl
theorem kc_X0_setWater : Cond.code yX0_setWater cX0_setWater 2 (some .boolean) ∈ xAL := xAL_2 71 rfl rfl
theorem km_X1_90 : Cond.methodLink RX1 90 yX0_setFlow ∈ xAL := xAL_2 72 rfl rfl
theorem ki_X0_setFlow : Cond.instanceMethod yX0_setFlow ∈ xAL := xAL_2 73 rfl rfl
theorem kse_X0_setFlow : Cond.selects RX0 yX0_setFlow yX0_setFlow ∈ xAL := xAL_2 74 rfl rfl
theorem kc_X0_setFlow : Cond.code yX0_setFlow cX0_setFlow 2 (some .boolean) ∈ xAL := xAL_2 75 rfl rfl
theorem km_X1_93 : Cond.methodLink RX1 93 yX0_letSpeak ∈ xAL := xAL_2 76 rfl rfl
theorem ki_X0_letSpeak : Cond.instanceMethod yX0_letSpeak ∈ xAL := xAL_2 77 rfl rfl
theorem kse_X0_letSpeak : Cond.selects RX0 yX0_letSpeak yX0_letSpeak ∈ xAL := xAL_2 78 rfl rfl
theorem kc_X0_letSpeak : Cond.code yX0_letSpeak cX0_letSpeak 2 (some .boolean) ∈ xAL := xAL_2 79 rfl rfl
theorem km_X1_96 : Cond.methodLink RX1 96 yX0_mayPass ∈ xAL := xAL_2 80 rfl rfl
theorem ki_X0_mayPass : Cond.instanceMethod yX0_mayPass ∈ xAL := xAL_2 81 rfl rfl
theorem kse_X0_mayPass : Cond.selects RX0 yX0_mayPass yX0_mayPass ∈ xAL := xAL_2 82 rfl rfl
theorem kc_X0_mayPass : Cond.code yX0_mayPass cX0_mayPass 2 (some .boolean) ∈ xAL := xAL_2 83 rfl rfl
theorem km_X1_99 : Cond.methodLink RX1 99 yX0_passHours ∈ xAL := xAL_2 84 rfl rfl
theorem ki_X0_passHours : Cond.instanceMethod yX0_passHours ∈ xAL := xAL_2 85 rfl rfl
theorem kse_X0_passHours : Cond.selects RX0 yX0_passHours yX0_passHours ∈ xAL := xAL_2 86 rfl rfl
theorem kc_X0_passHours : Cond.code yX0_passHours cX0_passHours 3 none ∈ xAL := xAL_2 87 rfl rfl
theorem km_X0_62 : Cond.methodLink RX0 62 yX0_passHour ∈ xAL := xAL_2 88 rfl rfl
theorem ki_X0_passHour : Cond.instanceMethod yX0_passHour ∈ xAL := xAL_2 89 rfl rfl
theorem kse_X0_passHour : Cond.selects RX0 yX0_passHour yX0_passHour ∈ xAL := xAL_2 90 rfl rfl
theorem kc_X0_passHour : Cond.code yX0_passHour cX0_passHour 4 none ∈ xAL := xAL_2 91 rfl rfl
theorem km_X0_66 : Cond.methodLink RX0 66 yX0_beginDay ∈ xAL := xAL_2 92 rfl rfl
theorem ki_X0_beginDay : Cond.instanceMethod yX0_beginDay ∈ xAL := xAL_2 94 rfl rfl
theorem kc_X0_beginDay : Cond.code yX0_beginDay cX0_beginDay 1 none ∈ xAL := xAL_2 95 rfl rfl
theorem km_X0_53 : Cond.methodLink RX0 53 yJ9_min_7cf53 ∈ xAL := xAL_2 96 rfl rfl
theorem km_X0_69 : Cond.methodLink RX0 69 yX0_letSpeakAt ∈ xAL := xAL_2 97 rfl rfl
theorem ki_X0_letSpeakAt : Cond.instanceMethod yX0_letSpeakAt ∈ xAL := xAL_2 99 rfl rfl
theorem kc_X0_letSpeakAt : Cond.code yX0_letSpeakAt cX0_letSpeakAt 3 none ∈ xAL := xAL_2 100 rfl rfl
theorem km_X0_59 : Cond.methodLink RX0 59 yX0_isHushed ∈ xAL := xAL_2 101 rfl rfl
theorem ki_X0_isHushed : Cond.instanceMethod yX0_isHushed ∈ xAL := xAL_2 102 rfl rfl
theorem kse_X0_isHushed : Cond.selects RX0 yX0_isHushed yX0_isHushed ∈ xAL := xAL_2 103 rfl rfl
theorem kc_X0_isHushed : Cond.code yX0_isHushed cX0_isHushed 2 (some .boolean) ∈ xAL := xAL_2 104 rfl rfl
theorem km_X0_81 : Cond.methodLink RX0 81 yX0_speakingHour ∈ xAL := xAL_2 105 rfl rfl
theorem ki_X0_speakingHour : Cond.instanceMethod yX0_speakingHour ∈ xAL := xAL_2 106 rfl rfl
theorem kse_X0_speakingHour : Cond.selects RX0 yX0_speakingHour yX0_speakingHour ∈ xAL := xAL_2 107 rfl rfl
theorem kc_X0_speakingHour : Cond.code yX0_speakingHour cX0_speakingHour 4 (some .int) ∈ xAL := xAL_2 108 rfl rfl
theorem km_X0_72 : Cond.methodLink RX0 72 yX0_mayDraw ∈ xAL := xAL_2 109 rfl rfl
theorem ki_X0_mayDraw : Cond.instanceMethod yX0_mayDraw ∈ xAL := xAL_2 111 rfl rfl
theorem kc_X0_mayDraw : Cond.code yX0_mayDraw cX0_mayDraw 3 (some .boolean) ∈ xAL := xAL_2 112 rfl rfl
theorem km_X0_85 : Cond.methodLink RX0 85 yX0_hasSpoken ∈ xAL := xAL_2 113 rfl rfl
theorem ki_X0_hasSpoken : Cond.instanceMethod yX0_hasSpoken ∈ xAL := xAL_2 114 rfl rfl
theorem kse_X0_hasSpoken : Cond.selects RX0 yX0_hasSpoken yX0_hasSpoken ∈ xAL := xAL_2 115 rfl rfl
theorem kc_X0_hasSpoken : Cond.code yX0_hasSpoken cX0_hasSpoken 2 (some .boolean) ∈ xAL := xAL_2 116 rfl rfl
theorem km_X0_88 : Cond.methodLink RX0 88 yX0_drawsThoughSpoken ∈ xAL := xAL_2 117 rfl rfl
theorem ki_X0_drawsThoughSpoken : Cond.instanceMethod yX0_drawsThoughSpoken ∈ xAL := xAL_2 118 rfl rfl
theorem kse_X0_drawsThoughSpoken : Cond.selects RX0 yX0_drawsThoughSpoken yX0_drawsThoughSpoken ∈ xAL := xAL_2 119 rfl rfl
theorem kc_X0_drawsThoughSpoken : Cond.code yX0_drawsThoughSpoken cX0_drawsThoughSpoken 2 (some .boolean) ∈ xAL := xAL_2 120 rfl rfl
theorem km_X0_91 : Cond.methodLink RX0 91 yX0_hasDrawn ∈ xAL := xAL_2 121 rfl rfl
theorem ki_X0_hasDrawn : Cond.instanceMethod yX0_hasDrawn ∈ xAL := xAL_2 122 rfl rfl
theorem kse_X0_hasDrawn : Cond.selects RX0 yX0_hasDrawn yX0_hasDrawn ∈ xAL := xAL_2 123 rfl rfl
theorem kc_X0_hasDrawn : Cond.code yX0_hasDrawn cX0_hasDrawn 2 (some .boolean) ∈ xAL := xAL_2 124 rfl rfl
theorem km_X0_75 : Cond.methodLink RX0 75 yX0_letDraw ∈ xAL := xAL_2 125 rfl rfl
theorem ki_X0_letDraw : Cond.instanceMethod yX0_letDraw ∈ xAL := xAL_2 127 rfl rfl
theorem kc_X0_letDraw : Cond.code yX0_letDraw cX0_letDraw 4 none ∈ xAL := xAL_2 128 rfl rfl
theorem km_X0_94 : Cond.methodLink RX0 94 yX0_givesToFriend ∈ xAL := xAL_2 129 rfl rfl
theorem ki_X0_givesToFriend : Cond.instanceMethod yX0_givesToFriend ∈ xAL := xAL_2 131 rfl rfl
theorem kc_X0_givesToFriend : Cond.code yX0_givesToFriend cX0_givesToFriend 3 (some .boolean) ∈ xAL := xAL_2 132 rfl rfl
theorem km_X0_78 : Cond.methodLink RX0 78 yX0_letDrink ∈ xAL := xAL_2 133 rfl rfl
theorem ki_X0_letDrink : Cond.instanceMethod yX0_letDrink ∈ xAL := xAL_2 135 rfl rfl
theorem kc_X0_letDrink : Cond.code yX0_letDrink cX0_letDrink 2 none ∈ xAL := xAL_2 136 rfl rfl
theorem km_X0_97 : Cond.methodLink RX0 97 yX0_drinkOf ∈ xAL := xAL_2 137 rfl rfl
theorem ki_X0_drinkOf : Cond.instanceMethod yX0_drinkOf ∈ xAL := xAL_2 138 rfl rfl
theorem kse_X0_drinkOf : Cond.selects RX0 yX0_drinkOf yX0_drinkOf ∈ xAL := xAL_2 139 rfl rfl
theorem kc_X0_drinkOf : Cond.code yX0_drinkOf cX0_drinkOf 4 (some .int) ∈ xAL := xAL_2 140 rfl rfl
theorem km_X0_100 : Cond.methodLink RX0 100 yJ9_max_7cf53 ∈ xAL := xAL_2 141 rfl rfl
theorem km_X2_71 : Cond.methodLink RX2 71 yX1_statements ∈ xAL := xAL_2 142 rfl rfl
theorem ki_X1_statements : Cond.instanceMethod yX1_statements ∈ xAL := xAL_2 143 rfl rfl
theorem kse_X1_statements : Cond.selects RX1 yX1_statements yX1_statements ∈ xAL := xAL_2 144 rfl rfl
theorem kc_X1_statements : Cond.code yX1_statements cX1_statements 3 (some .int) ∈ xAL := xAL_2 145 rfl rfl
theorem km_X2_74 : Cond.methodLink RX2 74 yX1_forget ∈ xAL := xAL_2 146 rfl rfl
theorem ki_X1_forget : Cond.instanceMethod yX1_forget ∈ xAL := xAL_2 147 rfl rfl
theorem kse_X1_forget : Cond.selects RX1 yX1_forget yX1_forget ∈ xAL := xAL_2 148 rfl rfl
theorem kc_X1_forget : Cond.code yX1_forget cX1_forget 1 none ∈ xAL := xAL_2 149 rfl rfl
theorem km_L_23 : Cond.methodLink RL 23 yX2_person ∈ xAL := xAL_2 151 rfl rfl
theorem ki_X2_person : Cond.instanceMethod yX2_person ∈ xAL := xAL_2 152 rfl rfl
theorem kse_X2_person : Cond.selects RX2 yX2_person yX2_person ∈ xAL := xAL_2 153 rfl rfl
theorem kc_X2_person : Cond.code yX2_person cX2_person 3 (some .int) ∈ xAL := xAL_2 154 rfl rfl
theorem km_X2_81 : Cond.methodLink RX2 81 yX0_isThere ∈ xAL := xAL_2 155 rfl rfl
theorem km_X2_96 : Cond.methodLink RX2 96 yX0_hasSpoken ∈ xAL := xAL_2 156 rfl rfl
theorem km_X2_99 : Cond.methodLink RX2 99 yX0_hasDrawn ∈ xAL := xAL_2 157 rfl rfl
theorem km_X2_105 : Cond.methodLink RX2 105 yX0_speakingHour ∈ xAL := xAL_2 158 rfl rfl
theorem km_X2_108 : Cond.methodLink RX2 108 yX0_drinkOf ∈ xAL := xAL_2 159 rfl rfl
theorem km_L_28 : Cond.methodLink RL 28 yX2_speaks ∈ xAL := xAL_2 160 rfl rfl
theorem ki_X2_speaks : Cond.instanceMethod yX2_speaks ∈ xAL := xAL_2 161 rfl rfl
theorem kse_X2_speaks : Cond.selects RX2 yX2_speaks yX2_speaks ∈ xAL := xAL_2 162 rfl rfl
theorem kc_X2_speaks : Cond.code yX2_speaks cX2_speaks 2 (some .int) ∈ xAL := xAL_2 163 rfl rfl
theorem km_X2_111 : Cond.methodLink RX2 111 yX0_letSpeak ∈ xAL := xAL_2 164 rfl rfl
theorem km_X2_117 : Cond.methodLink RX2 117 yJ6_bitCount_0f7a4 ∈ xAL := xAL_2 165 rfl rfl
theorem kst_J6_bitCount_0f7a4 : Cond.static yJ6_bitCount_0f7a4 ∈ xAL := xAL_2 166 rfl rfl
theorem kc_J6_bitCount_0f7a4 : Cond.code yJ6_bitCount_0f7a4 cJ6_bitCount_0f7a4 1 (some .int) ∈ xAL := xAL_2 167 rfl rfl
theorem kk_J6_265 : Cond.constant RJ6 265 (1431655765) ∈ xAL := xAL_2 168 rfl rfl
theorem kk_J6_266 : Cond.constant RJ6 266 (858993459) ∈ xAL := xAL_2 169 rfl rfl
theorem kk_J6_267 : Cond.constant RJ6 267 (252645135) ∈ xAL := xAL_2 170 rfl rfl
theorem km_L_32 : Cond.methodLink RL 32 yX2_befriends ∈ xAL := xAL_2 171 rfl rfl
theorem ki_X2_befriends : Cond.instanceMethod yX2_befriends ∈ xAL := xAL_2 172 rfl rfl
theorem kse_X2_befriends : Cond.selects RX2 yX2_befriends yX2_befriends ∈ xAL := xAL_2 173 rfl rfl
theorem kc_X2_befriends : Cond.code yX2_befriends cX2_befriends 4 (some .int) ∈ xAL := xAL_2 174 rfl rfl
theorem km_X2_122 : Cond.methodLink RX2 122 yX0_setFriend ∈ xAL := xAL_2 175 rfl rfl
theorem km_L_36 : Cond.methodLink RL 36 yX2_pours ∈ xAL := xAL_2 176 rfl rfl
theorem ki_X2_pours : Cond.instanceMethod yX2_pours ∈ xAL := xAL_2 177 rfl rfl
theorem kse_X2_pours : Cond.selects RX2 yX2_pours yX2_pours ∈ xAL := xAL_2 178 rfl rfl
theorem kc_X2_pours : Cond.code yX2_pours cX2_pours 5 (some .int) ∈ xAL := xAL_2 179 rfl rfl
theorem km_X2_126 : Cond.methodLink RX2 126 yX2_oneRefusal ∈ xAL := xAL_2 180 rfl rfl
theorem ki_X2_oneRefusal : Cond.instanceMethod yX2_oneRefusal ∈ xAL := xAL_2 182 rfl rfl
theorem kc_X2_oneRefusal : Cond.code yX2_oneRefusal cX2_oneRefusal 4 (some .int) ∈ xAL := xAL_2 183 rfl rfl
theorem km_L_40 : Cond.methodLink RL 40 yX2_cans ∈ xAL := xAL_2 184 rfl rfl
theorem ki_X2_cans : Cond.instanceMethod yX2_cans ∈ xAL := xAL_2 185 rfl rfl
theorem kse_X2_cans : Cond.selects RX2 yX2_cans yX2_cans ∈ xAL := xAL_2 186 rfl rfl
theorem kc_X2_cans : Cond.code yX2_cans cX2_cans 5 (some .int) ∈ xAL := xAL_2 187 rfl rfl
theorem km_L_44 : Cond.methodLink RL 44 yX2_water ∈ xAL := xAL_2 188 rfl rfl
theorem ki_X2_water : Cond.instanceMethod yX2_water ∈ xAL := xAL_2 189 rfl rfl
theorem kse_X2_water : Cond.selects RX2 yX2_water yX2_water ∈ xAL := xAL_2 190 rfl rfl
theorem kc_X2_water : Cond.code yX2_water cX2_water 4 (some .int) ∈ xAL := xAL_2 191 rfl rfl
theorem km_L_48 : Cond.methodLink RL 48 yX2_flow ∈ xAL := xAL_2 192 rfl rfl
theorem ki_X2_flow : Cond.instanceMethod yX2_flow ∈ xAL := xAL_2 193 rfl rfl
theorem kse_X2_flow : Cond.selects RX2 yX2_flow yX2_flow ∈ xAL := xAL_2 194 rfl rfl
theorem kc_X2_flow : Cond.code yX2_flow cX2_flow 4 (some .int) ∈ xAL := xAL_2 195 rfl rfl
theorem km_L_52 : Cond.methodLink RL 52 yX2_turn ∈ xAL := xAL_2 196 rfl rfl
theorem ki_X2_turn : Cond.instanceMethod yX2_turn ∈ xAL := xAL_2 197 rfl rfl
theorem kse_X2_turn : Cond.selects RX2 yX2_turn yX2_turn ∈ xAL := xAL_2 198 rfl rfl
theorem kc_X2_turn : Cond.code yX2_turn cX2_turn 6 (some .int) ∈ xAL := xAL_2 199 rfl rfl
theorem km_L_57 : Cond.methodLink RL 57 yX2_hours ∈ xAL := xAL_2 200 rfl rfl
theorem ki_X2_hours : Cond.instanceMethod yX2_hours ∈ xAL := xAL_2 201 rfl rfl
theorem kse_X2_hours : Cond.selects RX2 yX2_hours yX2_hours ∈ xAL := xAL_2 202 rfl rfl
theorem kc_X2_hours : Cond.code yX2_hours cX2_hours 3 (some .int) ∈ xAL := xAL_2 203 rfl rfl
theorem km_X2_135 : Cond.methodLink RX2 135 yX0_mayPass ∈ xAL := xAL_2 204 rfl rfl
theorem km_X2_138 : Cond.methodLink RX2 138 yX0_passHours ∈ xAL := xAL_2 205 rfl rfl
theorem km_L_61 : Cond.methodLink RL 61 yX2_hasThen ∈ xAL := xAL_2 206 rfl rfl
theorem ki_X2_hasThen : Cond.instanceMethod yX2_hasThen ∈ xAL := xAL_2 207 rfl rfl
theorem kse_X2_hasThen : Cond.selects RX2 yX2_hasThen yX2_hasThen ∈ xAL := xAL_2 208 rfl rfl
theorem kc_X2_hasThen : Cond.code yX2_hasThen cX2_hasThen 4 (some .int) ∈ xAL := xAL_2 209 rfl rfl
theorem km_X2_142 : Cond.methodLink RX2 142 yX2_thoughtBehind ∈ xAL := xAL_2 210 rfl rfl
theorem ki_X2_thoughtBehind : Cond.instanceMethod yX2_thoughtBehind ∈ xAL := xAL_2 212 rfl rfl
theorem kc_X2_thoughtBehind : Cond.code yX2_thoughtBehind cX2_thoughtBehind 3 (some (.object "WellOfTheSilent$Hill")) ∈ xAL := xAL_2 213 rfl rfl
theorem km_L_65 : Cond.methodLink RL 65 yX2_then ∈ xAL := xAL_2 214 rfl rfl
theorem ki_X2_then : Cond.instanceMethod yX2_then ∈ xAL := xAL_2 215 rfl rfl
theorem kse_X2_then : Cond.selects RX2 yX2_then yX2_then ∈ xAL := xAL_2 216 rfl rfl
theorem kc_X2_then : Cond.code yX2_then cX2_then 5 (some .int) ∈ xAL := xAL_2 217 rfl rfl
theorem km_X2_146 : Cond.methodLink RX2 146 yX2_whatRefusal ∈ xAL := xAL_2 218 rfl rfl
theorem kst_X2_whatRefusal : Cond.static yX2_whatRefusal ∈ xAL := xAL_2 219 rfl rfl
theorem kc_X2_whatRefusal : Cond.code yX2_whatRefusal cX2_whatRefusal 2 (some .int) ∈ xAL := xAL_2 220 rfl rfl
theorem km_X2_153 : Cond.methodLink RX2 153 yX0_together ∈ xAL := xAL_2 221 rfl rfl
theorem ki_X0_together : Cond.instanceMethod yX0_together ∈ xAL := xAL_2 222 rfl rfl
theorem kse_X0_together : Cond.selects RX0 yX0_together yX0_together ∈ xAL := xAL_2 223 rfl rfl
theorem kc_X0_together : Cond.code yX0_together cX0_together 3 (some .int) ∈ xAL := xAL_2 224 rfl rfl
theorem km_L_69 : Cond.methodLink RL 69 yX2_dry ∈ xAL := xAL_2 225 rfl rfl
theorem ki_X2_dry : Cond.instanceMethod yX2_dry ∈ xAL := xAL_2 226 rfl rfl
theorem kse_X2_dry : Cond.selects RX2 yX2_dry yX2_dry ∈ xAL := xAL_2 227 rfl rfl
theorem kc_X2_dry : Cond.code yX2_dry cX2_dry 4 (some .int) ∈ xAL := xAL_2 228 rfl rfl
theorem km_X2_156 : Cond.methodLink RX2 156 yX2_firstDry ∈ xAL := xAL_2 229 rfl rfl
theorem ki_X2_firstDry : Cond.instanceMethod yX2_firstDry ∈ xAL := xAL_2 231 rfl rfl
theorem kc_X2_firstDry : Cond.code yX2_firstDry cX2_firstDry 4 (some .int) ∈ xAL := xAL_2 232 rfl rfl
theorem km_X2_159 : Cond.methodLink RX2 159 yX0_passHour ∈ xAL := xAL_2 233 rfl rfl
theorem km_L_73 : Cond.methodLink RL 73 yX2_empty ∈ xAL := xAL_2 234 rfl rfl
theorem ki_X2_empty : Cond.instanceMethod yX2_empty ∈ xAL := xAL_2 235 rfl rfl
theorem kse_X2_empty : Cond.selects RX2 yX2_empty yX2_empty ∈ xAL := xAL_2 236 rfl rfl
theorem kc_X2_empty : Cond.code yX2_empty cX2_empty 3 (some .int) ∈ xAL := xAL_2 237 rfl rfl
theorem km_L_77 : Cond.methodLink RL 77 yX2_flowBest ∈ xAL := xAL_2 238 rfl rfl
theorem ki_X2_flowBest : Cond.instanceMethod yX2_flowBest ∈ xAL := xAL_2 239 rfl rfl
theorem kse_X2_flowBest : Cond.selects RX2 yX2_flowBest yX2_flowBest ∈ xAL := xAL_3 0 rfl rfl
theorem kc_X2_flowBest : Cond.code yX2_flowBest cX2_flowBest 5 (some .int) ∈ xAL := xAL_3 1 rfl rfl
theorem km_X2_162 : Cond.methodLink RX2 162 yX0_everybody ∈ xAL := xAL_3 2 rfl rfl
theorem ki_X0_everybody : Cond.instanceMethod yX0_everybody ∈ xAL := xAL_3 3 rfl rfl
theorem kse_X0_everybody : Cond.selects RX0 yX0_everybody yX0_everybody ∈ xAL := xAL_3 4 rfl rfl
theorem kc_X0_everybody : Cond.code yX0_everybody cX0_everybody 1 (some .int) ∈ xAL := xAL_3 5 rfl rfl
theorem km_X2_165 : Cond.methodLink RX2 165 yX0_staysWet ∈ xAL := xAL_3 6 rfl rfl
theorem ki_X0_staysWet : Cond.instanceMethod yX0_staysWet ∈ xAL := xAL_3 7 rfl rfl
theorem kse_X0_staysWet : Cond.selects RX0 yX0_staysWet yX0_staysWet ∈ xAL := xAL_3 8 rfl rfl
theorem kc_X0_staysWet : Cond.code yX0_staysWet cX0_staysWet 4 (some .boolean) ∈ xAL := xAL_3 9 rfl rfl
theorem km_X0_103 : Cond.methodLink RX0 103 yX0_dryPeople ∈ xAL := xAL_3 10 rfl rfl
theorem ki_X0_dryPeople : Cond.instanceMethod yX0_dryPeople ∈ xAL := xAL_3 12 rfl rfl
theorem kc_X0_dryPeople : Cond.code yX0_dryPeople cX0_dryPeople 3 (some .int) ∈ xAL := xAL_3 13 rfl rfl
theorem km_L_81 : Cond.methodLink RL 81 yX2_canBest ∈ xAL := xAL_3 14 rfl rfl
theorem ki_X2_canBest : Cond.instanceMethod yX2_canBest ∈ xAL := xAL_3 15 rfl rfl
theorem kse_X2_canBest : Cond.selects RX2 yX2_canBest yX2_canBest ∈ xAL := xAL_3 16 rfl rfl
theorem kc_X2_canBest : Cond.code yX2_canBest cX2_canBest 6 (some .int) ∈ xAL := xAL_3 17 rfl rfl
theorem km_L_85 : Cond.methodLink RL 85 yX2_friendBest ∈ xAL := xAL_3 18 rfl rfl
theorem ki_X2_friendBest : Cond.instanceMethod yX2_friendBest ∈ xAL := xAL_3 19 rfl rfl
theorem kse_X2_friendBest : Cond.selects RX2 yX2_friendBest yX2_friendBest ∈ xAL := xAL_3 20 rfl rfl
theorem kc_X2_friendBest : Cond.code yX2_friendBest cX2_friendBest 8 (some .int) ∈ xAL := xAL_3 21 rfl rfl
theorem km_X2_168 : Cond.methodLink RX2 168 yX0_leastHas ∈ xAL := xAL_3 22 rfl rfl
theorem ki_X0_leastHas : Cond.instanceMethod yX0_leastHas ∈ xAL := xAL_3 23 rfl rfl
theorem kse_X0_leastHas : Cond.selects RX0 yX0_leastHas yX0_leastHas ∈ xAL := xAL_3 24 rfl rfl
theorem kc_X0_leastHas : Cond.code yX0_leastHas cX0_leastHas 3 (some .int) ∈ xAL := xAL_3 25 rfl rfl
theorem km_L_89 : Cond.methodLink RL 89 yX2_hush ∈ xAL := xAL_3 26 rfl rfl
theorem ki_X2_hush : Cond.instanceMethod yX2_hush ∈ xAL := xAL_3 27 rfl rfl
theorem kse_X2_hush : Cond.selects RX2 yX2_hush yX2_hush ∈ xAL := xAL_3 28 rfl rfl
theorem kc_X2_hush : Cond.code yX2_hush cX2_hush 7 (some .int) ∈ xAL := xAL_3 29 rfl rfl
theorem km_L_93 : Cond.methodLink RL 93 yX2_fewest ∈ xAL := xAL_3 30 rfl rfl
theorem ki_X2_fewest : Cond.instanceMethod yX2_fewest ∈ xAL := xAL_3 31 rfl rfl
theorem kse_X2_fewest : Cond.selects RX2 yX2_fewest yX2_fewest ∈ xAL := xAL_3 32 rfl rfl
theorem kc_X2_fewest : Cond.code yX2_fewest cX2_fewest 6 (some .int) ∈ xAL := xAL_3 33 rfl rfl
theorem km_X2_175 : Cond.methodLink RX2 175 yX2_isWetWithHushed ∈ xAL := xAL_3 34 rfl rfl
theorem ki_X2_isWetWithHushed : Cond.instanceMethod yX2_isWetWithHushed ∈ xAL := xAL_3 36 rfl rfl
theorem kc_X2_isWetWithHushed : Cond.code yX2_isWetWithHushed cX2_isWetWithHushed 4 (some .boolean) ∈ xAL := xAL_3 37 rfl rfl
theorem km_L_97 : Cond.methodLink RL 97 yX2_word ∈ xAL := xAL_3 38 rfl rfl
theorem ki_X2_word : Cond.instanceMethod yX2_word ∈ xAL := xAL_3 39 rfl rfl
theorem kse_X2_word : Cond.selects RX2 yX2_word yX2_word ∈ xAL := xAL_3 40 rfl rfl
theorem kc_X2_word : Cond.code yX2_word cX2_word 7 (some .int) ∈ xAL := xAL_3 41 rfl rfl
theorem km_L_101 : Cond.methodLink RL 101 yX2_send ∈ xAL := xAL_3 42 rfl rfl
theorem ki_X2_send : Cond.instanceMethod yX2_send ∈ xAL := xAL_3 43 rfl rfl
theorem kse_X2_send : Cond.selects RX2 yX2_send yX2_send ∈ xAL := xAL_3 44 rfl rfl
theorem kc_X2_send : Cond.code yX2_send cX2_send 8 (some .int) ∈ xAL := xAL_3 45 rfl rfl
theorem km_X2_178 : Cond.methodLink RX2 178 yX2_othersWetBySending ∈ xAL := xAL_3 46 rfl rfl
theorem ki_X2_othersWetBySending : Cond.instanceMethod yX2_othersWetBySending ∈ xAL := xAL_3 48 rfl rfl
theorem kc_X2_othersWetBySending : Cond.code yX2_othersWetBySending cX2_othersWetBySending 6 (some .int) ∈ xAL := xAL_3 49 rfl rfl
theorem km_X2_243 : Cond.methodLink RX2 243 yX0_giveToWell ∈ xAL := xAL_3 50 rfl rfl
theorem ki_X0_giveToWell : Cond.instanceMethod yX0_giveToWell ∈ xAL := xAL_3 51 rfl rfl
theorem kse_X0_giveToWell : Cond.selects RX0 yX0_giveToWell yX0_giveToWell ∈ xAL := xAL_3 52 rfl rfl
theorem kc_X0_giveToWell : Cond.code yX0_giveToWell cX0_giveToWell 2 none ∈ xAL := xAL_3 53 rfl rfl
theorem km_L_105 : Cond.methodLink RL 105 yX2_next ∈ xAL := xAL_3 54 rfl rfl
theorem ki_X2_next : Cond.instanceMethod yX2_next ∈ xAL := xAL_3 55 rfl rfl
theorem kse_X2_next : Cond.selects RX2 yX2_next yX2_next ∈ xAL := xAL_3 56 rfl rfl
theorem kc_X2_next : Cond.code yX2_next cX2_next 1 (some .int) ∈ xAL := xAL_3 57 rfl rfl
theorem km_X2_181 : Cond.methodLink RX2 181 yX0_passHourForDrawers ∈ xAL := xAL_3 58 rfl rfl
theorem ki_X0_passHourForDrawers : Cond.instanceMethod yX0_passHourForDrawers ∈ xAL := xAL_3 59 rfl rfl
theorem kse_X0_passHourForDrawers : Cond.selects RX0 yX0_passHourForDrawers yX0_passHourForDrawers ∈ xAL := xAL_3 60 rfl rfl
theorem kc_X0_passHourForDrawers : Cond.code yX0_passHourForDrawers cX0_passHourForDrawers 2 (some .int) ∈ xAL := xAL_3 61 rfl rfl
theorem km_L_109 : Cond.methodLink RL 109 yX2_richest ∈ xAL := xAL_3 62 rfl rfl
theorem ki_X2_richest : Cond.instanceMethod yX2_richest ∈ xAL := xAL_3 63 rfl rfl
theorem kse_X2_richest : Cond.selects RX2 yX2_richest yX2_richest ∈ xAL := xAL_3 64 rfl rfl
theorem kc_X2_richest : Cond.code yX2_richest cX2_richest 5 (some .int) ∈ xAL := xAL_3 65 rfl rfl
theorem km_X2_184 : Cond.methodLink RX2 184 yX2_rank ∈ xAL := xAL_3 66 rfl rfl
theorem ki_X2_rank : Cond.instanceMethod yX2_rank ∈ xAL := xAL_3 68 rfl rfl
theorem kc_X2_rank : Cond.code yX2_rank cX2_rank 3 (some .int) ∈ xAL := xAL_3 69 rfl rfl
theorem km_L_113 : Cond.methodLink RL 113 yX2_quiet ∈ xAL := xAL_3 70 rfl rfl
theorem ki_X2_quiet : Cond.instanceMethod yX2_quiet ∈ xAL := xAL_3 71 rfl rfl
theorem kse_X2_quiet : Cond.selects RX2 yX2_quiet yX2_quiet ∈ xAL := xAL_3 72 rfl rfl
theorem kc_X2_quiet : Cond.code yX2_quiet cX2_quiet 5 (some .int) ∈ xAL := xAL_3 73 rfl rfl
theorem km_L_117 : Cond.methodLink RL 117 yX2_thirst ∈ xAL := xAL_3 74 rfl rfl
theorem ki_X2_thirst : Cond.instanceMethod yX2_thirst ∈ xAL := xAL_3 75 rfl rfl
theorem kse_X2_thirst : Cond.selects RX2 yX2_thirst yX2_thirst ∈ xAL := xAL_3 76 rfl rfl
theorem kc_X2_thirst : Cond.code yX2_thirst cX2_thirst 3 (some .int) ∈ xAL := xAL_3 77 rfl rfl
theorem km_L_121 : Cond.methodLink RL 121 yX2_lasts ∈ xAL := xAL_3 78 rfl rfl
theorem ki_X2_lasts : Cond.instanceMethod yX2_lasts ∈ xAL := xAL_3 79 rfl rfl
theorem kse_X2_lasts : Cond.selects RX2 yX2_lasts yX2_lasts ∈ xAL := xAL_3 80 rfl rfl
theorem kc_X2_lasts : Cond.code yX2_lasts cX2_lasts 3 (some .int) ∈ xAL := xAL_3 81 rfl rfl
theorem km_L_125 : Cond.methodLink RL 125 yX2_carries ∈ xAL := xAL_3 82 rfl rfl
theorem ki_X2_carries : Cond.instanceMethod yX2_carries ∈ xAL := xAL_3 83 rfl rfl
theorem kse_X2_carries : Cond.selects RX2 yX2_carries yX2_carries ∈ xAL := xAL_3 84 rfl rfl
theorem kc_X2_carries : Cond.code yX2_carries cX2_carries 3 (some .int) ∈ xAL := xAL_3 85 rfl rfl
theorem km_X2_187 : Cond.methodLink RX2 187 yX2_friendsOfOthers ∈ xAL := xAL_3 86 rfl rfl
theorem ki_X2_friendsOfOthers : Cond.instanceMethod yX2_friendsOfOthers ∈ xAL := xAL_3 88 rfl rfl
theorem kc_X2_friendsOfOthers : Cond.code yX2_friendsOfOthers cX2_friendsOfOthers 4 (some .int) ∈ xAL := xAL_3 89 rfl rfl
theorem km_X2_190 : Cond.methodLink RX2 190 yX2_mutualTwos ∈ xAL := xAL_3 90 rfl rfl
theorem ki_X2_mutualTwos : Cond.instanceMethod yX2_mutualTwos ∈ xAL := xAL_3 92 rfl rfl
theorem kc_X2_mutualTwos : Cond.code yX2_mutualTwos cX2_mutualTwos 4 (some .int) ∈ xAL := xAL_3 93 rfl rfl
theorem km_L_129 : Cond.methodLink RL 129 yX2_two ∈ xAL := xAL_3 94 rfl rfl
theorem ki_X2_two : Cond.instanceMethod yX2_two ∈ xAL := xAL_3 95 rfl rfl
theorem kse_X2_two : Cond.selects RX2 yX2_two yX2_two ∈ xAL := xAL_3 96 rfl rfl
theorem kc_X2_two : Cond.code yX2_two cX2_two 9 (some .int) ∈ xAL := xAL_3 97 rfl rfl
theorem km_X2_193 : Cond.methodLink RX2 193 yX2_gain ∈ xAL := xAL_3 98 rfl rfl
theorem ki_X2_gain : Cond.instanceMethod yX2_gain ∈ xAL := xAL_3 100 rfl rfl
theorem kc_X2_gain : Cond.code yX2_gain cX2_gain 7 (some .int) ∈ xAL := xAL_3 101 rfl rfl
theorem km_L_133 : Cond.methodLink RL 133 yX2_sneeze ∈ xAL := xAL_3 102 rfl rfl
theorem ki_X2_sneeze : Cond.instanceMethod yX2_sneeze ∈ xAL := xAL_3 103 rfl rfl
theorem kse_X2_sneeze : Cond.selects RX2 yX2_sneeze yX2_sneeze ∈ xAL := xAL_3 104 rfl rfl
theorem kc_X2_sneeze : Cond.code yX2_sneeze cX2_sneeze 10 (some .long) ∈ xAL := xAL_3 105 rfl rfl
theorem km_X2_197 : Cond.methodLink RX2 197 yX2_sneezeRefusal ∈ xAL := xAL_3 106 rfl rfl
theorem ki_X2_sneezeRefusal : Cond.instanceMethod yX2_sneezeRefusal ∈ xAL := xAL_3 108 rfl rfl
theorem kc_X2_sneezeRefusal : Cond.code yX2_sneezeRefusal cX2_sneezeRefusal 6 (some .int) ∈ xAL := xAL_3 109 rfl rfl
theorem km_X2_200 : Cond.methodLink RX2 200 yX2_refusedLong ∈ xAL := xAL_3 110 rfl rfl
theorem ki_X2_refusedLong : Cond.instanceMethod yX2_refusedLong ∈ xAL := xAL_3 112 rfl rfl
theorem kc_X2_refusedLong : Cond.code yX2_refusedLong cX2_refusedLong 2 (some .long) ∈ xAL := xAL_3 113 rfl rfl
theorem kk_X2_241 : Cond.constantLong RX2 241 (4000000000000000000) ∈ xAL := xAL_3 114 rfl rfl
theorem km_X2_204 : Cond.methodLink RX2 204 yX2_hasBehindSneezes ∈ xAL := xAL_3 115 rfl rfl
theorem ki_X2_hasBehindSneezes : Cond.instanceMethod yX2_hasBehindSneezes ∈ xAL := xAL_3 117 rfl rfl
theorem kc_X2_hasBehindSneezes : Cond.code yX2_hasBehindSneezes cX2_hasBehindSneezes 7 (some .int) ∈ xAL := xAL_3 118 rfl rfl
theorem km_X2_207 : Cond.methodLink RX2 207 yX2_power ∈ xAL := xAL_3 119 rfl rfl
theorem kst_X2_power : Cond.static yX2_power ∈ xAL := xAL_3 120 rfl rfl
theorem kc_X2_power : Cond.code yX2_power cX2_power 5 (some .long) ∈ xAL := xAL_3 121 rfl rfl
theorem km_X2_211 : Cond.methodLink RX2 211 yX2_partOfFraction ∈ xAL := xAL_3 122 rfl rfl
theorem kst_X2_partOfFraction : Cond.static yX2_partOfFraction ∈ xAL := xAL_3 123 rfl rfl
theorem kc_X2_partOfFraction : Cond.code yX2_partOfFraction cX2_partOfFraction 9 (some .long) ∈ xAL := xAL_3 124 rfl rfl
theorem km_X2_246 : Cond.methodLink RX2 246 yX2_greatestDivisor ∈ xAL := xAL_3 125 rfl rfl
theorem kst_X2_greatestDivisor : Cond.static yX2_greatestDivisor ∈ xAL := xAL_3 126 rfl rfl
theorem kc_X2_greatestDivisor : Cond.code yX2_greatestDivisor cX2_greatestDivisor 11 (some .long) ∈ xAL := xAL_3 127 rfl rfl
theorem km_L_138 : Cond.methodLink RL 138 yX2_mean ∈ xAL := xAL_3 128 rfl rfl
theorem ki_X2_mean : Cond.instanceMethod yX2_mean ∈ xAL := xAL_3 129 rfl rfl
theorem kse_X2_mean : Cond.selects RX2 yX2_mean yX2_mean ∈ xAL := xAL_3 130 rfl rfl
theorem kc_X2_mean : Cond.code yX2_mean cX2_mean 3 (some .long) ∈ xAL := xAL_3 131 rfl rfl
theorem km_X2_215 : Cond.methodLink RX2 215 yJ9_max_7cf53 ∈ xAL := xAL_3 132 rfl rfl
theorem km_L_143 : Cond.methodLink RL 143 yX2_whatIs ∈ xAL := xAL_3 133 rfl rfl
theorem ki_X2_whatIs : Cond.instanceMethod yX2_whatIs ∈ xAL := xAL_3 134 rfl rfl
theorem kse_X2_whatIs : Cond.selects RX2 yX2_whatIs yX2_whatIs ∈ xAL := xAL_3 135 rfl rfl
theorem kc_X2_whatIs : Cond.code yX2_whatIs cX2_whatIs 4 (some .int) ∈ xAL := xAL_3 136 rfl rfl
theorem km_X2_220 : Cond.methodLink RX2 220 yX2_kindsByRow ∈ xAL := xAL_3 137 rfl rfl
theorem ki_X2_kindsByRow : Cond.instanceMethod yX2_kindsByRow ∈ xAL := xAL_3 139 rfl rfl
theorem kc_X2_kindsByRow : Cond.code yX2_kindsByRow cX2_kindsByRow 5 (some .int) ∈ xAL := xAL_3 140 rfl rfl
theorem km_X2_250 : Cond.methodLink RX2 250 yX2_goesAsRow ∈ xAL := xAL_3 141 rfl rfl
theorem ki_X2_goesAsRow : Cond.instanceMethod yX2_goesAsRow ∈ xAL := xAL_3 143 rfl rfl
theorem kc_X2_goesAsRow : Cond.code yX2_goesAsRow cX2_goesAsRow 4 (some .boolean) ∈ xAL := xAL_3 144 rfl rfl
theorem km_X2_223 : Cond.methodLink RX2 223 yX2_figuresByRow ∈ xAL := xAL_3 145 rfl rfl
theorem ki_X2_figuresByRow : Cond.instanceMethod yX2_figuresByRow ∈ xAL := xAL_3 147 rfl rfl
theorem kc_X2_figuresByRow : Cond.code yX2_figuresByRow cX2_figuresByRow 5 (some .int) ∈ xAL := xAL_3 148 rfl rfl
theorem km_L_147 : Cond.methodLink RL 147 yX2_row ∈ xAL := xAL_3 149 rfl rfl
theorem ki_X2_row : Cond.instanceMethod yX2_row ∈ xAL := xAL_3 150 rfl rfl
theorem kse_X2_row : Cond.selects RX2 yX2_row yX2_row ∈ xAL := xAL_3 151 rfl rfl
theorem kc_X2_row : Cond.code yX2_row cX2_row 3 (some .int) ∈ xAL := xAL_3 152 rfl rfl
theorem km_L_151 : Cond.methodLink RL 151 yX2_judge ∈ xAL := xAL_3 153 rfl rfl
theorem ki_X2_judge : Cond.instanceMethod yX2_judge ∈ xAL := xAL_3 154 rfl rfl
theorem kse_X2_judge : Cond.selects RX2 yX2_judge yX2_judge ∈ xAL := xAL_3 155 rfl rfl
theorem kc_X2_judge : Cond.code yX2_judge cX2_judge 3 (some .int) ∈ xAL := xAL_3 156 rfl rfl
theorem km_L_155 : Cond.methodLink RL 155 yX2_clear ∈ xAL := xAL_3 157 rfl rfl
theorem ki_X2_clear : Cond.instanceMethod yX2_clear ∈ xAL := xAL_3 158 rfl rfl
theorem kse_X2_clear : Cond.selects RX2 yX2_clear yX2_clear ∈ xAL := xAL_3 159 rfl rfl
theorem kc_X2_clear : Cond.code yX2_clear cX2_clear 2 (some .int) ∈ xAL := xAL_3 160 rfl rfl
theorem km_L_159 : Cond.methodLink RL 159 yX2_lots ∈ xAL := xAL_3 161 rfl rfl
theorem ki_X2_lots : Cond.instanceMethod yX2_lots ∈ xAL := xAL_3 162 rfl rfl
theorem kse_X2_lots : Cond.selects RX2 yX2_lots yX2_lots ∈ xAL := xAL_3 163 rfl rfl
theorem kc_X2_lots : Cond.code yX2_lots cX2_lots 10 (some .int) ∈ xAL := xAL_3 164 rfl rfl
theorem km_X2_226 : Cond.methodLink RX2 226 yX2_nextSeed ∈ xAL := xAL_3 165 rfl rfl
theorem kst_X2_nextSeed : Cond.static yX2_nextSeed ∈ xAL := xAL_3 166 rfl rfl
theorem kc_X2_nextSeed : Cond.code yX2_nextSeed cX2_nextSeed 1 (some .int) ∈ xAL := xAL_3 167 rfl rfl
theorem kk_X2_254 : Cond.constant RX2 254 (1664525) ∈ xAL := xAL_3 168 rfl rfl
theorem kk_X2_255 : Cond.constant RX2 255 (1013904223) ∈ xAL := xAL_3 169 rfl rfl
theorem km_X2_229 : Cond.methodLink RX2 229 yX2_lotBelow ∈ xAL := xAL_3 170 rfl rfl
theorem kst_X2_lotBelow : Cond.static yX2_lotBelow ∈ xAL := xAL_3 171 rfl rfl
theorem kc_X2_lotBelow : Cond.code yX2_lotBelow cX2_lotBelow 2 (some .int) ∈ xAL := xAL_3 172 rfl rfl
theorem kk_X2_256 : Cond.constant RX2 256 (2147483647) ∈ xAL := xAL_3 173 rfl rfl
theorem km_X2_232 : Cond.methodLink RX2 232 yX0_countDry ∈ xAL := xAL_3 174 rfl rfl
theorem ki_X0_countDry : Cond.instanceMethod yX0_countDry ∈ xAL := xAL_3 175 rfl rfl
theorem kse_X0_countDry : Cond.selects RX0 yX0_countDry yX0_countDry ∈ xAL := xAL_3 176 rfl rfl
theorem kc_X0_countDry : Cond.code yX0_countDry cX0_countDry 1 (some .int) ∈ xAL := xAL_3 177 rfl rfl
theorem km_X0_107 : Cond.methodLink RX0 107 yJ6_bitCount_0f7a4 ∈ xAL := xAL_3 178 rfl rfl
theorem km_L_163 : Cond.methodLink RL 163 yX2_image ∈ xAL := xAL_3 179 rfl rfl
theorem ki_X2_image : Cond.instanceMethod yX2_image ∈ xAL := xAL_3 180 rfl rfl
theorem kse_X2_image : Cond.selects RX2 yX2_image yX2_image ∈ xAL := xAL_3 181 rfl rfl
theorem kc_X2_image : Cond.code yX2_image cX2_image 1 (some .int) ∈ xAL := xAL_3 182 rfl rfl
theorem km_L_167 : Cond.methodLink RL 167 yX2_on ∈ xAL := xAL_3 183 rfl rfl
theorem ki_X2_on : Cond.instanceMethod yX2_on ∈ xAL := xAL_3 184 rfl rfl
theorem kse_X2_on : Cond.selects RX2 yX2_on yX2_on ∈ xAL := xAL_3 185 rfl rfl
theorem kc_X2_on : Cond.code yX2_on cX2_on 1 (some .int) ∈ xAL := xAL_3 186 rfl rfl
theorem km_L_171 : Cond.methodLink RL 171 yX2_count ∈ xAL := xAL_3 187 rfl rfl
theorem ki_X2_count : Cond.instanceMethod yX2_count ∈ xAL := xAL_3 188 rfl rfl
theorem kse_X2_count : Cond.selects RX2 yX2_count yX2_count ∈ xAL := xAL_3 189 rfl rfl
theorem kc_X2_count : Cond.code yX2_count cX2_count 2 (some .int) ∈ xAL := xAL_3 190 rfl rfl
theorem km_X2_238 : Cond.methodLink RX2 238 yX2_countRefusals ∈ xAL := xAL_3 191 rfl rfl
theorem ki_X2_countRefusals : Cond.instanceMethod yX2_countRefusals ∈ xAL := xAL_3 193 rfl rfl
theorem kc_X2_countRefusals : Cond.code yX2_countRefusals cX2_countRefusals 2 (some .int) ∈ xAL := xAL_3 194 rfl rfl
theorem kcl_L_10 : Cond.classLink RL 10 RX3 ∈ xAL := xAL_3 195 rfl rfl
theorem kit_X3 : Cond.instantiable RX3 13 ∈ xAL := xAL_3 196 rfl rfl
theorem km_L_12 : Cond.methodLink RL 12 yX3_init ∈ xAL := xAL_3 197 rfl rfl
theorem ki_X3_init : Cond.instanceMethod yX3_init ∈ xAL := xAL_3 198 rfl rfl
theorem kc_X3_init : Cond.code yX3_init cX3_init 1 none ∈ xAL := xAL_3 199 rfl rfl
theorem km_X3_1 : Cond.methodLink RX3 1 objectInit ∈ xAL := xAL_3 200 rfl rfl
theorem kf_X3_9 : Cond.fieldLink RX3 9 "WellOfTheSilentModel" "s" "[I" ∈ xAL := xAL_3 201 rfl rfl
theorem kf_X3_13 : Cond.fieldLink RX3 13 "WellOfTheSilentModel" "m" "[I" ∈ xAL := xAL_3 202 rfl rfl
theorem kf_X3_16 : Cond.fieldLink RX3 16 "WellOfTheSilentModel" "image" "[I" ∈ xAL := xAL_3 203 rfl rfl
theorem kf_X3_19 : Cond.fieldLink RX3 19 "WellOfTheSilentModel" "was" "[I" ∈ xAL := xAL_3 204 rfl rfl
theorem kf_X3_193 : Cond.fieldLink RX3 193 "WellOfTheSilentModel" "hasImage" "Z" ∈ xAL := xAL_3 205 rfl rfl
theorem kf_X3_22 : Cond.fieldLink RX3 22 "WellOfTheSilentModel" "letters" "[I" ∈ xAL := xAL_3 206 rfl rfl
theorem kf_X3_25 : Cond.fieldLink RX3 25 "WellOfTheSilentModel" "row" "[I" ∈ xAL := xAL_3 207 rfl rfl
theorem kf_X3_28 : Cond.fieldLink RX3 28 "WellOfTheSilentModel" "refused" "[I" ∈ xAL := xAL_3 208 rfl rfl
theorem kf_X3_76 : Cond.fieldLink RX3 76 "WellOfTheSilentModel" "letterMany" "I" ∈ xAL := xAL_3 209 rfl rfl
theorem kf_X3_181 : Cond.fieldLink RX3 181 "WellOfTheSilentModel" "rowMany" "I" ∈ xAL := xAL_3 210 rfl rfl
theorem kf_X3_80 : Cond.fieldLink RX3 80 "WellOfTheSilentModel" "place" "I" ∈ xAL := xAL_3 211 rfl rfl
theorem kf_X3_31 : Cond.fieldLink RX3 31 "WellOfTheSilentModel" "numbers" "[I" ∈ xAL := xAL_3 212 rfl rfl
theorem kf_X3_184 : Cond.fieldLink RX3 184 "WellOfTheSilentModel" "seed" "I" ∈ xAL := xAL_3 213 rfl rfl
theorem km_L_17 : Cond.methodLink RL 17 yX3_letter ∈ xAL := xAL_4 1 rfl rfl
theorem ki_X3_letter : Cond.instanceMethod yX3_letter ∈ xAL := xAL_4 2 rfl rfl
theorem kse_X3_letter : Cond.selects RX3 yX3_letter yX3_letter ∈ xAL := xAL_4 3 rfl rfl
theorem kc_X3_letter : Cond.code yX3_letter cX3_letter 2 (some .int) ∈ xAL := xAL_4 4 rfl rfl
theorem km_X3_36 : Cond.methodLink RX3 36 yX3_no ∈ xAL := xAL_4 5 rfl rfl
theorem ki_X3_no : Cond.instanceMethod yX3_no ∈ xAL := xAL_4 7 rfl rfl
theorem kc_X3_no : Cond.code yX3_no cX3_no 2 (some .int) ∈ xAL := xAL_4 8 rfl rfl
theorem km_L_22 : Cond.methodLink RL 22 yX3_hill ∈ xAL := xAL_4 9 rfl rfl
theorem ki_X3_hill : Cond.instanceMethod yX3_hill ∈ xAL := xAL_4 10 rfl rfl
theorem kse_X3_hill : Cond.selects RX3 yX3_hill yX3_hill ∈ xAL := xAL_4 11 rfl rfl
theorem kc_X3_hill : Cond.code yX3_hill cX3_hill 6 (some .int) ∈ xAL := xAL_4 12 rfl rfl
theorem km_X3_107 : Cond.methodLink RX3 107 yX3_readsStatement ∈ xAL := xAL_4 13 rfl rfl
theorem ki_X3_readsStatement : Cond.instanceMethod yX3_readsStatement ∈ xAL := xAL_4 15 rfl rfl
theorem kc_X3_readsStatement : Cond.code yX3_readsStatement cX3_readsStatement 3 (some .boolean) ∈ xAL := xAL_4 16 rfl rfl
theorem km_X3_83 : Cond.methodLink RX3 83 yX3_here ∈ xAL := xAL_4 17 rfl rfl
theorem ki_X3_here : Cond.instanceMethod yX3_here ∈ xAL := xAL_4 19 rfl rfl
theorem kc_X3_here : Cond.code yX3_here cX3_here 1 (some .int) ∈ xAL := xAL_4 20 rfl rfl
theorem km_X3_90 : Cond.methodLink RX3 90 yX3_readsKind ∈ xAL := xAL_4 21 rfl rfl
theorem ki_X3_readsKind : Cond.instanceMethod yX3_readsKind ∈ xAL := xAL_4 23 rfl rfl
theorem kc_X3_readsKind : Cond.code yX3_readsKind cX3_readsKind 1 (some .boolean) ∈ xAL := xAL_4 24 rfl rfl
theorem km_X3_87 : Cond.methodLink RX3 87 yX3_kindBy ∈ xAL := xAL_4 25 rfl rfl
theorem kst_X3_kindBy : Cond.static yX3_kindBy ∈ xAL := xAL_4 26 rfl rfl
theorem kc_X3_kindBy : Cond.code yX3_kindBy cX3_kindBy 1 (some .int) ∈ xAL := xAL_4 27 rfl rfl
theorem km_X3_94 : Cond.methodLink RX3 94 yX3_readsNumber ∈ xAL := xAL_4 28 rfl rfl
theorem ki_X3_readsNumber : Cond.instanceMethod yX3_readsNumber ∈ xAL := xAL_4 30 rfl rfl
theorem kc_X3_readsNumber : Cond.code yX3_readsNumber cX3_readsNumber 4 (some .boolean) ∈ xAL := xAL_4 31 rfl rfl
theorem km_X3_40 : Cond.methodLink RX3 40 yX3_isIn ∈ xAL := xAL_4 32 rfl rfl
theorem kst_X3_isIn : Cond.static yX3_isIn ∈ xAL := xAL_4 33 rfl rfl
theorem kc_X3_isIn : Cond.code yX3_isIn cX3_isIn 3 (some .boolean) ∈ xAL := xAL_4 34 rfl rfl
theorem km_X3_110 : Cond.methodLink RX3 110 yX3_copies ∈ xAL := xAL_4 35 rfl rfl
theorem kst_X3_copies : Cond.static yX3_copies ∈ xAL := xAL_4 36 rfl rfl
theorem kc_X3_copies : Cond.code yX3_copies cX3_copies 3 none ∈ xAL := xAL_4 37 rfl rfl
theorem km_X3_114 : Cond.methodLink RX3 114 yX3_isDone ∈ xAL := xAL_4 38 rfl rfl
theorem ki_X3_isDone : Cond.instanceMethod yX3_isDone ∈ xAL := xAL_4 40 rfl rfl
theorem kc_X3_isDone : Cond.code yX3_isDone cX3_isDone 4 (some .boolean) ∈ xAL := xAL_4 41 rfl rfl
theorem km_X3_97 : Cond.methodLink RX3 97 yX3_addsPerson ∈ xAL := xAL_4 42 rfl rfl
theorem ki_X3_addsPerson : Cond.instanceMethod yX3_addsPerson ∈ xAL := xAL_4 44 rfl rfl
theorem kc_X3_addsPerson : Cond.code yX3_addsPerson cX3_addsPerson 3 (some .boolean) ∈ xAL := xAL_4 45 rfl rfl
theorem km_X3_52 : Cond.methodLink RX3 52 yX3_of ∈ xAL := xAL_4 46 rfl rfl
theorem kst_X3_of : Cond.static yX3_of ∈ xAL := xAL_4 47 rfl rfl
theorem kc_X3_of : Cond.code yX3_of cX3_of 2 (some .int) ∈ xAL := xAL_4 48 rfl rfl
theorem km_X3_100 : Cond.methodLink RX3 100 yX3_isPerson ∈ xAL := xAL_4 49 rfl rfl
theorem ki_X3_isPerson : Cond.instanceMethod yX3_isPerson ∈ xAL := xAL_4 51 rfl rfl
theorem kc_X3_isPerson : Cond.code yX3_isPerson cX3_isPerson 2 (some .boolean) ∈ xAL := xAL_4 52 rfl rfl
theorem km_X3_104 : Cond.methodLink RX3 104 yX3_hoursOn ∈ xAL := xAL_4 53 rfl rfl
theorem kst_X3_hoursOn : Cond.static yX3_hoursOn ∈ xAL := xAL_4 54 rfl rfl
theorem kc_X3_hoursOn : Cond.code yX3_hoursOn cX3_hoursOn 3 none ∈ xAL := xAL_4 55 rfl rfl
theorem km_X3_73 : Cond.methodLink RX3 73 yX3_hour ∈ xAL := xAL_4 56 rfl rfl
theorem kst_X3_hour : Cond.static yX3_hour ∈ xAL := xAL_4 57 rfl rfl
theorem kc_X3_hour : Cond.code yX3_hour cX3_hour 5 none ∈ xAL := xAL_4 58 rfl rfl
theorem km_X3_44 : Cond.methodLink RX3 44 yX3_least ∈ xAL := xAL_4 59 rfl rfl
theorem kst_X3_least : Cond.static yX3_least ∈ xAL := xAL_4 60 rfl rfl
theorem kc_X3_least : Cond.code yX3_least cX3_least 2 (some .int) ∈ xAL := xAL_4 61 rfl rfl
theorem km_X3_62 : Cond.methodLink RX3 62 yX3_speaksIn ∈ xAL := xAL_4 62 rfl rfl
theorem kst_X3_speaksIn : Cond.static yX3_speaksIn ∈ xAL := xAL_4 63 rfl rfl
theorem kc_X3_speaksIn : Cond.code yX3_speaksIn cX3_speaksIn 2 (some .int) ∈ xAL := xAL_4 64 rfl rfl
theorem km_X3_48 : Cond.methodLink RX3 48 yX3_has ∈ xAL := xAL_4 65 rfl rfl
theorem kst_X3_has : Cond.static yX3_has ∈ xAL := xAL_4 66 rfl rfl
theorem kc_X3_has : Cond.code yX3_has cX3_has 2 (some .boolean) ∈ xAL := xAL_4 67 rfl rfl
theorem km_X3_55 : Cond.methodLink RX3 55 yX3_speaksBy ∈ xAL := xAL_4 68 rfl rfl
theorem kst_X3_speaksBy : Cond.static yX3_speaksBy ∈ xAL := xAL_4 69 rfl rfl
theorem kc_X3_speaksBy : Cond.code yX3_speaksBy cX3_speaksBy 3 (some .int) ∈ xAL := xAL_4 70 rfl rfl
theorem km_X3_66 : Cond.methodLink RX3 66 yX3_draws ∈ xAL := xAL_4 71 rfl rfl
theorem kst_X3_draws : Cond.static yX3_draws ∈ xAL := xAL_4 72 rfl rfl
theorem kc_X3_draws : Cond.code yX3_draws cX3_draws 4 none ∈ xAL := xAL_4 73 rfl rfl
theorem km_X3_58 : Cond.methodLink RX3 58 yX3_mayDraw ∈ xAL := xAL_4 74 rfl rfl
theorem kst_X3_mayDraw : Cond.static yX3_mayDraw ∈ xAL := xAL_4 75 rfl rfl
theorem kc_X3_mayDraw : Cond.code yX3_mayDraw cX3_mayDraw 2 (some .boolean) ∈ xAL := xAL_4 76 rfl rfl
theorem km_X3_70 : Cond.methodLink RX3 70 yX3_drinksBy ∈ xAL := xAL_4 77 rfl rfl
theorem kst_X3_drinksBy : Cond.static yX3_drinksBy ∈ xAL := xAL_4 78 rfl rfl
theorem kc_X3_drinksBy : Cond.code yX3_drinksBy cX3_drinksBy 1 (some .int) ∈ xAL := xAL_4 79 rfl rfl
theorem km_L_27 : Cond.methodLink RL 27 yX3_person ∈ xAL := xAL_4 80 rfl rfl
theorem ki_X3_person : Cond.instanceMethod yX3_person ∈ xAL := xAL_4 81 rfl rfl
theorem kse_X3_person : Cond.selects RX3 yX3_person yX3_person ∈ xAL := xAL_4 82 rfl rfl
theorem kc_X3_person : Cond.code yX3_person cX3_person 3 (some .int) ∈ xAL := xAL_4 83 rfl rfl
theorem km_L_31 : Cond.methodLink RL 31 yX3_speaks ∈ xAL := xAL_4 84 rfl rfl
theorem ki_X3_speaks : Cond.instanceMethod yX3_speaks ∈ xAL := xAL_4 85 rfl rfl
theorem kse_X3_speaks : Cond.selects RX3 yX3_speaks yX3_speaks ∈ xAL := xAL_4 86 rfl rfl
theorem kc_X3_speaks : Cond.code yX3_speaks cX3_speaks 2 (some .int) ∈ xAL := xAL_4 87 rfl rfl
theorem km_X3_117 : Cond.methodLink RX3 117 yX3_flagged ∈ xAL := xAL_4 88 rfl rfl
theorem kst_X3_flagged : Cond.static yX3_flagged ∈ xAL := xAL_4 89 rfl rfl
theorem kc_X3_flagged : Cond.code yX3_flagged cX3_flagged 4 (some .int) ∈ xAL := xAL_4 90 rfl rfl
theorem km_X3_120 : Cond.methodLink RX3 120 yX3_bits ∈ xAL := xAL_4 91 rfl rfl
theorem kst_X3_bits : Cond.static yX3_bits ∈ xAL := xAL_4 92 rfl rfl
theorem kc_X3_bits : Cond.code yX3_bits cX3_bits 3 (some .int) ∈ xAL := xAL_4 93 rfl rfl
theorem km_L_35 : Cond.methodLink RL 35 yX3_befriends ∈ xAL := xAL_4 94 rfl rfl
theorem ki_X3_befriends : Cond.instanceMethod yX3_befriends ∈ xAL := xAL_4 95 rfl rfl
theorem kse_X3_befriends : Cond.selects RX3 yX3_befriends yX3_befriends ∈ xAL := xAL_4 96 rfl rfl
theorem kc_X3_befriends : Cond.code yX3_befriends cX3_befriends 3 (some .int) ∈ xAL := xAL_4 97 rfl rfl
theorem km_X3_123 : Cond.methodLink RX3 123 yX3_sets ∈ xAL := xAL_4 98 rfl rfl
theorem ki_X3_sets : Cond.instanceMethod yX3_sets ∈ xAL := xAL_4 100 rfl rfl
theorem kc_X3_sets : Cond.code yX3_sets cX3_sets 4 (some .int) ∈ xAL := xAL_4 101 rfl rfl
theorem km_L_39 : Cond.methodLink RL 39 yX3_pours ∈ xAL := xAL_4 102 rfl rfl
theorem ki_X3_pours : Cond.instanceMethod yX3_pours ∈ xAL := xAL_4 103 rfl rfl
theorem kse_X3_pours : Cond.selects RX3 yX3_pours yX3_pours ∈ xAL := xAL_4 104 rfl rfl
theorem kc_X3_pours : Cond.code yX3_pours cX3_pours 3 (some .int) ∈ xAL := xAL_4 105 rfl rfl
theorem km_X3_130 : Cond.methodLink RX3 130 yX3_setsOf ∈ xAL := xAL_4 106 rfl rfl
theorem ki_X3_setsOf : Cond.instanceMethod yX3_setsOf ∈ xAL := xAL_4 108 rfl rfl
theorem kc_X3_setsOf : Cond.code yX3_setsOf cX3_setsOf 6 (some .int) ∈ xAL := xAL_4 109 rfl rfl
theorem km_X3_126 : Cond.methodLink RX3 126 yX3_wrongBy ∈ xAL := xAL_4 110 rfl rfl
theorem kst_X3_wrongBy : Cond.static yX3_wrongBy ∈ xAL := xAL_4 111 rfl rfl
theorem kc_X3_wrongBy : Cond.code yX3_wrongBy cX3_wrongBy 3 (some .int) ∈ xAL := xAL_4 112 rfl rfl
theorem km_L_43 : Cond.methodLink RL 43 yX3_cans ∈ xAL := xAL_4 113 rfl rfl
theorem ki_X3_cans : Cond.instanceMethod yX3_cans ∈ xAL := xAL_4 114 rfl rfl
theorem kse_X3_cans : Cond.selects RX3 yX3_cans yX3_cans ∈ xAL := xAL_4 115 rfl rfl
theorem kc_X3_cans : Cond.code yX3_cans cX3_cans 3 (some .int) ∈ xAL := xAL_4 116 rfl rfl
theorem km_L_47 : Cond.methodLink RL 47 yX3_water ∈ xAL := xAL_4 117 rfl rfl
theorem ki_X3_water : Cond.instanceMethod yX3_water ∈ xAL := xAL_4 118 rfl rfl
theorem kse_X3_water : Cond.selects RX3 yX3_water yX3_water ∈ xAL := xAL_4 119 rfl rfl
theorem kc_X3_water : Cond.code yX3_water cX3_water 2 (some .int) ∈ xAL := xAL_4 120 rfl rfl
theorem km_X3_134 : Cond.methodLink RX3 134 yX3_setsIn ∈ xAL := xAL_4 121 rfl rfl
theorem ki_X3_setsIn : Cond.instanceMethod yX3_setsIn ∈ xAL := xAL_4 123 rfl rfl
theorem kc_X3_setsIn : Cond.code yX3_setsIn cX3_setsIn 5 (some .int) ∈ xAL := xAL_4 124 rfl rfl
theorem km_L_51 : Cond.methodLink RL 51 yX3_flow ∈ xAL := xAL_4 125 rfl rfl
theorem ki_X3_flow : Cond.instanceMethod yX3_flow ∈ xAL := xAL_4 126 rfl rfl
theorem kse_X3_flow : Cond.selects RX3 yX3_flow yX3_flow ∈ xAL := xAL_4 127 rfl rfl
theorem kc_X3_flow : Cond.code yX3_flow cX3_flow 2 (some .int) ∈ xAL := xAL_4 128 rfl rfl
theorem km_L_56 : Cond.methodLink RL 56 yX3_turn ∈ xAL := xAL_4 129 rfl rfl
theorem ki_X3_turn : Cond.instanceMethod yX3_turn ∈ xAL := xAL_4 130 rfl rfl
theorem kse_X3_turn : Cond.selects RX3 yX3_turn yX3_turn ∈ xAL := xAL_4 131 rfl rfl
theorem kc_X3_turn : Cond.code yX3_turn cX3_turn 6 (some .int) ∈ xAL := xAL_4 132 rfl rfl
theorem km_L_60 : Cond.methodLink RL 60 yX3_hours ∈ xAL := xAL_4 133 rfl rfl
theorem ki_X3_hours : Cond.instanceMethod yX3_hours ∈ xAL := xAL_4 134 rfl rfl
theorem kse_X3_hours : Cond.selects RX3 yX3_hours yX3_hours ∈ xAL := xAL_4 135 rfl rfl
theorem kc_X3_hours : Cond.code yX3_hours cX3_hours 2 (some .int) ∈ xAL := xAL_4 136 rfl rfl
theorem km_L_64 : Cond.methodLink RL 64 yX3_hasThen ∈ xAL := xAL_4 137 rfl rfl
theorem ki_X3_hasThen : Cond.instanceMethod yX3_hasThen ∈ xAL := xAL_4 138 rfl rfl
theorem kse_X3_hasThen : Cond.selects RX3 yX3_hasThen yX3_hasThen ∈ xAL := xAL_4 139 rfl rfl
theorem kc_X3_hasThen : Cond.code yX3_hasThen cX3_hasThen 4 (some .int) ∈ xAL := xAL_4 140 rfl rfl
theorem km_X3_137 : Cond.methodLink RX3 137 yX3_takes ∈ xAL := xAL_4 141 rfl rfl
theorem ki_X3_takes : Cond.instanceMethod yX3_takes ∈ xAL := xAL_4 143 rfl rfl
theorem kc_X3_takes : Cond.code yX3_takes cX3_takes 2 none ∈ xAL := xAL_4 144 rfl rfl
theorem km_L_68 : Cond.methodLink RL 68 yX3_then ∈ xAL := xAL_4 145 rfl rfl
theorem ki_X3_then : Cond.instanceMethod yX3_then ∈ xAL := xAL_4 146 rfl rfl
theorem kse_X3_then : Cond.selects RX3 yX3_then yX3_then ∈ xAL := xAL_4 147 rfl rfl
theorem kc_X3_then : Cond.code yX3_then cX3_then 4 (some .int) ∈ xAL := xAL_4 148 rfl rfl
theorem km_X3_141 : Cond.methodLink RX3 141 yX3_allHave ∈ xAL := xAL_4 149 rfl rfl
theorem kst_X3_allHave : Cond.static yX3_allHave ∈ xAL := xAL_4 150 rfl rfl
theorem kc_X3_allHave : Cond.code yX3_allHave cX3_allHave 3 (some .int) ∈ xAL := xAL_4 151 rfl rfl
theorem km_L_72 : Cond.methodLink RL 72 yX3_dry ∈ xAL := xAL_4 152 rfl rfl
theorem ki_X3_dry : Cond.instanceMethod yX3_dry ∈ xAL := xAL_4 153 rfl rfl
theorem kse_X3_dry : Cond.selects RX3 yX3_dry yX3_dry ∈ xAL := xAL_4 154 rfl rfl
theorem kc_X3_dry : Cond.code yX3_dry cX3_dry 2 (some .int) ∈ xAL := xAL_4 155 rfl rfl
theorem km_X3_149 : Cond.methodLink RX3 149 yX3_firstDry ∈ xAL := xAL_4 156 rfl rfl
theorem ki_X3_firstDry : Cond.instanceMethod yX3_firstDry ∈ xAL := xAL_4 158 rfl rfl
theorem kc_X3_firstDry : Cond.code yX3_firstDry cX3_firstDry 5 (some .int) ∈ xAL := xAL_4 159 rfl rfl
theorem kk_X3_145 : Cond.constant RX3 145 (1000000000) ∈ xAL := xAL_4 160 rfl rfl
theorem km_X3_146 : Cond.methodLink RX3 146 yX3_whenNothing ∈ xAL := xAL_4 161 rfl rfl
theorem ki_X3_whenNothing : Cond.instanceMethod yX3_whenNothing ∈ xAL := xAL_4 163 rfl rfl
theorem kc_X3_whenNothing : Cond.code yX3_whenNothing cX3_whenNothing 3 (some .int) ∈ xAL := xAL_4 164 rfl rfl
theorem km_L_76 : Cond.methodLink RL 76 yX3_empty ∈ xAL := xAL_4 165 rfl rfl
theorem ki_X3_empty : Cond.instanceMethod yX3_empty ∈ xAL := xAL_4 166 rfl rfl
theorem kse_X3_empty : Cond.selects RX3 yX3_empty yX3_empty ∈ xAL := xAL_4 167 rfl rfl
theorem kc_X3_empty : Cond.code yX3_empty cX3_empty 1 (some .int) ∈ xAL := xAL_4 168 rfl rfl
theorem km_L_80 : Cond.methodLink RL 80 yX3_flowBest ∈ xAL := xAL_4 169 rfl rfl
theorem ki_X3_flowBest : Cond.instanceMethod yX3_flowBest ∈ xAL := xAL_4 170 rfl rfl
theorem kse_X3_flowBest : Cond.selects RX3 yX3_flowBest yX3_flowBest ∈ xAL := xAL_4 171 rfl rfl
theorem kc_X3_flowBest : Cond.code yX3_flowBest cX3_flowBest 4 (some .int) ∈ xAL := xAL_4 172 rfl rfl
theorem km_X3_155 : Cond.methodLink RX3 155 yX3_isNoneDry ∈ xAL := xAL_4 173 rfl rfl
theorem ki_X3_isNoneDry : Cond.instanceMethod yX3_isNoneDry ∈ xAL := xAL_4 175 rfl rfl
theorem kc_X3_isNoneDry : Cond.code yX3_isNoneDry cX3_isNoneDry 4 (some .boolean) ∈ xAL := xAL_4 176 rfl rfl
theorem km_X3_152 : Cond.methodLink RX3 152 yX3_dryOnes ∈ xAL := xAL_4 177 rfl rfl
theorem kst_X3_dryOnes : Cond.static yX3_dryOnes ∈ xAL := xAL_4 178 rfl rfl
theorem kc_X3_dryOnes : Cond.code yX3_dryOnes cX3_dryOnes 3 (some .int) ∈ xAL := xAL_4 179 rfl rfl
theorem km_L_84 : Cond.methodLink RL 84 yX3_canBest ∈ xAL := xAL_4 180 rfl rfl
theorem ki_X3_canBest : Cond.instanceMethod yX3_canBest ∈ xAL := xAL_4 181 rfl rfl
theorem kse_X3_canBest : Cond.selects RX3 yX3_canBest yX3_canBest ∈ xAL := xAL_4 182 rfl rfl
theorem kc_X3_canBest : Cond.code yX3_canBest cX3_canBest 5 (some .int) ∈ xAL := xAL_4 183 rfl rfl
theorem km_L_88 : Cond.methodLink RL 88 yX3_friendBest ∈ xAL := xAL_4 184 rfl rfl
theorem ki_X3_friendBest : Cond.instanceMethod yX3_friendBest ∈ xAL := xAL_4 185 rfl rfl
theorem kse_X3_friendBest : Cond.selects RX3 yX3_friendBest yX3_friendBest ∈ xAL := xAL_4 186 rfl rfl
theorem kc_X3_friendBest : Cond.code yX3_friendBest cX3_friendBest 7 (some .int) ∈ xAL := xAL_4 187 rfl rfl
theorem km_X3_158 : Cond.methodLink RX3 158 yX3_leastHas ∈ xAL := xAL_4 188 rfl rfl
theorem kst_X3_leastHas : Cond.static yX3_leastHas ∈ xAL := xAL_4 189 rfl rfl
theorem kc_X3_leastHas : Cond.code yX3_leastHas cX3_leastHas 3 (some .int) ∈ xAL := xAL_4 190 rfl rfl
theorem km_L_92 : Cond.methodLink RL 92 yX3_hush ∈ xAL := xAL_4 191 rfl rfl
theorem ki_X3_hush : Cond.instanceMethod yX3_hush ∈ xAL := xAL_4 192 rfl rfl
theorem kse_X3_hush : Cond.selects RX3 yX3_hush yX3_hush ∈ xAL := xAL_4 193 rfl rfl
theorem kc_X3_hush : Cond.code yX3_hush cX3_hush 6 (some .int) ∈ xAL := xAL_4 194 rfl rfl
theorem km_L_96 : Cond.methodLink RL 96 yX3_fewest ∈ xAL := xAL_4 195 rfl rfl
theorem ki_X3_fewest : Cond.instanceMethod yX3_fewest ∈ xAL := xAL_4 196 rfl rfl
theorem kse_X3_fewest : Cond.selects RX3 yX3_fewest yX3_fewest ∈ xAL := xAL_4 197 rfl rfl
theorem kc_X3_fewest : Cond.code yX3_fewest cX3_fewest 5 (some .int) ∈ xAL := xAL_4 198 rfl rfl
theorem km_L_100 : Cond.methodLink RL 100 yX3_word ∈ xAL := xAL_4 199 rfl rfl
theorem ki_X3_word : Cond.instanceMethod yX3_word ∈ xAL := xAL_4 200 rfl rfl
theorem kse_X3_word : Cond.selects RX3 yX3_word yX3_word ∈ xAL := xAL_4 201 rfl rfl
theorem kc_X3_word : Cond.code yX3_word cX3_word 6 (some .int) ∈ xAL := xAL_4 202 rfl rfl
theorem km_L_104 : Cond.methodLink RL 104 yX3_send ∈ xAL := xAL_4 203 rfl rfl
theorem ki_X3_send : Cond.instanceMethod yX3_send ∈ xAL := xAL_4 204 rfl rfl
theorem kse_X3_send : Cond.selects RX3 yX3_send yX3_send ∈ xAL := xAL_4 205 rfl rfl
theorem kc_X3_send : Cond.code yX3_send cX3_send 8 (some .int) ∈ xAL := xAL_4 206 rfl rfl
theorem km_L_108 : Cond.methodLink RL 108 yX3_next ∈ xAL := xAL_4 207 rfl rfl
theorem ki_X3_next : Cond.instanceMethod yX3_next ∈ xAL := xAL_4 208 rfl rfl
theorem kse_X3_next : Cond.selects RX3 yX3_next yX3_next ∈ xAL := xAL_4 209 rfl rfl
theorem kc_X3_next : Cond.code yX3_next cX3_next 2 (some .int) ∈ xAL := xAL_4 210 rfl rfl
theorem km_L_112 : Cond.methodLink RL 112 yX3_richest ∈ xAL := xAL_4 211 rfl rfl
theorem ki_X3_richest : Cond.instanceMethod yX3_richest ∈ xAL := xAL_4 212 rfl rfl
theorem kse_X3_richest : Cond.selects RX3 yX3_richest yX3_richest ∈ xAL := xAL_4 213 rfl rfl
theorem kc_X3_richest : Cond.code yX3_richest cX3_richest 2 (some .int) ∈ xAL := xAL_4 214 rfl rfl
theorem km_X3_161 : Cond.methodLink RX3 161 yX3_extreme ∈ xAL := xAL_4 215 rfl rfl
theorem ki_X3_extreme : Cond.instanceMethod yX3_extreme ∈ xAL := xAL_4 217 rfl rfl
theorem kc_X3_extreme : Cond.code yX3_extreme cX3_extreme 7 (some .int) ∈ xAL := xAL_4 218 rfl rfl
theorem km_L_116 : Cond.methodLink RL 116 yX3_quiet ∈ xAL := xAL_4 219 rfl rfl
theorem ki_X3_quiet : Cond.instanceMethod yX3_quiet ∈ xAL := xAL_4 220 rfl rfl
theorem kse_X3_quiet : Cond.selects RX3 yX3_quiet yX3_quiet ∈ xAL := xAL_4 221 rfl rfl
theorem kc_X3_quiet : Cond.code yX3_quiet cX3_quiet 5 (some .int) ∈ xAL := xAL_4 222 rfl rfl
theorem km_L_120 : Cond.methodLink RL 120 yX3_thirst ∈ xAL := xAL_4 223 rfl rfl
theorem ki_X3_thirst : Cond.instanceMethod yX3_thirst ∈ xAL := xAL_4 224 rfl rfl
theorem kse_X3_thirst : Cond.selects RX3 yX3_thirst yX3_thirst ∈ xAL := xAL_4 225 rfl rfl
theorem kc_X3_thirst : Cond.code yX3_thirst cX3_thirst 3 (some .int) ∈ xAL := xAL_4 226 rfl rfl
theorem km_L_124 : Cond.methodLink RL 124 yX3_lasts ∈ xAL := xAL_4 227 rfl rfl
theorem ki_X3_lasts : Cond.instanceMethod yX3_lasts ∈ xAL := xAL_4 228 rfl rfl
theorem kse_X3_lasts : Cond.selects RX3 yX3_lasts yX3_lasts ∈ xAL := xAL_4 229 rfl rfl
theorem kc_X3_lasts : Cond.code yX3_lasts cX3_lasts 2 (some .int) ∈ xAL := xAL_4 230 rfl rfl
theorem km_L_128 : Cond.methodLink RL 128 yX3_carries ∈ xAL := xAL_4 231 rfl rfl
theorem ki_X3_carries : Cond.instanceMethod yX3_carries ∈ xAL := xAL_4 232 rfl rfl
theorem kse_X3_carries : Cond.selects RX3 yX3_carries yX3_carries ∈ xAL := xAL_4 233 rfl rfl
theorem kc_X3_carries : Cond.code yX3_carries cX3_carries 6 (some .int) ∈ xAL := xAL_4 234 rfl rfl
theorem km_L_132 : Cond.methodLink RL 132 yX3_two ∈ xAL := xAL_4 235 rfl rfl
theorem ki_X3_two : Cond.instanceMethod yX3_two ∈ xAL := xAL_4 236 rfl rfl
theorem kse_X3_two : Cond.selects RX3 yX3_two yX3_two ∈ xAL := xAL_4 237 rfl rfl
theorem kc_X3_two : Cond.code yX3_two cX3_two 8 (some .int) ∈ xAL := xAL_4 238 rfl rfl
theorem km_X3_165 : Cond.methodLink RX3 165 yX3_hasBy ∈ xAL := xAL_4 239 rfl rfl
theorem ki_X3_hasBy : Cond.instanceMethod yX3_hasBy ∈ xAL := xAL_5 1 rfl rfl
theorem kc_X3_hasBy : Cond.code yX3_hasBy cX3_hasBy 7 (some .int) ∈ xAL := xAL_5 2 rfl rfl
theorem km_L_137 : Cond.methodLink RL 137 yX3_sneeze ∈ xAL := xAL_5 3 rfl rfl
theorem ki_X3_sneeze : Cond.instanceMethod yX3_sneeze ∈ xAL := xAL_5 4 rfl rfl
theorem kse_X3_sneeze : Cond.selects RX3 yX3_sneeze yX3_sneeze ∈ xAL := xAL_5 5 rfl rfl
theorem kc_X3_sneeze : Cond.code yX3_sneeze cX3_sneeze 14 (some .long) ∈ xAL := xAL_5 6 rfl rfl
theorem km_X3_173 : Cond.methodLink RX3 173 yX3_noWide ∈ xAL := xAL_5 7 rfl rfl
theorem ki_X3_noWide : Cond.instanceMethod yX3_noWide ∈ xAL := xAL_5 9 rfl rfl
theorem kc_X3_noWide : Cond.code yX3_noWide cX3_noWide 2 (some .long) ∈ xAL := xAL_5 10 rfl rfl
theorem kk_X3_34 : Cond.constantLong RX3 34 (4000000000000000000) ∈ xAL := xAL_5 11 rfl rfl
theorem km_X3_177 : Cond.methodLink RX3 177 yX3_partOf ∈ xAL := xAL_5 12 rfl rfl
theorem kst_X3_partOf : Cond.static yX3_partOf ∈ xAL := xAL_5 13 rfl rfl
theorem kc_X3_partOf : Cond.code yX3_partOf cX3_partOf 5 (some .long) ∈ xAL := xAL_5 14 rfl rfl
theorem km_X3_169 : Cond.methodLink RX3 169 yX3_gcd ∈ xAL := xAL_5 15 rfl rfl
theorem kst_X3_gcd : Cond.static yX3_gcd ∈ xAL := xAL_5 16 rfl rfl
theorem kc_X3_gcd : Cond.code yX3_gcd cX3_gcd 10 (some .long) ∈ xAL := xAL_5 17 rfl rfl
theorem km_L_142 : Cond.methodLink RL 142 yX3_mean ∈ xAL := xAL_5 18 rfl rfl
theorem ki_X3_mean : Cond.instanceMethod yX3_mean ∈ xAL := xAL_5 19 rfl rfl
theorem kse_X3_mean : Cond.selects RX3 yX3_mean yX3_mean ∈ xAL := xAL_5 20 rfl rfl
theorem kc_X3_mean : Cond.code yX3_mean cX3_mean 2 (some .long) ∈ xAL := xAL_5 21 rfl rfl
theorem km_L_146 : Cond.methodLink RL 146 yX3_whatIs ∈ xAL := xAL_5 22 rfl rfl
theorem ki_X3_whatIs : Cond.instanceMethod yX3_whatIs ∈ xAL := xAL_5 23 rfl rfl
theorem kse_X3_whatIs : Cond.selects RX3 yX3_whatIs yX3_whatIs ∈ xAL := xAL_5 24 rfl rfl
theorem kc_X3_whatIs : Cond.code yX3_whatIs cX3_whatIs 7 (some .int) ∈ xAL := xAL_5 25 rfl rfl
theorem km_L_150 : Cond.methodLink RL 150 yX3_row ∈ xAL := xAL_5 26 rfl rfl
theorem ki_X3_row : Cond.instanceMethod yX3_row ∈ xAL := xAL_5 27 rfl rfl
theorem kse_X3_row : Cond.selects RX3 yX3_row yX3_row ∈ xAL := xAL_5 28 rfl rfl
theorem kc_X3_row : Cond.code yX3_row cX3_row 3 (some .int) ∈ xAL := xAL_5 29 rfl rfl
theorem km_L_154 : Cond.methodLink RL 154 yX3_judge ∈ xAL := xAL_5 30 rfl rfl
theorem ki_X3_judge : Cond.instanceMethod yX3_judge ∈ xAL := xAL_5 31 rfl rfl
theorem kse_X3_judge : Cond.selects RX3 yX3_judge yX3_judge ∈ xAL := xAL_5 32 rfl rfl
theorem kc_X3_judge : Cond.code yX3_judge cX3_judge 3 (some .int) ∈ xAL := xAL_5 33 rfl rfl
theorem km_L_158 : Cond.methodLink RL 158 yX3_clear ∈ xAL := xAL_5 34 rfl rfl
theorem ki_X3_clear : Cond.instanceMethod yX3_clear ∈ xAL := xAL_5 35 rfl rfl
theorem kse_X3_clear : Cond.selects RX3 yX3_clear yX3_clear ∈ xAL := xAL_5 36 rfl rfl
theorem kc_X3_clear : Cond.code yX3_clear cX3_clear 2 (some .int) ∈ xAL := xAL_5 37 rfl rfl
theorem km_L_162 : Cond.methodLink RL 162 yX3_lots ∈ xAL := xAL_5 38 rfl rfl
theorem ki_X3_lots : Cond.instanceMethod yX3_lots ∈ xAL := xAL_5 39 rfl rfl
theorem kse_X3_lots : Cond.selects RX3 yX3_lots yX3_lots ∈ xAL := xAL_5 40 rfl rfl
theorem kc_X3_lots : Cond.code yX3_lots cX3_lots 7 (some .int) ∈ xAL := xAL_5 41 rfl rfl
theorem km_X3_190 : Cond.methodLink RX3 190 yX3_drawn ∈ xAL := xAL_5 42 rfl rfl
theorem ki_X3_drawn : Cond.instanceMethod yX3_drawn ∈ xAL := xAL_5 44 rfl rfl
theorem kc_X3_drawn : Cond.code yX3_drawn cX3_drawn 2 (some .int) ∈ xAL := xAL_5 45 rfl rfl
theorem kk_X3_187 : Cond.constant RX3 187 (1664525) ∈ xAL := xAL_5 46 rfl rfl
theorem kk_X3_188 : Cond.constant RX3 188 (1013904223) ∈ xAL := xAL_5 47 rfl rfl
theorem kk_X3_189 : Cond.constant RX3 189 (2147483647) ∈ xAL := xAL_5 48 rfl rfl
theorem km_L_166 : Cond.methodLink RL 166 yX3_image ∈ xAL := xAL_5 49 rfl rfl
theorem ki_X3_image : Cond.instanceMethod yX3_image ∈ xAL := xAL_5 50 rfl rfl
theorem kse_X3_image : Cond.selects RX3 yX3_image yX3_image ∈ xAL := xAL_5 51 rfl rfl
theorem kc_X3_image : Cond.code yX3_image cX3_image 1 (some .int) ∈ xAL := xAL_5 52 rfl rfl
theorem km_L_170 : Cond.methodLink RL 170 yX3_on ∈ xAL := xAL_5 53 rfl rfl
theorem ki_X3_on : Cond.instanceMethod yX3_on ∈ xAL := xAL_5 54 rfl rfl
theorem kse_X3_on : Cond.selects RX3 yX3_on yX3_on ∈ xAL := xAL_5 55 rfl rfl
theorem kc_X3_on : Cond.code yX3_on cX3_on 1 (some .int) ∈ xAL := xAL_5 56 rfl rfl
theorem km_L_174 : Cond.methodLink RL 174 yX3_count ∈ xAL := xAL_5 57 rfl rfl
theorem ki_X3_count : Cond.instanceMethod yX3_count ∈ xAL := xAL_5 58 rfl rfl
theorem kse_X3_count : Cond.selects RX3 yX3_count yX3_count ∈ xAL := xAL_5 59 rfl rfl
theorem kc_X3_count : Cond.code yX3_count cX3_count 2 (some .int) ∈ xAL := xAL_5 60 rfl rfl
theorem kf_J0_9 : Cond.fieldLink RJ0 9 "java/lang/String" "value" "[B" ∈ xAL := xAL_5 61 rfl rfl
theorem kf_J0_15 : Cond.fieldLink RJ0 15 "java/lang/String" "coder" "B" ∈ xAL := xAL_5 62 rfl rfl
theorem kse_X2_refused : Cond.selects RX2 yX2_refused yX2_refused ∈ xAL := xAL_p1 0 rfl
theorem kse_X1_letterAt : Cond.selects RX1 yX1_letterAt yX1_letterAt ∈ xAL := xAL_p1 1 rfl
theorem kse_X2_thoughtOfNow : Cond.selects RX2 yX2_thoughtOfNow yX2_thoughtOfNow ∈ xAL := xAL_p1 2 rfl
theorem kse_X1_letCome : Cond.selects RX1 yX1_letCome yX1_letCome ∈ xAL := xAL_p1 3 rfl
theorem kse_X1_digitAt : Cond.selects RX1 yX1_digitAt yX1_digitAt ∈ xAL := xAL_p1 4 rfl
theorem kse_X1_twoDigitsAt : Cond.selects RX1 yX1_twoDigitsAt yX1_twoDigitsAt ∈ xAL := xAL_p1 5 rfl
theorem kse_X0_beginDay : Cond.selects RX0 yX0_beginDay yX0_beginDay ∈ xAL := xAL_p1 6 rfl
theorem kse_X0_letSpeakAt : Cond.selects RX0 yX0_letSpeakAt yX0_letSpeakAt ∈ xAL := xAL_p1 7 rfl
theorem kse_X0_mayDraw : Cond.selects RX0 yX0_mayDraw yX0_mayDraw ∈ xAL := xAL_p1 8 rfl
theorem kse_X0_letDraw : Cond.selects RX0 yX0_letDraw yX0_letDraw ∈ xAL := xAL_p1 9 rfl
theorem kse_X0_givesToFriend : Cond.selects RX0 yX0_givesToFriend yX0_givesToFriend ∈ xAL := xAL_p1 10 rfl
theorem kse_X0_letDrink : Cond.selects RX0 yX0_letDrink yX0_letDrink ∈ xAL := xAL_p1 11 rfl
theorem kse_X2_oneRefusal : Cond.selects RX2 yX2_oneRefusal yX2_oneRefusal ∈ xAL := xAL_p1 12 rfl
theorem kse_X2_thoughtBehind : Cond.selects RX2 yX2_thoughtBehind yX2_thoughtBehind ∈ xAL := xAL_p1 13 rfl
theorem kse_X2_firstDry : Cond.selects RX2 yX2_firstDry yX2_firstDry ∈ xAL := xAL_p1 14 rfl
theorem kse_X0_dryPeople : Cond.selects RX0 yX0_dryPeople yX0_dryPeople ∈ xAL := xAL_p1 15 rfl
theorem kse_X2_isWetWithHushed : Cond.selects RX2 yX2_isWetWithHushed yX2_isWetWithHushed ∈ xAL := xAL_p2 0 rfl
theorem kse_X2_othersWetBySending : Cond.selects RX2 yX2_othersWetBySending yX2_othersWetBySending ∈ xAL := xAL_p2 1 rfl
theorem kse_X2_rank : Cond.selects RX2 yX2_rank yX2_rank ∈ xAL := xAL_p2 2 rfl
theorem kse_X2_friendsOfOthers : Cond.selects RX2 yX2_friendsOfOthers yX2_friendsOfOthers ∈ xAL := xAL_p2 3 rfl
theorem kse_X2_mutualTwos : Cond.selects RX2 yX2_mutualTwos yX2_mutualTwos ∈ xAL := xAL_p2 4 rfl
theorem kse_X2_gain : Cond.selects RX2 yX2_gain yX2_gain ∈ xAL := xAL_p2 5 rfl
theorem kse_X2_sneezeRefusal : Cond.selects RX2 yX2_sneezeRefusal yX2_sneezeRefusal ∈ xAL := xAL_p2 6 rfl
theorem kse_X2_refusedLong : Cond.selects RX2 yX2_refusedLong yX2_refusedLong ∈ xAL := xAL_p2 7 rfl
theorem kse_X2_hasBehindSneezes : Cond.selects RX2 yX2_hasBehindSneezes yX2_hasBehindSneezes ∈ xAL := xAL_p2 8 rfl
theorem kse_X2_kindsByRow : Cond.selects RX2 yX2_kindsByRow yX2_kindsByRow ∈ xAL := xAL_p2 9 rfl
theorem kse_X2_goesAsRow : Cond.selects RX2 yX2_goesAsRow yX2_goesAsRow ∈ xAL := xAL_p2 10 rfl
theorem kse_X2_figuresByRow : Cond.selects RX2 yX2_figuresByRow yX2_figuresByRow ∈ xAL := xAL_p2 11 rfl
theorem kse_X2_countRefusals : Cond.selects RX2 yX2_countRefusals yX2_countRefusals ∈ xAL := xAL_p2 12 rfl
theorem kse_X3_no : Cond.selects RX3 yX3_no yX3_no ∈ xAL := xAL_p2 13 rfl
theorem kse_X3_readsStatement : Cond.selects RX3 yX3_readsStatement yX3_readsStatement ∈ xAL := xAL_p2 14 rfl
theorem kse_X3_here : Cond.selects RX3 yX3_here yX3_here ∈ xAL := xAL_p2 15 rfl
theorem kse_X3_readsKind : Cond.selects RX3 yX3_readsKind yX3_readsKind ∈ xAL := xAL_p3 0 rfl
theorem kse_X3_readsNumber : Cond.selects RX3 yX3_readsNumber yX3_readsNumber ∈ xAL := xAL_p3 1 rfl
theorem kse_X3_isDone : Cond.selects RX3 yX3_isDone yX3_isDone ∈ xAL := xAL_p3 2 rfl
theorem kse_X3_addsPerson : Cond.selects RX3 yX3_addsPerson yX3_addsPerson ∈ xAL := xAL_p3 3 rfl
theorem kse_X3_isPerson : Cond.selects RX3 yX3_isPerson yX3_isPerson ∈ xAL := xAL_p3 4 rfl
theorem kse_X3_sets : Cond.selects RX3 yX3_sets yX3_sets ∈ xAL := xAL_p3 5 rfl
theorem kse_X3_setsOf : Cond.selects RX3 yX3_setsOf yX3_setsOf ∈ xAL := xAL_p3 6 rfl
theorem kse_X3_setsIn : Cond.selects RX3 yX3_setsIn yX3_setsIn ∈ xAL := xAL_p3 7 rfl
theorem kse_X3_takes : Cond.selects RX3 yX3_takes yX3_takes ∈ xAL := xAL_p3 8 rfl
theorem kse_X3_firstDry : Cond.selects RX3 yX3_firstDry yX3_firstDry ∈ xAL := xAL_p3 9 rfl
theorem kse_X3_whenNothing : Cond.selects RX3 yX3_whenNothing yX3_whenNothing ∈ xAL := xAL_p3 10 rfl
theorem kse_X3_isNoneDry : Cond.selects RX3 yX3_isNoneDry yX3_isNoneDry ∈ xAL := xAL_p3 11 rfl
theorem kse_X3_extreme : Cond.selects RX3 yX3_extreme yX3_extreme ∈ xAL := xAL_p3 12 rfl
theorem kse_X3_hasBy : Cond.selects RX3 yX3_hasBy yX3_hasBy ∈ xAL := xAL_p3 13 rfl
theorem kse_X3_noWide : Cond.selects RX3 yX3_noWide yX3_noWide ∈ xAL := xAL_p3 14 rfl
theorem kse_X3_drawn : Cond.selects RX3 yX3_drawn yX3_drawn ∈ xAL := xAL_p3 15 rfl
theorem ky_X0 : ∀ k, k < 12 → u_lay RX0 TX0 k ∈ xAL := fun k h => match k, h with
  | 0, _ => xAL_1 50 rfl rfl
  | 1, _ => xAL_1 52 rfl rfl
  | 2, _ => xAL_1 54 rfl rfl
  | 3, _ => xAL_1 56 rfl rfl
  | 4, _ => xAL_1 58 rfl rfl
  | 5, _ => xAL_1 60 rfl rfl
  | 6, _ => xAL_1 62 rfl rfl
  | 7, _ => xAL_1 64 rfl rfl
  | 8, _ => xAL_1 66 rfl rfl
  | 9, _ => xAL_1 68 rfl rfl
  | 10, _ => xAL_1 70 rfl rfl
  | 11, _ => xAL_1 72 rfl rfl
  | k + 12, h => absurd h (by omega)
theorem kl_X0 : ∀ w ∈ u_ws RX0 TX0 12, w ∈ xAL := fun w h => by
  obtain ⟨k, hk, rfl⟩ := List.mem_map.mp h
  exact ky_X0 k (List.mem_range.mp hk)
theorem ky_X1 : ∀ k, k < 2 → u_lay RX1 TX1 k ∈ xAL := fun k h => match k, h with
  | 0, _ => xAL_1 85 rfl rfl
  | 1, _ => xAL_1 87 rfl rfl
  | k + 2, h => absurd h (by omega)
theorem kl_X1 : ∀ w ∈ u_ws RX1 TX1 2, w ∈ xAL := fun w h => by
  obtain ⟨k, hk, rfl⟩ := List.mem_map.mp h
  exact ky_X1 k (List.mem_range.mp hk)
theorem ky_X2 : ∀ k, k < 8 → u_lay RX2 TX2 k ∈ xAL := fun k h => match k, h with
  | 0, _ => xAL_1 98 rfl rfl
  | 1, _ => xAL_1 100 rfl rfl
  | 2, _ => xAL_1 102 rfl rfl
  | 3, _ => xAL_1 104 rfl rfl
  | 4, _ => xAL_1 106 rfl rfl
  | 5, _ => xAL_1 108 rfl rfl
  | 6, _ => xAL_1 110 rfl rfl
  | 7, _ => xAL_1 112 rfl rfl
  | k + 8, h => absurd h (by omega)
theorem kl_X2 : ∀ w ∈ u_ws RX2 TX2 8, w ∈ xAL := fun w h => by
  obtain ⟨k, hk, rfl⟩ := List.mem_map.mp h
  exact ky_X2 k (List.mem_range.mp hk)
theorem ky_X3 : ∀ k, k < 13 → u_lay RX3 TX3 k ∈ xAL := fun k h => match k, h with
  | 0, _ => xAL_3 214 rfl rfl
  | 1, _ => xAL_3 216 rfl rfl
  | 2, _ => xAL_3 218 rfl rfl
  | 3, _ => xAL_3 220 rfl rfl
  | 4, _ => xAL_3 222 rfl rfl
  | 5, _ => xAL_3 224 rfl rfl
  | 6, _ => xAL_3 226 rfl rfl
  | 7, _ => xAL_3 228 rfl rfl
  | 8, _ => xAL_3 230 rfl rfl
  | 9, _ => xAL_3 232 rfl rfl
  | 10, _ => xAL_3 234 rfl rfl
  | 11, _ => xAL_3 236 rfl rfl
  | 12, _ => xAL_3 238 rfl rfl
  | k + 13, h => absurd h (by omega)
theorem kl_X3 : ∀ w ∈ u_ws RX3 TX3 13, w ∈ xAL := fun w h => by
  obtain ⟨k, hk, rfl⟩ := List.mem_map.mp h
  exact ky_X3 k (List.mem_range.mp hk)
end
section
theorem dX0_init_0 : decode cX0_init 0 = .ok (.aload_n 0, 1) := by decide +kernel
theorem dX0_init_1 : decode cX0_init 1 = .ok (.invokespecial 3, 3) := by decide +kernel
theorem dX0_init_4 : decode cX0_init 4 = .ok (.aload_n 0, 1) := by decide +kernel
theorem dX0_init_5 : decode cX0_init 5 = .ok (.bipush 6, 2) := by decide +kernel
theorem dX0_init_7 : decode cX0_init 7 = .ok (.newarray .int, 2) := by decide +kernel
theorem dX0_init_9 : decode cX0_init 9 = .ok (.putfield 9, 3) := by decide +kernel
theorem dX0_init_12 : decode cX0_init 12 = .ok (.aload_n 0, 1) := by decide +kernel
theorem dX0_init_13 : decode cX0_init 13 = .ok (.bipush 6, 2) := by decide +kernel
theorem dX0_init_15 : decode cX0_init 15 = .ok (.newarray .int, 2) := by decide +kernel
theorem dX0_init_17 : decode cX0_init 17 = .ok (.putfield 15, 3) := by decide +kernel
theorem dX0_init_20 : decode cX0_init 20 = .ok (.aload_n 0, 1) := by decide +kernel
theorem dX0_init_21 : decode cX0_init 21 = .ok (.bipush 6, 2) := by decide +kernel
theorem dX0_init_23 : decode cX0_init 23 = .ok (.newarray .int, 2) := by decide +kernel
theorem dX0_init_25 : decode cX0_init 25 = .ok (.putfield 18, 3) := by decide +kernel
theorem dX0_init_28 : decode cX0_init 28 = .ok (.aload_n 0, 1) := by decide +kernel
theorem dX0_init_29 : decode cX0_init 29 = .ok (.bipush 6, 2) := by decide +kernel
theorem dX0_init_31 : decode cX0_init 31 = .ok (.newarray .int, 2) := by decide +kernel
theorem dX0_init_33 : decode cX0_init 33 = .ok (.putfield 21, 3) := by decide +kernel
theorem dX0_init_36 : decode cX0_init 36 = .ok (.aload_n 0, 1) := by decide +kernel
theorem dX0_init_37 : decode cX0_init 37 = .ok (.bipush 6, 2) := by decide +kernel
theorem dX0_init_39 : decode cX0_init 39 = .ok (.newarray .int, 2) := by decide +kernel
theorem dX0_init_41 : decode cX0_init 41 = .ok (.putfield 24, 3) := by decide +kernel
theorem dX0_init_44 : decode cX0_init 44 = .ok (.aload_n 0, 1) := by decide +kernel
theorem dX0_init_45 : decode cX0_init 45 = .ok (.iconst 0, 1) := by decide +kernel
theorem dX0_init_46 : decode cX0_init 46 = .ok (.putfield 27, 3) := by decide +kernel
theorem dX0_init_49 : decode cX0_init 49 = .ok (.aload_n 0, 1) := by decide +kernel
theorem dX0_init_50 : decode cX0_init 50 = .ok (.bipush 20, 2) := by decide +kernel
theorem dX0_init_52 : decode cX0_init 52 = .ok (.putfield 31, 3) := by decide +kernel
theorem dX0_init_55 : decode cX0_init 55 = .ok (.aload_n 0, 1) := by decide +kernel
theorem dX0_init_56 : decode cX0_init 56 = .ok (.bipush 10, 2) := by decide +kernel
theorem dX0_init_58 : decode cX0_init 58 = .ok (.putfield 34, 3) := by decide +kernel
theorem dX0_init_61 : decode cX0_init 61 = .ok (.aload_n 0, 1) := by decide +kernel
theorem dX0_init_62 : decode cX0_init 62 = .ok (.iconst 0, 1) := by decide +kernel
theorem dX0_init_63 : decode cX0_init 63 = .ok (.putfield 37, 3) := by decide +kernel
theorem dX0_init_66 : decode cX0_init 66 = .ok (.aload_n 0, 1) := by decide +kernel
theorem dX0_init_67 : decode cX0_init 67 = .ok (.iconst 0, 1) := by decide +kernel
theorem dX0_init_68 : decode cX0_init 68 = .ok (.putfield 40, 3) := by decide +kernel
theorem dX0_init_71 : decode cX0_init 71 = .ok (.aload_n 0, 1) := by decide +kernel
theorem dX0_init_72 : decode cX0_init 72 = .ok (.iconst 0, 1) := by decide +kernel
theorem dX0_init_73 : decode cX0_init 73 = .ok (.putfield 43, 3) := by decide +kernel
theorem dX0_init_76 : decode cX0_init 76 = .ok (.aload_n 0, 1) := by decide +kernel
theorem dX0_init_77 : decode cX0_init 77 = .ok (.iconst 0, 1) := by decide +kernel
theorem dX0_init_78 : decode cX0_init 78 = .ok (.putfield 46, 3) := by decide +kernel
theorem dX0_init_81 : decode cX0_init 81 = .ok (.return_, 1) := by decide +kernel
theorem dX0_copyFrom_0 : decode cX0_copyFrom 0 = .ok (.iconst 0, 1) := by decide +kernel
theorem dX0_copyFrom_1 : decode cX0_copyFrom 1 = .ok (.istore_n 2, 1) := by decide +kernel
theorem dX0_copyFrom_2 : decode cX0_copyFrom 2 = .ok (.iload_n 2, 1) := by decide +kernel
theorem dX0_copyFrom_3 : decode cX0_copyFrom 3 = .ok (.aload_n 1, 1) := by decide +kernel
theorem dX0_copyFrom_4 : decode cX0_copyFrom 4 = .ok (.getfield 27, 3) := by decide +kernel
theorem dX0_copyFrom_7 : decode cX0_copyFrom 7 = .ok (.if_icmp .ge 69, 3) := by decide +kernel
theorem dX0_copyFrom_10 : decode cX0_copyFrom 10 = .ok (.aload_n 0, 1) := by decide +kernel
theorem dX0_copyFrom_11 : decode cX0_copyFrom 11 = .ok (.getfield 9, 3) := by decide +kernel
theorem dX0_copyFrom_14 : decode cX0_copyFrom 14 = .ok (.iload_n 2, 1) := by decide +kernel
theorem dX0_copyFrom_15 : decode cX0_copyFrom 15 = .ok (.aload_n 1, 1) := by decide +kernel
theorem dX0_copyFrom_16 : decode cX0_copyFrom 16 = .ok (.getfield 9, 3) := by decide +kernel
theorem dX0_copyFrom_19 : decode cX0_copyFrom 19 = .ok (.iload_n 2, 1) := by decide +kernel
theorem dX0_copyFrom_20 : decode cX0_copyFrom 20 = .ok (.iaload, 1) := by decide +kernel
theorem dX0_copyFrom_21 : decode cX0_copyFrom 21 = .ok (.iastore, 1) := by decide +kernel
theorem dX0_copyFrom_22 : decode cX0_copyFrom 22 = .ok (.aload_n 0, 1) := by decide +kernel
theorem dX0_copyFrom_23 : decode cX0_copyFrom 23 = .ok (.getfield 15, 3) := by decide +kernel
theorem dX0_copyFrom_26 : decode cX0_copyFrom 26 = .ok (.iload_n 2, 1) := by decide +kernel
theorem dX0_copyFrom_27 : decode cX0_copyFrom 27 = .ok (.aload_n 1, 1) := by decide +kernel
theorem dX0_copyFrom_28 : decode cX0_copyFrom 28 = .ok (.getfield 15, 3) := by decide +kernel
theorem dX0_copyFrom_31 : decode cX0_copyFrom 31 = .ok (.iload_n 2, 1) := by decide +kernel
theorem dX0_copyFrom_32 : decode cX0_copyFrom 32 = .ok (.iaload, 1) := by decide +kernel
theorem dX0_copyFrom_33 : decode cX0_copyFrom 33 = .ok (.iastore, 1) := by decide +kernel
theorem dX0_copyFrom_34 : decode cX0_copyFrom 34 = .ok (.aload_n 0, 1) := by decide +kernel
theorem dX0_copyFrom_35 : decode cX0_copyFrom 35 = .ok (.getfield 18, 3) := by decide +kernel
theorem dX0_copyFrom_38 : decode cX0_copyFrom 38 = .ok (.iload_n 2, 1) := by decide +kernel
theorem dX0_copyFrom_39 : decode cX0_copyFrom 39 = .ok (.aload_n 1, 1) := by decide +kernel
theorem dX0_copyFrom_40 : decode cX0_copyFrom 40 = .ok (.getfield 18, 3) := by decide +kernel
theorem dX0_copyFrom_43 : decode cX0_copyFrom 43 = .ok (.iload_n 2, 1) := by decide +kernel
theorem dX0_copyFrom_44 : decode cX0_copyFrom 44 = .ok (.iaload, 1) := by decide +kernel
theorem dX0_copyFrom_45 : decode cX0_copyFrom 45 = .ok (.iastore, 1) := by decide +kernel
theorem dX0_copyFrom_46 : decode cX0_copyFrom 46 = .ok (.aload_n 0, 1) := by decide +kernel
theorem dX0_copyFrom_47 : decode cX0_copyFrom 47 = .ok (.getfield 21, 3) := by decide +kernel
theorem dX0_copyFrom_50 : decode cX0_copyFrom 50 = .ok (.iload_n 2, 1) := by decide +kernel
theorem dX0_copyFrom_51 : decode cX0_copyFrom 51 = .ok (.aload_n 1, 1) := by decide +kernel
theorem dX0_copyFrom_52 : decode cX0_copyFrom 52 = .ok (.getfield 21, 3) := by decide +kernel
theorem dX0_copyFrom_55 : decode cX0_copyFrom 55 = .ok (.iload_n 2, 1) := by decide +kernel
theorem dX0_copyFrom_56 : decode cX0_copyFrom 56 = .ok (.iaload, 1) := by decide +kernel
theorem dX0_copyFrom_57 : decode cX0_copyFrom 57 = .ok (.iastore, 1) := by decide +kernel
theorem dX0_copyFrom_58 : decode cX0_copyFrom 58 = .ok (.aload_n 0, 1) := by decide +kernel
theorem dX0_copyFrom_59 : decode cX0_copyFrom 59 = .ok (.getfield 24, 3) := by decide +kernel
theorem dX0_copyFrom_62 : decode cX0_copyFrom 62 = .ok (.iload_n 2, 1) := by decide +kernel
theorem dX0_copyFrom_63 : decode cX0_copyFrom 63 = .ok (.aload_n 1, 1) := by decide +kernel
theorem dX0_copyFrom_64 : decode cX0_copyFrom 64 = .ok (.getfield 24, 3) := by decide +kernel
theorem dX0_copyFrom_67 : decode cX0_copyFrom 67 = .ok (.iload_n 2, 1) := by decide +kernel
theorem dX0_copyFrom_68 : decode cX0_copyFrom 68 = .ok (.iaload, 1) := by decide +kernel
theorem dX0_copyFrom_69 : decode cX0_copyFrom 69 = .ok (.iastore, 1) := by decide +kernel
theorem dX0_copyFrom_70 : decode cX0_copyFrom 70 = .ok (.iinc 2 1, 3) := by decide +kernel
theorem dX0_copyFrom_73 : decode cX0_copyFrom 73 = .ok (.goto (-71), 3) := by decide +kernel
theorem dX0_copyFrom_76 : decode cX0_copyFrom 76 = .ok (.aload_n 0, 1) := by decide +kernel
theorem dX0_copyFrom_77 : decode cX0_copyFrom 77 = .ok (.aload_n 1, 1) := by decide +kernel
theorem dX0_copyFrom_78 : decode cX0_copyFrom 78 = .ok (.getfield 27, 3) := by decide +kernel
theorem dX0_copyFrom_81 : decode cX0_copyFrom 81 = .ok (.putfield 27, 3) := by decide +kernel
theorem dX0_copyFrom_84 : decode cX0_copyFrom 84 = .ok (.aload_n 0, 1) := by decide +kernel
theorem dX0_copyFrom_85 : decode cX0_copyFrom 85 = .ok (.aload_n 1, 1) := by decide +kernel
theorem dX0_copyFrom_86 : decode cX0_copyFrom 86 = .ok (.getfield 31, 3) := by decide +kernel
theorem dX0_copyFrom_89 : decode cX0_copyFrom 89 = .ok (.putfield 31, 3) := by decide +kernel
theorem dX0_copyFrom_92 : decode cX0_copyFrom 92 = .ok (.aload_n 0, 1) := by decide +kernel
theorem dX0_copyFrom_93 : decode cX0_copyFrom 93 = .ok (.aload_n 1, 1) := by decide +kernel
theorem dX0_copyFrom_94 : decode cX0_copyFrom 94 = .ok (.getfield 34, 3) := by decide +kernel
theorem dX0_copyFrom_97 : decode cX0_copyFrom 97 = .ok (.putfield 34, 3) := by decide +kernel
theorem dX0_copyFrom_100 : decode cX0_copyFrom 100 = .ok (.aload_n 0, 1) := by decide +kernel
theorem dX0_copyFrom_101 : decode cX0_copyFrom 101 = .ok (.aload_n 1, 1) := by decide +kernel
theorem dX0_copyFrom_102 : decode cX0_copyFrom 102 = .ok (.getfield 37, 3) := by decide +kernel
theorem dX0_copyFrom_105 : decode cX0_copyFrom 105 = .ok (.putfield 37, 3) := by decide +kernel
theorem dX0_copyFrom_108 : decode cX0_copyFrom 108 = .ok (.aload_n 0, 1) := by decide +kernel
theorem dX0_copyFrom_109 : decode cX0_copyFrom 109 = .ok (.aload_n 1, 1) := by decide +kernel
theorem dX0_copyFrom_110 : decode cX0_copyFrom 110 = .ok (.getfield 40, 3) := by decide +kernel
theorem dX0_copyFrom_113 : decode cX0_copyFrom 113 = .ok (.putfield 40, 3) := by decide +kernel
theorem dX0_copyFrom_116 : decode cX0_copyFrom 116 = .ok (.aload_n 0, 1) := by decide +kernel
theorem dX0_copyFrom_117 : decode cX0_copyFrom 117 = .ok (.aload_n 1, 1) := by decide +kernel
theorem dX0_copyFrom_118 : decode cX0_copyFrom 118 = .ok (.getfield 43, 3) := by decide +kernel
theorem dX0_copyFrom_121 : decode cX0_copyFrom 121 = .ok (.putfield 43, 3) := by decide +kernel
theorem dX0_copyFrom_124 : decode cX0_copyFrom 124 = .ok (.aload_n 0, 1) := by decide +kernel
theorem dX0_copyFrom_125 : decode cX0_copyFrom 125 = .ok (.aload_n 1, 1) := by decide +kernel
theorem dX0_copyFrom_126 : decode cX0_copyFrom 126 = .ok (.getfield 46, 3) := by decide +kernel
theorem dX0_copyFrom_129 : decode cX0_copyFrom 129 = .ok (.putfield 46, 3) := by decide +kernel
theorem dX0_copyFrom_132 : decode cX0_copyFrom 132 = .ok (.return_, 1) := by decide +kernel
theorem dX0_isThere_0 : decode cX0_isThere 0 = .ok (.iload_n 1, 1) := by decide +kernel
theorem dX0_isThere_1 : decode cX0_isThere 1 = .ok (.ifCond .lt 15, 3) := by decide +kernel
theorem dX0_isThere_4 : decode cX0_isThere 4 = .ok (.iload_n 1, 1) := by decide +kernel
theorem dX0_isThere_5 : decode cX0_isThere 5 = .ok (.aload_n 0, 1) := by decide +kernel
theorem dX0_isThere_6 : decode cX0_isThere 6 = .ok (.getfield 27, 3) := by decide +kernel
theorem dX0_isThere_9 : decode cX0_isThere 9 = .ok (.if_icmp .ge 7, 3) := by decide +kernel
theorem dX0_isThere_12 : decode cX0_isThere 12 = .ok (.iconst 1, 1) := by decide +kernel
theorem dX0_isThere_13 : decode cX0_isThere 13 = .ok (.goto 4, 3) := by decide +kernel
theorem dX0_isThere_16 : decode cX0_isThere 16 = .ok (.iconst 0, 1) := by decide +kernel
theorem dX0_isThere_17 : decode cX0_isThere 17 = .ok (.ireturn, 1) := by decide +kernel
theorem dX0_addPerson_0 : decode cX0_addPerson 0 = .ok (.aload_n 0, 1) := by decide +kernel
theorem dX0_addPerson_1 : decode cX0_addPerson 1 = .ok (.getfield 27, 3) := by decide +kernel
theorem dX0_addPerson_4 : decode cX0_addPerson 4 = .ok (.bipush 6, 2) := by decide +kernel
theorem dX0_addPerson_6 : decode cX0_addPerson 6 = .ok (.if_icmp .lt 5, 3) := by decide +kernel
theorem dX0_addPerson_9 : decode cX0_addPerson 9 = .ok (.iconst 0, 1) := by decide +kernel
theorem dX0_addPerson_10 : decode cX0_addPerson 10 = .ok (.ireturn, 1) := by decide +kernel
theorem dX0_addPerson_11 : decode cX0_addPerson 11 = .ok (.aload_n 0, 1) := by decide +kernel
theorem dX0_addPerson_12 : decode cX0_addPerson 12 = .ok (.getfield 9, 3) := by decide +kernel
theorem dX0_addPerson_15 : decode cX0_addPerson 15 = .ok (.aload_n 0, 1) := by decide +kernel
theorem dX0_addPerson_16 : decode cX0_addPerson 16 = .ok (.getfield 27, 3) := by decide +kernel
theorem dX0_addPerson_19 : decode cX0_addPerson 19 = .ok (.iload_n 1, 1) := by decide +kernel
theorem dX0_addPerson_20 : decode cX0_addPerson 20 = .ok (.iastore, 1) := by decide +kernel
theorem dX0_addPerson_21 : decode cX0_addPerson 21 = .ok (.aload_n 0, 1) := by decide +kernel
theorem dX0_addPerson_22 : decode cX0_addPerson 22 = .ok (.getfield 15, 3) := by decide +kernel
theorem dX0_addPerson_25 : decode cX0_addPerson 25 = .ok (.aload_n 0, 1) := by decide +kernel
theorem dX0_addPerson_26 : decode cX0_addPerson 26 = .ok (.getfield 27, 3) := by decide +kernel
theorem dX0_addPerson_29 : decode cX0_addPerson 29 = .ok (.iload_n 2, 1) := by decide +kernel
theorem dX0_addPerson_30 : decode cX0_addPerson 30 = .ok (.iastore, 1) := by decide +kernel
theorem dX0_addPerson_31 : decode cX0_addPerson 31 = .ok (.aload_n 0, 1) := by decide +kernel
theorem dX0_addPerson_32 : decode cX0_addPerson 32 = .ok (.getfield 18, 3) := by decide +kernel
theorem dX0_addPerson_35 : decode cX0_addPerson 35 = .ok (.aload_n 0, 1) := by decide +kernel
theorem dX0_addPerson_36 : decode cX0_addPerson 36 = .ok (.getfield 27, 3) := by decide +kernel
theorem dX0_addPerson_39 : decode cX0_addPerson 39 = .ok (.iload_n 3, 1) := by decide +kernel
theorem dX0_addPerson_40 : decode cX0_addPerson 40 = .ok (.iastore, 1) := by decide +kernel
theorem dX0_addPerson_41 : decode cX0_addPerson 41 = .ok (.aload_n 0, 1) := by decide +kernel
theorem dX0_addPerson_42 : decode cX0_addPerson 42 = .ok (.getfield 21, 3) := by decide +kernel
theorem dX0_addPerson_45 : decode cX0_addPerson 45 = .ok (.aload_n 0, 1) := by decide +kernel
theorem dX0_addPerson_46 : decode cX0_addPerson 46 = .ok (.getfield 27, 3) := by decide +kernel
theorem dX0_addPerson_49 : decode cX0_addPerson 49 = .ok (.iconst 5, 1) := by decide +kernel
theorem dX0_addPerson_50 : decode cX0_addPerson 50 = .ok (.iastore, 1) := by decide +kernel
theorem dX0_addPerson_51 : decode cX0_addPerson 51 = .ok (.aload_n 0, 1) := by decide +kernel
theorem dX0_addPerson_52 : decode cX0_addPerson 52 = .ok (.getfield 24, 3) := by decide +kernel
theorem dX0_addPerson_55 : decode cX0_addPerson 55 = .ok (.aload_n 0, 1) := by decide +kernel
theorem dX0_addPerson_56 : decode cX0_addPerson 56 = .ok (.getfield 27, 3) := by decide +kernel
theorem dX0_addPerson_59 : decode cX0_addPerson 59 = .ok (.aload_n 0, 1) := by decide +kernel
theorem dX0_addPerson_60 : decode cX0_addPerson 60 = .ok (.getfield 27, 3) := by decide +kernel
theorem dX0_addPerson_63 : decode cX0_addPerson 63 = .ok (.iastore, 1) := by decide +kernel
theorem dX0_addPerson_64 : decode cX0_addPerson 64 = .ok (.aload_n 0, 1) := by decide +kernel
theorem dX0_addPerson_65 : decode cX0_addPerson 65 = .ok (.dup, 1) := by decide +kernel
theorem dX0_addPerson_66 : decode cX0_addPerson 66 = .ok (.getfield 27, 3) := by decide +kernel
theorem dX0_addPerson_69 : decode cX0_addPerson 69 = .ok (.iconst 1, 1) := by decide +kernel
theorem dX0_addPerson_70 : decode cX0_addPerson 70 = .ok (.iadd, 1) := by decide +kernel
theorem dX0_addPerson_71 : decode cX0_addPerson 71 = .ok (.putfield 27, 3) := by decide +kernel
theorem dX0_addPerson_74 : decode cX0_addPerson 74 = .ok (.iconst 1, 1) := by decide +kernel
theorem dX0_addPerson_75 : decode cX0_addPerson 75 = .ok (.ireturn, 1) := by decide +kernel
theorem dX0_setFriend_0 : decode cX0_setFriend 0 = .ok (.aload_n 0, 1) := by decide +kernel
theorem dX0_setFriend_1 : decode cX0_setFriend 1 = .ok (.iload_n 1, 1) := by decide +kernel
theorem dX0_setFriend_2 : decode cX0_setFriend 2 = .ok (.invokevirtual 49, 3) := by decide +kernel
theorem dX0_setFriend_5 : decode cX0_setFriend 5 = .ok (.ifCond .eq 13, 3) := by decide +kernel
theorem dX0_setFriend_8 : decode cX0_setFriend 8 = .ok (.iload_n 2, 1) := by decide +kernel
theorem dX0_setFriend_9 : decode cX0_setFriend 9 = .ok (.ifCond .lt 9, 3) := by decide +kernel
theorem dX0_setFriend_12 : decode cX0_setFriend 12 = .ok (.iload_n 2, 1) := by decide +kernel
theorem dX0_setFriend_13 : decode cX0_setFriend 13 = .ok (.bipush 6, 2) := by decide +kernel
theorem dX0_setFriend_15 : decode cX0_setFriend 15 = .ok (.if_icmp .lt 5, 3) := by decide +kernel
theorem dX0_setFriend_18 : decode cX0_setFriend 18 = .ok (.iconst 0, 1) := by decide +kernel
theorem dX0_setFriend_19 : decode cX0_setFriend 19 = .ok (.ireturn, 1) := by decide +kernel
theorem dX0_setFriend_20 : decode cX0_setFriend 20 = .ok (.aload_n 0, 1) := by decide +kernel
theorem dX0_setFriend_21 : decode cX0_setFriend 21 = .ok (.getfield 24, 3) := by decide +kernel
theorem dX0_setFriend_24 : decode cX0_setFriend 24 = .ok (.iload_n 1, 1) := by decide +kernel
theorem dX0_setFriend_25 : decode cX0_setFriend 25 = .ok (.iload_n 2, 1) := by decide +kernel
theorem dX0_setFriend_26 : decode cX0_setFriend 26 = .ok (.iastore, 1) := by decide +kernel
theorem dX0_setFriend_27 : decode cX0_setFriend 27 = .ok (.iconst 1, 1) := by decide +kernel
theorem dX0_setFriend_28 : decode cX0_setFriend 28 = .ok (.ireturn, 1) := by decide +kernel
theorem dX0_setHas_0 : decode cX0_setHas 0 = .ok (.aload_n 0, 1) := by decide +kernel
theorem dX0_setHas_1 : decode cX0_setHas 1 = .ok (.iload_n 1, 1) := by decide +kernel
theorem dX0_setHas_2 : decode cX0_setHas 2 = .ok (.invokevirtual 49, 3) := by decide +kernel
theorem dX0_setHas_5 : decode cX0_setHas 5 = .ok (.ifCond .eq 13, 3) := by decide +kernel
theorem dX0_setHas_8 : decode cX0_setHas 8 = .ok (.iload_n 2, 1) := by decide +kernel
theorem dX0_setHas_9 : decode cX0_setHas 9 = .ok (.ifCond .lt 9, 3) := by decide +kernel
theorem dX0_setHas_12 : decode cX0_setHas 12 = .ok (.iload_n 2, 1) := by decide +kernel
theorem dX0_setHas_13 : decode cX0_setHas 13 = .ok (.bipush 99, 2) := by decide +kernel
theorem dX0_setHas_15 : decode cX0_setHas 15 = .ok (.if_icmp .le 5, 3) := by decide +kernel
theorem dX0_setHas_18 : decode cX0_setHas 18 = .ok (.iconst 0, 1) := by decide +kernel
theorem dX0_setHas_19 : decode cX0_setHas 19 = .ok (.ireturn, 1) := by decide +kernel
theorem dX0_setHas_20 : decode cX0_setHas 20 = .ok (.aload_n 0, 1) := by decide +kernel
theorem dX0_setHas_21 : decode cX0_setHas 21 = .ok (.getfield 21, 3) := by decide +kernel
theorem dX0_setHas_24 : decode cX0_setHas 24 = .ok (.iload_n 1, 1) := by decide +kernel
theorem dX0_setHas_25 : decode cX0_setHas 25 = .ok (.iload_n 2, 1) := by decide +kernel
theorem dX0_setHas_26 : decode cX0_setHas 26 = .ok (.iastore, 1) := by decide +kernel
theorem dX0_setHas_27 : decode cX0_setHas 27 = .ok (.iconst 1, 1) := by decide +kernel
theorem dX0_setHas_28 : decode cX0_setHas 28 = .ok (.ireturn, 1) := by decide +kernel
theorem dX0_setWater_0 : decode cX0_setWater 0 = .ok (.iload_n 1, 1) := by decide +kernel
theorem dX0_setWater_1 : decode cX0_setWater 1 = .ok (.ifCond .lt 9, 3) := by decide +kernel
theorem dX0_setWater_4 : decode cX0_setWater 4 = .ok (.iload_n 1, 1) := by decide +kernel
theorem dX0_setWater_5 : decode cX0_setWater 5 = .ok (.bipush 99, 2) := by decide +kernel
theorem dX0_setWater_7 : decode cX0_setWater 7 = .ok (.if_icmp .le 5, 3) := by decide +kernel
theorem dX0_setWater_10 : decode cX0_setWater 10 = .ok (.iconst 0, 1) := by decide +kernel
theorem dX0_setWater_11 : decode cX0_setWater 11 = .ok (.ireturn, 1) := by decide +kernel
theorem dX0_setWater_12 : decode cX0_setWater 12 = .ok (.aload_n 0, 1) := by decide +kernel
theorem dX0_setWater_13 : decode cX0_setWater 13 = .ok (.iload_n 1, 1) := by decide +kernel
theorem dX0_setWater_14 : decode cX0_setWater 14 = .ok (.putfield 31, 3) := by decide +kernel
theorem dX0_setWater_17 : decode cX0_setWater 17 = .ok (.iconst 1, 1) := by decide +kernel
theorem dX0_setWater_18 : decode cX0_setWater 18 = .ok (.ireturn, 1) := by decide +kernel
theorem dX0_setFlow_0 : decode cX0_setFlow 0 = .ok (.iload_n 1, 1) := by decide +kernel
theorem dX0_setFlow_1 : decode cX0_setFlow 1 = .ok (.ifCond .lt 9, 3) := by decide +kernel
theorem dX0_setFlow_4 : decode cX0_setFlow 4 = .ok (.iload_n 1, 1) := by decide +kernel
theorem dX0_setFlow_5 : decode cX0_setFlow 5 = .ok (.bipush 30, 2) := by decide +kernel
theorem dX0_setFlow_7 : decode cX0_setFlow 7 = .ok (.if_icmp .le 5, 3) := by decide +kernel
theorem dX0_setFlow_10 : decode cX0_setFlow 10 = .ok (.iconst 0, 1) := by decide +kernel
theorem dX0_setFlow_11 : decode cX0_setFlow 11 = .ok (.ireturn, 1) := by decide +kernel
theorem dX0_setFlow_12 : decode cX0_setFlow 12 = .ok (.aload_n 0, 1) := by decide +kernel
theorem dX0_setFlow_13 : decode cX0_setFlow 13 = .ok (.iload_n 1, 1) := by decide +kernel
theorem dX0_setFlow_14 : decode cX0_setFlow 14 = .ok (.putfield 34, 3) := by decide +kernel
theorem dX0_setFlow_17 : decode cX0_setFlow 17 = .ok (.iconst 1, 1) := by decide +kernel
theorem dX0_setFlow_18 : decode cX0_setFlow 18 = .ok (.ireturn, 1) := by decide +kernel
theorem dX0_letSpeak_0 : decode cX0_letSpeak 0 = .ok (.aload_n 0, 1) := by decide +kernel
theorem dX0_letSpeak_1 : decode cX0_letSpeak 1 = .ok (.iload_n 1, 1) := by decide +kernel
theorem dX0_letSpeak_2 : decode cX0_letSpeak 2 = .ok (.invokevirtual 49, 3) := by decide +kernel
theorem dX0_letSpeak_5 : decode cX0_letSpeak 5 = .ok (.ifCond .ne 5, 3) := by decide +kernel
theorem dX0_letSpeak_8 : decode cX0_letSpeak 8 = .ok (.iconst 0, 1) := by decide +kernel
theorem dX0_letSpeak_9 : decode cX0_letSpeak 9 = .ok (.ireturn, 1) := by decide +kernel
theorem dX0_letSpeak_10 : decode cX0_letSpeak 10 = .ok (.aload_n 0, 1) := by decide +kernel
theorem dX0_letSpeak_11 : decode cX0_letSpeak 11 = .ok (.dup, 1) := by decide +kernel
theorem dX0_letSpeak_12 : decode cX0_letSpeak 12 = .ok (.getfield 40, 3) := by decide +kernel
theorem dX0_letSpeak_15 : decode cX0_letSpeak 15 = .ok (.iconst 1, 1) := by decide +kernel
theorem dX0_letSpeak_16 : decode cX0_letSpeak 16 = .ok (.iload_n 1, 1) := by decide +kernel
theorem dX0_letSpeak_17 : decode cX0_letSpeak 17 = .ok (.ishl, 1) := by decide +kernel
theorem dX0_letSpeak_18 : decode cX0_letSpeak 18 = .ok (.ior, 1) := by decide +kernel
theorem dX0_letSpeak_19 : decode cX0_letSpeak 19 = .ok (.putfield 40, 3) := by decide +kernel
theorem dX0_letSpeak_22 : decode cX0_letSpeak 22 = .ok (.iconst 1, 1) := by decide +kernel
theorem dX0_letSpeak_23 : decode cX0_letSpeak 23 = .ok (.ireturn, 1) := by decide +kernel
theorem dX0_everybody_0 : decode cX0_everybody 0 = .ok (.iconst 1, 1) := by decide +kernel
theorem dX0_everybody_1 : decode cX0_everybody 1 = .ok (.aload_n 0, 1) := by decide +kernel
theorem dX0_everybody_2 : decode cX0_everybody 2 = .ok (.getfield 27, 3) := by decide +kernel
theorem dX0_everybody_5 : decode cX0_everybody 5 = .ok (.ishl, 1) := by decide +kernel
theorem dX0_everybody_6 : decode cX0_everybody 6 = .ok (.iconst 1, 1) := by decide +kernel
theorem dX0_everybody_7 : decode cX0_everybody 7 = .ok (.isub, 1) := by decide +kernel
theorem dX0_everybody_8 : decode cX0_everybody 8 = .ok (.ireturn, 1) := by decide +kernel
theorem dX0_hasSpoken_0 : decode cX0_hasSpoken 0 = .ok (.aload_n 0, 1) := by decide +kernel
theorem dX0_hasSpoken_1 : decode cX0_hasSpoken 1 = .ok (.getfield 40, 3) := by decide +kernel
theorem dX0_hasSpoken_4 : decode cX0_hasSpoken 4 = .ok (.iload_n 1, 1) := by decide +kernel
theorem dX0_hasSpoken_5 : decode cX0_hasSpoken 5 = .ok (.ishr, 1) := by decide +kernel
theorem dX0_hasSpoken_6 : decode cX0_hasSpoken 6 = .ok (.iconst 1, 1) := by decide +kernel
theorem dX0_hasSpoken_7 : decode cX0_hasSpoken 7 = .ok (.iand, 1) := by decide +kernel
theorem dX0_hasSpoken_8 : decode cX0_hasSpoken 8 = .ok (.iconst 1, 1) := by decide +kernel
theorem dX0_hasSpoken_9 : decode cX0_hasSpoken 9 = .ok (.if_icmp .ne 7, 3) := by decide +kernel
theorem dX0_hasSpoken_12 : decode cX0_hasSpoken 12 = .ok (.iconst 1, 1) := by decide +kernel
theorem dX0_hasSpoken_13 : decode cX0_hasSpoken 13 = .ok (.goto 4, 3) := by decide +kernel
theorem dX0_hasSpoken_16 : decode cX0_hasSpoken 16 = .ok (.iconst 0, 1) := by decide +kernel
theorem dX0_hasSpoken_17 : decode cX0_hasSpoken 17 = .ok (.ireturn, 1) := by decide +kernel
theorem dX0_hasDrawn_0 : decode cX0_hasDrawn 0 = .ok (.aload_n 0, 1) := by decide +kernel
theorem dX0_hasDrawn_1 : decode cX0_hasDrawn 1 = .ok (.getfield 43, 3) := by decide +kernel
theorem dX0_hasDrawn_4 : decode cX0_hasDrawn 4 = .ok (.iload_n 1, 1) := by decide +kernel
theorem dX0_hasDrawn_5 : decode cX0_hasDrawn 5 = .ok (.ishr, 1) := by decide +kernel
theorem dX0_hasDrawn_6 : decode cX0_hasDrawn 6 = .ok (.iconst 1, 1) := by decide +kernel
theorem dX0_hasDrawn_7 : decode cX0_hasDrawn 7 = .ok (.iand, 1) := by decide +kernel
theorem dX0_hasDrawn_8 : decode cX0_hasDrawn 8 = .ok (.iconst 1, 1) := by decide +kernel
theorem dX0_hasDrawn_9 : decode cX0_hasDrawn 9 = .ok (.if_icmp .ne 7, 3) := by decide +kernel
theorem dX0_hasDrawn_12 : decode cX0_hasDrawn 12 = .ok (.iconst 1, 1) := by decide +kernel
theorem dX0_hasDrawn_13 : decode cX0_hasDrawn 13 = .ok (.goto 4, 3) := by decide +kernel
theorem dX0_hasDrawn_16 : decode cX0_hasDrawn 16 = .ok (.iconst 0, 1) := by decide +kernel
theorem dX0_hasDrawn_17 : decode cX0_hasDrawn 17 = .ok (.ireturn, 1) := by decide +kernel
theorem dX0_isHushed_0 : decode cX0_isHushed 0 = .ok (.aload_n 0, 1) := by decide +kernel
theorem dX0_isHushed_1 : decode cX0_isHushed 1 = .ok (.getfield 46, 3) := by decide +kernel
theorem dX0_isHushed_4 : decode cX0_isHushed 4 = .ok (.iload_n 1, 1) := by decide +kernel
theorem dX0_isHushed_5 : decode cX0_isHushed 5 = .ok (.ishr, 1) := by decide +kernel
theorem dX0_isHushed_6 : decode cX0_isHushed 6 = .ok (.iconst 1, 1) := by decide +kernel
theorem dX0_isHushed_7 : decode cX0_isHushed 7 = .ok (.iand, 1) := by decide +kernel
theorem dX0_isHushed_8 : decode cX0_isHushed 8 = .ok (.iconst 1, 1) := by decide +kernel
theorem dX0_isHushed_9 : decode cX0_isHushed 9 = .ok (.if_icmp .ne 7, 3) := by decide +kernel
theorem dX0_isHushed_12 : decode cX0_isHushed 12 = .ok (.iconst 1, 1) := by decide +kernel
theorem dX0_isHushed_13 : decode cX0_isHushed 13 = .ok (.goto 4, 3) := by decide +kernel
theorem dX0_isHushed_16 : decode cX0_isHushed 16 = .ok (.iconst 0, 1) := by decide +kernel
theorem dX0_isHushed_17 : decode cX0_isHushed 17 = .ok (.ireturn, 1) := by decide +kernel
theorem dX0_speakingHour_0 : decode cX0_speakingHour 0 = .ok (.aload_n 0, 1) := by decide +kernel
theorem dX0_speakingHour_1 : decode cX0_speakingHour 1 = .ok (.getfield 15, 3) := by decide +kernel
theorem dX0_speakingHour_4 : decode cX0_speakingHour 4 = .ok (.iload_n 1, 1) := by decide +kernel
theorem dX0_speakingHour_5 : decode cX0_speakingHour 5 = .ok (.iaload, 1) := by decide +kernel
theorem dX0_speakingHour_6 : decode cX0_speakingHour 6 = .ok (.iconst 2, 1) := by decide +kernel
theorem dX0_speakingHour_7 : decode cX0_speakingHour 7 = .ok (.idiv, 1) := by decide +kernel
theorem dX0_speakingHour_8 : decode cX0_speakingHour 8 = .ok (.iconst 1, 1) := by decide +kernel
theorem dX0_speakingHour_9 : decode cX0_speakingHour 9 = .ok (.iadd, 1) := by decide +kernel
theorem dX0_speakingHour_10 : decode cX0_speakingHour 10 = .ok (.istore_n 2, 1) := by decide +kernel
theorem dX0_speakingHour_11 : decode cX0_speakingHour 11 = .ok (.bipush 12, 2) := by decide +kernel
theorem dX0_speakingHour_13 : decode cX0_speakingHour 13 = .ok (.iload_n 2, 1) := by decide +kernel
theorem dX0_speakingHour_14 : decode cX0_speakingHour 14 = .ok (.iconst 3, 1) := by decide +kernel
theorem dX0_speakingHour_15 : decode cX0_speakingHour 15 = .ok (.iadd, 1) := by decide +kernel
theorem dX0_speakingHour_16 : decode cX0_speakingHour 16 = .ok (.invokestatic 53, 3) := by decide +kernel
theorem dX0_speakingHour_19 : decode cX0_speakingHour 19 = .ok (.istore_n 3, 1) := by decide +kernel
theorem dX0_speakingHour_20 : decode cX0_speakingHour 20 = .ok (.aload_n 0, 1) := by decide +kernel
theorem dX0_speakingHour_21 : decode cX0_speakingHour 21 = .ok (.getfield 9, 3) := by decide +kernel
theorem dX0_speakingHour_24 : decode cX0_speakingHour 24 = .ok (.iload_n 1, 1) := by decide +kernel
theorem dX0_speakingHour_25 : decode cX0_speakingHour 25 = .ok (.iaload, 1) := by decide +kernel
theorem dX0_speakingHour_26 : decode cX0_speakingHour 26 = .ok (.tableswitch 52 1 5 #[34, 36, 38, 41, 50], 34) := by decide +kernel
theorem dX0_speakingHour_60 : decode cX0_speakingHour 60 = .ok (.iload_n 3, 1) := by decide +kernel
theorem dX0_speakingHour_61 : decode cX0_speakingHour 61 = .ok (.ireturn, 1) := by decide +kernel
theorem dX0_speakingHour_62 : decode cX0_speakingHour 62 = .ok (.iconst 0, 1) := by decide +kernel
theorem dX0_speakingHour_63 : decode cX0_speakingHour 63 = .ok (.ireturn, 1) := by decide +kernel
theorem dX0_speakingHour_64 : decode cX0_speakingHour 64 = .ok (.bipush 12, 2) := by decide +kernel
theorem dX0_speakingHour_66 : decode cX0_speakingHour 66 = .ok (.ireturn, 1) := by decide +kernel
theorem dX0_speakingHour_67 : decode cX0_speakingHour 67 = .ok (.bipush 12, 2) := by decide +kernel
theorem dX0_speakingHour_69 : decode cX0_speakingHour 69 = .ok (.iconst 2, 1) := by decide +kernel
theorem dX0_speakingHour_70 : decode cX0_speakingHour 70 = .ok (.iload_n 3, 1) := by decide +kernel
theorem dX0_speakingHour_71 : decode cX0_speakingHour 71 = .ok (.imul, 1) := by decide +kernel
theorem dX0_speakingHour_72 : decode cX0_speakingHour 72 = .ok (.invokestatic 53, 3) := by decide +kernel
theorem dX0_speakingHour_75 : decode cX0_speakingHour 75 = .ok (.ireturn, 1) := by decide +kernel
theorem dX0_speakingHour_76 : decode cX0_speakingHour 76 = .ok (.iconst 0, 1) := by decide +kernel
theorem dX0_speakingHour_77 : decode cX0_speakingHour 77 = .ok (.ireturn, 1) := by decide +kernel
theorem dX0_speakingHour_78 : decode cX0_speakingHour 78 = .ok (.iload_n 2, 1) := by decide +kernel
theorem dX0_speakingHour_79 : decode cX0_speakingHour 79 = .ok (.ireturn, 1) := by decide +kernel
theorem dX0_drinkOf_0 : decode cX0_drinkOf 0 = .ok (.iconst 3, 1) := by decide +kernel
theorem dX0_drinkOf_1 : decode cX0_drinkOf 1 = .ok (.istore_n 2, 1) := by decide +kernel
theorem dX0_drinkOf_2 : decode cX0_drinkOf 2 = .ok (.iconst 2, 1) := by decide +kernel
theorem dX0_drinkOf_3 : decode cX0_drinkOf 3 = .ok (.istore_n 3, 1) := by decide +kernel
theorem dX0_drinkOf_4 : decode cX0_drinkOf 4 = .ok (.aload_n 0, 1) := by decide +kernel
theorem dX0_drinkOf_5 : decode cX0_drinkOf 5 = .ok (.getfield 9, 3) := by decide +kernel
theorem dX0_drinkOf_8 : decode cX0_drinkOf 8 = .ok (.iload_n 1, 1) := by decide +kernel
theorem dX0_drinkOf_9 : decode cX0_drinkOf 9 = .ok (.iaload, 1) := by decide +kernel
theorem dX0_drinkOf_10 : decode cX0_drinkOf 10 = .ok (.tableswitch 50 1 5 #[34, 36, 40, 42, 46], 34) := by decide +kernel
theorem dX0_drinkOf_44 : decode cX0_drinkOf 44 = .ok (.iload_n 3, 1) := by decide +kernel
theorem dX0_drinkOf_45 : decode cX0_drinkOf 45 = .ok (.ireturn, 1) := by decide +kernel
theorem dX0_drinkOf_46 : decode cX0_drinkOf 46 = .ok (.iload_n 2, 1) := by decide +kernel
theorem dX0_drinkOf_47 : decode cX0_drinkOf 47 = .ok (.iconst 1, 1) := by decide +kernel
theorem dX0_drinkOf_48 : decode cX0_drinkOf 48 = .ok (.iadd, 1) := by decide +kernel
theorem dX0_drinkOf_49 : decode cX0_drinkOf 49 = .ok (.ireturn, 1) := by decide +kernel
theorem dX0_drinkOf_50 : decode cX0_drinkOf 50 = .ok (.iload_n 3, 1) := by decide +kernel
theorem dX0_drinkOf_51 : decode cX0_drinkOf 51 = .ok (.ireturn, 1) := by decide +kernel
theorem dX0_drinkOf_52 : decode cX0_drinkOf 52 = .ok (.iload_n 3, 1) := by decide +kernel
theorem dX0_drinkOf_53 : decode cX0_drinkOf 53 = .ok (.iconst 1, 1) := by decide +kernel
theorem dX0_drinkOf_54 : decode cX0_drinkOf 54 = .ok (.isub, 1) := by decide +kernel
theorem dX0_drinkOf_55 : decode cX0_drinkOf 55 = .ok (.ireturn, 1) := by decide +kernel
theorem dX0_drinkOf_56 : decode cX0_drinkOf 56 = .ok (.iload_n 2, 1) := by decide +kernel
theorem dX0_drinkOf_57 : decode cX0_drinkOf 57 = .ok (.iconst 1, 1) := by decide +kernel
theorem dX0_drinkOf_58 : decode cX0_drinkOf 58 = .ok (.iadd, 1) := by decide +kernel
theorem dX0_drinkOf_59 : decode cX0_drinkOf 59 = .ok (.ireturn, 1) := by decide +kernel
theorem dX0_drinkOf_60 : decode cX0_drinkOf 60 = .ok (.iload_n 2, 1) := by decide +kernel
theorem dX0_drinkOf_61 : decode cX0_drinkOf 61 = .ok (.ireturn, 1) := by decide +kernel
theorem dX0_drawsThoughSpoken_0 : decode cX0_drawsThoughSpoken 0 = .ok (.aload_n 0, 1) := by decide +kernel
theorem dX0_drawsThoughSpoken_1 : decode cX0_drawsThoughSpoken 1 = .ok (.getfield 9, 3) := by decide +kernel
theorem dX0_drawsThoughSpoken_4 : decode cX0_drawsThoughSpoken 4 = .ok (.iload_n 1, 1) := by decide +kernel
theorem dX0_drawsThoughSpoken_5 : decode cX0_drawsThoughSpoken 5 = .ok (.iaload, 1) := by decide +kernel
theorem dX0_drawsThoughSpoken_6 : decode cX0_drawsThoughSpoken 6 = .ok (.iconst 5, 1) := by decide +kernel
theorem dX0_drawsThoughSpoken_7 : decode cX0_drawsThoughSpoken 7 = .ok (.if_icmp .ne 15, 3) := by decide +kernel
theorem dX0_drawsThoughSpoken_10 : decode cX0_drawsThoughSpoken 10 = .ok (.aload_n 0, 1) := by decide +kernel
theorem dX0_drawsThoughSpoken_11 : decode cX0_drawsThoughSpoken 11 = .ok (.iload_n 1, 1) := by decide +kernel
theorem dX0_drawsThoughSpoken_12 : decode cX0_drawsThoughSpoken 12 = .ok (.invokevirtual 59, 3) := by decide +kernel
theorem dX0_drawsThoughSpoken_15 : decode cX0_drawsThoughSpoken 15 = .ok (.ifCond .ne 7, 3) := by decide +kernel
theorem dX0_drawsThoughSpoken_18 : decode cX0_drawsThoughSpoken 18 = .ok (.iconst 1, 1) := by decide +kernel
theorem dX0_drawsThoughSpoken_19 : decode cX0_drawsThoughSpoken 19 = .ok (.goto 4, 3) := by decide +kernel
theorem dX0_drawsThoughSpoken_22 : decode cX0_drawsThoughSpoken 22 = .ok (.iconst 0, 1) := by decide +kernel
theorem dX0_drawsThoughSpoken_23 : decode cX0_drawsThoughSpoken 23 = .ok (.ireturn, 1) := by decide +kernel
theorem dX0_mayPass_0 : decode cX0_mayPass 0 = .ok (.iload_n 1, 1) := by decide +kernel
theorem dX0_mayPass_1 : decode cX0_mayPass 1 = .ok (.iconst 1, 1) := by decide +kernel
theorem dX0_mayPass_2 : decode cX0_mayPass 2 = .ok (.if_icmp .lt 25, 3) := by decide +kernel
theorem dX0_mayPass_5 : decode cX0_mayPass 5 = .ok (.iload_n 1, 1) := by decide +kernel
theorem dX0_mayPass_6 : decode cX0_mayPass 6 = .ok (.bipush 60, 2) := by decide +kernel
theorem dX0_mayPass_8 : decode cX0_mayPass 8 = .ok (.if_icmp .gt 19, 3) := by decide +kernel
theorem dX0_mayPass_11 : decode cX0_mayPass 11 = .ok (.aload_n 0, 1) := by decide +kernel
theorem dX0_mayPass_12 : decode cX0_mayPass 12 = .ok (.getfield 37, 3) := by decide +kernel
theorem dX0_mayPass_15 : decode cX0_mayPass 15 = .ok (.iload_n 1, 1) := by decide +kernel
theorem dX0_mayPass_16 : decode cX0_mayPass 16 = .ok (.iadd, 1) := by decide +kernel
theorem dX0_mayPass_17 : decode cX0_mayPass 17 = .ok (.sipush 999, 3) := by decide +kernel
theorem dX0_mayPass_20 : decode cX0_mayPass 20 = .ok (.if_icmp .gt 7, 3) := by decide +kernel
theorem dX0_mayPass_23 : decode cX0_mayPass 23 = .ok (.iconst 1, 1) := by decide +kernel
theorem dX0_mayPass_24 : decode cX0_mayPass 24 = .ok (.goto 4, 3) := by decide +kernel
theorem dX0_mayPass_27 : decode cX0_mayPass 27 = .ok (.iconst 0, 1) := by decide +kernel
theorem dX0_mayPass_28 : decode cX0_mayPass 28 = .ok (.ireturn, 1) := by decide +kernel
theorem dX0_passHours_0 : decode cX0_passHours 0 = .ok (.iconst 0, 1) := by decide +kernel
theorem dX0_passHours_1 : decode cX0_passHours 1 = .ok (.istore_n 2, 1) := by decide +kernel
theorem dX0_passHours_2 : decode cX0_passHours 2 = .ok (.iload_n 2, 1) := by decide +kernel
theorem dX0_passHours_3 : decode cX0_passHours 3 = .ok (.iload_n 1, 1) := by decide +kernel
theorem dX0_passHours_4 : decode cX0_passHours 4 = .ok (.if_icmp .ge 14, 3) := by decide +kernel
theorem dX0_passHours_7 : decode cX0_passHours 7 = .ok (.aload_n 0, 1) := by decide +kernel
theorem dX0_passHours_8 : decode cX0_passHours 8 = .ok (.iconst 0, 1) := by decide +kernel
theorem dX0_passHours_9 : decode cX0_passHours 9 = .ok (.invokevirtual 62, 3) := by decide +kernel
theorem dX0_passHours_12 : decode cX0_passHours 12 = .ok (.iinc 2 1, 3) := by decide +kernel
theorem dX0_passHours_15 : decode cX0_passHours 15 = .ok (.goto (-13), 3) := by decide +kernel
theorem dX0_passHours_18 : decode cX0_passHours 18 = .ok (.return_, 1) := by decide +kernel
theorem dX0_passHour_0 : decode cX0_passHour 0 = .ok (.aload_n 0, 1) := by decide +kernel
theorem dX0_passHour_1 : decode cX0_passHour 1 = .ok (.getfield 37, 3) := by decide +kernel
theorem dX0_passHour_4 : decode cX0_passHour 4 = .ok (.bipush 12, 2) := by decide +kernel
theorem dX0_passHour_6 : decode cX0_passHour 6 = .ok (.irem, 1) := by decide +kernel
theorem dX0_passHour_7 : decode cX0_passHour 7 = .ok (.istore_n 2, 1) := by decide +kernel
theorem dX0_passHour_8 : decode cX0_passHour 8 = .ok (.iload_n 2, 1) := by decide +kernel
theorem dX0_passHour_9 : decode cX0_passHour 9 = .ok (.ifCond .ne 7, 3) := by decide +kernel
theorem dX0_passHour_12 : decode cX0_passHour 12 = .ok (.aload_n 0, 1) := by decide +kernel
theorem dX0_passHour_13 : decode cX0_passHour 13 = .ok (.invokevirtual 66, 3) := by decide +kernel
theorem dX0_passHour_16 : decode cX0_passHour 16 = .ok (.aload_n 0, 1) := by decide +kernel
theorem dX0_passHour_17 : decode cX0_passHour 17 = .ok (.dup, 1) := by decide +kernel
theorem dX0_passHour_18 : decode cX0_passHour 18 = .ok (.getfield 40, 3) := by decide +kernel
theorem dX0_passHour_21 : decode cX0_passHour 21 = .ok (.iload_n 1, 1) := by decide +kernel
theorem dX0_passHour_22 : decode cX0_passHour 22 = .ok (.ior, 1) := by decide +kernel
theorem dX0_passHour_23 : decode cX0_passHour 23 = .ok (.putfield 40, 3) := by decide +kernel
theorem dX0_passHour_26 : decode cX0_passHour 26 = .ok (.aload_n 0, 1) := by decide +kernel
theorem dX0_passHour_27 : decode cX0_passHour 27 = .ok (.iload_n 2, 1) := by decide +kernel
theorem dX0_passHour_28 : decode cX0_passHour 28 = .ok (.invokevirtual 69, 3) := by decide +kernel
theorem dX0_passHour_31 : decode cX0_passHour 31 = .ok (.iconst 0, 1) := by decide +kernel
theorem dX0_passHour_32 : decode cX0_passHour 32 = .ok (.istore_n 3, 1) := by decide +kernel
theorem dX0_passHour_33 : decode cX0_passHour 33 = .ok (.iload_n 3, 1) := by decide +kernel
theorem dX0_passHour_34 : decode cX0_passHour 34 = .ok (.aload_n 0, 1) := by decide +kernel
theorem dX0_passHour_35 : decode cX0_passHour 35 = .ok (.getfield 27, 3) := by decide +kernel
theorem dX0_passHour_38 : decode cX0_passHour 38 = .ok (.if_icmp .ge 22, 3) := by decide +kernel
theorem dX0_passHour_41 : decode cX0_passHour 41 = .ok (.aload_n 0, 1) := by decide +kernel
theorem dX0_passHour_42 : decode cX0_passHour 42 = .ok (.iload_n 3, 1) := by decide +kernel
theorem dX0_passHour_43 : decode cX0_passHour 43 = .ok (.invokevirtual 72, 3) := by decide +kernel
theorem dX0_passHour_46 : decode cX0_passHour 46 = .ok (.ifCond .eq 8, 3) := by decide +kernel
theorem dX0_passHour_49 : decode cX0_passHour 49 = .ok (.aload_n 0, 1) := by decide +kernel
theorem dX0_passHour_50 : decode cX0_passHour 50 = .ok (.iload_n 3, 1) := by decide +kernel
theorem dX0_passHour_51 : decode cX0_passHour 51 = .ok (.invokevirtual 75, 3) := by decide +kernel
theorem dX0_passHour_54 : decode cX0_passHour 54 = .ok (.iinc 3 1, 3) := by decide +kernel
theorem dX0_passHour_57 : decode cX0_passHour 57 = .ok (.goto (-24), 3) := by decide +kernel
theorem dX0_passHour_60 : decode cX0_passHour 60 = .ok (.iload_n 2, 1) := by decide +kernel
theorem dX0_passHour_61 : decode cX0_passHour 61 = .ok (.bipush 11, 2) := by decide +kernel
theorem dX0_passHour_63 : decode cX0_passHour 63 = .ok (.if_icmp .ne 7, 3) := by decide +kernel
theorem dX0_passHour_66 : decode cX0_passHour 66 = .ok (.aload_n 0, 1) := by decide +kernel
theorem dX0_passHour_67 : decode cX0_passHour 67 = .ok (.invokevirtual 78, 3) := by decide +kernel
theorem dX0_passHour_70 : decode cX0_passHour 70 = .ok (.aload_n 0, 1) := by decide +kernel
theorem dX0_passHour_71 : decode cX0_passHour 71 = .ok (.dup, 1) := by decide +kernel
theorem dX0_passHour_72 : decode cX0_passHour 72 = .ok (.getfield 37, 3) := by decide +kernel
theorem dX0_passHour_75 : decode cX0_passHour 75 = .ok (.iconst 1, 1) := by decide +kernel
theorem dX0_passHour_76 : decode cX0_passHour 76 = .ok (.iadd, 1) := by decide +kernel
theorem dX0_passHour_77 : decode cX0_passHour 77 = .ok (.putfield 37, 3) := by decide +kernel
theorem dX0_passHour_80 : decode cX0_passHour 80 = .ok (.return_, 1) := by decide +kernel
theorem dX0_passHourForDrawers_0 : decode cX0_passHourForDrawers 0 = .ok (.aload_n 0, 1) := by decide +kernel
theorem dX0_passHourForDrawers_1 : decode cX0_passHourForDrawers 1 = .ok (.getfield 37, 3) := by decide +kernel
theorem dX0_passHourForDrawers_4 : decode cX0_passHourForDrawers 4 = .ok (.bipush 12, 2) := by decide +kernel
theorem dX0_passHourForDrawers_6 : decode cX0_passHourForDrawers 6 = .ok (.irem, 1) := by decide +kernel
theorem dX0_passHourForDrawers_7 : decode cX0_passHourForDrawers 7 = .ok (.ifCond .ne 7, 3) := by decide +kernel
theorem dX0_passHourForDrawers_10 : decode cX0_passHourForDrawers 10 = .ok (.iconst 0, 1) := by decide +kernel
theorem dX0_passHourForDrawers_11 : decode cX0_passHourForDrawers 11 = .ok (.goto 7, 3) := by decide +kernel
theorem dX0_passHourForDrawers_14 : decode cX0_passHourForDrawers 14 = .ok (.aload_n 0, 1) := by decide +kernel
theorem dX0_passHourForDrawers_15 : decode cX0_passHourForDrawers 15 = .ok (.getfield 43, 3) := by decide +kernel
theorem dX0_passHourForDrawers_18 : decode cX0_passHourForDrawers 18 = .ok (.istore_n 1, 1) := by decide +kernel
theorem dX0_passHourForDrawers_19 : decode cX0_passHourForDrawers 19 = .ok (.aload_n 0, 1) := by decide +kernel
theorem dX0_passHourForDrawers_20 : decode cX0_passHourForDrawers 20 = .ok (.iconst 0, 1) := by decide +kernel
theorem dX0_passHourForDrawers_21 : decode cX0_passHourForDrawers 21 = .ok (.invokevirtual 62, 3) := by decide +kernel
theorem dX0_passHourForDrawers_24 : decode cX0_passHourForDrawers 24 = .ok (.aload_n 0, 1) := by decide +kernel
theorem dX0_passHourForDrawers_25 : decode cX0_passHourForDrawers 25 = .ok (.getfield 43, 3) := by decide +kernel
theorem dX0_passHourForDrawers_28 : decode cX0_passHourForDrawers 28 = .ok (.iload_n 1, 1) := by decide +kernel
theorem dX0_passHourForDrawers_29 : decode cX0_passHourForDrawers 29 = .ok (.iconst (-1), 1) := by decide +kernel
theorem dX0_passHourForDrawers_30 : decode cX0_passHourForDrawers 30 = .ok (.ixor, 1) := by decide +kernel
theorem dX0_passHourForDrawers_31 : decode cX0_passHourForDrawers 31 = .ok (.iand, 1) := by decide +kernel
theorem dX0_passHourForDrawers_32 : decode cX0_passHourForDrawers 32 = .ok (.ireturn, 1) := by decide +kernel
theorem dX0_beginDay_0 : decode cX0_beginDay 0 = .ok (.aload_n 0, 1) := by decide +kernel
theorem dX0_beginDay_1 : decode cX0_beginDay 1 = .ok (.iconst 0, 1) := by decide +kernel
theorem dX0_beginDay_2 : decode cX0_beginDay 2 = .ok (.putfield 40, 3) := by decide +kernel
theorem dX0_beginDay_5 : decode cX0_beginDay 5 = .ok (.aload_n 0, 1) := by decide +kernel
theorem dX0_beginDay_6 : decode cX0_beginDay 6 = .ok (.iconst 0, 1) := by decide +kernel
theorem dX0_beginDay_7 : decode cX0_beginDay 7 = .ok (.putfield 43, 3) := by decide +kernel
theorem dX0_beginDay_10 : decode cX0_beginDay 10 = .ok (.aload_n 0, 1) := by decide +kernel
theorem dX0_beginDay_11 : decode cX0_beginDay 11 = .ok (.bipush 99, 2) := by decide +kernel
theorem dX0_beginDay_13 : decode cX0_beginDay 13 = .ok (.aload_n 0, 1) := by decide +kernel
theorem dX0_beginDay_14 : decode cX0_beginDay 14 = .ok (.getfield 31, 3) := by decide +kernel
theorem dX0_beginDay_17 : decode cX0_beginDay 17 = .ok (.aload_n 0, 1) := by decide +kernel
theorem dX0_beginDay_18 : decode cX0_beginDay 18 = .ok (.getfield 34, 3) := by decide +kernel
theorem dX0_beginDay_21 : decode cX0_beginDay 21 = .ok (.iadd, 1) := by decide +kernel
theorem dX0_beginDay_22 : decode cX0_beginDay 22 = .ok (.invokestatic 53, 3) := by decide +kernel
theorem dX0_beginDay_25 : decode cX0_beginDay 25 = .ok (.putfield 31, 3) := by decide +kernel
theorem dX0_beginDay_28 : decode cX0_beginDay 28 = .ok (.return_, 1) := by decide +kernel
theorem dX0_letSpeakAt_0 : decode cX0_letSpeakAt 0 = .ok (.iconst 0, 1) := by decide +kernel
theorem dX0_letSpeakAt_1 : decode cX0_letSpeakAt 1 = .ok (.istore_n 2, 1) := by decide +kernel
theorem dX0_letSpeakAt_2 : decode cX0_letSpeakAt 2 = .ok (.iload_n 2, 1) := by decide +kernel
theorem dX0_letSpeakAt_3 : decode cX0_letSpeakAt 3 = .ok (.aload_n 0, 1) := by decide +kernel
theorem dX0_letSpeakAt_4 : decode cX0_letSpeakAt 4 = .ok (.getfield 27, 3) := by decide +kernel
theorem dX0_letSpeakAt_7 : decode cX0_letSpeakAt 7 = .ok (.if_icmp .ge 38, 3) := by decide +kernel
theorem dX0_letSpeakAt_10 : decode cX0_letSpeakAt 10 = .ok (.aload_n 0, 1) := by decide +kernel
theorem dX0_letSpeakAt_11 : decode cX0_letSpeakAt 11 = .ok (.iload_n 2, 1) := by decide +kernel
theorem dX0_letSpeakAt_12 : decode cX0_letSpeakAt 12 = .ok (.invokevirtual 59, 3) := by decide +kernel
theorem dX0_letSpeakAt_15 : decode cX0_letSpeakAt 15 = .ok (.ifCond .ne 24, 3) := by decide +kernel
theorem dX0_letSpeakAt_18 : decode cX0_letSpeakAt 18 = .ok (.aload_n 0, 1) := by decide +kernel
theorem dX0_letSpeakAt_19 : decode cX0_letSpeakAt 19 = .ok (.iload_n 2, 1) := by decide +kernel
theorem dX0_letSpeakAt_20 : decode cX0_letSpeakAt 20 = .ok (.invokevirtual 81, 3) := by decide +kernel
theorem dX0_letSpeakAt_23 : decode cX0_letSpeakAt 23 = .ok (.iload_n 1, 1) := by decide +kernel
theorem dX0_letSpeakAt_24 : decode cX0_letSpeakAt 24 = .ok (.if_icmp .ne 15, 3) := by decide +kernel
theorem dX0_letSpeakAt_27 : decode cX0_letSpeakAt 27 = .ok (.aload_n 0, 1) := by decide +kernel
theorem dX0_letSpeakAt_28 : decode cX0_letSpeakAt 28 = .ok (.dup, 1) := by decide +kernel
theorem dX0_letSpeakAt_29 : decode cX0_letSpeakAt 29 = .ok (.getfield 40, 3) := by decide +kernel
theorem dX0_letSpeakAt_32 : decode cX0_letSpeakAt 32 = .ok (.iconst 1, 1) := by decide +kernel
theorem dX0_letSpeakAt_33 : decode cX0_letSpeakAt 33 = .ok (.iload_n 2, 1) := by decide +kernel
theorem dX0_letSpeakAt_34 : decode cX0_letSpeakAt 34 = .ok (.ishl, 1) := by decide +kernel
theorem dX0_letSpeakAt_35 : decode cX0_letSpeakAt 35 = .ok (.ior, 1) := by decide +kernel
theorem dX0_letSpeakAt_36 : decode cX0_letSpeakAt 36 = .ok (.putfield 40, 3) := by decide +kernel
theorem dX0_letSpeakAt_39 : decode cX0_letSpeakAt 39 = .ok (.iinc 2 1, 3) := by decide +kernel
theorem dX0_letSpeakAt_42 : decode cX0_letSpeakAt 42 = .ok (.goto (-40), 3) := by decide +kernel
theorem dX0_letSpeakAt_45 : decode cX0_letSpeakAt 45 = .ok (.return_, 1) := by decide +kernel
theorem dX0_mayDraw_0 : decode cX0_mayDraw 0 = .ok (.aload_n 0, 1) := by decide +kernel
theorem dX0_mayDraw_1 : decode cX0_mayDraw 1 = .ok (.iload_n 1, 1) := by decide +kernel
theorem dX0_mayDraw_2 : decode cX0_mayDraw 2 = .ok (.invokevirtual 85, 3) := by decide +kernel
theorem dX0_mayDraw_5 : decode cX0_mayDraw 5 = .ok (.ifCond .eq 11, 3) := by decide +kernel
theorem dX0_mayDraw_8 : decode cX0_mayDraw 8 = .ok (.aload_n 0, 1) := by decide +kernel
theorem dX0_mayDraw_9 : decode cX0_mayDraw 9 = .ok (.iload_n 1, 1) := by decide +kernel
theorem dX0_mayDraw_10 : decode cX0_mayDraw 10 = .ok (.invokevirtual 88, 3) := by decide +kernel
theorem dX0_mayDraw_13 : decode cX0_mayDraw 13 = .ok (.ifCond .eq 7, 3) := by decide +kernel
theorem dX0_mayDraw_16 : decode cX0_mayDraw 16 = .ok (.iconst 1, 1) := by decide +kernel
theorem dX0_mayDraw_17 : decode cX0_mayDraw 17 = .ok (.goto 4, 3) := by decide +kernel
theorem dX0_mayDraw_20 : decode cX0_mayDraw 20 = .ok (.iconst 0, 1) := by decide +kernel
theorem dX0_mayDraw_21 : decode cX0_mayDraw 21 = .ok (.istore_n 2, 1) := by decide +kernel
theorem dX0_mayDraw_22 : decode cX0_mayDraw 22 = .ok (.iload_n 2, 1) := by decide +kernel
theorem dX0_mayDraw_23 : decode cX0_mayDraw 23 = .ok (.ifCond .eq 26, 3) := by decide +kernel
theorem dX0_mayDraw_26 : decode cX0_mayDraw 26 = .ok (.aload_n 0, 1) := by decide +kernel
theorem dX0_mayDraw_27 : decode cX0_mayDraw 27 = .ok (.iload_n 1, 1) := by decide +kernel
theorem dX0_mayDraw_28 : decode cX0_mayDraw 28 = .ok (.invokevirtual 91, 3) := by decide +kernel
theorem dX0_mayDraw_31 : decode cX0_mayDraw 31 = .ok (.ifCond .ne 18, 3) := by decide +kernel
theorem dX0_mayDraw_34 : decode cX0_mayDraw 34 = .ok (.aload_n 0, 1) := by decide +kernel
theorem dX0_mayDraw_35 : decode cX0_mayDraw 35 = .ok (.getfield 21, 3) := by decide +kernel
theorem dX0_mayDraw_38 : decode cX0_mayDraw 38 = .ok (.iload_n 1, 1) := by decide +kernel
theorem dX0_mayDraw_39 : decode cX0_mayDraw 39 = .ok (.iaload, 1) := by decide +kernel
theorem dX0_mayDraw_40 : decode cX0_mayDraw 40 = .ok (.bipush 20, 2) := by decide +kernel
theorem dX0_mayDraw_42 : decode cX0_mayDraw 42 = .ok (.if_icmp .ge 7, 3) := by decide +kernel
theorem dX0_mayDraw_45 : decode cX0_mayDraw 45 = .ok (.iconst 1, 1) := by decide +kernel
theorem dX0_mayDraw_46 : decode cX0_mayDraw 46 = .ok (.goto 4, 3) := by decide +kernel
theorem dX0_mayDraw_49 : decode cX0_mayDraw 49 = .ok (.iconst 0, 1) := by decide +kernel
theorem dX0_mayDraw_50 : decode cX0_mayDraw 50 = .ok (.ireturn, 1) := by decide +kernel
theorem dX0_letDraw_0 : decode cX0_letDraw 0 = .ok (.aload_n 0, 1) := by decide +kernel
theorem dX0_letDraw_1 : decode cX0_letDraw 1 = .ok (.getfield 18, 3) := by decide +kernel
theorem dX0_letDraw_4 : decode cX0_letDraw 4 = .ok (.iload_n 1, 1) := by decide +kernel
theorem dX0_letDraw_5 : decode cX0_letDraw 5 = .ok (.iaload, 1) := by decide +kernel
theorem dX0_letDraw_6 : decode cX0_letDraw 6 = .ok (.aload_n 0, 1) := by decide +kernel
theorem dX0_letDraw_7 : decode cX0_letDraw 7 = .ok (.getfield 31, 3) := by decide +kernel
theorem dX0_letDraw_10 : decode cX0_letDraw 10 = .ok (.invokestatic 53, 3) := by decide +kernel
theorem dX0_letDraw_13 : decode cX0_letDraw 13 = .ok (.istore_n 2, 1) := by decide +kernel
theorem dX0_letDraw_14 : decode cX0_letDraw 14 = .ok (.iload_n 2, 1) := by decide +kernel
theorem dX0_letDraw_15 : decode cX0_letDraw 15 = .ok (.ifCond .gt 4, 3) := by decide +kernel
theorem dX0_letDraw_18 : decode cX0_letDraw 18 = .ok (.return_, 1) := by decide +kernel
theorem dX0_letDraw_19 : decode cX0_letDraw 19 = .ok (.aload_n 0, 1) := by decide +kernel
theorem dX0_letDraw_20 : decode cX0_letDraw 20 = .ok (.dup, 1) := by decide +kernel
theorem dX0_letDraw_21 : decode cX0_letDraw 21 = .ok (.getfield 31, 3) := by decide +kernel
theorem dX0_letDraw_24 : decode cX0_letDraw 24 = .ok (.iload_n 2, 1) := by decide +kernel
theorem dX0_letDraw_25 : decode cX0_letDraw 25 = .ok (.isub, 1) := by decide +kernel
theorem dX0_letDraw_26 : decode cX0_letDraw 26 = .ok (.putfield 31, 3) := by decide +kernel
theorem dX0_letDraw_29 : decode cX0_letDraw 29 = .ok (.aload_n 0, 1) := by decide +kernel
theorem dX0_letDraw_30 : decode cX0_letDraw 30 = .ok (.getfield 21, 3) := by decide +kernel
theorem dX0_letDraw_33 : decode cX0_letDraw 33 = .ok (.iload_n 1, 1) := by decide +kernel
theorem dX0_letDraw_34 : decode cX0_letDraw 34 = .ok (.dup2, 1) := by decide +kernel
theorem dX0_letDraw_35 : decode cX0_letDraw 35 = .ok (.iaload, 1) := by decide +kernel
theorem dX0_letDraw_36 : decode cX0_letDraw 36 = .ok (.iload_n 2, 1) := by decide +kernel
theorem dX0_letDraw_37 : decode cX0_letDraw 37 = .ok (.iadd, 1) := by decide +kernel
theorem dX0_letDraw_38 : decode cX0_letDraw 38 = .ok (.iastore, 1) := by decide +kernel
theorem dX0_letDraw_39 : decode cX0_letDraw 39 = .ok (.aload_n 0, 1) := by decide +kernel
theorem dX0_letDraw_40 : decode cX0_letDraw 40 = .ok (.dup, 1) := by decide +kernel
theorem dX0_letDraw_41 : decode cX0_letDraw 41 = .ok (.getfield 43, 3) := by decide +kernel
theorem dX0_letDraw_44 : decode cX0_letDraw 44 = .ok (.iconst 1, 1) := by decide +kernel
theorem dX0_letDraw_45 : decode cX0_letDraw 45 = .ok (.iload_n 1, 1) := by decide +kernel
theorem dX0_letDraw_46 : decode cX0_letDraw 46 = .ok (.ishl, 1) := by decide +kernel
theorem dX0_letDraw_47 : decode cX0_letDraw 47 = .ok (.ior, 1) := by decide +kernel
theorem dX0_letDraw_48 : decode cX0_letDraw 48 = .ok (.putfield 43, 3) := by decide +kernel
theorem dX0_letDraw_51 : decode cX0_letDraw 51 = .ok (.aload_n 0, 1) := by decide +kernel
theorem dX0_letDraw_52 : decode cX0_letDraw 52 = .ok (.iload_n 1, 1) := by decide +kernel
theorem dX0_letDraw_53 : decode cX0_letDraw 53 = .ok (.invokevirtual 94, 3) := by decide +kernel
theorem dX0_letDraw_56 : decode cX0_letDraw 56 = .ok (.ifCond .eq 43, 3) := by decide +kernel
theorem dX0_letDraw_59 : decode cX0_letDraw 59 = .ok (.aload_n 0, 1) := by decide +kernel
theorem dX0_letDraw_60 : decode cX0_letDraw 60 = .ok (.getfield 24, 3) := by decide +kernel
theorem dX0_letDraw_63 : decode cX0_letDraw 63 = .ok (.iload_n 1, 1) := by decide +kernel
theorem dX0_letDraw_64 : decode cX0_letDraw 64 = .ok (.iaload, 1) := by decide +kernel
theorem dX0_letDraw_65 : decode cX0_letDraw 65 = .ok (.istore_n 3, 1) := by decide +kernel
theorem dX0_letDraw_66 : decode cX0_letDraw 66 = .ok (.aload_n 0, 1) := by decide +kernel
theorem dX0_letDraw_67 : decode cX0_letDraw 67 = .ok (.getfield 21, 3) := by decide +kernel
theorem dX0_letDraw_70 : decode cX0_letDraw 70 = .ok (.iload_n 1, 1) := by decide +kernel
theorem dX0_letDraw_71 : decode cX0_letDraw 71 = .ok (.dup2, 1) := by decide +kernel
theorem dX0_letDraw_72 : decode cX0_letDraw 72 = .ok (.iaload, 1) := by decide +kernel
theorem dX0_letDraw_73 : decode cX0_letDraw 73 = .ok (.iload_n 2, 1) := by decide +kernel
theorem dX0_letDraw_74 : decode cX0_letDraw 74 = .ok (.iconst 2, 1) := by decide +kernel
theorem dX0_letDraw_75 : decode cX0_letDraw 75 = .ok (.idiv, 1) := by decide +kernel
theorem dX0_letDraw_76 : decode cX0_letDraw 76 = .ok (.isub, 1) := by decide +kernel
theorem dX0_letDraw_77 : decode cX0_letDraw 77 = .ok (.iastore, 1) := by decide +kernel
theorem dX0_letDraw_78 : decode cX0_letDraw 78 = .ok (.aload_n 0, 1) := by decide +kernel
theorem dX0_letDraw_79 : decode cX0_letDraw 79 = .ok (.getfield 21, 3) := by decide +kernel
theorem dX0_letDraw_82 : decode cX0_letDraw 82 = .ok (.iload_n 3, 1) := by decide +kernel
theorem dX0_letDraw_83 : decode cX0_letDraw 83 = .ok (.bipush 99, 2) := by decide +kernel
theorem dX0_letDraw_85 : decode cX0_letDraw 85 = .ok (.aload_n 0, 1) := by decide +kernel
theorem dX0_letDraw_86 : decode cX0_letDraw 86 = .ok (.getfield 21, 3) := by decide +kernel
theorem dX0_letDraw_89 : decode cX0_letDraw 89 = .ok (.iload_n 3, 1) := by decide +kernel
theorem dX0_letDraw_90 : decode cX0_letDraw 90 = .ok (.iaload, 1) := by decide +kernel
theorem dX0_letDraw_91 : decode cX0_letDraw 91 = .ok (.iload_n 2, 1) := by decide +kernel
theorem dX0_letDraw_92 : decode cX0_letDraw 92 = .ok (.iconst 2, 1) := by decide +kernel
theorem dX0_letDraw_93 : decode cX0_letDraw 93 = .ok (.idiv, 1) := by decide +kernel
theorem dX0_letDraw_94 : decode cX0_letDraw 94 = .ok (.iadd, 1) := by decide +kernel
theorem dX0_letDraw_95 : decode cX0_letDraw 95 = .ok (.invokestatic 53, 3) := by decide +kernel
theorem dX0_letDraw_98 : decode cX0_letDraw 98 = .ok (.iastore, 1) := by decide +kernel
theorem dX0_letDraw_99 : decode cX0_letDraw 99 = .ok (.return_, 1) := by decide +kernel
theorem dX0_givesToFriend_0 : decode cX0_givesToFriend 0 = .ok (.aload_n 0, 1) := by decide +kernel
theorem dX0_givesToFriend_1 : decode cX0_givesToFriend 1 = .ok (.getfield 24, 3) := by decide +kernel
theorem dX0_givesToFriend_4 : decode cX0_givesToFriend 4 = .ok (.iload_n 1, 1) := by decide +kernel
theorem dX0_givesToFriend_5 : decode cX0_givesToFriend 5 = .ok (.iaload, 1) := by decide +kernel
theorem dX0_givesToFriend_6 : decode cX0_givesToFriend 6 = .ok (.istore_n 2, 1) := by decide +kernel
theorem dX0_givesToFriend_7 : decode cX0_givesToFriend 7 = .ok (.iload_n 2, 1) := by decide +kernel
theorem dX0_givesToFriend_8 : decode cX0_givesToFriend 8 = .ok (.iload_n 1, 1) := by decide +kernel
theorem dX0_givesToFriend_9 : decode cX0_givesToFriend 9 = .ok (.if_icmp .eq 38, 3) := by decide +kernel
theorem dX0_givesToFriend_12 : decode cX0_givesToFriend 12 = .ok (.aload_n 0, 1) := by decide +kernel
theorem dX0_givesToFriend_13 : decode cX0_givesToFriend 13 = .ok (.iload_n 2, 1) := by decide +kernel
theorem dX0_givesToFriend_14 : decode cX0_givesToFriend 14 = .ok (.invokevirtual 49, 3) := by decide +kernel
theorem dX0_givesToFriend_17 : decode cX0_givesToFriend 17 = .ok (.ifCond .eq 30, 3) := by decide +kernel
theorem dX0_givesToFriend_20 : decode cX0_givesToFriend 20 = .ok (.aload_n 0, 1) := by decide +kernel
theorem dX0_givesToFriend_21 : decode cX0_givesToFriend 21 = .ok (.iload_n 2, 1) := by decide +kernel
theorem dX0_givesToFriend_22 : decode cX0_givesToFriend 22 = .ok (.invokevirtual 85, 3) := by decide +kernel
theorem dX0_givesToFriend_25 : decode cX0_givesToFriend 25 = .ok (.ifCond .eq 22, 3) := by decide +kernel
theorem dX0_givesToFriend_28 : decode cX0_givesToFriend 28 = .ok (.aload_n 0, 1) := by decide +kernel
theorem dX0_givesToFriend_29 : decode cX0_givesToFriend 29 = .ok (.getfield 21, 3) := by decide +kernel
theorem dX0_givesToFriend_32 : decode cX0_givesToFriend 32 = .ok (.iload_n 2, 1) := by decide +kernel
theorem dX0_givesToFriend_33 : decode cX0_givesToFriend 33 = .ok (.iaload, 1) := by decide +kernel
theorem dX0_givesToFriend_34 : decode cX0_givesToFriend 34 = .ok (.aload_n 0, 1) := by decide +kernel
theorem dX0_givesToFriend_35 : decode cX0_givesToFriend 35 = .ok (.getfield 21, 3) := by decide +kernel
theorem dX0_givesToFriend_38 : decode cX0_givesToFriend 38 = .ok (.iload_n 1, 1) := by decide +kernel
theorem dX0_givesToFriend_39 : decode cX0_givesToFriend 39 = .ok (.iaload, 1) := by decide +kernel
theorem dX0_givesToFriend_40 : decode cX0_givesToFriend 40 = .ok (.if_icmp .ge 7, 3) := by decide +kernel
theorem dX0_givesToFriend_43 : decode cX0_givesToFriend 43 = .ok (.iconst 1, 1) := by decide +kernel
theorem dX0_givesToFriend_44 : decode cX0_givesToFriend 44 = .ok (.goto 4, 3) := by decide +kernel
theorem dX0_givesToFriend_47 : decode cX0_givesToFriend 47 = .ok (.iconst 0, 1) := by decide +kernel
theorem dX0_givesToFriend_48 : decode cX0_givesToFriend 48 = .ok (.ireturn, 1) := by decide +kernel
theorem dX0_letDrink_0 : decode cX0_letDrink 0 = .ok (.iconst 0, 1) := by decide +kernel
theorem dX0_letDrink_1 : decode cX0_letDrink 1 = .ok (.istore_n 1, 1) := by decide +kernel
theorem dX0_letDrink_2 : decode cX0_letDrink 2 = .ok (.iload_n 1, 1) := by decide +kernel
theorem dX0_letDrink_3 : decode cX0_letDrink 3 = .ok (.aload_n 0, 1) := by decide +kernel
theorem dX0_letDrink_4 : decode cX0_letDrink 4 = .ok (.getfield 27, 3) := by decide +kernel
theorem dX0_letDrink_7 : decode cX0_letDrink 7 = .ok (.if_icmp .ge 31, 3) := by decide +kernel
theorem dX0_letDrink_10 : decode cX0_letDrink 10 = .ok (.aload_n 0, 1) := by decide +kernel
theorem dX0_letDrink_11 : decode cX0_letDrink 11 = .ok (.getfield 21, 3) := by decide +kernel
theorem dX0_letDrink_14 : decode cX0_letDrink 14 = .ok (.iload_n 1, 1) := by decide +kernel
theorem dX0_letDrink_15 : decode cX0_letDrink 15 = .ok (.iconst 0, 1) := by decide +kernel
theorem dX0_letDrink_16 : decode cX0_letDrink 16 = .ok (.aload_n 0, 1) := by decide +kernel
theorem dX0_letDrink_17 : decode cX0_letDrink 17 = .ok (.getfield 21, 3) := by decide +kernel
theorem dX0_letDrink_20 : decode cX0_letDrink 20 = .ok (.iload_n 1, 1) := by decide +kernel
theorem dX0_letDrink_21 : decode cX0_letDrink 21 = .ok (.iaload, 1) := by decide +kernel
theorem dX0_letDrink_22 : decode cX0_letDrink 22 = .ok (.aload_n 0, 1) := by decide +kernel
theorem dX0_letDrink_23 : decode cX0_letDrink 23 = .ok (.iload_n 1, 1) := by decide +kernel
theorem dX0_letDrink_24 : decode cX0_letDrink 24 = .ok (.invokevirtual 97, 3) := by decide +kernel
theorem dX0_letDrink_27 : decode cX0_letDrink 27 = .ok (.isub, 1) := by decide +kernel
theorem dX0_letDrink_28 : decode cX0_letDrink 28 = .ok (.invokestatic 100, 3) := by decide +kernel
theorem dX0_letDrink_31 : decode cX0_letDrink 31 = .ok (.iastore, 1) := by decide +kernel
theorem dX0_letDrink_32 : decode cX0_letDrink 32 = .ok (.iinc 1 1, 3) := by decide +kernel
theorem dX0_letDrink_35 : decode cX0_letDrink 35 = .ok (.goto (-33), 3) := by decide +kernel
theorem dX0_letDrink_38 : decode cX0_letDrink 38 = .ok (.return_, 1) := by decide +kernel
theorem dX0_giveToWell_0 : decode cX0_giveToWell 0 = .ok (.aload_n 0, 1) := by decide +kernel
theorem dX0_giveToWell_1 : decode cX0_giveToWell 1 = .ok (.bipush 99, 2) := by decide +kernel
theorem dX0_giveToWell_3 : decode cX0_giveToWell 3 = .ok (.aload_n 0, 1) := by decide +kernel
theorem dX0_giveToWell_4 : decode cX0_giveToWell 4 = .ok (.getfield 31, 3) := by decide +kernel
theorem dX0_giveToWell_7 : decode cX0_giveToWell 7 = .ok (.aload_n 0, 1) := by decide +kernel
theorem dX0_giveToWell_8 : decode cX0_giveToWell 8 = .ok (.getfield 21, 3) := by decide +kernel
theorem dX0_giveToWell_11 : decode cX0_giveToWell 11 = .ok (.iload_n 1, 1) := by decide +kernel
theorem dX0_giveToWell_12 : decode cX0_giveToWell 12 = .ok (.iaload, 1) := by decide +kernel
theorem dX0_giveToWell_13 : decode cX0_giveToWell 13 = .ok (.iadd, 1) := by decide +kernel
theorem dX0_giveToWell_14 : decode cX0_giveToWell 14 = .ok (.invokestatic 53, 3) := by decide +kernel
theorem dX0_giveToWell_17 : decode cX0_giveToWell 17 = .ok (.putfield 31, 3) := by decide +kernel
theorem dX0_giveToWell_20 : decode cX0_giveToWell 20 = .ok (.aload_n 0, 1) := by decide +kernel
theorem dX0_giveToWell_21 : decode cX0_giveToWell 21 = .ok (.getfield 21, 3) := by decide +kernel
theorem dX0_giveToWell_24 : decode cX0_giveToWell 24 = .ok (.iload_n 1, 1) := by decide +kernel
theorem dX0_giveToWell_25 : decode cX0_giveToWell 25 = .ok (.iconst 0, 1) := by decide +kernel
theorem dX0_giveToWell_26 : decode cX0_giveToWell 26 = .ok (.iastore, 1) := by decide +kernel
theorem dX0_giveToWell_27 : decode cX0_giveToWell 27 = .ok (.return_, 1) := by decide +kernel
theorem dX0_together_0 : decode cX0_together 0 = .ok (.iconst 0, 1) := by decide +kernel
theorem dX0_together_1 : decode cX0_together 1 = .ok (.istore_n 1, 1) := by decide +kernel
theorem dX0_together_2 : decode cX0_together 2 = .ok (.iconst 0, 1) := by decide +kernel
theorem dX0_together_3 : decode cX0_together 3 = .ok (.istore_n 2, 1) := by decide +kernel
theorem dX0_together_4 : decode cX0_together 4 = .ok (.iload_n 2, 1) := by decide +kernel
theorem dX0_together_5 : decode cX0_together 5 = .ok (.aload_n 0, 1) := by decide +kernel
theorem dX0_together_6 : decode cX0_together 6 = .ok (.getfield 27, 3) := by decide +kernel
theorem dX0_together_9 : decode cX0_together 9 = .ok (.if_icmp .ge 18, 3) := by decide +kernel
theorem dX0_together_12 : decode cX0_together 12 = .ok (.iload_n 1, 1) := by decide +kernel
theorem dX0_together_13 : decode cX0_together 13 = .ok (.aload_n 0, 1) := by decide +kernel
theorem dX0_together_14 : decode cX0_together 14 = .ok (.getfield 21, 3) := by decide +kernel
theorem dX0_together_17 : decode cX0_together 17 = .ok (.iload_n 2, 1) := by decide +kernel
theorem dX0_together_18 : decode cX0_together 18 = .ok (.iaload, 1) := by decide +kernel
theorem dX0_together_19 : decode cX0_together 19 = .ok (.iadd, 1) := by decide +kernel
theorem dX0_together_20 : decode cX0_together 20 = .ok (.istore_n 1, 1) := by decide +kernel
theorem dX0_together_21 : decode cX0_together 21 = .ok (.iinc 2 1, 3) := by decide +kernel
theorem dX0_together_24 : decode cX0_together 24 = .ok (.goto (-20), 3) := by decide +kernel
theorem dX0_together_27 : decode cX0_together 27 = .ok (.iload_n 1, 1) := by decide +kernel
theorem dX0_together_28 : decode cX0_together 28 = .ok (.ireturn, 1) := by decide +kernel
theorem dX0_leastHas_0 : decode cX0_leastHas 0 = .ok (.bipush 99, 2) := by decide +kernel
theorem dX0_leastHas_2 : decode cX0_leastHas 2 = .ok (.istore_n 1, 1) := by decide +kernel
theorem dX0_leastHas_3 : decode cX0_leastHas 3 = .ok (.iconst 0, 1) := by decide +kernel
theorem dX0_leastHas_4 : decode cX0_leastHas 4 = .ok (.istore_n 2, 1) := by decide +kernel
theorem dX0_leastHas_5 : decode cX0_leastHas 5 = .ok (.iload_n 2, 1) := by decide +kernel
theorem dX0_leastHas_6 : decode cX0_leastHas 6 = .ok (.aload_n 0, 1) := by decide +kernel
theorem dX0_leastHas_7 : decode cX0_leastHas 7 = .ok (.getfield 27, 3) := by decide +kernel
theorem dX0_leastHas_10 : decode cX0_leastHas 10 = .ok (.if_icmp .ge 20, 3) := by decide +kernel
theorem dX0_leastHas_13 : decode cX0_leastHas 13 = .ok (.iload_n 1, 1) := by decide +kernel
theorem dX0_leastHas_14 : decode cX0_leastHas 14 = .ok (.aload_n 0, 1) := by decide +kernel
theorem dX0_leastHas_15 : decode cX0_leastHas 15 = .ok (.getfield 21, 3) := by decide +kernel
theorem dX0_leastHas_18 : decode cX0_leastHas 18 = .ok (.iload_n 2, 1) := by decide +kernel
theorem dX0_leastHas_19 : decode cX0_leastHas 19 = .ok (.iaload, 1) := by decide +kernel
theorem dX0_leastHas_20 : decode cX0_leastHas 20 = .ok (.invokestatic 53, 3) := by decide +kernel
theorem dX0_leastHas_23 : decode cX0_leastHas 23 = .ok (.istore_n 1, 1) := by decide +kernel
theorem dX0_leastHas_24 : decode cX0_leastHas 24 = .ok (.iinc 2 1, 3) := by decide +kernel
theorem dX0_leastHas_27 : decode cX0_leastHas 27 = .ok (.goto (-22), 3) := by decide +kernel
theorem dX0_leastHas_30 : decode cX0_leastHas 30 = .ok (.iload_n 1, 1) := by decide +kernel
theorem dX0_leastHas_31 : decode cX0_leastHas 31 = .ok (.ireturn, 1) := by decide +kernel
theorem dX0_countDry_0 : decode cX0_countDry 0 = .ok (.aload_n 0, 1) := by decide +kernel
theorem dX0_countDry_1 : decode cX0_countDry 1 = .ok (.invokevirtual 103, 3) := by decide +kernel
theorem dX0_countDry_4 : decode cX0_countDry 4 = .ok (.invokestatic 107, 3) := by decide +kernel
theorem dX0_countDry_7 : decode cX0_countDry 7 = .ok (.ireturn, 1) := by decide +kernel
theorem dX0_dryPeople_0 : decode cX0_dryPeople 0 = .ok (.iconst 0, 1) := by decide +kernel
theorem dX0_dryPeople_1 : decode cX0_dryPeople 1 = .ok (.istore_n 1, 1) := by decide +kernel
theorem dX0_dryPeople_2 : decode cX0_dryPeople 2 = .ok (.iconst 0, 1) := by decide +kernel
theorem dX0_dryPeople_3 : decode cX0_dryPeople 3 = .ok (.istore_n 2, 1) := by decide +kernel
theorem dX0_dryPeople_4 : decode cX0_dryPeople 4 = .ok (.iload_n 2, 1) := by decide +kernel
theorem dX0_dryPeople_5 : decode cX0_dryPeople 5 = .ok (.aload_n 0, 1) := by decide +kernel
theorem dX0_dryPeople_6 : decode cX0_dryPeople 6 = .ok (.getfield 27, 3) := by decide +kernel
theorem dX0_dryPeople_9 : decode cX0_dryPeople 9 = .ok (.if_icmp .ge 24, 3) := by decide +kernel
theorem dX0_dryPeople_12 : decode cX0_dryPeople 12 = .ok (.aload_n 0, 1) := by decide +kernel
theorem dX0_dryPeople_13 : decode cX0_dryPeople 13 = .ok (.getfield 21, 3) := by decide +kernel
theorem dX0_dryPeople_16 : decode cX0_dryPeople 16 = .ok (.iload_n 2, 1) := by decide +kernel
theorem dX0_dryPeople_17 : decode cX0_dryPeople 17 = .ok (.iaload, 1) := by decide +kernel
theorem dX0_dryPeople_18 : decode cX0_dryPeople 18 = .ok (.ifCond .ne 9, 3) := by decide +kernel
theorem dX0_dryPeople_21 : decode cX0_dryPeople 21 = .ok (.iload_n 1, 1) := by decide +kernel
theorem dX0_dryPeople_22 : decode cX0_dryPeople 22 = .ok (.iconst 1, 1) := by decide +kernel
theorem dX0_dryPeople_23 : decode cX0_dryPeople 23 = .ok (.iload_n 2, 1) := by decide +kernel
theorem dX0_dryPeople_24 : decode cX0_dryPeople 24 = .ok (.ishl, 1) := by decide +kernel
theorem dX0_dryPeople_25 : decode cX0_dryPeople 25 = .ok (.ior, 1) := by decide +kernel
theorem dX0_dryPeople_26 : decode cX0_dryPeople 26 = .ok (.istore_n 1, 1) := by decide +kernel
theorem dX0_dryPeople_27 : decode cX0_dryPeople 27 = .ok (.iinc 2 1, 3) := by decide +kernel
theorem dX0_dryPeople_30 : decode cX0_dryPeople 30 = .ok (.goto (-26), 3) := by decide +kernel
theorem dX0_dryPeople_33 : decode cX0_dryPeople 33 = .ok (.iload_n 1, 1) := by decide +kernel
theorem dX0_dryPeople_34 : decode cX0_dryPeople 34 = .ok (.ireturn, 1) := by decide +kernel
theorem dX0_staysWet_0 : decode cX0_staysWet 0 = .ok (.iconst 0, 1) := by decide +kernel
theorem dX0_staysWet_1 : decode cX0_staysWet 1 = .ok (.istore_n 3, 1) := by decide +kernel
theorem dX0_staysWet_2 : decode cX0_staysWet 2 = .ok (.iload_n 3, 1) := by decide +kernel
theorem dX0_staysWet_3 : decode cX0_staysWet 3 = .ok (.iload_n 2, 1) := by decide +kernel
theorem dX0_staysWet_4 : decode cX0_staysWet 4 = .ok (.if_icmp .gt 25, 3) := by decide +kernel
theorem dX0_staysWet_7 : decode cX0_staysWet 7 = .ok (.aload_n 0, 1) := by decide +kernel
theorem dX0_staysWet_8 : decode cX0_staysWet 8 = .ok (.invokevirtual 103, 3) := by decide +kernel
theorem dX0_staysWet_11 : decode cX0_staysWet 11 = .ok (.iload_n 1, 1) := by decide +kernel
theorem dX0_staysWet_12 : decode cX0_staysWet 12 = .ok (.iand, 1) := by decide +kernel
theorem dX0_staysWet_13 : decode cX0_staysWet 13 = .ok (.ifCond .eq 5, 3) := by decide +kernel
theorem dX0_staysWet_16 : decode cX0_staysWet 16 = .ok (.iconst 0, 1) := by decide +kernel
theorem dX0_staysWet_17 : decode cX0_staysWet 17 = .ok (.ireturn, 1) := by decide +kernel
theorem dX0_staysWet_18 : decode cX0_staysWet 18 = .ok (.aload_n 0, 1) := by decide +kernel
theorem dX0_staysWet_19 : decode cX0_staysWet 19 = .ok (.iconst 0, 1) := by decide +kernel
theorem dX0_staysWet_20 : decode cX0_staysWet 20 = .ok (.invokevirtual 62, 3) := by decide +kernel
theorem dX0_staysWet_23 : decode cX0_staysWet 23 = .ok (.iinc 3 1, 3) := by decide +kernel
theorem dX0_staysWet_26 : decode cX0_staysWet 26 = .ok (.goto (-24), 3) := by decide +kernel
theorem dX0_staysWet_29 : decode cX0_staysWet 29 = .ok (.iconst 1, 1) := by decide +kernel
theorem dX0_staysWet_30 : decode cX0_staysWet 30 = .ok (.ireturn, 1) := by decide +kernel
theorem dX1_init_0 : decode cX1_init 0 = .ok (.aload_n 0, 1) := by decide +kernel
theorem dX1_init_1 : decode cX1_init 1 = .ok (.invokespecial 3, 3) := by decide +kernel
theorem dX1_init_4 : decode cX1_init 4 = .ok (.aload_n 0, 1) := by decide +kernel
theorem dX1_init_5 : decode cX1_init 5 = .ok (.bipush 96, 2) := by decide +kernel
theorem dX1_init_7 : decode cX1_init 7 = .ok (.newarray .int, 2) := by decide +kernel
theorem dX1_init_9 : decode cX1_init 9 = .ok (.putfield 9, 3) := by decide +kernel
theorem dX1_init_12 : decode cX1_init 12 = .ok (.aload_n 0, 1) := by decide +kernel
theorem dX1_init_13 : decode cX1_init 13 = .ok (.iconst 0, 1) := by decide +kernel
theorem dX1_init_14 : decode cX1_init 14 = .ok (.putfield 15, 3) := by decide +kernel
theorem dX1_init_17 : decode cX1_init 17 = .ok (.return_, 1) := by decide +kernel
theorem dX1_add_0 : decode cX1_add 0 = .ok (.aload_n 0, 1) := by decide +kernel
theorem dX1_add_1 : decode cX1_add 1 = .ok (.getfield 15, 3) := by decide +kernel
theorem dX1_add_4 : decode cX1_add 4 = .ok (.bipush 96, 2) := by decide +kernel
theorem dX1_add_6 : decode cX1_add 6 = .ok (.if_icmp .lt 5, 3) := by decide +kernel
theorem dX1_add_9 : decode cX1_add 9 = .ok (.iconst 0, 1) := by decide +kernel
theorem dX1_add_10 : decode cX1_add 10 = .ok (.ireturn, 1) := by decide +kernel
theorem dX1_add_11 : decode cX1_add 11 = .ok (.aload_n 0, 1) := by decide +kernel
theorem dX1_add_12 : decode cX1_add 12 = .ok (.getfield 9, 3) := by decide +kernel
theorem dX1_add_15 : decode cX1_add 15 = .ok (.aload_n 0, 1) := by decide +kernel
theorem dX1_add_16 : decode cX1_add 16 = .ok (.getfield 15, 3) := by decide +kernel
theorem dX1_add_19 : decode cX1_add 19 = .ok (.iload_n 1, 1) := by decide +kernel
theorem dX1_add_20 : decode cX1_add 20 = .ok (.iastore, 1) := by decide +kernel
theorem dX1_add_21 : decode cX1_add 21 = .ok (.aload_n 0, 1) := by decide +kernel
theorem dX1_add_22 : decode cX1_add 22 = .ok (.dup, 1) := by decide +kernel
theorem dX1_add_23 : decode cX1_add 23 = .ok (.getfield 15, 3) := by decide +kernel
theorem dX1_add_26 : decode cX1_add 26 = .ok (.iconst 1, 1) := by decide +kernel
theorem dX1_add_27 : decode cX1_add 27 = .ok (.iadd, 1) := by decide +kernel
theorem dX1_add_28 : decode cX1_add 28 = .ok (.putfield 15, 3) := by decide +kernel
theorem dX1_add_31 : decode cX1_add 31 = .ok (.iconst 1, 1) := by decide +kernel
theorem dX1_add_32 : decode cX1_add 32 = .ok (.ireturn, 1) := by decide +kernel
theorem dX1_forget_0 : decode cX1_forget 0 = .ok (.aload_n 0, 1) := by decide +kernel
theorem dX1_forget_1 : decode cX1_forget 1 = .ok (.iconst 0, 1) := by decide +kernel
theorem dX1_forget_2 : decode cX1_forget 2 = .ok (.putfield 15, 3) := by decide +kernel
theorem dX1_forget_5 : decode cX1_forget 5 = .ok (.return_, 1) := by decide +kernel
theorem dX1_firstWrongLetter_0 : decode cX1_firstWrongLetter 0 = .ok (.aload_n 0, 1) := by decide +kernel
theorem dX1_firstWrongLetter_1 : decode cX1_firstWrongLetter 1 = .ok (.getfield 15, 3) := by decide +kernel
theorem dX1_firstWrongLetter_4 : decode cX1_firstWrongLetter 4 = .ok (.ifCond .ne 5, 3) := by decide +kernel
theorem dX1_firstWrongLetter_7 : decode cX1_firstWrongLetter 7 = .ok (.iconst 0, 1) := by decide +kernel
theorem dX1_firstWrongLetter_8 : decode cX1_firstWrongLetter 8 = .ok (.ireturn, 1) := by decide +kernel
theorem dX1_firstWrongLetter_9 : decode cX1_firstWrongLetter 9 = .ok (.iconst 0, 1) := by decide +kernel
theorem dX1_firstWrongLetter_10 : decode cX1_firstWrongLetter 10 = .ok (.istore_n 1, 1) := by decide +kernel
theorem dX1_firstWrongLetter_11 : decode cX1_firstWrongLetter 11 = .ok (.iload_n 1, 1) := by decide +kernel
theorem dX1_firstWrongLetter_12 : decode cX1_firstWrongLetter 12 = .ok (.aload_n 0, 1) := by decide +kernel
theorem dX1_firstWrongLetter_13 : decode cX1_firstWrongLetter 13 = .ok (.getfield 15, 3) := by decide +kernel
theorem dX1_firstWrongLetter_16 : decode cX1_firstWrongLetter 16 = .ok (.if_icmp .ge 64, 3) := by decide +kernel
theorem dX1_firstWrongLetter_19 : decode cX1_firstWrongLetter 19 = .ok (.aload_n 0, 1) := by decide +kernel
theorem dX1_firstWrongLetter_20 : decode cX1_firstWrongLetter 20 = .ok (.iload_n 1, 1) := by decide +kernel
theorem dX1_firstWrongLetter_21 : decode cX1_firstWrongLetter 21 = .ok (.invokevirtual 19, 3) := by decide +kernel
theorem dX1_firstWrongLetter_24 : decode cX1_firstWrongLetter 24 = .ok (.invokestatic 23, 3) := by decide +kernel
theorem dX1_firstWrongLetter_27 : decode cX1_firstWrongLetter 27 = .ok (.astore_n 2, 1) := by decide +kernel
theorem dX1_firstWrongLetter_28 : decode cX1_firstWrongLetter 28 = .ok (.aload_n 2, 1) := by decide +kernel
theorem dX1_firstWrongLetter_29 : decode cX1_firstWrongLetter 29 = .ok (.invokevirtual 27, 3) := by decide +kernel
theorem dX1_firstWrongLetter_32 : decode cX1_firstWrongLetter 32 = .ok (.ifCond .eq 5, 3) := by decide +kernel
theorem dX1_firstWrongLetter_35 : decode cX1_firstWrongLetter 35 = .ok (.iload_n 1, 1) := by decide +kernel
theorem dX1_firstWrongLetter_36 : decode cX1_firstWrongLetter 36 = .ok (.ireturn, 1) := by decide +kernel
theorem dX1_firstWrongLetter_37 : decode cX1_firstWrongLetter 37 = .ok (.iinc 1 1, 3) := by decide +kernel
theorem dX1_firstWrongLetter_40 : decode cX1_firstWrongLetter 40 = .ok (.iconst 0, 1) := by decide +kernel
theorem dX1_firstWrongLetter_41 : decode cX1_firstWrongLetter 41 = .ok (.istore_n 3, 1) := by decide +kernel
theorem dX1_firstWrongLetter_42 : decode cX1_firstWrongLetter 42 = .ok (.iload_n 3, 1) := by decide +kernel
theorem dX1_firstWrongLetter_43 : decode cX1_firstWrongLetter 43 = .ok (.aload_n 2, 1) := by decide +kernel
theorem dX1_firstWrongLetter_44 : decode cX1_firstWrongLetter 44 = .ok (.invokevirtual 33, 3) := by decide +kernel
theorem dX1_firstWrongLetter_47 : decode cX1_firstWrongLetter 47 = .ok (.if_icmp .ge 30, 3) := by decide +kernel
theorem dX1_firstWrongLetter_50 : decode cX1_firstWrongLetter 50 = .ok (.aload_n 2, 1) := by decide +kernel
theorem dX1_firstWrongLetter_51 : decode cX1_firstWrongLetter 51 = .ok (.iload_n 3, 1) := by decide +kernel
theorem dX1_firstWrongLetter_52 : decode cX1_firstWrongLetter 52 = .ok (.invokevirtual 37, 3) := by decide +kernel
theorem dX1_firstWrongLetter_55 : decode cX1_firstWrongLetter 55 = .ok (.aload_n 0, 1) := by decide +kernel
theorem dX1_firstWrongLetter_56 : decode cX1_firstWrongLetter 56 = .ok (.iload_n 1, 1) := by decide +kernel
theorem dX1_firstWrongLetter_57 : decode cX1_firstWrongLetter 57 = .ok (.invokevirtual 19, 3) := by decide +kernel
theorem dX1_firstWrongLetter_60 : decode cX1_firstWrongLetter 60 = .ok (.invokestatic 41, 3) := by decide +kernel
theorem dX1_firstWrongLetter_63 : decode cX1_firstWrongLetter 63 = .ok (.ifCond .ne 5, 3) := by decide +kernel
theorem dX1_firstWrongLetter_66 : decode cX1_firstWrongLetter 66 = .ok (.iload_n 1, 1) := by decide +kernel
theorem dX1_firstWrongLetter_67 : decode cX1_firstWrongLetter 67 = .ok (.ireturn, 1) := by decide +kernel
theorem dX1_firstWrongLetter_68 : decode cX1_firstWrongLetter 68 = .ok (.iinc 1 1, 3) := by decide +kernel
theorem dX1_firstWrongLetter_71 : decode cX1_firstWrongLetter 71 = .ok (.iinc 3 1, 3) := by decide +kernel
theorem dX1_firstWrongLetter_74 : decode cX1_firstWrongLetter 74 = .ok (.goto (-32), 3) := by decide +kernel
theorem dX1_firstWrongLetter_77 : decode cX1_firstWrongLetter 77 = .ok (.goto (-66), 3) := by decide +kernel
theorem dX1_firstWrongLetter_80 : decode cX1_firstWrongLetter 80 = .ok (.bipush (-9), 2) := by decide +kernel
theorem dX1_firstWrongLetter_82 : decode cX1_firstWrongLetter 82 = .ok (.ireturn, 1) := by decide +kernel
theorem dX1_firstWrongStatement_0 : decode cX1_firstWrongStatement 0 = .ok (.iconst 0, 1) := by decide +kernel
theorem dX1_firstWrongStatement_1 : decode cX1_firstWrongStatement 1 = .ok (.istore_n 2, 1) := by decide +kernel
theorem dX1_firstWrongStatement_2 : decode cX1_firstWrongStatement 2 = .ok (.iload_n 2, 1) := by decide +kernel
theorem dX1_firstWrongStatement_3 : decode cX1_firstWrongStatement 3 = .ok (.aload_n 0, 1) := by decide +kernel
theorem dX1_firstWrongStatement_4 : decode cX1_firstWrongStatement 4 = .ok (.getfield 15, 3) := by decide +kernel
theorem dX1_firstWrongStatement_7 : decode cX1_firstWrongStatement 7 = .ok (.if_icmp .ge 33, 3) := by decide +kernel
theorem dX1_firstWrongStatement_10 : decode cX1_firstWrongStatement 10 = .ok (.aload_n 0, 1) := by decide +kernel
theorem dX1_firstWrongStatement_11 : decode cX1_firstWrongStatement 11 = .ok (.aload_n 1, 1) := by decide +kernel
theorem dX1_firstWrongStatement_12 : decode cX1_firstWrongStatement 12 = .ok (.iload_n 2, 1) := by decide +kernel
theorem dX1_firstWrongStatement_13 : decode cX1_firstWrongStatement 13 = .ok (.invokevirtual 45, 3) := by decide +kernel
theorem dX1_firstWrongStatement_16 : decode cX1_firstWrongStatement 16 = .ok (.ifCond .ne 5, 3) := by decide +kernel
theorem dX1_firstWrongStatement_19 : decode cX1_firstWrongStatement 19 = .ok (.iload_n 2, 1) := by decide +kernel
theorem dX1_firstWrongStatement_20 : decode cX1_firstWrongStatement 20 = .ok (.ireturn, 1) := by decide +kernel
theorem dX1_firstWrongStatement_21 : decode cX1_firstWrongStatement 21 = .ok (.iload_n 2, 1) := by decide +kernel
theorem dX1_firstWrongStatement_22 : decode cX1_firstWrongStatement 22 = .ok (.iconst 1, 1) := by decide +kernel
theorem dX1_firstWrongStatement_23 : decode cX1_firstWrongStatement 23 = .ok (.aload_n 0, 1) := by decide +kernel
theorem dX1_firstWrongStatement_24 : decode cX1_firstWrongStatement 24 = .ok (.iload_n 2, 1) := by decide +kernel
theorem dX1_firstWrongStatement_25 : decode cX1_firstWrongStatement 25 = .ok (.invokevirtual 19, 3) := by decide +kernel
theorem dX1_firstWrongStatement_28 : decode cX1_firstWrongStatement 28 = .ok (.invokestatic 23, 3) := by decide +kernel
theorem dX1_firstWrongStatement_31 : decode cX1_firstWrongStatement 31 = .ok (.invokevirtual 33, 3) := by decide +kernel
theorem dX1_firstWrongStatement_34 : decode cX1_firstWrongStatement 34 = .ok (.iadd, 1) := by decide +kernel
theorem dX1_firstWrongStatement_35 : decode cX1_firstWrongStatement 35 = .ok (.iadd, 1) := by decide +kernel
theorem dX1_firstWrongStatement_36 : decode cX1_firstWrongStatement 36 = .ok (.istore_n 2, 1) := by decide +kernel
theorem dX1_firstWrongStatement_37 : decode cX1_firstWrongStatement 37 = .ok (.goto (-35), 3) := by decide +kernel
theorem dX1_firstWrongStatement_40 : decode cX1_firstWrongStatement 40 = .ok (.bipush (-9), 2) := by decide +kernel
theorem dX1_firstWrongStatement_42 : decode cX1_firstWrongStatement 42 = .ok (.ireturn, 1) := by decide +kernel
theorem dX1_statements_0 : decode cX1_statements 0 = .ok (.iconst 0, 1) := by decide +kernel
theorem dX1_statements_1 : decode cX1_statements 1 = .ok (.istore_n 1, 1) := by decide +kernel
theorem dX1_statements_2 : decode cX1_statements 2 = .ok (.iconst 0, 1) := by decide +kernel
theorem dX1_statements_3 : decode cX1_statements 3 = .ok (.istore_n 2, 1) := by decide +kernel
theorem dX1_statements_4 : decode cX1_statements 4 = .ok (.iload_n 2, 1) := by decide +kernel
theorem dX1_statements_5 : decode cX1_statements 5 = .ok (.aload_n 0, 1) := by decide +kernel
theorem dX1_statements_6 : decode cX1_statements 6 = .ok (.getfield 15, 3) := by decide +kernel
theorem dX1_statements_9 : decode cX1_statements 9 = .ok (.if_icmp .ge 23, 3) := by decide +kernel
theorem dX1_statements_12 : decode cX1_statements 12 = .ok (.aload_n 0, 1) := by decide +kernel
theorem dX1_statements_13 : decode cX1_statements 13 = .ok (.getfield 9, 3) := by decide +kernel
theorem dX1_statements_16 : decode cX1_statements 16 = .ok (.iload_n 2, 1) := by decide +kernel
theorem dX1_statements_17 : decode cX1_statements 17 = .ok (.iaload, 1) := by decide +kernel
theorem dX1_statements_18 : decode cX1_statements 18 = .ok (.bipush 59, 2) := by decide +kernel
theorem dX1_statements_20 : decode cX1_statements 20 = .ok (.if_icmp .ne 6, 3) := by decide +kernel
theorem dX1_statements_23 : decode cX1_statements 23 = .ok (.iinc 1 1, 3) := by decide +kernel
theorem dX1_statements_26 : decode cX1_statements 26 = .ok (.iinc 2 1, 3) := by decide +kernel
theorem dX1_statements_29 : decode cX1_statements 29 = .ok (.goto (-25), 3) := by decide +kernel
theorem dX1_statements_32 : decode cX1_statements 32 = .ok (.iload_n 1, 1) := by decide +kernel
theorem dX1_statements_33 : decode cX1_statements 33 = .ok (.ireturn, 1) := by decide +kernel
theorem dX1_letterAt_0 : decode cX1_letterAt 0 = .ok (.iload_n 1, 1) := by decide +kernel
theorem dX1_letterAt_1 : decode cX1_letterAt 1 = .ok (.ifCond .lt 20, 3) := by decide +kernel
theorem dX1_letterAt_4 : decode cX1_letterAt 4 = .ok (.iload_n 1, 1) := by decide +kernel
theorem dX1_letterAt_5 : decode cX1_letterAt 5 = .ok (.aload_n 0, 1) := by decide +kernel
theorem dX1_letterAt_6 : decode cX1_letterAt 6 = .ok (.getfield 15, 3) := by decide +kernel
theorem dX1_letterAt_9 : decode cX1_letterAt 9 = .ok (.if_icmp .ge 12, 3) := by decide +kernel
theorem dX1_letterAt_12 : decode cX1_letterAt 12 = .ok (.aload_n 0, 1) := by decide +kernel
theorem dX1_letterAt_13 : decode cX1_letterAt 13 = .ok (.getfield 9, 3) := by decide +kernel
theorem dX1_letterAt_16 : decode cX1_letterAt 16 = .ok (.iload_n 1, 1) := by decide +kernel
theorem dX1_letterAt_17 : decode cX1_letterAt 17 = .ok (.iaload, 1) := by decide +kernel
theorem dX1_letterAt_18 : decode cX1_letterAt 18 = .ok (.goto 4, 3) := by decide +kernel
theorem dX1_letterAt_21 : decode cX1_letterAt 21 = .ok (.iconst (-1), 1) := by decide +kernel
theorem dX1_letterAt_22 : decode cX1_letterAt 22 = .ok (.ireturn, 1) := by decide +kernel
theorem dX1_digitAt_0 : decode cX1_digitAt 0 = .ok (.aload_n 0, 1) := by decide +kernel
theorem dX1_digitAt_1 : decode cX1_digitAt 1 = .ok (.iload_n 1, 1) := by decide +kernel
theorem dX1_digitAt_2 : decode cX1_digitAt 2 = .ok (.invokevirtual 19, 3) := by decide +kernel
theorem dX1_digitAt_5 : decode cX1_digitAt 5 = .ok (.bipush 48, 2) := by decide +kernel
theorem dX1_digitAt_7 : decode cX1_digitAt 7 = .ok (.isub, 1) := by decide +kernel
theorem dX1_digitAt_8 : decode cX1_digitAt 8 = .ok (.ireturn, 1) := by decide +kernel
theorem dX1_twoDigitsAt_0 : decode cX1_twoDigitsAt 0 = .ok (.bipush 10, 2) := by decide +kernel
theorem dX1_twoDigitsAt_2 : decode cX1_twoDigitsAt 2 = .ok (.aload_n 0, 1) := by decide +kernel
theorem dX1_twoDigitsAt_3 : decode cX1_twoDigitsAt 3 = .ok (.iload_n 1, 1) := by decide +kernel
theorem dX1_twoDigitsAt_4 : decode cX1_twoDigitsAt 4 = .ok (.invokevirtual 49, 3) := by decide +kernel
theorem dX1_twoDigitsAt_7 : decode cX1_twoDigitsAt 7 = .ok (.imul, 1) := by decide +kernel
theorem dX1_twoDigitsAt_8 : decode cX1_twoDigitsAt 8 = .ok (.aload_n 0, 1) := by decide +kernel
theorem dX1_twoDigitsAt_9 : decode cX1_twoDigitsAt 9 = .ok (.iload_n 1, 1) := by decide +kernel
theorem dX1_twoDigitsAt_10 : decode cX1_twoDigitsAt 10 = .ok (.iconst 1, 1) := by decide +kernel
theorem dX1_twoDigitsAt_11 : decode cX1_twoDigitsAt 11 = .ok (.iadd, 1) := by decide +kernel
theorem dX1_twoDigitsAt_12 : decode cX1_twoDigitsAt 12 = .ok (.invokevirtual 49, 3) := by decide +kernel
theorem dX1_twoDigitsAt_15 : decode cX1_twoDigitsAt 15 = .ok (.iadd, 1) := by decide +kernel
theorem dX1_twoDigitsAt_16 : decode cX1_twoDigitsAt 16 = .ok (.ireturn, 1) := by decide +kernel
theorem dX1_shapeBehind_0 : decode cX1_shapeBehind 0 = .ok (.iload_n 0, 1) := by decide +kernel
theorem dX1_shapeBehind_1 : decode cX1_shapeBehind 1 = .ok (.tableswitch 108 102 119 #[90, 93, 105, 108, 108, 108, 99, 108, 108, 108, 87, 108, 108, 102, 108, 108, 108, 96], 87) := by decide +kernel
theorem dX1_shapeBehind_88 : decode cX1_shapeBehind 88 = .ok (.ldc 52, 2) := by decide +kernel
theorem dX1_shapeBehind_90 : decode cX1_shapeBehind 90 = .ok (.areturn, 1) := by decide +kernel
theorem dX1_shapeBehind_91 : decode cX1_shapeBehind 91 = .ok (.ldc 54, 2) := by decide +kernel
theorem dX1_shapeBehind_93 : decode cX1_shapeBehind 93 = .ok (.areturn, 1) := by decide +kernel
theorem dX1_shapeBehind_94 : decode cX1_shapeBehind 94 = .ok (.ldc 56, 2) := by decide +kernel
theorem dX1_shapeBehind_96 : decode cX1_shapeBehind 96 = .ok (.areturn, 1) := by decide +kernel
theorem dX1_shapeBehind_97 : decode cX1_shapeBehind 97 = .ok (.ldc 54, 2) := by decide +kernel
theorem dX1_shapeBehind_99 : decode cX1_shapeBehind 99 = .ok (.areturn, 1) := by decide +kernel
theorem dX1_shapeBehind_100 : decode cX1_shapeBehind 100 = .ok (.ldc 54, 2) := by decide +kernel
theorem dX1_shapeBehind_102 : decode cX1_shapeBehind 102 = .ok (.areturn, 1) := by decide +kernel
theorem dX1_shapeBehind_103 : decode cX1_shapeBehind 103 = .ok (.ldc 58, 2) := by decide +kernel
theorem dX1_shapeBehind_105 : decode cX1_shapeBehind 105 = .ok (.areturn, 1) := by decide +kernel
theorem dX1_shapeBehind_106 : decode cX1_shapeBehind 106 = .ok (.ldc 54, 2) := by decide +kernel
theorem dX1_shapeBehind_108 : decode cX1_shapeBehind 108 = .ok (.areturn, 1) := by decide +kernel
theorem dX1_shapeBehind_109 : decode cX1_shapeBehind 109 = .ok (.ldc 60, 2) := by decide +kernel
theorem dX1_shapeBehind_111 : decode cX1_shapeBehind 111 = .ok (.areturn, 1) := by decide +kernel
theorem dX1_fits_0 : decode cX1_fits 0 = .ok (.iload_n 0, 1) := by decide +kernel
theorem dX1_fits_1 : decode cX1_fits 1 = .ok (.lookupswitch 58 #[(100, 40), (107, 27)], 27) := by decide +kernel
theorem dX1_fits_28 : decode cX1_fits 28 = .ok (.iload_n 1, 1) := by decide +kernel
theorem dX1_fits_29 : decode cX1_fits 29 = .ok (.invokestatic 62, 3) := by decide +kernel
theorem dX1_fits_32 : decode cX1_fits 32 = .ok (.ifCond .lt 7, 3) := by decide +kernel
theorem dX1_fits_35 : decode cX1_fits 35 = .ok (.iconst 1, 1) := by decide +kernel
theorem dX1_fits_36 : decode cX1_fits 36 = .ok (.goto 4, 3) := by decide +kernel
theorem dX1_fits_39 : decode cX1_fits 39 = .ok (.iconst 0, 1) := by decide +kernel
theorem dX1_fits_40 : decode cX1_fits 40 = .ok (.ireturn, 1) := by decide +kernel
theorem dX1_fits_41 : decode cX1_fits 41 = .ok (.iload_n 1, 1) := by decide +kernel
theorem dX1_fits_42 : decode cX1_fits 42 = .ok (.bipush 48, 2) := by decide +kernel
theorem dX1_fits_44 : decode cX1_fits 44 = .ok (.if_icmp .lt 13, 3) := by decide +kernel
theorem dX1_fits_47 : decode cX1_fits 47 = .ok (.iload_n 1, 1) := by decide +kernel
theorem dX1_fits_48 : decode cX1_fits 48 = .ok (.bipush 57, 2) := by decide +kernel
theorem dX1_fits_50 : decode cX1_fits 50 = .ok (.if_icmp .gt 7, 3) := by decide +kernel
theorem dX1_fits_53 : decode cX1_fits 53 = .ok (.iconst 1, 1) := by decide +kernel
theorem dX1_fits_54 : decode cX1_fits 54 = .ok (.goto 4, 3) := by decide +kernel
theorem dX1_fits_57 : decode cX1_fits 57 = .ok (.iconst 0, 1) := by decide +kernel
theorem dX1_fits_58 : decode cX1_fits 58 = .ok (.ireturn, 1) := by decide +kernel
theorem dX1_fits_59 : decode cX1_fits 59 = .ok (.iload_n 1, 1) := by decide +kernel
theorem dX1_fits_60 : decode cX1_fits 60 = .ok (.iload_n 0, 1) := by decide +kernel
theorem dX1_fits_61 : decode cX1_fits 61 = .ok (.if_icmp .ne 7, 3) := by decide +kernel
theorem dX1_fits_64 : decode cX1_fits 64 = .ok (.iconst 1, 1) := by decide +kernel
theorem dX1_fits_65 : decode cX1_fits 65 = .ok (.goto 4, 3) := by decide +kernel
theorem dX1_fits_68 : decode cX1_fits 68 = .ok (.iconst 0, 1) := by decide +kernel
theorem dX1_fits_69 : decode cX1_fits 69 = .ok (.ireturn, 1) := by decide +kernel
theorem dX1_kindOf_0 : decode cX1_kindOf 0 = .ok (.iload_n 0, 1) := by decide +kernel
theorem dX1_kindOf_1 : decode cX1_kindOf 1 = .ok (.ifCond .ge 7, 3) := by decide +kernel
theorem dX1_kindOf_4 : decode cX1_kindOf 4 = .ok (.iconst (-1), 1) := by decide +kernel
theorem dX1_kindOf_5 : decode cX1_kindOf 5 = .ok (.goto 10, 3) := by decide +kernel
theorem dX1_kindOf_8 : decode cX1_kindOf 8 = .ok (.ldc 65, 2) := by decide +kernel
theorem dX1_kindOf_10 : decode cX1_kindOf 10 = .ok (.iload_n 0, 1) := by decide +kernel
theorem dX1_kindOf_11 : decode cX1_kindOf 11 = .ok (.i2c, 1) := by decide +kernel
theorem dX1_kindOf_12 : decode cX1_kindOf 12 = .ok (.invokevirtual 67, 3) := by decide +kernel
theorem dX1_kindOf_15 : decode cX1_kindOf 15 = .ok (.ireturn, 1) := by decide +kernel
theorem dX1_letCome_0 : decode cX1_letCome 0 = .ok (.aload_n 0, 1) := by decide +kernel
theorem dX1_letCome_1 : decode cX1_letCome 1 = .ok (.iload_n 2, 1) := by decide +kernel
theorem dX1_letCome_2 : decode cX1_letCome 2 = .ok (.iconst 1, 1) := by decide +kernel
theorem dX1_letCome_3 : decode cX1_letCome 3 = .ok (.iadd, 1) := by decide +kernel
theorem dX1_letCome_4 : decode cX1_letCome 4 = .ok (.invokevirtual 19, 3) := by decide +kernel
theorem dX1_letCome_7 : decode cX1_letCome 7 = .ok (.invokestatic 62, 3) := by decide +kernel
theorem dX1_letCome_10 : decode cX1_letCome 10 = .ok (.istore_n 3, 1) := by decide +kernel
theorem dX1_letCome_11 : decode cX1_letCome 11 = .ok (.aload_n 0, 1) := by decide +kernel
theorem dX1_letCome_12 : decode cX1_letCome 12 = .ok (.iload_n 2, 1) := by decide +kernel
theorem dX1_letCome_13 : decode cX1_letCome 13 = .ok (.iconst 1, 1) := by decide +kernel
theorem dX1_letCome_14 : decode cX1_letCome 14 = .ok (.iadd, 1) := by decide +kernel
theorem dX1_letCome_15 : decode cX1_letCome 15 = .ok (.invokevirtual 49, 3) := by decide +kernel
theorem dX1_letCome_18 : decode cX1_letCome 18 = .ok (.istore 4, 2) := by decide +kernel
theorem dX1_letCome_20 : decode cX1_letCome 20 = .ok (.aload_n 0, 1) := by decide +kernel
theorem dX1_letCome_21 : decode cX1_letCome 21 = .ok (.iload_n 2, 1) := by decide +kernel
theorem dX1_letCome_22 : decode cX1_letCome 22 = .ok (.iconst 1, 1) := by decide +kernel
theorem dX1_letCome_23 : decode cX1_letCome 23 = .ok (.iadd, 1) := by decide +kernel
theorem dX1_letCome_24 : decode cX1_letCome 24 = .ok (.invokevirtual 70, 3) := by decide +kernel
theorem dX1_letCome_27 : decode cX1_letCome 27 = .ok (.istore 5, 2) := by decide +kernel
theorem dX1_letCome_29 : decode cX1_letCome 29 = .ok (.aload_n 0, 1) := by decide +kernel
theorem dX1_letCome_30 : decode cX1_letCome 30 = .ok (.iload_n 2, 1) := by decide +kernel
theorem dX1_letCome_31 : decode cX1_letCome 31 = .ok (.invokevirtual 19, 3) := by decide +kernel
theorem dX1_letCome_34 : decode cX1_letCome 34 = .ok (.tableswitch 155 102 119 #[106, 120, 155, 155, 155, 155, 141, 155, 155, 155, 86, 155, 155, 148, 155, 155, 155, 134], 86) := by decide +kernel
theorem dX1_letCome_120 : decode cX1_letCome 120 = .ok (.aload_n 1, 1) := by decide +kernel
theorem dX1_letCome_121 : decode cX1_letCome 121 = .ok (.iload_n 3, 1) := by decide +kernel
theorem dX1_letCome_122 : decode cX1_letCome 122 = .ok (.aload_n 0, 1) := by decide +kernel
theorem dX1_letCome_123 : decode cX1_letCome 123 = .ok (.iload_n 2, 1) := by decide +kernel
theorem dX1_letCome_124 : decode cX1_letCome 124 = .ok (.iconst 2, 1) := by decide +kernel
theorem dX1_letCome_125 : decode cX1_letCome 125 = .ok (.iadd, 1) := by decide +kernel
theorem dX1_letCome_126 : decode cX1_letCome 126 = .ok (.invokevirtual 49, 3) := by decide +kernel
theorem dX1_letCome_129 : decode cX1_letCome 129 = .ok (.aload_n 0, 1) := by decide +kernel
theorem dX1_letCome_130 : decode cX1_letCome 130 = .ok (.iload_n 2, 1) := by decide +kernel
theorem dX1_letCome_131 : decode cX1_letCome 131 = .ok (.iconst 3, 1) := by decide +kernel
theorem dX1_letCome_132 : decode cX1_letCome 132 = .ok (.iadd, 1) := by decide +kernel
theorem dX1_letCome_133 : decode cX1_letCome 133 = .ok (.invokevirtual 49, 3) := by decide +kernel
theorem dX1_letCome_136 : decode cX1_letCome 136 = .ok (.invokevirtual 73, 3) := by decide +kernel
theorem dX1_letCome_139 : decode cX1_letCome 139 = .ok (.ireturn, 1) := by decide +kernel
theorem dX1_letCome_140 : decode cX1_letCome 140 = .ok (.aload_n 1, 1) := by decide +kernel
theorem dX1_letCome_141 : decode cX1_letCome 141 = .ok (.iload 4, 2) := by decide +kernel
theorem dX1_letCome_143 : decode cX1_letCome 143 = .ok (.aload_n 0, 1) := by decide +kernel
theorem dX1_letCome_144 : decode cX1_letCome 144 = .ok (.iload_n 2, 1) := by decide +kernel
theorem dX1_letCome_145 : decode cX1_letCome 145 = .ok (.iconst 2, 1) := by decide +kernel
theorem dX1_letCome_146 : decode cX1_letCome 146 = .ok (.iadd, 1) := by decide +kernel
theorem dX1_letCome_147 : decode cX1_letCome 147 = .ok (.invokevirtual 49, 3) := by decide +kernel
theorem dX1_letCome_150 : decode cX1_letCome 150 = .ok (.invokevirtual 79, 3) := by decide +kernel
theorem dX1_letCome_153 : decode cX1_letCome 153 = .ok (.ireturn, 1) := by decide +kernel
theorem dX1_letCome_154 : decode cX1_letCome 154 = .ok (.aload_n 1, 1) := by decide +kernel
theorem dX1_letCome_155 : decode cX1_letCome 155 = .ok (.iload 4, 2) := by decide +kernel
theorem dX1_letCome_157 : decode cX1_letCome 157 = .ok (.aload_n 0, 1) := by decide +kernel
theorem dX1_letCome_158 : decode cX1_letCome 158 = .ok (.iload_n 2, 1) := by decide +kernel
theorem dX1_letCome_159 : decode cX1_letCome 159 = .ok (.iconst 2, 1) := by decide +kernel
theorem dX1_letCome_160 : decode cX1_letCome 160 = .ok (.iadd, 1) := by decide +kernel
theorem dX1_letCome_161 : decode cX1_letCome 161 = .ok (.invokevirtual 70, 3) := by decide +kernel
theorem dX1_letCome_164 : decode cX1_letCome 164 = .ok (.invokevirtual 83, 3) := by decide +kernel
theorem dX1_letCome_167 : decode cX1_letCome 167 = .ok (.ireturn, 1) := by decide +kernel
theorem dX1_letCome_168 : decode cX1_letCome 168 = .ok (.aload_n 1, 1) := by decide +kernel
theorem dX1_letCome_169 : decode cX1_letCome 169 = .ok (.iload 5, 2) := by decide +kernel
theorem dX1_letCome_171 : decode cX1_letCome 171 = .ok (.invokevirtual 86, 3) := by decide +kernel
theorem dX1_letCome_174 : decode cX1_letCome 174 = .ok (.ireturn, 1) := by decide +kernel
theorem dX1_letCome_175 : decode cX1_letCome 175 = .ok (.aload_n 1, 1) := by decide +kernel
theorem dX1_letCome_176 : decode cX1_letCome 176 = .ok (.iload 5, 2) := by decide +kernel
theorem dX1_letCome_178 : decode cX1_letCome 178 = .ok (.invokevirtual 90, 3) := by decide +kernel
theorem dX1_letCome_181 : decode cX1_letCome 181 = .ok (.ireturn, 1) := by decide +kernel
theorem dX1_letCome_182 : decode cX1_letCome 182 = .ok (.aload_n 1, 1) := by decide +kernel
theorem dX1_letCome_183 : decode cX1_letCome 183 = .ok (.iload 4, 2) := by decide +kernel
theorem dX1_letCome_185 : decode cX1_letCome 185 = .ok (.invokevirtual 93, 3) := by decide +kernel
theorem dX1_letCome_188 : decode cX1_letCome 188 = .ok (.ireturn, 1) := by decide +kernel
theorem dX1_letCome_189 : decode cX1_letCome 189 = .ok (.aload_n 1, 1) := by decide +kernel
theorem dX1_letCome_190 : decode cX1_letCome 190 = .ok (.iload 5, 2) := by decide +kernel
theorem dX1_letCome_192 : decode cX1_letCome 192 = .ok (.invokevirtual 96, 3) := by decide +kernel
theorem dX1_letCome_195 : decode cX1_letCome 195 = .ok (.ifCond .ne 5, 3) := by decide +kernel
theorem dX1_letCome_198 : decode cX1_letCome 198 = .ok (.iconst 0, 1) := by decide +kernel
theorem dX1_letCome_199 : decode cX1_letCome 199 = .ok (.ireturn, 1) := by decide +kernel
theorem dX1_letCome_200 : decode cX1_letCome 200 = .ok (.aload_n 1, 1) := by decide +kernel
theorem dX1_letCome_201 : decode cX1_letCome 201 = .ok (.iload 5, 2) := by decide +kernel
theorem dX1_letCome_203 : decode cX1_letCome 203 = .ok (.invokevirtual 99, 3) := by decide +kernel
theorem dX1_letCome_206 : decode cX1_letCome 206 = .ok (.iconst 1, 1) := by decide +kernel
theorem dX1_letCome_207 : decode cX1_letCome 207 = .ok (.ireturn, 1) := by decide +kernel
theorem dX2_init_0 : decode cX2_init 0 = .ok (.aload_n 0, 1) := by decide +kernel
theorem dX2_init_1 : decode cX2_init 1 = .ok (.invokespecial 1, 3) := by decide +kernel
theorem dX2_init_4 : decode cX2_init 4 = .ok (.aload_n 0, 1) := by decide +kernel
theorem dX2_init_5 : decode cX2_init 5 = .ok (.new 7, 3) := by decide +kernel
theorem dX2_init_8 : decode cX2_init 8 = .ok (.dup, 1) := by decide +kernel
theorem dX2_init_9 : decode cX2_init 9 = .ok (.invokespecial 9, 3) := by decide +kernel
theorem dX2_init_12 : decode cX2_init 12 = .ok (.putfield 10, 3) := by decide +kernel
theorem dX2_init_15 : decode cX2_init 15 = .ok (.aload_n 0, 1) := by decide +kernel
theorem dX2_init_16 : decode cX2_init 16 = .ok (.new 7, 3) := by decide +kernel
theorem dX2_init_19 : decode cX2_init 19 = .ok (.dup, 1) := by decide +kernel
theorem dX2_init_20 : decode cX2_init 20 = .ok (.invokespecial 9, 3) := by decide +kernel
theorem dX2_init_23 : decode cX2_init 23 = .ok (.putfield 16, 3) := by decide +kernel
theorem dX2_init_26 : decode cX2_init 26 = .ok (.aload_n 0, 1) := by decide +kernel
theorem dX2_init_27 : decode cX2_init 27 = .ok (.new 7, 3) := by decide +kernel
theorem dX2_init_30 : decode cX2_init 30 = .ok (.dup, 1) := by decide +kernel
theorem dX2_init_31 : decode cX2_init 31 = .ok (.invokespecial 9, 3) := by decide +kernel
theorem dX2_init_34 : decode cX2_init 34 = .ok (.putfield 19, 3) := by decide +kernel
theorem dX2_init_37 : decode cX2_init 37 = .ok (.aload_n 0, 1) := by decide +kernel
theorem dX2_init_38 : decode cX2_init 38 = .ok (.new 22, 3) := by decide +kernel
theorem dX2_init_41 : decode cX2_init 41 = .ok (.dup, 1) := by decide +kernel
theorem dX2_init_42 : decode cX2_init 42 = .ok (.invokespecial 24, 3) := by decide +kernel
theorem dX2_init_45 : decode cX2_init 45 = .ok (.putfield 25, 3) := by decide +kernel
theorem dX2_init_48 : decode cX2_init 48 = .ok (.aload_n 0, 1) := by decide +kernel
theorem dX2_init_49 : decode cX2_init 49 = .ok (.bipush 16, 2) := by decide +kernel
theorem dX2_init_51 : decode cX2_init 51 = .ok (.newarray .int, 2) := by decide +kernel
theorem dX2_init_53 : decode cX2_init 53 = .ok (.putfield 29, 3) := by decide +kernel
theorem dX2_init_56 : decode cX2_init 56 = .ok (.aload_n 0, 1) := by decide +kernel
theorem dX2_init_57 : decode cX2_init 57 = .ok (.bipush 7, 2) := by decide +kernel
theorem dX2_init_59 : decode cX2_init 59 = .ok (.newarray .int, 2) := by decide +kernel
theorem dX2_init_61 : decode cX2_init 61 = .ok (.putfield 33, 3) := by decide +kernel
theorem dX2_init_64 : decode cX2_init 64 = .ok (.aload_n 0, 1) := by decide +kernel
theorem dX2_init_65 : decode cX2_init 65 = .ok (.iconst 0, 1) := by decide +kernel
theorem dX2_init_66 : decode cX2_init 66 = .ok (.putfield 36, 3) := by decide +kernel
theorem dX2_init_69 : decode cX2_init 69 = .ok (.aload_n 0, 1) := by decide +kernel
theorem dX2_init_70 : decode cX2_init 70 = .ok (.iconst 0, 1) := by decide +kernel
theorem dX2_init_71 : decode cX2_init 71 = .ok (.putfield 40, 3) := by decide +kernel
theorem dX2_init_74 : decode cX2_init 74 = .ok (.return_, 1) := by decide +kernel
theorem dX2_letter_0 : decode cX2_letter 0 = .ok (.iload_n 1, 1) := by decide +kernel
theorem dX2_letter_1 : decode cX2_letter 1 = .ok (.iconst 0, 1) := by decide +kernel
theorem dX2_letter_2 : decode cX2_letter 2 = .ok (.sipush 255, 3) := by decide +kernel
theorem dX2_letter_5 : decode cX2_letter 5 = .ok (.invokestatic 44, 3) := by decide +kernel
theorem dX2_letter_8 : decode cX2_letter 8 = .ok (.istore_n 2, 1) := by decide +kernel
theorem dX2_letter_9 : decode cX2_letter 9 = .ok (.iload_n 2, 1) := by decide +kernel
theorem dX2_letter_10 : decode cX2_letter 10 = .ok (.ifCond .ne 17, 3) := by decide +kernel
theorem dX2_letter_13 : decode cX2_letter 13 = .ok (.aload_n 0, 1) := by decide +kernel
theorem dX2_letter_14 : decode cX2_letter 14 = .ok (.getfield 25, 3) := by decide +kernel
theorem dX2_letter_17 : decode cX2_letter 17 = .ok (.iload_n 1, 1) := by decide +kernel
theorem dX2_letter_18 : decode cX2_letter 18 = .ok (.invokevirtual 48, 3) := by decide +kernel
theorem dX2_letter_21 : decode cX2_letter 21 = .ok (.ifCond .ne 6, 3) := by decide +kernel
theorem dX2_letter_24 : decode cX2_letter 24 = .ok (.bipush (-6), 2) := by decide +kernel
theorem dX2_letter_26 : decode cX2_letter 26 = .ok (.istore_n 2, 1) := by decide +kernel
theorem dX2_letter_27 : decode cX2_letter 27 = .ok (.iload_n 2, 1) := by decide +kernel
theorem dX2_letter_28 : decode cX2_letter 28 = .ok (.ifCond .eq 9, 3) := by decide +kernel
theorem dX2_letter_31 : decode cX2_letter 31 = .ok (.aload_n 0, 1) := by decide +kernel
theorem dX2_letter_32 : decode cX2_letter 32 = .ok (.iload_n 2, 1) := by decide +kernel
theorem dX2_letter_33 : decode cX2_letter 33 = .ok (.invokevirtual 52, 3) := by decide +kernel
theorem dX2_letter_36 : decode cX2_letter 36 = .ok (.ireturn, 1) := by decide +kernel
theorem dX2_letter_37 : decode cX2_letter 37 = .ok (.aload_n 0, 1) := by decide +kernel
theorem dX2_letter_38 : decode cX2_letter 38 = .ok (.getfield 25, 3) := by decide +kernel
theorem dX2_letter_41 : decode cX2_letter 41 = .ok (.getfield 56, 3) := by decide +kernel
theorem dX2_letter_44 : decode cX2_letter 44 = .ok (.ireturn, 1) := by decide +kernel
theorem dX2_hill_0 : decode cX2_hill 0 = .ok (.aload_n 0, 1) := by decide +kernel
theorem dX2_hill_1 : decode cX2_hill 1 = .ok (.getfield 25, 3) := by decide +kernel
theorem dX2_hill_4 : decode cX2_hill 4 = .ok (.invokevirtual 59, 3) := by decide +kernel
theorem dX2_hill_7 : decode cX2_hill 7 = .ok (.istore_n 1, 1) := by decide +kernel
theorem dX2_hill_8 : decode cX2_hill 8 = .ok (.aload_n 0, 1) := by decide +kernel
theorem dX2_hill_9 : decode cX2_hill 9 = .ok (.invokevirtual 63, 3) := by decide +kernel
theorem dX2_hill_12 : decode cX2_hill 12 = .ok (.astore_n 2, 1) := by decide +kernel
theorem dX2_hill_13 : decode cX2_hill 13 = .ok (.iload_n 1, 1) := by decide +kernel
theorem dX2_hill_14 : decode cX2_hill 14 = .ok (.bipush (-9), 2) := by decide +kernel
theorem dX2_hill_16 : decode cX2_hill 16 = .ok (.if_icmp .ne 14, 3) := by decide +kernel
theorem dX2_hill_19 : decode cX2_hill 19 = .ok (.aload_n 0, 1) := by decide +kernel
theorem dX2_hill_20 : decode cX2_hill 20 = .ok (.getfield 25, 3) := by decide +kernel
theorem dX2_hill_23 : decode cX2_hill 23 = .ok (.aload_n 2, 1) := by decide +kernel
theorem dX2_hill_24 : decode cX2_hill 24 = .ok (.invokevirtual 67, 3) := by decide +kernel
theorem dX2_hill_27 : decode cX2_hill 27 = .ok (.goto 5, 3) := by decide +kernel
theorem dX2_hill_30 : decode cX2_hill 30 = .ok (.bipush (-9), 2) := by decide +kernel
theorem dX2_hill_32 : decode cX2_hill 32 = .ok (.istore_n 3, 1) := by decide +kernel
theorem dX2_hill_33 : decode cX2_hill 33 = .ok (.aload_n 0, 1) := by decide +kernel
theorem dX2_hill_34 : decode cX2_hill 34 = .ok (.getfield 25, 3) := by decide +kernel
theorem dX2_hill_37 : decode cX2_hill 37 = .ok (.invokevirtual 71, 3) := by decide +kernel
theorem dX2_hill_40 : decode cX2_hill 40 = .ok (.istore 4, 2) := by decide +kernel
theorem dX2_hill_42 : decode cX2_hill 42 = .ok (.aload_n 0, 1) := by decide +kernel
theorem dX2_hill_43 : decode cX2_hill 43 = .ok (.getfield 25, 3) := by decide +kernel
theorem dX2_hill_46 : decode cX2_hill 46 = .ok (.invokevirtual 74, 3) := by decide +kernel
theorem dX2_hill_49 : decode cX2_hill 49 = .ok (.iload_n 1, 1) := by decide +kernel
theorem dX2_hill_50 : decode cX2_hill 50 = .ok (.bipush (-9), 2) := by decide +kernel
theorem dX2_hill_52 : decode cX2_hill 52 = .ok (.if_icmp .eq 9, 3) := by decide +kernel
theorem dX2_hill_55 : decode cX2_hill 55 = .ok (.sipush (-1000), 3) := by decide +kernel
theorem dX2_hill_58 : decode cX2_hill 58 = .ok (.iload_n 1, 1) := by decide +kernel
theorem dX2_hill_59 : decode cX2_hill 59 = .ok (.isub, 1) := by decide +kernel
theorem dX2_hill_60 : decode cX2_hill 60 = .ok (.ireturn, 1) := by decide +kernel
theorem dX2_hill_61 : decode cX2_hill 61 = .ok (.iload_n 3, 1) := by decide +kernel
theorem dX2_hill_62 : decode cX2_hill 62 = .ok (.bipush (-9), 2) := by decide +kernel
theorem dX2_hill_64 : decode cX2_hill 64 = .ok (.if_icmp .eq 9, 3) := by decide +kernel
theorem dX2_hill_67 : decode cX2_hill 67 = .ok (.sipush (-2000), 3) := by decide +kernel
theorem dX2_hill_70 : decode cX2_hill 70 = .ok (.iload_n 3, 1) := by decide +kernel
theorem dX2_hill_71 : decode cX2_hill 71 = .ok (.isub, 1) := by decide +kernel
theorem dX2_hill_72 : decode cX2_hill 72 = .ok (.ireturn, 1) := by decide +kernel
theorem dX2_hill_73 : decode cX2_hill 73 = .ok (.aload_n 0, 1) := by decide +kernel
theorem dX2_hill_74 : decode cX2_hill 74 = .ok (.getfield 10, 3) := by decide +kernel
theorem dX2_hill_77 : decode cX2_hill 77 = .ok (.aload_n 2, 1) := by decide +kernel
theorem dX2_hill_78 : decode cX2_hill 78 = .ok (.invokevirtual 77, 3) := by decide +kernel
theorem dX2_hill_81 : decode cX2_hill 81 = .ok (.iload 4, 2) := by decide +kernel
theorem dX2_hill_83 : decode cX2_hill 83 = .ok (.ireturn, 1) := by decide +kernel
theorem dX2_person_0 : decode cX2_person 0 = .ok (.aload_n 0, 1) := by decide +kernel
theorem dX2_person_1 : decode cX2_person 1 = .ok (.getfield 10, 3) := by decide +kernel
theorem dX2_person_4 : decode cX2_person 4 = .ok (.iload_n 1, 1) := by decide +kernel
theorem dX2_person_5 : decode cX2_person 5 = .ok (.invokevirtual 81, 3) := by decide +kernel
theorem dX2_person_8 : decode cX2_person 8 = .ok (.ifCond .ne 9, 3) := by decide +kernel
theorem dX2_person_11 : decode cX2_person 11 = .ok (.aload_n 0, 1) := by decide +kernel
theorem dX2_person_12 : decode cX2_person 12 = .ok (.iconst (-1), 1) := by decide +kernel
theorem dX2_person_13 : decode cX2_person 13 = .ok (.invokevirtual 52, 3) := by decide +kernel
theorem dX2_person_16 : decode cX2_person 16 = .ok (.ireturn, 1) := by decide +kernel
theorem dX2_person_17 : decode cX2_person 17 = .ok (.iload_n 2, 1) := by decide +kernel
theorem dX2_person_18 : decode cX2_person 18 = .ok (.tableswitch 152 0 8 #[50, 60, 70, 80, 90, 107, 124, 134, 143], 50) := by decide +kernel
theorem dX2_person_68 : decode cX2_person 68 = .ok (.aload_n 0, 1) := by decide +kernel
theorem dX2_person_69 : decode cX2_person 69 = .ok (.getfield 10, 3) := by decide +kernel
theorem dX2_person_72 : decode cX2_person 72 = .ok (.getfield 84, 3) := by decide +kernel
theorem dX2_person_75 : decode cX2_person 75 = .ok (.iload_n 1, 1) := by decide +kernel
theorem dX2_person_76 : decode cX2_person 76 = .ok (.iaload, 1) := by decide +kernel
theorem dX2_person_77 : decode cX2_person 77 = .ok (.ireturn, 1) := by decide +kernel
theorem dX2_person_78 : decode cX2_person 78 = .ok (.aload_n 0, 1) := by decide +kernel
theorem dX2_person_79 : decode cX2_person 79 = .ok (.getfield 10, 3) := by decide +kernel
theorem dX2_person_82 : decode cX2_person 82 = .ok (.getfield 87, 3) := by decide +kernel
theorem dX2_person_85 : decode cX2_person 85 = .ok (.iload_n 1, 1) := by decide +kernel
theorem dX2_person_86 : decode cX2_person 86 = .ok (.iaload, 1) := by decide +kernel
theorem dX2_person_87 : decode cX2_person 87 = .ok (.ireturn, 1) := by decide +kernel
theorem dX2_person_88 : decode cX2_person 88 = .ok (.aload_n 0, 1) := by decide +kernel
theorem dX2_person_89 : decode cX2_person 89 = .ok (.getfield 10, 3) := by decide +kernel
theorem dX2_person_92 : decode cX2_person 92 = .ok (.getfield 90, 3) := by decide +kernel
theorem dX2_person_95 : decode cX2_person 95 = .ok (.iload_n 1, 1) := by decide +kernel
theorem dX2_person_96 : decode cX2_person 96 = .ok (.iaload, 1) := by decide +kernel
theorem dX2_person_97 : decode cX2_person 97 = .ok (.ireturn, 1) := by decide +kernel
theorem dX2_person_98 : decode cX2_person 98 = .ok (.aload_n 0, 1) := by decide +kernel
theorem dX2_person_99 : decode cX2_person 99 = .ok (.getfield 10, 3) := by decide +kernel
theorem dX2_person_102 : decode cX2_person 102 = .ok (.getfield 93, 3) := by decide +kernel
theorem dX2_person_105 : decode cX2_person 105 = .ok (.iload_n 1, 1) := by decide +kernel
theorem dX2_person_106 : decode cX2_person 106 = .ok (.iaload, 1) := by decide +kernel
theorem dX2_person_107 : decode cX2_person 107 = .ok (.ireturn, 1) := by decide +kernel
theorem dX2_person_108 : decode cX2_person 108 = .ok (.aload_n 0, 1) := by decide +kernel
theorem dX2_person_109 : decode cX2_person 109 = .ok (.getfield 10, 3) := by decide +kernel
theorem dX2_person_112 : decode cX2_person 112 = .ok (.iload_n 1, 1) := by decide +kernel
theorem dX2_person_113 : decode cX2_person 113 = .ok (.invokevirtual 96, 3) := by decide +kernel
theorem dX2_person_116 : decode cX2_person 116 = .ok (.ifCond .eq 7, 3) := by decide +kernel
theorem dX2_person_119 : decode cX2_person 119 = .ok (.iconst 1, 1) := by decide +kernel
theorem dX2_person_120 : decode cX2_person 120 = .ok (.goto 4, 3) := by decide +kernel
theorem dX2_person_123 : decode cX2_person 123 = .ok (.iconst 0, 1) := by decide +kernel
theorem dX2_person_124 : decode cX2_person 124 = .ok (.ireturn, 1) := by decide +kernel
theorem dX2_person_125 : decode cX2_person 125 = .ok (.aload_n 0, 1) := by decide +kernel
theorem dX2_person_126 : decode cX2_person 126 = .ok (.getfield 10, 3) := by decide +kernel
theorem dX2_person_129 : decode cX2_person 129 = .ok (.iload_n 1, 1) := by decide +kernel
theorem dX2_person_130 : decode cX2_person 130 = .ok (.invokevirtual 99, 3) := by decide +kernel
theorem dX2_person_133 : decode cX2_person 133 = .ok (.ifCond .eq 7, 3) := by decide +kernel
theorem dX2_person_136 : decode cX2_person 136 = .ok (.iconst 1, 1) := by decide +kernel
theorem dX2_person_137 : decode cX2_person 137 = .ok (.goto 4, 3) := by decide +kernel
theorem dX2_person_140 : decode cX2_person 140 = .ok (.iconst 0, 1) := by decide +kernel
theorem dX2_person_141 : decode cX2_person 141 = .ok (.ireturn, 1) := by decide +kernel
theorem dX2_person_142 : decode cX2_person 142 = .ok (.aload_n 0, 1) := by decide +kernel
theorem dX2_person_143 : decode cX2_person 143 = .ok (.getfield 10, 3) := by decide +kernel
theorem dX2_person_146 : decode cX2_person 146 = .ok (.getfield 102, 3) := by decide +kernel
theorem dX2_person_149 : decode cX2_person 149 = .ok (.iload_n 1, 1) := by decide +kernel
theorem dX2_person_150 : decode cX2_person 150 = .ok (.iaload, 1) := by decide +kernel
theorem dX2_person_151 : decode cX2_person 151 = .ok (.ireturn, 1) := by decide +kernel
theorem dX2_person_152 : decode cX2_person 152 = .ok (.aload_n 0, 1) := by decide +kernel
theorem dX2_person_153 : decode cX2_person 153 = .ok (.getfield 10, 3) := by decide +kernel
theorem dX2_person_156 : decode cX2_person 156 = .ok (.iload_n 1, 1) := by decide +kernel
theorem dX2_person_157 : decode cX2_person 157 = .ok (.invokevirtual 105, 3) := by decide +kernel
theorem dX2_person_160 : decode cX2_person 160 = .ok (.ireturn, 1) := by decide +kernel
theorem dX2_person_161 : decode cX2_person 161 = .ok (.aload_n 0, 1) := by decide +kernel
theorem dX2_person_162 : decode cX2_person 162 = .ok (.getfield 10, 3) := by decide +kernel
theorem dX2_person_165 : decode cX2_person 165 = .ok (.iload_n 1, 1) := by decide +kernel
theorem dX2_person_166 : decode cX2_person 166 = .ok (.invokevirtual 108, 3) := by decide +kernel
theorem dX2_person_169 : decode cX2_person 169 = .ok (.ireturn, 1) := by decide +kernel
theorem dX2_person_170 : decode cX2_person 170 = .ok (.aload_n 0, 1) := by decide +kernel
theorem dX2_person_171 : decode cX2_person 171 = .ok (.bipush (-2), 2) := by decide +kernel
theorem dX2_person_173 : decode cX2_person 173 = .ok (.invokevirtual 52, 3) := by decide +kernel
theorem dX2_person_176 : decode cX2_person 176 = .ok (.ireturn, 1) := by decide +kernel
theorem dX2_speaks_0 : decode cX2_speaks 0 = .ok (.aload_n 0, 1) := by decide +kernel
theorem dX2_speaks_1 : decode cX2_speaks 1 = .ok (.getfield 10, 3) := by decide +kernel
theorem dX2_speaks_4 : decode cX2_speaks 4 = .ok (.iload_n 1, 1) := by decide +kernel
theorem dX2_speaks_5 : decode cX2_speaks 5 = .ok (.invokevirtual 81, 3) := by decide +kernel
theorem dX2_speaks_8 : decode cX2_speaks 8 = .ok (.ifCond .ne 9, 3) := by decide +kernel
theorem dX2_speaks_11 : decode cX2_speaks 11 = .ok (.aload_n 0, 1) := by decide +kernel
theorem dX2_speaks_12 : decode cX2_speaks 12 = .ok (.iconst (-1), 1) := by decide +kernel
theorem dX2_speaks_13 : decode cX2_speaks 13 = .ok (.invokevirtual 52, 3) := by decide +kernel
theorem dX2_speaks_16 : decode cX2_speaks 16 = .ok (.ireturn, 1) := by decide +kernel
theorem dX2_speaks_17 : decode cX2_speaks 17 = .ok (.aload_n 0, 1) := by decide +kernel
theorem dX2_speaks_18 : decode cX2_speaks 18 = .ok (.getfield 10, 3) := by decide +kernel
theorem dX2_speaks_21 : decode cX2_speaks 21 = .ok (.iload_n 1, 1) := by decide +kernel
theorem dX2_speaks_22 : decode cX2_speaks 22 = .ok (.invokevirtual 96, 3) := by decide +kernel
theorem dX2_speaks_25 : decode cX2_speaks 25 = .ok (.ifCond .eq 10, 3) := by decide +kernel
theorem dX2_speaks_28 : decode cX2_speaks 28 = .ok (.aload_n 0, 1) := by decide +kernel
theorem dX2_speaks_29 : decode cX2_speaks 29 = .ok (.bipush (-3), 2) := by decide +kernel
theorem dX2_speaks_31 : decode cX2_speaks 31 = .ok (.invokevirtual 52, 3) := by decide +kernel
theorem dX2_speaks_34 : decode cX2_speaks 34 = .ok (.ireturn, 1) := by decide +kernel
theorem dX2_speaks_35 : decode cX2_speaks 35 = .ok (.aload_n 0, 1) := by decide +kernel
theorem dX2_speaks_36 : decode cX2_speaks 36 = .ok (.getfield 10, 3) := by decide +kernel
theorem dX2_speaks_39 : decode cX2_speaks 39 = .ok (.iload_n 1, 1) := by decide +kernel
theorem dX2_speaks_40 : decode cX2_speaks 40 = .ok (.invokevirtual 111, 3) := by decide +kernel
theorem dX2_speaks_43 : decode cX2_speaks 43 = .ok (.pop, 1) := by decide +kernel
theorem dX2_speaks_44 : decode cX2_speaks 44 = .ok (.aload_n 0, 1) := by decide +kernel
theorem dX2_speaks_45 : decode cX2_speaks 45 = .ok (.getfield 10, 3) := by decide +kernel
theorem dX2_speaks_48 : decode cX2_speaks 48 = .ok (.getfield 114, 3) := by decide +kernel
theorem dX2_speaks_51 : decode cX2_speaks 51 = .ok (.invokestatic 117, 3) := by decide +kernel
theorem dX2_speaks_54 : decode cX2_speaks 54 = .ok (.ireturn, 1) := by decide +kernel
theorem dX2_befriends_0 : decode cX2_befriends 0 = .ok (.aload_n 0, 1) := by decide +kernel
theorem dX2_befriends_1 : decode cX2_befriends 1 = .ok (.getfield 10, 3) := by decide +kernel
theorem dX2_befriends_4 : decode cX2_befriends 4 = .ok (.iload_n 1, 1) := by decide +kernel
theorem dX2_befriends_5 : decode cX2_befriends 5 = .ok (.invokevirtual 81, 3) := by decide +kernel
theorem dX2_befriends_8 : decode cX2_befriends 8 = .ok (.ifCond .ne 9, 3) := by decide +kernel
theorem dX2_befriends_11 : decode cX2_befriends 11 = .ok (.aload_n 0, 1) := by decide +kernel
theorem dX2_befriends_12 : decode cX2_befriends 12 = .ok (.iconst (-1), 1) := by decide +kernel
theorem dX2_befriends_13 : decode cX2_befriends 13 = .ok (.invokevirtual 52, 3) := by decide +kernel
theorem dX2_befriends_16 : decode cX2_befriends 16 = .ok (.ireturn, 1) := by decide +kernel
theorem dX2_befriends_17 : decode cX2_befriends 17 = .ok (.aload_n 0, 1) := by decide +kernel
theorem dX2_befriends_18 : decode cX2_befriends 18 = .ok (.getfield 10, 3) := by decide +kernel
theorem dX2_befriends_21 : decode cX2_befriends 21 = .ok (.getfield 102, 3) := by decide +kernel
theorem dX2_befriends_24 : decode cX2_befriends 24 = .ok (.iload_n 1, 1) := by decide +kernel
theorem dX2_befriends_25 : decode cX2_befriends 25 = .ok (.iaload, 1) := by decide +kernel
theorem dX2_befriends_26 : decode cX2_befriends 26 = .ok (.istore_n 3, 1) := by decide +kernel
theorem dX2_befriends_27 : decode cX2_befriends 27 = .ok (.aload_n 0, 1) := by decide +kernel
theorem dX2_befriends_28 : decode cX2_befriends 28 = .ok (.getfield 10, 3) := by decide +kernel
theorem dX2_befriends_31 : decode cX2_befriends 31 = .ok (.iload_n 1, 1) := by decide +kernel
theorem dX2_befriends_32 : decode cX2_befriends 32 = .ok (.iload_n 2, 1) := by decide +kernel
theorem dX2_befriends_33 : decode cX2_befriends 33 = .ok (.invokevirtual 122, 3) := by decide +kernel
theorem dX2_befriends_36 : decode cX2_befriends 36 = .ok (.ifCond .eq 7, 3) := by decide +kernel
theorem dX2_befriends_39 : decode cX2_befriends 39 = .ok (.iload_n 3, 1) := by decide +kernel
theorem dX2_befriends_40 : decode cX2_befriends 40 = .ok (.goto 8, 3) := by decide +kernel
theorem dX2_befriends_43 : decode cX2_befriends 43 = .ok (.aload_n 0, 1) := by decide +kernel
theorem dX2_befriends_44 : decode cX2_befriends 44 = .ok (.iconst (-1), 1) := by decide +kernel
theorem dX2_befriends_45 : decode cX2_befriends 45 = .ok (.invokevirtual 52, 3) := by decide +kernel
theorem dX2_befriends_48 : decode cX2_befriends 48 = .ok (.ireturn, 1) := by decide +kernel
theorem dX2_pours_0 : decode cX2_pours 0 = .ok (.aload_n 0, 1) := by decide +kernel
theorem dX2_pours_1 : decode cX2_pours 1 = .ok (.iload_n 1, 1) := by decide +kernel
theorem dX2_pours_2 : decode cX2_pours 2 = .ok (.iload_n 2, 1) := by decide +kernel
theorem dX2_pours_3 : decode cX2_pours 3 = .ok (.bipush 99, 2) := by decide +kernel
theorem dX2_pours_5 : decode cX2_pours 5 = .ok (.invokevirtual 126, 3) := by decide +kernel
theorem dX2_pours_8 : decode cX2_pours 8 = .ok (.istore_n 3, 1) := by decide +kernel
theorem dX2_pours_9 : decode cX2_pours 9 = .ok (.iload_n 3, 1) := by decide +kernel
theorem dX2_pours_10 : decode cX2_pours 10 = .ok (.ifCond .eq 9, 3) := by decide +kernel
theorem dX2_pours_13 : decode cX2_pours 13 = .ok (.aload_n 0, 1) := by decide +kernel
theorem dX2_pours_14 : decode cX2_pours 14 = .ok (.iload_n 3, 1) := by decide +kernel
theorem dX2_pours_15 : decode cX2_pours 15 = .ok (.invokevirtual 52, 3) := by decide +kernel
theorem dX2_pours_18 : decode cX2_pours 18 = .ok (.ireturn, 1) := by decide +kernel
theorem dX2_pours_19 : decode cX2_pours 19 = .ok (.aload_n 0, 1) := by decide +kernel
theorem dX2_pours_20 : decode cX2_pours 20 = .ok (.getfield 10, 3) := by decide +kernel
theorem dX2_pours_23 : decode cX2_pours 23 = .ok (.getfield 93, 3) := by decide +kernel
theorem dX2_pours_26 : decode cX2_pours 26 = .ok (.iload_n 1, 1) := by decide +kernel
theorem dX2_pours_27 : decode cX2_pours 27 = .ok (.iaload, 1) := by decide +kernel
theorem dX2_pours_28 : decode cX2_pours 28 = .ok (.istore 4, 2) := by decide +kernel
theorem dX2_pours_30 : decode cX2_pours 30 = .ok (.aload_n 0, 1) := by decide +kernel
theorem dX2_pours_31 : decode cX2_pours 31 = .ok (.getfield 10, 3) := by decide +kernel
theorem dX2_pours_34 : decode cX2_pours 34 = .ok (.getfield 93, 3) := by decide +kernel
theorem dX2_pours_37 : decode cX2_pours 37 = .ok (.iload_n 1, 1) := by decide +kernel
theorem dX2_pours_38 : decode cX2_pours 38 = .ok (.iload_n 2, 1) := by decide +kernel
theorem dX2_pours_39 : decode cX2_pours 39 = .ok (.iastore, 1) := by decide +kernel
theorem dX2_pours_40 : decode cX2_pours 40 = .ok (.iload 4, 2) := by decide +kernel
theorem dX2_pours_42 : decode cX2_pours 42 = .ok (.ireturn, 1) := by decide +kernel
theorem dX2_cans_0 : decode cX2_cans 0 = .ok (.aload_n 0, 1) := by decide +kernel
theorem dX2_cans_1 : decode cX2_cans 1 = .ok (.iload_n 1, 1) := by decide +kernel
theorem dX2_cans_2 : decode cX2_cans 2 = .ok (.iload_n 2, 1) := by decide +kernel
theorem dX2_cans_3 : decode cX2_cans 3 = .ok (.bipush 9, 2) := by decide +kernel
theorem dX2_cans_5 : decode cX2_cans 5 = .ok (.invokevirtual 126, 3) := by decide +kernel
theorem dX2_cans_8 : decode cX2_cans 8 = .ok (.istore_n 3, 1) := by decide +kernel
theorem dX2_cans_9 : decode cX2_cans 9 = .ok (.iload_n 3, 1) := by decide +kernel
theorem dX2_cans_10 : decode cX2_cans 10 = .ok (.ifCond .eq 9, 3) := by decide +kernel
theorem dX2_cans_13 : decode cX2_cans 13 = .ok (.aload_n 0, 1) := by decide +kernel
theorem dX2_cans_14 : decode cX2_cans 14 = .ok (.iload_n 3, 1) := by decide +kernel
theorem dX2_cans_15 : decode cX2_cans 15 = .ok (.invokevirtual 52, 3) := by decide +kernel
theorem dX2_cans_18 : decode cX2_cans 18 = .ok (.ireturn, 1) := by decide +kernel
theorem dX2_cans_19 : decode cX2_cans 19 = .ok (.aload_n 0, 1) := by decide +kernel
theorem dX2_cans_20 : decode cX2_cans 20 = .ok (.getfield 10, 3) := by decide +kernel
theorem dX2_cans_23 : decode cX2_cans 23 = .ok (.getfield 90, 3) := by decide +kernel
theorem dX2_cans_26 : decode cX2_cans 26 = .ok (.iload_n 1, 1) := by decide +kernel
theorem dX2_cans_27 : decode cX2_cans 27 = .ok (.iaload, 1) := by decide +kernel
theorem dX2_cans_28 : decode cX2_cans 28 = .ok (.istore 4, 2) := by decide +kernel
theorem dX2_cans_30 : decode cX2_cans 30 = .ok (.aload_n 0, 1) := by decide +kernel
theorem dX2_cans_31 : decode cX2_cans 31 = .ok (.getfield 10, 3) := by decide +kernel
theorem dX2_cans_34 : decode cX2_cans 34 = .ok (.getfield 90, 3) := by decide +kernel
theorem dX2_cans_37 : decode cX2_cans 37 = .ok (.iload_n 1, 1) := by decide +kernel
theorem dX2_cans_38 : decode cX2_cans 38 = .ok (.iload_n 2, 1) := by decide +kernel
theorem dX2_cans_39 : decode cX2_cans 39 = .ok (.iastore, 1) := by decide +kernel
theorem dX2_cans_40 : decode cX2_cans 40 = .ok (.iload 4, 2) := by decide +kernel
theorem dX2_cans_42 : decode cX2_cans 42 = .ok (.ireturn, 1) := by decide +kernel
theorem dX2_water_0 : decode cX2_water 0 = .ok (.iload_n 1, 1) := by decide +kernel
theorem dX2_water_1 : decode cX2_water 1 = .ok (.iconst 0, 1) := by decide +kernel
theorem dX2_water_2 : decode cX2_water 2 = .ok (.bipush 99, 2) := by decide +kernel
theorem dX2_water_4 : decode cX2_water 4 = .ok (.invokestatic 44, 3) := by decide +kernel
theorem dX2_water_7 : decode cX2_water 7 = .ok (.istore_n 2, 1) := by decide +kernel
theorem dX2_water_8 : decode cX2_water 8 = .ok (.iload_n 2, 1) := by decide +kernel
theorem dX2_water_9 : decode cX2_water 9 = .ok (.ifCond .eq 9, 3) := by decide +kernel
theorem dX2_water_12 : decode cX2_water 12 = .ok (.aload_n 0, 1) := by decide +kernel
theorem dX2_water_13 : decode cX2_water 13 = .ok (.iload_n 2, 1) := by decide +kernel
theorem dX2_water_14 : decode cX2_water 14 = .ok (.invokevirtual 52, 3) := by decide +kernel
theorem dX2_water_17 : decode cX2_water 17 = .ok (.ireturn, 1) := by decide +kernel
theorem dX2_water_18 : decode cX2_water 18 = .ok (.aload_n 0, 1) := by decide +kernel
theorem dX2_water_19 : decode cX2_water 19 = .ok (.getfield 10, 3) := by decide +kernel
theorem dX2_water_22 : decode cX2_water 22 = .ok (.getfield 129, 3) := by decide +kernel
theorem dX2_water_25 : decode cX2_water 25 = .ok (.istore_n 3, 1) := by decide +kernel
theorem dX2_water_26 : decode cX2_water 26 = .ok (.aload_n 0, 1) := by decide +kernel
theorem dX2_water_27 : decode cX2_water 27 = .ok (.getfield 10, 3) := by decide +kernel
theorem dX2_water_30 : decode cX2_water 30 = .ok (.iload_n 1, 1) := by decide +kernel
theorem dX2_water_31 : decode cX2_water 31 = .ok (.putfield 129, 3) := by decide +kernel
theorem dX2_water_34 : decode cX2_water 34 = .ok (.iload_n 3, 1) := by decide +kernel
theorem dX2_water_35 : decode cX2_water 35 = .ok (.ireturn, 1) := by decide +kernel
theorem dX2_flow_0 : decode cX2_flow 0 = .ok (.iload_n 1, 1) := by decide +kernel
theorem dX2_flow_1 : decode cX2_flow 1 = .ok (.iconst 0, 1) := by decide +kernel
theorem dX2_flow_2 : decode cX2_flow 2 = .ok (.bipush 30, 2) := by decide +kernel
theorem dX2_flow_4 : decode cX2_flow 4 = .ok (.invokestatic 44, 3) := by decide +kernel
theorem dX2_flow_7 : decode cX2_flow 7 = .ok (.istore_n 2, 1) := by decide +kernel
theorem dX2_flow_8 : decode cX2_flow 8 = .ok (.iload_n 2, 1) := by decide +kernel
theorem dX2_flow_9 : decode cX2_flow 9 = .ok (.ifCond .eq 9, 3) := by decide +kernel
theorem dX2_flow_12 : decode cX2_flow 12 = .ok (.aload_n 0, 1) := by decide +kernel
theorem dX2_flow_13 : decode cX2_flow 13 = .ok (.iload_n 2, 1) := by decide +kernel
theorem dX2_flow_14 : decode cX2_flow 14 = .ok (.invokevirtual 52, 3) := by decide +kernel
theorem dX2_flow_17 : decode cX2_flow 17 = .ok (.ireturn, 1) := by decide +kernel
theorem dX2_flow_18 : decode cX2_flow 18 = .ok (.aload_n 0, 1) := by decide +kernel
theorem dX2_flow_19 : decode cX2_flow 19 = .ok (.getfield 10, 3) := by decide +kernel
theorem dX2_flow_22 : decode cX2_flow 22 = .ok (.getfield 132, 3) := by decide +kernel
theorem dX2_flow_25 : decode cX2_flow 25 = .ok (.istore_n 3, 1) := by decide +kernel
theorem dX2_flow_26 : decode cX2_flow 26 = .ok (.aload_n 0, 1) := by decide +kernel
theorem dX2_flow_27 : decode cX2_flow 27 = .ok (.getfield 10, 3) := by decide +kernel
theorem dX2_flow_30 : decode cX2_flow 30 = .ok (.iload_n 1, 1) := by decide +kernel
theorem dX2_flow_31 : decode cX2_flow 31 = .ok (.putfield 132, 3) := by decide +kernel
theorem dX2_flow_34 : decode cX2_flow 34 = .ok (.iload_n 3, 1) := by decide +kernel
theorem dX2_flow_35 : decode cX2_flow 35 = .ok (.ireturn, 1) := by decide +kernel
theorem dX2_turn_0 : decode cX2_turn 0 = .ok (.aload_n 0, 1) := by decide +kernel
theorem dX2_turn_1 : decode cX2_turn 1 = .ok (.getfield 10, 3) := by decide +kernel
theorem dX2_turn_4 : decode cX2_turn 4 = .ok (.iload_n 1, 1) := by decide +kernel
theorem dX2_turn_5 : decode cX2_turn 5 = .ok (.invokevirtual 81, 3) := by decide +kernel
theorem dX2_turn_8 : decode cX2_turn 8 = .ok (.ifCond .ne 9, 3) := by decide +kernel
theorem dX2_turn_11 : decode cX2_turn 11 = .ok (.aload_n 0, 1) := by decide +kernel
theorem dX2_turn_12 : decode cX2_turn 12 = .ok (.iconst (-1), 1) := by decide +kernel
theorem dX2_turn_13 : decode cX2_turn 13 = .ok (.invokevirtual 52, 3) := by decide +kernel
theorem dX2_turn_16 : decode cX2_turn 16 = .ok (.ireturn, 1) := by decide +kernel
theorem dX2_turn_17 : decode cX2_turn 17 = .ok (.iload_n 2, 1) := by decide +kernel
theorem dX2_turn_18 : decode cX2_turn 18 = .ok (.ifCond .lt 9, 3) := by decide +kernel
theorem dX2_turn_21 : decode cX2_turn 21 = .ok (.iload_n 2, 1) := by decide +kernel
theorem dX2_turn_22 : decode cX2_turn 22 = .ok (.bipush 6, 2) := by decide +kernel
theorem dX2_turn_24 : decode cX2_turn 24 = .ok (.if_icmp .lt 10, 3) := by decide +kernel
theorem dX2_turn_27 : decode cX2_turn 27 = .ok (.aload_n 0, 1) := by decide +kernel
theorem dX2_turn_28 : decode cX2_turn 28 = .ok (.bipush (-2), 2) := by decide +kernel
theorem dX2_turn_30 : decode cX2_turn 30 = .ok (.invokevirtual 52, 3) := by decide +kernel
theorem dX2_turn_33 : decode cX2_turn 33 = .ok (.ireturn, 1) := by decide +kernel
theorem dX2_turn_34 : decode cX2_turn 34 = .ok (.iload_n 3, 1) := by decide +kernel
theorem dX2_turn_35 : decode cX2_turn 35 = .ok (.iconst 0, 1) := by decide +kernel
theorem dX2_turn_36 : decode cX2_turn 36 = .ok (.bipush 9, 2) := by decide +kernel
theorem dX2_turn_38 : decode cX2_turn 38 = .ok (.invokestatic 44, 3) := by decide +kernel
theorem dX2_turn_41 : decode cX2_turn 41 = .ok (.istore 4, 2) := by decide +kernel
theorem dX2_turn_43 : decode cX2_turn 43 = .ok (.iload 4, 2) := by decide +kernel
theorem dX2_turn_45 : decode cX2_turn 45 = .ok (.ifCond .eq 10, 3) := by decide +kernel
theorem dX2_turn_48 : decode cX2_turn 48 = .ok (.aload_n 0, 1) := by decide +kernel
theorem dX2_turn_49 : decode cX2_turn 49 = .ok (.iload 4, 2) := by decide +kernel
theorem dX2_turn_51 : decode cX2_turn 51 = .ok (.invokevirtual 52, 3) := by decide +kernel
theorem dX2_turn_54 : decode cX2_turn 54 = .ok (.ireturn, 1) := by decide +kernel
theorem dX2_turn_55 : decode cX2_turn 55 = .ok (.bipush 10, 2) := by decide +kernel
theorem dX2_turn_57 : decode cX2_turn 57 = .ok (.aload_n 0, 1) := by decide +kernel
theorem dX2_turn_58 : decode cX2_turn 58 = .ok (.getfield 10, 3) := by decide +kernel
theorem dX2_turn_61 : decode cX2_turn 61 = .ok (.getfield 84, 3) := by decide +kernel
theorem dX2_turn_64 : decode cX2_turn 64 = .ok (.iload_n 1, 1) := by decide +kernel
theorem dX2_turn_65 : decode cX2_turn 65 = .ok (.iaload, 1) := by decide +kernel
theorem dX2_turn_66 : decode cX2_turn 66 = .ok (.imul, 1) := by decide +kernel
theorem dX2_turn_67 : decode cX2_turn 67 = .ok (.aload_n 0, 1) := by decide +kernel
theorem dX2_turn_68 : decode cX2_turn 68 = .ok (.getfield 10, 3) := by decide +kernel
theorem dX2_turn_71 : decode cX2_turn 71 = .ok (.getfield 87, 3) := by decide +kernel
theorem dX2_turn_74 : decode cX2_turn 74 = .ok (.iload_n 1, 1) := by decide +kernel
theorem dX2_turn_75 : decode cX2_turn 75 = .ok (.iaload, 1) := by decide +kernel
theorem dX2_turn_76 : decode cX2_turn 76 = .ok (.iadd, 1) := by decide +kernel
theorem dX2_turn_77 : decode cX2_turn 77 = .ok (.istore 5, 2) := by decide +kernel
theorem dX2_turn_79 : decode cX2_turn 79 = .ok (.aload_n 0, 1) := by decide +kernel
theorem dX2_turn_80 : decode cX2_turn 80 = .ok (.getfield 10, 3) := by decide +kernel
theorem dX2_turn_83 : decode cX2_turn 83 = .ok (.getfield 84, 3) := by decide +kernel
theorem dX2_turn_86 : decode cX2_turn 86 = .ok (.iload_n 1, 1) := by decide +kernel
theorem dX2_turn_87 : decode cX2_turn 87 = .ok (.iload_n 2, 1) := by decide +kernel
theorem dX2_turn_88 : decode cX2_turn 88 = .ok (.iastore, 1) := by decide +kernel
theorem dX2_turn_89 : decode cX2_turn 89 = .ok (.aload_n 0, 1) := by decide +kernel
theorem dX2_turn_90 : decode cX2_turn 90 = .ok (.getfield 10, 3) := by decide +kernel
theorem dX2_turn_93 : decode cX2_turn 93 = .ok (.getfield 87, 3) := by decide +kernel
theorem dX2_turn_96 : decode cX2_turn 96 = .ok (.iload_n 1, 1) := by decide +kernel
theorem dX2_turn_97 : decode cX2_turn 97 = .ok (.iload_n 3, 1) := by decide +kernel
theorem dX2_turn_98 : decode cX2_turn 98 = .ok (.iastore, 1) := by decide +kernel
theorem dX2_turn_99 : decode cX2_turn 99 = .ok (.iload 5, 2) := by decide +kernel
theorem dX2_turn_101 : decode cX2_turn 101 = .ok (.ireturn, 1) := by decide +kernel
theorem dX2_hours_0 : decode cX2_hours 0 = .ok (.iload_n 1, 1) := by decide +kernel
theorem dX2_hours_1 : decode cX2_hours 1 = .ok (.iconst 1, 1) := by decide +kernel
theorem dX2_hours_2 : decode cX2_hours 2 = .ok (.bipush 60, 2) := by decide +kernel
theorem dX2_hours_4 : decode cX2_hours 4 = .ok (.invokestatic 44, 3) := by decide +kernel
theorem dX2_hours_7 : decode cX2_hours 7 = .ok (.istore_n 2, 1) := by decide +kernel
theorem dX2_hours_8 : decode cX2_hours 8 = .ok (.iload_n 2, 1) := by decide +kernel
theorem dX2_hours_9 : decode cX2_hours 9 = .ok (.ifCond .ne 17, 3) := by decide +kernel
theorem dX2_hours_12 : decode cX2_hours 12 = .ok (.aload_n 0, 1) := by decide +kernel
theorem dX2_hours_13 : decode cX2_hours 13 = .ok (.getfield 10, 3) := by decide +kernel
theorem dX2_hours_16 : decode cX2_hours 16 = .ok (.iload_n 1, 1) := by decide +kernel
theorem dX2_hours_17 : decode cX2_hours 17 = .ok (.invokevirtual 135, 3) := by decide +kernel
theorem dX2_hours_20 : decode cX2_hours 20 = .ok (.ifCond .ne 6, 3) := by decide +kernel
theorem dX2_hours_23 : decode cX2_hours 23 = .ok (.bipush (-6), 2) := by decide +kernel
theorem dX2_hours_25 : decode cX2_hours 25 = .ok (.istore_n 2, 1) := by decide +kernel
theorem dX2_hours_26 : decode cX2_hours 26 = .ok (.iload_n 2, 1) := by decide +kernel
theorem dX2_hours_27 : decode cX2_hours 27 = .ok (.ifCond .eq 9, 3) := by decide +kernel
theorem dX2_hours_30 : decode cX2_hours 30 = .ok (.aload_n 0, 1) := by decide +kernel
theorem dX2_hours_31 : decode cX2_hours 31 = .ok (.iload_n 2, 1) := by decide +kernel
theorem dX2_hours_32 : decode cX2_hours 32 = .ok (.invokevirtual 52, 3) := by decide +kernel
theorem dX2_hours_35 : decode cX2_hours 35 = .ok (.ireturn, 1) := by decide +kernel
theorem dX2_hours_36 : decode cX2_hours 36 = .ok (.aload_n 0, 1) := by decide +kernel
theorem dX2_hours_37 : decode cX2_hours 37 = .ok (.getfield 10, 3) := by decide +kernel
theorem dX2_hours_40 : decode cX2_hours 40 = .ok (.iload_n 1, 1) := by decide +kernel
theorem dX2_hours_41 : decode cX2_hours 41 = .ok (.invokevirtual 138, 3) := by decide +kernel
theorem dX2_hours_44 : decode cX2_hours 44 = .ok (.aload_n 0, 1) := by decide +kernel
theorem dX2_hours_45 : decode cX2_hours 45 = .ok (.getfield 10, 3) := by decide +kernel
theorem dX2_hours_48 : decode cX2_hours 48 = .ok (.getfield 129, 3) := by decide +kernel
theorem dX2_hours_51 : decode cX2_hours 51 = .ok (.ireturn, 1) := by decide +kernel
theorem dX2_hasThen_0 : decode cX2_hasThen 0 = .ok (.aload_n 0, 1) := by decide +kernel
theorem dX2_hasThen_1 : decode cX2_hasThen 1 = .ok (.iload_n 1, 1) := by decide +kernel
theorem dX2_hasThen_2 : decode cX2_hasThen 2 = .ok (.iload_n 2, 1) := by decide +kernel
theorem dX2_hasThen_3 : decode cX2_hasThen 3 = .ok (.bipush 60, 2) := by decide +kernel
theorem dX2_hasThen_5 : decode cX2_hasThen 5 = .ok (.invokevirtual 126, 3) := by decide +kernel
theorem dX2_hasThen_8 : decode cX2_hasThen 8 = .ok (.istore_n 3, 1) := by decide +kernel
theorem dX2_hasThen_9 : decode cX2_hasThen 9 = .ok (.iload_n 3, 1) := by decide +kernel
theorem dX2_hasThen_10 : decode cX2_hasThen 10 = .ok (.ifCond .eq 9, 3) := by decide +kernel
theorem dX2_hasThen_13 : decode cX2_hasThen 13 = .ok (.aload_n 0, 1) := by decide +kernel
theorem dX2_hasThen_14 : decode cX2_hasThen 14 = .ok (.iload_n 3, 1) := by decide +kernel
theorem dX2_hasThen_15 : decode cX2_hasThen 15 = .ok (.invokevirtual 52, 3) := by decide +kernel
theorem dX2_hasThen_18 : decode cX2_hasThen 18 = .ok (.ireturn, 1) := by decide +kernel
theorem dX2_hasThen_19 : decode cX2_hasThen 19 = .ok (.aload_n 0, 1) := by decide +kernel
theorem dX2_hasThen_20 : decode cX2_hasThen 20 = .ok (.iload_n 2, 1) := by decide +kernel
theorem dX2_hasThen_21 : decode cX2_hasThen 21 = .ok (.invokevirtual 142, 3) := by decide +kernel
theorem dX2_hasThen_24 : decode cX2_hasThen 24 = .ok (.getfield 93, 3) := by decide +kernel
theorem dX2_hasThen_27 : decode cX2_hasThen 27 = .ok (.iload_n 1, 1) := by decide +kernel
theorem dX2_hasThen_28 : decode cX2_hasThen 28 = .ok (.iaload, 1) := by decide +kernel
theorem dX2_hasThen_29 : decode cX2_hasThen 29 = .ok (.ireturn, 1) := by decide +kernel
theorem dX2_then_0 : decode cX2_then 0 = .ok (.iload_n 1, 1) := by decide +kernel
theorem dX2_then_1 : decode cX2_then 1 = .ok (.iconst 0, 1) := by decide +kernel
theorem dX2_then_2 : decode cX2_then 2 = .ok (.bipush 60, 2) := by decide +kernel
theorem dX2_then_4 : decode cX2_then 4 = .ok (.invokestatic 44, 3) := by decide +kernel
theorem dX2_then_7 : decode cX2_then 7 = .ok (.istore_n 3, 1) := by decide +kernel
theorem dX2_then_8 : decode cX2_then 8 = .ok (.iload_n 3, 1) := by decide +kernel
theorem dX2_then_9 : decode cX2_then 9 = .ok (.ifCond .ne 9, 3) := by decide +kernel
theorem dX2_then_12 : decode cX2_then 12 = .ok (.iload_n 2, 1) := by decide +kernel
theorem dX2_then_13 : decode cX2_then 13 = .ok (.iconst 3, 1) := by decide +kernel
theorem dX2_then_14 : decode cX2_then 14 = .ok (.invokestatic 146, 3) := by decide +kernel
theorem dX2_then_17 : decode cX2_then 17 = .ok (.istore_n 3, 1) := by decide +kernel
theorem dX2_then_18 : decode cX2_then 18 = .ok (.iload_n 3, 1) := by decide +kernel
theorem dX2_then_19 : decode cX2_then 19 = .ok (.ifCond .eq 9, 3) := by decide +kernel
theorem dX2_then_22 : decode cX2_then 22 = .ok (.aload_n 0, 1) := by decide +kernel
theorem dX2_then_23 : decode cX2_then 23 = .ok (.iload_n 3, 1) := by decide +kernel
theorem dX2_then_24 : decode cX2_then 24 = .ok (.invokevirtual 52, 3) := by decide +kernel
theorem dX2_then_27 : decode cX2_then 27 = .ok (.ireturn, 1) := by decide +kernel
theorem dX2_then_28 : decode cX2_then 28 = .ok (.aload_n 0, 1) := by decide +kernel
theorem dX2_then_29 : decode cX2_then 29 = .ok (.iload_n 1, 1) := by decide +kernel
theorem dX2_then_30 : decode cX2_then 30 = .ok (.invokevirtual 142, 3) := by decide +kernel
theorem dX2_then_33 : decode cX2_then 33 = .ok (.astore 4, 2) := by decide +kernel
theorem dX2_then_35 : decode cX2_then 35 = .ok (.iload_n 2, 1) := by decide +kernel
theorem dX2_then_36 : decode cX2_then 36 = .ok (.tableswitch 46 0 2 #[28, 34, 40], 28) := by decide +kernel
theorem dX2_then_64 : decode cX2_then 64 = .ok (.aload 4, 2) := by decide +kernel
theorem dX2_then_66 : decode cX2_then 66 = .ok (.getfield 129, 3) := by decide +kernel
theorem dX2_then_69 : decode cX2_then 69 = .ok (.ireturn, 1) := by decide +kernel
theorem dX2_then_70 : decode cX2_then 70 = .ok (.aload 4, 2) := by decide +kernel
theorem dX2_then_72 : decode cX2_then 72 = .ok (.getfield 114, 3) := by decide +kernel
theorem dX2_then_75 : decode cX2_then 75 = .ok (.ireturn, 1) := by decide +kernel
theorem dX2_then_76 : decode cX2_then 76 = .ok (.aload 4, 2) := by decide +kernel
theorem dX2_then_78 : decode cX2_then 78 = .ok (.getfield 150, 3) := by decide +kernel
theorem dX2_then_81 : decode cX2_then 81 = .ok (.ireturn, 1) := by decide +kernel
theorem dX2_then_82 : decode cX2_then 82 = .ok (.aload 4, 2) := by decide +kernel
theorem dX2_then_84 : decode cX2_then 84 = .ok (.invokevirtual 153, 3) := by decide +kernel
theorem dX2_then_87 : decode cX2_then 87 = .ok (.ireturn, 1) := by decide +kernel
theorem dX2_dry_0 : decode cX2_dry 0 = .ok (.iload_n 1, 1) := by decide +kernel
theorem dX2_dry_1 : decode cX2_dry 1 = .ok (.iconst (-1), 1) := by decide +kernel
theorem dX2_dry_2 : decode cX2_dry 2 = .ok (.if_icmp .ne 8, 3) := by decide +kernel
theorem dX2_dry_5 : decode cX2_dry 5 = .ok (.aload_n 0, 1) := by decide +kernel
theorem dX2_dry_6 : decode cX2_dry 6 = .ok (.invokevirtual 156, 3) := by decide +kernel
theorem dX2_dry_9 : decode cX2_dry 9 = .ok (.ireturn, 1) := by decide +kernel
theorem dX2_dry_10 : decode cX2_dry 10 = .ok (.aload_n 0, 1) := by decide +kernel
theorem dX2_dry_11 : decode cX2_dry 11 = .ok (.getfield 10, 3) := by decide +kernel
theorem dX2_dry_14 : decode cX2_dry 14 = .ok (.iload_n 1, 1) := by decide +kernel
theorem dX2_dry_15 : decode cX2_dry 15 = .ok (.invokevirtual 81, 3) := by decide +kernel
theorem dX2_dry_18 : decode cX2_dry 18 = .ok (.ifCond .ne 9, 3) := by decide +kernel
theorem dX2_dry_21 : decode cX2_dry 21 = .ok (.aload_n 0, 1) := by decide +kernel
theorem dX2_dry_22 : decode cX2_dry 22 = .ok (.iconst (-1), 1) := by decide +kernel
theorem dX2_dry_23 : decode cX2_dry 23 = .ok (.invokevirtual 52, 3) := by decide +kernel
theorem dX2_dry_26 : decode cX2_dry 26 = .ok (.ireturn, 1) := by decide +kernel
theorem dX2_dry_27 : decode cX2_dry 27 = .ok (.aload_n 0, 1) := by decide +kernel
theorem dX2_dry_28 : decode cX2_dry 28 = .ok (.invokevirtual 63, 3) := by decide +kernel
theorem dX2_dry_31 : decode cX2_dry 31 = .ok (.astore_n 2, 1) := by decide +kernel
theorem dX2_dry_32 : decode cX2_dry 32 = .ok (.iconst 0, 1) := by decide +kernel
theorem dX2_dry_33 : decode cX2_dry 33 = .ok (.istore_n 3, 1) := by decide +kernel
theorem dX2_dry_34 : decode cX2_dry 34 = .ok (.iload_n 3, 1) := by decide +kernel
theorem dX2_dry_35 : decode cX2_dry 35 = .ok (.bipush 60, 2) := by decide +kernel
theorem dX2_dry_37 : decode cX2_dry 37 = .ok (.if_icmp .gt 25, 3) := by decide +kernel
theorem dX2_dry_40 : decode cX2_dry 40 = .ok (.aload_n 2, 1) := by decide +kernel
theorem dX2_dry_41 : decode cX2_dry 41 = .ok (.getfield 93, 3) := by decide +kernel
theorem dX2_dry_44 : decode cX2_dry 44 = .ok (.iload_n 1, 1) := by decide +kernel
theorem dX2_dry_45 : decode cX2_dry 45 = .ok (.iaload, 1) := by decide +kernel
theorem dX2_dry_46 : decode cX2_dry 46 = .ok (.ifCond .ne 5, 3) := by decide +kernel
theorem dX2_dry_49 : decode cX2_dry 49 = .ok (.iload_n 3, 1) := by decide +kernel
theorem dX2_dry_50 : decode cX2_dry 50 = .ok (.ireturn, 1) := by decide +kernel
theorem dX2_dry_51 : decode cX2_dry 51 = .ok (.aload_n 2, 1) := by decide +kernel
theorem dX2_dry_52 : decode cX2_dry 52 = .ok (.iconst 0, 1) := by decide +kernel
theorem dX2_dry_53 : decode cX2_dry 53 = .ok (.invokevirtual 159, 3) := by decide +kernel
theorem dX2_dry_56 : decode cX2_dry 56 = .ok (.iinc 3 1, 3) := by decide +kernel
theorem dX2_dry_59 : decode cX2_dry 59 = .ok (.goto (-25), 3) := by decide +kernel
theorem dX2_dry_62 : decode cX2_dry 62 = .ok (.bipush (-9), 2) := by decide +kernel
theorem dX2_dry_64 : decode cX2_dry 64 = .ok (.ireturn, 1) := by decide +kernel
theorem dX2_empty_0 : decode cX2_empty 0 = .ok (.aload_n 0, 1) := by decide +kernel
theorem dX2_empty_1 : decode cX2_empty 1 = .ok (.invokevirtual 63, 3) := by decide +kernel
theorem dX2_empty_4 : decode cX2_empty 4 = .ok (.astore_n 1, 1) := by decide +kernel
theorem dX2_empty_5 : decode cX2_empty 5 = .ok (.iconst 0, 1) := by decide +kernel
theorem dX2_empty_6 : decode cX2_empty 6 = .ok (.istore_n 2, 1) := by decide +kernel
theorem dX2_empty_7 : decode cX2_empty 7 = .ok (.iload_n 2, 1) := by decide +kernel
theorem dX2_empty_8 : decode cX2_empty 8 = .ok (.bipush 60, 2) := by decide +kernel
theorem dX2_empty_10 : decode cX2_empty 10 = .ok (.if_icmp .gt 23, 3) := by decide +kernel
theorem dX2_empty_13 : decode cX2_empty 13 = .ok (.aload_n 1, 1) := by decide +kernel
theorem dX2_empty_14 : decode cX2_empty 14 = .ok (.getfield 129, 3) := by decide +kernel
theorem dX2_empty_17 : decode cX2_empty 17 = .ok (.ifCond .ne 5, 3) := by decide +kernel
theorem dX2_empty_20 : decode cX2_empty 20 = .ok (.iload_n 2, 1) := by decide +kernel
theorem dX2_empty_21 : decode cX2_empty 21 = .ok (.ireturn, 1) := by decide +kernel
theorem dX2_empty_22 : decode cX2_empty 22 = .ok (.aload_n 1, 1) := by decide +kernel
theorem dX2_empty_23 : decode cX2_empty 23 = .ok (.iconst 0, 1) := by decide +kernel
theorem dX2_empty_24 : decode cX2_empty 24 = .ok (.invokevirtual 159, 3) := by decide +kernel
theorem dX2_empty_27 : decode cX2_empty 27 = .ok (.iinc 2 1, 3) := by decide +kernel
theorem dX2_empty_30 : decode cX2_empty 30 = .ok (.goto (-23), 3) := by decide +kernel
theorem dX2_empty_33 : decode cX2_empty 33 = .ok (.bipush (-9), 2) := by decide +kernel
theorem dX2_empty_35 : decode cX2_empty 35 = .ok (.ireturn, 1) := by decide +kernel
theorem dX2_flowBest_0 : decode cX2_flowBest 0 = .ok (.iload_n 1, 1) := by decide +kernel
theorem dX2_flowBest_1 : decode cX2_flowBest 1 = .ok (.iconst 0, 1) := by decide +kernel
theorem dX2_flowBest_2 : decode cX2_flowBest 2 = .ok (.bipush 48, 2) := by decide +kernel
theorem dX2_flowBest_4 : decode cX2_flowBest 4 = .ok (.invokestatic 44, 3) := by decide +kernel
theorem dX2_flowBest_7 : decode cX2_flowBest 7 = .ok (.istore_n 2, 1) := by decide +kernel
theorem dX2_flowBest_8 : decode cX2_flowBest 8 = .ok (.iload_n 2, 1) := by decide +kernel
theorem dX2_flowBest_9 : decode cX2_flowBest 9 = .ok (.ifCond .eq 9, 3) := by decide +kernel
theorem dX2_flowBest_12 : decode cX2_flowBest 12 = .ok (.aload_n 0, 1) := by decide +kernel
theorem dX2_flowBest_13 : decode cX2_flowBest 13 = .ok (.iload_n 2, 1) := by decide +kernel
theorem dX2_flowBest_14 : decode cX2_flowBest 14 = .ok (.invokevirtual 52, 3) := by decide +kernel
theorem dX2_flowBest_17 : decode cX2_flowBest 17 = .ok (.ireturn, 1) := by decide +kernel
theorem dX2_flowBest_18 : decode cX2_flowBest 18 = .ok (.iconst 0, 1) := by decide +kernel
theorem dX2_flowBest_19 : decode cX2_flowBest 19 = .ok (.istore_n 3, 1) := by decide +kernel
theorem dX2_flowBest_20 : decode cX2_flowBest 20 = .ok (.iload_n 3, 1) := by decide +kernel
theorem dX2_flowBest_21 : decode cX2_flowBest 21 = .ok (.bipush 30, 2) := by decide +kernel
theorem dX2_flowBest_23 : decode cX2_flowBest 23 = .ok (.if_icmp .gt 39, 3) := by decide +kernel
theorem dX2_flowBest_26 : decode cX2_flowBest 26 = .ok (.aload_n 0, 1) := by decide +kernel
theorem dX2_flowBest_27 : decode cX2_flowBest 27 = .ok (.invokevirtual 63, 3) := by decide +kernel
theorem dX2_flowBest_30 : decode cX2_flowBest 30 = .ok (.astore 4, 2) := by decide +kernel
theorem dX2_flowBest_32 : decode cX2_flowBest 32 = .ok (.aload 4, 2) := by decide +kernel
theorem dX2_flowBest_34 : decode cX2_flowBest 34 = .ok (.iload_n 3, 1) := by decide +kernel
theorem dX2_flowBest_35 : decode cX2_flowBest 35 = .ok (.putfield 132, 3) := by decide +kernel
theorem dX2_flowBest_38 : decode cX2_flowBest 38 = .ok (.aload 4, 2) := by decide +kernel
theorem dX2_flowBest_40 : decode cX2_flowBest 40 = .ok (.aload_n 0, 1) := by decide +kernel
theorem dX2_flowBest_41 : decode cX2_flowBest 41 = .ok (.getfield 10, 3) := by decide +kernel
theorem dX2_flowBest_44 : decode cX2_flowBest 44 = .ok (.invokevirtual 162, 3) := by decide +kernel
theorem dX2_flowBest_47 : decode cX2_flowBest 47 = .ok (.iload_n 1, 1) := by decide +kernel
theorem dX2_flowBest_48 : decode cX2_flowBest 48 = .ok (.invokevirtual 165, 3) := by decide +kernel
theorem dX2_flowBest_51 : decode cX2_flowBest 51 = .ok (.ifCond .eq 5, 3) := by decide +kernel
theorem dX2_flowBest_54 : decode cX2_flowBest 54 = .ok (.iload_n 3, 1) := by decide +kernel
theorem dX2_flowBest_55 : decode cX2_flowBest 55 = .ok (.ireturn, 1) := by decide +kernel
theorem dX2_flowBest_56 : decode cX2_flowBest 56 = .ok (.iinc 3 1, 3) := by decide +kernel
theorem dX2_flowBest_59 : decode cX2_flowBest 59 = .ok (.goto (-39), 3) := by decide +kernel
theorem dX2_flowBest_62 : decode cX2_flowBest 62 = .ok (.bipush (-9), 2) := by decide +kernel
theorem dX2_flowBest_64 : decode cX2_flowBest 64 = .ok (.ireturn, 1) := by decide +kernel
theorem dX2_canBest_0 : decode cX2_canBest 0 = .ok (.aload_n 0, 1) := by decide +kernel
theorem dX2_canBest_1 : decode cX2_canBest 1 = .ok (.iload_n 1, 1) := by decide +kernel
theorem dX2_canBest_2 : decode cX2_canBest 2 = .ok (.iload_n 2, 1) := by decide +kernel
theorem dX2_canBest_3 : decode cX2_canBest 3 = .ok (.bipush 48, 2) := by decide +kernel
theorem dX2_canBest_5 : decode cX2_canBest 5 = .ok (.invokevirtual 126, 3) := by decide +kernel
theorem dX2_canBest_8 : decode cX2_canBest 8 = .ok (.istore_n 3, 1) := by decide +kernel
theorem dX2_canBest_9 : decode cX2_canBest 9 = .ok (.iload_n 3, 1) := by decide +kernel
theorem dX2_canBest_10 : decode cX2_canBest 10 = .ok (.ifCond .eq 9, 3) := by decide +kernel
theorem dX2_canBest_13 : decode cX2_canBest 13 = .ok (.aload_n 0, 1) := by decide +kernel
theorem dX2_canBest_14 : decode cX2_canBest 14 = .ok (.iload_n 3, 1) := by decide +kernel
theorem dX2_canBest_15 : decode cX2_canBest 15 = .ok (.invokevirtual 52, 3) := by decide +kernel
theorem dX2_canBest_18 : decode cX2_canBest 18 = .ok (.ireturn, 1) := by decide +kernel
theorem dX2_canBest_19 : decode cX2_canBest 19 = .ok (.iconst 0, 1) := by decide +kernel
theorem dX2_canBest_20 : decode cX2_canBest 20 = .ok (.istore 4, 2) := by decide +kernel
theorem dX2_canBest_22 : decode cX2_canBest 22 = .ok (.iload 4, 2) := by decide +kernel
theorem dX2_canBest_24 : decode cX2_canBest 24 = .ok (.bipush 9, 2) := by decide +kernel
theorem dX2_canBest_26 : decode cX2_canBest 26 = .ok (.if_icmp .gt 39, 3) := by decide +kernel
theorem dX2_canBest_29 : decode cX2_canBest 29 = .ok (.aload_n 0, 1) := by decide +kernel
theorem dX2_canBest_30 : decode cX2_canBest 30 = .ok (.invokevirtual 63, 3) := by decide +kernel
theorem dX2_canBest_33 : decode cX2_canBest 33 = .ok (.astore 5, 2) := by decide +kernel
theorem dX2_canBest_35 : decode cX2_canBest 35 = .ok (.aload 5, 2) := by decide +kernel
theorem dX2_canBest_37 : decode cX2_canBest 37 = .ok (.getfield 90, 3) := by decide +kernel
theorem dX2_canBest_40 : decode cX2_canBest 40 = .ok (.iload_n 1, 1) := by decide +kernel
theorem dX2_canBest_41 : decode cX2_canBest 41 = .ok (.iload 4, 2) := by decide +kernel
theorem dX2_canBest_43 : decode cX2_canBest 43 = .ok (.iastore, 1) := by decide +kernel
theorem dX2_canBest_44 : decode cX2_canBest 44 = .ok (.aload 5, 2) := by decide +kernel
theorem dX2_canBest_46 : decode cX2_canBest 46 = .ok (.iconst 1, 1) := by decide +kernel
theorem dX2_canBest_47 : decode cX2_canBest 47 = .ok (.iload_n 1, 1) := by decide +kernel
theorem dX2_canBest_48 : decode cX2_canBest 48 = .ok (.ishl, 1) := by decide +kernel
theorem dX2_canBest_49 : decode cX2_canBest 49 = .ok (.iload_n 2, 1) := by decide +kernel
theorem dX2_canBest_50 : decode cX2_canBest 50 = .ok (.invokevirtual 165, 3) := by decide +kernel
theorem dX2_canBest_53 : decode cX2_canBest 53 = .ok (.ifCond .eq 6, 3) := by decide +kernel
theorem dX2_canBest_56 : decode cX2_canBest 56 = .ok (.iload 4, 2) := by decide +kernel
theorem dX2_canBest_58 : decode cX2_canBest 58 = .ok (.ireturn, 1) := by decide +kernel
theorem dX2_canBest_59 : decode cX2_canBest 59 = .ok (.iinc 4 1, 3) := by decide +kernel
theorem dX2_canBest_62 : decode cX2_canBest 62 = .ok (.goto (-40), 3) := by decide +kernel
theorem dX2_canBest_65 : decode cX2_canBest 65 = .ok (.bipush (-9), 2) := by decide +kernel
theorem dX2_canBest_67 : decode cX2_canBest 67 = .ok (.ireturn, 1) := by decide +kernel
theorem dX2_friendBest_0 : decode cX2_friendBest 0 = .ok (.aload_n 0, 1) := by decide +kernel
theorem dX2_friendBest_1 : decode cX2_friendBest 1 = .ok (.iload_n 1, 1) := by decide +kernel
theorem dX2_friendBest_2 : decode cX2_friendBest 2 = .ok (.iload_n 2, 1) := by decide +kernel
theorem dX2_friendBest_3 : decode cX2_friendBest 3 = .ok (.bipush 48, 2) := by decide +kernel
theorem dX2_friendBest_5 : decode cX2_friendBest 5 = .ok (.invokevirtual 126, 3) := by decide +kernel
theorem dX2_friendBest_8 : decode cX2_friendBest 8 = .ok (.istore_n 3, 1) := by decide +kernel
theorem dX2_friendBest_9 : decode cX2_friendBest 9 = .ok (.iload_n 3, 1) := by decide +kernel
theorem dX2_friendBest_10 : decode cX2_friendBest 10 = .ok (.ifCond .eq 9, 3) := by decide +kernel
theorem dX2_friendBest_13 : decode cX2_friendBest 13 = .ok (.aload_n 0, 1) := by decide +kernel
theorem dX2_friendBest_14 : decode cX2_friendBest 14 = .ok (.iload_n 3, 1) := by decide +kernel
theorem dX2_friendBest_15 : decode cX2_friendBest 15 = .ok (.invokevirtual 52, 3) := by decide +kernel
theorem dX2_friendBest_18 : decode cX2_friendBest 18 = .ok (.ireturn, 1) := by decide +kernel
theorem dX2_friendBest_19 : decode cX2_friendBest 19 = .ok (.bipush (-9), 2) := by decide +kernel
theorem dX2_friendBest_21 : decode cX2_friendBest 21 = .ok (.istore 4, 2) := by decide +kernel
theorem dX2_friendBest_23 : decode cX2_friendBest 23 = .ok (.aload_n 0, 1) := by decide +kernel
theorem dX2_friendBest_24 : decode cX2_friendBest 24 = .ok (.iload_n 2, 1) := by decide +kernel
theorem dX2_friendBest_25 : decode cX2_friendBest 25 = .ok (.invokevirtual 142, 3) := by decide +kernel
theorem dX2_friendBest_28 : decode cX2_friendBest 28 = .ok (.invokevirtual 168, 3) := by decide +kernel
theorem dX2_friendBest_31 : decode cX2_friendBest 31 = .ok (.istore 5, 2) := by decide +kernel
theorem dX2_friendBest_33 : decode cX2_friendBest 33 = .ok (.iconst 0, 1) := by decide +kernel
theorem dX2_friendBest_34 : decode cX2_friendBest 34 = .ok (.istore 6, 2) := by decide +kernel
theorem dX2_friendBest_36 : decode cX2_friendBest 36 = .ok (.iload 6, 2) := by decide +kernel
theorem dX2_friendBest_38 : decode cX2_friendBest 38 = .ok (.aload_n 0, 1) := by decide +kernel
theorem dX2_friendBest_39 : decode cX2_friendBest 39 = .ok (.getfield 10, 3) := by decide +kernel
theorem dX2_friendBest_42 : decode cX2_friendBest 42 = .ok (.getfield 171, 3) := by decide +kernel
theorem dX2_friendBest_45 : decode cX2_friendBest 45 = .ok (.if_icmp .ge 60, 3) := by decide +kernel
theorem dX2_friendBest_48 : decode cX2_friendBest 48 = .ok (.iload 6, 2) := by decide +kernel
theorem dX2_friendBest_50 : decode cX2_friendBest 50 = .ok (.iload_n 1, 1) := by decide +kernel
theorem dX2_friendBest_51 : decode cX2_friendBest 51 = .ok (.if_icmp .ne 6, 3) := by decide +kernel
theorem dX2_friendBest_54 : decode cX2_friendBest 54 = .ok (.goto 45, 3) := by decide +kernel
theorem dX2_friendBest_57 : decode cX2_friendBest 57 = .ok (.aload_n 0, 1) := by decide +kernel
theorem dX2_friendBest_58 : decode cX2_friendBest 58 = .ok (.invokevirtual 63, 3) := by decide +kernel
theorem dX2_friendBest_61 : decode cX2_friendBest 61 = .ok (.astore 7, 2) := by decide +kernel
theorem dX2_friendBest_63 : decode cX2_friendBest 63 = .ok (.aload 7, 2) := by decide +kernel
theorem dX2_friendBest_65 : decode cX2_friendBest 65 = .ok (.getfield 102, 3) := by decide +kernel
theorem dX2_friendBest_68 : decode cX2_friendBest 68 = .ok (.iload_n 1, 1) := by decide +kernel
theorem dX2_friendBest_69 : decode cX2_friendBest 69 = .ok (.iload 6, 2) := by decide +kernel
theorem dX2_friendBest_71 : decode cX2_friendBest 71 = .ok (.iastore, 1) := by decide +kernel
theorem dX2_friendBest_72 : decode cX2_friendBest 72 = .ok (.aload 7, 2) := by decide +kernel
theorem dX2_friendBest_74 : decode cX2_friendBest 74 = .ok (.iload_n 2, 1) := by decide +kernel
theorem dX2_friendBest_75 : decode cX2_friendBest 75 = .ok (.invokevirtual 138, 3) := by decide +kernel
theorem dX2_friendBest_78 : decode cX2_friendBest 78 = .ok (.aload 7, 2) := by decide +kernel
theorem dX2_friendBest_80 : decode cX2_friendBest 80 = .ok (.invokevirtual 168, 3) := by decide +kernel
theorem dX2_friendBest_83 : decode cX2_friendBest 83 = .ok (.iload 5, 2) := by decide +kernel
theorem dX2_friendBest_85 : decode cX2_friendBest 85 = .ok (.if_icmp .le 14, 3) := by decide +kernel
theorem dX2_friendBest_88 : decode cX2_friendBest 88 = .ok (.aload 7, 2) := by decide +kernel
theorem dX2_friendBest_90 : decode cX2_friendBest 90 = .ok (.invokevirtual 168, 3) := by decide +kernel
theorem dX2_friendBest_93 : decode cX2_friendBest 93 = .ok (.istore 5, 2) := by decide +kernel
theorem dX2_friendBest_95 : decode cX2_friendBest 95 = .ok (.iload 6, 2) := by decide +kernel
theorem dX2_friendBest_97 : decode cX2_friendBest 97 = .ok (.istore 4, 2) := by decide +kernel
theorem dX2_friendBest_99 : decode cX2_friendBest 99 = .ok (.iinc 6 1, 3) := by decide +kernel
theorem dX2_friendBest_102 : decode cX2_friendBest 102 = .ok (.goto (-66), 3) := by decide +kernel
theorem dX2_friendBest_105 : decode cX2_friendBest 105 = .ok (.iload 4, 2) := by decide +kernel
theorem dX2_friendBest_107 : decode cX2_friendBest 107 = .ok (.ireturn, 1) := by decide +kernel
theorem dX2_hush_0 : decode cX2_hush 0 = .ok (.iload_n 1, 1) := by decide +kernel
theorem dX2_hush_1 : decode cX2_hush 1 = .ok (.iconst 0, 1) := by decide +kernel
theorem dX2_hush_2 : decode cX2_hush 2 = .ok (.bipush 48, 2) := by decide +kernel
theorem dX2_hush_4 : decode cX2_hush 4 = .ok (.invokestatic 44, 3) := by decide +kernel
theorem dX2_hush_7 : decode cX2_hush 7 = .ok (.istore_n 2, 1) := by decide +kernel
theorem dX2_hush_8 : decode cX2_hush 8 = .ok (.iload_n 2, 1) := by decide +kernel
theorem dX2_hush_9 : decode cX2_hush 9 = .ok (.ifCond .eq 9, 3) := by decide +kernel
theorem dX2_hush_12 : decode cX2_hush 12 = .ok (.aload_n 0, 1) := by decide +kernel
theorem dX2_hush_13 : decode cX2_hush 13 = .ok (.iload_n 2, 1) := by decide +kernel
theorem dX2_hush_14 : decode cX2_hush 14 = .ok (.invokevirtual 52, 3) := by decide +kernel
theorem dX2_hush_17 : decode cX2_hush 17 = .ok (.ireturn, 1) := by decide +kernel
theorem dX2_hush_18 : decode cX2_hush 18 = .ok (.bipush (-9), 2) := by decide +kernel
theorem dX2_hush_20 : decode cX2_hush 20 = .ok (.istore_n 3, 1) := by decide +kernel
theorem dX2_hush_21 : decode cX2_hush 21 = .ok (.aload_n 0, 1) := by decide +kernel
theorem dX2_hush_22 : decode cX2_hush 22 = .ok (.iload_n 1, 1) := by decide +kernel
theorem dX2_hush_23 : decode cX2_hush 23 = .ok (.invokevirtual 142, 3) := by decide +kernel
theorem dX2_hush_26 : decode cX2_hush 26 = .ok (.invokevirtual 153, 3) := by decide +kernel
theorem dX2_hush_29 : decode cX2_hush 29 = .ok (.istore 4, 2) := by decide +kernel
theorem dX2_hush_31 : decode cX2_hush 31 = .ok (.iconst 0, 1) := by decide +kernel
theorem dX2_hush_32 : decode cX2_hush 32 = .ok (.istore 5, 2) := by decide +kernel
theorem dX2_hush_34 : decode cX2_hush 34 = .ok (.iload 5, 2) := by decide +kernel
theorem dX2_hush_36 : decode cX2_hush 36 = .ok (.aload_n 0, 1) := by decide +kernel
theorem dX2_hush_37 : decode cX2_hush 37 = .ok (.getfield 10, 3) := by decide +kernel
theorem dX2_hush_40 : decode cX2_hush 40 = .ok (.getfield 171, 3) := by decide +kernel
theorem dX2_hush_43 : decode cX2_hush 43 = .ok (.if_icmp .ge 50, 3) := by decide +kernel
theorem dX2_hush_46 : decode cX2_hush 46 = .ok (.aload_n 0, 1) := by decide +kernel
theorem dX2_hush_47 : decode cX2_hush 47 = .ok (.invokevirtual 63, 3) := by decide +kernel
theorem dX2_hush_50 : decode cX2_hush 50 = .ok (.astore 6, 2) := by decide +kernel
theorem dX2_hush_52 : decode cX2_hush 52 = .ok (.aload 6, 2) := by decide +kernel
theorem dX2_hush_54 : decode cX2_hush 54 = .ok (.iconst 1, 1) := by decide +kernel
theorem dX2_hush_55 : decode cX2_hush 55 = .ok (.iload 5, 2) := by decide +kernel
theorem dX2_hush_57 : decode cX2_hush 57 = .ok (.ishl, 1) := by decide +kernel
theorem dX2_hush_58 : decode cX2_hush 58 = .ok (.putfield 172, 3) := by decide +kernel
theorem dX2_hush_61 : decode cX2_hush 61 = .ok (.aload 6, 2) := by decide +kernel
theorem dX2_hush_63 : decode cX2_hush 63 = .ok (.iload_n 1, 1) := by decide +kernel
theorem dX2_hush_64 : decode cX2_hush 64 = .ok (.invokevirtual 138, 3) := by decide +kernel
theorem dX2_hush_67 : decode cX2_hush 67 = .ok (.aload 6, 2) := by decide +kernel
theorem dX2_hush_69 : decode cX2_hush 69 = .ok (.invokevirtual 153, 3) := by decide +kernel
theorem dX2_hush_72 : decode cX2_hush 72 = .ok (.iload 4, 2) := by decide +kernel
theorem dX2_hush_74 : decode cX2_hush 74 = .ok (.if_icmp .le 13, 3) := by decide +kernel
theorem dX2_hush_77 : decode cX2_hush 77 = .ok (.aload 6, 2) := by decide +kernel
theorem dX2_hush_79 : decode cX2_hush 79 = .ok (.invokevirtual 153, 3) := by decide +kernel
theorem dX2_hush_82 : decode cX2_hush 82 = .ok (.istore 4, 2) := by decide +kernel
theorem dX2_hush_84 : decode cX2_hush 84 = .ok (.iload 5, 2) := by decide +kernel
theorem dX2_hush_86 : decode cX2_hush 86 = .ok (.istore_n 3, 1) := by decide +kernel
theorem dX2_hush_87 : decode cX2_hush 87 = .ok (.iinc 5 1, 3) := by decide +kernel
theorem dX2_hush_90 : decode cX2_hush 90 = .ok (.goto (-56), 3) := by decide +kernel
theorem dX2_hush_93 : decode cX2_hush 93 = .ok (.iload_n 3, 1) := by decide +kernel
theorem dX2_hush_94 : decode cX2_hush 94 = .ok (.ireturn, 1) := by decide +kernel
theorem dX2_fewest_0 : decode cX2_fewest 0 = .ok (.iload_n 1, 1) := by decide +kernel
theorem dX2_fewest_1 : decode cX2_fewest 1 = .ok (.iconst 0, 1) := by decide +kernel
theorem dX2_fewest_2 : decode cX2_fewest 2 = .ok (.bipush 24, 2) := by decide +kernel
theorem dX2_fewest_4 : decode cX2_fewest 4 = .ok (.invokestatic 44, 3) := by decide +kernel
theorem dX2_fewest_7 : decode cX2_fewest 7 = .ok (.istore_n 2, 1) := by decide +kernel
theorem dX2_fewest_8 : decode cX2_fewest 8 = .ok (.iload_n 2, 1) := by decide +kernel
theorem dX2_fewest_9 : decode cX2_fewest 9 = .ok (.ifCond .eq 9, 3) := by decide +kernel
theorem dX2_fewest_12 : decode cX2_fewest 12 = .ok (.aload_n 0, 1) := by decide +kernel
theorem dX2_fewest_13 : decode cX2_fewest 13 = .ok (.iload_n 2, 1) := by decide +kernel
theorem dX2_fewest_14 : decode cX2_fewest 14 = .ok (.invokevirtual 52, 3) := by decide +kernel
theorem dX2_fewest_17 : decode cX2_fewest 17 = .ok (.ireturn, 1) := by decide +kernel
theorem dX2_fewest_18 : decode cX2_fewest 18 = .ok (.bipush (-9), 2) := by decide +kernel
theorem dX2_fewest_20 : decode cX2_fewest 20 = .ok (.istore_n 3, 1) := by decide +kernel
theorem dX2_fewest_21 : decode cX2_fewest 21 = .ok (.bipush 7, 2) := by decide +kernel
theorem dX2_fewest_23 : decode cX2_fewest 23 = .ok (.istore 4, 2) := by decide +kernel
theorem dX2_fewest_25 : decode cX2_fewest 25 = .ok (.iconst 0, 1) := by decide +kernel
theorem dX2_fewest_26 : decode cX2_fewest 26 = .ok (.istore 5, 2) := by decide +kernel
theorem dX2_fewest_28 : decode cX2_fewest 28 = .ok (.iload 5, 2) := by decide +kernel
theorem dX2_fewest_30 : decode cX2_fewest 30 = .ok (.aload_n 0, 1) := by decide +kernel
theorem dX2_fewest_31 : decode cX2_fewest 31 = .ok (.getfield 10, 3) := by decide +kernel
theorem dX2_fewest_34 : decode cX2_fewest 34 = .ok (.invokevirtual 162, 3) := by decide +kernel
theorem dX2_fewest_37 : decode cX2_fewest 37 = .ok (.if_icmp .gt 39, 3) := by decide +kernel
theorem dX2_fewest_40 : decode cX2_fewest 40 = .ok (.iload 5, 2) := by decide +kernel
theorem dX2_fewest_42 : decode cX2_fewest 42 = .ok (.invokestatic 117, 3) := by decide +kernel
theorem dX2_fewest_45 : decode cX2_fewest 45 = .ok (.iload 4, 2) := by decide +kernel
theorem dX2_fewest_47 : decode cX2_fewest 47 = .ok (.if_icmp .ge 23, 3) := by decide +kernel
theorem dX2_fewest_50 : decode cX2_fewest 50 = .ok (.aload_n 0, 1) := by decide +kernel
theorem dX2_fewest_51 : decode cX2_fewest 51 = .ok (.iload 5, 2) := by decide +kernel
theorem dX2_fewest_53 : decode cX2_fewest 53 = .ok (.iload_n 1, 1) := by decide +kernel
theorem dX2_fewest_54 : decode cX2_fewest 54 = .ok (.invokevirtual 175, 3) := by decide +kernel
theorem dX2_fewest_57 : decode cX2_fewest 57 = .ok (.ifCond .eq 13, 3) := by decide +kernel
theorem dX2_fewest_60 : decode cX2_fewest 60 = .ok (.iload 5, 2) := by decide +kernel
theorem dX2_fewest_62 : decode cX2_fewest 62 = .ok (.invokestatic 117, 3) := by decide +kernel
theorem dX2_fewest_65 : decode cX2_fewest 65 = .ok (.istore 4, 2) := by decide +kernel
theorem dX2_fewest_67 : decode cX2_fewest 67 = .ok (.iload 5, 2) := by decide +kernel
theorem dX2_fewest_69 : decode cX2_fewest 69 = .ok (.istore_n 3, 1) := by decide +kernel
theorem dX2_fewest_70 : decode cX2_fewest 70 = .ok (.iinc 5 1, 3) := by decide +kernel
theorem dX2_fewest_73 : decode cX2_fewest 73 = .ok (.goto (-45), 3) := by decide +kernel
theorem dX2_fewest_76 : decode cX2_fewest 76 = .ok (.iload_n 3, 1) := by decide +kernel
theorem dX2_fewest_77 : decode cX2_fewest 77 = .ok (.ireturn, 1) := by decide +kernel
theorem dX2_word_0 : decode cX2_word 0 = .ok (.iload_n 1, 1) := by decide +kernel
theorem dX2_word_1 : decode cX2_word 1 = .ok (.iconst 1, 1) := by decide +kernel
theorem dX2_word_2 : decode cX2_word 2 = .ok (.bipush 24, 2) := by decide +kernel
theorem dX2_word_4 : decode cX2_word 4 = .ok (.invokestatic 44, 3) := by decide +kernel
theorem dX2_word_7 : decode cX2_word 7 = .ok (.istore_n 2, 1) := by decide +kernel
theorem dX2_word_8 : decode cX2_word 8 = .ok (.iload_n 2, 1) := by decide +kernel
theorem dX2_word_9 : decode cX2_word 9 = .ok (.ifCond .eq 9, 3) := by decide +kernel
theorem dX2_word_12 : decode cX2_word 12 = .ok (.aload_n 0, 1) := by decide +kernel
theorem dX2_word_13 : decode cX2_word 13 = .ok (.iload_n 2, 1) := by decide +kernel
theorem dX2_word_14 : decode cX2_word 14 = .ok (.invokevirtual 52, 3) := by decide +kernel
theorem dX2_word_17 : decode cX2_word 17 = .ok (.ireturn, 1) := by decide +kernel
theorem dX2_word_18 : decode cX2_word 18 = .ok (.bipush (-9), 2) := by decide +kernel
theorem dX2_word_20 : decode cX2_word 20 = .ok (.istore_n 3, 1) := by decide +kernel
theorem dX2_word_21 : decode cX2_word 21 = .ok (.aload_n 0, 1) := by decide +kernel
theorem dX2_word_22 : decode cX2_word 22 = .ok (.iload_n 1, 1) := by decide +kernel
theorem dX2_word_23 : decode cX2_word 23 = .ok (.invokevirtual 142, 3) := by decide +kernel
theorem dX2_word_26 : decode cX2_word 26 = .ok (.invokevirtual 153, 3) := by decide +kernel
theorem dX2_word_29 : decode cX2_word 29 = .ok (.istore 4, 2) := by decide +kernel
theorem dX2_word_31 : decode cX2_word 31 = .ok (.iconst 0, 1) := by decide +kernel
theorem dX2_word_32 : decode cX2_word 32 = .ok (.istore 5, 2) := by decide +kernel
theorem dX2_word_34 : decode cX2_word 34 = .ok (.iload 5, 2) := by decide +kernel
theorem dX2_word_36 : decode cX2_word 36 = .ok (.aload_n 0, 1) := by decide +kernel
theorem dX2_word_37 : decode cX2_word 37 = .ok (.getfield 10, 3) := by decide +kernel
theorem dX2_word_40 : decode cX2_word 40 = .ok (.getfield 171, 3) := by decide +kernel
theorem dX2_word_43 : decode cX2_word 43 = .ok (.if_icmp .ge 49, 3) := by decide +kernel
theorem dX2_word_46 : decode cX2_word 46 = .ok (.aload_n 0, 1) := by decide +kernel
theorem dX2_word_47 : decode cX2_word 47 = .ok (.invokevirtual 63, 3) := by decide +kernel
theorem dX2_word_50 : decode cX2_word 50 = .ok (.astore 6, 2) := by decide +kernel
theorem dX2_word_52 : decode cX2_word 52 = .ok (.aload 6, 2) := by decide +kernel
theorem dX2_word_54 : decode cX2_word 54 = .ok (.iload 5, 2) := by decide +kernel
theorem dX2_word_56 : decode cX2_word 56 = .ok (.invokevirtual 111, 3) := by decide +kernel
theorem dX2_word_59 : decode cX2_word 59 = .ok (.pop, 1) := by decide +kernel
theorem dX2_word_60 : decode cX2_word 60 = .ok (.aload 6, 2) := by decide +kernel
theorem dX2_word_62 : decode cX2_word 62 = .ok (.iload_n 1, 1) := by decide +kernel
theorem dX2_word_63 : decode cX2_word 63 = .ok (.invokevirtual 138, 3) := by decide +kernel
theorem dX2_word_66 : decode cX2_word 66 = .ok (.aload 6, 2) := by decide +kernel
theorem dX2_word_68 : decode cX2_word 68 = .ok (.invokevirtual 153, 3) := by decide +kernel
theorem dX2_word_71 : decode cX2_word 71 = .ok (.iload 4, 2) := by decide +kernel
theorem dX2_word_73 : decode cX2_word 73 = .ok (.if_icmp .ge 13, 3) := by decide +kernel
theorem dX2_word_76 : decode cX2_word 76 = .ok (.aload 6, 2) := by decide +kernel
theorem dX2_word_78 : decode cX2_word 78 = .ok (.invokevirtual 153, 3) := by decide +kernel
theorem dX2_word_81 : decode cX2_word 81 = .ok (.istore 4, 2) := by decide +kernel
theorem dX2_word_83 : decode cX2_word 83 = .ok (.iload 5, 2) := by decide +kernel
theorem dX2_word_85 : decode cX2_word 85 = .ok (.istore_n 3, 1) := by decide +kernel
theorem dX2_word_86 : decode cX2_word 86 = .ok (.iinc 5 1, 3) := by decide +kernel
theorem dX2_word_89 : decode cX2_word 89 = .ok (.goto (-55), 3) := by decide +kernel
theorem dX2_word_92 : decode cX2_word 92 = .ok (.iload_n 3, 1) := by decide +kernel
theorem dX2_word_93 : decode cX2_word 93 = .ok (.ireturn, 1) := by decide +kernel
theorem dX2_send_0 : decode cX2_send 0 = .ok (.iload_n 1, 1) := by decide +kernel
theorem dX2_send_1 : decode cX2_send 1 = .ok (.iconst 0, 1) := by decide +kernel
theorem dX2_send_2 : decode cX2_send 2 = .ok (.bipush 24, 2) := by decide +kernel
theorem dX2_send_4 : decode cX2_send 4 = .ok (.invokestatic 44, 3) := by decide +kernel
theorem dX2_send_7 : decode cX2_send 7 = .ok (.istore_n 3, 1) := by decide +kernel
theorem dX2_send_8 : decode cX2_send 8 = .ok (.iload_n 3, 1) := by decide +kernel
theorem dX2_send_9 : decode cX2_send 9 = .ok (.ifCond .ne 9, 3) := by decide +kernel
theorem dX2_send_12 : decode cX2_send 12 = .ok (.iload_n 2, 1) := by decide +kernel
theorem dX2_send_13 : decode cX2_send 13 = .ok (.iconst 1, 1) := by decide +kernel
theorem dX2_send_14 : decode cX2_send 14 = .ok (.invokestatic 146, 3) := by decide +kernel
theorem dX2_send_17 : decode cX2_send 17 = .ok (.istore_n 3, 1) := by decide +kernel
theorem dX2_send_18 : decode cX2_send 18 = .ok (.iload_n 3, 1) := by decide +kernel
theorem dX2_send_19 : decode cX2_send 19 = .ok (.ifCond .eq 9, 3) := by decide +kernel
theorem dX2_send_22 : decode cX2_send 22 = .ok (.aload_n 0, 1) := by decide +kernel
theorem dX2_send_23 : decode cX2_send 23 = .ok (.iload_n 3, 1) := by decide +kernel
theorem dX2_send_24 : decode cX2_send 24 = .ok (.invokevirtual 52, 3) := by decide +kernel
theorem dX2_send_27 : decode cX2_send 27 = .ok (.ireturn, 1) := by decide +kernel
theorem dX2_send_28 : decode cX2_send 28 = .ok (.bipush (-9), 2) := by decide +kernel
theorem dX2_send_30 : decode cX2_send 30 = .ok (.istore 4, 2) := by decide +kernel
theorem dX2_send_32 : decode cX2_send 32 = .ok (.bipush (-9), 2) := by decide +kernel
theorem dX2_send_34 : decode cX2_send 34 = .ok (.istore 5, 2) := by decide +kernel
theorem dX2_send_36 : decode cX2_send 36 = .ok (.iconst 0, 1) := by decide +kernel
theorem dX2_send_37 : decode cX2_send 37 = .ok (.istore 6, 2) := by decide +kernel
theorem dX2_send_39 : decode cX2_send 39 = .ok (.iload 6, 2) := by decide +kernel
theorem dX2_send_41 : decode cX2_send 41 = .ok (.aload_n 0, 1) := by decide +kernel
theorem dX2_send_42 : decode cX2_send 42 = .ok (.getfield 10, 3) := by decide +kernel
theorem dX2_send_45 : decode cX2_send 45 = .ok (.getfield 171, 3) := by decide +kernel
theorem dX2_send_48 : decode cX2_send 48 = .ok (.if_icmp .ge 33, 3) := by decide +kernel
theorem dX2_send_51 : decode cX2_send 51 = .ok (.aload_n 0, 1) := by decide +kernel
theorem dX2_send_52 : decode cX2_send 52 = .ok (.iload 6, 2) := by decide +kernel
theorem dX2_send_54 : decode cX2_send 54 = .ok (.iload_n 1, 1) := by decide +kernel
theorem dX2_send_55 : decode cX2_send 55 = .ok (.invokevirtual 178, 3) := by decide +kernel
theorem dX2_send_58 : decode cX2_send 58 = .ok (.istore 7, 2) := by decide +kernel
theorem dX2_send_60 : decode cX2_send 60 = .ok (.iload 7, 2) := by decide +kernel
theorem dX2_send_62 : decode cX2_send 62 = .ok (.iload 5, 2) := by decide +kernel
theorem dX2_send_64 : decode cX2_send 64 = .ok (.if_icmp .le 11, 3) := by decide +kernel
theorem dX2_send_67 : decode cX2_send 67 = .ok (.iload 7, 2) := by decide +kernel
theorem dX2_send_69 : decode cX2_send 69 = .ok (.istore 5, 2) := by decide +kernel
theorem dX2_send_71 : decode cX2_send 71 = .ok (.iload 6, 2) := by decide +kernel
theorem dX2_send_73 : decode cX2_send 73 = .ok (.istore 4, 2) := by decide +kernel
theorem dX2_send_75 : decode cX2_send 75 = .ok (.iinc 6 1, 3) := by decide +kernel
theorem dX2_send_78 : decode cX2_send 78 = .ok (.goto (-39), 3) := by decide +kernel
theorem dX2_send_81 : decode cX2_send 81 = .ok (.iload_n 2, 1) := by decide +kernel
theorem dX2_send_82 : decode cX2_send 82 = .ok (.ifCond .ne 8, 3) := by decide +kernel
theorem dX2_send_85 : decode cX2_send 85 = .ok (.iload 4, 2) := by decide +kernel
theorem dX2_send_87 : decode cX2_send 87 = .ok (.goto 5, 3) := by decide +kernel
theorem dX2_send_90 : decode cX2_send 90 = .ok (.iload 5, 2) := by decide +kernel
theorem dX2_send_92 : decode cX2_send 92 = .ok (.ireturn, 1) := by decide +kernel
theorem dX2_next_0 : decode cX2_next 0 = .ok (.aload_n 0, 1) := by decide +kernel
theorem dX2_next_1 : decode cX2_next 1 = .ok (.invokevirtual 63, 3) := by decide +kernel
theorem dX2_next_4 : decode cX2_next 4 = .ok (.invokevirtual 181, 3) := by decide +kernel
theorem dX2_next_7 : decode cX2_next 7 = .ok (.ireturn, 1) := by decide +kernel
theorem dX2_richest_0 : decode cX2_richest 0 = .ok (.iload_n 1, 1) := by decide +kernel
theorem dX2_richest_1 : decode cX2_richest 1 = .ok (.iconst 2, 1) := by decide +kernel
theorem dX2_richest_2 : decode cX2_richest 2 = .ok (.invokestatic 146, 3) := by decide +kernel
theorem dX2_richest_5 : decode cX2_richest 5 = .ok (.istore_n 2, 1) := by decide +kernel
theorem dX2_richest_6 : decode cX2_richest 6 = .ok (.iload_n 2, 1) := by decide +kernel
theorem dX2_richest_7 : decode cX2_richest 7 = .ok (.ifCond .eq 9, 3) := by decide +kernel
theorem dX2_richest_10 : decode cX2_richest 10 = .ok (.aload_n 0, 1) := by decide +kernel
theorem dX2_richest_11 : decode cX2_richest 11 = .ok (.iload_n 2, 1) := by decide +kernel
theorem dX2_richest_12 : decode cX2_richest 12 = .ok (.invokevirtual 52, 3) := by decide +kernel
theorem dX2_richest_15 : decode cX2_richest 15 = .ok (.ireturn, 1) := by decide +kernel
theorem dX2_richest_16 : decode cX2_richest 16 = .ok (.bipush (-9), 2) := by decide +kernel
theorem dX2_richest_18 : decode cX2_richest 18 = .ok (.istore_n 3, 1) := by decide +kernel
theorem dX2_richest_19 : decode cX2_richest 19 = .ok (.iconst 0, 1) := by decide +kernel
theorem dX2_richest_20 : decode cX2_richest 20 = .ok (.istore 4, 2) := by decide +kernel
theorem dX2_richest_22 : decode cX2_richest 22 = .ok (.iload 4, 2) := by decide +kernel
theorem dX2_richest_24 : decode cX2_richest 24 = .ok (.aload_n 0, 1) := by decide +kernel
theorem dX2_richest_25 : decode cX2_richest 25 = .ok (.getfield 10, 3) := by decide +kernel
theorem dX2_richest_28 : decode cX2_richest 28 = .ok (.getfield 171, 3) := by decide +kernel
theorem dX2_richest_31 : decode cX2_richest 31 = .ok (.if_icmp .ge 34, 3) := by decide +kernel
theorem dX2_richest_34 : decode cX2_richest 34 = .ok (.iload_n 3, 1) := by decide +kernel
theorem dX2_richest_35 : decode cX2_richest 35 = .ok (.bipush (-9), 2) := by decide +kernel
theorem dX2_richest_37 : decode cX2_richest 37 = .ok (.if_icmp .eq 19, 3) := by decide +kernel
theorem dX2_richest_40 : decode cX2_richest 40 = .ok (.aload_n 0, 1) := by decide +kernel
theorem dX2_richest_41 : decode cX2_richest 41 = .ok (.iload 4, 2) := by decide +kernel
theorem dX2_richest_43 : decode cX2_richest 43 = .ok (.iload_n 1, 1) := by decide +kernel
theorem dX2_richest_44 : decode cX2_richest 44 = .ok (.invokevirtual 184, 3) := by decide +kernel
theorem dX2_richest_47 : decode cX2_richest 47 = .ok (.aload_n 0, 1) := by decide +kernel
theorem dX2_richest_48 : decode cX2_richest 48 = .ok (.iload_n 3, 1) := by decide +kernel
theorem dX2_richest_49 : decode cX2_richest 49 = .ok (.iload_n 1, 1) := by decide +kernel
theorem dX2_richest_50 : decode cX2_richest 50 = .ok (.invokevirtual 184, 3) := by decide +kernel
theorem dX2_richest_53 : decode cX2_richest 53 = .ok (.if_icmp .le 6, 3) := by decide +kernel
theorem dX2_richest_56 : decode cX2_richest 56 = .ok (.iload 4, 2) := by decide +kernel
theorem dX2_richest_58 : decode cX2_richest 58 = .ok (.istore_n 3, 1) := by decide +kernel
theorem dX2_richest_59 : decode cX2_richest 59 = .ok (.iinc 4 1, 3) := by decide +kernel
theorem dX2_richest_62 : decode cX2_richest 62 = .ok (.goto (-40), 3) := by decide +kernel
theorem dX2_richest_65 : decode cX2_richest 65 = .ok (.iload_n 3, 1) := by decide +kernel
theorem dX2_richest_66 : decode cX2_richest 66 = .ok (.ireturn, 1) := by decide +kernel
theorem dX2_quiet_0 : decode cX2_quiet 0 = .ok (.iload_n 1, 1) := by decide +kernel
theorem dX2_quiet_1 : decode cX2_quiet 1 = .ok (.iconst 0, 1) := by decide +kernel
theorem dX2_quiet_2 : decode cX2_quiet 2 = .ok (.bipush 11, 2) := by decide +kernel
theorem dX2_quiet_4 : decode cX2_quiet 4 = .ok (.invokestatic 44, 3) := by decide +kernel
theorem dX2_quiet_7 : decode cX2_quiet 7 = .ok (.istore_n 2, 1) := by decide +kernel
theorem dX2_quiet_8 : decode cX2_quiet 8 = .ok (.iload_n 2, 1) := by decide +kernel
theorem dX2_quiet_9 : decode cX2_quiet 9 = .ok (.ifCond .eq 9, 3) := by decide +kernel
theorem dX2_quiet_12 : decode cX2_quiet 12 = .ok (.aload_n 0, 1) := by decide +kernel
theorem dX2_quiet_13 : decode cX2_quiet 13 = .ok (.iload_n 2, 1) := by decide +kernel
theorem dX2_quiet_14 : decode cX2_quiet 14 = .ok (.invokevirtual 52, 3) := by decide +kernel
theorem dX2_quiet_17 : decode cX2_quiet 17 = .ok (.ireturn, 1) := by decide +kernel
theorem dX2_quiet_18 : decode cX2_quiet 18 = .ok (.iconst 0, 1) := by decide +kernel
theorem dX2_quiet_19 : decode cX2_quiet 19 = .ok (.istore_n 3, 1) := by decide +kernel
theorem dX2_quiet_20 : decode cX2_quiet 20 = .ok (.iconst 0, 1) := by decide +kernel
theorem dX2_quiet_21 : decode cX2_quiet 21 = .ok (.istore 4, 2) := by decide +kernel
theorem dX2_quiet_23 : decode cX2_quiet 23 = .ok (.iload 4, 2) := by decide +kernel
theorem dX2_quiet_25 : decode cX2_quiet 25 = .ok (.aload_n 0, 1) := by decide +kernel
theorem dX2_quiet_26 : decode cX2_quiet 26 = .ok (.getfield 10, 3) := by decide +kernel
theorem dX2_quiet_29 : decode cX2_quiet 29 = .ok (.getfield 171, 3) := by decide +kernel
theorem dX2_quiet_32 : decode cX2_quiet 32 = .ok (.if_icmp .ge 25, 3) := by decide +kernel
theorem dX2_quiet_35 : decode cX2_quiet 35 = .ok (.aload_n 0, 1) := by decide +kernel
theorem dX2_quiet_36 : decode cX2_quiet 36 = .ok (.getfield 10, 3) := by decide +kernel
theorem dX2_quiet_39 : decode cX2_quiet 39 = .ok (.iload 4, 2) := by decide +kernel
theorem dX2_quiet_41 : decode cX2_quiet 41 = .ok (.invokevirtual 105, 3) := by decide +kernel
theorem dX2_quiet_44 : decode cX2_quiet 44 = .ok (.iload_n 1, 1) := by decide +kernel
theorem dX2_quiet_45 : decode cX2_quiet 45 = .ok (.if_icmp .le 6, 3) := by decide +kernel
theorem dX2_quiet_48 : decode cX2_quiet 48 = .ok (.iinc 3 1, 3) := by decide +kernel
theorem dX2_quiet_51 : decode cX2_quiet 51 = .ok (.iinc 4 1, 3) := by decide +kernel
theorem dX2_quiet_54 : decode cX2_quiet 54 = .ok (.goto (-31), 3) := by decide +kernel
theorem dX2_quiet_57 : decode cX2_quiet 57 = .ok (.iload_n 3, 1) := by decide +kernel
theorem dX2_quiet_58 : decode cX2_quiet 58 = .ok (.ireturn, 1) := by decide +kernel
theorem dX2_thirst_0 : decode cX2_thirst 0 = .ok (.iconst 0, 1) := by decide +kernel
theorem dX2_thirst_1 : decode cX2_thirst 1 = .ok (.istore_n 1, 1) := by decide +kernel
theorem dX2_thirst_2 : decode cX2_thirst 2 = .ok (.iconst 0, 1) := by decide +kernel
theorem dX2_thirst_3 : decode cX2_thirst 3 = .ok (.istore_n 2, 1) := by decide +kernel
theorem dX2_thirst_4 : decode cX2_thirst 4 = .ok (.iload_n 2, 1) := by decide +kernel
theorem dX2_thirst_5 : decode cX2_thirst 5 = .ok (.aload_n 0, 1) := by decide +kernel
theorem dX2_thirst_6 : decode cX2_thirst 6 = .ok (.getfield 10, 3) := by decide +kernel
theorem dX2_thirst_9 : decode cX2_thirst 9 = .ok (.getfield 171, 3) := by decide +kernel
theorem dX2_thirst_12 : decode cX2_thirst 12 = .ok (.if_icmp .ge 20, 3) := by decide +kernel
theorem dX2_thirst_15 : decode cX2_thirst 15 = .ok (.iload_n 1, 1) := by decide +kernel
theorem dX2_thirst_16 : decode cX2_thirst 16 = .ok (.aload_n 0, 1) := by decide +kernel
theorem dX2_thirst_17 : decode cX2_thirst 17 = .ok (.getfield 10, 3) := by decide +kernel
theorem dX2_thirst_20 : decode cX2_thirst 20 = .ok (.iload_n 2, 1) := by decide +kernel
theorem dX2_thirst_21 : decode cX2_thirst 21 = .ok (.invokevirtual 108, 3) := by decide +kernel
theorem dX2_thirst_24 : decode cX2_thirst 24 = .ok (.iadd, 1) := by decide +kernel
theorem dX2_thirst_25 : decode cX2_thirst 25 = .ok (.istore_n 1, 1) := by decide +kernel
theorem dX2_thirst_26 : decode cX2_thirst 26 = .ok (.iinc 2 1, 3) := by decide +kernel
theorem dX2_thirst_29 : decode cX2_thirst 29 = .ok (.goto (-25), 3) := by decide +kernel
theorem dX2_thirst_32 : decode cX2_thirst 32 = .ok (.iload_n 1, 1) := by decide +kernel
theorem dX2_thirst_33 : decode cX2_thirst 33 = .ok (.ireturn, 1) := by decide +kernel
theorem dX2_lasts_0 : decode cX2_lasts 0 = .ok (.aload_n 0, 1) := by decide +kernel
theorem dX2_lasts_1 : decode cX2_lasts 1 = .ok (.getfield 10, 3) := by decide +kernel
theorem dX2_lasts_4 : decode cX2_lasts 4 = .ok (.iload_n 1, 1) := by decide +kernel
theorem dX2_lasts_5 : decode cX2_lasts 5 = .ok (.invokevirtual 81, 3) := by decide +kernel
theorem dX2_lasts_8 : decode cX2_lasts 8 = .ok (.ifCond .ne 9, 3) := by decide +kernel
theorem dX2_lasts_11 : decode cX2_lasts 11 = .ok (.aload_n 0, 1) := by decide +kernel
theorem dX2_lasts_12 : decode cX2_lasts 12 = .ok (.iconst (-1), 1) := by decide +kernel
theorem dX2_lasts_13 : decode cX2_lasts 13 = .ok (.invokevirtual 52, 3) := by decide +kernel
theorem dX2_lasts_16 : decode cX2_lasts 16 = .ok (.ireturn, 1) := by decide +kernel
theorem dX2_lasts_17 : decode cX2_lasts 17 = .ok (.aload_n 0, 1) := by decide +kernel
theorem dX2_lasts_18 : decode cX2_lasts 18 = .ok (.getfield 10, 3) := by decide +kernel
theorem dX2_lasts_21 : decode cX2_lasts 21 = .ok (.iload_n 1, 1) := by decide +kernel
theorem dX2_lasts_22 : decode cX2_lasts 22 = .ok (.invokevirtual 108, 3) := by decide +kernel
theorem dX2_lasts_25 : decode cX2_lasts 25 = .ok (.istore_n 2, 1) := by decide +kernel
theorem dX2_lasts_26 : decode cX2_lasts 26 = .ok (.iload_n 2, 1) := by decide +kernel
theorem dX2_lasts_27 : decode cX2_lasts 27 = .ok (.ifCond .gt 8, 3) := by decide +kernel
theorem dX2_lasts_30 : decode cX2_lasts 30 = .ok (.bipush 99, 2) := by decide +kernel
theorem dX2_lasts_32 : decode cX2_lasts 32 = .ok (.goto 14, 3) := by decide +kernel
theorem dX2_lasts_35 : decode cX2_lasts 35 = .ok (.aload_n 0, 1) := by decide +kernel
theorem dX2_lasts_36 : decode cX2_lasts 36 = .ok (.getfield 10, 3) := by decide +kernel
theorem dX2_lasts_39 : decode cX2_lasts 39 = .ok (.getfield 93, 3) := by decide +kernel
theorem dX2_lasts_42 : decode cX2_lasts 42 = .ok (.iload_n 1, 1) := by decide +kernel
theorem dX2_lasts_43 : decode cX2_lasts 43 = .ok (.iaload, 1) := by decide +kernel
theorem dX2_lasts_44 : decode cX2_lasts 44 = .ok (.iload_n 2, 1) := by decide +kernel
theorem dX2_lasts_45 : decode cX2_lasts 45 = .ok (.idiv, 1) := by decide +kernel
theorem dX2_lasts_46 : decode cX2_lasts 46 = .ok (.ireturn, 1) := by decide +kernel
theorem dX2_carries_0 : decode cX2_carries 0 = .ok (.iload_n 1, 1) := by decide +kernel
theorem dX2_carries_1 : decode cX2_carries 1 = .ok (.iconst 1, 1) := by decide +kernel
theorem dX2_carries_2 : decode cX2_carries 2 = .ok (.invokestatic 146, 3) := by decide +kernel
theorem dX2_carries_5 : decode cX2_carries 5 = .ok (.istore_n 2, 1) := by decide +kernel
theorem dX2_carries_6 : decode cX2_carries 6 = .ok (.iload_n 2, 1) := by decide +kernel
theorem dX2_carries_7 : decode cX2_carries 7 = .ok (.ifCond .eq 9, 3) := by decide +kernel
theorem dX2_carries_10 : decode cX2_carries 10 = .ok (.aload_n 0, 1) := by decide +kernel
theorem dX2_carries_11 : decode cX2_carries 11 = .ok (.iload_n 2, 1) := by decide +kernel
theorem dX2_carries_12 : decode cX2_carries 12 = .ok (.invokevirtual 52, 3) := by decide +kernel
theorem dX2_carries_15 : decode cX2_carries 15 = .ok (.ireturn, 1) := by decide +kernel
theorem dX2_carries_16 : decode cX2_carries 16 = .ok (.iload_n 1, 1) := by decide +kernel
theorem dX2_carries_17 : decode cX2_carries 17 = .ok (.ifCond .ne 10, 3) := by decide +kernel
theorem dX2_carries_20 : decode cX2_carries 20 = .ok (.aload_n 0, 1) := by decide +kernel
theorem dX2_carries_21 : decode cX2_carries 21 = .ok (.invokevirtual 187, 3) := by decide +kernel
theorem dX2_carries_24 : decode cX2_carries 24 = .ok (.goto 7, 3) := by decide +kernel
theorem dX2_carries_27 : decode cX2_carries 27 = .ok (.aload_n 0, 1) := by decide +kernel
theorem dX2_carries_28 : decode cX2_carries 28 = .ok (.invokevirtual 190, 3) := by decide +kernel
theorem dX2_carries_31 : decode cX2_carries 31 = .ok (.ireturn, 1) := by decide +kernel
theorem dX2_two_0 : decode cX2_two 0 = .ok (.aload_n 0, 1) := by decide +kernel
theorem dX2_two_1 : decode cX2_two 1 = .ok (.getfield 10, 3) := by decide +kernel
theorem dX2_two_4 : decode cX2_two 4 = .ok (.iload_n 1, 1) := by decide +kernel
theorem dX2_two_5 : decode cX2_two 5 = .ok (.invokevirtual 81, 3) := by decide +kernel
theorem dX2_two_8 : decode cX2_two 8 = .ok (.ifCond .eq 19, 3) := by decide +kernel
theorem dX2_two_11 : decode cX2_two 11 = .ok (.aload_n 0, 1) := by decide +kernel
theorem dX2_two_12 : decode cX2_two 12 = .ok (.getfield 10, 3) := by decide +kernel
theorem dX2_two_15 : decode cX2_two 15 = .ok (.iload_n 2, 1) := by decide +kernel
theorem dX2_two_16 : decode cX2_two 16 = .ok (.invokevirtual 81, 3) := by decide +kernel
theorem dX2_two_19 : decode cX2_two 19 = .ok (.ifCond .eq 8, 3) := by decide +kernel
theorem dX2_two_22 : decode cX2_two 22 = .ok (.iload_n 1, 1) := by decide +kernel
theorem dX2_two_23 : decode cX2_two 23 = .ok (.iload_n 2, 1) := by decide +kernel
theorem dX2_two_24 : decode cX2_two 24 = .ok (.if_icmp .ne 9, 3) := by decide +kernel
theorem dX2_two_27 : decode cX2_two 27 = .ok (.aload_n 0, 1) := by decide +kernel
theorem dX2_two_28 : decode cX2_two 28 = .ok (.iconst (-1), 1) := by decide +kernel
theorem dX2_two_29 : decode cX2_two 29 = .ok (.invokevirtual 52, 3) := by decide +kernel
theorem dX2_two_32 : decode cX2_two 32 = .ok (.ireturn, 1) := by decide +kernel
theorem dX2_two_33 : decode cX2_two 33 = .ok (.iload_n 3, 1) := by decide +kernel
theorem dX2_two_34 : decode cX2_two 34 = .ok (.iconst 0, 1) := by decide +kernel
theorem dX2_two_35 : decode cX2_two 35 = .ok (.bipush 24, 2) := by decide +kernel
theorem dX2_two_37 : decode cX2_two 37 = .ok (.invokestatic 44, 3) := by decide +kernel
theorem dX2_two_40 : decode cX2_two 40 = .ok (.istore 4, 2) := by decide +kernel
theorem dX2_two_42 : decode cX2_two 42 = .ok (.iload 4, 2) := by decide +kernel
theorem dX2_two_44 : decode cX2_two 44 = .ok (.ifCond .eq 10, 3) := by decide +kernel
theorem dX2_two_47 : decode cX2_two 47 = .ok (.aload_n 0, 1) := by decide +kernel
theorem dX2_two_48 : decode cX2_two 48 = .ok (.iload 4, 2) := by decide +kernel
theorem dX2_two_50 : decode cX2_two 50 = .ok (.invokevirtual 52, 3) := by decide +kernel
theorem dX2_two_53 : decode cX2_two 53 = .ok (.ireturn, 1) := by decide +kernel
theorem dX2_two_54 : decode cX2_two 54 = .ok (.iconst 0, 1) := by decide +kernel
theorem dX2_two_55 : decode cX2_two 55 = .ok (.istore 5, 2) := by decide +kernel
theorem dX2_two_57 : decode cX2_two 57 = .ok (.iload 5, 2) := by decide +kernel
theorem dX2_two_59 : decode cX2_two 59 = .ok (.iconst 4, 1) := by decide +kernel
theorem dX2_two_60 : decode cX2_two 60 = .ok (.if_icmp .ge 96, 3) := by decide +kernel
theorem dX2_two_63 : decode cX2_two 63 = .ok (.iload 5, 2) := by decide +kernel
theorem dX2_two_65 : decode cX2_two 65 = .ok (.iconst 2, 1) := by decide +kernel
theorem dX2_two_66 : decode cX2_two 66 = .ok (.idiv, 1) := by decide +kernel
theorem dX2_two_67 : decode cX2_two 67 = .ok (.istore 6, 2) := by decide +kernel
theorem dX2_two_69 : decode cX2_two 69 = .ok (.iload 5, 2) := by decide +kernel
theorem dX2_two_71 : decode cX2_two 71 = .ok (.iconst 2, 1) := by decide +kernel
theorem dX2_two_72 : decode cX2_two 72 = .ok (.irem, 1) := by decide +kernel
theorem dX2_two_73 : decode cX2_two 73 = .ok (.istore 7, 2) := by decide +kernel
theorem dX2_two_75 : decode cX2_two 75 = .ok (.aload_n 0, 1) := by decide +kernel
theorem dX2_two_76 : decode cX2_two 76 = .ok (.iload_n 1, 1) := by decide +kernel
theorem dX2_two_77 : decode cX2_two 77 = .ok (.iload 6, 2) := by decide +kernel
theorem dX2_two_79 : decode cX2_two 79 = .ok (.iload_n 2, 1) := by decide +kernel
theorem dX2_two_80 : decode cX2_two 80 = .ok (.iload 7, 2) := by decide +kernel
theorem dX2_two_82 : decode cX2_two 82 = .ok (.iload_n 3, 1) := by decide +kernel
theorem dX2_two_83 : decode cX2_two 83 = .ok (.invokevirtual 193, 3) := by decide +kernel
theorem dX2_two_86 : decode cX2_two 86 = .ok (.aload_n 0, 1) := by decide +kernel
theorem dX2_two_87 : decode cX2_two 87 = .ok (.iload_n 1, 1) := by decide +kernel
theorem dX2_two_88 : decode cX2_two 88 = .ok (.iconst 1, 1) := by decide +kernel
theorem dX2_two_89 : decode cX2_two 89 = .ok (.iload 6, 2) := by decide +kernel
theorem dX2_two_91 : decode cX2_two 91 = .ok (.isub, 1) := by decide +kernel
theorem dX2_two_92 : decode cX2_two 92 = .ok (.iload_n 2, 1) := by decide +kernel
theorem dX2_two_93 : decode cX2_two 93 = .ok (.iload 7, 2) := by decide +kernel
theorem dX2_two_95 : decode cX2_two 95 = .ok (.iload_n 3, 1) := by decide +kernel
theorem dX2_two_96 : decode cX2_two 96 = .ok (.invokevirtual 193, 3) := by decide +kernel
theorem dX2_two_99 : decode cX2_two 99 = .ok (.if_icmp .lt 7, 3) := by decide +kernel
theorem dX2_two_102 : decode cX2_two 102 = .ok (.iconst 1, 1) := by decide +kernel
theorem dX2_two_103 : decode cX2_two 103 = .ok (.goto 4, 3) := by decide +kernel
theorem dX2_two_106 : decode cX2_two 106 = .ok (.iconst 0, 1) := by decide +kernel
theorem dX2_two_107 : decode cX2_two 107 = .ok (.istore 8, 2) := by decide +kernel
theorem dX2_two_109 : decode cX2_two 109 = .ok (.iload 8, 2) := by decide +kernel
theorem dX2_two_111 : decode cX2_two 111 = .ok (.ifCond .eq 39, 3) := by decide +kernel
theorem dX2_two_114 : decode cX2_two 114 = .ok (.aload_n 0, 1) := by decide +kernel
theorem dX2_two_115 : decode cX2_two 115 = .ok (.iload_n 2, 1) := by decide +kernel
theorem dX2_two_116 : decode cX2_two 116 = .ok (.iload 7, 2) := by decide +kernel
theorem dX2_two_118 : decode cX2_two 118 = .ok (.iload_n 1, 1) := by decide +kernel
theorem dX2_two_119 : decode cX2_two 119 = .ok (.iload 6, 2) := by decide +kernel
theorem dX2_two_121 : decode cX2_two 121 = .ok (.iload_n 3, 1) := by decide +kernel
theorem dX2_two_122 : decode cX2_two 122 = .ok (.invokevirtual 193, 3) := by decide +kernel
theorem dX2_two_125 : decode cX2_two 125 = .ok (.aload_n 0, 1) := by decide +kernel
theorem dX2_two_126 : decode cX2_two 126 = .ok (.iload_n 2, 1) := by decide +kernel
theorem dX2_two_127 : decode cX2_two 127 = .ok (.iconst 1, 1) := by decide +kernel
theorem dX2_two_128 : decode cX2_two 128 = .ok (.iload 7, 2) := by decide +kernel
theorem dX2_two_130 : decode cX2_two 130 = .ok (.isub, 1) := by decide +kernel
theorem dX2_two_131 : decode cX2_two 131 = .ok (.iload_n 1, 1) := by decide +kernel
theorem dX2_two_132 : decode cX2_two 132 = .ok (.iload 6, 2) := by decide +kernel
theorem dX2_two_134 : decode cX2_two 134 = .ok (.iload_n 3, 1) := by decide +kernel
theorem dX2_two_135 : decode cX2_two 135 = .ok (.invokevirtual 193, 3) := by decide +kernel
theorem dX2_two_138 : decode cX2_two 138 = .ok (.if_icmp .lt 12, 3) := by decide +kernel
theorem dX2_two_141 : decode cX2_two 141 = .ok (.bipush 10, 2) := by decide +kernel
theorem dX2_two_143 : decode cX2_two 143 = .ok (.iload 6, 2) := by decide +kernel
theorem dX2_two_145 : decode cX2_two 145 = .ok (.imul, 1) := by decide +kernel
theorem dX2_two_146 : decode cX2_two 146 = .ok (.iload 7, 2) := by decide +kernel
theorem dX2_two_148 : decode cX2_two 148 = .ok (.iadd, 1) := by decide +kernel
theorem dX2_two_149 : decode cX2_two 149 = .ok (.ireturn, 1) := by decide +kernel
theorem dX2_two_150 : decode cX2_two 150 = .ok (.iinc 5 1, 3) := by decide +kernel
theorem dX2_two_153 : decode cX2_two 153 = .ok (.goto (-96), 3) := by decide +kernel
theorem dX2_two_156 : decode cX2_two 156 = .ok (.bipush (-9), 2) := by decide +kernel
theorem dX2_two_158 : decode cX2_two 158 = .ok (.ireturn, 1) := by decide +kernel
theorem dX2_sneeze_0 : decode cX2_sneeze 0 = .ok (.aload_n 0, 1) := by decide +kernel
theorem dX2_sneeze_1 : decode cX2_sneeze 1 = .ok (.iload_n 1, 1) := by decide +kernel
theorem dX2_sneeze_2 : decode cX2_sneeze 2 = .ok (.iload_n 2, 1) := by decide +kernel
theorem dX2_sneeze_3 : decode cX2_sneeze 3 = .ok (.iload_n 3, 1) := by decide +kernel
theorem dX2_sneeze_4 : decode cX2_sneeze 4 = .ok (.iload 4, 2) := by decide +kernel
theorem dX2_sneeze_6 : decode cX2_sneeze 6 = .ok (.iload 5, 2) := by decide +kernel
theorem dX2_sneeze_8 : decode cX2_sneeze 8 = .ok (.invokevirtual 197, 3) := by decide +kernel
theorem dX2_sneeze_11 : decode cX2_sneeze 11 = .ok (.istore 6, 2) := by decide +kernel
theorem dX2_sneeze_13 : decode cX2_sneeze 13 = .ok (.iload 6, 2) := by decide +kernel
theorem dX2_sneeze_15 : decode cX2_sneeze 15 = .ok (.ifCond .eq 10, 3) := by decide +kernel
theorem dX2_sneeze_18 : decode cX2_sneeze 18 = .ok (.aload_n 0, 1) := by decide +kernel
theorem dX2_sneeze_19 : decode cX2_sneeze 19 = .ok (.iload 6, 2) := by decide +kernel
theorem dX2_sneeze_21 : decode cX2_sneeze 21 = .ok (.invokevirtual 200, 3) := by decide +kernel
theorem dX2_sneeze_24 : decode cX2_sneeze 24 = .ok (.lreturn, 1) := by decide +kernel
theorem dX2_sneeze_25 : decode cX2_sneeze 25 = .ok (.lconst 0, 1) := by decide +kernel
theorem dX2_sneeze_26 : decode cX2_sneeze 26 = .ok (.lstore 7, 2) := by decide +kernel
theorem dX2_sneeze_28 : decode cX2_sneeze 28 = .ok (.iconst 0, 1) := by decide +kernel
theorem dX2_sneeze_29 : decode cX2_sneeze 29 = .ok (.istore 9, 2) := by decide +kernel
theorem dX2_sneeze_31 : decode cX2_sneeze 31 = .ok (.iload 9, 2) := by decide +kernel
theorem dX2_sneeze_33 : decode cX2_sneeze 33 = .ok (.iconst 1, 1) := by decide +kernel
theorem dX2_sneeze_34 : decode cX2_sneeze 34 = .ok (.iload_n 2, 1) := by decide +kernel
theorem dX2_sneeze_35 : decode cX2_sneeze 35 = .ok (.ishl, 1) := by decide +kernel
theorem dX2_sneeze_36 : decode cX2_sneeze 36 = .ok (.if_icmp .ge 40, 3) := by decide +kernel
theorem dX2_sneeze_39 : decode cX2_sneeze 39 = .ok (.aload_n 0, 1) := by decide +kernel
theorem dX2_sneeze_40 : decode cX2_sneeze 40 = .ok (.iload_n 1, 1) := by decide +kernel
theorem dX2_sneeze_41 : decode cX2_sneeze 41 = .ok (.iload_n 2, 1) := by decide +kernel
theorem dX2_sneeze_42 : decode cX2_sneeze 42 = .ok (.iload 9, 2) := by decide +kernel
theorem dX2_sneeze_44 : decode cX2_sneeze 44 = .ok (.invokevirtual 204, 3) := by decide +kernel
theorem dX2_sneeze_47 : decode cX2_sneeze 47 = .ok (.iload 4, 2) := by decide +kernel
theorem dX2_sneeze_49 : decode cX2_sneeze 49 = .ok (.if_icmp .lt 21, 3) := by decide +kernel
theorem dX2_sneeze_52 : decode cX2_sneeze 52 = .ok (.lload 7, 2) := by decide +kernel
theorem dX2_sneeze_54 : decode cX2_sneeze 54 = .ok (.iload_n 3, 1) := by decide +kernel
theorem dX2_sneeze_55 : decode cX2_sneeze 55 = .ok (.iconst 1, 1) := by decide +kernel
theorem dX2_sneeze_56 : decode cX2_sneeze 56 = .ok (.isub, 1) := by decide +kernel
theorem dX2_sneeze_57 : decode cX2_sneeze 57 = .ok (.iload_n 2, 1) := by decide +kernel
theorem dX2_sneeze_58 : decode cX2_sneeze 58 = .ok (.iload 9, 2) := by decide +kernel
theorem dX2_sneeze_60 : decode cX2_sneeze 60 = .ok (.invokestatic 117, 3) := by decide +kernel
theorem dX2_sneeze_63 : decode cX2_sneeze 63 = .ok (.isub, 1) := by decide +kernel
theorem dX2_sneeze_64 : decode cX2_sneeze 64 = .ok (.invokestatic 207, 3) := by decide +kernel
theorem dX2_sneeze_67 : decode cX2_sneeze 67 = .ok (.ladd, 1) := by decide +kernel
theorem dX2_sneeze_68 : decode cX2_sneeze 68 = .ok (.lstore 7, 2) := by decide +kernel
theorem dX2_sneeze_70 : decode cX2_sneeze 70 = .ok (.iinc 9 1, 3) := by decide +kernel
theorem dX2_sneeze_73 : decode cX2_sneeze 73 = .ok (.goto (-42), 3) := by decide +kernel
theorem dX2_sneeze_76 : decode cX2_sneeze 76 = .ok (.lload 7, 2) := by decide +kernel
theorem dX2_sneeze_78 : decode cX2_sneeze 78 = .ok (.iload_n 3, 1) := by decide +kernel
theorem dX2_sneeze_79 : decode cX2_sneeze 79 = .ok (.iload_n 2, 1) := by decide +kernel
theorem dX2_sneeze_80 : decode cX2_sneeze 80 = .ok (.invokestatic 207, 3) := by decide +kernel
theorem dX2_sneeze_83 : decode cX2_sneeze 83 = .ok (.iload 5, 2) := by decide +kernel
theorem dX2_sneeze_85 : decode cX2_sneeze 85 = .ok (.invokestatic 211, 3) := by decide +kernel
theorem dX2_sneeze_88 : decode cX2_sneeze 88 = .ok (.lreturn, 1) := by decide +kernel
theorem dX2_mean_0 : decode cX2_mean 0 = .ok (.iload_n 1, 1) := by decide +kernel
theorem dX2_mean_1 : decode cX2_mean 1 = .ok (.iconst 1, 1) := by decide +kernel
theorem dX2_mean_2 : decode cX2_mean 2 = .ok (.invokestatic 146, 3) := by decide +kernel
theorem dX2_mean_5 : decode cX2_mean 5 = .ok (.istore_n 2, 1) := by decide +kernel
theorem dX2_mean_6 : decode cX2_mean 6 = .ok (.iload_n 2, 1) := by decide +kernel
theorem dX2_mean_7 : decode cX2_mean 7 = .ok (.ifCond .eq 9, 3) := by decide +kernel
theorem dX2_mean_10 : decode cX2_mean 10 = .ok (.aload_n 0, 1) := by decide +kernel
theorem dX2_mean_11 : decode cX2_mean 11 = .ok (.iload_n 2, 1) := by decide +kernel
theorem dX2_mean_12 : decode cX2_mean 12 = .ok (.invokevirtual 200, 3) := by decide +kernel
theorem dX2_mean_15 : decode cX2_mean 15 = .ok (.lreturn, 1) := by decide +kernel
theorem dX2_mean_16 : decode cX2_mean 16 = .ok (.aload_n 0, 1) := by decide +kernel
theorem dX2_mean_17 : decode cX2_mean 17 = .ok (.getfield 10, 3) := by decide +kernel
theorem dX2_mean_20 : decode cX2_mean 20 = .ok (.invokevirtual 153, 3) := by decide +kernel
theorem dX2_mean_23 : decode cX2_mean 23 = .ok (.i2l, 1) := by decide +kernel
theorem dX2_mean_24 : decode cX2_mean 24 = .ok (.iconst 1, 1) := by decide +kernel
theorem dX2_mean_25 : decode cX2_mean 25 = .ok (.aload_n 0, 1) := by decide +kernel
theorem dX2_mean_26 : decode cX2_mean 26 = .ok (.getfield 10, 3) := by decide +kernel
theorem dX2_mean_29 : decode cX2_mean 29 = .ok (.getfield 171, 3) := by decide +kernel
theorem dX2_mean_32 : decode cX2_mean 32 = .ok (.invokestatic 215, 3) := by decide +kernel
theorem dX2_mean_35 : decode cX2_mean 35 = .ok (.i2l, 1) := by decide +kernel
theorem dX2_mean_36 : decode cX2_mean 36 = .ok (.iload_n 1, 1) := by decide +kernel
theorem dX2_mean_37 : decode cX2_mean 37 = .ok (.invokestatic 211, 3) := by decide +kernel
theorem dX2_mean_40 : decode cX2_mean 40 = .ok (.lreturn, 1) := by decide +kernel
theorem dX2_whatIs_0 : decode cX2_whatIs 0 = .ok (.aload_n 0, 1) := by decide +kernel
theorem dX2_whatIs_1 : decode cX2_whatIs 1 = .ok (.getfield 10, 3) := by decide +kernel
theorem dX2_whatIs_4 : decode cX2_whatIs 4 = .ok (.iload_n 1, 1) := by decide +kernel
theorem dX2_whatIs_5 : decode cX2_whatIs 5 = .ok (.invokevirtual 81, 3) := by decide +kernel
theorem dX2_whatIs_8 : decode cX2_whatIs 8 = .ok (.ifCond .ne 9, 3) := by decide +kernel
theorem dX2_whatIs_11 : decode cX2_whatIs 11 = .ok (.aload_n 0, 1) := by decide +kernel
theorem dX2_whatIs_12 : decode cX2_whatIs 12 = .ok (.iconst (-1), 1) := by decide +kernel
theorem dX2_whatIs_13 : decode cX2_whatIs 13 = .ok (.invokevirtual 52, 3) := by decide +kernel
theorem dX2_whatIs_16 : decode cX2_whatIs 16 = .ok (.ireturn, 1) := by decide +kernel
theorem dX2_whatIs_17 : decode cX2_whatIs 17 = .ok (.iload_n 2, 1) := by decide +kernel
theorem dX2_whatIs_18 : decode cX2_whatIs 18 = .ok (.iconst 1, 1) := by decide +kernel
theorem dX2_whatIs_19 : decode cX2_whatIs 19 = .ok (.invokestatic 146, 3) := by decide +kernel
theorem dX2_whatIs_22 : decode cX2_whatIs 22 = .ok (.istore_n 3, 1) := by decide +kernel
theorem dX2_whatIs_23 : decode cX2_whatIs 23 = .ok (.iload_n 3, 1) := by decide +kernel
theorem dX2_whatIs_24 : decode cX2_whatIs 24 = .ok (.ifCond .eq 9, 3) := by decide +kernel
theorem dX2_whatIs_27 : decode cX2_whatIs 27 = .ok (.aload_n 0, 1) := by decide +kernel
theorem dX2_whatIs_28 : decode cX2_whatIs 28 = .ok (.iload_n 3, 1) := by decide +kernel
theorem dX2_whatIs_29 : decode cX2_whatIs 29 = .ok (.invokevirtual 52, 3) := by decide +kernel
theorem dX2_whatIs_32 : decode cX2_whatIs 32 = .ok (.ireturn, 1) := by decide +kernel
theorem dX2_whatIs_33 : decode cX2_whatIs 33 = .ok (.iload_n 2, 1) := by decide +kernel
theorem dX2_whatIs_34 : decode cX2_whatIs 34 = .ok (.ifCond .ne 11, 3) := by decide +kernel
theorem dX2_whatIs_37 : decode cX2_whatIs 37 = .ok (.aload_n 0, 1) := by decide +kernel
theorem dX2_whatIs_38 : decode cX2_whatIs 38 = .ok (.iload_n 1, 1) := by decide +kernel
theorem dX2_whatIs_39 : decode cX2_whatIs 39 = .ok (.invokevirtual 220, 3) := by decide +kernel
theorem dX2_whatIs_42 : decode cX2_whatIs 42 = .ok (.goto 8, 3) := by decide +kernel
theorem dX2_whatIs_45 : decode cX2_whatIs 45 = .ok (.aload_n 0, 1) := by decide +kernel
theorem dX2_whatIs_46 : decode cX2_whatIs 46 = .ok (.iload_n 1, 1) := by decide +kernel
theorem dX2_whatIs_47 : decode cX2_whatIs 47 = .ok (.invokevirtual 223, 3) := by decide +kernel
theorem dX2_whatIs_50 : decode cX2_whatIs 50 = .ok (.ireturn, 1) := by decide +kernel
theorem dX2_row_0 : decode cX2_row 0 = .ok (.iload_n 1, 1) := by decide +kernel
theorem dX2_row_1 : decode cX2_row 1 = .ok (.iconst 0, 1) := by decide +kernel
theorem dX2_row_2 : decode cX2_row 2 = .ok (.bipush 99, 2) := by decide +kernel
theorem dX2_row_4 : decode cX2_row 4 = .ok (.invokestatic 44, 3) := by decide +kernel
theorem dX2_row_7 : decode cX2_row 7 = .ok (.istore_n 2, 1) := by decide +kernel
theorem dX2_row_8 : decode cX2_row 8 = .ok (.iload_n 2, 1) := by decide +kernel
theorem dX2_row_9 : decode cX2_row 9 = .ok (.ifCond .ne 15, 3) := by decide +kernel
theorem dX2_row_12 : decode cX2_row 12 = .ok (.aload_n 0, 1) := by decide +kernel
theorem dX2_row_13 : decode cX2_row 13 = .ok (.getfield 36, 3) := by decide +kernel
theorem dX2_row_16 : decode cX2_row 16 = .ok (.bipush 16, 2) := by decide +kernel
theorem dX2_row_18 : decode cX2_row 18 = .ok (.if_icmp .lt 6, 3) := by decide +kernel
theorem dX2_row_21 : decode cX2_row 21 = .ok (.bipush (-6), 2) := by decide +kernel
theorem dX2_row_23 : decode cX2_row 23 = .ok (.istore_n 2, 1) := by decide +kernel
theorem dX2_row_24 : decode cX2_row 24 = .ok (.iload_n 2, 1) := by decide +kernel
theorem dX2_row_25 : decode cX2_row 25 = .ok (.ifCond .eq 9, 3) := by decide +kernel
theorem dX2_row_28 : decode cX2_row 28 = .ok (.aload_n 0, 1) := by decide +kernel
theorem dX2_row_29 : decode cX2_row 29 = .ok (.iload_n 2, 1) := by decide +kernel
theorem dX2_row_30 : decode cX2_row 30 = .ok (.invokevirtual 52, 3) := by decide +kernel
theorem dX2_row_33 : decode cX2_row 33 = .ok (.ireturn, 1) := by decide +kernel
theorem dX2_row_34 : decode cX2_row 34 = .ok (.aload_n 0, 1) := by decide +kernel
theorem dX2_row_35 : decode cX2_row 35 = .ok (.getfield 29, 3) := by decide +kernel
theorem dX2_row_38 : decode cX2_row 38 = .ok (.aload_n 0, 1) := by decide +kernel
theorem dX2_row_39 : decode cX2_row 39 = .ok (.getfield 36, 3) := by decide +kernel
theorem dX2_row_42 : decode cX2_row 42 = .ok (.iload_n 1, 1) := by decide +kernel
theorem dX2_row_43 : decode cX2_row 43 = .ok (.iastore, 1) := by decide +kernel
theorem dX2_row_44 : decode cX2_row 44 = .ok (.aload_n 0, 1) := by decide +kernel
theorem dX2_row_45 : decode cX2_row 45 = .ok (.dup, 1) := by decide +kernel
theorem dX2_row_46 : decode cX2_row 46 = .ok (.getfield 36, 3) := by decide +kernel
theorem dX2_row_49 : decode cX2_row 49 = .ok (.iconst 1, 1) := by decide +kernel
theorem dX2_row_50 : decode cX2_row 50 = .ok (.iadd, 1) := by decide +kernel
theorem dX2_row_51 : decode cX2_row 51 = .ok (.putfield 36, 3) := by decide +kernel
theorem dX2_row_54 : decode cX2_row 54 = .ok (.aload_n 0, 1) := by decide +kernel
theorem dX2_row_55 : decode cX2_row 55 = .ok (.getfield 36, 3) := by decide +kernel
theorem dX2_row_58 : decode cX2_row 58 = .ok (.ireturn, 1) := by decide +kernel
theorem dX2_judge_0 : decode cX2_judge 0 = .ok (.aload_n 0, 1) := by decide +kernel
theorem dX2_judge_1 : decode cX2_judge 1 = .ok (.getfield 36, 3) := by decide +kernel
theorem dX2_judge_4 : decode cX2_judge 4 = .ok (.istore_n 1, 1) := by decide +kernel
theorem dX2_judge_5 : decode cX2_judge 5 = .ok (.aload_n 0, 1) := by decide +kernel
theorem dX2_judge_6 : decode cX2_judge 6 = .ok (.iconst 0, 1) := by decide +kernel
theorem dX2_judge_7 : decode cX2_judge 7 = .ok (.putfield 36, 3) := by decide +kernel
theorem dX2_judge_10 : decode cX2_judge 10 = .ok (.iconst 0, 1) := by decide +kernel
theorem dX2_judge_11 : decode cX2_judge 11 = .ok (.istore_n 2, 1) := by decide +kernel
theorem dX2_judge_12 : decode cX2_judge 12 = .ok (.iload_n 2, 1) := by decide +kernel
theorem dX2_judge_13 : decode cX2_judge 13 = .ok (.iload_n 1, 1) := by decide +kernel
theorem dX2_judge_14 : decode cX2_judge 14 = .ok (.if_icmp .ge 40, 3) := by decide +kernel
theorem dX2_judge_17 : decode cX2_judge 17 = .ok (.aload_n 0, 1) := by decide +kernel
theorem dX2_judge_18 : decode cX2_judge 18 = .ok (.getfield 10, 3) := by decide +kernel
theorem dX2_judge_21 : decode cX2_judge 21 = .ok (.iload_n 2, 1) := by decide +kernel
theorem dX2_judge_22 : decode cX2_judge 22 = .ok (.invokevirtual 81, 3) := by decide +kernel
theorem dX2_judge_25 : decode cX2_judge 25 = .ok (.ifCond .eq 21, 3) := by decide +kernel
theorem dX2_judge_28 : decode cX2_judge 28 = .ok (.aload_n 0, 1) := by decide +kernel
theorem dX2_judge_29 : decode cX2_judge 29 = .ok (.getfield 10, 3) := by decide +kernel
theorem dX2_judge_32 : decode cX2_judge 32 = .ok (.getfield 90, 3) := by decide +kernel
theorem dX2_judge_35 : decode cX2_judge 35 = .ok (.iload_n 2, 1) := by decide +kernel
theorem dX2_judge_36 : decode cX2_judge 36 = .ok (.iaload, 1) := by decide +kernel
theorem dX2_judge_37 : decode cX2_judge 37 = .ok (.aload_n 0, 1) := by decide +kernel
theorem dX2_judge_38 : decode cX2_judge 38 = .ok (.getfield 29, 3) := by decide +kernel
theorem dX2_judge_41 : decode cX2_judge 41 = .ok (.iload_n 2, 1) := by decide +kernel
theorem dX2_judge_42 : decode cX2_judge 42 = .ok (.iaload, 1) := by decide +kernel
theorem dX2_judge_43 : decode cX2_judge 43 = .ok (.if_icmp .eq 5, 3) := by decide +kernel
theorem dX2_judge_46 : decode cX2_judge 46 = .ok (.iload_n 2, 1) := by decide +kernel
theorem dX2_judge_47 : decode cX2_judge 47 = .ok (.ireturn, 1) := by decide +kernel
theorem dX2_judge_48 : decode cX2_judge 48 = .ok (.iinc 2 1, 3) := by decide +kernel
theorem dX2_judge_51 : decode cX2_judge 51 = .ok (.goto (-39), 3) := by decide +kernel
theorem dX2_judge_54 : decode cX2_judge 54 = .ok (.bipush (-9), 2) := by decide +kernel
theorem dX2_judge_56 : decode cX2_judge 56 = .ok (.ireturn, 1) := by decide +kernel
theorem dX2_clear_0 : decode cX2_clear 0 = .ok (.aload_n 0, 1) := by decide +kernel
theorem dX2_clear_1 : decode cX2_clear 1 = .ok (.getfield 36, 3) := by decide +kernel
theorem dX2_clear_4 : decode cX2_clear 4 = .ok (.istore_n 1, 1) := by decide +kernel
theorem dX2_clear_5 : decode cX2_clear 5 = .ok (.aload_n 0, 1) := by decide +kernel
theorem dX2_clear_6 : decode cX2_clear 6 = .ok (.iconst 0, 1) := by decide +kernel
theorem dX2_clear_7 : decode cX2_clear 7 = .ok (.putfield 36, 3) := by decide +kernel
theorem dX2_clear_10 : decode cX2_clear 10 = .ok (.iload_n 1, 1) := by decide +kernel
theorem dX2_clear_11 : decode cX2_clear 11 = .ok (.ireturn, 1) := by decide +kernel
theorem dX2_lots_0 : decode cX2_lots 0 = .ok (.iload_n 1, 1) := by decide +kernel
theorem dX2_lots_1 : decode cX2_lots 1 = .ok (.iconst 1, 1) := by decide +kernel
theorem dX2_lots_2 : decode cX2_lots 2 = .ok (.bipush 20, 2) := by decide +kernel
theorem dX2_lots_4 : decode cX2_lots 4 = .ok (.invokestatic 44, 3) := by decide +kernel
theorem dX2_lots_7 : decode cX2_lots 7 = .ok (.istore 4, 2) := by decide +kernel
theorem dX2_lots_9 : decode cX2_lots 9 = .ok (.iload 4, 2) := by decide +kernel
theorem dX2_lots_11 : decode cX2_lots 11 = .ok (.ifCond .ne 10, 3) := by decide +kernel
theorem dX2_lots_14 : decode cX2_lots 14 = .ok (.iload_n 3, 1) := by decide +kernel
theorem dX2_lots_15 : decode cX2_lots 15 = .ok (.iconst 1, 1) := by decide +kernel
theorem dX2_lots_16 : decode cX2_lots 16 = .ok (.invokestatic 146, 3) := by decide +kernel
theorem dX2_lots_19 : decode cX2_lots 19 = .ok (.istore 4, 2) := by decide +kernel
theorem dX2_lots_21 : decode cX2_lots 21 = .ok (.iload 4, 2) := by decide +kernel
theorem dX2_lots_23 : decode cX2_lots 23 = .ok (.ifCond .eq 10, 3) := by decide +kernel
theorem dX2_lots_26 : decode cX2_lots 26 = .ok (.aload_n 0, 1) := by decide +kernel
theorem dX2_lots_27 : decode cX2_lots 27 = .ok (.iload 4, 2) := by decide +kernel
theorem dX2_lots_29 : decode cX2_lots 29 = .ok (.invokevirtual 52, 3) := by decide +kernel
theorem dX2_lots_32 : decode cX2_lots 32 = .ok (.ireturn, 1) := by decide +kernel
theorem dX2_lots_33 : decode cX2_lots 33 = .ok (.iload_n 2, 1) := by decide +kernel
theorem dX2_lots_34 : decode cX2_lots 34 = .ok (.istore 5, 2) := by decide +kernel
theorem dX2_lots_36 : decode cX2_lots 36 = .ok (.iconst 0, 1) := by decide +kernel
theorem dX2_lots_37 : decode cX2_lots 37 = .ok (.istore 6, 2) := by decide +kernel
theorem dX2_lots_39 : decode cX2_lots 39 = .ok (.iconst 0, 1) := by decide +kernel
theorem dX2_lots_40 : decode cX2_lots 40 = .ok (.istore 7, 2) := by decide +kernel
theorem dX2_lots_42 : decode cX2_lots 42 = .ok (.iload 7, 2) := by decide +kernel
theorem dX2_lots_44 : decode cX2_lots 44 = .ok (.iload_n 1, 1) := by decide +kernel
theorem dX2_lots_45 : decode cX2_lots 45 = .ok (.if_icmp .ge 78, 3) := by decide +kernel
theorem dX2_lots_48 : decode cX2_lots 48 = .ok (.aload_n 0, 1) := by decide +kernel
theorem dX2_lots_49 : decode cX2_lots 49 = .ok (.invokevirtual 63, 3) := by decide +kernel
theorem dX2_lots_52 : decode cX2_lots 52 = .ok (.astore 8, 2) := by decide +kernel
theorem dX2_lots_54 : decode cX2_lots 54 = .ok (.iconst 0, 1) := by decide +kernel
theorem dX2_lots_55 : decode cX2_lots 55 = .ok (.istore 9, 2) := by decide +kernel
theorem dX2_lots_57 : decode cX2_lots 57 = .ok (.iload 9, 2) := by decide +kernel
theorem dX2_lots_59 : decode cX2_lots 59 = .ok (.iconst 4, 1) := by decide +kernel
theorem dX2_lots_60 : decode cX2_lots 60 = .ok (.if_icmp .ge 35, 3) := by decide +kernel
theorem dX2_lots_63 : decode cX2_lots 63 = .ok (.iload 5, 2) := by decide +kernel
theorem dX2_lots_65 : decode cX2_lots 65 = .ok (.invokestatic 226, 3) := by decide +kernel
theorem dX2_lots_68 : decode cX2_lots 68 = .ok (.istore 5, 2) := by decide +kernel
theorem dX2_lots_70 : decode cX2_lots 70 = .ok (.aload 8, 2) := by decide +kernel
theorem dX2_lots_72 : decode cX2_lots 72 = .ok (.iload 5, 2) := by decide +kernel
theorem dX2_lots_74 : decode cX2_lots 74 = .ok (.bipush 31, 2) := by decide +kernel
theorem dX2_lots_76 : decode cX2_lots 76 = .ok (.invokestatic 229, 3) := by decide +kernel
theorem dX2_lots_79 : decode cX2_lots 79 = .ok (.putfield 132, 3) := by decide +kernel
theorem dX2_lots_82 : decode cX2_lots 82 = .ok (.aload 8, 2) := by decide +kernel
theorem dX2_lots_84 : decode cX2_lots 84 = .ok (.bipush 12, 2) := by decide +kernel
theorem dX2_lots_86 : decode cX2_lots 86 = .ok (.invokevirtual 138, 3) := by decide +kernel
theorem dX2_lots_89 : decode cX2_lots 89 = .ok (.iinc 9 1, 3) := by decide +kernel
theorem dX2_lots_92 : decode cX2_lots 92 = .ok (.goto (-35), 3) := by decide +kernel
theorem dX2_lots_95 : decode cX2_lots 95 = .ok (.iload 6, 2) := by decide +kernel
theorem dX2_lots_97 : decode cX2_lots 97 = .ok (.iload_n 3, 1) := by decide +kernel
theorem dX2_lots_98 : decode cX2_lots 98 = .ok (.ifCond .ne 11, 3) := by decide +kernel
theorem dX2_lots_101 : decode cX2_lots 101 = .ok (.aload 8, 2) := by decide +kernel
theorem dX2_lots_103 : decode cX2_lots 103 = .ok (.invokevirtual 153, 3) := by decide +kernel
theorem dX2_lots_106 : decode cX2_lots 106 = .ok (.goto 8, 3) := by decide +kernel
theorem dX2_lots_109 : decode cX2_lots 109 = .ok (.aload 8, 2) := by decide +kernel
theorem dX2_lots_111 : decode cX2_lots 111 = .ok (.invokevirtual 232, 3) := by decide +kernel
theorem dX2_lots_114 : decode cX2_lots 114 = .ok (.iadd, 1) := by decide +kernel
theorem dX2_lots_115 : decode cX2_lots 115 = .ok (.istore 6, 2) := by decide +kernel
theorem dX2_lots_117 : decode cX2_lots 117 = .ok (.iinc 7 1, 3) := by decide +kernel
theorem dX2_lots_120 : decode cX2_lots 120 = .ok (.goto (-78), 3) := by decide +kernel
theorem dX2_lots_123 : decode cX2_lots 123 = .ok (.iload 6, 2) := by decide +kernel
theorem dX2_lots_125 : decode cX2_lots 125 = .ok (.ireturn, 1) := by decide +kernel
theorem dX2_image_0 : decode cX2_image 0 = .ok (.aload_n 0, 1) := by decide +kernel
theorem dX2_image_1 : decode cX2_image 1 = .ok (.getfield 19, 3) := by decide +kernel
theorem dX2_image_4 : decode cX2_image 4 = .ok (.aload_n 0, 1) := by decide +kernel
theorem dX2_image_5 : decode cX2_image 5 = .ok (.getfield 10, 3) := by decide +kernel
theorem dX2_image_8 : decode cX2_image 8 = .ok (.invokevirtual 77, 3) := by decide +kernel
theorem dX2_image_11 : decode cX2_image 11 = .ok (.aload_n 0, 1) := by decide +kernel
theorem dX2_image_12 : decode cX2_image 12 = .ok (.iconst 1, 1) := by decide +kernel
theorem dX2_image_13 : decode cX2_image 13 = .ok (.putfield 40, 3) := by decide +kernel
theorem dX2_image_16 : decode cX2_image 16 = .ok (.aload_n 0, 1) := by decide +kernel
theorem dX2_image_17 : decode cX2_image 17 = .ok (.getfield 10, 3) := by decide +kernel
theorem dX2_image_20 : decode cX2_image 20 = .ok (.getfield 235, 3) := by decide +kernel
theorem dX2_image_23 : decode cX2_image 23 = .ok (.ireturn, 1) := by decide +kernel
theorem dX2_on_0 : decode cX2_on 0 = .ok (.aload_n 0, 1) := by decide +kernel
theorem dX2_on_1 : decode cX2_on 1 = .ok (.getfield 40, 3) := by decide +kernel
theorem dX2_on_4 : decode cX2_on 4 = .ok (.ifCond .ne 10, 3) := by decide +kernel
theorem dX2_on_7 : decode cX2_on 7 = .ok (.aload_n 0, 1) := by decide +kernel
theorem dX2_on_8 : decode cX2_on 8 = .ok (.bipush (-3), 2) := by decide +kernel
theorem dX2_on_10 : decode cX2_on 10 = .ok (.invokevirtual 52, 3) := by decide +kernel
theorem dX2_on_13 : decode cX2_on 13 = .ok (.ireturn, 1) := by decide +kernel
theorem dX2_on_14 : decode cX2_on 14 = .ok (.aload_n 0, 1) := by decide +kernel
theorem dX2_on_15 : decode cX2_on 15 = .ok (.getfield 10, 3) := by decide +kernel
theorem dX2_on_18 : decode cX2_on 18 = .ok (.aload_n 0, 1) := by decide +kernel
theorem dX2_on_19 : decode cX2_on 19 = .ok (.getfield 19, 3) := by decide +kernel
theorem dX2_on_22 : decode cX2_on 22 = .ok (.invokevirtual 77, 3) := by decide +kernel
theorem dX2_on_25 : decode cX2_on 25 = .ok (.aload_n 0, 1) := by decide +kernel
theorem dX2_on_26 : decode cX2_on 26 = .ok (.getfield 10, 3) := by decide +kernel
theorem dX2_on_29 : decode cX2_on 29 = .ok (.getfield 235, 3) := by decide +kernel
theorem dX2_on_32 : decode cX2_on 32 = .ok (.ireturn, 1) := by decide +kernel
theorem dX2_count_0 : decode cX2_count 0 = .ok (.iload_n 1, 1) := by decide +kernel
theorem dX2_count_1 : decode cX2_count 1 = .ok (.tableswitch 108 0 7 #[47, 55, 63, 71, 79, 87, 95, 100], 47) := by decide +kernel
theorem dX2_count_48 : decode cX2_count 48 = .ok (.aload_n 0, 1) := by decide +kernel
theorem dX2_count_49 : decode cX2_count 49 = .ok (.getfield 10, 3) := by decide +kernel
theorem dX2_count_52 : decode cX2_count 52 = .ok (.getfield 171, 3) := by decide +kernel
theorem dX2_count_55 : decode cX2_count 55 = .ok (.ireturn, 1) := by decide +kernel
theorem dX2_count_56 : decode cX2_count 56 = .ok (.aload_n 0, 1) := by decide +kernel
theorem dX2_count_57 : decode cX2_count 57 = .ok (.getfield 10, 3) := by decide +kernel
theorem dX2_count_60 : decode cX2_count 60 = .ok (.getfield 235, 3) := by decide +kernel
theorem dX2_count_63 : decode cX2_count 63 = .ok (.ireturn, 1) := by decide +kernel
theorem dX2_count_64 : decode cX2_count 64 = .ok (.aload_n 0, 1) := by decide +kernel
theorem dX2_count_65 : decode cX2_count 65 = .ok (.getfield 10, 3) := by decide +kernel
theorem dX2_count_68 : decode cX2_count 68 = .ok (.getfield 129, 3) := by decide +kernel
theorem dX2_count_71 : decode cX2_count 71 = .ok (.ireturn, 1) := by decide +kernel
theorem dX2_count_72 : decode cX2_count 72 = .ok (.aload_n 0, 1) := by decide +kernel
theorem dX2_count_73 : decode cX2_count 73 = .ok (.getfield 10, 3) := by decide +kernel
theorem dX2_count_76 : decode cX2_count 76 = .ok (.getfield 132, 3) := by decide +kernel
theorem dX2_count_79 : decode cX2_count 79 = .ok (.ireturn, 1) := by decide +kernel
theorem dX2_count_80 : decode cX2_count 80 = .ok (.aload_n 0, 1) := by decide +kernel
theorem dX2_count_81 : decode cX2_count 81 = .ok (.getfield 10, 3) := by decide +kernel
theorem dX2_count_84 : decode cX2_count 84 = .ok (.getfield 114, 3) := by decide +kernel
theorem dX2_count_87 : decode cX2_count 87 = .ok (.ireturn, 1) := by decide +kernel
theorem dX2_count_88 : decode cX2_count 88 = .ok (.aload_n 0, 1) := by decide +kernel
theorem dX2_count_89 : decode cX2_count 89 = .ok (.getfield 10, 3) := by decide +kernel
theorem dX2_count_92 : decode cX2_count 92 = .ok (.invokevirtual 153, 3) := by decide +kernel
theorem dX2_count_95 : decode cX2_count 95 = .ok (.ireturn, 1) := by decide +kernel
theorem dX2_count_96 : decode cX2_count 96 = .ok (.aload_n 0, 1) := by decide +kernel
theorem dX2_count_97 : decode cX2_count 97 = .ok (.getfield 36, 3) := by decide +kernel
theorem dX2_count_100 : decode cX2_count 100 = .ok (.ireturn, 1) := by decide +kernel
theorem dX2_count_101 : decode cX2_count 101 = .ok (.aload_n 0, 1) := by decide +kernel
theorem dX2_count_102 : decode cX2_count 102 = .ok (.getfield 25, 3) := by decide +kernel
theorem dX2_count_105 : decode cX2_count 105 = .ok (.getfield 56, 3) := by decide +kernel
theorem dX2_count_108 : decode cX2_count 108 = .ok (.ireturn, 1) := by decide +kernel
theorem dX2_count_109 : decode cX2_count 109 = .ok (.aload_n 0, 1) := by decide +kernel
end
section
theorem dX2_count_110 : decode cX2_count 110 = .ok (.iload_n 1, 1) := by decide +kernel
theorem dX2_count_111 : decode cX2_count 111 = .ok (.invokevirtual 238, 3) := by decide +kernel
theorem dX2_count_114 : decode cX2_count 114 = .ok (.ireturn, 1) := by decide +kernel
theorem dX2_countRefusals_0 : decode cX2_countRefusals 0 = .ok (.iload_n 1, 1) := by decide +kernel
theorem dX2_countRefusals_1 : decode cX2_countRefusals 1 = .ok (.bipush 10, 2) := by decide +kernel
theorem dX2_countRefusals_3 : decode cX2_countRefusals 3 = .ok (.if_icmp .le 9, 3) := by decide +kernel
theorem dX2_countRefusals_6 : decode cX2_countRefusals 6 = .ok (.iload_n 1, 1) := by decide +kernel
theorem dX2_countRefusals_7 : decode cX2_countRefusals 7 = .ok (.bipush 16, 2) := by decide +kernel
theorem dX2_countRefusals_9 : decode cX2_countRefusals 9 = .ok (.if_icmp .le 6, 3) := by decide +kernel
theorem dX2_countRefusals_12 : decode cX2_countRefusals 12 = .ok (.bipush (-9), 2) := by decide +kernel
theorem dX2_countRefusals_14 : decode cX2_countRefusals 14 = .ok (.ireturn, 1) := by decide +kernel
theorem dX2_countRefusals_15 : decode cX2_countRefusals 15 = .ok (.aload_n 0, 1) := by decide +kernel
theorem dX2_countRefusals_16 : decode cX2_countRefusals 16 = .ok (.getfield 33, 3) := by decide +kernel
theorem dX2_countRefusals_19 : decode cX2_countRefusals 19 = .ok (.iload_n 1, 1) := by decide +kernel
theorem dX2_countRefusals_20 : decode cX2_countRefusals 20 = .ok (.bipush 10, 2) := by decide +kernel
theorem dX2_countRefusals_22 : decode cX2_countRefusals 22 = .ok (.isub, 1) := by decide +kernel
theorem dX2_countRefusals_23 : decode cX2_countRefusals 23 = .ok (.iaload, 1) := by decide +kernel
theorem dX2_countRefusals_24 : decode cX2_countRefusals 24 = .ok (.ireturn, 1) := by decide +kernel
theorem dX2_refused_0 : decode cX2_refused 0 = .ok (.iload_n 1, 1) := by decide +kernel
theorem dX2_refused_1 : decode cX2_refused 1 = .ok (.ifCond .ge 20, 3) := by decide +kernel
theorem dX2_refused_4 : decode cX2_refused 4 = .ok (.iload_n 1, 1) := by decide +kernel
theorem dX2_refused_5 : decode cX2_refused 5 = .ok (.bipush (-6), 2) := by decide +kernel
theorem dX2_refused_7 : decode cX2_refused 7 = .ok (.if_icmp .lt 14, 3) := by decide +kernel
theorem dX2_refused_10 : decode cX2_refused 10 = .ok (.aload_n 0, 1) := by decide +kernel
theorem dX2_refused_11 : decode cX2_refused 11 = .ok (.getfield 33, 3) := by decide +kernel
theorem dX2_refused_14 : decode cX2_refused 14 = .ok (.iload_n 1, 1) := by decide +kernel
theorem dX2_refused_15 : decode cX2_refused 15 = .ok (.ineg, 1) := by decide +kernel
theorem dX2_refused_16 : decode cX2_refused 16 = .ok (.dup2, 1) := by decide +kernel
theorem dX2_refused_17 : decode cX2_refused 17 = .ok (.iaload, 1) := by decide +kernel
theorem dX2_refused_18 : decode cX2_refused 18 = .ok (.iconst 1, 1) := by decide +kernel
theorem dX2_refused_19 : decode cX2_refused 19 = .ok (.iadd, 1) := by decide +kernel
theorem dX2_refused_20 : decode cX2_refused 20 = .ok (.iastore, 1) := by decide +kernel
theorem dX2_refused_21 : decode cX2_refused 21 = .ok (.iload_n 1, 1) := by decide +kernel
theorem dX2_refused_22 : decode cX2_refused 22 = .ok (.ireturn, 1) := by decide +kernel
theorem dX2_refusedLong_0 : decode cX2_refusedLong 0 = .ok (.ldc2_w 241, 3) := by decide +kernel
theorem dX2_refusedLong_3 : decode cX2_refusedLong 3 = .ok (.aload_n 0, 1) := by decide +kernel
theorem dX2_refusedLong_4 : decode cX2_refusedLong 4 = .ok (.iload_n 1, 1) := by decide +kernel
theorem dX2_refusedLong_5 : decode cX2_refusedLong 5 = .ok (.invokevirtual 52, 3) := by decide +kernel
theorem dX2_refusedLong_8 : decode cX2_refusedLong 8 = .ok (.i2l, 1) := by decide +kernel
theorem dX2_refusedLong_9 : decode cX2_refusedLong 9 = .ok (.lsub, 1) := by decide +kernel
theorem dX2_refusedLong_10 : decode cX2_refusedLong 10 = .ok (.lreturn, 1) := by decide +kernel
theorem dX2_rangeRefusal_0 : decode cX2_rangeRefusal 0 = .ok (.iload_n 0, 1) := by decide +kernel
theorem dX2_rangeRefusal_1 : decode cX2_rangeRefusal 1 = .ok (.iload_n 1, 1) := by decide +kernel
theorem dX2_rangeRefusal_2 : decode cX2_rangeRefusal 2 = .ok (.if_icmp .ge 6, 3) := by decide +kernel
theorem dX2_rangeRefusal_5 : decode cX2_rangeRefusal 5 = .ok (.bipush (-4), 2) := by decide +kernel
theorem dX2_rangeRefusal_7 : decode cX2_rangeRefusal 7 = .ok (.ireturn, 1) := by decide +kernel
theorem dX2_rangeRefusal_8 : decode cX2_rangeRefusal 8 = .ok (.iload_n 0, 1) := by decide +kernel
theorem dX2_rangeRefusal_9 : decode cX2_rangeRefusal 9 = .ok (.iload_n 2, 1) := by decide +kernel
theorem dX2_rangeRefusal_10 : decode cX2_rangeRefusal 10 = .ok (.if_icmp .le 8, 3) := by decide +kernel
theorem dX2_rangeRefusal_13 : decode cX2_rangeRefusal 13 = .ok (.bipush (-6), 2) := by decide +kernel
theorem dX2_rangeRefusal_15 : decode cX2_rangeRefusal 15 = .ok (.goto 4, 3) := by decide +kernel
theorem dX2_rangeRefusal_18 : decode cX2_rangeRefusal 18 = .ok (.iconst 0, 1) := by decide +kernel
theorem dX2_rangeRefusal_19 : decode cX2_rangeRefusal 19 = .ok (.ireturn, 1) := by decide +kernel
theorem dX2_whatRefusal_0 : decode cX2_whatRefusal 0 = .ok (.iload_n 0, 1) := by decide +kernel
theorem dX2_whatRefusal_1 : decode cX2_whatRefusal 1 = .ok (.ifCond .lt 8, 3) := by decide +kernel
theorem dX2_whatRefusal_4 : decode cX2_whatRefusal 4 = .ok (.iload_n 0, 1) := by decide +kernel
theorem dX2_whatRefusal_5 : decode cX2_whatRefusal 5 = .ok (.iload_n 1, 1) := by decide +kernel
theorem dX2_whatRefusal_6 : decode cX2_whatRefusal 6 = .ok (.if_icmp .le 8, 3) := by decide +kernel
theorem dX2_whatRefusal_9 : decode cX2_whatRefusal 9 = .ok (.bipush (-2), 2) := by decide +kernel
theorem dX2_whatRefusal_11 : decode cX2_whatRefusal 11 = .ok (.goto 4, 3) := by decide +kernel
theorem dX2_whatRefusal_14 : decode cX2_whatRefusal 14 = .ok (.iconst 0, 1) := by decide +kernel
theorem dX2_whatRefusal_15 : decode cX2_whatRefusal 15 = .ok (.ireturn, 1) := by decide +kernel
theorem dX2_oneRefusal_0 : decode cX2_oneRefusal 0 = .ok (.aload_n 0, 1) := by decide +kernel
theorem dX2_oneRefusal_1 : decode cX2_oneRefusal 1 = .ok (.getfield 10, 3) := by decide +kernel
theorem dX2_oneRefusal_4 : decode cX2_oneRefusal 4 = .ok (.iload_n 1, 1) := by decide +kernel
theorem dX2_oneRefusal_5 : decode cX2_oneRefusal 5 = .ok (.invokevirtual 81, 3) := by decide +kernel
theorem dX2_oneRefusal_8 : decode cX2_oneRefusal 8 = .ok (.ifCond .eq 12, 3) := by decide +kernel
theorem dX2_oneRefusal_11 : decode cX2_oneRefusal 11 = .ok (.iload_n 2, 1) := by decide +kernel
theorem dX2_oneRefusal_12 : decode cX2_oneRefusal 12 = .ok (.iconst 0, 1) := by decide +kernel
theorem dX2_oneRefusal_13 : decode cX2_oneRefusal 13 = .ok (.iload_n 3, 1) := by decide +kernel
theorem dX2_oneRefusal_14 : decode cX2_oneRefusal 14 = .ok (.invokestatic 44, 3) := by decide +kernel
theorem dX2_oneRefusal_17 : decode cX2_oneRefusal 17 = .ok (.goto 4, 3) := by decide +kernel
theorem dX2_oneRefusal_20 : decode cX2_oneRefusal 20 = .ok (.iconst (-1), 1) := by decide +kernel
theorem dX2_oneRefusal_21 : decode cX2_oneRefusal 21 = .ok (.ireturn, 1) := by decide +kernel
theorem dX2_sneezeRefusal_0 : decode cX2_sneezeRefusal 0 = .ok (.aload_n 0, 1) := by decide +kernel
theorem dX2_sneezeRefusal_1 : decode cX2_sneezeRefusal 1 = .ok (.getfield 10, 3) := by decide +kernel
theorem dX2_sneezeRefusal_4 : decode cX2_sneezeRefusal 4 = .ok (.iload_n 1, 1) := by decide +kernel
theorem dX2_sneezeRefusal_5 : decode cX2_sneezeRefusal 5 = .ok (.invokevirtual 81, 3) := by decide +kernel
theorem dX2_sneezeRefusal_8 : decode cX2_sneezeRefusal 8 = .ok (.ifCond .ne 5, 3) := by decide +kernel
theorem dX2_sneezeRefusal_11 : decode cX2_sneezeRefusal 11 = .ok (.iconst (-1), 1) := by decide +kernel
theorem dX2_sneezeRefusal_12 : decode cX2_sneezeRefusal 12 = .ok (.ireturn, 1) := by decide +kernel
theorem dX2_sneezeRefusal_13 : decode cX2_sneezeRefusal 13 = .ok (.iload_n 2, 1) := by decide +kernel
theorem dX2_sneezeRefusal_14 : decode cX2_sneezeRefusal 14 = .ok (.ifCond .lt 13, 3) := by decide +kernel
theorem dX2_sneezeRefusal_17 : decode cX2_sneezeRefusal 17 = .ok (.iload 4, 2) := by decide +kernel
theorem dX2_sneezeRefusal_19 : decode cX2_sneezeRefusal 19 = .ok (.ifCond .lt 8, 3) := by decide +kernel
theorem dX2_sneezeRefusal_22 : decode cX2_sneezeRefusal 22 = .ok (.iload_n 3, 1) := by decide +kernel
theorem dX2_sneezeRefusal_23 : decode cX2_sneezeRefusal 23 = .ok (.iconst 2, 1) := by decide +kernel
theorem dX2_sneezeRefusal_24 : decode cX2_sneezeRefusal 24 = .ok (.if_icmp .ge 6, 3) := by decide +kernel
theorem dX2_sneezeRefusal_27 : decode cX2_sneezeRefusal 27 = .ok (.bipush (-4), 2) := by decide +kernel
theorem dX2_sneezeRefusal_29 : decode cX2_sneezeRefusal 29 = .ok (.ireturn, 1) := by decide +kernel
theorem dX2_sneezeRefusal_30 : decode cX2_sneezeRefusal 30 = .ok (.iload_n 2, 1) := by decide +kernel
theorem dX2_sneezeRefusal_31 : decode cX2_sneezeRefusal 31 = .ok (.bipush 7, 2) := by decide +kernel
theorem dX2_sneezeRefusal_33 : decode cX2_sneezeRefusal 33 = .ok (.if_icmp .gt 16, 3) := by decide +kernel
theorem dX2_sneezeRefusal_36 : decode cX2_sneezeRefusal 36 = .ok (.iload_n 3, 1) := by decide +kernel
theorem dX2_sneezeRefusal_37 : decode cX2_sneezeRefusal 37 = .ok (.bipush 20, 2) := by decide +kernel
theorem dX2_sneezeRefusal_39 : decode cX2_sneezeRefusal 39 = .ok (.if_icmp .gt 10, 3) := by decide +kernel
theorem dX2_sneezeRefusal_42 : decode cX2_sneezeRefusal 42 = .ok (.iload 4, 2) := by decide +kernel
theorem dX2_sneezeRefusal_44 : decode cX2_sneezeRefusal 44 = .ok (.bipush 99, 2) := by decide +kernel
theorem dX2_sneezeRefusal_46 : decode cX2_sneezeRefusal 46 = .ok (.if_icmp .le 6, 3) := by decide +kernel
theorem dX2_sneezeRefusal_49 : decode cX2_sneezeRefusal 49 = .ok (.bipush (-6), 2) := by decide +kernel
theorem dX2_sneezeRefusal_51 : decode cX2_sneezeRefusal 51 = .ok (.ireturn, 1) := by decide +kernel
theorem dX2_sneezeRefusal_52 : decode cX2_sneezeRefusal 52 = .ok (.iload 5, 2) := by decide +kernel
theorem dX2_sneezeRefusal_54 : decode cX2_sneezeRefusal 54 = .ok (.iconst 1, 1) := by decide +kernel
theorem dX2_sneezeRefusal_55 : decode cX2_sneezeRefusal 55 = .ok (.invokestatic 146, 3) := by decide +kernel
theorem dX2_sneezeRefusal_58 : decode cX2_sneezeRefusal 58 = .ok (.ireturn, 1) := by decide +kernel
theorem dX2_thoughtOfNow_0 : decode cX2_thoughtOfNow 0 = .ok (.aload_n 0, 1) := by decide +kernel
theorem dX2_thoughtOfNow_1 : decode cX2_thoughtOfNow 1 = .ok (.getfield 16, 3) := by decide +kernel
theorem dX2_thoughtOfNow_4 : decode cX2_thoughtOfNow 4 = .ok (.aload_n 0, 1) := by decide +kernel
theorem dX2_thoughtOfNow_5 : decode cX2_thoughtOfNow 5 = .ok (.getfield 10, 3) := by decide +kernel
theorem dX2_thoughtOfNow_8 : decode cX2_thoughtOfNow 8 = .ok (.invokevirtual 77, 3) := by decide +kernel
theorem dX2_thoughtOfNow_11 : decode cX2_thoughtOfNow 11 = .ok (.aload_n 0, 1) := by decide +kernel
theorem dX2_thoughtOfNow_12 : decode cX2_thoughtOfNow 12 = .ok (.getfield 16, 3) := by decide +kernel
theorem dX2_thoughtOfNow_15 : decode cX2_thoughtOfNow 15 = .ok (.areturn, 1) := by decide +kernel
theorem dX2_thoughtBehind_0 : decode cX2_thoughtBehind 0 = .ok (.aload_n 0, 1) := by decide +kernel
theorem dX2_thoughtBehind_1 : decode cX2_thoughtBehind 1 = .ok (.invokevirtual 63, 3) := by decide +kernel
theorem dX2_thoughtBehind_4 : decode cX2_thoughtBehind 4 = .ok (.astore_n 2, 1) := by decide +kernel
theorem dX2_thoughtBehind_5 : decode cX2_thoughtBehind 5 = .ok (.aload_n 2, 1) := by decide +kernel
theorem dX2_thoughtBehind_6 : decode cX2_thoughtBehind 6 = .ok (.iload_n 1, 1) := by decide +kernel
theorem dX2_thoughtBehind_7 : decode cX2_thoughtBehind 7 = .ok (.invokevirtual 138, 3) := by decide +kernel
theorem dX2_thoughtBehind_10 : decode cX2_thoughtBehind 10 = .ok (.aload_n 2, 1) := by decide +kernel
theorem dX2_thoughtBehind_11 : decode cX2_thoughtBehind 11 = .ok (.areturn, 1) := by decide +kernel
theorem dX2_firstDry_0 : decode cX2_firstDry 0 = .ok (.aload_n 0, 1) := by decide +kernel
theorem dX2_firstDry_1 : decode cX2_firstDry 1 = .ok (.invokevirtual 63, 3) := by decide +kernel
theorem dX2_firstDry_4 : decode cX2_firstDry 4 = .ok (.astore_n 1, 1) := by decide +kernel
theorem dX2_firstDry_5 : decode cX2_firstDry 5 = .ok (.iconst 0, 1) := by decide +kernel
theorem dX2_firstDry_6 : decode cX2_firstDry 6 = .ok (.istore_n 2, 1) := by decide +kernel
theorem dX2_firstDry_7 : decode cX2_firstDry 7 = .ok (.iload_n 2, 1) := by decide +kernel
theorem dX2_firstDry_8 : decode cX2_firstDry 8 = .ok (.bipush 60, 2) := by decide +kernel
theorem dX2_firstDry_10 : decode cX2_firstDry 10 = .ok (.if_icmp .gt 41, 3) := by decide +kernel
theorem dX2_firstDry_13 : decode cX2_firstDry 13 = .ok (.iconst 0, 1) := by decide +kernel
theorem dX2_firstDry_14 : decode cX2_firstDry 14 = .ok (.istore_n 3, 1) := by decide +kernel
theorem dX2_firstDry_15 : decode cX2_firstDry 15 = .ok (.iload_n 3, 1) := by decide +kernel
theorem dX2_firstDry_16 : decode cX2_firstDry 16 = .ok (.aload_n 1, 1) := by decide +kernel
theorem dX2_firstDry_17 : decode cX2_firstDry 17 = .ok (.getfield 171, 3) := by decide +kernel
theorem dX2_firstDry_20 : decode cX2_firstDry 20 = .ok (.if_icmp .ge 20, 3) := by decide +kernel
theorem dX2_firstDry_23 : decode cX2_firstDry 23 = .ok (.aload_n 1, 1) := by decide +kernel
theorem dX2_firstDry_24 : decode cX2_firstDry 24 = .ok (.getfield 93, 3) := by decide +kernel
theorem dX2_firstDry_27 : decode cX2_firstDry 27 = .ok (.iload_n 3, 1) := by decide +kernel
theorem dX2_firstDry_28 : decode cX2_firstDry 28 = .ok (.iaload, 1) := by decide +kernel
theorem dX2_firstDry_29 : decode cX2_firstDry 29 = .ok (.ifCond .ne 5, 3) := by decide +kernel
theorem dX2_firstDry_32 : decode cX2_firstDry 32 = .ok (.iload_n 3, 1) := by decide +kernel
theorem dX2_firstDry_33 : decode cX2_firstDry 33 = .ok (.ireturn, 1) := by decide +kernel
theorem dX2_firstDry_34 : decode cX2_firstDry 34 = .ok (.iinc 3 1, 3) := by decide +kernel
theorem dX2_firstDry_37 : decode cX2_firstDry 37 = .ok (.goto (-22), 3) := by decide +kernel
theorem dX2_firstDry_40 : decode cX2_firstDry 40 = .ok (.aload_n 1, 1) := by decide +kernel
theorem dX2_firstDry_41 : decode cX2_firstDry 41 = .ok (.iconst 0, 1) := by decide +kernel
theorem dX2_firstDry_42 : decode cX2_firstDry 42 = .ok (.invokevirtual 159, 3) := by decide +kernel
theorem dX2_firstDry_45 : decode cX2_firstDry 45 = .ok (.iinc 2 1, 3) := by decide +kernel
theorem dX2_firstDry_48 : decode cX2_firstDry 48 = .ok (.goto (-41), 3) := by decide +kernel
theorem dX2_firstDry_51 : decode cX2_firstDry 51 = .ok (.bipush (-9), 2) := by decide +kernel
theorem dX2_firstDry_53 : decode cX2_firstDry 53 = .ok (.ireturn, 1) := by decide +kernel
theorem dX2_isWetWithHushed_0 : decode cX2_isWetWithHushed 0 = .ok (.aload_n 0, 1) := by decide +kernel
theorem dX2_isWetWithHushed_1 : decode cX2_isWetWithHushed 1 = .ok (.invokevirtual 63, 3) := by decide +kernel
theorem dX2_isWetWithHushed_4 : decode cX2_isWetWithHushed 4 = .ok (.astore_n 3, 1) := by decide +kernel
theorem dX2_isWetWithHushed_5 : decode cX2_isWetWithHushed 5 = .ok (.aload_n 3, 1) := by decide +kernel
theorem dX2_isWetWithHushed_6 : decode cX2_isWetWithHushed 6 = .ok (.iload_n 1, 1) := by decide +kernel
theorem dX2_isWetWithHushed_7 : decode cX2_isWetWithHushed 7 = .ok (.putfield 172, 3) := by decide +kernel
theorem dX2_isWetWithHushed_10 : decode cX2_isWetWithHushed 10 = .ok (.aload_n 3, 1) := by decide +kernel
theorem dX2_isWetWithHushed_11 : decode cX2_isWetWithHushed 11 = .ok (.aload_n 0, 1) := by decide +kernel
theorem dX2_isWetWithHushed_12 : decode cX2_isWetWithHushed 12 = .ok (.getfield 10, 3) := by decide +kernel
theorem dX2_isWetWithHushed_15 : decode cX2_isWetWithHushed 15 = .ok (.invokevirtual 162, 3) := by decide +kernel
theorem dX2_isWetWithHushed_18 : decode cX2_isWetWithHushed 18 = .ok (.iload_n 2, 1) := by decide +kernel
theorem dX2_isWetWithHushed_19 : decode cX2_isWetWithHushed 19 = .ok (.invokevirtual 165, 3) := by decide +kernel
theorem dX2_isWetWithHushed_22 : decode cX2_isWetWithHushed 22 = .ok (.ireturn, 1) := by decide +kernel
theorem dX2_othersWetBySending_0 : decode cX2_othersWetBySending 0 = .ok (.aload_n 0, 1) := by decide +kernel
theorem dX2_othersWetBySending_1 : decode cX2_othersWetBySending 1 = .ok (.invokevirtual 63, 3) := by decide +kernel
theorem dX2_othersWetBySending_4 : decode cX2_othersWetBySending 4 = .ok (.astore_n 3, 1) := by decide +kernel
theorem dX2_othersWetBySending_5 : decode cX2_othersWetBySending 5 = .ok (.aload_n 3, 1) := by decide +kernel
theorem dX2_othersWetBySending_6 : decode cX2_othersWetBySending 6 = .ok (.iload_n 1, 1) := by decide +kernel
theorem dX2_othersWetBySending_7 : decode cX2_othersWetBySending 7 = .ok (.invokevirtual 243, 3) := by decide +kernel
theorem dX2_othersWetBySending_10 : decode cX2_othersWetBySending 10 = .ok (.aload_n 3, 1) := by decide +kernel
theorem dX2_othersWetBySending_11 : decode cX2_othersWetBySending 11 = .ok (.iload_n 2, 1) := by decide +kernel
theorem dX2_othersWetBySending_12 : decode cX2_othersWetBySending 12 = .ok (.invokevirtual 138, 3) := by decide +kernel
theorem dX2_othersWetBySending_15 : decode cX2_othersWetBySending 15 = .ok (.iconst 0, 1) := by decide +kernel
theorem dX2_othersWetBySending_16 : decode cX2_othersWetBySending 16 = .ok (.istore 4, 2) := by decide +kernel
theorem dX2_othersWetBySending_18 : decode cX2_othersWetBySending 18 = .ok (.iconst 0, 1) := by decide +kernel
theorem dX2_othersWetBySending_19 : decode cX2_othersWetBySending 19 = .ok (.istore 5, 2) := by decide +kernel
theorem dX2_othersWetBySending_21 : decode cX2_othersWetBySending 21 = .ok (.iload 5, 2) := by decide +kernel
theorem dX2_othersWetBySending_23 : decode cX2_othersWetBySending 23 = .ok (.aload_n 3, 1) := by decide +kernel
theorem dX2_othersWetBySending_24 : decode cX2_othersWetBySending 24 = .ok (.getfield 171, 3) := by decide +kernel
theorem dX2_othersWetBySending_27 : decode cX2_othersWetBySending 27 = .ok (.if_icmp .ge 28, 3) := by decide +kernel
theorem dX2_othersWetBySending_30 : decode cX2_othersWetBySending 30 = .ok (.iload 5, 2) := by decide +kernel
theorem dX2_othersWetBySending_32 : decode cX2_othersWetBySending 32 = .ok (.iload_n 1, 1) := by decide +kernel
theorem dX2_othersWetBySending_33 : decode cX2_othersWetBySending 33 = .ok (.if_icmp .eq 16, 3) := by decide +kernel
theorem dX2_othersWetBySending_36 : decode cX2_othersWetBySending 36 = .ok (.aload_n 3, 1) := by decide +kernel
theorem dX2_othersWetBySending_37 : decode cX2_othersWetBySending 37 = .ok (.getfield 93, 3) := by decide +kernel
theorem dX2_othersWetBySending_40 : decode cX2_othersWetBySending 40 = .ok (.iload 5, 2) := by decide +kernel
theorem dX2_othersWetBySending_42 : decode cX2_othersWetBySending 42 = .ok (.iaload, 1) := by decide +kernel
theorem dX2_othersWetBySending_43 : decode cX2_othersWetBySending 43 = .ok (.ifCond .le 6, 3) := by decide +kernel
theorem dX2_othersWetBySending_46 : decode cX2_othersWetBySending 46 = .ok (.iinc 4 1, 3) := by decide +kernel
theorem dX2_othersWetBySending_49 : decode cX2_othersWetBySending 49 = .ok (.iinc 5 1, 3) := by decide +kernel
theorem dX2_othersWetBySending_52 : decode cX2_othersWetBySending 52 = .ok (.goto (-31), 3) := by decide +kernel
theorem dX2_othersWetBySending_55 : decode cX2_othersWetBySending 55 = .ok (.iload 4, 2) := by decide +kernel
theorem dX2_othersWetBySending_57 : decode cX2_othersWetBySending 57 = .ok (.ireturn, 1) := by decide +kernel
theorem dX2_rank_0 : decode cX2_rank 0 = .ok (.iload_n 2, 1) := by decide +kernel
theorem dX2_rank_1 : decode cX2_rank 1 = .ok (.lookupswitch 48 #[(0, 27), (1, 37)], 27) := by decide +kernel
theorem dX2_rank_28 : decode cX2_rank 28 = .ok (.aload_n 0, 1) := by decide +kernel
theorem dX2_rank_29 : decode cX2_rank 29 = .ok (.getfield 10, 3) := by decide +kernel
theorem dX2_rank_32 : decode cX2_rank 32 = .ok (.getfield 93, 3) := by decide +kernel
theorem dX2_rank_35 : decode cX2_rank 35 = .ok (.iload_n 1, 1) := by decide +kernel
theorem dX2_rank_36 : decode cX2_rank 36 = .ok (.iaload, 1) := by decide +kernel
theorem dX2_rank_37 : decode cX2_rank 37 = .ok (.ireturn, 1) := by decide +kernel
theorem dX2_rank_38 : decode cX2_rank 38 = .ok (.aload_n 0, 1) := by decide +kernel
theorem dX2_rank_39 : decode cX2_rank 39 = .ok (.getfield 10, 3) := by decide +kernel
theorem dX2_rank_42 : decode cX2_rank 42 = .ok (.getfield 93, 3) := by decide +kernel
theorem dX2_rank_45 : decode cX2_rank 45 = .ok (.iload_n 1, 1) := by decide +kernel
theorem dX2_rank_46 : decode cX2_rank 46 = .ok (.iaload, 1) := by decide +kernel
theorem dX2_rank_47 : decode cX2_rank 47 = .ok (.ineg, 1) := by decide +kernel
theorem dX2_rank_48 : decode cX2_rank 48 = .ok (.ireturn, 1) := by decide +kernel
theorem dX2_rank_49 : decode cX2_rank 49 = .ok (.aload_n 0, 1) := by decide +kernel
theorem dX2_rank_50 : decode cX2_rank 50 = .ok (.getfield 10, 3) := by decide +kernel
theorem dX2_rank_53 : decode cX2_rank 53 = .ok (.iload_n 1, 1) := by decide +kernel
theorem dX2_rank_54 : decode cX2_rank 54 = .ok (.invokevirtual 105, 3) := by decide +kernel
theorem dX2_rank_57 : decode cX2_rank 57 = .ok (.ireturn, 1) := by decide +kernel
theorem dX2_friendsOfOthers_0 : decode cX2_friendsOfOthers 0 = .ok (.iconst 0, 1) := by decide +kernel
theorem dX2_friendsOfOthers_1 : decode cX2_friendsOfOthers 1 = .ok (.istore_n 1, 1) := by decide +kernel
theorem dX2_friendsOfOthers_2 : decode cX2_friendsOfOthers 2 = .ok (.iconst 0, 1) := by decide +kernel
theorem dX2_friendsOfOthers_3 : decode cX2_friendsOfOthers 3 = .ok (.istore_n 2, 1) := by decide +kernel
theorem dX2_friendsOfOthers_4 : decode cX2_friendsOfOthers 4 = .ok (.iload_n 2, 1) := by decide +kernel
theorem dX2_friendsOfOthers_5 : decode cX2_friendsOfOthers 5 = .ok (.aload_n 0, 1) := by decide +kernel
theorem dX2_friendsOfOthers_6 : decode cX2_friendsOfOthers 6 = .ok (.getfield 10, 3) := by decide +kernel
theorem dX2_friendsOfOthers_9 : decode cX2_friendsOfOthers 9 = .ok (.getfield 171, 3) := by decide +kernel
theorem dX2_friendsOfOthers_12 : decode cX2_friendsOfOthers 12 = .ok (.if_icmp .ge 41, 3) := by decide +kernel
theorem dX2_friendsOfOthers_15 : decode cX2_friendsOfOthers 15 = .ok (.aload_n 0, 1) := by decide +kernel
theorem dX2_friendsOfOthers_16 : decode cX2_friendsOfOthers 16 = .ok (.getfield 10, 3) := by decide +kernel
theorem dX2_friendsOfOthers_19 : decode cX2_friendsOfOthers 19 = .ok (.getfield 102, 3) := by decide +kernel
theorem dX2_friendsOfOthers_22 : decode cX2_friendsOfOthers 22 = .ok (.iload_n 2, 1) := by decide +kernel
theorem dX2_friendsOfOthers_23 : decode cX2_friendsOfOthers 23 = .ok (.iaload, 1) := by decide +kernel
theorem dX2_friendsOfOthers_24 : decode cX2_friendsOfOthers 24 = .ok (.istore_n 3, 1) := by decide +kernel
theorem dX2_friendsOfOthers_25 : decode cX2_friendsOfOthers 25 = .ok (.iload_n 3, 1) := by decide +kernel
theorem dX2_friendsOfOthers_26 : decode cX2_friendsOfOthers 26 = .ok (.iload_n 2, 1) := by decide +kernel
theorem dX2_friendsOfOthers_27 : decode cX2_friendsOfOthers 27 = .ok (.if_icmp .eq 20, 3) := by decide +kernel
theorem dX2_friendsOfOthers_30 : decode cX2_friendsOfOthers 30 = .ok (.aload_n 0, 1) := by decide +kernel
theorem dX2_friendsOfOthers_31 : decode cX2_friendsOfOthers 31 = .ok (.getfield 10, 3) := by decide +kernel
theorem dX2_friendsOfOthers_34 : decode cX2_friendsOfOthers 34 = .ok (.iload_n 3, 1) := by decide +kernel
theorem dX2_friendsOfOthers_35 : decode cX2_friendsOfOthers 35 = .ok (.invokevirtual 81, 3) := by decide +kernel
theorem dX2_friendsOfOthers_38 : decode cX2_friendsOfOthers 38 = .ok (.ifCond .eq 9, 3) := by decide +kernel
theorem dX2_friendsOfOthers_41 : decode cX2_friendsOfOthers 41 = .ok (.iload_n 1, 1) := by decide +kernel
theorem dX2_friendsOfOthers_42 : decode cX2_friendsOfOthers 42 = .ok (.iconst 1, 1) := by decide +kernel
theorem dX2_friendsOfOthers_43 : decode cX2_friendsOfOthers 43 = .ok (.iload_n 3, 1) := by decide +kernel
theorem dX2_friendsOfOthers_44 : decode cX2_friendsOfOthers 44 = .ok (.ishl, 1) := by decide +kernel
theorem dX2_friendsOfOthers_45 : decode cX2_friendsOfOthers 45 = .ok (.ior, 1) := by decide +kernel
theorem dX2_friendsOfOthers_46 : decode cX2_friendsOfOthers 46 = .ok (.istore_n 1, 1) := by decide +kernel
theorem dX2_friendsOfOthers_47 : decode cX2_friendsOfOthers 47 = .ok (.iinc 2 1, 3) := by decide +kernel
theorem dX2_friendsOfOthers_50 : decode cX2_friendsOfOthers 50 = .ok (.goto (-46), 3) := by decide +kernel
theorem dX2_friendsOfOthers_53 : decode cX2_friendsOfOthers 53 = .ok (.iload_n 1, 1) := by decide +kernel
theorem dX2_friendsOfOthers_54 : decode cX2_friendsOfOthers 54 = .ok (.ireturn, 1) := by decide +kernel
theorem dX2_mutualTwos_0 : decode cX2_mutualTwos 0 = .ok (.iconst 0, 1) := by decide +kernel
theorem dX2_mutualTwos_1 : decode cX2_mutualTwos 1 = .ok (.istore_n 1, 1) := by decide +kernel
theorem dX2_mutualTwos_2 : decode cX2_mutualTwos 2 = .ok (.iconst 0, 1) := by decide +kernel
theorem dX2_mutualTwos_3 : decode cX2_mutualTwos 3 = .ok (.istore_n 2, 1) := by decide +kernel
theorem dX2_mutualTwos_4 : decode cX2_mutualTwos 4 = .ok (.iload_n 2, 1) := by decide +kernel
theorem dX2_mutualTwos_5 : decode cX2_mutualTwos 5 = .ok (.aload_n 0, 1) := by decide +kernel
theorem dX2_mutualTwos_6 : decode cX2_mutualTwos 6 = .ok (.getfield 10, 3) := by decide +kernel
theorem dX2_mutualTwos_9 : decode cX2_mutualTwos 9 = .ok (.getfield 171, 3) := by decide +kernel
theorem dX2_mutualTwos_12 : decode cX2_mutualTwos 12 = .ok (.if_icmp .ge 51, 3) := by decide +kernel
theorem dX2_mutualTwos_15 : decode cX2_mutualTwos 15 = .ok (.aload_n 0, 1) := by decide +kernel
theorem dX2_mutualTwos_16 : decode cX2_mutualTwos 16 = .ok (.getfield 10, 3) := by decide +kernel
theorem dX2_mutualTwos_19 : decode cX2_mutualTwos 19 = .ok (.getfield 102, 3) := by decide +kernel
theorem dX2_mutualTwos_22 : decode cX2_mutualTwos 22 = .ok (.iload_n 2, 1) := by decide +kernel
theorem dX2_mutualTwos_23 : decode cX2_mutualTwos 23 = .ok (.iaload, 1) := by decide +kernel
theorem dX2_mutualTwos_24 : decode cX2_mutualTwos 24 = .ok (.istore_n 3, 1) := by decide +kernel
theorem dX2_mutualTwos_25 : decode cX2_mutualTwos 25 = .ok (.iload_n 3, 1) := by decide +kernel
theorem dX2_mutualTwos_26 : decode cX2_mutualTwos 26 = .ok (.iload_n 2, 1) := by decide +kernel
theorem dX2_mutualTwos_27 : decode cX2_mutualTwos 27 = .ok (.if_icmp .le 30, 3) := by decide +kernel
theorem dX2_mutualTwos_30 : decode cX2_mutualTwos 30 = .ok (.aload_n 0, 1) := by decide +kernel
theorem dX2_mutualTwos_31 : decode cX2_mutualTwos 31 = .ok (.getfield 10, 3) := by decide +kernel
theorem dX2_mutualTwos_34 : decode cX2_mutualTwos 34 = .ok (.iload_n 3, 1) := by decide +kernel
theorem dX2_mutualTwos_35 : decode cX2_mutualTwos 35 = .ok (.invokevirtual 81, 3) := by decide +kernel
theorem dX2_mutualTwos_38 : decode cX2_mutualTwos 38 = .ok (.ifCond .eq 19, 3) := by decide +kernel
theorem dX2_mutualTwos_41 : decode cX2_mutualTwos 41 = .ok (.aload_n 0, 1) := by decide +kernel
theorem dX2_mutualTwos_42 : decode cX2_mutualTwos 42 = .ok (.getfield 10, 3) := by decide +kernel
theorem dX2_mutualTwos_45 : decode cX2_mutualTwos 45 = .ok (.getfield 102, 3) := by decide +kernel
theorem dX2_mutualTwos_48 : decode cX2_mutualTwos 48 = .ok (.iload_n 3, 1) := by decide +kernel
theorem dX2_mutualTwos_49 : decode cX2_mutualTwos 49 = .ok (.iaload, 1) := by decide +kernel
theorem dX2_mutualTwos_50 : decode cX2_mutualTwos 50 = .ok (.iload_n 2, 1) := by decide +kernel
theorem dX2_mutualTwos_51 : decode cX2_mutualTwos 51 = .ok (.if_icmp .ne 6, 3) := by decide +kernel
theorem dX2_mutualTwos_54 : decode cX2_mutualTwos 54 = .ok (.iinc 1 1, 3) := by decide +kernel
theorem dX2_mutualTwos_57 : decode cX2_mutualTwos 57 = .ok (.iinc 2 1, 3) := by decide +kernel
theorem dX2_mutualTwos_60 : decode cX2_mutualTwos 60 = .ok (.goto (-56), 3) := by decide +kernel
theorem dX2_mutualTwos_63 : decode cX2_mutualTwos 63 = .ok (.iload_n 1, 1) := by decide +kernel
theorem dX2_mutualTwos_64 : decode cX2_mutualTwos 64 = .ok (.ireturn, 1) := by decide +kernel
theorem dX2_gain_0 : decode cX2_gain 0 = .ok (.aload_n 0, 1) := by decide +kernel
theorem dX2_gain_1 : decode cX2_gain 1 = .ok (.invokevirtual 63, 3) := by decide +kernel
theorem dX2_gain_4 : decode cX2_gain 4 = .ok (.astore 6, 2) := by decide +kernel
theorem dX2_gain_6 : decode cX2_gain 6 = .ok (.iload_n 2, 1) := by decide +kernel
theorem dX2_gain_7 : decode cX2_gain 7 = .ok (.iconst 1, 1) := by decide +kernel
theorem dX2_gain_8 : decode cX2_gain 8 = .ok (.if_icmp .ne 10, 3) := by decide +kernel
theorem dX2_gain_11 : decode cX2_gain 11 = .ok (.aload 6, 2) := by decide +kernel
theorem dX2_gain_13 : decode cX2_gain 13 = .ok (.iload_n 1, 1) := by decide +kernel
theorem dX2_gain_14 : decode cX2_gain 14 = .ok (.invokevirtual 111, 3) := by decide +kernel
theorem dX2_gain_17 : decode cX2_gain 17 = .ok (.pop, 1) := by decide +kernel
theorem dX2_gain_18 : decode cX2_gain 18 = .ok (.iload 4, 2) := by decide +kernel
theorem dX2_gain_20 : decode cX2_gain 20 = .ok (.iconst 1, 1) := by decide +kernel
theorem dX2_gain_21 : decode cX2_gain 21 = .ok (.if_icmp .ne 10, 3) := by decide +kernel
theorem dX2_gain_24 : decode cX2_gain 24 = .ok (.aload 6, 2) := by decide +kernel
theorem dX2_gain_26 : decode cX2_gain 26 = .ok (.iload_n 3, 1) := by decide +kernel
theorem dX2_gain_27 : decode cX2_gain 27 = .ok (.invokevirtual 111, 3) := by decide +kernel
theorem dX2_gain_30 : decode cX2_gain 30 = .ok (.pop, 1) := by decide +kernel
theorem dX2_gain_31 : decode cX2_gain 31 = .ok (.aload 6, 2) := by decide +kernel
theorem dX2_gain_33 : decode cX2_gain 33 = .ok (.iload 5, 2) := by decide +kernel
theorem dX2_gain_35 : decode cX2_gain 35 = .ok (.invokevirtual 138, 3) := by decide +kernel
theorem dX2_gain_38 : decode cX2_gain 38 = .ok (.aload 6, 2) := by decide +kernel
theorem dX2_gain_40 : decode cX2_gain 40 = .ok (.getfield 93, 3) := by decide +kernel
theorem dX2_gain_43 : decode cX2_gain 43 = .ok (.iload_n 1, 1) := by decide +kernel
theorem dX2_gain_44 : decode cX2_gain 44 = .ok (.iaload, 1) := by decide +kernel
theorem dX2_gain_45 : decode cX2_gain 45 = .ok (.iconst 2, 1) := by decide +kernel
theorem dX2_gain_46 : decode cX2_gain 46 = .ok (.iload_n 2, 1) := by decide +kernel
theorem dX2_gain_47 : decode cX2_gain 47 = .ok (.imul, 1) := by decide +kernel
theorem dX2_gain_48 : decode cX2_gain 48 = .ok (.iadd, 1) := by decide +kernel
theorem dX2_gain_49 : decode cX2_gain 49 = .ok (.ireturn, 1) := by decide +kernel
theorem dX2_hasBehindSneezes_0 : decode cX2_hasBehindSneezes 0 = .ok (.aload_n 0, 1) := by decide +kernel
theorem dX2_hasBehindSneezes_1 : decode cX2_hasBehindSneezes 1 = .ok (.invokevirtual 63, 3) := by decide +kernel
theorem dX2_hasBehindSneezes_4 : decode cX2_hasBehindSneezes 4 = .ok (.astore 4, 2) := by decide +kernel
theorem dX2_hasBehindSneezes_6 : decode cX2_hasBehindSneezes 6 = .ok (.iconst 0, 1) := by decide +kernel
theorem dX2_hasBehindSneezes_7 : decode cX2_hasBehindSneezes 7 = .ok (.istore 5, 2) := by decide +kernel
theorem dX2_hasBehindSneezes_9 : decode cX2_hasBehindSneezes 9 = .ok (.iload 5, 2) := by decide +kernel
theorem dX2_hasBehindSneezes_11 : decode cX2_hasBehindSneezes 11 = .ok (.iload_n 2, 1) := by decide +kernel
theorem dX2_hasBehindSneezes_12 : decode cX2_hasBehindSneezes 12 = .ok (.if_icmp .ge 43, 3) := by decide +kernel
theorem dX2_hasBehindSneezes_15 : decode cX2_hasBehindSneezes 15 = .ok (.iload_n 3, 1) := by decide +kernel
theorem dX2_hasBehindSneezes_16 : decode cX2_hasBehindSneezes 16 = .ok (.iload 5, 2) := by decide +kernel
theorem dX2_hasBehindSneezes_18 : decode cX2_hasBehindSneezes 18 = .ok (.ishr, 1) := by decide +kernel
theorem dX2_hasBehindSneezes_19 : decode cX2_hasBehindSneezes 19 = .ok (.iconst 1, 1) := by decide +kernel
theorem dX2_hasBehindSneezes_20 : decode cX2_hasBehindSneezes 20 = .ok (.iand, 1) := by decide +kernel
theorem dX2_hasBehindSneezes_21 : decode cX2_hasBehindSneezes 21 = .ok (.iconst 1, 1) := by decide +kernel
theorem dX2_hasBehindSneezes_22 : decode cX2_hasBehindSneezes 22 = .ok (.if_icmp .ne 7, 3) := by decide +kernel
theorem dX2_hasBehindSneezes_25 : decode cX2_hasBehindSneezes 25 = .ok (.iconst 1, 1) := by decide +kernel
theorem dX2_hasBehindSneezes_26 : decode cX2_hasBehindSneezes 26 = .ok (.goto 4, 3) := by decide +kernel
theorem dX2_hasBehindSneezes_29 : decode cX2_hasBehindSneezes 29 = .ok (.iconst 0, 1) := by decide +kernel
theorem dX2_hasBehindSneezes_30 : decode cX2_hasBehindSneezes 30 = .ok (.istore 6, 2) := by decide +kernel
theorem dX2_hasBehindSneezes_32 : decode cX2_hasBehindSneezes 32 = .ok (.aload 4, 2) := by decide +kernel
theorem dX2_hasBehindSneezes_34 : decode cX2_hasBehindSneezes 34 = .ok (.iload 6, 2) := by decide +kernel
theorem dX2_hasBehindSneezes_36 : decode cX2_hasBehindSneezes 36 = .ok (.ifCond .eq 9, 3) := by decide +kernel
theorem dX2_hasBehindSneezes_39 : decode cX2_hasBehindSneezes 39 = .ok (.iconst 1, 1) := by decide +kernel
theorem dX2_hasBehindSneezes_40 : decode cX2_hasBehindSneezes 40 = .ok (.iload_n 1, 1) := by decide +kernel
theorem dX2_hasBehindSneezes_41 : decode cX2_hasBehindSneezes 41 = .ok (.ishl, 1) := by decide +kernel
theorem dX2_hasBehindSneezes_42 : decode cX2_hasBehindSneezes 42 = .ok (.goto 4, 3) := by decide +kernel
theorem dX2_hasBehindSneezes_45 : decode cX2_hasBehindSneezes 45 = .ok (.iconst 0, 1) := by decide +kernel
theorem dX2_hasBehindSneezes_46 : decode cX2_hasBehindSneezes 46 = .ok (.invokevirtual 159, 3) := by decide +kernel
theorem dX2_hasBehindSneezes_49 : decode cX2_hasBehindSneezes 49 = .ok (.iinc 5 1, 3) := by decide +kernel
theorem dX2_hasBehindSneezes_52 : decode cX2_hasBehindSneezes 52 = .ok (.goto (-43), 3) := by decide +kernel
theorem dX2_hasBehindSneezes_55 : decode cX2_hasBehindSneezes 55 = .ok (.aload 4, 2) := by decide +kernel
theorem dX2_hasBehindSneezes_57 : decode cX2_hasBehindSneezes 57 = .ok (.getfield 93, 3) := by decide +kernel
theorem dX2_hasBehindSneezes_60 : decode cX2_hasBehindSneezes 60 = .ok (.iload_n 1, 1) := by decide +kernel
theorem dX2_hasBehindSneezes_61 : decode cX2_hasBehindSneezes 61 = .ok (.iaload, 1) := by decide +kernel
theorem dX2_hasBehindSneezes_62 : decode cX2_hasBehindSneezes 62 = .ok (.ireturn, 1) := by decide +kernel
theorem dX2_power_0 : decode cX2_power 0 = .ok (.lconst 1, 1) := by decide +kernel
theorem dX2_power_1 : decode cX2_power 1 = .ok (.lstore_n 2, 1) := by decide +kernel
theorem dX2_power_2 : decode cX2_power 2 = .ok (.iconst 0, 1) := by decide +kernel
theorem dX2_power_3 : decode cX2_power 3 = .ok (.istore 4, 2) := by decide +kernel
theorem dX2_power_5 : decode cX2_power 5 = .ok (.iload 4, 2) := by decide +kernel
theorem dX2_power_7 : decode cX2_power 7 = .ok (.iload_n 1, 1) := by decide +kernel
theorem dX2_power_8 : decode cX2_power 8 = .ok (.if_icmp .ge 14, 3) := by decide +kernel
theorem dX2_power_11 : decode cX2_power 11 = .ok (.lload_n 2, 1) := by decide +kernel
theorem dX2_power_12 : decode cX2_power 12 = .ok (.iload_n 0, 1) := by decide +kernel
theorem dX2_power_13 : decode cX2_power 13 = .ok (.i2l, 1) := by decide +kernel
theorem dX2_power_14 : decode cX2_power 14 = .ok (.lmul, 1) := by decide +kernel
theorem dX2_power_15 : decode cX2_power 15 = .ok (.lstore_n 2, 1) := by decide +kernel
theorem dX2_power_16 : decode cX2_power 16 = .ok (.iinc 4 1, 3) := by decide +kernel
theorem dX2_power_19 : decode cX2_power 19 = .ok (.goto (-14), 3) := by decide +kernel
theorem dX2_power_22 : decode cX2_power 22 = .ok (.lload_n 2, 1) := by decide +kernel
theorem dX2_power_23 : decode cX2_power 23 = .ok (.lreturn, 1) := by decide +kernel
theorem dX2_partOfFraction_0 : decode cX2_partOfFraction 0 = .ok (.lload_n 0, 1) := by decide +kernel
theorem dX2_partOfFraction_1 : decode cX2_partOfFraction 1 = .ok (.lload_n 2, 1) := by decide +kernel
theorem dX2_partOfFraction_2 : decode cX2_partOfFraction 2 = .ok (.invokestatic 246, 3) := by decide +kernel
theorem dX2_partOfFraction_5 : decode cX2_partOfFraction 5 = .ok (.lstore 5, 2) := by decide +kernel
theorem dX2_partOfFraction_7 : decode cX2_partOfFraction 7 = .ok (.iload 4, 2) := by decide +kernel
theorem dX2_partOfFraction_9 : decode cX2_partOfFraction 9 = .ok (.ifCond .ne 7, 3) := by decide +kernel
theorem dX2_partOfFraction_12 : decode cX2_partOfFraction 12 = .ok (.lload_n 0, 1) := by decide +kernel
theorem dX2_partOfFraction_13 : decode cX2_partOfFraction 13 = .ok (.goto 4, 3) := by decide +kernel
theorem dX2_partOfFraction_16 : decode cX2_partOfFraction 16 = .ok (.lload_n 2, 1) := by decide +kernel
theorem dX2_partOfFraction_17 : decode cX2_partOfFraction 17 = .ok (.lstore 7, 2) := by decide +kernel
theorem dX2_partOfFraction_19 : decode cX2_partOfFraction 19 = .ok (.lload 5, 2) := by decide +kernel
theorem dX2_partOfFraction_21 : decode cX2_partOfFraction 21 = .ok (.lconst 0, 1) := by decide +kernel
theorem dX2_partOfFraction_22 : decode cX2_partOfFraction 22 = .ok (.lcmp, 1) := by decide +kernel
theorem dX2_partOfFraction_23 : decode cX2_partOfFraction 23 = .ok (.ifCond .gt 8, 3) := by decide +kernel
theorem dX2_partOfFraction_26 : decode cX2_partOfFraction 26 = .ok (.lload 7, 2) := by decide +kernel
theorem dX2_partOfFraction_28 : decode cX2_partOfFraction 28 = .ok (.goto 8, 3) := by decide +kernel
theorem dX2_partOfFraction_31 : decode cX2_partOfFraction 31 = .ok (.lload 7, 2) := by decide +kernel
theorem dX2_partOfFraction_33 : decode cX2_partOfFraction 33 = .ok (.lload 5, 2) := by decide +kernel
theorem dX2_partOfFraction_35 : decode cX2_partOfFraction 35 = .ok (.ldiv, 1) := by decide +kernel
theorem dX2_partOfFraction_36 : decode cX2_partOfFraction 36 = .ok (.lreturn, 1) := by decide +kernel
theorem dX2_greatestDivisor_0 : decode cX2_greatestDivisor 0 = .ok (.lload_n 0, 1) := by decide +kernel
theorem dX2_greatestDivisor_1 : decode cX2_greatestDivisor 1 = .ok (.lstore 4, 2) := by decide +kernel
theorem dX2_greatestDivisor_3 : decode cX2_greatestDivisor 3 = .ok (.lload_n 2, 1) := by decide +kernel
theorem dX2_greatestDivisor_4 : decode cX2_greatestDivisor 4 = .ok (.lstore 6, 2) := by decide +kernel
theorem dX2_greatestDivisor_6 : decode cX2_greatestDivisor 6 = .ok (.iconst 0, 1) := by decide +kernel
theorem dX2_greatestDivisor_7 : decode cX2_greatestDivisor 7 = .ok (.istore 8, 2) := by decide +kernel
theorem dX2_greatestDivisor_9 : decode cX2_greatestDivisor 9 = .ok (.iload 8, 2) := by decide +kernel
theorem dX2_greatestDivisor_11 : decode cX2_greatestDivisor 11 = .ok (.bipush 100, 2) := by decide +kernel
theorem dX2_greatestDivisor_13 : decode cX2_greatestDivisor 13 = .ok (.if_icmp .ge 31, 3) := by decide +kernel
theorem dX2_greatestDivisor_16 : decode cX2_greatestDivisor 16 = .ok (.lload 6, 2) := by decide +kernel
theorem dX2_greatestDivisor_18 : decode cX2_greatestDivisor 18 = .ok (.lconst 0, 1) := by decide +kernel
theorem dX2_greatestDivisor_19 : decode cX2_greatestDivisor 19 = .ok (.lcmp, 1) := by decide +kernel
theorem dX2_greatestDivisor_20 : decode cX2_greatestDivisor 20 = .ok (.ifCond .eq 24, 3) := by decide +kernel
theorem dX2_greatestDivisor_23 : decode cX2_greatestDivisor 23 = .ok (.lload 4, 2) := by decide +kernel
theorem dX2_greatestDivisor_25 : decode cX2_greatestDivisor 25 = .ok (.lload 6, 2) := by decide +kernel
theorem dX2_greatestDivisor_27 : decode cX2_greatestDivisor 27 = .ok (.lrem, 1) := by decide +kernel
theorem dX2_greatestDivisor_28 : decode cX2_greatestDivisor 28 = .ok (.lstore 9, 2) := by decide +kernel
theorem dX2_greatestDivisor_30 : decode cX2_greatestDivisor 30 = .ok (.lload 6, 2) := by decide +kernel
theorem dX2_greatestDivisor_32 : decode cX2_greatestDivisor 32 = .ok (.lstore 4, 2) := by decide +kernel
theorem dX2_greatestDivisor_34 : decode cX2_greatestDivisor 34 = .ok (.lload 9, 2) := by decide +kernel
theorem dX2_greatestDivisor_36 : decode cX2_greatestDivisor 36 = .ok (.lstore 6, 2) := by decide +kernel
theorem dX2_greatestDivisor_38 : decode cX2_greatestDivisor 38 = .ok (.iinc 8 1, 3) := by decide +kernel
theorem dX2_greatestDivisor_41 : decode cX2_greatestDivisor 41 = .ok (.goto (-32), 3) := by decide +kernel
theorem dX2_greatestDivisor_44 : decode cX2_greatestDivisor 44 = .ok (.lload 4, 2) := by decide +kernel
theorem dX2_greatestDivisor_46 : decode cX2_greatestDivisor 46 = .ok (.lreturn, 1) := by decide +kernel
theorem dX2_kindsByRow_0 : decode cX2_kindsByRow 0 = .ok (.iconst 0, 1) := by decide +kernel
theorem dX2_kindsByRow_1 : decode cX2_kindsByRow 1 = .ok (.istore_n 2, 1) := by decide +kernel
theorem dX2_kindsByRow_2 : decode cX2_kindsByRow 2 = .ok (.iconst 0, 1) := by decide +kernel
theorem dX2_kindsByRow_3 : decode cX2_kindsByRow 3 = .ok (.istore_n 3, 1) := by decide +kernel
theorem dX2_kindsByRow_4 : decode cX2_kindsByRow 4 = .ok (.iload_n 3, 1) := by decide +kernel
theorem dX2_kindsByRow_5 : decode cX2_kindsByRow 5 = .ok (.bipush 6, 2) := by decide +kernel
theorem dX2_kindsByRow_7 : decode cX2_kindsByRow 7 = .ok (.if_icmp .ge 39, 3) := by decide +kernel
theorem dX2_kindsByRow_10 : decode cX2_kindsByRow 10 = .ok (.aload_n 0, 1) := by decide +kernel
theorem dX2_kindsByRow_11 : decode cX2_kindsByRow 11 = .ok (.invokevirtual 63, 3) := by decide +kernel
theorem dX2_kindsByRow_14 : decode cX2_kindsByRow 14 = .ok (.astore 4, 2) := by decide +kernel
theorem dX2_kindsByRow_16 : decode cX2_kindsByRow 16 = .ok (.aload 4, 2) := by decide +kernel
theorem dX2_kindsByRow_18 : decode cX2_kindsByRow 18 = .ok (.getfield 84, 3) := by decide +kernel
theorem dX2_kindsByRow_21 : decode cX2_kindsByRow 21 = .ok (.iload_n 1, 1) := by decide +kernel
theorem dX2_kindsByRow_22 : decode cX2_kindsByRow 22 = .ok (.iload_n 3, 1) := by decide +kernel
theorem dX2_kindsByRow_23 : decode cX2_kindsByRow 23 = .ok (.iastore, 1) := by decide +kernel
theorem dX2_kindsByRow_24 : decode cX2_kindsByRow 24 = .ok (.aload_n 0, 1) := by decide +kernel
theorem dX2_kindsByRow_25 : decode cX2_kindsByRow 25 = .ok (.aload 4, 2) := by decide +kernel
theorem dX2_kindsByRow_27 : decode cX2_kindsByRow 27 = .ok (.iload_n 1, 1) := by decide +kernel
theorem dX2_kindsByRow_28 : decode cX2_kindsByRow 28 = .ok (.invokevirtual 250, 3) := by decide +kernel
theorem dX2_kindsByRow_31 : decode cX2_kindsByRow 31 = .ok (.ifCond .eq 9, 3) := by decide +kernel
theorem dX2_kindsByRow_34 : decode cX2_kindsByRow 34 = .ok (.iload_n 2, 1) := by decide +kernel
theorem dX2_kindsByRow_35 : decode cX2_kindsByRow 35 = .ok (.iconst 1, 1) := by decide +kernel
theorem dX2_kindsByRow_36 : decode cX2_kindsByRow 36 = .ok (.iload_n 3, 1) := by decide +kernel
theorem dX2_kindsByRow_37 : decode cX2_kindsByRow 37 = .ok (.ishl, 1) := by decide +kernel
theorem dX2_kindsByRow_38 : decode cX2_kindsByRow 38 = .ok (.ior, 1) := by decide +kernel
theorem dX2_kindsByRow_39 : decode cX2_kindsByRow 39 = .ok (.istore_n 2, 1) := by decide +kernel
theorem dX2_kindsByRow_40 : decode cX2_kindsByRow 40 = .ok (.iinc 3 1, 3) := by decide +kernel
theorem dX2_kindsByRow_43 : decode cX2_kindsByRow 43 = .ok (.goto (-39), 3) := by decide +kernel
theorem dX2_kindsByRow_46 : decode cX2_kindsByRow 46 = .ok (.iload_n 2, 1) := by decide +kernel
theorem dX2_kindsByRow_47 : decode cX2_kindsByRow 47 = .ok (.ireturn, 1) := by decide +kernel
theorem dX2_figuresByRow_0 : decode cX2_figuresByRow 0 = .ok (.iconst 0, 1) := by decide +kernel
theorem dX2_figuresByRow_1 : decode cX2_figuresByRow 1 = .ok (.istore_n 2, 1) := by decide +kernel
theorem dX2_figuresByRow_2 : decode cX2_figuresByRow 2 = .ok (.iconst 0, 1) := by decide +kernel
theorem dX2_figuresByRow_3 : decode cX2_figuresByRow 3 = .ok (.istore_n 3, 1) := by decide +kernel
theorem dX2_figuresByRow_4 : decode cX2_figuresByRow 4 = .ok (.iload_n 3, 1) := by decide +kernel
theorem dX2_figuresByRow_5 : decode cX2_figuresByRow 5 = .ok (.bipush 9, 2) := by decide +kernel
theorem dX2_figuresByRow_7 : decode cX2_figuresByRow 7 = .ok (.if_icmp .gt 39, 3) := by decide +kernel
theorem dX2_figuresByRow_10 : decode cX2_figuresByRow 10 = .ok (.aload_n 0, 1) := by decide +kernel
theorem dX2_figuresByRow_11 : decode cX2_figuresByRow 11 = .ok (.invokevirtual 63, 3) := by decide +kernel
theorem dX2_figuresByRow_14 : decode cX2_figuresByRow 14 = .ok (.astore 4, 2) := by decide +kernel
theorem dX2_figuresByRow_16 : decode cX2_figuresByRow 16 = .ok (.aload 4, 2) := by decide +kernel
theorem dX2_figuresByRow_18 : decode cX2_figuresByRow 18 = .ok (.getfield 87, 3) := by decide +kernel
theorem dX2_figuresByRow_21 : decode cX2_figuresByRow 21 = .ok (.iload_n 1, 1) := by decide +kernel
theorem dX2_figuresByRow_22 : decode cX2_figuresByRow 22 = .ok (.iload_n 3, 1) := by decide +kernel
theorem dX2_figuresByRow_23 : decode cX2_figuresByRow 23 = .ok (.iastore, 1) := by decide +kernel
theorem dX2_figuresByRow_24 : decode cX2_figuresByRow 24 = .ok (.aload_n 0, 1) := by decide +kernel
theorem dX2_figuresByRow_25 : decode cX2_figuresByRow 25 = .ok (.aload 4, 2) := by decide +kernel
theorem dX2_figuresByRow_27 : decode cX2_figuresByRow 27 = .ok (.iload_n 1, 1) := by decide +kernel
theorem dX2_figuresByRow_28 : decode cX2_figuresByRow 28 = .ok (.invokevirtual 250, 3) := by decide +kernel
theorem dX2_figuresByRow_31 : decode cX2_figuresByRow 31 = .ok (.ifCond .eq 9, 3) := by decide +kernel
theorem dX2_figuresByRow_34 : decode cX2_figuresByRow 34 = .ok (.iload_n 2, 1) := by decide +kernel
theorem dX2_figuresByRow_35 : decode cX2_figuresByRow 35 = .ok (.iconst 1, 1) := by decide +kernel
theorem dX2_figuresByRow_36 : decode cX2_figuresByRow 36 = .ok (.iload_n 3, 1) := by decide +kernel
theorem dX2_figuresByRow_37 : decode cX2_figuresByRow 37 = .ok (.ishl, 1) := by decide +kernel
theorem dX2_figuresByRow_38 : decode cX2_figuresByRow 38 = .ok (.ior, 1) := by decide +kernel
theorem dX2_figuresByRow_39 : decode cX2_figuresByRow 39 = .ok (.istore_n 2, 1) := by decide +kernel
theorem dX2_figuresByRow_40 : decode cX2_figuresByRow 40 = .ok (.iinc 3 1, 3) := by decide +kernel
theorem dX2_figuresByRow_43 : decode cX2_figuresByRow 43 = .ok (.goto (-39), 3) := by decide +kernel
theorem dX2_figuresByRow_46 : decode cX2_figuresByRow 46 = .ok (.iload_n 2, 1) := by decide +kernel
theorem dX2_figuresByRow_47 : decode cX2_figuresByRow 47 = .ok (.ireturn, 1) := by decide +kernel
theorem dX2_goesAsRow_0 : decode cX2_goesAsRow 0 = .ok (.iconst 0, 1) := by decide +kernel
theorem dX2_goesAsRow_1 : decode cX2_goesAsRow 1 = .ok (.istore_n 3, 1) := by decide +kernel
theorem dX2_goesAsRow_2 : decode cX2_goesAsRow 2 = .ok (.iload_n 3, 1) := by decide +kernel
theorem dX2_goesAsRow_3 : decode cX2_goesAsRow 3 = .ok (.aload_n 0, 1) := by decide +kernel
theorem dX2_goesAsRow_4 : decode cX2_goesAsRow 4 = .ok (.getfield 36, 3) := by decide +kernel
theorem dX2_goesAsRow_7 : decode cX2_goesAsRow 7 = .ok (.if_icmp .ge 31, 3) := by decide +kernel
theorem dX2_goesAsRow_10 : decode cX2_goesAsRow 10 = .ok (.aload_n 1, 1) := by decide +kernel
theorem dX2_goesAsRow_11 : decode cX2_goesAsRow 11 = .ok (.getfield 93, 3) := by decide +kernel
theorem dX2_goesAsRow_14 : decode cX2_goesAsRow 14 = .ok (.iload_n 2, 1) := by decide +kernel
theorem dX2_goesAsRow_15 : decode cX2_goesAsRow 15 = .ok (.iaload, 1) := by decide +kernel
theorem dX2_goesAsRow_16 : decode cX2_goesAsRow 16 = .ok (.aload_n 0, 1) := by decide +kernel
theorem dX2_goesAsRow_17 : decode cX2_goesAsRow 17 = .ok (.getfield 29, 3) := by decide +kernel
theorem dX2_goesAsRow_20 : decode cX2_goesAsRow 20 = .ok (.iload_n 3, 1) := by decide +kernel
theorem dX2_goesAsRow_21 : decode cX2_goesAsRow 21 = .ok (.iaload, 1) := by decide +kernel
theorem dX2_goesAsRow_22 : decode cX2_goesAsRow 22 = .ok (.if_icmp .eq 5, 3) := by decide +kernel
theorem dX2_goesAsRow_25 : decode cX2_goesAsRow 25 = .ok (.iconst 0, 1) := by decide +kernel
theorem dX2_goesAsRow_26 : decode cX2_goesAsRow 26 = .ok (.ireturn, 1) := by decide +kernel
theorem dX2_goesAsRow_27 : decode cX2_goesAsRow 27 = .ok (.aload_n 1, 1) := by decide +kernel
theorem dX2_goesAsRow_28 : decode cX2_goesAsRow 28 = .ok (.iconst 0, 1) := by decide +kernel
theorem dX2_goesAsRow_29 : decode cX2_goesAsRow 29 = .ok (.invokevirtual 159, 3) := by decide +kernel
theorem dX2_goesAsRow_32 : decode cX2_goesAsRow 32 = .ok (.iinc 3 1, 3) := by decide +kernel
theorem dX2_goesAsRow_35 : decode cX2_goesAsRow 35 = .ok (.goto (-33), 3) := by decide +kernel
theorem dX2_goesAsRow_38 : decode cX2_goesAsRow 38 = .ok (.iconst 1, 1) := by decide +kernel
theorem dX2_goesAsRow_39 : decode cX2_goesAsRow 39 = .ok (.ireturn, 1) := by decide +kernel
theorem dX2_nextSeed_0 : decode cX2_nextSeed 0 = .ok (.iload_n 0, 1) := by decide +kernel
theorem dX2_nextSeed_1 : decode cX2_nextSeed 1 = .ok (.ldc 254, 2) := by decide +kernel
theorem dX2_nextSeed_3 : decode cX2_nextSeed 3 = .ok (.imul, 1) := by decide +kernel
theorem dX2_nextSeed_4 : decode cX2_nextSeed 4 = .ok (.ldc 255, 2) := by decide +kernel
theorem dX2_nextSeed_6 : decode cX2_nextSeed 6 = .ok (.iadd, 1) := by decide +kernel
theorem dX2_nextSeed_7 : decode cX2_nextSeed 7 = .ok (.ireturn, 1) := by decide +kernel
theorem dX2_lotBelow_0 : decode cX2_lotBelow 0 = .ok (.iload_n 1, 1) := by decide +kernel
theorem dX2_lotBelow_1 : decode cX2_lotBelow 1 = .ok (.ifCond .gt 7, 3) := by decide +kernel
theorem dX2_lotBelow_4 : decode cX2_lotBelow 4 = .ok (.iconst 0, 1) := by decide +kernel
theorem dX2_lotBelow_5 : decode cX2_lotBelow 5 = .ok (.goto 14, 3) := by decide +kernel
theorem dX2_lotBelow_8 : decode cX2_lotBelow 8 = .ok (.iload_n 0, 1) := by decide +kernel
theorem dX2_lotBelow_9 : decode cX2_lotBelow 9 = .ok (.ldc_w 256, 3) := by decide +kernel
theorem dX2_lotBelow_12 : decode cX2_lotBelow 12 = .ok (.iand, 1) := by decide +kernel
theorem dX2_lotBelow_13 : decode cX2_lotBelow 13 = .ok (.sipush 256, 3) := by decide +kernel
theorem dX2_lotBelow_16 : decode cX2_lotBelow 16 = .ok (.idiv, 1) := by decide +kernel
theorem dX2_lotBelow_17 : decode cX2_lotBelow 17 = .ok (.iload_n 1, 1) := by decide +kernel
theorem dX2_lotBelow_18 : decode cX2_lotBelow 18 = .ok (.irem, 1) := by decide +kernel
theorem dX2_lotBelow_19 : decode cX2_lotBelow 19 = .ok (.ireturn, 1) := by decide +kernel
theorem dX3_init_0 : decode cX3_init 0 = .ok (.aload_n 0, 1) := by decide +kernel
theorem dX3_init_1 : decode cX3_init 1 = .ok (.invokespecial 1, 3) := by decide +kernel
theorem dX3_init_4 : decode cX3_init 4 = .ok (.aload_n 0, 1) := by decide +kernel
theorem dX3_init_5 : decode cX3_init 5 = .ok (.bipush 47, 2) := by decide +kernel
theorem dX3_init_7 : decode cX3_init 7 = .ok (.newarray .int, 2) := by decide +kernel
theorem dX3_init_9 : decode cX3_init 9 = .ok (.putfield 9, 3) := by decide +kernel
theorem dX3_init_12 : decode cX3_init 12 = .ok (.aload_n 0, 1) := by decide +kernel
theorem dX3_init_13 : decode cX3_init 13 = .ok (.bipush 47, 2) := by decide +kernel
theorem dX3_init_15 : decode cX3_init 15 = .ok (.newarray .int, 2) := by decide +kernel
theorem dX3_init_17 : decode cX3_init 17 = .ok (.putfield 13, 3) := by decide +kernel
theorem dX3_init_20 : decode cX3_init 20 = .ok (.aload_n 0, 1) := by decide +kernel
theorem dX3_init_21 : decode cX3_init 21 = .ok (.bipush 47, 2) := by decide +kernel
theorem dX3_init_23 : decode cX3_init 23 = .ok (.newarray .int, 2) := by decide +kernel
theorem dX3_init_25 : decode cX3_init 25 = .ok (.putfield 16, 3) := by decide +kernel
theorem dX3_init_28 : decode cX3_init 28 = .ok (.aload_n 0, 1) := by decide +kernel
theorem dX3_init_29 : decode cX3_init 29 = .ok (.bipush 47, 2) := by decide +kernel
theorem dX3_init_31 : decode cX3_init 31 = .ok (.newarray .int, 2) := by decide +kernel
theorem dX3_init_33 : decode cX3_init 33 = .ok (.putfield 19, 3) := by decide +kernel
theorem dX3_init_36 : decode cX3_init 36 = .ok (.aload_n 0, 1) := by decide +kernel
theorem dX3_init_37 : decode cX3_init 37 = .ok (.bipush 96, 2) := by decide +kernel
theorem dX3_init_39 : decode cX3_init 39 = .ok (.newarray .int, 2) := by decide +kernel
theorem dX3_init_41 : decode cX3_init 41 = .ok (.putfield 22, 3) := by decide +kernel
theorem dX3_init_44 : decode cX3_init 44 = .ok (.aload_n 0, 1) := by decide +kernel
theorem dX3_init_45 : decode cX3_init 45 = .ok (.bipush 16, 2) := by decide +kernel
theorem dX3_init_47 : decode cX3_init 47 = .ok (.newarray .int, 2) := by decide +kernel
theorem dX3_init_49 : decode cX3_init 49 = .ok (.putfield 25, 3) := by decide +kernel
theorem dX3_init_52 : decode cX3_init 52 = .ok (.aload_n 0, 1) := by decide +kernel
theorem dX3_init_53 : decode cX3_init 53 = .ok (.bipush 7, 2) := by decide +kernel
theorem dX3_init_55 : decode cX3_init 55 = .ok (.newarray .int, 2) := by decide +kernel
theorem dX3_init_57 : decode cX3_init 57 = .ok (.putfield 28, 3) := by decide +kernel
theorem dX3_init_60 : decode cX3_init 60 = .ok (.aload_n 0, 1) := by decide +kernel
theorem dX3_init_61 : decode cX3_init 61 = .ok (.iconst 3, 1) := by decide +kernel
theorem dX3_init_62 : decode cX3_init 62 = .ok (.newarray .int, 2) := by decide +kernel
theorem dX3_init_64 : decode cX3_init 64 = .ok (.putfield 31, 3) := by decide +kernel
theorem dX3_init_67 : decode cX3_init 67 = .ok (.aload_n 0, 1) := by decide +kernel
theorem dX3_init_68 : decode cX3_init 68 = .ok (.getfield 9, 3) := by decide +kernel
theorem dX3_init_71 : decode cX3_init 71 = .ok (.iconst 2, 1) := by decide +kernel
theorem dX3_init_72 : decode cX3_init 72 = .ok (.bipush 20, 2) := by decide +kernel
theorem dX3_init_74 : decode cX3_init 74 = .ok (.iastore, 1) := by decide +kernel
theorem dX3_init_75 : decode cX3_init 75 = .ok (.aload_n 0, 1) := by decide +kernel
theorem dX3_init_76 : decode cX3_init 76 = .ok (.getfield 9, 3) := by decide +kernel
theorem dX3_init_79 : decode cX3_init 79 = .ok (.iconst 3, 1) := by decide +kernel
theorem dX3_init_80 : decode cX3_init 80 = .ok (.bipush 10, 2) := by decide +kernel
theorem dX3_init_82 : decode cX3_init 82 = .ok (.iastore, 1) := by decide +kernel
theorem dX3_init_83 : decode cX3_init 83 = .ok (.return_, 1) := by decide +kernel
theorem dX3_isIn_0 : decode cX3_isIn 0 = .ok (.iload_n 0, 1) := by decide +kernel
theorem dX3_isIn_1 : decode cX3_isIn 1 = .ok (.iload_n 1, 1) := by decide +kernel
theorem dX3_isIn_2 : decode cX3_isIn 2 = .ok (.if_icmp .lt 12, 3) := by decide +kernel
theorem dX3_isIn_5 : decode cX3_isIn 5 = .ok (.iload_n 0, 1) := by decide +kernel
theorem dX3_isIn_6 : decode cX3_isIn 6 = .ok (.iload_n 2, 1) := by decide +kernel
theorem dX3_isIn_7 : decode cX3_isIn 7 = .ok (.if_icmp .gt 7, 3) := by decide +kernel
theorem dX3_isIn_10 : decode cX3_isIn 10 = .ok (.iconst 1, 1) := by decide +kernel
theorem dX3_isIn_11 : decode cX3_isIn 11 = .ok (.goto 4, 3) := by decide +kernel
theorem dX3_isIn_14 : decode cX3_isIn 14 = .ok (.iconst 0, 1) := by decide +kernel
theorem dX3_isIn_15 : decode cX3_isIn 15 = .ok (.ireturn, 1) := by decide +kernel
theorem dX3_least_0 : decode cX3_least 0 = .ok (.iload_n 0, 1) := by decide +kernel
theorem dX3_least_1 : decode cX3_least 1 = .ok (.iload_n 1, 1) := by decide +kernel
theorem dX3_least_2 : decode cX3_least 2 = .ok (.if_icmp .ge 7, 3) := by decide +kernel
theorem dX3_least_5 : decode cX3_least 5 = .ok (.iload_n 0, 1) := by decide +kernel
theorem dX3_least_6 : decode cX3_least 6 = .ok (.goto 4, 3) := by decide +kernel
theorem dX3_least_9 : decode cX3_least 9 = .ok (.iload_n 1, 1) := by decide +kernel
theorem dX3_least_10 : decode cX3_least 10 = .ok (.ireturn, 1) := by decide +kernel
theorem dX3_copies_0 : decode cX3_copies 0 = .ok (.iconst 0, 1) := by decide +kernel
theorem dX3_copies_1 : decode cX3_copies 1 = .ok (.istore_n 2, 1) := by decide +kernel
theorem dX3_copies_2 : decode cX3_copies 2 = .ok (.iload_n 2, 1) := by decide +kernel
theorem dX3_copies_3 : decode cX3_copies 3 = .ok (.bipush 47, 2) := by decide +kernel
theorem dX3_copies_5 : decode cX3_copies 5 = .ok (.if_icmp .ge 15, 3) := by decide +kernel
theorem dX3_copies_8 : decode cX3_copies 8 = .ok (.aload_n 1, 1) := by decide +kernel
theorem dX3_copies_9 : decode cX3_copies 9 = .ok (.iload_n 2, 1) := by decide +kernel
theorem dX3_copies_10 : decode cX3_copies 10 = .ok (.aload_n 0, 1) := by decide +kernel
theorem dX3_copies_11 : decode cX3_copies 11 = .ok (.iload_n 2, 1) := by decide +kernel
theorem dX3_copies_12 : decode cX3_copies 12 = .ok (.iaload, 1) := by decide +kernel
theorem dX3_copies_13 : decode cX3_copies 13 = .ok (.iastore, 1) := by decide +kernel
theorem dX3_copies_14 : decode cX3_copies 14 = .ok (.iinc 2 1, 3) := by decide +kernel
theorem dX3_copies_17 : decode cX3_copies 17 = .ok (.goto (-15), 3) := by decide +kernel
theorem dX3_copies_20 : decode cX3_copies 20 = .ok (.return_, 1) := by decide +kernel
theorem dX3_no_0 : decode cX3_no 0 = .ok (.aload_n 0, 1) := by decide +kernel
theorem dX3_no_1 : decode cX3_no 1 = .ok (.getfield 28, 3) := by decide +kernel
theorem dX3_no_4 : decode cX3_no 4 = .ok (.iload_n 1, 1) := by decide +kernel
theorem dX3_no_5 : decode cX3_no 5 = .ok (.ineg, 1) := by decide +kernel
theorem dX3_no_6 : decode cX3_no 6 = .ok (.dup2, 1) := by decide +kernel
theorem dX3_no_7 : decode cX3_no 7 = .ok (.iaload, 1) := by decide +kernel
theorem dX3_no_8 : decode cX3_no 8 = .ok (.iconst 1, 1) := by decide +kernel
theorem dX3_no_9 : decode cX3_no 9 = .ok (.iadd, 1) := by decide +kernel
theorem dX3_no_10 : decode cX3_no 10 = .ok (.iastore, 1) := by decide +kernel
theorem dX3_no_11 : decode cX3_no 11 = .ok (.iload_n 1, 1) := by decide +kernel
theorem dX3_no_12 : decode cX3_no 12 = .ok (.ireturn, 1) := by decide +kernel
theorem dX3_noWide_0 : decode cX3_noWide 0 = .ok (.ldc2_w 34, 3) := by decide +kernel
theorem dX3_noWide_3 : decode cX3_noWide 3 = .ok (.aload_n 0, 1) := by decide +kernel
theorem dX3_noWide_4 : decode cX3_noWide 4 = .ok (.iload_n 1, 1) := by decide +kernel
theorem dX3_noWide_5 : decode cX3_noWide 5 = .ok (.invokevirtual 36, 3) := by decide +kernel
theorem dX3_noWide_8 : decode cX3_noWide 8 = .ok (.i2l, 1) := by decide +kernel
theorem dX3_noWide_9 : decode cX3_noWide 9 = .ok (.lsub, 1) := by decide +kernel
theorem dX3_noWide_10 : decode cX3_noWide 10 = .ok (.lreturn, 1) := by decide +kernel
theorem dX3_of_0 : decode cX3_of 0 = .ok (.iconst 5, 1) := by decide +kernel
theorem dX3_of_1 : decode cX3_of 1 = .ok (.bipush 7, 2) := by decide +kernel
theorem dX3_of_3 : decode cX3_of 3 = .ok (.iload_n 0, 1) := by decide +kernel
theorem dX3_of_4 : decode cX3_of 4 = .ok (.imul, 1) := by decide +kernel
theorem dX3_of_5 : decode cX3_of 5 = .ok (.iadd, 1) := by decide +kernel
theorem dX3_of_6 : decode cX3_of 6 = .ok (.iload_n 1, 1) := by decide +kernel
theorem dX3_of_7 : decode cX3_of 7 = .ok (.iadd, 1) := by decide +kernel
theorem dX3_of_8 : decode cX3_of 8 = .ok (.ireturn, 1) := by decide +kernel
theorem dX3_isPerson_0 : decode cX3_isPerson 0 = .ok (.iload_n 1, 1) := by decide +kernel
theorem dX3_isPerson_1 : decode cX3_isPerson 1 = .ok (.iconst 0, 1) := by decide +kernel
theorem dX3_isPerson_2 : decode cX3_isPerson 2 = .ok (.aload_n 0, 1) := by decide +kernel
theorem dX3_isPerson_3 : decode cX3_isPerson 3 = .ok (.getfield 9, 3) := by decide +kernel
theorem dX3_isPerson_6 : decode cX3_isPerson 6 = .ok (.iconst 0, 1) := by decide +kernel
theorem dX3_isPerson_7 : decode cX3_isPerson 7 = .ok (.iaload, 1) := by decide +kernel
theorem dX3_isPerson_8 : decode cX3_isPerson 8 = .ok (.iconst 1, 1) := by decide +kernel
theorem dX3_isPerson_9 : decode cX3_isPerson 9 = .ok (.isub, 1) := by decide +kernel
theorem dX3_isPerson_10 : decode cX3_isPerson 10 = .ok (.invokestatic 40, 3) := by decide +kernel
theorem dX3_isPerson_13 : decode cX3_isPerson 13 = .ok (.ireturn, 1) := by decide +kernel
theorem dX3_has_0 : decode cX3_has 0 = .ok (.iload_n 0, 1) := by decide +kernel
theorem dX3_has_1 : decode cX3_has 1 = .ok (.iload_n 1, 1) := by decide +kernel
theorem dX3_has_2 : decode cX3_has 2 = .ok (.ishr, 1) := by decide +kernel
theorem dX3_has_3 : decode cX3_has 3 = .ok (.iconst 1, 1) := by decide +kernel
theorem dX3_has_4 : decode cX3_has 4 = .ok (.iand, 1) := by decide +kernel
theorem dX3_has_5 : decode cX3_has 5 = .ok (.iconst 1, 1) := by decide +kernel
theorem dX3_has_6 : decode cX3_has 6 = .ok (.if_icmp .ne 7, 3) := by decide +kernel
theorem dX3_has_9 : decode cX3_has 9 = .ok (.iconst 1, 1) := by decide +kernel
theorem dX3_has_10 : decode cX3_has 10 = .ok (.goto 4, 3) := by decide +kernel
theorem dX3_has_13 : decode cX3_has 13 = .ok (.iconst 0, 1) := by decide +kernel
theorem dX3_has_14 : decode cX3_has 14 = .ok (.ireturn, 1) := by decide +kernel
theorem dX3_bits_0 : decode cX3_bits 0 = .ok (.iconst 0, 1) := by decide +kernel
theorem dX3_bits_1 : decode cX3_bits 1 = .ok (.istore_n 1, 1) := by decide +kernel
theorem dX3_bits_2 : decode cX3_bits 2 = .ok (.iconst 0, 1) := by decide +kernel
theorem dX3_bits_3 : decode cX3_bits 3 = .ok (.istore_n 2, 1) := by decide +kernel
theorem dX3_bits_4 : decode cX3_bits 4 = .ok (.iload_n 2, 1) := by decide +kernel
theorem dX3_bits_5 : decode cX3_bits 5 = .ok (.bipush 6, 2) := by decide +kernel
theorem dX3_bits_7 : decode cX3_bits 7 = .ok (.if_icmp .ge 17, 3) := by decide +kernel
theorem dX3_bits_10 : decode cX3_bits 10 = .ok (.iload_n 1, 1) := by decide +kernel
theorem dX3_bits_11 : decode cX3_bits 11 = .ok (.iload_n 0, 1) := by decide +kernel
theorem dX3_bits_12 : decode cX3_bits 12 = .ok (.iload_n 2, 1) := by decide +kernel
theorem dX3_bits_13 : decode cX3_bits 13 = .ok (.ishr, 1) := by decide +kernel
theorem dX3_bits_14 : decode cX3_bits 14 = .ok (.iconst 1, 1) := by decide +kernel
theorem dX3_bits_15 : decode cX3_bits 15 = .ok (.iand, 1) := by decide +kernel
theorem dX3_bits_16 : decode cX3_bits 16 = .ok (.iadd, 1) := by decide +kernel
theorem dX3_bits_17 : decode cX3_bits 17 = .ok (.istore_n 1, 1) := by decide +kernel
theorem dX3_bits_18 : decode cX3_bits 18 = .ok (.iinc 2 1, 3) := by decide +kernel
theorem dX3_bits_21 : decode cX3_bits 21 = .ok (.goto (-17), 3) := by decide +kernel
theorem dX3_bits_24 : decode cX3_bits 24 = .ok (.iload_n 1, 1) := by decide +kernel
theorem dX3_bits_25 : decode cX3_bits 25 = .ok (.ireturn, 1) := by decide +kernel
theorem dX3_speaksBy_0 : decode cX3_speaksBy 0 = .ok (.iload_n 1, 1) := by decide +kernel
theorem dX3_speaksBy_1 : decode cX3_speaksBy 1 = .ok (.iconst 2, 1) := by decide +kernel
theorem dX3_speaksBy_2 : decode cX3_speaksBy 2 = .ok (.idiv, 1) := by decide +kernel
theorem dX3_speaksBy_3 : decode cX3_speaksBy 3 = .ok (.iconst 1, 1) := by decide +kernel
theorem dX3_speaksBy_4 : decode cX3_speaksBy 4 = .ok (.iadd, 1) := by decide +kernel
theorem dX3_speaksBy_5 : decode cX3_speaksBy 5 = .ok (.istore_n 2, 1) := by decide +kernel
theorem dX3_speaksBy_6 : decode cX3_speaksBy 6 = .ok (.iload_n 0, 1) := by decide +kernel
theorem dX3_speaksBy_7 : decode cX3_speaksBy 7 = .ok (.tableswitch 63 1 5 #[33, 42, 44, 47, 42], 33) := by decide +kernel
theorem dX3_speaksBy_40 : decode cX3_speaksBy 40 = .ok (.bipush 12, 2) := by decide +kernel
theorem dX3_speaksBy_42 : decode cX3_speaksBy 42 = .ok (.iload_n 2, 1) := by decide +kernel
theorem dX3_speaksBy_43 : decode cX3_speaksBy 43 = .ok (.iconst 3, 1) := by decide +kernel
theorem dX3_speaksBy_44 : decode cX3_speaksBy 44 = .ok (.iadd, 1) := by decide +kernel
theorem dX3_speaksBy_45 : decode cX3_speaksBy 45 = .ok (.invokestatic 44, 3) := by decide +kernel
theorem dX3_speaksBy_48 : decode cX3_speaksBy 48 = .ok (.ireturn, 1) := by decide +kernel
theorem dX3_speaksBy_49 : decode cX3_speaksBy 49 = .ok (.iconst 0, 1) := by decide +kernel
theorem dX3_speaksBy_50 : decode cX3_speaksBy 50 = .ok (.ireturn, 1) := by decide +kernel
theorem dX3_speaksBy_51 : decode cX3_speaksBy 51 = .ok (.bipush 12, 2) := by decide +kernel
theorem dX3_speaksBy_53 : decode cX3_speaksBy 53 = .ok (.ireturn, 1) := by decide +kernel
theorem dX3_speaksBy_54 : decode cX3_speaksBy 54 = .ok (.bipush 12, 2) := by decide +kernel
theorem dX3_speaksBy_56 : decode cX3_speaksBy 56 = .ok (.iconst 2, 1) := by decide +kernel
theorem dX3_speaksBy_57 : decode cX3_speaksBy 57 = .ok (.bipush 12, 2) := by decide +kernel
theorem dX3_speaksBy_59 : decode cX3_speaksBy 59 = .ok (.iload_n 2, 1) := by decide +kernel
theorem dX3_speaksBy_60 : decode cX3_speaksBy 60 = .ok (.iconst 3, 1) := by decide +kernel
theorem dX3_speaksBy_61 : decode cX3_speaksBy 61 = .ok (.iadd, 1) := by decide +kernel
theorem dX3_speaksBy_62 : decode cX3_speaksBy 62 = .ok (.invokestatic 44, 3) := by decide +kernel
theorem dX3_speaksBy_65 : decode cX3_speaksBy 65 = .ok (.imul, 1) := by decide +kernel
theorem dX3_speaksBy_66 : decode cX3_speaksBy 66 = .ok (.invokestatic 44, 3) := by decide +kernel
theorem dX3_speaksBy_69 : decode cX3_speaksBy 69 = .ok (.ireturn, 1) := by decide +kernel
theorem dX3_speaksBy_70 : decode cX3_speaksBy 70 = .ok (.iload_n 2, 1) := by decide +kernel
theorem dX3_speaksBy_71 : decode cX3_speaksBy 71 = .ok (.ireturn, 1) := by decide +kernel
theorem dX3_drinksBy_0 : decode cX3_drinksBy 0 = .ok (.iload_n 0, 1) := by decide +kernel
theorem dX3_drinksBy_1 : decode cX3_drinksBy 1 = .ok (.tableswitch 41 1 5 #[35, 37, 35, 39, 37], 35) := by decide +kernel
theorem dX3_drinksBy_36 : decode cX3_drinksBy 36 = .ok (.iconst 2, 1) := by decide +kernel
theorem dX3_drinksBy_37 : decode cX3_drinksBy 37 = .ok (.ireturn, 1) := by decide +kernel
theorem dX3_drinksBy_38 : decode cX3_drinksBy 38 = .ok (.iconst 4, 1) := by decide +kernel
theorem dX3_drinksBy_39 : decode cX3_drinksBy 39 = .ok (.ireturn, 1) := by decide +kernel
theorem dX3_drinksBy_40 : decode cX3_drinksBy 40 = .ok (.iconst 1, 1) := by decide +kernel
theorem dX3_drinksBy_41 : decode cX3_drinksBy 41 = .ok (.ireturn, 1) := by decide +kernel
theorem dX3_drinksBy_42 : decode cX3_drinksBy 42 = .ok (.iconst 3, 1) := by decide +kernel
theorem dX3_drinksBy_43 : decode cX3_drinksBy 43 = .ok (.ireturn, 1) := by decide +kernel
theorem dX3_speaksIn_0 : decode cX3_speaksIn 0 = .ok (.aload_n 0, 1) := by decide +kernel
theorem dX3_speaksIn_1 : decode cX3_speaksIn 1 = .ok (.iconst 4, 1) := by decide +kernel
theorem dX3_speaksIn_2 : decode cX3_speaksIn 2 = .ok (.iaload, 1) := by decide +kernel
theorem dX3_speaksIn_3 : decode cX3_speaksIn 3 = .ok (.iload_n 1, 1) := by decide +kernel
theorem dX3_speaksIn_4 : decode cX3_speaksIn 4 = .ok (.invokestatic 48, 3) := by decide +kernel
theorem dX3_speaksIn_7 : decode cX3_speaksIn 7 = .ok (.ifCond .eq 8, 3) := by decide +kernel
theorem dX3_speaksIn_10 : decode cX3_speaksIn 10 = .ok (.bipush 12, 2) := by decide +kernel
theorem dX3_speaksIn_12 : decode cX3_speaksIn 12 = .ok (.goto 20, 3) := by decide +kernel
theorem dX3_speaksIn_15 : decode cX3_speaksIn 15 = .ok (.aload_n 0, 1) := by decide +kernel
theorem dX3_speaksIn_16 : decode cX3_speaksIn 16 = .ok (.iload_n 1, 1) := by decide +kernel
theorem dX3_speaksIn_17 : decode cX3_speaksIn 17 = .ok (.iconst 0, 1) := by decide +kernel
theorem dX3_speaksIn_18 : decode cX3_speaksIn 18 = .ok (.invokestatic 52, 3) := by decide +kernel
theorem dX3_speaksIn_21 : decode cX3_speaksIn 21 = .ok (.iaload, 1) := by decide +kernel
theorem dX3_speaksIn_22 : decode cX3_speaksIn 22 = .ok (.aload_n 0, 1) := by decide +kernel
theorem dX3_speaksIn_23 : decode cX3_speaksIn 23 = .ok (.iload_n 1, 1) := by decide +kernel
theorem dX3_speaksIn_24 : decode cX3_speaksIn 24 = .ok (.iconst 1, 1) := by decide +kernel
theorem dX3_speaksIn_25 : decode cX3_speaksIn 25 = .ok (.invokestatic 52, 3) := by decide +kernel
theorem dX3_speaksIn_28 : decode cX3_speaksIn 28 = .ok (.iaload, 1) := by decide +kernel
theorem dX3_speaksIn_29 : decode cX3_speaksIn 29 = .ok (.invokestatic 55, 3) := by decide +kernel
theorem dX3_speaksIn_32 : decode cX3_speaksIn 32 = .ok (.ireturn, 1) := by decide +kernel
theorem dX3_mayDraw_0 : decode cX3_mayDraw 0 = .ok (.aload_n 0, 1) := by decide +kernel
theorem dX3_mayDraw_1 : decode cX3_mayDraw 1 = .ok (.iload_n 1, 1) := by decide +kernel
theorem dX3_mayDraw_2 : decode cX3_mayDraw 2 = .ok (.iconst 5, 1) := by decide +kernel
theorem dX3_mayDraw_3 : decode cX3_mayDraw 3 = .ok (.invokestatic 52, 3) := by decide +kernel
theorem dX3_mayDraw_6 : decode cX3_mayDraw 6 = .ok (.iaload, 1) := by decide +kernel
theorem dX3_mayDraw_7 : decode cX3_mayDraw 7 = .ok (.ifCond .ne 50, 3) := by decide +kernel
theorem dX3_mayDraw_10 : decode cX3_mayDraw 10 = .ok (.aload_n 0, 1) := by decide +kernel
theorem dX3_mayDraw_11 : decode cX3_mayDraw 11 = .ok (.iload_n 1, 1) := by decide +kernel
theorem dX3_mayDraw_12 : decode cX3_mayDraw 12 = .ok (.iconst 3, 1) := by decide +kernel
theorem dX3_mayDraw_13 : decode cX3_mayDraw 13 = .ok (.invokestatic 52, 3) := by decide +kernel
theorem dX3_mayDraw_16 : decode cX3_mayDraw 16 = .ok (.iaload, 1) := by decide +kernel
theorem dX3_mayDraw_17 : decode cX3_mayDraw 17 = .ok (.bipush 20, 2) := by decide +kernel
theorem dX3_mayDraw_19 : decode cX3_mayDraw 19 = .ok (.if_icmp .ge 38, 3) := by decide +kernel
theorem dX3_mayDraw_22 : decode cX3_mayDraw 22 = .ok (.aload_n 0, 1) := by decide +kernel
theorem dX3_mayDraw_23 : decode cX3_mayDraw 23 = .ok (.iload_n 1, 1) := by decide +kernel
theorem dX3_mayDraw_24 : decode cX3_mayDraw 24 = .ok (.iconst 4, 1) := by decide +kernel
theorem dX3_mayDraw_25 : decode cX3_mayDraw 25 = .ok (.invokestatic 52, 3) := by decide +kernel
theorem dX3_mayDraw_28 : decode cX3_mayDraw 28 = .ok (.iaload, 1) := by decide +kernel
theorem dX3_mayDraw_29 : decode cX3_mayDraw 29 = .ok (.ifCond .eq 24, 3) := by decide +kernel
theorem dX3_mayDraw_32 : decode cX3_mayDraw 32 = .ok (.aload_n 0, 1) := by decide +kernel
theorem dX3_mayDraw_33 : decode cX3_mayDraw 33 = .ok (.iload_n 1, 1) := by decide +kernel
theorem dX3_mayDraw_34 : decode cX3_mayDraw 34 = .ok (.iconst 0, 1) := by decide +kernel
theorem dX3_mayDraw_35 : decode cX3_mayDraw 35 = .ok (.invokestatic 52, 3) := by decide +kernel
theorem dX3_mayDraw_38 : decode cX3_mayDraw 38 = .ok (.iaload, 1) := by decide +kernel
theorem dX3_mayDraw_39 : decode cX3_mayDraw 39 = .ok (.iconst 5, 1) := by decide +kernel
theorem dX3_mayDraw_40 : decode cX3_mayDraw 40 = .ok (.if_icmp .ne 17, 3) := by decide +kernel
theorem dX3_mayDraw_43 : decode cX3_mayDraw 43 = .ok (.aload_n 0, 1) := by decide +kernel
theorem dX3_mayDraw_44 : decode cX3_mayDraw 44 = .ok (.iconst 4, 1) := by decide +kernel
theorem dX3_mayDraw_45 : decode cX3_mayDraw 45 = .ok (.iaload, 1) := by decide +kernel
theorem dX3_mayDraw_46 : decode cX3_mayDraw 46 = .ok (.iload_n 1, 1) := by decide +kernel
theorem dX3_mayDraw_47 : decode cX3_mayDraw 47 = .ok (.invokestatic 48, 3) := by decide +kernel
theorem dX3_mayDraw_50 : decode cX3_mayDraw 50 = .ok (.ifCond .ne 7, 3) := by decide +kernel
theorem dX3_mayDraw_53 : decode cX3_mayDraw 53 = .ok (.iconst 1, 1) := by decide +kernel
theorem dX3_mayDraw_54 : decode cX3_mayDraw 54 = .ok (.goto 4, 3) := by decide +kernel
theorem dX3_mayDraw_57 : decode cX3_mayDraw 57 = .ok (.iconst 0, 1) := by decide +kernel
theorem dX3_mayDraw_58 : decode cX3_mayDraw 58 = .ok (.ireturn, 1) := by decide +kernel
theorem dX3_draws_0 : decode cX3_draws 0 = .ok (.aload_n 0, 1) := by decide +kernel
theorem dX3_draws_1 : decode cX3_draws 1 = .ok (.iload_n 1, 1) := by decide +kernel
theorem dX3_draws_2 : decode cX3_draws 2 = .ok (.invokestatic 58, 3) := by decide +kernel
theorem dX3_draws_5 : decode cX3_draws 5 = .ok (.ifCond .ne 4, 3) := by decide +kernel
theorem dX3_draws_8 : decode cX3_draws 8 = .ok (.return_, 1) := by decide +kernel
theorem dX3_draws_9 : decode cX3_draws 9 = .ok (.aload_n 0, 1) := by decide +kernel
theorem dX3_draws_10 : decode cX3_draws 10 = .ok (.iload_n 1, 1) := by decide +kernel
theorem dX3_draws_11 : decode cX3_draws 11 = .ok (.iconst 2, 1) := by decide +kernel
theorem dX3_draws_12 : decode cX3_draws 12 = .ok (.invokestatic 52, 3) := by decide +kernel
theorem dX3_draws_15 : decode cX3_draws 15 = .ok (.iaload, 1) := by decide +kernel
theorem dX3_draws_16 : decode cX3_draws 16 = .ok (.aload_n 0, 1) := by decide +kernel
theorem dX3_draws_17 : decode cX3_draws 17 = .ok (.iconst 2, 1) := by decide +kernel
theorem dX3_draws_18 : decode cX3_draws 18 = .ok (.iaload, 1) := by decide +kernel
theorem dX3_draws_19 : decode cX3_draws 19 = .ok (.invokestatic 44, 3) := by decide +kernel
theorem dX3_draws_22 : decode cX3_draws 22 = .ok (.istore_n 2, 1) := by decide +kernel
theorem dX3_draws_23 : decode cX3_draws 23 = .ok (.aload_n 0, 1) := by decide +kernel
theorem dX3_draws_24 : decode cX3_draws 24 = .ok (.iconst 2, 1) := by decide +kernel
theorem dX3_draws_25 : decode cX3_draws 25 = .ok (.dup2, 1) := by decide +kernel
theorem dX3_draws_26 : decode cX3_draws 26 = .ok (.iaload, 1) := by decide +kernel
theorem dX3_draws_27 : decode cX3_draws 27 = .ok (.iload_n 2, 1) := by decide +kernel
theorem dX3_draws_28 : decode cX3_draws 28 = .ok (.isub, 1) := by decide +kernel
theorem dX3_draws_29 : decode cX3_draws 29 = .ok (.iastore, 1) := by decide +kernel
theorem dX3_draws_30 : decode cX3_draws 30 = .ok (.aload_n 0, 1) := by decide +kernel
theorem dX3_draws_31 : decode cX3_draws 31 = .ok (.iload_n 1, 1) := by decide +kernel
theorem dX3_draws_32 : decode cX3_draws 32 = .ok (.iconst 3, 1) := by decide +kernel
theorem dX3_draws_33 : decode cX3_draws 33 = .ok (.invokestatic 52, 3) := by decide +kernel
theorem dX3_draws_36 : decode cX3_draws 36 = .ok (.dup2, 1) := by decide +kernel
theorem dX3_draws_37 : decode cX3_draws 37 = .ok (.iaload, 1) := by decide +kernel
theorem dX3_draws_38 : decode cX3_draws 38 = .ok (.iload_n 2, 1) := by decide +kernel
theorem dX3_draws_39 : decode cX3_draws 39 = .ok (.iadd, 1) := by decide +kernel
theorem dX3_draws_40 : decode cX3_draws 40 = .ok (.iastore, 1) := by decide +kernel
theorem dX3_draws_41 : decode cX3_draws 41 = .ok (.iload_n 2, 1) := by decide +kernel
theorem dX3_draws_42 : decode cX3_draws 42 = .ok (.ifCond .le 11, 3) := by decide +kernel
theorem dX3_draws_45 : decode cX3_draws 45 = .ok (.aload_n 0, 1) := by decide +kernel
theorem dX3_draws_46 : decode cX3_draws 46 = .ok (.iload_n 1, 1) := by decide +kernel
theorem dX3_draws_47 : decode cX3_draws 47 = .ok (.iconst 5, 1) := by decide +kernel
theorem dX3_draws_48 : decode cX3_draws 48 = .ok (.invokestatic 52, 3) := by decide +kernel
theorem dX3_draws_51 : decode cX3_draws 51 = .ok (.iconst 1, 1) := by decide +kernel
theorem dX3_draws_52 : decode cX3_draws 52 = .ok (.iastore, 1) := by decide +kernel
theorem dX3_draws_53 : decode cX3_draws 53 = .ok (.aload_n 0, 1) := by decide +kernel
theorem dX3_draws_54 : decode cX3_draws 54 = .ok (.iload_n 1, 1) := by decide +kernel
theorem dX3_draws_55 : decode cX3_draws 55 = .ok (.bipush 6, 2) := by decide +kernel
theorem dX3_draws_57 : decode cX3_draws 57 = .ok (.invokestatic 52, 3) := by decide +kernel
theorem dX3_draws_60 : decode cX3_draws 60 = .ok (.iaload, 1) := by decide +kernel
theorem dX3_draws_61 : decode cX3_draws 61 = .ok (.istore_n 3, 1) := by decide +kernel
theorem dX3_draws_62 : decode cX3_draws 62 = .ok (.iload_n 3, 1) := by decide +kernel
theorem dX3_draws_63 : decode cX3_draws 63 = .ok (.iload_n 1, 1) := by decide +kernel
theorem dX3_draws_64 : decode cX3_draws 64 = .ok (.if_icmp .eq 37, 3) := by decide +kernel
theorem dX3_draws_67 : decode cX3_draws 67 = .ok (.iload_n 3, 1) := by decide +kernel
theorem dX3_draws_68 : decode cX3_draws 68 = .ok (.aload_n 0, 1) := by decide +kernel
theorem dX3_draws_69 : decode cX3_draws 69 = .ok (.iconst 0, 1) := by decide +kernel
theorem dX3_draws_70 : decode cX3_draws 70 = .ok (.iaload, 1) := by decide +kernel
theorem dX3_draws_71 : decode cX3_draws 71 = .ok (.if_icmp .ge 30, 3) := by decide +kernel
theorem dX3_draws_74 : decode cX3_draws 74 = .ok (.aload_n 0, 1) := by decide +kernel
theorem dX3_draws_75 : decode cX3_draws 75 = .ok (.iload_n 3, 1) := by decide +kernel
theorem dX3_draws_76 : decode cX3_draws 76 = .ok (.iconst 4, 1) := by decide +kernel
theorem dX3_draws_77 : decode cX3_draws 77 = .ok (.invokestatic 52, 3) := by decide +kernel
theorem dX3_draws_80 : decode cX3_draws 80 = .ok (.iaload, 1) := by decide +kernel
theorem dX3_draws_81 : decode cX3_draws 81 = .ok (.ifCond .eq 20, 3) := by decide +kernel
theorem dX3_draws_84 : decode cX3_draws 84 = .ok (.aload_n 0, 1) := by decide +kernel
theorem dX3_draws_85 : decode cX3_draws 85 = .ok (.iload_n 3, 1) := by decide +kernel
theorem dX3_draws_86 : decode cX3_draws 86 = .ok (.iconst 3, 1) := by decide +kernel
theorem dX3_draws_87 : decode cX3_draws 87 = .ok (.invokestatic 52, 3) := by decide +kernel
theorem dX3_draws_90 : decode cX3_draws 90 = .ok (.iaload, 1) := by decide +kernel
theorem dX3_draws_91 : decode cX3_draws 91 = .ok (.aload_n 0, 1) := by decide +kernel
theorem dX3_draws_92 : decode cX3_draws 92 = .ok (.iload_n 1, 1) := by decide +kernel
theorem dX3_draws_93 : decode cX3_draws 93 = .ok (.iconst 3, 1) := by decide +kernel
theorem dX3_draws_94 : decode cX3_draws 94 = .ok (.invokestatic 52, 3) := by decide +kernel
theorem dX3_draws_97 : decode cX3_draws 97 = .ok (.iaload, 1) := by decide +kernel
theorem dX3_draws_98 : decode cX3_draws 98 = .ok (.if_icmp .lt 4, 3) := by decide +kernel
theorem dX3_draws_101 : decode cX3_draws 101 = .ok (.return_, 1) := by decide +kernel
theorem dX3_draws_102 : decode cX3_draws 102 = .ok (.aload_n 0, 1) := by decide +kernel
theorem dX3_draws_103 : decode cX3_draws 103 = .ok (.iload_n 1, 1) := by decide +kernel
theorem dX3_draws_104 : decode cX3_draws 104 = .ok (.iconst 3, 1) := by decide +kernel
theorem dX3_draws_105 : decode cX3_draws 105 = .ok (.invokestatic 52, 3) := by decide +kernel
theorem dX3_draws_108 : decode cX3_draws 108 = .ok (.dup2, 1) := by decide +kernel
theorem dX3_draws_109 : decode cX3_draws 109 = .ok (.iaload, 1) := by decide +kernel
theorem dX3_draws_110 : decode cX3_draws 110 = .ok (.iload_n 2, 1) := by decide +kernel
theorem dX3_draws_111 : decode cX3_draws 111 = .ok (.iconst 2, 1) := by decide +kernel
theorem dX3_draws_112 : decode cX3_draws 112 = .ok (.idiv, 1) := by decide +kernel
theorem dX3_draws_113 : decode cX3_draws 113 = .ok (.isub, 1) := by decide +kernel
theorem dX3_draws_114 : decode cX3_draws 114 = .ok (.iastore, 1) := by decide +kernel
theorem dX3_draws_115 : decode cX3_draws 115 = .ok (.aload_n 0, 1) := by decide +kernel
theorem dX3_draws_116 : decode cX3_draws 116 = .ok (.iload_n 3, 1) := by decide +kernel
theorem dX3_draws_117 : decode cX3_draws 117 = .ok (.iconst 3, 1) := by decide +kernel
theorem dX3_draws_118 : decode cX3_draws 118 = .ok (.invokestatic 52, 3) := by decide +kernel
theorem dX3_draws_121 : decode cX3_draws 121 = .ok (.bipush 99, 2) := by decide +kernel
theorem dX3_draws_123 : decode cX3_draws 123 = .ok (.aload_n 0, 1) := by decide +kernel
theorem dX3_draws_124 : decode cX3_draws 124 = .ok (.iload_n 3, 1) := by decide +kernel
theorem dX3_draws_125 : decode cX3_draws 125 = .ok (.iconst 3, 1) := by decide +kernel
theorem dX3_draws_126 : decode cX3_draws 126 = .ok (.invokestatic 52, 3) := by decide +kernel
theorem dX3_draws_129 : decode cX3_draws 129 = .ok (.iaload, 1) := by decide +kernel
theorem dX3_draws_130 : decode cX3_draws 130 = .ok (.iload_n 2, 1) := by decide +kernel
theorem dX3_draws_131 : decode cX3_draws 131 = .ok (.iconst 2, 1) := by decide +kernel
theorem dX3_draws_132 : decode cX3_draws 132 = .ok (.idiv, 1) := by decide +kernel
theorem dX3_draws_133 : decode cX3_draws 133 = .ok (.iadd, 1) := by decide +kernel
theorem dX3_draws_134 : decode cX3_draws 134 = .ok (.invokestatic 44, 3) := by decide +kernel
theorem dX3_draws_137 : decode cX3_draws 137 = .ok (.iastore, 1) := by decide +kernel
theorem dX3_draws_138 : decode cX3_draws 138 = .ok (.return_, 1) := by decide +kernel
theorem dX3_hour_0 : decode cX3_hour 0 = .ok (.aload_n 0, 1) := by decide +kernel
theorem dX3_hour_1 : decode cX3_hour 1 = .ok (.iconst 1, 1) := by decide +kernel
theorem dX3_hour_2 : decode cX3_hour 2 = .ok (.iaload, 1) := by decide +kernel
theorem dX3_hour_3 : decode cX3_hour 3 = .ok (.bipush 12, 2) := by decide +kernel
theorem dX3_hour_5 : decode cX3_hour 5 = .ok (.irem, 1) := by decide +kernel
theorem dX3_hour_6 : decode cX3_hour 6 = .ok (.istore_n 2, 1) := by decide +kernel
theorem dX3_hour_7 : decode cX3_hour 7 = .ok (.iload_n 2, 1) := by decide +kernel
theorem dX3_hour_8 : decode cX3_hour 8 = .ok (.ifCond .ne 49, 3) := by decide +kernel
theorem dX3_hour_11 : decode cX3_hour 11 = .ok (.iconst 0, 1) := by decide +kernel
theorem dX3_hour_12 : decode cX3_hour 12 = .ok (.istore_n 3, 1) := by decide +kernel
theorem dX3_hour_13 : decode cX3_hour 13 = .ok (.iload_n 3, 1) := by decide +kernel
theorem dX3_hour_14 : decode cX3_hour 14 = .ok (.aload_n 0, 1) := by decide +kernel
theorem dX3_hour_15 : decode cX3_hour 15 = .ok (.iconst 0, 1) := by decide +kernel
theorem dX3_hour_16 : decode cX3_hour 16 = .ok (.iaload, 1) := by decide +kernel
theorem dX3_hour_17 : decode cX3_hour 17 = .ok (.if_icmp .ge 25, 3) := by decide +kernel
theorem dX3_hour_20 : decode cX3_hour 20 = .ok (.aload_n 0, 1) := by decide +kernel
theorem dX3_hour_21 : decode cX3_hour 21 = .ok (.iload_n 3, 1) := by decide +kernel
theorem dX3_hour_22 : decode cX3_hour 22 = .ok (.iconst 4, 1) := by decide +kernel
theorem dX3_hour_23 : decode cX3_hour 23 = .ok (.invokestatic 52, 3) := by decide +kernel
theorem dX3_hour_26 : decode cX3_hour 26 = .ok (.iconst 0, 1) := by decide +kernel
theorem dX3_hour_27 : decode cX3_hour 27 = .ok (.iastore, 1) := by decide +kernel
theorem dX3_hour_28 : decode cX3_hour 28 = .ok (.aload_n 0, 1) := by decide +kernel
theorem dX3_hour_29 : decode cX3_hour 29 = .ok (.iload_n 3, 1) := by decide +kernel
theorem dX3_hour_30 : decode cX3_hour 30 = .ok (.iconst 5, 1) := by decide +kernel
theorem dX3_hour_31 : decode cX3_hour 31 = .ok (.invokestatic 52, 3) := by decide +kernel
theorem dX3_hour_34 : decode cX3_hour 34 = .ok (.iconst 0, 1) := by decide +kernel
theorem dX3_hour_35 : decode cX3_hour 35 = .ok (.iastore, 1) := by decide +kernel
theorem dX3_hour_36 : decode cX3_hour 36 = .ok (.iinc 3 1, 3) := by decide +kernel
theorem dX3_hour_39 : decode cX3_hour 39 = .ok (.goto (-26), 3) := by decide +kernel
theorem dX3_hour_42 : decode cX3_hour 42 = .ok (.aload_n 0, 1) := by decide +kernel
theorem dX3_hour_43 : decode cX3_hour 43 = .ok (.iconst 2, 1) := by decide +kernel
theorem dX3_hour_44 : decode cX3_hour 44 = .ok (.bipush 99, 2) := by decide +kernel
theorem dX3_hour_46 : decode cX3_hour 46 = .ok (.aload_n 0, 1) := by decide +kernel
theorem dX3_hour_47 : decode cX3_hour 47 = .ok (.iconst 2, 1) := by decide +kernel
theorem dX3_hour_48 : decode cX3_hour 48 = .ok (.iaload, 1) := by decide +kernel
theorem dX3_hour_49 : decode cX3_hour 49 = .ok (.aload_n 0, 1) := by decide +kernel
theorem dX3_hour_50 : decode cX3_hour 50 = .ok (.iconst 3, 1) := by decide +kernel
theorem dX3_hour_51 : decode cX3_hour 51 = .ok (.iaload, 1) := by decide +kernel
theorem dX3_hour_52 : decode cX3_hour 52 = .ok (.iadd, 1) := by decide +kernel
theorem dX3_hour_53 : decode cX3_hour 53 = .ok (.invokestatic 44, 3) := by decide +kernel
theorem dX3_hour_56 : decode cX3_hour 56 = .ok (.iastore, 1) := by decide +kernel
theorem dX3_hour_57 : decode cX3_hour 57 = .ok (.iconst 0, 1) := by decide +kernel
theorem dX3_hour_58 : decode cX3_hour 58 = .ok (.istore_n 3, 1) := by decide +kernel
theorem dX3_hour_59 : decode cX3_hour 59 = .ok (.iload_n 3, 1) := by decide +kernel
theorem dX3_hour_60 : decode cX3_hour 60 = .ok (.aload_n 0, 1) := by decide +kernel
theorem dX3_hour_61 : decode cX3_hour 61 = .ok (.iconst 0, 1) := by decide +kernel
theorem dX3_hour_62 : decode cX3_hour 62 = .ok (.iaload, 1) := by decide +kernel
theorem dX3_hour_63 : decode cX3_hour 63 = .ok (.if_icmp .ge 34, 3) := by decide +kernel
theorem dX3_hour_66 : decode cX3_hour 66 = .ok (.aload_n 0, 1) := by decide +kernel
theorem dX3_hour_67 : decode cX3_hour 67 = .ok (.iload_n 3, 1) := by decide +kernel
theorem dX3_hour_68 : decode cX3_hour 68 = .ok (.invokestatic 62, 3) := by decide +kernel
theorem dX3_hour_71 : decode cX3_hour 71 = .ok (.iload_n 2, 1) := by decide +kernel
theorem dX3_hour_72 : decode cX3_hour 72 = .ok (.if_icmp .eq 11, 3) := by decide +kernel
theorem dX3_hour_75 : decode cX3_hour 75 = .ok (.iload_n 1, 1) := by decide +kernel
theorem dX3_hour_76 : decode cX3_hour 76 = .ok (.iload_n 3, 1) := by decide +kernel
theorem dX3_hour_77 : decode cX3_hour 77 = .ok (.invokestatic 48, 3) := by decide +kernel
theorem dX3_hour_80 : decode cX3_hour 80 = .ok (.ifCond .eq 11, 3) := by decide +kernel
theorem dX3_hour_83 : decode cX3_hour 83 = .ok (.aload_n 0, 1) := by decide +kernel
theorem dX3_hour_84 : decode cX3_hour 84 = .ok (.iload_n 3, 1) := by decide +kernel
theorem dX3_hour_85 : decode cX3_hour 85 = .ok (.iconst 4, 1) := by decide +kernel
theorem dX3_hour_86 : decode cX3_hour 86 = .ok (.invokestatic 52, 3) := by decide +kernel
theorem dX3_hour_89 : decode cX3_hour 89 = .ok (.iconst 1, 1) := by decide +kernel
theorem dX3_hour_90 : decode cX3_hour 90 = .ok (.iastore, 1) := by decide +kernel
theorem dX3_hour_91 : decode cX3_hour 91 = .ok (.iinc 3 1, 3) := by decide +kernel
theorem dX3_hour_94 : decode cX3_hour 94 = .ok (.goto (-35), 3) := by decide +kernel
theorem dX3_hour_97 : decode cX3_hour 97 = .ok (.iconst 0, 1) := by decide +kernel
theorem dX3_hour_98 : decode cX3_hour 98 = .ok (.istore_n 3, 1) := by decide +kernel
theorem dX3_hour_99 : decode cX3_hour 99 = .ok (.iload_n 3, 1) := by decide +kernel
theorem dX3_hour_100 : decode cX3_hour 100 = .ok (.aload_n 0, 1) := by decide +kernel
theorem dX3_hour_101 : decode cX3_hour 101 = .ok (.iconst 0, 1) := by decide +kernel
theorem dX3_hour_102 : decode cX3_hour 102 = .ok (.iaload, 1) := by decide +kernel
theorem dX3_hour_103 : decode cX3_hour 103 = .ok (.if_icmp .ge 14, 3) := by decide +kernel
theorem dX3_hour_106 : decode cX3_hour 106 = .ok (.aload_n 0, 1) := by decide +kernel
theorem dX3_hour_107 : decode cX3_hour 107 = .ok (.iload_n 3, 1) := by decide +kernel
theorem dX3_hour_108 : decode cX3_hour 108 = .ok (.invokestatic 66, 3) := by decide +kernel
theorem dX3_hour_111 : decode cX3_hour 111 = .ok (.iinc 3 1, 3) := by decide +kernel
theorem dX3_hour_114 : decode cX3_hour 114 = .ok (.goto (-15), 3) := by decide +kernel
theorem dX3_hour_117 : decode cX3_hour 117 = .ok (.iconst 0, 1) := by decide +kernel
theorem dX3_hour_118 : decode cX3_hour 118 = .ok (.istore_n 3, 1) := by decide +kernel
theorem dX3_hour_119 : decode cX3_hour 119 = .ok (.iload_n 3, 1) := by decide +kernel
theorem dX3_hour_120 : decode cX3_hour 120 = .ok (.aload_n 0, 1) := by decide +kernel
theorem dX3_hour_121 : decode cX3_hour 121 = .ok (.iconst 0, 1) := by decide +kernel
theorem dX3_hour_122 : decode cX3_hour 122 = .ok (.iaload, 1) := by decide +kernel
theorem dX3_hour_123 : decode cX3_hour 123 = .ok (.if_icmp .ge 53, 3) := by decide +kernel
theorem dX3_hour_126 : decode cX3_hour 126 = .ok (.iload_n 2, 1) := by decide +kernel
theorem dX3_hour_127 : decode cX3_hour 127 = .ok (.bipush 11, 2) := by decide +kernel
theorem dX3_hour_129 : decode cX3_hour 129 = .ok (.if_icmp .ne 47, 3) := by decide +kernel
theorem dX3_hour_132 : decode cX3_hour 132 = .ok (.aload_n 0, 1) := by decide +kernel
theorem dX3_hour_133 : decode cX3_hour 133 = .ok (.iload_n 3, 1) := by decide +kernel
theorem dX3_hour_134 : decode cX3_hour 134 = .ok (.iconst 3, 1) := by decide +kernel
theorem dX3_hour_135 : decode cX3_hour 135 = .ok (.invokestatic 52, 3) := by decide +kernel
theorem dX3_hour_138 : decode cX3_hour 138 = .ok (.iaload, 1) := by decide +kernel
theorem dX3_hour_139 : decode cX3_hour 139 = .ok (.aload_n 0, 1) := by decide +kernel
theorem dX3_hour_140 : decode cX3_hour 140 = .ok (.iload_n 3, 1) := by decide +kernel
theorem dX3_hour_141 : decode cX3_hour 141 = .ok (.iconst 0, 1) := by decide +kernel
theorem dX3_hour_142 : decode cX3_hour 142 = .ok (.invokestatic 52, 3) := by decide +kernel
theorem dX3_hour_145 : decode cX3_hour 145 = .ok (.iaload, 1) := by decide +kernel
theorem dX3_hour_146 : decode cX3_hour 146 = .ok (.invokestatic 70, 3) := by decide +kernel
theorem dX3_hour_149 : decode cX3_hour 149 = .ok (.isub, 1) := by decide +kernel
theorem dX3_hour_150 : decode cX3_hour 150 = .ok (.istore 4, 2) := by decide +kernel
theorem dX3_hour_152 : decode cX3_hour 152 = .ok (.aload_n 0, 1) := by decide +kernel
theorem dX3_hour_153 : decode cX3_hour 153 = .ok (.iload_n 3, 1) := by decide +kernel
theorem dX3_hour_154 : decode cX3_hour 154 = .ok (.iconst 3, 1) := by decide +kernel
theorem dX3_hour_155 : decode cX3_hour 155 = .ok (.invokestatic 52, 3) := by decide +kernel
theorem dX3_hour_158 : decode cX3_hour 158 = .ok (.iload 4, 2) := by decide +kernel
theorem dX3_hour_160 : decode cX3_hour 160 = .ok (.ifCond .ge 7, 3) := by decide +kernel
theorem dX3_hour_163 : decode cX3_hour 163 = .ok (.iconst 0, 1) := by decide +kernel
theorem dX3_hour_164 : decode cX3_hour 164 = .ok (.goto 5, 3) := by decide +kernel
theorem dX3_hour_167 : decode cX3_hour 167 = .ok (.iload 4, 2) := by decide +kernel
theorem dX3_hour_169 : decode cX3_hour 169 = .ok (.iastore, 1) := by decide +kernel
theorem dX3_hour_170 : decode cX3_hour 170 = .ok (.iinc 3 1, 3) := by decide +kernel
theorem dX3_hour_173 : decode cX3_hour 173 = .ok (.goto (-54), 3) := by decide +kernel
theorem dX3_hour_176 : decode cX3_hour 176 = .ok (.aload_n 0, 1) := by decide +kernel
theorem dX3_hour_177 : decode cX3_hour 177 = .ok (.iconst 1, 1) := by decide +kernel
theorem dX3_hour_178 : decode cX3_hour 178 = .ok (.dup2, 1) := by decide +kernel
theorem dX3_hour_179 : decode cX3_hour 179 = .ok (.iaload, 1) := by decide +kernel
theorem dX3_hour_180 : decode cX3_hour 180 = .ok (.iconst 1, 1) := by decide +kernel
theorem dX3_hour_181 : decode cX3_hour 181 = .ok (.iadd, 1) := by decide +kernel
theorem dX3_hour_182 : decode cX3_hour 182 = .ok (.iastore, 1) := by decide +kernel
theorem dX3_hour_183 : decode cX3_hour 183 = .ok (.return_, 1) := by decide +kernel
theorem dX3_hoursOn_0 : decode cX3_hoursOn 0 = .ok (.iconst 0, 1) := by decide +kernel
theorem dX3_hoursOn_1 : decode cX3_hoursOn 1 = .ok (.istore_n 2, 1) := by decide +kernel
theorem dX3_hoursOn_2 : decode cX3_hoursOn 2 = .ok (.iload_n 2, 1) := by decide +kernel
theorem dX3_hoursOn_3 : decode cX3_hoursOn 3 = .ok (.iload_n 1, 1) := by decide +kernel
theorem dX3_hoursOn_4 : decode cX3_hoursOn 4 = .ok (.if_icmp .ge 14, 3) := by decide +kernel
theorem dX3_hoursOn_7 : decode cX3_hoursOn 7 = .ok (.aload_n 0, 1) := by decide +kernel
theorem dX3_hoursOn_8 : decode cX3_hoursOn 8 = .ok (.iconst 0, 1) := by decide +kernel
theorem dX3_hoursOn_9 : decode cX3_hoursOn 9 = .ok (.invokestatic 73, 3) := by decide +kernel
theorem dX3_hoursOn_12 : decode cX3_hoursOn 12 = .ok (.iinc 2 1, 3) := by decide +kernel
theorem dX3_hoursOn_15 : decode cX3_hoursOn 15 = .ok (.goto (-13), 3) := by decide +kernel
theorem dX3_hoursOn_18 : decode cX3_hoursOn 18 = .ok (.return_, 1) := by decide +kernel
theorem dX3_allHave_0 : decode cX3_allHave 0 = .ok (.iconst 0, 1) := by decide +kernel
theorem dX3_allHave_1 : decode cX3_allHave 1 = .ok (.istore_n 1, 1) := by decide +kernel
theorem dX3_allHave_2 : decode cX3_allHave 2 = .ok (.iconst 0, 1) := by decide +kernel
theorem dX3_allHave_3 : decode cX3_allHave 3 = .ok (.istore_n 2, 1) := by decide +kernel
theorem dX3_allHave_4 : decode cX3_allHave 4 = .ok (.iload_n 2, 1) := by decide +kernel
theorem dX3_allHave_5 : decode cX3_allHave 5 = .ok (.aload_n 0, 1) := by decide +kernel
theorem dX3_allHave_6 : decode cX3_allHave 6 = .ok (.iconst 0, 1) := by decide +kernel
theorem dX3_allHave_7 : decode cX3_allHave 7 = .ok (.iaload, 1) := by decide +kernel
theorem dX3_allHave_8 : decode cX3_allHave 8 = .ok (.if_icmp .ge 19, 3) := by decide +kernel
theorem dX3_allHave_11 : decode cX3_allHave 11 = .ok (.iload_n 1, 1) := by decide +kernel
theorem dX3_allHave_12 : decode cX3_allHave 12 = .ok (.aload_n 0, 1) := by decide +kernel
theorem dX3_allHave_13 : decode cX3_allHave 13 = .ok (.iload_n 2, 1) := by decide +kernel
theorem dX3_allHave_14 : decode cX3_allHave 14 = .ok (.iconst 3, 1) := by decide +kernel
theorem dX3_allHave_15 : decode cX3_allHave 15 = .ok (.invokestatic 52, 3) := by decide +kernel
theorem dX3_allHave_18 : decode cX3_allHave 18 = .ok (.iaload, 1) := by decide +kernel
theorem dX3_allHave_19 : decode cX3_allHave 19 = .ok (.iadd, 1) := by decide +kernel
theorem dX3_allHave_20 : decode cX3_allHave 20 = .ok (.istore_n 1, 1) := by decide +kernel
theorem dX3_allHave_21 : decode cX3_allHave 21 = .ok (.iinc 2 1, 3) := by decide +kernel
theorem dX3_allHave_24 : decode cX3_allHave 24 = .ok (.goto (-20), 3) := by decide +kernel
theorem dX3_allHave_27 : decode cX3_allHave 27 = .ok (.iload_n 1, 1) := by decide +kernel
theorem dX3_allHave_28 : decode cX3_allHave 28 = .ok (.ireturn, 1) := by decide +kernel
theorem dX3_flagged_0 : decode cX3_flagged 0 = .ok (.iconst 0, 1) := by decide +kernel
theorem dX3_flagged_1 : decode cX3_flagged 1 = .ok (.istore_n 2, 1) := by decide +kernel
theorem dX3_flagged_2 : decode cX3_flagged 2 = .ok (.iconst 0, 1) := by decide +kernel
theorem dX3_flagged_3 : decode cX3_flagged 3 = .ok (.istore_n 3, 1) := by decide +kernel
theorem dX3_flagged_4 : decode cX3_flagged 4 = .ok (.iload_n 3, 1) := by decide +kernel
theorem dX3_flagged_5 : decode cX3_flagged 5 = .ok (.aload_n 0, 1) := by decide +kernel
theorem dX3_flagged_6 : decode cX3_flagged 6 = .ok (.iconst 0, 1) := by decide +kernel
theorem dX3_flagged_7 : decode cX3_flagged 7 = .ok (.iaload, 1) := by decide +kernel
theorem dX3_flagged_8 : decode cX3_flagged 8 = .ok (.if_icmp .ge 21, 3) := by decide +kernel
theorem dX3_flagged_11 : decode cX3_flagged 11 = .ok (.iload_n 2, 1) := by decide +kernel
theorem dX3_flagged_12 : decode cX3_flagged 12 = .ok (.aload_n 0, 1) := by decide +kernel
theorem dX3_flagged_13 : decode cX3_flagged 13 = .ok (.iload_n 3, 1) := by decide +kernel
theorem dX3_flagged_14 : decode cX3_flagged 14 = .ok (.iload_n 1, 1) := by decide +kernel
theorem dX3_flagged_15 : decode cX3_flagged 15 = .ok (.invokestatic 52, 3) := by decide +kernel
theorem dX3_flagged_18 : decode cX3_flagged 18 = .ok (.iaload, 1) := by decide +kernel
theorem dX3_flagged_19 : decode cX3_flagged 19 = .ok (.iload_n 3, 1) := by decide +kernel
theorem dX3_flagged_20 : decode cX3_flagged 20 = .ok (.ishl, 1) := by decide +kernel
theorem dX3_flagged_21 : decode cX3_flagged 21 = .ok (.ior, 1) := by decide +kernel
theorem dX3_flagged_22 : decode cX3_flagged 22 = .ok (.istore_n 2, 1) := by decide +kernel
theorem dX3_flagged_23 : decode cX3_flagged 23 = .ok (.iinc 3 1, 3) := by decide +kernel
theorem dX3_flagged_26 : decode cX3_flagged 26 = .ok (.goto (-22), 3) := by decide +kernel
theorem dX3_flagged_29 : decode cX3_flagged 29 = .ok (.iload_n 2, 1) := by decide +kernel
theorem dX3_flagged_30 : decode cX3_flagged 30 = .ok (.ireturn, 1) := by decide +kernel
theorem dX3_dryOnes_0 : decode cX3_dryOnes 0 = .ok (.iconst 0, 1) := by decide +kernel
theorem dX3_dryOnes_1 : decode cX3_dryOnes 1 = .ok (.istore_n 1, 1) := by decide +kernel
theorem dX3_dryOnes_2 : decode cX3_dryOnes 2 = .ok (.iconst 0, 1) := by decide +kernel
theorem dX3_dryOnes_3 : decode cX3_dryOnes 3 = .ok (.istore_n 2, 1) := by decide +kernel
theorem dX3_dryOnes_4 : decode cX3_dryOnes 4 = .ok (.iload_n 2, 1) := by decide +kernel
theorem dX3_dryOnes_5 : decode cX3_dryOnes 5 = .ok (.aload_n 0, 1) := by decide +kernel
theorem dX3_dryOnes_6 : decode cX3_dryOnes 6 = .ok (.iconst 0, 1) := by decide +kernel
theorem dX3_dryOnes_7 : decode cX3_dryOnes 7 = .ok (.iaload, 1) := by decide +kernel
theorem dX3_dryOnes_8 : decode cX3_dryOnes 8 = .ok (.if_icmp .ge 29, 3) := by decide +kernel
theorem dX3_dryOnes_11 : decode cX3_dryOnes 11 = .ok (.iload_n 1, 1) := by decide +kernel
theorem dX3_dryOnes_12 : decode cX3_dryOnes 12 = .ok (.aload_n 0, 1) := by decide +kernel
theorem dX3_dryOnes_13 : decode cX3_dryOnes 13 = .ok (.iload_n 2, 1) := by decide +kernel
theorem dX3_dryOnes_14 : decode cX3_dryOnes 14 = .ok (.iconst 3, 1) := by decide +kernel
theorem dX3_dryOnes_15 : decode cX3_dryOnes 15 = .ok (.invokestatic 52, 3) := by decide +kernel
theorem dX3_dryOnes_18 : decode cX3_dryOnes 18 = .ok (.iaload, 1) := by decide +kernel
theorem dX3_dryOnes_19 : decode cX3_dryOnes 19 = .ok (.ifCond .ne 9, 3) := by decide +kernel
theorem dX3_dryOnes_22 : decode cX3_dryOnes 22 = .ok (.iconst 1, 1) := by decide +kernel
theorem dX3_dryOnes_23 : decode cX3_dryOnes 23 = .ok (.iload_n 2, 1) := by decide +kernel
theorem dX3_dryOnes_24 : decode cX3_dryOnes 24 = .ok (.ishl, 1) := by decide +kernel
theorem dX3_dryOnes_25 : decode cX3_dryOnes 25 = .ok (.goto 4, 3) := by decide +kernel
theorem dX3_dryOnes_28 : decode cX3_dryOnes 28 = .ok (.iconst 0, 1) := by decide +kernel
theorem dX3_dryOnes_29 : decode cX3_dryOnes 29 = .ok (.ior, 1) := by decide +kernel
theorem dX3_dryOnes_30 : decode cX3_dryOnes 30 = .ok (.istore_n 1, 1) := by decide +kernel
theorem dX3_dryOnes_31 : decode cX3_dryOnes 31 = .ok (.iinc 2 1, 3) := by decide +kernel
theorem dX3_dryOnes_34 : decode cX3_dryOnes 34 = .ok (.goto (-30), 3) := by decide +kernel
theorem dX3_dryOnes_37 : decode cX3_dryOnes 37 = .ok (.iload_n 1, 1) := by decide +kernel
theorem dX3_dryOnes_38 : decode cX3_dryOnes 38 = .ok (.ireturn, 1) := by decide +kernel
theorem dX3_letter_0 : decode cX3_letter 0 = .ok (.iload_n 1, 1) := by decide +kernel
theorem dX3_letter_1 : decode cX3_letter 1 = .ok (.ifCond .ge 10, 3) := by decide +kernel
theorem dX3_letter_4 : decode cX3_letter 4 = .ok (.aload_n 0, 1) := by decide +kernel
theorem dX3_letter_5 : decode cX3_letter 5 = .ok (.bipush (-4), 2) := by decide +kernel
theorem dX3_letter_7 : decode cX3_letter 7 = .ok (.invokevirtual 36, 3) := by decide +kernel
theorem dX3_letter_10 : decode cX3_letter 10 = .ok (.ireturn, 1) := by decide +kernel
theorem dX3_letter_11 : decode cX3_letter 11 = .ok (.iload_n 1, 1) := by decide +kernel
theorem dX3_letter_12 : decode cX3_letter 12 = .ok (.sipush 255, 3) := by decide +kernel
theorem dX3_letter_15 : decode cX3_letter 15 = .ok (.if_icmp .gt 12, 3) := by decide +kernel
theorem dX3_letter_18 : decode cX3_letter 18 = .ok (.aload_n 0, 1) := by decide +kernel
theorem dX3_letter_19 : decode cX3_letter 19 = .ok (.getfield 76, 3) := by decide +kernel
theorem dX3_letter_22 : decode cX3_letter 22 = .ok (.bipush 96, 2) := by decide +kernel
theorem dX3_letter_24 : decode cX3_letter 24 = .ok (.if_icmp .ne 10, 3) := by decide +kernel
theorem dX3_letter_27 : decode cX3_letter 27 = .ok (.aload_n 0, 1) := by decide +kernel
theorem dX3_letter_28 : decode cX3_letter 28 = .ok (.bipush (-6), 2) := by decide +kernel
theorem dX3_letter_30 : decode cX3_letter 30 = .ok (.invokevirtual 36, 3) := by decide +kernel
theorem dX3_letter_33 : decode cX3_letter 33 = .ok (.ireturn, 1) := by decide +kernel
theorem dX3_letter_34 : decode cX3_letter 34 = .ok (.aload_n 0, 1) := by decide +kernel
theorem dX3_letter_35 : decode cX3_letter 35 = .ok (.getfield 22, 3) := by decide +kernel
theorem dX3_letter_38 : decode cX3_letter 38 = .ok (.aload_n 0, 1) := by decide +kernel
theorem dX3_letter_39 : decode cX3_letter 39 = .ok (.getfield 76, 3) := by decide +kernel
theorem dX3_letter_42 : decode cX3_letter 42 = .ok (.iload_n 1, 1) := by decide +kernel
theorem dX3_letter_43 : decode cX3_letter 43 = .ok (.iastore, 1) := by decide +kernel
theorem dX3_letter_44 : decode cX3_letter 44 = .ok (.aload_n 0, 1) := by decide +kernel
theorem dX3_letter_45 : decode cX3_letter 45 = .ok (.dup, 1) := by decide +kernel
theorem dX3_letter_46 : decode cX3_letter 46 = .ok (.getfield 76, 3) := by decide +kernel
theorem dX3_letter_49 : decode cX3_letter 49 = .ok (.iconst 1, 1) := by decide +kernel
theorem dX3_letter_50 : decode cX3_letter 50 = .ok (.iadd, 1) := by decide +kernel
theorem dX3_letter_51 : decode cX3_letter 51 = .ok (.putfield 76, 3) := by decide +kernel
theorem dX3_letter_54 : decode cX3_letter 54 = .ok (.aload_n 0, 1) := by decide +kernel
theorem dX3_letter_55 : decode cX3_letter 55 = .ok (.getfield 76, 3) := by decide +kernel
theorem dX3_letter_58 : decode cX3_letter 58 = .ok (.ireturn, 1) := by decide +kernel
theorem dX3_here_0 : decode cX3_here 0 = .ok (.aload_n 0, 1) := by decide +kernel
theorem dX3_here_1 : decode cX3_here 1 = .ok (.getfield 80, 3) := by decide +kernel
theorem dX3_here_4 : decode cX3_here 4 = .ok (.aload_n 0, 1) := by decide +kernel
theorem dX3_here_5 : decode cX3_here 5 = .ok (.getfield 76, 3) := by decide +kernel
theorem dX3_here_8 : decode cX3_here 8 = .ok (.if_icmp .ge 15, 3) := by decide +kernel
theorem dX3_here_11 : decode cX3_here 11 = .ok (.aload_n 0, 1) := by decide +kernel
theorem dX3_here_12 : decode cX3_here 12 = .ok (.getfield 22, 3) := by decide +kernel
theorem dX3_here_15 : decode cX3_here 15 = .ok (.aload_n 0, 1) := by decide +kernel
theorem dX3_here_16 : decode cX3_here 16 = .ok (.getfield 80, 3) := by decide +kernel
theorem dX3_here_19 : decode cX3_here 19 = .ok (.iaload, 1) := by decide +kernel
theorem dX3_here_20 : decode cX3_here 20 = .ok (.goto 4, 3) := by decide +kernel
theorem dX3_here_23 : decode cX3_here 23 = .ok (.iconst (-1), 1) := by decide +kernel
theorem dX3_here_24 : decode cX3_here 24 = .ok (.ireturn, 1) := by decide +kernel
theorem dX3_readsNumber_0 : decode cX3_readsNumber 0 = .ok (.aload_n 0, 1) := by decide +kernel
theorem dX3_readsNumber_1 : decode cX3_readsNumber 1 = .ok (.getfield 31, 3) := by decide +kernel
theorem dX3_readsNumber_4 : decode cX3_readsNumber 4 = .ok (.iload_n 1, 1) := by decide +kernel
theorem dX3_readsNumber_5 : decode cX3_readsNumber 5 = .ok (.iconst 0, 1) := by decide +kernel
theorem dX3_readsNumber_6 : decode cX3_readsNumber 6 = .ok (.iastore, 1) := by decide +kernel
theorem dX3_readsNumber_7 : decode cX3_readsNumber 7 = .ok (.iconst 0, 1) := by decide +kernel
theorem dX3_readsNumber_8 : decode cX3_readsNumber 8 = .ok (.istore_n 3, 1) := by decide +kernel
theorem dX3_readsNumber_9 : decode cX3_readsNumber 9 = .ok (.iload_n 3, 1) := by decide +kernel
theorem dX3_readsNumber_10 : decode cX3_readsNumber 10 = .ok (.iload_n 2, 1) := by decide +kernel
theorem dX3_readsNumber_11 : decode cX3_readsNumber 11 = .ok (.if_icmp .ge 58, 3) := by decide +kernel
theorem dX3_readsNumber_14 : decode cX3_readsNumber 14 = .ok (.aload_n 0, 1) := by decide +kernel
theorem dX3_readsNumber_15 : decode cX3_readsNumber 15 = .ok (.invokevirtual 83, 3) := by decide +kernel
theorem dX3_readsNumber_18 : decode cX3_readsNumber 18 = .ok (.bipush 48, 2) := by decide +kernel
theorem dX3_readsNumber_20 : decode cX3_readsNumber 20 = .ok (.bipush 57, 2) := by decide +kernel
theorem dX3_readsNumber_22 : decode cX3_readsNumber 22 = .ok (.invokestatic 40, 3) := by decide +kernel
theorem dX3_readsNumber_25 : decode cX3_readsNumber 25 = .ok (.ifCond .ne 5, 3) := by decide +kernel
theorem dX3_readsNumber_28 : decode cX3_readsNumber 28 = .ok (.iconst 0, 1) := by decide +kernel
theorem dX3_readsNumber_29 : decode cX3_readsNumber 29 = .ok (.ireturn, 1) := by decide +kernel
theorem dX3_readsNumber_30 : decode cX3_readsNumber 30 = .ok (.aload_n 0, 1) := by decide +kernel
theorem dX3_readsNumber_31 : decode cX3_readsNumber 31 = .ok (.getfield 31, 3) := by decide +kernel
theorem dX3_readsNumber_34 : decode cX3_readsNumber 34 = .ok (.iload_n 1, 1) := by decide +kernel
theorem dX3_readsNumber_35 : decode cX3_readsNumber 35 = .ok (.bipush 10, 2) := by decide +kernel
theorem dX3_readsNumber_37 : decode cX3_readsNumber 37 = .ok (.aload_n 0, 1) := by decide +kernel
theorem dX3_readsNumber_38 : decode cX3_readsNumber 38 = .ok (.getfield 31, 3) := by decide +kernel
theorem dX3_readsNumber_41 : decode cX3_readsNumber 41 = .ok (.iload_n 1, 1) := by decide +kernel
theorem dX3_readsNumber_42 : decode cX3_readsNumber 42 = .ok (.iaload, 1) := by decide +kernel
theorem dX3_readsNumber_43 : decode cX3_readsNumber 43 = .ok (.imul, 1) := by decide +kernel
theorem dX3_readsNumber_44 : decode cX3_readsNumber 44 = .ok (.aload_n 0, 1) := by decide +kernel
theorem dX3_readsNumber_45 : decode cX3_readsNumber 45 = .ok (.invokevirtual 83, 3) := by decide +kernel
theorem dX3_readsNumber_48 : decode cX3_readsNumber 48 = .ok (.iadd, 1) := by decide +kernel
theorem dX3_readsNumber_49 : decode cX3_readsNumber 49 = .ok (.bipush 48, 2) := by decide +kernel
theorem dX3_readsNumber_51 : decode cX3_readsNumber 51 = .ok (.isub, 1) := by decide +kernel
theorem dX3_readsNumber_52 : decode cX3_readsNumber 52 = .ok (.iastore, 1) := by decide +kernel
theorem dX3_readsNumber_53 : decode cX3_readsNumber 53 = .ok (.aload_n 0, 1) := by decide +kernel
theorem dX3_readsNumber_54 : decode cX3_readsNumber 54 = .ok (.dup, 1) := by decide +kernel
theorem dX3_readsNumber_55 : decode cX3_readsNumber 55 = .ok (.getfield 80, 3) := by decide +kernel
theorem dX3_readsNumber_58 : decode cX3_readsNumber 58 = .ok (.iconst 1, 1) := by decide +kernel
theorem dX3_readsNumber_59 : decode cX3_readsNumber 59 = .ok (.iadd, 1) := by decide +kernel
theorem dX3_readsNumber_60 : decode cX3_readsNumber 60 = .ok (.putfield 80, 3) := by decide +kernel
theorem dX3_readsNumber_63 : decode cX3_readsNumber 63 = .ok (.iinc 3 1, 3) := by decide +kernel
theorem dX3_readsNumber_66 : decode cX3_readsNumber 66 = .ok (.goto (-57), 3) := by decide +kernel
theorem dX3_readsNumber_69 : decode cX3_readsNumber 69 = .ok (.iconst 1, 1) := by decide +kernel
theorem dX3_readsNumber_70 : decode cX3_readsNumber 70 = .ok (.ireturn, 1) := by decide +kernel
theorem dX3_kindBy_0 : decode cX3_kindBy 0 = .ok (.iload_n 0, 1) := by decide +kernel
theorem dX3_kindBy_1 : decode cX3_kindBy 1 = .ok (.tableswitch 75 108 119 #[73, 69, 75, 75, 63, 75, 75, 67, 71, 75, 75, 65], 63) := by decide +kernel
theorem dX3_kindBy_64 : decode cX3_kindBy 64 = .ok (.iconst 0, 1) := by decide +kernel
theorem dX3_kindBy_65 : decode cX3_kindBy 65 = .ok (.ireturn, 1) := by decide +kernel
theorem dX3_kindBy_66 : decode cX3_kindBy 66 = .ok (.iconst 1, 1) := by decide +kernel
theorem dX3_kindBy_67 : decode cX3_kindBy 67 = .ok (.ireturn, 1) := by decide +kernel
theorem dX3_kindBy_68 : decode cX3_kindBy 68 = .ok (.iconst 2, 1) := by decide +kernel
theorem dX3_kindBy_69 : decode cX3_kindBy 69 = .ok (.ireturn, 1) := by decide +kernel
theorem dX3_kindBy_70 : decode cX3_kindBy 70 = .ok (.iconst 3, 1) := by decide +kernel
theorem dX3_kindBy_71 : decode cX3_kindBy 71 = .ok (.ireturn, 1) := by decide +kernel
theorem dX3_kindBy_72 : decode cX3_kindBy 72 = .ok (.iconst 4, 1) := by decide +kernel
theorem dX3_kindBy_73 : decode cX3_kindBy 73 = .ok (.ireturn, 1) := by decide +kernel
theorem dX3_kindBy_74 : decode cX3_kindBy 74 = .ok (.iconst 5, 1) := by decide +kernel
theorem dX3_kindBy_75 : decode cX3_kindBy 75 = .ok (.ireturn, 1) := by decide +kernel
theorem dX3_kindBy_76 : decode cX3_kindBy 76 = .ok (.bipush (-9), 2) := by decide +kernel
theorem dX3_kindBy_78 : decode cX3_kindBy 78 = .ok (.ireturn, 1) := by decide +kernel
theorem dX3_readsKind_0 : decode cX3_readsKind 0 = .ok (.aload_n 0, 1) := by decide +kernel
theorem dX3_readsKind_1 : decode cX3_readsKind 1 = .ok (.getfield 31, 3) := by decide +kernel
theorem dX3_readsKind_4 : decode cX3_readsKind 4 = .ok (.iconst 0, 1) := by decide +kernel
theorem dX3_readsKind_5 : decode cX3_readsKind 5 = .ok (.aload_n 0, 1) := by decide +kernel
theorem dX3_readsKind_6 : decode cX3_readsKind 6 = .ok (.invokevirtual 83, 3) := by decide +kernel
theorem dX3_readsKind_9 : decode cX3_readsKind 9 = .ok (.invokestatic 87, 3) := by decide +kernel
theorem dX3_readsKind_12 : decode cX3_readsKind 12 = .ok (.iastore, 1) := by decide +kernel
theorem dX3_readsKind_13 : decode cX3_readsKind 13 = .ok (.aload_n 0, 1) := by decide +kernel
theorem dX3_readsKind_14 : decode cX3_readsKind 14 = .ok (.dup, 1) := by decide +kernel
theorem dX3_readsKind_15 : decode cX3_readsKind 15 = .ok (.getfield 80, 3) := by decide +kernel
theorem dX3_readsKind_18 : decode cX3_readsKind 18 = .ok (.aload_n 0, 1) := by decide +kernel
theorem dX3_readsKind_19 : decode cX3_readsKind 19 = .ok (.getfield 31, 3) := by decide +kernel
theorem dX3_readsKind_22 : decode cX3_readsKind 22 = .ok (.iconst 0, 1) := by decide +kernel
theorem dX3_readsKind_23 : decode cX3_readsKind 23 = .ok (.iaload, 1) := by decide +kernel
theorem dX3_readsKind_24 : decode cX3_readsKind 24 = .ok (.ifCond .ge 7, 3) := by decide +kernel
theorem dX3_readsKind_27 : decode cX3_readsKind 27 = .ok (.iconst 0, 1) := by decide +kernel
theorem dX3_readsKind_28 : decode cX3_readsKind 28 = .ok (.goto 4, 3) := by decide +kernel
theorem dX3_readsKind_31 : decode cX3_readsKind 31 = .ok (.iconst 1, 1) := by decide +kernel
theorem dX3_readsKind_32 : decode cX3_readsKind 32 = .ok (.iadd, 1) := by decide +kernel
theorem dX3_readsKind_33 : decode cX3_readsKind 33 = .ok (.putfield 80, 3) := by decide +kernel
theorem dX3_readsKind_36 : decode cX3_readsKind 36 = .ok (.aload_n 0, 1) := by decide +kernel
theorem dX3_readsKind_37 : decode cX3_readsKind 37 = .ok (.getfield 31, 3) := by decide +kernel
theorem dX3_readsKind_40 : decode cX3_readsKind 40 = .ok (.iconst 0, 1) := by decide +kernel
theorem dX3_readsKind_41 : decode cX3_readsKind 41 = .ok (.iaload, 1) := by decide +kernel
theorem dX3_readsKind_42 : decode cX3_readsKind 42 = .ok (.ifCond .lt 7, 3) := by decide +kernel
theorem dX3_readsKind_45 : decode cX3_readsKind 45 = .ok (.iconst 1, 1) := by decide +kernel
theorem dX3_readsKind_46 : decode cX3_readsKind 46 = .ok (.goto 4, 3) := by decide +kernel
theorem dX3_readsKind_49 : decode cX3_readsKind 49 = .ok (.iconst 0, 1) := by decide +kernel
theorem dX3_readsKind_50 : decode cX3_readsKind 50 = .ok (.ireturn, 1) := by decide +kernel
theorem dX3_readsStatement_0 : decode cX3_readsStatement 0 = .ok (.aload_n 0, 1) := by decide +kernel
theorem dX3_readsStatement_1 : decode cX3_readsStatement 1 = .ok (.invokevirtual 83, 3) := by decide +kernel
theorem dX3_readsStatement_4 : decode cX3_readsStatement 4 = .ok (.istore_n 1, 1) := by decide +kernel
theorem dX3_readsStatement_5 : decode cX3_readsStatement 5 = .ok (.aload_n 0, 1) := by decide +kernel
theorem dX3_readsStatement_6 : decode cX3_readsStatement 6 = .ok (.dup, 1) := by decide +kernel
theorem dX3_readsStatement_7 : decode cX3_readsStatement 7 = .ok (.getfield 80, 3) := by decide +kernel
theorem dX3_readsStatement_10 : decode cX3_readsStatement 10 = .ok (.iconst 1, 1) := by decide +kernel
theorem dX3_readsStatement_11 : decode cX3_readsStatement 11 = .ok (.iadd, 1) := by decide +kernel
theorem dX3_readsStatement_12 : decode cX3_readsStatement 12 = .ok (.putfield 80, 3) := by decide +kernel
theorem dX3_readsStatement_15 : decode cX3_readsStatement 15 = .ok (.iload_n 1, 1) := by decide +kernel
theorem dX3_readsStatement_16 : decode cX3_readsStatement 16 = .ok (.tableswitch 196 102 119 #[122, 149, 176, 196, 196, 196, 176, 196, 196, 196, 88, 196, 196, 186, 196, 196, 196, 176], 88) := by decide +kernel
theorem dX3_readsStatement_104 : decode cX3_readsStatement 104 = .ok (.aload_n 0, 1) := by decide +kernel
theorem dX3_readsStatement_105 : decode cX3_readsStatement 105 = .ok (.invokevirtual 90, 3) := by decide +kernel
theorem dX3_readsStatement_108 : decode cX3_readsStatement 108 = .ok (.ifCond .eq 25, 3) := by decide +kernel
theorem dX3_readsStatement_111 : decode cX3_readsStatement 111 = .ok (.aload_n 0, 1) := by decide +kernel
theorem dX3_readsStatement_112 : decode cX3_readsStatement 112 = .ok (.iconst 1, 1) := by decide +kernel
theorem dX3_readsStatement_113 : decode cX3_readsStatement 113 = .ok (.iconst 1, 1) := by decide +kernel
theorem dX3_readsStatement_114 : decode cX3_readsStatement 114 = .ok (.invokevirtual 94, 3) := by decide +kernel
theorem dX3_readsStatement_117 : decode cX3_readsStatement 117 = .ok (.ifCond .eq 16, 3) := by decide +kernel
theorem dX3_readsStatement_120 : decode cX3_readsStatement 120 = .ok (.aload_n 0, 1) := by decide +kernel
theorem dX3_readsStatement_121 : decode cX3_readsStatement 121 = .ok (.iconst 2, 1) := by decide +kernel
theorem dX3_readsStatement_122 : decode cX3_readsStatement 122 = .ok (.iconst 1, 1) := by decide +kernel
theorem dX3_readsStatement_123 : decode cX3_readsStatement 123 = .ok (.invokevirtual 94, 3) := by decide +kernel
theorem dX3_readsStatement_126 : decode cX3_readsStatement 126 = .ok (.ifCond .eq 7, 3) := by decide +kernel
theorem dX3_readsStatement_129 : decode cX3_readsStatement 129 = .ok (.iconst 1, 1) := by decide +kernel
theorem dX3_readsStatement_130 : decode cX3_readsStatement 130 = .ok (.goto 4, 3) := by decide +kernel
theorem dX3_readsStatement_133 : decode cX3_readsStatement 133 = .ok (.iconst 0, 1) := by decide +kernel
theorem dX3_readsStatement_134 : decode cX3_readsStatement 134 = .ok (.istore_n 2, 1) := by decide +kernel
theorem dX3_readsStatement_135 : decode cX3_readsStatement 135 = .ok (.goto 89, 3) := by decide +kernel
theorem dX3_readsStatement_138 : decode cX3_readsStatement 138 = .ok (.aload_n 0, 1) := by decide +kernel
theorem dX3_readsStatement_139 : decode cX3_readsStatement 139 = .ok (.iconst 0, 1) := by decide +kernel
theorem dX3_readsStatement_140 : decode cX3_readsStatement 140 = .ok (.iconst 1, 1) := by decide +kernel
theorem dX3_readsStatement_141 : decode cX3_readsStatement 141 = .ok (.invokevirtual 94, 3) := by decide +kernel
theorem dX3_readsStatement_144 : decode cX3_readsStatement 144 = .ok (.ifCond .eq 16, 3) := by decide +kernel
theorem dX3_readsStatement_147 : decode cX3_readsStatement 147 = .ok (.aload_n 0, 1) := by decide +kernel
theorem dX3_readsStatement_148 : decode cX3_readsStatement 148 = .ok (.iconst 1, 1) := by decide +kernel
theorem dX3_readsStatement_149 : decode cX3_readsStatement 149 = .ok (.iconst 1, 1) := by decide +kernel
theorem dX3_readsStatement_150 : decode cX3_readsStatement 150 = .ok (.invokevirtual 94, 3) := by decide +kernel
theorem dX3_readsStatement_153 : decode cX3_readsStatement 153 = .ok (.ifCond .eq 7, 3) := by decide +kernel
theorem dX3_readsStatement_156 : decode cX3_readsStatement 156 = .ok (.iconst 1, 1) := by decide +kernel
theorem dX3_readsStatement_157 : decode cX3_readsStatement 157 = .ok (.goto 4, 3) := by decide +kernel
theorem dX3_readsStatement_160 : decode cX3_readsStatement 160 = .ok (.iconst 0, 1) := by decide +kernel
theorem dX3_readsStatement_161 : decode cX3_readsStatement 161 = .ok (.istore_n 2, 1) := by decide +kernel
theorem dX3_readsStatement_162 : decode cX3_readsStatement 162 = .ok (.goto 62, 3) := by decide +kernel
theorem dX3_readsStatement_165 : decode cX3_readsStatement 165 = .ok (.aload_n 0, 1) := by decide +kernel
theorem dX3_readsStatement_166 : decode cX3_readsStatement 166 = .ok (.iconst 0, 1) := by decide +kernel
theorem dX3_readsStatement_167 : decode cX3_readsStatement 167 = .ok (.iconst 1, 1) := by decide +kernel
theorem dX3_readsStatement_168 : decode cX3_readsStatement 168 = .ok (.invokevirtual 94, 3) := by decide +kernel
theorem dX3_readsStatement_171 : decode cX3_readsStatement 171 = .ok (.ifCond .eq 16, 3) := by decide +kernel
theorem dX3_readsStatement_174 : decode cX3_readsStatement 174 = .ok (.aload_n 0, 1) := by decide +kernel
theorem dX3_readsStatement_175 : decode cX3_readsStatement 175 = .ok (.iconst 1, 1) := by decide +kernel
theorem dX3_readsStatement_176 : decode cX3_readsStatement 176 = .ok (.iconst 2, 1) := by decide +kernel
theorem dX3_readsStatement_177 : decode cX3_readsStatement 177 = .ok (.invokevirtual 94, 3) := by decide +kernel
theorem dX3_readsStatement_180 : decode cX3_readsStatement 180 = .ok (.ifCond .eq 7, 3) := by decide +kernel
theorem dX3_readsStatement_183 : decode cX3_readsStatement 183 = .ok (.iconst 1, 1) := by decide +kernel
theorem dX3_readsStatement_184 : decode cX3_readsStatement 184 = .ok (.goto 4, 3) := by decide +kernel
theorem dX3_readsStatement_187 : decode cX3_readsStatement 187 = .ok (.iconst 0, 1) := by decide +kernel
theorem dX3_readsStatement_188 : decode cX3_readsStatement 188 = .ok (.istore_n 2, 1) := by decide +kernel
theorem dX3_readsStatement_189 : decode cX3_readsStatement 189 = .ok (.goto 35, 3) := by decide +kernel
theorem dX3_readsStatement_192 : decode cX3_readsStatement 192 = .ok (.aload_n 0, 1) := by decide +kernel
theorem dX3_readsStatement_193 : decode cX3_readsStatement 193 = .ok (.iconst 0, 1) := by decide +kernel
theorem dX3_readsStatement_194 : decode cX3_readsStatement 194 = .ok (.iconst 2, 1) := by decide +kernel
theorem dX3_readsStatement_195 : decode cX3_readsStatement 195 = .ok (.invokevirtual 94, 3) := by decide +kernel
theorem dX3_readsStatement_198 : decode cX3_readsStatement 198 = .ok (.istore_n 2, 1) := by decide +kernel
theorem dX3_readsStatement_199 : decode cX3_readsStatement 199 = .ok (.goto 25, 3) := by decide +kernel
theorem dX3_readsStatement_202 : decode cX3_readsStatement 202 = .ok (.aload_n 0, 1) := by decide +kernel
theorem dX3_readsStatement_203 : decode cX3_readsStatement 203 = .ok (.iconst 0, 1) := by decide +kernel
theorem dX3_readsStatement_204 : decode cX3_readsStatement 204 = .ok (.iconst 1, 1) := by decide +kernel
theorem dX3_readsStatement_205 : decode cX3_readsStatement 205 = .ok (.invokevirtual 94, 3) := by decide +kernel
theorem dX3_readsStatement_208 : decode cX3_readsStatement 208 = .ok (.istore_n 2, 1) := by decide +kernel
theorem dX3_readsStatement_209 : decode cX3_readsStatement 209 = .ok (.goto 15, 3) := by decide +kernel
theorem dX3_readsStatement_212 : decode cX3_readsStatement 212 = .ok (.aload_n 0, 1) := by decide +kernel
theorem dX3_readsStatement_213 : decode cX3_readsStatement 213 = .ok (.dup, 1) := by decide +kernel
theorem dX3_readsStatement_214 : decode cX3_readsStatement 214 = .ok (.getfield 80, 3) := by decide +kernel
theorem dX3_readsStatement_217 : decode cX3_readsStatement 217 = .ok (.iconst 1, 1) := by decide +kernel
theorem dX3_readsStatement_218 : decode cX3_readsStatement 218 = .ok (.isub, 1) := by decide +kernel
theorem dX3_readsStatement_219 : decode cX3_readsStatement 219 = .ok (.putfield 80, 3) := by decide +kernel
theorem dX3_readsStatement_222 : decode cX3_readsStatement 222 = .ok (.iconst 0, 1) := by decide +kernel
theorem dX3_readsStatement_223 : decode cX3_readsStatement 223 = .ok (.ireturn, 1) := by decide +kernel
theorem dX3_readsStatement_224 : decode cX3_readsStatement 224 = .ok (.iload_n 2, 1) := by decide +kernel
theorem dX3_readsStatement_225 : decode cX3_readsStatement 225 = .ok (.ifCond .eq 12, 3) := by decide +kernel
theorem dX3_readsStatement_228 : decode cX3_readsStatement 228 = .ok (.aload_n 0, 1) := by decide +kernel
theorem dX3_readsStatement_229 : decode cX3_readsStatement 229 = .ok (.invokevirtual 83, 3) := by decide +kernel
theorem dX3_readsStatement_232 : decode cX3_readsStatement 232 = .ok (.bipush 59, 2) := by decide +kernel
theorem dX3_readsStatement_234 : decode cX3_readsStatement 234 = .ok (.if_icmp .eq 5, 3) := by decide +kernel
theorem dX3_readsStatement_237 : decode cX3_readsStatement 237 = .ok (.iconst 0, 1) := by decide +kernel
theorem dX3_readsStatement_238 : decode cX3_readsStatement 238 = .ok (.ireturn, 1) := by decide +kernel
theorem dX3_readsStatement_239 : decode cX3_readsStatement 239 = .ok (.aload_n 0, 1) := by decide +kernel
theorem dX3_readsStatement_240 : decode cX3_readsStatement 240 = .ok (.dup, 1) := by decide +kernel
theorem dX3_readsStatement_241 : decode cX3_readsStatement 241 = .ok (.getfield 80, 3) := by decide +kernel
theorem dX3_readsStatement_244 : decode cX3_readsStatement 244 = .ok (.iconst 1, 1) := by decide +kernel
theorem dX3_readsStatement_245 : decode cX3_readsStatement 245 = .ok (.iadd, 1) := by decide +kernel
theorem dX3_readsStatement_246 : decode cX3_readsStatement 246 = .ok (.putfield 80, 3) := by decide +kernel
theorem dX3_readsStatement_249 : decode cX3_readsStatement 249 = .ok (.iconst 1, 1) := by decide +kernel
theorem dX3_readsStatement_250 : decode cX3_readsStatement 250 = .ok (.ireturn, 1) := by decide +kernel
theorem dX3_addsPerson_0 : decode cX3_addsPerson 0 = .ok (.aload_n 0, 1) := by decide +kernel
theorem dX3_addsPerson_1 : decode cX3_addsPerson 1 = .ok (.getfield 9, 3) := by decide +kernel
theorem dX3_addsPerson_4 : decode cX3_addsPerson 4 = .ok (.iconst 0, 1) := by decide +kernel
theorem dX3_addsPerson_5 : decode cX3_addsPerson 5 = .ok (.iaload, 1) := by decide +kernel
theorem dX3_addsPerson_6 : decode cX3_addsPerson 6 = .ok (.bipush 6, 2) := by decide +kernel
theorem dX3_addsPerson_8 : decode cX3_addsPerson 8 = .ok (.if_icmp .ne 5, 3) := by decide +kernel
theorem dX3_addsPerson_11 : decode cX3_addsPerson 11 = .ok (.iconst 0, 1) := by decide +kernel
theorem dX3_addsPerson_12 : decode cX3_addsPerson 12 = .ok (.ireturn, 1) := by decide +kernel
theorem dX3_addsPerson_13 : decode cX3_addsPerson 13 = .ok (.aload_n 0, 1) := by decide +kernel
theorem dX3_addsPerson_14 : decode cX3_addsPerson 14 = .ok (.getfield 9, 3) := by decide +kernel
theorem dX3_addsPerson_17 : decode cX3_addsPerson 17 = .ok (.iconst 0, 1) := by decide +kernel
theorem dX3_addsPerson_18 : decode cX3_addsPerson 18 = .ok (.iaload, 1) := by decide +kernel
theorem dX3_addsPerson_19 : decode cX3_addsPerson 19 = .ok (.istore_n 1, 1) := by decide +kernel
theorem dX3_addsPerson_20 : decode cX3_addsPerson 20 = .ok (.iconst 0, 1) := by decide +kernel
theorem dX3_addsPerson_21 : decode cX3_addsPerson 21 = .ok (.istore_n 2, 1) := by decide +kernel
theorem dX3_addsPerson_22 : decode cX3_addsPerson 22 = .ok (.iload_n 2, 1) := by decide +kernel
theorem dX3_addsPerson_23 : decode cX3_addsPerson 23 = .ok (.iconst 3, 1) := by decide +kernel
theorem dX3_addsPerson_24 : decode cX3_addsPerson 24 = .ok (.if_icmp .ge 25, 3) := by decide +kernel
theorem dX3_addsPerson_27 : decode cX3_addsPerson 27 = .ok (.aload_n 0, 1) := by decide +kernel
theorem dX3_addsPerson_28 : decode cX3_addsPerson 28 = .ok (.getfield 9, 3) := by decide +kernel
theorem dX3_addsPerson_31 : decode cX3_addsPerson 31 = .ok (.iload_n 1, 1) := by decide +kernel
theorem dX3_addsPerson_32 : decode cX3_addsPerson 32 = .ok (.iload_n 2, 1) := by decide +kernel
theorem dX3_addsPerson_33 : decode cX3_addsPerson 33 = .ok (.invokestatic 52, 3) := by decide +kernel
theorem dX3_addsPerson_36 : decode cX3_addsPerson 36 = .ok (.aload_n 0, 1) := by decide +kernel
theorem dX3_addsPerson_37 : decode cX3_addsPerson 37 = .ok (.getfield 31, 3) := by decide +kernel
theorem dX3_addsPerson_40 : decode cX3_addsPerson 40 = .ok (.iload_n 2, 1) := by decide +kernel
theorem dX3_addsPerson_41 : decode cX3_addsPerson 41 = .ok (.iaload, 1) := by decide +kernel
theorem dX3_addsPerson_42 : decode cX3_addsPerson 42 = .ok (.iastore, 1) := by decide +kernel
theorem dX3_addsPerson_43 : decode cX3_addsPerson 43 = .ok (.iinc 2 1, 3) := by decide +kernel
theorem dX3_addsPerson_46 : decode cX3_addsPerson 46 = .ok (.goto (-24), 3) := by decide +kernel
theorem dX3_addsPerson_49 : decode cX3_addsPerson 49 = .ok (.aload_n 0, 1) := by decide +kernel
theorem dX3_addsPerson_50 : decode cX3_addsPerson 50 = .ok (.getfield 9, 3) := by decide +kernel
theorem dX3_addsPerson_53 : decode cX3_addsPerson 53 = .ok (.iload_n 1, 1) := by decide +kernel
theorem dX3_addsPerson_54 : decode cX3_addsPerson 54 = .ok (.iconst 3, 1) := by decide +kernel
theorem dX3_addsPerson_55 : decode cX3_addsPerson 55 = .ok (.invokestatic 52, 3) := by decide +kernel
theorem dX3_addsPerson_58 : decode cX3_addsPerson 58 = .ok (.iconst 5, 1) := by decide +kernel
theorem dX3_addsPerson_59 : decode cX3_addsPerson 59 = .ok (.iastore, 1) := by decide +kernel
theorem dX3_addsPerson_60 : decode cX3_addsPerson 60 = .ok (.aload_n 0, 1) := by decide +kernel
theorem dX3_addsPerson_61 : decode cX3_addsPerson 61 = .ok (.getfield 9, 3) := by decide +kernel
theorem dX3_addsPerson_64 : decode cX3_addsPerson 64 = .ok (.iload_n 1, 1) := by decide +kernel
theorem dX3_addsPerson_65 : decode cX3_addsPerson 65 = .ok (.iconst 4, 1) := by decide +kernel
theorem dX3_addsPerson_66 : decode cX3_addsPerson 66 = .ok (.invokestatic 52, 3) := by decide +kernel
theorem dX3_addsPerson_69 : decode cX3_addsPerson 69 = .ok (.iconst 0, 1) := by decide +kernel
theorem dX3_addsPerson_70 : decode cX3_addsPerson 70 = .ok (.iastore, 1) := by decide +kernel
theorem dX3_addsPerson_71 : decode cX3_addsPerson 71 = .ok (.aload_n 0, 1) := by decide +kernel
theorem dX3_addsPerson_72 : decode cX3_addsPerson 72 = .ok (.getfield 9, 3) := by decide +kernel
theorem dX3_addsPerson_75 : decode cX3_addsPerson 75 = .ok (.iload_n 1, 1) := by decide +kernel
theorem dX3_addsPerson_76 : decode cX3_addsPerson 76 = .ok (.iconst 5, 1) := by decide +kernel
theorem dX3_addsPerson_77 : decode cX3_addsPerson 77 = .ok (.invokestatic 52, 3) := by decide +kernel
theorem dX3_addsPerson_80 : decode cX3_addsPerson 80 = .ok (.iconst 0, 1) := by decide +kernel
theorem dX3_addsPerson_81 : decode cX3_addsPerson 81 = .ok (.iastore, 1) := by decide +kernel
theorem dX3_addsPerson_82 : decode cX3_addsPerson 82 = .ok (.aload_n 0, 1) := by decide +kernel
theorem dX3_addsPerson_83 : decode cX3_addsPerson 83 = .ok (.getfield 9, 3) := by decide +kernel
theorem dX3_addsPerson_86 : decode cX3_addsPerson 86 = .ok (.iload_n 1, 1) := by decide +kernel
theorem dX3_addsPerson_87 : decode cX3_addsPerson 87 = .ok (.bipush 6, 2) := by decide +kernel
theorem dX3_addsPerson_89 : decode cX3_addsPerson 89 = .ok (.invokestatic 52, 3) := by decide +kernel
theorem dX3_addsPerson_92 : decode cX3_addsPerson 92 = .ok (.iload_n 1, 1) := by decide +kernel
theorem dX3_addsPerson_93 : decode cX3_addsPerson 93 = .ok (.iastore, 1) := by decide +kernel
theorem dX3_addsPerson_94 : decode cX3_addsPerson 94 = .ok (.aload_n 0, 1) := by decide +kernel
theorem dX3_addsPerson_95 : decode cX3_addsPerson 95 = .ok (.getfield 9, 3) := by decide +kernel
theorem dX3_addsPerson_98 : decode cX3_addsPerson 98 = .ok (.iconst 0, 1) := by decide +kernel
theorem dX3_addsPerson_99 : decode cX3_addsPerson 99 = .ok (.dup2, 1) := by decide +kernel
theorem dX3_addsPerson_100 : decode cX3_addsPerson 100 = .ok (.iaload, 1) := by decide +kernel
theorem dX3_addsPerson_101 : decode cX3_addsPerson 101 = .ok (.iconst 1, 1) := by decide +kernel
theorem dX3_addsPerson_102 : decode cX3_addsPerson 102 = .ok (.iadd, 1) := by decide +kernel
theorem dX3_addsPerson_103 : decode cX3_addsPerson 103 = .ok (.iastore, 1) := by decide +kernel
theorem dX3_addsPerson_104 : decode cX3_addsPerson 104 = .ok (.iconst 1, 1) := by decide +kernel
theorem dX3_addsPerson_105 : decode cX3_addsPerson 105 = .ok (.ireturn, 1) := by decide +kernel
theorem dX3_isDone_0 : decode cX3_isDone 0 = .ok (.aload_n 0, 1) := by decide +kernel
theorem dX3_isDone_1 : decode cX3_isDone 1 = .ok (.getfield 31, 3) := by decide +kernel
theorem dX3_isDone_4 : decode cX3_isDone 4 = .ok (.iconst 0, 1) := by decide +kernel
theorem dX3_isDone_5 : decode cX3_isDone 5 = .ok (.iaload, 1) := by decide +kernel
theorem dX3_isDone_6 : decode cX3_isDone 6 = .ok (.istore_n 2, 1) := by decide +kernel
theorem dX3_isDone_7 : decode cX3_isDone 7 = .ok (.aload_n 0, 1) := by decide +kernel
theorem dX3_isDone_8 : decode cX3_isDone 8 = .ok (.getfield 31, 3) := by decide +kernel
theorem dX3_isDone_11 : decode cX3_isDone 11 = .ok (.iconst 1, 1) := by decide +kernel
theorem dX3_isDone_12 : decode cX3_isDone 12 = .ok (.iaload, 1) := by decide +kernel
theorem dX3_isDone_13 : decode cX3_isDone 13 = .ok (.istore_n 3, 1) := by decide +kernel
theorem dX3_isDone_14 : decode cX3_isDone 14 = .ok (.iload_n 1, 1) := by decide +kernel
theorem dX3_isDone_15 : decode cX3_isDone 15 = .ok (.tableswitch 194 102 119 #[90, 120, 194, 194, 194, 194, 152, 194, 194, 194, 85, 194, 194, 171, 194, 194, 194, 143], 85) := by decide +kernel
theorem dX3_isDone_100 : decode cX3_isDone 100 = .ok (.aload_n 0, 1) := by decide +kernel
theorem dX3_isDone_101 : decode cX3_isDone 101 = .ok (.invokevirtual 97, 3) := by decide +kernel
theorem dX3_isDone_104 : decode cX3_isDone 104 = .ok (.ireturn, 1) := by decide +kernel
theorem dX3_isDone_105 : decode cX3_isDone 105 = .ok (.aload_n 0, 1) := by decide +kernel
theorem dX3_isDone_106 : decode cX3_isDone 106 = .ok (.iload_n 2, 1) := by decide +kernel
theorem dX3_isDone_107 : decode cX3_isDone 107 = .ok (.invokevirtual 100, 3) := by decide +kernel
theorem dX3_isDone_110 : decode cX3_isDone 110 = .ok (.ifCond .eq 9, 3) := by decide +kernel
theorem dX3_isDone_113 : decode cX3_isDone 113 = .ok (.iload_n 3, 1) := by decide +kernel
theorem dX3_isDone_114 : decode cX3_isDone 114 = .ok (.bipush 6, 2) := by decide +kernel
theorem dX3_isDone_116 : decode cX3_isDone 116 = .ok (.if_icmp .lt 5, 3) := by decide +kernel
theorem dX3_isDone_119 : decode cX3_isDone 119 = .ok (.iconst 0, 1) := by decide +kernel
theorem dX3_isDone_120 : decode cX3_isDone 120 = .ok (.ireturn, 1) := by decide +kernel
theorem dX3_isDone_121 : decode cX3_isDone 121 = .ok (.aload_n 0, 1) := by decide +kernel
theorem dX3_isDone_122 : decode cX3_isDone 122 = .ok (.getfield 9, 3) := by decide +kernel
theorem dX3_isDone_125 : decode cX3_isDone 125 = .ok (.iload_n 2, 1) := by decide +kernel
theorem dX3_isDone_126 : decode cX3_isDone 126 = .ok (.bipush 6, 2) := by decide +kernel
theorem dX3_isDone_128 : decode cX3_isDone 128 = .ok (.invokestatic 52, 3) := by decide +kernel
theorem dX3_isDone_131 : decode cX3_isDone 131 = .ok (.iload_n 3, 1) := by decide +kernel
theorem dX3_isDone_132 : decode cX3_isDone 132 = .ok (.iastore, 1) := by decide +kernel
theorem dX3_isDone_133 : decode cX3_isDone 133 = .ok (.iconst 1, 1) := by decide +kernel
theorem dX3_isDone_134 : decode cX3_isDone 134 = .ok (.ireturn, 1) := by decide +kernel
theorem dX3_isDone_135 : decode cX3_isDone 135 = .ok (.aload_n 0, 1) := by decide +kernel
theorem dX3_isDone_136 : decode cX3_isDone 136 = .ok (.iload_n 2, 1) := by decide +kernel
theorem dX3_isDone_137 : decode cX3_isDone 137 = .ok (.invokevirtual 100, 3) := by decide +kernel
theorem dX3_isDone_140 : decode cX3_isDone 140 = .ok (.ifCond .ne 5, 3) := by decide +kernel
theorem dX3_isDone_143 : decode cX3_isDone 143 = .ok (.iconst 0, 1) := by decide +kernel
theorem dX3_isDone_144 : decode cX3_isDone 144 = .ok (.ireturn, 1) := by decide +kernel
theorem dX3_isDone_145 : decode cX3_isDone 145 = .ok (.aload_n 0, 1) := by decide +kernel
theorem dX3_isDone_146 : decode cX3_isDone 146 = .ok (.getfield 9, 3) := by decide +kernel
theorem dX3_isDone_149 : decode cX3_isDone 149 = .ok (.iload_n 2, 1) := by decide +kernel
theorem dX3_isDone_150 : decode cX3_isDone 150 = .ok (.iconst 3, 1) := by decide +kernel
theorem dX3_isDone_151 : decode cX3_isDone 151 = .ok (.invokestatic 52, 3) := by decide +kernel
theorem dX3_isDone_154 : decode cX3_isDone 154 = .ok (.iload_n 3, 1) := by decide +kernel
theorem dX3_isDone_155 : decode cX3_isDone 155 = .ok (.iastore, 1) := by decide +kernel
theorem dX3_isDone_156 : decode cX3_isDone 156 = .ok (.iconst 1, 1) := by decide +kernel
theorem dX3_isDone_157 : decode cX3_isDone 157 = .ok (.ireturn, 1) := by decide +kernel
theorem dX3_isDone_158 : decode cX3_isDone 158 = .ok (.aload_n 0, 1) := by decide +kernel
theorem dX3_isDone_159 : decode cX3_isDone 159 = .ok (.getfield 9, 3) := by decide +kernel
theorem dX3_isDone_162 : decode cX3_isDone 162 = .ok (.iconst 2, 1) := by decide +kernel
theorem dX3_isDone_163 : decode cX3_isDone 163 = .ok (.iload_n 2, 1) := by decide +kernel
theorem dX3_isDone_164 : decode cX3_isDone 164 = .ok (.iastore, 1) := by decide +kernel
theorem dX3_isDone_165 : decode cX3_isDone 165 = .ok (.iconst 1, 1) := by decide +kernel
theorem dX3_isDone_166 : decode cX3_isDone 166 = .ok (.ireturn, 1) := by decide +kernel
theorem dX3_isDone_167 : decode cX3_isDone 167 = .ok (.aload_n 0, 1) := by decide +kernel
theorem dX3_isDone_168 : decode cX3_isDone 168 = .ok (.getfield 9, 3) := by decide +kernel
theorem dX3_isDone_171 : decode cX3_isDone 171 = .ok (.iconst 3, 1) := by decide +kernel
theorem dX3_isDone_172 : decode cX3_isDone 172 = .ok (.iload_n 2, 1) := by decide +kernel
theorem dX3_isDone_173 : decode cX3_isDone 173 = .ok (.iastore, 1) := by decide +kernel
theorem dX3_isDone_174 : decode cX3_isDone 174 = .ok (.iload_n 2, 1) := by decide +kernel
theorem dX3_isDone_175 : decode cX3_isDone 175 = .ok (.bipush 30, 2) := by decide +kernel
theorem dX3_isDone_177 : decode cX3_isDone 177 = .ok (.if_icmp .gt 7, 3) := by decide +kernel
theorem dX3_isDone_180 : decode cX3_isDone 180 = .ok (.iconst 1, 1) := by decide +kernel
theorem dX3_isDone_181 : decode cX3_isDone 181 = .ok (.goto 4, 3) := by decide +kernel
theorem dX3_isDone_184 : decode cX3_isDone 184 = .ok (.iconst 0, 1) := by decide +kernel
theorem dX3_isDone_185 : decode cX3_isDone 185 = .ok (.ireturn, 1) := by decide +kernel
theorem dX3_isDone_186 : decode cX3_isDone 186 = .ok (.aload_n 0, 1) := by decide +kernel
theorem dX3_isDone_187 : decode cX3_isDone 187 = .ok (.iload_n 2, 1) := by decide +kernel
theorem dX3_isDone_188 : decode cX3_isDone 188 = .ok (.invokevirtual 100, 3) := by decide +kernel
theorem dX3_isDone_191 : decode cX3_isDone 191 = .ok (.ifCond .ne 5, 3) := by decide +kernel
theorem dX3_isDone_194 : decode cX3_isDone 194 = .ok (.iconst 0, 1) := by decide +kernel
theorem dX3_isDone_195 : decode cX3_isDone 195 = .ok (.ireturn, 1) := by decide +kernel
theorem dX3_isDone_196 : decode cX3_isDone 196 = .ok (.aload_n 0, 1) := by decide +kernel
theorem dX3_isDone_197 : decode cX3_isDone 197 = .ok (.getfield 9, 3) := by decide +kernel
theorem dX3_isDone_200 : decode cX3_isDone 200 = .ok (.iload_n 2, 1) := by decide +kernel
theorem dX3_isDone_201 : decode cX3_isDone 201 = .ok (.iconst 4, 1) := by decide +kernel
theorem dX3_isDone_202 : decode cX3_isDone 202 = .ok (.invokestatic 52, 3) := by decide +kernel
theorem dX3_isDone_205 : decode cX3_isDone 205 = .ok (.iconst 1, 1) := by decide +kernel
theorem dX3_isDone_206 : decode cX3_isDone 206 = .ok (.iastore, 1) := by decide +kernel
theorem dX3_isDone_207 : decode cX3_isDone 207 = .ok (.iconst 1, 1) := by decide +kernel
theorem dX3_isDone_208 : decode cX3_isDone 208 = .ok (.ireturn, 1) := by decide +kernel
theorem dX3_isDone_209 : decode cX3_isDone 209 = .ok (.iload_n 2, 1) := by decide +kernel
theorem dX3_isDone_210 : decode cX3_isDone 210 = .ok (.iconst 1, 1) := by decide +kernel
theorem dX3_isDone_211 : decode cX3_isDone 211 = .ok (.bipush 60, 2) := by decide +kernel
theorem dX3_isDone_213 : decode cX3_isDone 213 = .ok (.invokestatic 40, 3) := by decide +kernel
theorem dX3_isDone_216 : decode cX3_isDone 216 = .ok (.ifCond .eq 17, 3) := by decide +kernel
theorem dX3_isDone_219 : decode cX3_isDone 219 = .ok (.aload_n 0, 1) := by decide +kernel
theorem dX3_isDone_220 : decode cX3_isDone 220 = .ok (.getfield 9, 3) := by decide +kernel
theorem dX3_isDone_223 : decode cX3_isDone 223 = .ok (.iconst 1, 1) := by decide +kernel
theorem dX3_isDone_224 : decode cX3_isDone 224 = .ok (.iaload, 1) := by decide +kernel
theorem dX3_isDone_225 : decode cX3_isDone 225 = .ok (.iload_n 2, 1) := by decide +kernel
theorem dX3_isDone_226 : decode cX3_isDone 226 = .ok (.iadd, 1) := by decide +kernel
theorem dX3_isDone_227 : decode cX3_isDone 227 = .ok (.sipush 999, 3) := by decide +kernel
theorem dX3_isDone_230 : decode cX3_isDone 230 = .ok (.if_icmp .le 5, 3) := by decide +kernel
theorem dX3_isDone_233 : decode cX3_isDone 233 = .ok (.iconst 0, 1) := by decide +kernel
theorem dX3_isDone_234 : decode cX3_isDone 234 = .ok (.ireturn, 1) := by decide +kernel
theorem dX3_isDone_235 : decode cX3_isDone 235 = .ok (.aload_n 0, 1) := by decide +kernel
theorem dX3_isDone_236 : decode cX3_isDone 236 = .ok (.getfield 9, 3) := by decide +kernel
theorem dX3_isDone_239 : decode cX3_isDone 239 = .ok (.iload_n 2, 1) := by decide +kernel
theorem dX3_isDone_240 : decode cX3_isDone 240 = .ok (.invokestatic 104, 3) := by decide +kernel
theorem dX3_isDone_243 : decode cX3_isDone 243 = .ok (.iconst 1, 1) := by decide +kernel
theorem dX3_isDone_244 : decode cX3_isDone 244 = .ok (.ireturn, 1) := by decide +kernel
theorem dX3_hill_0 : decode cX3_hill 0 = .ok (.aload_n 0, 1) := by decide +kernel
theorem dX3_hill_1 : decode cX3_hill 1 = .ok (.iconst 0, 1) := by decide +kernel
theorem dX3_hill_2 : decode cX3_hill 2 = .ok (.putfield 80, 3) := by decide +kernel
theorem dX3_hill_5 : decode cX3_hill 5 = .ok (.iconst 0, 1) := by decide +kernel
theorem dX3_hill_6 : decode cX3_hill 6 = .ok (.istore_n 1, 1) := by decide +kernel
theorem dX3_hill_7 : decode cX3_hill 7 = .ok (.bipush (-9), 2) := by decide +kernel
theorem dX3_hill_9 : decode cX3_hill 9 = .ok (.istore_n 2, 1) := by decide +kernel
theorem dX3_hill_10 : decode cX3_hill 10 = .ok (.aload_n 0, 1) := by decide +kernel
theorem dX3_hill_11 : decode cX3_hill 11 = .ok (.invokevirtual 107, 3) := by decide +kernel
theorem dX3_hill_14 : decode cX3_hill 14 = .ok (.ifCond .ne 12, 3) := by decide +kernel
theorem dX3_hill_17 : decode cX3_hill 17 = .ok (.sipush (-1000), 3) := by decide +kernel
theorem dX3_hill_20 : decode cX3_hill 20 = .ok (.aload_n 0, 1) := by decide +kernel
theorem dX3_hill_21 : decode cX3_hill 21 = .ok (.getfield 80, 3) := by decide +kernel
theorem dX3_hill_24 : decode cX3_hill 24 = .ok (.isub, 1) := by decide +kernel
theorem dX3_hill_25 : decode cX3_hill 25 = .ok (.istore_n 2, 1) := by decide +kernel
theorem dX3_hill_26 : decode cX3_hill 26 = .ok (.iinc 1 1, 3) := by decide +kernel
theorem dX3_hill_29 : decode cX3_hill 29 = .ok (.iload_n 2, 1) := by decide +kernel
theorem dX3_hill_30 : decode cX3_hill 30 = .ok (.bipush (-9), 2) := by decide +kernel
theorem dX3_hill_32 : decode cX3_hill 32 = .ok (.if_icmp .ne 14, 3) := by decide +kernel
theorem dX3_hill_35 : decode cX3_hill 35 = .ok (.aload_n 0, 1) := by decide +kernel
theorem dX3_hill_36 : decode cX3_hill 36 = .ok (.getfield 80, 3) := by decide +kernel
theorem dX3_hill_39 : decode cX3_hill 39 = .ok (.aload_n 0, 1) := by decide +kernel
theorem dX3_hill_40 : decode cX3_hill 40 = .ok (.getfield 76, 3) := by decide +kernel
theorem dX3_hill_43 : decode cX3_hill 43 = .ok (.if_icmp .lt (-33), 3) := by decide +kernel
theorem dX3_hill_46 : decode cX3_hill 46 = .ok (.aload_n 0, 1) := by decide +kernel
theorem dX3_hill_47 : decode cX3_hill 47 = .ok (.getfield 9, 3) := by decide +kernel
theorem dX3_hill_50 : decode cX3_hill 50 = .ok (.aload_n 0, 1) := by decide +kernel
theorem dX3_hill_51 : decode cX3_hill 51 = .ok (.getfield 19, 3) := by decide +kernel
theorem dX3_hill_54 : decode cX3_hill 54 = .ok (.invokestatic 110, 3) := by decide +kernel
theorem dX3_hill_57 : decode cX3_hill 57 = .ok (.aload_n 0, 1) := by decide +kernel
theorem dX3_hill_58 : decode cX3_hill 58 = .ok (.iconst 0, 1) := by decide +kernel
theorem dX3_hill_59 : decode cX3_hill 59 = .ok (.putfield 80, 3) := by decide +kernel
theorem dX3_hill_62 : decode cX3_hill 62 = .ok (.iload_n 2, 1) := by decide +kernel
theorem dX3_hill_63 : decode cX3_hill 63 = .ok (.bipush (-9), 2) := by decide +kernel
theorem dX3_hill_65 : decode cX3_hill 65 = .ok (.if_icmp .ne 63, 3) := by decide +kernel
theorem dX3_hill_68 : decode cX3_hill 68 = .ok (.aload_n 0, 1) := by decide +kernel
theorem dX3_hill_69 : decode cX3_hill 69 = .ok (.getfield 80, 3) := by decide +kernel
theorem dX3_hill_72 : decode cX3_hill 72 = .ok (.aload_n 0, 1) := by decide +kernel
theorem dX3_hill_73 : decode cX3_hill 73 = .ok (.getfield 76, 3) := by decide +kernel
theorem dX3_hill_76 : decode cX3_hill 76 = .ok (.if_icmp .ge 52, 3) := by decide +kernel
theorem dX3_hill_79 : decode cX3_hill 79 = .ok (.aload_n 0, 1) := by decide +kernel
theorem dX3_hill_80 : decode cX3_hill 80 = .ok (.getfield 80, 3) := by decide +kernel
theorem dX3_hill_83 : decode cX3_hill 83 = .ok (.istore_n 3, 1) := by decide +kernel
theorem dX3_hill_84 : decode cX3_hill 84 = .ok (.aload_n 0, 1) := by decide +kernel
theorem dX3_hill_85 : decode cX3_hill 85 = .ok (.invokevirtual 83, 3) := by decide +kernel
theorem dX3_hill_88 : decode cX3_hill 88 = .ok (.istore 4, 2) := by decide +kernel
theorem dX3_hill_90 : decode cX3_hill 90 = .ok (.aload_n 0, 1) := by decide +kernel
theorem dX3_hill_91 : decode cX3_hill 91 = .ok (.invokevirtual 107, 3) := by decide +kernel
theorem dX3_hill_94 : decode cX3_hill 94 = .ok (.istore 5, 2) := by decide +kernel
theorem dX3_hill_96 : decode cX3_hill 96 = .ok (.aload_n 0, 1) := by decide +kernel
theorem dX3_hill_97 : decode cX3_hill 97 = .ok (.iload 4, 2) := by decide +kernel
theorem dX3_hill_99 : decode cX3_hill 99 = .ok (.invokevirtual 114, 3) := by decide +kernel
theorem dX3_hill_102 : decode cX3_hill 102 = .ok (.ifCond .eq 6, 3) := by decide +kernel
theorem dX3_hill_105 : decode cX3_hill 105 = .ok (.goto (-43), 3) := by decide +kernel
theorem dX3_hill_108 : decode cX3_hill 108 = .ok (.sipush (-2000), 3) := by decide +kernel
theorem dX3_hill_111 : decode cX3_hill 111 = .ok (.iload_n 3, 1) := by decide +kernel
theorem dX3_hill_112 : decode cX3_hill 112 = .ok (.isub, 1) := by decide +kernel
theorem dX3_hill_113 : decode cX3_hill 113 = .ok (.istore_n 2, 1) := by decide +kernel
theorem dX3_hill_114 : decode cX3_hill 114 = .ok (.aload_n 0, 1) := by decide +kernel
theorem dX3_hill_115 : decode cX3_hill 115 = .ok (.getfield 19, 3) := by decide +kernel
theorem dX3_hill_118 : decode cX3_hill 118 = .ok (.aload_n 0, 1) := by decide +kernel
theorem dX3_hill_119 : decode cX3_hill 119 = .ok (.getfield 9, 3) := by decide +kernel
theorem dX3_hill_122 : decode cX3_hill 122 = .ok (.invokestatic 110, 3) := by decide +kernel
theorem dX3_hill_125 : decode cX3_hill 125 = .ok (.goto (-63), 3) := by decide +kernel
theorem dX3_hill_128 : decode cX3_hill 128 = .ok (.aload_n 0, 1) := by decide +kernel
theorem dX3_hill_129 : decode cX3_hill 129 = .ok (.iconst 0, 1) := by decide +kernel
theorem dX3_hill_130 : decode cX3_hill 130 = .ok (.putfield 76, 3) := by decide +kernel
theorem dX3_hill_133 : decode cX3_hill 133 = .ok (.iload_n 2, 1) := by decide +kernel
theorem dX3_hill_134 : decode cX3_hill 134 = .ok (.bipush (-9), 2) := by decide +kernel
theorem dX3_hill_136 : decode cX3_hill 136 = .ok (.if_icmp .ne 7, 3) := by decide +kernel
theorem dX3_hill_139 : decode cX3_hill 139 = .ok (.iload_n 1, 1) := by decide +kernel
theorem dX3_hill_140 : decode cX3_hill 140 = .ok (.goto 4, 3) := by decide +kernel
theorem dX3_hill_143 : decode cX3_hill 143 = .ok (.iload_n 2, 1) := by decide +kernel
theorem dX3_hill_144 : decode cX3_hill 144 = .ok (.ireturn, 1) := by decide +kernel
theorem dX3_person_0 : decode cX3_person 0 = .ok (.aload_n 0, 1) := by decide +kernel
theorem dX3_person_1 : decode cX3_person 1 = .ok (.iload_n 1, 1) := by decide +kernel
theorem dX3_person_2 : decode cX3_person 2 = .ok (.invokevirtual 100, 3) := by decide +kernel
theorem dX3_person_5 : decode cX3_person 5 = .ok (.ifCond .ne 9, 3) := by decide +kernel
theorem dX3_person_8 : decode cX3_person 8 = .ok (.aload_n 0, 1) := by decide +kernel
theorem dX3_person_9 : decode cX3_person 9 = .ok (.iconst (-1), 1) := by decide +kernel
theorem dX3_person_10 : decode cX3_person 10 = .ok (.invokevirtual 36, 3) := by decide +kernel
theorem dX3_person_13 : decode cX3_person 13 = .ok (.ireturn, 1) := by decide +kernel
theorem dX3_person_14 : decode cX3_person 14 = .ok (.iload_n 2, 1) := by decide +kernel
theorem dX3_person_15 : decode cX3_person 15 = .ok (.iconst 0, 1) := by decide +kernel
theorem dX3_person_16 : decode cX3_person 16 = .ok (.bipush 6, 2) := by decide +kernel
theorem dX3_person_18 : decode cX3_person 18 = .ok (.invokestatic 40, 3) := by decide +kernel
theorem dX3_person_21 : decode cX3_person 21 = .ok (.ifCond .eq 14, 3) := by decide +kernel
theorem dX3_person_24 : decode cX3_person 24 = .ok (.aload_n 0, 1) := by decide +kernel
theorem dX3_person_25 : decode cX3_person 25 = .ok (.getfield 9, 3) := by decide +kernel
theorem dX3_person_28 : decode cX3_person 28 = .ok (.iload_n 1, 1) := by decide +kernel
theorem dX3_person_29 : decode cX3_person 29 = .ok (.iload_n 2, 1) := by decide +kernel
theorem dX3_person_30 : decode cX3_person 30 = .ok (.invokestatic 52, 3) := by decide +kernel
theorem dX3_person_33 : decode cX3_person 33 = .ok (.iaload, 1) := by decide +kernel
theorem dX3_person_34 : decode cX3_person 34 = .ok (.ireturn, 1) := by decide +kernel
theorem dX3_person_35 : decode cX3_person 35 = .ok (.iload_n 2, 1) := by decide +kernel
theorem dX3_person_36 : decode cX3_person 36 = .ok (.bipush 7, 2) := by decide +kernel
theorem dX3_person_38 : decode cX3_person 38 = .ok (.if_icmp .ne 14, 3) := by decide +kernel
theorem dX3_person_41 : decode cX3_person 41 = .ok (.aload_n 0, 1) := by decide +kernel
theorem dX3_person_42 : decode cX3_person 42 = .ok (.getfield 9, 3) := by decide +kernel
theorem dX3_person_45 : decode cX3_person 45 = .ok (.iload_n 1, 1) := by decide +kernel
theorem dX3_person_46 : decode cX3_person 46 = .ok (.invokestatic 62, 3) := by decide +kernel
theorem dX3_person_49 : decode cX3_person 49 = .ok (.goto 31, 3) := by decide +kernel
theorem dX3_person_52 : decode cX3_person 52 = .ok (.iload_n 2, 1) := by decide +kernel
theorem dX3_person_53 : decode cX3_person 53 = .ok (.bipush 8, 2) := by decide +kernel
theorem dX3_person_55 : decode cX3_person 55 = .ok (.if_icmp .ne 19, 3) := by decide +kernel
theorem dX3_person_58 : decode cX3_person 58 = .ok (.aload_n 0, 1) := by decide +kernel
theorem dX3_person_59 : decode cX3_person 59 = .ok (.getfield 9, 3) := by decide +kernel
theorem dX3_person_62 : decode cX3_person 62 = .ok (.iload_n 1, 1) := by decide +kernel
theorem dX3_person_63 : decode cX3_person 63 = .ok (.iconst 0, 1) := by decide +kernel
theorem dX3_person_64 : decode cX3_person 64 = .ok (.invokestatic 52, 3) := by decide +kernel
theorem dX3_person_67 : decode cX3_person 67 = .ok (.iaload, 1) := by decide +kernel
theorem dX3_person_68 : decode cX3_person 68 = .ok (.invokestatic 70, 3) := by decide +kernel
theorem dX3_person_71 : decode cX3_person 71 = .ok (.goto 9, 3) := by decide +kernel
theorem dX3_person_74 : decode cX3_person 74 = .ok (.aload_n 0, 1) := by decide +kernel
theorem dX3_person_75 : decode cX3_person 75 = .ok (.bipush (-2), 2) := by decide +kernel
theorem dX3_person_77 : decode cX3_person 77 = .ok (.invokevirtual 36, 3) := by decide +kernel
theorem dX3_person_80 : decode cX3_person 80 = .ok (.ireturn, 1) := by decide +kernel
theorem dX3_speaks_0 : decode cX3_speaks 0 = .ok (.aload_n 0, 1) := by decide +kernel
theorem dX3_speaks_1 : decode cX3_speaks 1 = .ok (.iload_n 1, 1) := by decide +kernel
theorem dX3_speaks_2 : decode cX3_speaks 2 = .ok (.invokevirtual 100, 3) := by decide +kernel
theorem dX3_speaks_5 : decode cX3_speaks 5 = .ok (.ifCond .ne 9, 3) := by decide +kernel
theorem dX3_speaks_8 : decode cX3_speaks 8 = .ok (.aload_n 0, 1) := by decide +kernel
theorem dX3_speaks_9 : decode cX3_speaks 9 = .ok (.iconst (-1), 1) := by decide +kernel
theorem dX3_speaks_10 : decode cX3_speaks 10 = .ok (.invokevirtual 36, 3) := by decide +kernel
theorem dX3_speaks_13 : decode cX3_speaks 13 = .ok (.ireturn, 1) := by decide +kernel
theorem dX3_speaks_14 : decode cX3_speaks 14 = .ok (.aload_n 0, 1) := by decide +kernel
theorem dX3_speaks_15 : decode cX3_speaks 15 = .ok (.getfield 9, 3) := by decide +kernel
theorem dX3_speaks_18 : decode cX3_speaks 18 = .ok (.iload_n 1, 1) := by decide +kernel
theorem dX3_speaks_19 : decode cX3_speaks 19 = .ok (.iconst 4, 1) := by decide +kernel
theorem dX3_speaks_20 : decode cX3_speaks 20 = .ok (.invokestatic 52, 3) := by decide +kernel
theorem dX3_speaks_23 : decode cX3_speaks 23 = .ok (.iaload, 1) := by decide +kernel
theorem dX3_speaks_24 : decode cX3_speaks 24 = .ok (.iconst 1, 1) := by decide +kernel
theorem dX3_speaks_25 : decode cX3_speaks 25 = .ok (.if_icmp .ne 10, 3) := by decide +kernel
theorem dX3_speaks_28 : decode cX3_speaks 28 = .ok (.aload_n 0, 1) := by decide +kernel
theorem dX3_speaks_29 : decode cX3_speaks 29 = .ok (.bipush (-3), 2) := by decide +kernel
theorem dX3_speaks_31 : decode cX3_speaks 31 = .ok (.invokevirtual 36, 3) := by decide +kernel
theorem dX3_speaks_34 : decode cX3_speaks 34 = .ok (.ireturn, 1) := by decide +kernel
theorem dX3_speaks_35 : decode cX3_speaks 35 = .ok (.aload_n 0, 1) := by decide +kernel
theorem dX3_speaks_36 : decode cX3_speaks 36 = .ok (.getfield 9, 3) := by decide +kernel
theorem dX3_speaks_39 : decode cX3_speaks 39 = .ok (.iload_n 1, 1) := by decide +kernel
theorem dX3_speaks_40 : decode cX3_speaks 40 = .ok (.iconst 4, 1) := by decide +kernel
theorem dX3_speaks_41 : decode cX3_speaks 41 = .ok (.invokestatic 52, 3) := by decide +kernel
theorem dX3_speaks_44 : decode cX3_speaks 44 = .ok (.iconst 1, 1) := by decide +kernel
theorem dX3_speaks_45 : decode cX3_speaks 45 = .ok (.iastore, 1) := by decide +kernel
theorem dX3_speaks_46 : decode cX3_speaks 46 = .ok (.aload_n 0, 1) := by decide +kernel
theorem dX3_speaks_47 : decode cX3_speaks 47 = .ok (.getfield 9, 3) := by decide +kernel
theorem dX3_speaks_50 : decode cX3_speaks 50 = .ok (.iconst 4, 1) := by decide +kernel
theorem dX3_speaks_51 : decode cX3_speaks 51 = .ok (.invokestatic 117, 3) := by decide +kernel
theorem dX3_speaks_54 : decode cX3_speaks 54 = .ok (.invokestatic 120, 3) := by decide +kernel
theorem dX3_speaks_57 : decode cX3_speaks 57 = .ok (.ireturn, 1) := by decide +kernel
theorem dX3_sets_0 : decode cX3_sets 0 = .ok (.aload_n 0, 1) := by decide +kernel
theorem dX3_sets_1 : decode cX3_sets 1 = .ok (.getfield 9, 3) := by decide +kernel
theorem dX3_sets_4 : decode cX3_sets 4 = .ok (.iload_n 1, 1) := by decide +kernel
theorem dX3_sets_5 : decode cX3_sets 5 = .ok (.iaload, 1) := by decide +kernel
theorem dX3_sets_6 : decode cX3_sets 6 = .ok (.istore_n 3, 1) := by decide +kernel
theorem dX3_sets_7 : decode cX3_sets 7 = .ok (.aload_n 0, 1) := by decide +kernel
theorem dX3_sets_8 : decode cX3_sets 8 = .ok (.getfield 9, 3) := by decide +kernel
theorem dX3_sets_11 : decode cX3_sets 11 = .ok (.iload_n 1, 1) := by decide +kernel
theorem dX3_sets_12 : decode cX3_sets 12 = .ok (.iload_n 2, 1) := by decide +kernel
theorem dX3_sets_13 : decode cX3_sets 13 = .ok (.iastore, 1) := by decide +kernel
theorem dX3_sets_14 : decode cX3_sets 14 = .ok (.iload_n 3, 1) := by decide +kernel
theorem dX3_sets_15 : decode cX3_sets 15 = .ok (.ireturn, 1) := by decide +kernel
theorem dX3_befriends_0 : decode cX3_befriends 0 = .ok (.aload_n 0, 1) := by decide +kernel
theorem dX3_befriends_1 : decode cX3_befriends 1 = .ok (.iload_n 1, 1) := by decide +kernel
theorem dX3_befriends_2 : decode cX3_befriends 2 = .ok (.invokevirtual 100, 3) := by decide +kernel
theorem dX3_befriends_5 : decode cX3_befriends 5 = .ok (.ifCond .eq 26, 3) := by decide +kernel
theorem dX3_befriends_8 : decode cX3_befriends 8 = .ok (.iload_n 2, 1) := by decide +kernel
theorem dX3_befriends_9 : decode cX3_befriends 9 = .ok (.iconst 0, 1) := by decide +kernel
theorem dX3_befriends_10 : decode cX3_befriends 10 = .ok (.iconst 5, 1) := by decide +kernel
theorem dX3_befriends_11 : decode cX3_befriends 11 = .ok (.invokestatic 40, 3) := by decide +kernel
theorem dX3_befriends_14 : decode cX3_befriends 14 = .ok (.ifCond .eq 17, 3) := by decide +kernel
theorem dX3_befriends_17 : decode cX3_befriends 17 = .ok (.aload_n 0, 1) := by decide +kernel
theorem dX3_befriends_18 : decode cX3_befriends 18 = .ok (.iload_n 1, 1) := by decide +kernel
theorem dX3_befriends_19 : decode cX3_befriends 19 = .ok (.bipush 6, 2) := by decide +kernel
theorem dX3_befriends_21 : decode cX3_befriends 21 = .ok (.invokestatic 52, 3) := by decide +kernel
theorem dX3_befriends_24 : decode cX3_befriends 24 = .ok (.iload_n 2, 1) := by decide +kernel
theorem dX3_befriends_25 : decode cX3_befriends 25 = .ok (.invokevirtual 123, 3) := by decide +kernel
theorem dX3_befriends_28 : decode cX3_befriends 28 = .ok (.goto 8, 3) := by decide +kernel
theorem dX3_befriends_31 : decode cX3_befriends 31 = .ok (.aload_n 0, 1) := by decide +kernel
theorem dX3_befriends_32 : decode cX3_befriends 32 = .ok (.iconst (-1), 1) := by decide +kernel
theorem dX3_befriends_33 : decode cX3_befriends 33 = .ok (.invokevirtual 36, 3) := by decide +kernel
theorem dX3_befriends_36 : decode cX3_befriends 36 = .ok (.ireturn, 1) := by decide +kernel
theorem dX3_wrongBy_0 : decode cX3_wrongBy 0 = .ok (.iload_n 0, 1) := by decide +kernel
theorem dX3_wrongBy_1 : decode cX3_wrongBy 1 = .ok (.iload_n 1, 1) := by decide +kernel
theorem dX3_wrongBy_2 : decode cX3_wrongBy 2 = .ok (.if_icmp .ge 8, 3) := by decide +kernel
theorem dX3_wrongBy_5 : decode cX3_wrongBy 5 = .ok (.bipush (-4), 2) := by decide +kernel
theorem dX3_wrongBy_7 : decode cX3_wrongBy 7 = .ok (.goto 14, 3) := by decide +kernel
theorem dX3_wrongBy_10 : decode cX3_wrongBy 10 = .ok (.iload_n 0, 1) := by decide +kernel
theorem dX3_wrongBy_11 : decode cX3_wrongBy 11 = .ok (.iload_n 2, 1) := by decide +kernel
theorem dX3_wrongBy_12 : decode cX3_wrongBy 12 = .ok (.if_icmp .le 8, 3) := by decide +kernel
theorem dX3_wrongBy_15 : decode cX3_wrongBy 15 = .ok (.bipush (-6), 2) := by decide +kernel
theorem dX3_wrongBy_17 : decode cX3_wrongBy 17 = .ok (.goto 4, 3) := by decide +kernel
theorem dX3_wrongBy_20 : decode cX3_wrongBy 20 = .ok (.iconst 0, 1) := by decide +kernel
theorem dX3_wrongBy_21 : decode cX3_wrongBy 21 = .ok (.ireturn, 1) := by decide +kernel
theorem dX3_setsOf_0 : decode cX3_setsOf 0 = .ok (.aload_n 0, 1) := by decide +kernel
theorem dX3_setsOf_1 : decode cX3_setsOf 1 = .ok (.iload_n 1, 1) := by decide +kernel
theorem dX3_setsOf_2 : decode cX3_setsOf 2 = .ok (.invokevirtual 100, 3) := by decide +kernel
theorem dX3_setsOf_5 : decode cX3_setsOf 5 = .ok (.ifCond .eq 13, 3) := by decide +kernel
theorem dX3_setsOf_8 : decode cX3_setsOf 8 = .ok (.iload_n 3, 1) := by decide +kernel
theorem dX3_setsOf_9 : decode cX3_setsOf 9 = .ok (.iconst 0, 1) := by decide +kernel
theorem dX3_setsOf_10 : decode cX3_setsOf 10 = .ok (.iload 4, 2) := by decide +kernel
theorem dX3_setsOf_12 : decode cX3_setsOf 12 = .ok (.invokestatic 126, 3) := by decide +kernel
theorem dX3_setsOf_15 : decode cX3_setsOf 15 = .ok (.goto 4, 3) := by decide +kernel
theorem dX3_setsOf_18 : decode cX3_setsOf 18 = .ok (.iconst (-1), 1) := by decide +kernel
theorem dX3_setsOf_19 : decode cX3_setsOf 19 = .ok (.istore 5, 2) := by decide +kernel
theorem dX3_setsOf_21 : decode cX3_setsOf 21 = .ok (.iload 5, 2) := by decide +kernel
theorem dX3_setsOf_23 : decode cX3_setsOf 23 = .ok (.ifCond .eq 12, 3) := by decide +kernel
theorem dX3_setsOf_26 : decode cX3_setsOf 26 = .ok (.aload_n 0, 1) := by decide +kernel
theorem dX3_setsOf_27 : decode cX3_setsOf 27 = .ok (.iload 5, 2) := by decide +kernel
theorem dX3_setsOf_29 : decode cX3_setsOf 29 = .ok (.invokevirtual 36, 3) := by decide +kernel
theorem dX3_setsOf_32 : decode cX3_setsOf 32 = .ok (.goto 13, 3) := by decide +kernel
theorem dX3_setsOf_35 : decode cX3_setsOf 35 = .ok (.aload_n 0, 1) := by decide +kernel
theorem dX3_setsOf_36 : decode cX3_setsOf 36 = .ok (.iload_n 1, 1) := by decide +kernel
theorem dX3_setsOf_37 : decode cX3_setsOf 37 = .ok (.iload_n 2, 1) := by decide +kernel
theorem dX3_setsOf_38 : decode cX3_setsOf 38 = .ok (.invokestatic 52, 3) := by decide +kernel
theorem dX3_setsOf_41 : decode cX3_setsOf 41 = .ok (.iload_n 3, 1) := by decide +kernel
theorem dX3_setsOf_42 : decode cX3_setsOf 42 = .ok (.invokevirtual 123, 3) := by decide +kernel
theorem dX3_setsOf_45 : decode cX3_setsOf 45 = .ok (.ireturn, 1) := by decide +kernel
theorem dX3_pours_0 : decode cX3_pours 0 = .ok (.aload_n 0, 1) := by decide +kernel
theorem dX3_pours_1 : decode cX3_pours 1 = .ok (.iload_n 1, 1) := by decide +kernel
theorem dX3_pours_2 : decode cX3_pours 2 = .ok (.iconst 3, 1) := by decide +kernel
theorem dX3_pours_3 : decode cX3_pours 3 = .ok (.iload_n 2, 1) := by decide +kernel
theorem dX3_pours_4 : decode cX3_pours 4 = .ok (.bipush 99, 2) := by decide +kernel
theorem dX3_pours_6 : decode cX3_pours 6 = .ok (.invokevirtual 130, 3) := by decide +kernel
theorem dX3_pours_9 : decode cX3_pours 9 = .ok (.ireturn, 1) := by decide +kernel
theorem dX3_cans_0 : decode cX3_cans 0 = .ok (.aload_n 0, 1) := by decide +kernel
theorem dX3_cans_1 : decode cX3_cans 1 = .ok (.iload_n 1, 1) := by decide +kernel
theorem dX3_cans_2 : decode cX3_cans 2 = .ok (.iconst 2, 1) := by decide +kernel
theorem dX3_cans_3 : decode cX3_cans 3 = .ok (.iload_n 2, 1) := by decide +kernel
theorem dX3_cans_4 : decode cX3_cans 4 = .ok (.bipush 9, 2) := by decide +kernel
theorem dX3_cans_6 : decode cX3_cans 6 = .ok (.invokevirtual 130, 3) := by decide +kernel
theorem dX3_cans_9 : decode cX3_cans 9 = .ok (.ireturn, 1) := by decide +kernel
theorem dX3_setsIn_0 : decode cX3_setsIn 0 = .ok (.iload_n 2, 1) := by decide +kernel
theorem dX3_setsIn_1 : decode cX3_setsIn 1 = .ok (.iconst 0, 1) := by decide +kernel
theorem dX3_setsIn_2 : decode cX3_setsIn 2 = .ok (.iload_n 3, 1) := by decide +kernel
theorem dX3_setsIn_3 : decode cX3_setsIn 3 = .ok (.invokestatic 126, 3) := by decide +kernel
theorem dX3_setsIn_6 : decode cX3_setsIn 6 = .ok (.istore 4, 2) := by decide +kernel
theorem dX3_setsIn_8 : decode cX3_setsIn 8 = .ok (.iload 4, 2) := by decide +kernel
theorem dX3_setsIn_10 : decode cX3_setsIn 10 = .ok (.ifCond .eq 12, 3) := by decide +kernel
theorem dX3_setsIn_13 : decode cX3_setsIn 13 = .ok (.aload_n 0, 1) := by decide +kernel
theorem dX3_setsIn_14 : decode cX3_setsIn 14 = .ok (.iload 4, 2) := by decide +kernel
theorem dX3_setsIn_16 : decode cX3_setsIn 16 = .ok (.invokevirtual 36, 3) := by decide +kernel
theorem dX3_setsIn_19 : decode cX3_setsIn 19 = .ok (.goto 9, 3) := by decide +kernel
theorem dX3_setsIn_22 : decode cX3_setsIn 22 = .ok (.aload_n 0, 1) := by decide +kernel
theorem dX3_setsIn_23 : decode cX3_setsIn 23 = .ok (.iload_n 1, 1) := by decide +kernel
theorem dX3_setsIn_24 : decode cX3_setsIn 24 = .ok (.iload_n 2, 1) := by decide +kernel
theorem dX3_setsIn_25 : decode cX3_setsIn 25 = .ok (.invokevirtual 123, 3) := by decide +kernel
theorem dX3_setsIn_28 : decode cX3_setsIn 28 = .ok (.ireturn, 1) := by decide +kernel
theorem dX3_water_0 : decode cX3_water 0 = .ok (.aload_n 0, 1) := by decide +kernel
theorem dX3_water_1 : decode cX3_water 1 = .ok (.iconst 2, 1) := by decide +kernel
theorem dX3_water_2 : decode cX3_water 2 = .ok (.iload_n 1, 1) := by decide +kernel
theorem dX3_water_3 : decode cX3_water 3 = .ok (.bipush 99, 2) := by decide +kernel
theorem dX3_water_5 : decode cX3_water 5 = .ok (.invokevirtual 134, 3) := by decide +kernel
theorem dX3_water_8 : decode cX3_water 8 = .ok (.ireturn, 1) := by decide +kernel
theorem dX3_flow_0 : decode cX3_flow 0 = .ok (.aload_n 0, 1) := by decide +kernel
theorem dX3_flow_1 : decode cX3_flow 1 = .ok (.iconst 3, 1) := by decide +kernel
theorem dX3_flow_2 : decode cX3_flow 2 = .ok (.iload_n 1, 1) := by decide +kernel
theorem dX3_flow_3 : decode cX3_flow 3 = .ok (.bipush 30, 2) := by decide +kernel
theorem dX3_flow_5 : decode cX3_flow 5 = .ok (.invokevirtual 134, 3) := by decide +kernel
theorem dX3_flow_8 : decode cX3_flow 8 = .ok (.ireturn, 1) := by decide +kernel
theorem dX3_turn_0 : decode cX3_turn 0 = .ok (.aload_n 0, 1) := by decide +kernel
theorem dX3_turn_1 : decode cX3_turn 1 = .ok (.iload_n 1, 1) := by decide +kernel
theorem dX3_turn_2 : decode cX3_turn 2 = .ok (.invokevirtual 100, 3) := by decide +kernel
theorem dX3_turn_5 : decode cX3_turn 5 = .ok (.ifCond .ne 7, 3) := by decide +kernel
theorem dX3_turn_8 : decode cX3_turn 8 = .ok (.iconst (-1), 1) := by decide +kernel
theorem dX3_turn_9 : decode cX3_turn 9 = .ok (.goto 24, 3) := by decide +kernel
theorem dX3_turn_12 : decode cX3_turn 12 = .ok (.iload_n 2, 1) := by decide +kernel
theorem dX3_turn_13 : decode cX3_turn 13 = .ok (.iconst 0, 1) := by decide +kernel
theorem dX3_turn_14 : decode cX3_turn 14 = .ok (.iconst 5, 1) := by decide +kernel
theorem dX3_turn_15 : decode cX3_turn 15 = .ok (.invokestatic 40, 3) := by decide +kernel
theorem dX3_turn_18 : decode cX3_turn 18 = .ok (.ifCond .ne 8, 3) := by decide +kernel
theorem dX3_turn_21 : decode cX3_turn 21 = .ok (.bipush (-2), 2) := by decide +kernel
theorem dX3_turn_23 : decode cX3_turn 23 = .ok (.goto 10, 3) := by decide +kernel
theorem dX3_turn_26 : decode cX3_turn 26 = .ok (.iload_n 3, 1) := by decide +kernel
theorem dX3_turn_27 : decode cX3_turn 27 = .ok (.iconst 0, 1) := by decide +kernel
theorem dX3_turn_28 : decode cX3_turn 28 = .ok (.bipush 9, 2) := by decide +kernel
theorem dX3_turn_30 : decode cX3_turn 30 = .ok (.invokestatic 126, 3) := by decide +kernel
theorem dX3_turn_33 : decode cX3_turn 33 = .ok (.istore 4, 2) := by decide +kernel
theorem dX3_turn_35 : decode cX3_turn 35 = .ok (.iload 4, 2) := by decide +kernel
theorem dX3_turn_37 : decode cX3_turn 37 = .ok (.ifCond .eq 10, 3) := by decide +kernel
theorem dX3_turn_40 : decode cX3_turn 40 = .ok (.aload_n 0, 1) := by decide +kernel
theorem dX3_turn_41 : decode cX3_turn 41 = .ok (.iload 4, 2) := by decide +kernel
theorem dX3_turn_43 : decode cX3_turn 43 = .ok (.invokevirtual 36, 3) := by decide +kernel
theorem dX3_turn_46 : decode cX3_turn 46 = .ok (.ireturn, 1) := by decide +kernel
theorem dX3_turn_47 : decode cX3_turn 47 = .ok (.bipush 10, 2) := by decide +kernel
theorem dX3_turn_49 : decode cX3_turn 49 = .ok (.aload_n 0, 1) := by decide +kernel
theorem dX3_turn_50 : decode cX3_turn 50 = .ok (.getfield 9, 3) := by decide +kernel
theorem dX3_turn_53 : decode cX3_turn 53 = .ok (.iload_n 1, 1) := by decide +kernel
theorem dX3_turn_54 : decode cX3_turn 54 = .ok (.iconst 0, 1) := by decide +kernel
theorem dX3_turn_55 : decode cX3_turn 55 = .ok (.invokestatic 52, 3) := by decide +kernel
theorem dX3_turn_58 : decode cX3_turn 58 = .ok (.iaload, 1) := by decide +kernel
theorem dX3_turn_59 : decode cX3_turn 59 = .ok (.imul, 1) := by decide +kernel
theorem dX3_turn_60 : decode cX3_turn 60 = .ok (.aload_n 0, 1) := by decide +kernel
theorem dX3_turn_61 : decode cX3_turn 61 = .ok (.getfield 9, 3) := by decide +kernel
theorem dX3_turn_64 : decode cX3_turn 64 = .ok (.iload_n 1, 1) := by decide +kernel
theorem dX3_turn_65 : decode cX3_turn 65 = .ok (.iconst 1, 1) := by decide +kernel
theorem dX3_turn_66 : decode cX3_turn 66 = .ok (.invokestatic 52, 3) := by decide +kernel
theorem dX3_turn_69 : decode cX3_turn 69 = .ok (.iaload, 1) := by decide +kernel
theorem dX3_turn_70 : decode cX3_turn 70 = .ok (.iadd, 1) := by decide +kernel
theorem dX3_turn_71 : decode cX3_turn 71 = .ok (.istore 5, 2) := by decide +kernel
theorem dX3_turn_73 : decode cX3_turn 73 = .ok (.aload_n 0, 1) := by decide +kernel
theorem dX3_turn_74 : decode cX3_turn 74 = .ok (.getfield 9, 3) := by decide +kernel
theorem dX3_turn_77 : decode cX3_turn 77 = .ok (.iload_n 1, 1) := by decide +kernel
theorem dX3_turn_78 : decode cX3_turn 78 = .ok (.iconst 0, 1) := by decide +kernel
theorem dX3_turn_79 : decode cX3_turn 79 = .ok (.invokestatic 52, 3) := by decide +kernel
theorem dX3_turn_82 : decode cX3_turn 82 = .ok (.iload_n 2, 1) := by decide +kernel
theorem dX3_turn_83 : decode cX3_turn 83 = .ok (.iastore, 1) := by decide +kernel
theorem dX3_turn_84 : decode cX3_turn 84 = .ok (.aload_n 0, 1) := by decide +kernel
theorem dX3_turn_85 : decode cX3_turn 85 = .ok (.getfield 9, 3) := by decide +kernel
theorem dX3_turn_88 : decode cX3_turn 88 = .ok (.iload_n 1, 1) := by decide +kernel
theorem dX3_turn_89 : decode cX3_turn 89 = .ok (.iconst 1, 1) := by decide +kernel
theorem dX3_turn_90 : decode cX3_turn 90 = .ok (.invokestatic 52, 3) := by decide +kernel
theorem dX3_turn_93 : decode cX3_turn 93 = .ok (.iload_n 3, 1) := by decide +kernel
theorem dX3_turn_94 : decode cX3_turn 94 = .ok (.iastore, 1) := by decide +kernel
theorem dX3_turn_95 : decode cX3_turn 95 = .ok (.iload 5, 2) := by decide +kernel
theorem dX3_turn_97 : decode cX3_turn 97 = .ok (.ireturn, 1) := by decide +kernel
theorem dX3_hours_0 : decode cX3_hours 0 = .ok (.iload_n 1, 1) := by decide +kernel
theorem dX3_hours_1 : decode cX3_hours 1 = .ok (.iconst 1, 1) := by decide +kernel
theorem dX3_hours_2 : decode cX3_hours 2 = .ok (.if_icmp .ge 10, 3) := by decide +kernel
theorem dX3_hours_5 : decode cX3_hours 5 = .ok (.aload_n 0, 1) := by decide +kernel
theorem dX3_hours_6 : decode cX3_hours 6 = .ok (.bipush (-4), 2) := by decide +kernel
theorem dX3_hours_8 : decode cX3_hours 8 = .ok (.invokevirtual 36, 3) := by decide +kernel
theorem dX3_hours_11 : decode cX3_hours 11 = .ok (.ireturn, 1) := by decide +kernel
theorem dX3_hours_12 : decode cX3_hours 12 = .ok (.iload_n 1, 1) := by decide +kernel
theorem dX3_hours_13 : decode cX3_hours 13 = .ok (.bipush 60, 2) := by decide +kernel
theorem dX3_hours_15 : decode cX3_hours 15 = .ok (.if_icmp .gt 17, 3) := by decide +kernel
theorem dX3_hours_18 : decode cX3_hours 18 = .ok (.aload_n 0, 1) := by decide +kernel
theorem dX3_hours_19 : decode cX3_hours 19 = .ok (.getfield 9, 3) := by decide +kernel
theorem dX3_hours_22 : decode cX3_hours 22 = .ok (.iconst 1, 1) := by decide +kernel
theorem dX3_hours_23 : decode cX3_hours 23 = .ok (.iaload, 1) := by decide +kernel
theorem dX3_hours_24 : decode cX3_hours 24 = .ok (.iload_n 1, 1) := by decide +kernel
theorem dX3_hours_25 : decode cX3_hours 25 = .ok (.iadd, 1) := by decide +kernel
theorem dX3_hours_26 : decode cX3_hours 26 = .ok (.sipush 999, 3) := by decide +kernel
theorem dX3_hours_29 : decode cX3_hours 29 = .ok (.if_icmp .le 10, 3) := by decide +kernel
theorem dX3_hours_32 : decode cX3_hours 32 = .ok (.aload_n 0, 1) := by decide +kernel
theorem dX3_hours_33 : decode cX3_hours 33 = .ok (.bipush (-6), 2) := by decide +kernel
theorem dX3_hours_35 : decode cX3_hours 35 = .ok (.invokevirtual 36, 3) := by decide +kernel
theorem dX3_hours_38 : decode cX3_hours 38 = .ok (.ireturn, 1) := by decide +kernel
theorem dX3_hours_39 : decode cX3_hours 39 = .ok (.aload_n 0, 1) := by decide +kernel
theorem dX3_hours_40 : decode cX3_hours 40 = .ok (.getfield 9, 3) := by decide +kernel
theorem dX3_hours_43 : decode cX3_hours 43 = .ok (.iload_n 1, 1) := by decide +kernel
theorem dX3_hours_44 : decode cX3_hours 44 = .ok (.invokestatic 104, 3) := by decide +kernel
theorem dX3_hours_47 : decode cX3_hours 47 = .ok (.aload_n 0, 1) := by decide +kernel
theorem dX3_hours_48 : decode cX3_hours 48 = .ok (.getfield 9, 3) := by decide +kernel
theorem dX3_hours_51 : decode cX3_hours 51 = .ok (.iconst 2, 1) := by decide +kernel
theorem dX3_hours_52 : decode cX3_hours 52 = .ok (.iaload, 1) := by decide +kernel
theorem dX3_hours_53 : decode cX3_hours 53 = .ok (.ireturn, 1) := by decide +kernel
theorem dX3_takes_0 : decode cX3_takes 0 = .ok (.aload_n 0, 1) := by decide +kernel
theorem dX3_takes_1 : decode cX3_takes 1 = .ok (.getfield 9, 3) := by decide +kernel
theorem dX3_takes_4 : decode cX3_takes 4 = .ok (.aload_n 0, 1) := by decide +kernel
theorem dX3_takes_5 : decode cX3_takes 5 = .ok (.getfield 13, 3) := by decide +kernel
theorem dX3_takes_8 : decode cX3_takes 8 = .ok (.invokestatic 110, 3) := by decide +kernel
theorem dX3_takes_11 : decode cX3_takes 11 = .ok (.aload_n 0, 1) := by decide +kernel
theorem dX3_takes_12 : decode cX3_takes 12 = .ok (.getfield 13, 3) := by decide +kernel
theorem dX3_takes_15 : decode cX3_takes 15 = .ok (.iload_n 1, 1) := by decide +kernel
theorem dX3_takes_16 : decode cX3_takes 16 = .ok (.invokestatic 104, 3) := by decide +kernel
theorem dX3_takes_19 : decode cX3_takes 19 = .ok (.return_, 1) := by decide +kernel
theorem dX3_hasThen_0 : decode cX3_hasThen 0 = .ok (.aload_n 0, 1) := by decide +kernel
theorem dX3_hasThen_1 : decode cX3_hasThen 1 = .ok (.iload_n 1, 1) := by decide +kernel
theorem dX3_hasThen_2 : decode cX3_hasThen 2 = .ok (.invokevirtual 100, 3) := by decide +kernel
theorem dX3_hasThen_5 : decode cX3_hasThen 5 = .ok (.ifCond .eq 13, 3) := by decide +kernel
theorem dX3_hasThen_8 : decode cX3_hasThen 8 = .ok (.iload_n 2, 1) := by decide +kernel
theorem dX3_hasThen_9 : decode cX3_hasThen 9 = .ok (.iconst 0, 1) := by decide +kernel
theorem dX3_hasThen_10 : decode cX3_hasThen 10 = .ok (.bipush 60, 2) := by decide +kernel
theorem dX3_hasThen_12 : decode cX3_hasThen 12 = .ok (.invokestatic 126, 3) := by decide +kernel
theorem dX3_hasThen_15 : decode cX3_hasThen 15 = .ok (.goto 4, 3) := by decide +kernel
theorem dX3_hasThen_18 : decode cX3_hasThen 18 = .ok (.iconst (-1), 1) := by decide +kernel
theorem dX3_hasThen_19 : decode cX3_hasThen 19 = .ok (.istore_n 3, 1) := by decide +kernel
theorem dX3_hasThen_20 : decode cX3_hasThen 20 = .ok (.iload_n 3, 1) := by decide +kernel
theorem dX3_hasThen_21 : decode cX3_hasThen 21 = .ok (.ifCond .eq 9, 3) := by decide +kernel
theorem dX3_hasThen_24 : decode cX3_hasThen 24 = .ok (.aload_n 0, 1) := by decide +kernel
theorem dX3_hasThen_25 : decode cX3_hasThen 25 = .ok (.iload_n 3, 1) := by decide +kernel
theorem dX3_hasThen_26 : decode cX3_hasThen 26 = .ok (.invokevirtual 36, 3) := by decide +kernel
theorem dX3_hasThen_29 : decode cX3_hasThen 29 = .ok (.ireturn, 1) := by decide +kernel
theorem dX3_hasThen_30 : decode cX3_hasThen 30 = .ok (.aload_n 0, 1) := by decide +kernel
theorem dX3_hasThen_31 : decode cX3_hasThen 31 = .ok (.iload_n 2, 1) := by decide +kernel
theorem dX3_hasThen_32 : decode cX3_hasThen 32 = .ok (.invokevirtual 137, 3) := by decide +kernel
theorem dX3_hasThen_35 : decode cX3_hasThen 35 = .ok (.aload_n 0, 1) := by decide +kernel
theorem dX3_hasThen_36 : decode cX3_hasThen 36 = .ok (.getfield 13, 3) := by decide +kernel
theorem dX3_hasThen_39 : decode cX3_hasThen 39 = .ok (.iload_n 1, 1) := by decide +kernel
theorem dX3_hasThen_40 : decode cX3_hasThen 40 = .ok (.iconst 3, 1) := by decide +kernel
theorem dX3_hasThen_41 : decode cX3_hasThen 41 = .ok (.invokestatic 52, 3) := by decide +kernel
theorem dX3_hasThen_44 : decode cX3_hasThen 44 = .ok (.iaload, 1) := by decide +kernel
theorem dX3_hasThen_45 : decode cX3_hasThen 45 = .ok (.ireturn, 1) := by decide +kernel
theorem dX3_then_0 : decode cX3_then 0 = .ok (.iload_n 1, 1) := by decide +kernel
theorem dX3_then_1 : decode cX3_then 1 = .ok (.iconst 0, 1) := by decide +kernel
theorem dX3_then_2 : decode cX3_then 2 = .ok (.bipush 60, 2) := by decide +kernel
theorem dX3_then_4 : decode cX3_then 4 = .ok (.invokestatic 126, 3) := by decide +kernel
theorem dX3_then_7 : decode cX3_then 7 = .ok (.istore_n 3, 1) := by decide +kernel
theorem dX3_then_8 : decode cX3_then 8 = .ok (.iload_n 3, 1) := by decide +kernel
theorem dX3_then_9 : decode cX3_then 9 = .ok (.ifCond .ne 15, 3) := by decide +kernel
theorem dX3_then_12 : decode cX3_then 12 = .ok (.iload_n 2, 1) := by decide +kernel
theorem dX3_then_13 : decode cX3_then 13 = .ok (.iconst 0, 1) := by decide +kernel
theorem dX3_then_14 : decode cX3_then 14 = .ok (.iconst 3, 1) := by decide +kernel
theorem dX3_then_15 : decode cX3_then 15 = .ok (.invokestatic 40, 3) := by decide +kernel
theorem dX3_then_18 : decode cX3_then 18 = .ok (.ifCond .ne 6, 3) := by decide +kernel
theorem dX3_then_21 : decode cX3_then 21 = .ok (.bipush (-2), 2) := by decide +kernel
theorem dX3_then_23 : decode cX3_then 23 = .ok (.istore_n 3, 1) := by decide +kernel
theorem dX3_then_24 : decode cX3_then 24 = .ok (.iload_n 3, 1) := by decide +kernel
theorem dX3_then_25 : decode cX3_then 25 = .ok (.ifCond .eq 9, 3) := by decide +kernel
theorem dX3_then_28 : decode cX3_then 28 = .ok (.aload_n 0, 1) := by decide +kernel
theorem dX3_then_29 : decode cX3_then 29 = .ok (.iload_n 3, 1) := by decide +kernel
theorem dX3_then_30 : decode cX3_then 30 = .ok (.invokevirtual 36, 3) := by decide +kernel
theorem dX3_then_33 : decode cX3_then 33 = .ok (.ireturn, 1) := by decide +kernel
theorem dX3_then_34 : decode cX3_then 34 = .ok (.aload_n 0, 1) := by decide +kernel
theorem dX3_then_35 : decode cX3_then 35 = .ok (.iload_n 1, 1) := by decide +kernel
theorem dX3_then_36 : decode cX3_then 36 = .ok (.invokevirtual 137, 3) := by decide +kernel
theorem dX3_then_39 : decode cX3_then 39 = .ok (.iload_n 2, 1) := by decide +kernel
theorem dX3_then_40 : decode cX3_then 40 = .ok (.ifCond .ne 12, 3) := by decide +kernel
theorem dX3_then_43 : decode cX3_then 43 = .ok (.aload_n 0, 1) := by decide +kernel
theorem dX3_then_44 : decode cX3_then 44 = .ok (.getfield 13, 3) := by decide +kernel
theorem dX3_then_47 : decode cX3_then 47 = .ok (.iconst 2, 1) := by decide +kernel
theorem dX3_then_48 : decode cX3_then 48 = .ok (.iaload, 1) := by decide +kernel
theorem dX3_then_49 : decode cX3_then 49 = .ok (.goto 42, 3) := by decide +kernel
theorem dX3_then_52 : decode cX3_then 52 = .ok (.iload_n 2, 1) := by decide +kernel
theorem dX3_then_53 : decode cX3_then 53 = .ok (.iconst 1, 1) := by decide +kernel
theorem dX3_then_54 : decode cX3_then 54 = .ok (.if_icmp .ne 14, 3) := by decide +kernel
theorem dX3_then_57 : decode cX3_then 57 = .ok (.aload_n 0, 1) := by decide +kernel
theorem dX3_then_58 : decode cX3_then 58 = .ok (.getfield 13, 3) := by decide +kernel
theorem dX3_then_61 : decode cX3_then 61 = .ok (.iconst 4, 1) := by decide +kernel
theorem dX3_then_62 : decode cX3_then 62 = .ok (.invokestatic 117, 3) := by decide +kernel
theorem dX3_then_65 : decode cX3_then 65 = .ok (.goto 26, 3) := by decide +kernel
theorem dX3_then_68 : decode cX3_then 68 = .ok (.iload_n 2, 1) := by decide +kernel
theorem dX3_then_69 : decode cX3_then 69 = .ok (.iconst 2, 1) := by decide +kernel
theorem dX3_then_70 : decode cX3_then 70 = .ok (.if_icmp .ne 14, 3) := by decide +kernel
theorem dX3_then_73 : decode cX3_then 73 = .ok (.aload_n 0, 1) := by decide +kernel
theorem dX3_then_74 : decode cX3_then 74 = .ok (.getfield 13, 3) := by decide +kernel
theorem dX3_then_77 : decode cX3_then 77 = .ok (.iconst 5, 1) := by decide +kernel
theorem dX3_then_78 : decode cX3_then 78 = .ok (.invokestatic 117, 3) := by decide +kernel
theorem dX3_then_81 : decode cX3_then 81 = .ok (.goto 10, 3) := by decide +kernel
theorem dX3_then_84 : decode cX3_then 84 = .ok (.aload_n 0, 1) := by decide +kernel
theorem dX3_then_85 : decode cX3_then 85 = .ok (.getfield 13, 3) := by decide +kernel
theorem dX3_then_88 : decode cX3_then 88 = .ok (.invokestatic 141, 3) := by decide +kernel
theorem dX3_then_91 : decode cX3_then 91 = .ok (.ireturn, 1) := by decide +kernel
theorem dX3_whenNothing_0 : decode cX3_whenNothing 0 = .ok (.aload_n 0, 1) := by decide +kernel
theorem dX3_whenNothing_1 : decode cX3_whenNothing 1 = .ok (.getfield 9, 3) := by decide +kernel
theorem dX3_whenNothing_4 : decode cX3_whenNothing 4 = .ok (.aload_n 0, 1) := by decide +kernel
theorem dX3_whenNothing_5 : decode cX3_whenNothing 5 = .ok (.getfield 13, 3) := by decide +kernel
theorem dX3_whenNothing_8 : decode cX3_whenNothing 8 = .ok (.invokestatic 110, 3) := by decide +kernel
theorem dX3_whenNothing_11 : decode cX3_whenNothing 11 = .ok (.iconst 0, 1) := by decide +kernel
theorem dX3_whenNothing_12 : decode cX3_whenNothing 12 = .ok (.istore_n 2, 1) := by decide +kernel
theorem dX3_whenNothing_13 : decode cX3_whenNothing 13 = .ok (.iload_n 2, 1) := by decide +kernel
theorem dX3_whenNothing_14 : decode cX3_whenNothing 14 = .ok (.bipush 60, 2) := by decide +kernel
theorem dX3_whenNothing_16 : decode cX3_whenNothing 16 = .ok (.if_icmp .gt 28, 3) := by decide +kernel
theorem dX3_whenNothing_19 : decode cX3_whenNothing 19 = .ok (.aload_n 0, 1) := by decide +kernel
theorem dX3_whenNothing_20 : decode cX3_whenNothing 20 = .ok (.getfield 13, 3) := by decide +kernel
theorem dX3_whenNothing_23 : decode cX3_whenNothing 23 = .ok (.iload_n 1, 1) := by decide +kernel
theorem dX3_whenNothing_24 : decode cX3_whenNothing 24 = .ok (.iaload, 1) := by decide +kernel
theorem dX3_whenNothing_25 : decode cX3_whenNothing 25 = .ok (.ifCond .ne 5, 3) := by decide +kernel
theorem dX3_whenNothing_28 : decode cX3_whenNothing 28 = .ok (.iload_n 2, 1) := by decide +kernel
theorem dX3_whenNothing_29 : decode cX3_whenNothing 29 = .ok (.ireturn, 1) := by decide +kernel
theorem dX3_whenNothing_30 : decode cX3_whenNothing 30 = .ok (.aload_n 0, 1) := by decide +kernel
theorem dX3_whenNothing_31 : decode cX3_whenNothing 31 = .ok (.getfield 13, 3) := by decide +kernel
theorem dX3_whenNothing_34 : decode cX3_whenNothing 34 = .ok (.iconst 0, 1) := by decide +kernel
theorem dX3_whenNothing_35 : decode cX3_whenNothing 35 = .ok (.invokestatic 73, 3) := by decide +kernel
theorem dX3_whenNothing_38 : decode cX3_whenNothing 38 = .ok (.iinc 2 1, 3) := by decide +kernel
theorem dX3_whenNothing_41 : decode cX3_whenNothing 41 = .ok (.goto (-28), 3) := by decide +kernel
theorem dX3_whenNothing_44 : decode cX3_whenNothing 44 = .ok (.bipush (-9), 2) := by decide +kernel
theorem dX3_whenNothing_46 : decode cX3_whenNothing 46 = .ok (.ireturn, 1) := by decide +kernel
theorem dX3_firstDry_0 : decode cX3_firstDry 0 = .ok (.bipush (-9), 2) := by decide +kernel
theorem dX3_firstDry_2 : decode cX3_firstDry 2 = .ok (.istore_n 1, 1) := by decide +kernel
theorem dX3_firstDry_3 : decode cX3_firstDry 3 = .ok (.ldc 145, 2) := by decide +kernel
theorem dX3_firstDry_5 : decode cX3_firstDry 5 = .ok (.istore_n 2, 1) := by decide +kernel
theorem dX3_firstDry_6 : decode cX3_firstDry 6 = .ok (.iconst 0, 1) := by decide +kernel
theorem dX3_firstDry_7 : decode cX3_firstDry 7 = .ok (.istore_n 3, 1) := by decide +kernel
theorem dX3_firstDry_8 : decode cX3_firstDry 8 = .ok (.iload_n 3, 1) := by decide +kernel
theorem dX3_firstDry_9 : decode cX3_firstDry 9 = .ok (.aload_n 0, 1) := by decide +kernel
theorem dX3_firstDry_10 : decode cX3_firstDry 10 = .ok (.getfield 9, 3) := by decide +kernel
theorem dX3_firstDry_13 : decode cX3_firstDry 13 = .ok (.iconst 0, 1) := by decide +kernel
theorem dX3_firstDry_14 : decode cX3_firstDry 14 = .ok (.iaload, 1) := by decide +kernel
theorem dX3_firstDry_15 : decode cX3_firstDry 15 = .ok (.if_icmp .ge 39, 3) := by decide +kernel
theorem dX3_firstDry_18 : decode cX3_firstDry 18 = .ok (.aload_n 0, 1) := by decide +kernel
theorem dX3_firstDry_19 : decode cX3_firstDry 19 = .ok (.iload_n 3, 1) := by decide +kernel
theorem dX3_firstDry_20 : decode cX3_firstDry 20 = .ok (.iconst 3, 1) := by decide +kernel
theorem dX3_firstDry_21 : decode cX3_firstDry 21 = .ok (.invokestatic 52, 3) := by decide +kernel
theorem dX3_firstDry_24 : decode cX3_firstDry 24 = .ok (.invokevirtual 146, 3) := by decide +kernel
theorem dX3_firstDry_27 : decode cX3_firstDry 27 = .ok (.istore 4, 2) := by decide +kernel
theorem dX3_firstDry_29 : decode cX3_firstDry 29 = .ok (.iload 4, 2) := by decide +kernel
theorem dX3_firstDry_31 : decode cX3_firstDry 31 = .ok (.ifCond .lt 17, 3) := by decide +kernel
theorem dX3_firstDry_34 : decode cX3_firstDry 34 = .ok (.iload 4, 2) := by decide +kernel
theorem dX3_firstDry_36 : decode cX3_firstDry 36 = .ok (.iload_n 2, 1) := by decide +kernel
theorem dX3_firstDry_37 : decode cX3_firstDry 37 = .ok (.if_icmp .lt 6, 3) := by decide +kernel
theorem dX3_firstDry_40 : decode cX3_firstDry 40 = .ok (.goto 8, 3) := by decide +kernel
theorem dX3_firstDry_43 : decode cX3_firstDry 43 = .ok (.iload_n 3, 1) := by decide +kernel
theorem dX3_firstDry_44 : decode cX3_firstDry 44 = .ok (.istore_n 1, 1) := by decide +kernel
theorem dX3_firstDry_45 : decode cX3_firstDry 45 = .ok (.iload 4, 2) := by decide +kernel
theorem dX3_firstDry_47 : decode cX3_firstDry 47 = .ok (.istore_n 2, 1) := by decide +kernel
theorem dX3_firstDry_48 : decode cX3_firstDry 48 = .ok (.iinc 3 1, 3) := by decide +kernel
theorem dX3_firstDry_51 : decode cX3_firstDry 51 = .ok (.goto (-43), 3) := by decide +kernel
theorem dX3_firstDry_54 : decode cX3_firstDry 54 = .ok (.iload_n 1, 1) := by decide +kernel
theorem dX3_firstDry_55 : decode cX3_firstDry 55 = .ok (.ireturn, 1) := by decide +kernel
theorem dX3_dry_0 : decode cX3_dry 0 = .ok (.iload_n 1, 1) := by decide +kernel
theorem dX3_dry_1 : decode cX3_dry 1 = .ok (.iconst (-1), 1) := by decide +kernel
theorem dX3_dry_2 : decode cX3_dry 2 = .ok (.if_icmp .ne 10, 3) := by decide +kernel
theorem dX3_dry_5 : decode cX3_dry 5 = .ok (.aload_n 0, 1) := by decide +kernel
theorem dX3_dry_6 : decode cX3_dry 6 = .ok (.invokevirtual 149, 3) := by decide +kernel
theorem dX3_dry_9 : decode cX3_dry 9 = .ok (.goto 28, 3) := by decide +kernel
theorem dX3_dry_12 : decode cX3_dry 12 = .ok (.aload_n 0, 1) := by decide +kernel
theorem dX3_dry_13 : decode cX3_dry 13 = .ok (.iload_n 1, 1) := by decide +kernel
theorem dX3_dry_14 : decode cX3_dry 14 = .ok (.invokevirtual 100, 3) := by decide +kernel
theorem dX3_dry_17 : decode cX3_dry 17 = .ok (.ifCond .eq 15, 3) := by decide +kernel
theorem dX3_dry_20 : decode cX3_dry 20 = .ok (.aload_n 0, 1) := by decide +kernel
theorem dX3_dry_21 : decode cX3_dry 21 = .ok (.iload_n 1, 1) := by decide +kernel
theorem dX3_dry_22 : decode cX3_dry 22 = .ok (.iconst 3, 1) := by decide +kernel
theorem dX3_dry_23 : decode cX3_dry 23 = .ok (.invokestatic 52, 3) := by decide +kernel
theorem dX3_dry_26 : decode cX3_dry 26 = .ok (.invokevirtual 146, 3) := by decide +kernel
theorem dX3_dry_29 : decode cX3_dry 29 = .ok (.goto 8, 3) := by decide +kernel
theorem dX3_dry_32 : decode cX3_dry 32 = .ok (.aload_n 0, 1) := by decide +kernel
theorem dX3_dry_33 : decode cX3_dry 33 = .ok (.iconst (-1), 1) := by decide +kernel
theorem dX3_dry_34 : decode cX3_dry 34 = .ok (.invokevirtual 36, 3) := by decide +kernel
theorem dX3_dry_37 : decode cX3_dry 37 = .ok (.ireturn, 1) := by decide +kernel
theorem dX3_empty_0 : decode cX3_empty 0 = .ok (.aload_n 0, 1) := by decide +kernel
theorem dX3_empty_1 : decode cX3_empty 1 = .ok (.iconst 2, 1) := by decide +kernel
theorem dX3_empty_2 : decode cX3_empty 2 = .ok (.invokevirtual 146, 3) := by decide +kernel
theorem dX3_empty_5 : decode cX3_empty 5 = .ok (.ireturn, 1) := by decide +kernel
theorem dX3_isNoneDry_0 : decode cX3_isNoneDry 0 = .ok (.iconst 0, 1) := by decide +kernel
theorem dX3_isNoneDry_1 : decode cX3_isNoneDry 1 = .ok (.istore_n 3, 1) := by decide +kernel
theorem dX3_isNoneDry_2 : decode cX3_isNoneDry 2 = .ok (.iload_n 3, 1) := by decide +kernel
theorem dX3_isNoneDry_3 : decode cX3_isNoneDry 3 = .ok (.iload_n 2, 1) := by decide +kernel
theorem dX3_isNoneDry_4 : decode cX3_isNoneDry 4 = .ok (.if_icmp .gt 31, 3) := by decide +kernel
theorem dX3_isNoneDry_7 : decode cX3_isNoneDry 7 = .ok (.aload_n 0, 1) := by decide +kernel
theorem dX3_isNoneDry_8 : decode cX3_isNoneDry 8 = .ok (.getfield 13, 3) := by decide +kernel
theorem dX3_isNoneDry_11 : decode cX3_isNoneDry 11 = .ok (.invokestatic 152, 3) := by decide +kernel
theorem dX3_isNoneDry_14 : decode cX3_isNoneDry 14 = .ok (.iload_n 1, 1) := by decide +kernel
theorem dX3_isNoneDry_15 : decode cX3_isNoneDry 15 = .ok (.iand, 1) := by decide +kernel
theorem dX3_isNoneDry_16 : decode cX3_isNoneDry 16 = .ok (.ifCond .eq 5, 3) := by decide +kernel
theorem dX3_isNoneDry_19 : decode cX3_isNoneDry 19 = .ok (.iconst 0, 1) := by decide +kernel
theorem dX3_isNoneDry_20 : decode cX3_isNoneDry 20 = .ok (.ireturn, 1) := by decide +kernel
theorem dX3_isNoneDry_21 : decode cX3_isNoneDry 21 = .ok (.aload_n 0, 1) := by decide +kernel
theorem dX3_isNoneDry_22 : decode cX3_isNoneDry 22 = .ok (.getfield 13, 3) := by decide +kernel
theorem dX3_isNoneDry_25 : decode cX3_isNoneDry 25 = .ok (.iconst 0, 1) := by decide +kernel
theorem dX3_isNoneDry_26 : decode cX3_isNoneDry 26 = .ok (.invokestatic 73, 3) := by decide +kernel
theorem dX3_isNoneDry_29 : decode cX3_isNoneDry 29 = .ok (.iinc 3 1, 3) := by decide +kernel
theorem dX3_isNoneDry_32 : decode cX3_isNoneDry 32 = .ok (.goto (-30), 3) := by decide +kernel
theorem dX3_isNoneDry_35 : decode cX3_isNoneDry 35 = .ok (.iconst 1, 1) := by decide +kernel
theorem dX3_isNoneDry_36 : decode cX3_isNoneDry 36 = .ok (.ireturn, 1) := by decide +kernel
theorem dX3_flowBest_0 : decode cX3_flowBest 0 = .ok (.iload_n 1, 1) := by decide +kernel
theorem dX3_flowBest_1 : decode cX3_flowBest 1 = .ok (.iconst 0, 1) := by decide +kernel
theorem dX3_flowBest_2 : decode cX3_flowBest 2 = .ok (.bipush 48, 2) := by decide +kernel
theorem dX3_flowBest_4 : decode cX3_flowBest 4 = .ok (.invokestatic 126, 3) := by decide +kernel
theorem dX3_flowBest_7 : decode cX3_flowBest 7 = .ok (.istore_n 2, 1) := by decide +kernel
theorem dX3_flowBest_8 : decode cX3_flowBest 8 = .ok (.iload_n 2, 1) := by decide +kernel
theorem dX3_flowBest_9 : decode cX3_flowBest 9 = .ok (.ifCond .eq 9, 3) := by decide +kernel
theorem dX3_flowBest_12 : decode cX3_flowBest 12 = .ok (.aload_n 0, 1) := by decide +kernel
theorem dX3_flowBest_13 : decode cX3_flowBest 13 = .ok (.iload_n 2, 1) := by decide +kernel
theorem dX3_flowBest_14 : decode cX3_flowBest 14 = .ok (.invokevirtual 36, 3) := by decide +kernel
theorem dX3_flowBest_17 : decode cX3_flowBest 17 = .ok (.ireturn, 1) := by decide +kernel
theorem dX3_flowBest_18 : decode cX3_flowBest 18 = .ok (.iconst 0, 1) := by decide +kernel
theorem dX3_flowBest_19 : decode cX3_flowBest 19 = .ok (.istore_n 3, 1) := by decide +kernel
theorem dX3_flowBest_20 : decode cX3_flowBest 20 = .ok (.iload_n 3, 1) := by decide +kernel
theorem dX3_flowBest_21 : decode cX3_flowBest 21 = .ok (.bipush 30, 2) := by decide +kernel
theorem dX3_flowBest_23 : decode cX3_flowBest 23 = .ok (.if_icmp .gt 38, 3) := by decide +kernel
theorem dX3_flowBest_26 : decode cX3_flowBest 26 = .ok (.aload_n 0, 1) := by decide +kernel
theorem dX3_flowBest_27 : decode cX3_flowBest 27 = .ok (.getfield 9, 3) := by decide +kernel
theorem dX3_flowBest_30 : decode cX3_flowBest 30 = .ok (.aload_n 0, 1) := by decide +kernel
theorem dX3_flowBest_31 : decode cX3_flowBest 31 = .ok (.getfield 13, 3) := by decide +kernel
theorem dX3_flowBest_34 : decode cX3_flowBest 34 = .ok (.invokestatic 110, 3) := by decide +kernel
theorem dX3_flowBest_37 : decode cX3_flowBest 37 = .ok (.aload_n 0, 1) := by decide +kernel
theorem dX3_flowBest_38 : decode cX3_flowBest 38 = .ok (.getfield 13, 3) := by decide +kernel
theorem dX3_flowBest_41 : decode cX3_flowBest 41 = .ok (.iconst 3, 1) := by decide +kernel
theorem dX3_flowBest_42 : decode cX3_flowBest 42 = .ok (.iload_n 3, 1) := by decide +kernel
theorem dX3_flowBest_43 : decode cX3_flowBest 43 = .ok (.iastore, 1) := by decide +kernel
theorem dX3_flowBest_44 : decode cX3_flowBest 44 = .ok (.aload_n 0, 1) := by decide +kernel
theorem dX3_flowBest_45 : decode cX3_flowBest 45 = .ok (.iconst (-1), 1) := by decide +kernel
theorem dX3_flowBest_46 : decode cX3_flowBest 46 = .ok (.iload_n 1, 1) := by decide +kernel
theorem dX3_flowBest_47 : decode cX3_flowBest 47 = .ok (.invokevirtual 155, 3) := by decide +kernel
theorem dX3_flowBest_50 : decode cX3_flowBest 50 = .ok (.ifCond .eq 5, 3) := by decide +kernel
theorem dX3_flowBest_53 : decode cX3_flowBest 53 = .ok (.iload_n 3, 1) := by decide +kernel
theorem dX3_flowBest_54 : decode cX3_flowBest 54 = .ok (.ireturn, 1) := by decide +kernel
theorem dX3_flowBest_55 : decode cX3_flowBest 55 = .ok (.iinc 3 1, 3) := by decide +kernel
theorem dX3_flowBest_58 : decode cX3_flowBest 58 = .ok (.goto (-38), 3) := by decide +kernel
theorem dX3_flowBest_61 : decode cX3_flowBest 61 = .ok (.bipush (-9), 2) := by decide +kernel
theorem dX3_flowBest_63 : decode cX3_flowBest 63 = .ok (.ireturn, 1) := by decide +kernel
theorem dX3_canBest_0 : decode cX3_canBest 0 = .ok (.aload_n 0, 1) := by decide +kernel
theorem dX3_canBest_1 : decode cX3_canBest 1 = .ok (.iload_n 1, 1) := by decide +kernel
theorem dX3_canBest_2 : decode cX3_canBest 2 = .ok (.invokevirtual 100, 3) := by decide +kernel
theorem dX3_canBest_5 : decode cX3_canBest 5 = .ok (.ifCond .eq 13, 3) := by decide +kernel
theorem dX3_canBest_8 : decode cX3_canBest 8 = .ok (.iload_n 2, 1) := by decide +kernel
theorem dX3_canBest_9 : decode cX3_canBest 9 = .ok (.iconst 0, 1) := by decide +kernel
theorem dX3_canBest_10 : decode cX3_canBest 10 = .ok (.bipush 48, 2) := by decide +kernel
theorem dX3_canBest_12 : decode cX3_canBest 12 = .ok (.invokestatic 126, 3) := by decide +kernel
theorem dX3_canBest_15 : decode cX3_canBest 15 = .ok (.goto 4, 3) := by decide +kernel
theorem dX3_canBest_18 : decode cX3_canBest 18 = .ok (.iconst (-1), 1) := by decide +kernel
theorem dX3_canBest_19 : decode cX3_canBest 19 = .ok (.istore_n 3, 1) := by decide +kernel
theorem dX3_canBest_20 : decode cX3_canBest 20 = .ok (.iload_n 3, 1) := by decide +kernel
theorem dX3_canBest_21 : decode cX3_canBest 21 = .ok (.ifCond .eq 9, 3) := by decide +kernel
theorem dX3_canBest_24 : decode cX3_canBest 24 = .ok (.aload_n 0, 1) := by decide +kernel
theorem dX3_canBest_25 : decode cX3_canBest 25 = .ok (.iload_n 3, 1) := by decide +kernel
theorem dX3_canBest_26 : decode cX3_canBest 26 = .ok (.invokevirtual 36, 3) := by decide +kernel
theorem dX3_canBest_29 : decode cX3_canBest 29 = .ok (.ireturn, 1) := by decide +kernel
theorem dX3_canBest_30 : decode cX3_canBest 30 = .ok (.iconst 0, 1) := by decide +kernel
theorem dX3_canBest_31 : decode cX3_canBest 31 = .ok (.istore 4, 2) := by decide +kernel
theorem dX3_canBest_33 : decode cX3_canBest 33 = .ok (.iload 4, 2) := by decide +kernel
theorem dX3_canBest_35 : decode cX3_canBest 35 = .ok (.bipush 9, 2) := by decide +kernel
theorem dX3_canBest_37 : decode cX3_canBest 37 = .ok (.if_icmp .gt 46, 3) := by decide +kernel
theorem dX3_canBest_40 : decode cX3_canBest 40 = .ok (.aload_n 0, 1) := by decide +kernel
theorem dX3_canBest_41 : decode cX3_canBest 41 = .ok (.getfield 9, 3) := by decide +kernel
theorem dX3_canBest_44 : decode cX3_canBest 44 = .ok (.aload_n 0, 1) := by decide +kernel
theorem dX3_canBest_45 : decode cX3_canBest 45 = .ok (.getfield 13, 3) := by decide +kernel
theorem dX3_canBest_48 : decode cX3_canBest 48 = .ok (.invokestatic 110, 3) := by decide +kernel
theorem dX3_canBest_51 : decode cX3_canBest 51 = .ok (.aload_n 0, 1) := by decide +kernel
theorem dX3_canBest_52 : decode cX3_canBest 52 = .ok (.getfield 13, 3) := by decide +kernel
theorem dX3_canBest_55 : decode cX3_canBest 55 = .ok (.iload_n 1, 1) := by decide +kernel
theorem dX3_canBest_56 : decode cX3_canBest 56 = .ok (.iconst 2, 1) := by decide +kernel
theorem dX3_canBest_57 : decode cX3_canBest 57 = .ok (.invokestatic 52, 3) := by decide +kernel
theorem dX3_canBest_60 : decode cX3_canBest 60 = .ok (.iload 4, 2) := by decide +kernel
theorem dX3_canBest_62 : decode cX3_canBest 62 = .ok (.iastore, 1) := by decide +kernel
theorem dX3_canBest_63 : decode cX3_canBest 63 = .ok (.aload_n 0, 1) := by decide +kernel
theorem dX3_canBest_64 : decode cX3_canBest 64 = .ok (.iconst 1, 1) := by decide +kernel
theorem dX3_canBest_65 : decode cX3_canBest 65 = .ok (.iload_n 1, 1) := by decide +kernel
theorem dX3_canBest_66 : decode cX3_canBest 66 = .ok (.ishl, 1) := by decide +kernel
theorem dX3_canBest_67 : decode cX3_canBest 67 = .ok (.iload_n 2, 1) := by decide +kernel
theorem dX3_canBest_68 : decode cX3_canBest 68 = .ok (.invokevirtual 155, 3) := by decide +kernel
theorem dX3_canBest_71 : decode cX3_canBest 71 = .ok (.ifCond .eq 6, 3) := by decide +kernel
theorem dX3_canBest_74 : decode cX3_canBest 74 = .ok (.iload 4, 2) := by decide +kernel
theorem dX3_canBest_76 : decode cX3_canBest 76 = .ok (.ireturn, 1) := by decide +kernel
theorem dX3_canBest_77 : decode cX3_canBest 77 = .ok (.iinc 4 1, 3) := by decide +kernel
theorem dX3_canBest_80 : decode cX3_canBest 80 = .ok (.goto (-47), 3) := by decide +kernel
theorem dX3_canBest_83 : decode cX3_canBest 83 = .ok (.bipush (-9), 2) := by decide +kernel
theorem dX3_canBest_85 : decode cX3_canBest 85 = .ok (.ireturn, 1) := by decide +kernel
theorem dX3_leastHas_0 : decode cX3_leastHas 0 = .ok (.ldc 145, 2) := by decide +kernel
theorem dX3_leastHas_2 : decode cX3_leastHas 2 = .ok (.istore_n 1, 1) := by decide +kernel
theorem dX3_leastHas_3 : decode cX3_leastHas 3 = .ok (.iconst 0, 1) := by decide +kernel
theorem dX3_leastHas_4 : decode cX3_leastHas 4 = .ok (.istore_n 2, 1) := by decide +kernel
theorem dX3_leastHas_5 : decode cX3_leastHas 5 = .ok (.iload_n 2, 1) := by decide +kernel
theorem dX3_leastHas_6 : decode cX3_leastHas 6 = .ok (.aload_n 0, 1) := by decide +kernel
theorem dX3_leastHas_7 : decode cX3_leastHas 7 = .ok (.iconst 0, 1) := by decide +kernel
theorem dX3_leastHas_8 : decode cX3_leastHas 8 = .ok (.iaload, 1) := by decide +kernel
theorem dX3_leastHas_9 : decode cX3_leastHas 9 = .ok (.if_icmp .ge 21, 3) := by decide +kernel
theorem dX3_leastHas_12 : decode cX3_leastHas 12 = .ok (.iload_n 1, 1) := by decide +kernel
theorem dX3_leastHas_13 : decode cX3_leastHas 13 = .ok (.aload_n 0, 1) := by decide +kernel
theorem dX3_leastHas_14 : decode cX3_leastHas 14 = .ok (.iload_n 2, 1) := by decide +kernel
theorem dX3_leastHas_15 : decode cX3_leastHas 15 = .ok (.iconst 3, 1) := by decide +kernel
theorem dX3_leastHas_16 : decode cX3_leastHas 16 = .ok (.invokestatic 52, 3) := by decide +kernel
theorem dX3_leastHas_19 : decode cX3_leastHas 19 = .ok (.iaload, 1) := by decide +kernel
theorem dX3_leastHas_20 : decode cX3_leastHas 20 = .ok (.invokestatic 44, 3) := by decide +kernel
theorem dX3_leastHas_23 : decode cX3_leastHas 23 = .ok (.istore_n 1, 1) := by decide +kernel
theorem dX3_leastHas_24 : decode cX3_leastHas 24 = .ok (.iinc 2 1, 3) := by decide +kernel
theorem dX3_leastHas_27 : decode cX3_leastHas 27 = .ok (.goto (-22), 3) := by decide +kernel
theorem dX3_leastHas_30 : decode cX3_leastHas 30 = .ok (.iload_n 1, 1) := by decide +kernel
theorem dX3_leastHas_31 : decode cX3_leastHas 31 = .ok (.ireturn, 1) := by decide +kernel
theorem dX3_friendBest_0 : decode cX3_friendBest 0 = .ok (.aload_n 0, 1) := by decide +kernel
theorem dX3_friendBest_1 : decode cX3_friendBest 1 = .ok (.iload_n 1, 1) := by decide +kernel
theorem dX3_friendBest_2 : decode cX3_friendBest 2 = .ok (.invokevirtual 100, 3) := by decide +kernel
theorem dX3_friendBest_5 : decode cX3_friendBest 5 = .ok (.ifCond .eq 13, 3) := by decide +kernel
theorem dX3_friendBest_8 : decode cX3_friendBest 8 = .ok (.iload_n 2, 1) := by decide +kernel
theorem dX3_friendBest_9 : decode cX3_friendBest 9 = .ok (.iconst 0, 1) := by decide +kernel
theorem dX3_friendBest_10 : decode cX3_friendBest 10 = .ok (.bipush 48, 2) := by decide +kernel
theorem dX3_friendBest_12 : decode cX3_friendBest 12 = .ok (.invokestatic 126, 3) := by decide +kernel
theorem dX3_friendBest_15 : decode cX3_friendBest 15 = .ok (.goto 4, 3) := by decide +kernel
theorem dX3_friendBest_18 : decode cX3_friendBest 18 = .ok (.iconst (-1), 1) := by decide +kernel
theorem dX3_friendBest_19 : decode cX3_friendBest 19 = .ok (.istore_n 3, 1) := by decide +kernel
theorem dX3_friendBest_20 : decode cX3_friendBest 20 = .ok (.iload_n 3, 1) := by decide +kernel
theorem dX3_friendBest_21 : decode cX3_friendBest 21 = .ok (.ifCond .eq 9, 3) := by decide +kernel
theorem dX3_friendBest_24 : decode cX3_friendBest 24 = .ok (.aload_n 0, 1) := by decide +kernel
theorem dX3_friendBest_25 : decode cX3_friendBest 25 = .ok (.iload_n 3, 1) := by decide +kernel
theorem dX3_friendBest_26 : decode cX3_friendBest 26 = .ok (.invokevirtual 36, 3) := by decide +kernel
theorem dX3_friendBest_29 : decode cX3_friendBest 29 = .ok (.ireturn, 1) := by decide +kernel
theorem dX3_friendBest_30 : decode cX3_friendBest 30 = .ok (.aload_n 0, 1) := by decide +kernel
theorem dX3_friendBest_31 : decode cX3_friendBest 31 = .ok (.iload_n 2, 1) := by decide +kernel
theorem dX3_friendBest_32 : decode cX3_friendBest 32 = .ok (.invokevirtual 137, 3) := by decide +kernel
theorem dX3_friendBest_35 : decode cX3_friendBest 35 = .ok (.aload_n 0, 1) := by decide +kernel
theorem dX3_friendBest_36 : decode cX3_friendBest 36 = .ok (.getfield 13, 3) := by decide +kernel
theorem dX3_friendBest_39 : decode cX3_friendBest 39 = .ok (.invokestatic 158, 3) := by decide +kernel
theorem dX3_friendBest_42 : decode cX3_friendBest 42 = .ok (.istore 4, 2) := by decide +kernel
theorem dX3_friendBest_44 : decode cX3_friendBest 44 = .ok (.bipush (-9), 2) := by decide +kernel
theorem dX3_friendBest_46 : decode cX3_friendBest 46 = .ok (.istore 5, 2) := by decide +kernel
theorem dX3_friendBest_48 : decode cX3_friendBest 48 = .ok (.iconst 0, 1) := by decide +kernel
theorem dX3_friendBest_49 : decode cX3_friendBest 49 = .ok (.istore 6, 2) := by decide +kernel
theorem dX3_friendBest_51 : decode cX3_friendBest 51 = .ok (.iload 6, 2) := by decide +kernel
theorem dX3_friendBest_53 : decode cX3_friendBest 53 = .ok (.aload_n 0, 1) := by decide +kernel
theorem dX3_friendBest_54 : decode cX3_friendBest 54 = .ok (.getfield 9, 3) := by decide +kernel
theorem dX3_friendBest_57 : decode cX3_friendBest 57 = .ok (.iconst 0, 1) := by decide +kernel
theorem dX3_friendBest_58 : decode cX3_friendBest 58 = .ok (.iaload, 1) := by decide +kernel
theorem dX3_friendBest_59 : decode cX3_friendBest 59 = .ok (.if_icmp .ge 78, 3) := by decide +kernel
theorem dX3_friendBest_62 : decode cX3_friendBest 62 = .ok (.iload 6, 2) := by decide +kernel
theorem dX3_friendBest_64 : decode cX3_friendBest 64 = .ok (.iload_n 1, 1) := by decide +kernel
theorem dX3_friendBest_65 : decode cX3_friendBest 65 = .ok (.if_icmp .ne 6, 3) := by decide +kernel
theorem dX3_friendBest_68 : decode cX3_friendBest 68 = .ok (.goto 63, 3) := by decide +kernel
theorem dX3_friendBest_71 : decode cX3_friendBest 71 = .ok (.aload_n 0, 1) := by decide +kernel
theorem dX3_friendBest_72 : decode cX3_friendBest 72 = .ok (.getfield 9, 3) := by decide +kernel
theorem dX3_friendBest_75 : decode cX3_friendBest 75 = .ok (.aload_n 0, 1) := by decide +kernel
theorem dX3_friendBest_76 : decode cX3_friendBest 76 = .ok (.getfield 13, 3) := by decide +kernel
theorem dX3_friendBest_79 : decode cX3_friendBest 79 = .ok (.invokestatic 110, 3) := by decide +kernel
theorem dX3_friendBest_82 : decode cX3_friendBest 82 = .ok (.aload_n 0, 1) := by decide +kernel
theorem dX3_friendBest_83 : decode cX3_friendBest 83 = .ok (.getfield 13, 3) := by decide +kernel
theorem dX3_friendBest_86 : decode cX3_friendBest 86 = .ok (.iload_n 1, 1) := by decide +kernel
theorem dX3_friendBest_87 : decode cX3_friendBest 87 = .ok (.bipush 6, 2) := by decide +kernel
theorem dX3_friendBest_89 : decode cX3_friendBest 89 = .ok (.invokestatic 52, 3) := by decide +kernel
theorem dX3_friendBest_92 : decode cX3_friendBest 92 = .ok (.iload 6, 2) := by decide +kernel
theorem dX3_friendBest_94 : decode cX3_friendBest 94 = .ok (.iastore, 1) := by decide +kernel
theorem dX3_friendBest_95 : decode cX3_friendBest 95 = .ok (.aload_n 0, 1) := by decide +kernel
theorem dX3_friendBest_96 : decode cX3_friendBest 96 = .ok (.getfield 13, 3) := by decide +kernel
theorem dX3_friendBest_99 : decode cX3_friendBest 99 = .ok (.iload_n 2, 1) := by decide +kernel
theorem dX3_friendBest_100 : decode cX3_friendBest 100 = .ok (.invokestatic 104, 3) := by decide +kernel
theorem dX3_friendBest_103 : decode cX3_friendBest 103 = .ok (.aload_n 0, 1) := by decide +kernel
theorem dX3_friendBest_104 : decode cX3_friendBest 104 = .ok (.getfield 13, 3) := by decide +kernel
theorem dX3_friendBest_107 : decode cX3_friendBest 107 = .ok (.invokestatic 158, 3) := by decide +kernel
theorem dX3_friendBest_110 : decode cX3_friendBest 110 = .ok (.iload 4, 2) := by decide +kernel
theorem dX3_friendBest_112 : decode cX3_friendBest 112 = .ok (.if_icmp .gt 6, 3) := by decide +kernel
theorem dX3_friendBest_115 : decode cX3_friendBest 115 = .ok (.goto 16, 3) := by decide +kernel
theorem dX3_friendBest_118 : decode cX3_friendBest 118 = .ok (.iload 6, 2) := by decide +kernel
theorem dX3_friendBest_120 : decode cX3_friendBest 120 = .ok (.istore 5, 2) := by decide +kernel
theorem dX3_friendBest_122 : decode cX3_friendBest 122 = .ok (.aload_n 0, 1) := by decide +kernel
theorem dX3_friendBest_123 : decode cX3_friendBest 123 = .ok (.getfield 13, 3) := by decide +kernel
theorem dX3_friendBest_126 : decode cX3_friendBest 126 = .ok (.invokestatic 158, 3) := by decide +kernel
theorem dX3_friendBest_129 : decode cX3_friendBest 129 = .ok (.istore 4, 2) := by decide +kernel
theorem dX3_friendBest_131 : decode cX3_friendBest 131 = .ok (.iinc 6 1, 3) := by decide +kernel
theorem dX3_friendBest_134 : decode cX3_friendBest 134 = .ok (.goto (-83), 3) := by decide +kernel
theorem dX3_friendBest_137 : decode cX3_friendBest 137 = .ok (.iload 5, 2) := by decide +kernel
theorem dX3_friendBest_139 : decode cX3_friendBest 139 = .ok (.ireturn, 1) := by decide +kernel
theorem dX3_hush_0 : decode cX3_hush 0 = .ok (.iload_n 1, 1) := by decide +kernel
theorem dX3_hush_1 : decode cX3_hush 1 = .ok (.iconst 0, 1) := by decide +kernel
theorem dX3_hush_2 : decode cX3_hush 2 = .ok (.bipush 48, 2) := by decide +kernel
theorem dX3_hush_4 : decode cX3_hush 4 = .ok (.invokestatic 126, 3) := by decide +kernel
theorem dX3_hush_7 : decode cX3_hush 7 = .ok (.istore_n 2, 1) := by decide +kernel
theorem dX3_hush_8 : decode cX3_hush 8 = .ok (.iload_n 2, 1) := by decide +kernel
theorem dX3_hush_9 : decode cX3_hush 9 = .ok (.ifCond .eq 9, 3) := by decide +kernel
theorem dX3_hush_12 : decode cX3_hush 12 = .ok (.aload_n 0, 1) := by decide +kernel
theorem dX3_hush_13 : decode cX3_hush 13 = .ok (.iload_n 2, 1) := by decide +kernel
theorem dX3_hush_14 : decode cX3_hush 14 = .ok (.invokevirtual 36, 3) := by decide +kernel
theorem dX3_hush_17 : decode cX3_hush 17 = .ok (.ireturn, 1) := by decide +kernel
theorem dX3_hush_18 : decode cX3_hush 18 = .ok (.aload_n 0, 1) := by decide +kernel
theorem dX3_hush_19 : decode cX3_hush 19 = .ok (.iload_n 1, 1) := by decide +kernel
theorem dX3_hush_20 : decode cX3_hush 20 = .ok (.invokevirtual 137, 3) := by decide +kernel
theorem dX3_hush_23 : decode cX3_hush 23 = .ok (.aload_n 0, 1) := by decide +kernel
theorem dX3_hush_24 : decode cX3_hush 24 = .ok (.getfield 13, 3) := by decide +kernel
theorem dX3_hush_27 : decode cX3_hush 27 = .ok (.invokestatic 141, 3) := by decide +kernel
theorem dX3_hush_30 : decode cX3_hush 30 = .ok (.istore_n 3, 1) := by decide +kernel
theorem dX3_hush_31 : decode cX3_hush 31 = .ok (.bipush (-9), 2) := by decide +kernel
theorem dX3_hush_33 : decode cX3_hush 33 = .ok (.istore 4, 2) := by decide +kernel
theorem dX3_hush_35 : decode cX3_hush 35 = .ok (.iconst 0, 1) := by decide +kernel
theorem dX3_hush_36 : decode cX3_hush 36 = .ok (.istore 5, 2) := by decide +kernel
theorem dX3_hush_38 : decode cX3_hush 38 = .ok (.iload 5, 2) := by decide +kernel
theorem dX3_hush_40 : decode cX3_hush 40 = .ok (.aload_n 0, 1) := by decide +kernel
theorem dX3_hush_41 : decode cX3_hush 41 = .ok (.getfield 9, 3) := by decide +kernel
theorem dX3_hush_44 : decode cX3_hush 44 = .ok (.iconst 0, 1) := by decide +kernel
theorem dX3_hush_45 : decode cX3_hush 45 = .ok (.iaload, 1) := by decide +kernel
theorem dX3_hush_46 : decode cX3_hush 46 = .ok (.if_icmp .ge 64, 3) := by decide +kernel
theorem dX3_hush_49 : decode cX3_hush 49 = .ok (.aload_n 0, 1) := by decide +kernel
theorem dX3_hush_50 : decode cX3_hush 50 = .ok (.getfield 9, 3) := by decide +kernel
theorem dX3_hush_53 : decode cX3_hush 53 = .ok (.aload_n 0, 1) := by decide +kernel
theorem dX3_hush_54 : decode cX3_hush 54 = .ok (.getfield 13, 3) := by decide +kernel
theorem dX3_hush_57 : decode cX3_hush 57 = .ok (.invokestatic 110, 3) := by decide +kernel
theorem dX3_hush_60 : decode cX3_hush 60 = .ok (.aload_n 0, 1) := by decide +kernel
theorem dX3_hush_61 : decode cX3_hush 61 = .ok (.getfield 13, 3) := by decide +kernel
theorem dX3_hush_64 : decode cX3_hush 64 = .ok (.iconst 4, 1) := by decide +kernel
theorem dX3_hush_65 : decode cX3_hush 65 = .ok (.iconst 1, 1) := by decide +kernel
theorem dX3_hush_66 : decode cX3_hush 66 = .ok (.iload 5, 2) := by decide +kernel
theorem dX3_hush_68 : decode cX3_hush 68 = .ok (.ishl, 1) := by decide +kernel
theorem dX3_hush_69 : decode cX3_hush 69 = .ok (.iastore, 1) := by decide +kernel
theorem dX3_hush_70 : decode cX3_hush 70 = .ok (.aload_n 0, 1) := by decide +kernel
theorem dX3_hush_71 : decode cX3_hush 71 = .ok (.getfield 13, 3) := by decide +kernel
theorem dX3_hush_74 : decode cX3_hush 74 = .ok (.iload_n 1, 1) := by decide +kernel
theorem dX3_hush_75 : decode cX3_hush 75 = .ok (.invokestatic 104, 3) := by decide +kernel
theorem dX3_hush_78 : decode cX3_hush 78 = .ok (.aload_n 0, 1) := by decide +kernel
theorem dX3_hush_79 : decode cX3_hush 79 = .ok (.getfield 13, 3) := by decide +kernel
theorem dX3_hush_82 : decode cX3_hush 82 = .ok (.invokestatic 141, 3) := by decide +kernel
theorem dX3_hush_85 : decode cX3_hush 85 = .ok (.iload_n 3, 1) := by decide +kernel
theorem dX3_hush_86 : decode cX3_hush 86 = .ok (.if_icmp .gt 6, 3) := by decide +kernel
theorem dX3_hush_89 : decode cX3_hush 89 = .ok (.goto 15, 3) := by decide +kernel
theorem dX3_hush_92 : decode cX3_hush 92 = .ok (.iload 5, 2) := by decide +kernel
theorem dX3_hush_94 : decode cX3_hush 94 = .ok (.istore 4, 2) := by decide +kernel
theorem dX3_hush_96 : decode cX3_hush 96 = .ok (.aload_n 0, 1) := by decide +kernel
theorem dX3_hush_97 : decode cX3_hush 97 = .ok (.getfield 13, 3) := by decide +kernel
theorem dX3_hush_100 : decode cX3_hush 100 = .ok (.invokestatic 141, 3) := by decide +kernel
theorem dX3_hush_103 : decode cX3_hush 103 = .ok (.istore_n 3, 1) := by decide +kernel
theorem dX3_hush_104 : decode cX3_hush 104 = .ok (.iinc 5 1, 3) := by decide +kernel
theorem dX3_hush_107 : decode cX3_hush 107 = .ok (.goto (-69), 3) := by decide +kernel
theorem dX3_hush_110 : decode cX3_hush 110 = .ok (.iload 4, 2) := by decide +kernel
theorem dX3_hush_112 : decode cX3_hush 112 = .ok (.ireturn, 1) := by decide +kernel
theorem dX3_fewest_0 : decode cX3_fewest 0 = .ok (.iload_n 1, 1) := by decide +kernel
theorem dX3_fewest_1 : decode cX3_fewest 1 = .ok (.iconst 0, 1) := by decide +kernel
theorem dX3_fewest_2 : decode cX3_fewest 2 = .ok (.bipush 24, 2) := by decide +kernel
theorem dX3_fewest_4 : decode cX3_fewest 4 = .ok (.invokestatic 126, 3) := by decide +kernel
theorem dX3_fewest_7 : decode cX3_fewest 7 = .ok (.istore_n 2, 1) := by decide +kernel
theorem dX3_fewest_8 : decode cX3_fewest 8 = .ok (.iload_n 2, 1) := by decide +kernel
theorem dX3_fewest_9 : decode cX3_fewest 9 = .ok (.ifCond .eq 9, 3) := by decide +kernel
theorem dX3_fewest_12 : decode cX3_fewest 12 = .ok (.aload_n 0, 1) := by decide +kernel
theorem dX3_fewest_13 : decode cX3_fewest 13 = .ok (.iload_n 2, 1) := by decide +kernel
theorem dX3_fewest_14 : decode cX3_fewest 14 = .ok (.invokevirtual 36, 3) := by decide +kernel
theorem dX3_fewest_17 : decode cX3_fewest 17 = .ok (.ireturn, 1) := by decide +kernel
theorem dX3_fewest_18 : decode cX3_fewest 18 = .ok (.bipush (-9), 2) := by decide +kernel
theorem dX3_fewest_20 : decode cX3_fewest 20 = .ok (.istore_n 3, 1) := by decide +kernel
theorem dX3_fewest_21 : decode cX3_fewest 21 = .ok (.iconst 0, 1) := by decide +kernel
theorem dX3_fewest_22 : decode cX3_fewest 22 = .ok (.istore 4, 2) := by decide +kernel
theorem dX3_fewest_24 : decode cX3_fewest 24 = .ok (.iload 4, 2) := by decide +kernel
theorem dX3_fewest_26 : decode cX3_fewest 26 = .ok (.iconst 1, 1) := by decide +kernel
theorem dX3_fewest_27 : decode cX3_fewest 27 = .ok (.aload_n 0, 1) := by decide +kernel
theorem dX3_fewest_28 : decode cX3_fewest 28 = .ok (.getfield 9, 3) := by decide +kernel
theorem dX3_fewest_31 : decode cX3_fewest 31 = .ok (.iconst 0, 1) := by decide +kernel
theorem dX3_fewest_32 : decode cX3_fewest 32 = .ok (.iaload, 1) := by decide +kernel
theorem dX3_fewest_33 : decode cX3_fewest 33 = .ok (.ishl, 1) := by decide +kernel
theorem dX3_fewest_34 : decode cX3_fewest 34 = .ok (.if_icmp .ge 59, 3) := by decide +kernel
theorem dX3_fewest_37 : decode cX3_fewest 37 = .ok (.iload_n 3, 1) := by decide +kernel
theorem dX3_fewest_38 : decode cX3_fewest 38 = .ok (.ifCond .lt 18, 3) := by decide +kernel
theorem dX3_fewest_41 : decode cX3_fewest 41 = .ok (.iload 4, 2) := by decide +kernel
theorem dX3_fewest_43 : decode cX3_fewest 43 = .ok (.invokestatic 120, 3) := by decide +kernel
theorem dX3_fewest_46 : decode cX3_fewest 46 = .ok (.iload_n 3, 1) := by decide +kernel
theorem dX3_fewest_47 : decode cX3_fewest 47 = .ok (.invokestatic 120, 3) := by decide +kernel
theorem dX3_fewest_50 : decode cX3_fewest 50 = .ok (.if_icmp .lt 6, 3) := by decide +kernel
theorem dX3_fewest_53 : decode cX3_fewest 53 = .ok (.goto 34, 3) := by decide +kernel
theorem dX3_fewest_56 : decode cX3_fewest 56 = .ok (.aload_n 0, 1) := by decide +kernel
theorem dX3_fewest_57 : decode cX3_fewest 57 = .ok (.getfield 9, 3) := by decide +kernel
theorem dX3_fewest_60 : decode cX3_fewest 60 = .ok (.aload_n 0, 1) := by decide +kernel
theorem dX3_fewest_61 : decode cX3_fewest 61 = .ok (.getfield 13, 3) := by decide +kernel
theorem dX3_fewest_64 : decode cX3_fewest 64 = .ok (.invokestatic 110, 3) := by decide +kernel
theorem dX3_fewest_67 : decode cX3_fewest 67 = .ok (.aload_n 0, 1) := by decide +kernel
theorem dX3_fewest_68 : decode cX3_fewest 68 = .ok (.getfield 13, 3) := by decide +kernel
theorem dX3_fewest_71 : decode cX3_fewest 71 = .ok (.iconst 4, 1) := by decide +kernel
theorem dX3_fewest_72 : decode cX3_fewest 72 = .ok (.iload 4, 2) := by decide +kernel
theorem dX3_fewest_74 : decode cX3_fewest 74 = .ok (.iastore, 1) := by decide +kernel
theorem dX3_fewest_75 : decode cX3_fewest 75 = .ok (.aload_n 0, 1) := by decide +kernel
theorem dX3_fewest_76 : decode cX3_fewest 76 = .ok (.iconst (-1), 1) := by decide +kernel
theorem dX3_fewest_77 : decode cX3_fewest 77 = .ok (.iload_n 1, 1) := by decide +kernel
theorem dX3_fewest_78 : decode cX3_fewest 78 = .ok (.invokevirtual 155, 3) := by decide +kernel
theorem dX3_fewest_81 : decode cX3_fewest 81 = .ok (.ifCond .eq 6, 3) := by decide +kernel
theorem dX3_fewest_84 : decode cX3_fewest 84 = .ok (.iload 4, 2) := by decide +kernel
theorem dX3_fewest_86 : decode cX3_fewest 86 = .ok (.istore_n 3, 1) := by decide +kernel
theorem dX3_fewest_87 : decode cX3_fewest 87 = .ok (.iinc 4 1, 3) := by decide +kernel
theorem dX3_fewest_90 : decode cX3_fewest 90 = .ok (.goto (-66), 3) := by decide +kernel
theorem dX3_fewest_93 : decode cX3_fewest 93 = .ok (.iload_n 3, 1) := by decide +kernel
theorem dX3_fewest_94 : decode cX3_fewest 94 = .ok (.ireturn, 1) := by decide +kernel
theorem dX3_word_0 : decode cX3_word 0 = .ok (.iload_n 1, 1) := by decide +kernel
theorem dX3_word_1 : decode cX3_word 1 = .ok (.iconst 1, 1) := by decide +kernel
theorem dX3_word_2 : decode cX3_word 2 = .ok (.bipush 24, 2) := by decide +kernel
theorem dX3_word_4 : decode cX3_word 4 = .ok (.invokestatic 126, 3) := by decide +kernel
theorem dX3_word_7 : decode cX3_word 7 = .ok (.istore_n 2, 1) := by decide +kernel
theorem dX3_word_8 : decode cX3_word 8 = .ok (.iload_n 2, 1) := by decide +kernel
theorem dX3_word_9 : decode cX3_word 9 = .ok (.ifCond .eq 9, 3) := by decide +kernel
theorem dX3_word_12 : decode cX3_word 12 = .ok (.aload_n 0, 1) := by decide +kernel
theorem dX3_word_13 : decode cX3_word 13 = .ok (.iload_n 2, 1) := by decide +kernel
theorem dX3_word_14 : decode cX3_word 14 = .ok (.invokevirtual 36, 3) := by decide +kernel
theorem dX3_word_17 : decode cX3_word 17 = .ok (.ireturn, 1) := by decide +kernel
theorem dX3_word_18 : decode cX3_word 18 = .ok (.aload_n 0, 1) := by decide +kernel
theorem dX3_word_19 : decode cX3_word 19 = .ok (.iload_n 1, 1) := by decide +kernel
theorem dX3_word_20 : decode cX3_word 20 = .ok (.invokevirtual 137, 3) := by decide +kernel
theorem dX3_word_23 : decode cX3_word 23 = .ok (.aload_n 0, 1) := by decide +kernel
theorem dX3_word_24 : decode cX3_word 24 = .ok (.getfield 13, 3) := by decide +kernel
theorem dX3_word_27 : decode cX3_word 27 = .ok (.invokestatic 141, 3) := by decide +kernel
theorem dX3_word_30 : decode cX3_word 30 = .ok (.istore_n 3, 1) := by decide +kernel
theorem dX3_word_31 : decode cX3_word 31 = .ok (.bipush (-9), 2) := by decide +kernel
theorem dX3_word_33 : decode cX3_word 33 = .ok (.istore 4, 2) := by decide +kernel
theorem dX3_word_35 : decode cX3_word 35 = .ok (.iconst 0, 1) := by decide +kernel
theorem dX3_word_36 : decode cX3_word 36 = .ok (.istore 5, 2) := by decide +kernel
theorem dX3_word_38 : decode cX3_word 38 = .ok (.iload 5, 2) := by decide +kernel
theorem dX3_word_40 : decode cX3_word 40 = .ok (.aload_n 0, 1) := by decide +kernel
theorem dX3_word_41 : decode cX3_word 41 = .ok (.getfield 9, 3) := by decide +kernel
theorem dX3_word_44 : decode cX3_word 44 = .ok (.iconst 0, 1) := by decide +kernel
theorem dX3_word_45 : decode cX3_word 45 = .ok (.iaload, 1) := by decide +kernel
theorem dX3_word_46 : decode cX3_word 46 = .ok (.if_icmp .ge 66, 3) := by decide +kernel
theorem dX3_word_49 : decode cX3_word 49 = .ok (.aload_n 0, 1) := by decide +kernel
theorem dX3_word_50 : decode cX3_word 50 = .ok (.getfield 9, 3) := by decide +kernel
theorem dX3_word_53 : decode cX3_word 53 = .ok (.aload_n 0, 1) := by decide +kernel
theorem dX3_word_54 : decode cX3_word 54 = .ok (.getfield 13, 3) := by decide +kernel
theorem dX3_word_57 : decode cX3_word 57 = .ok (.invokestatic 110, 3) := by decide +kernel
theorem dX3_word_60 : decode cX3_word 60 = .ok (.aload_n 0, 1) := by decide +kernel
theorem dX3_word_61 : decode cX3_word 61 = .ok (.getfield 13, 3) := by decide +kernel
theorem dX3_word_64 : decode cX3_word 64 = .ok (.iload 5, 2) := by decide +kernel
theorem dX3_word_66 : decode cX3_word 66 = .ok (.iconst 4, 1) := by decide +kernel
theorem dX3_word_67 : decode cX3_word 67 = .ok (.invokestatic 52, 3) := by decide +kernel
theorem dX3_word_70 : decode cX3_word 70 = .ok (.iconst 1, 1) := by decide +kernel
theorem dX3_word_71 : decode cX3_word 71 = .ok (.iastore, 1) := by decide +kernel
theorem dX3_word_72 : decode cX3_word 72 = .ok (.aload_n 0, 1) := by decide +kernel
theorem dX3_word_73 : decode cX3_word 73 = .ok (.getfield 13, 3) := by decide +kernel
theorem dX3_word_76 : decode cX3_word 76 = .ok (.iload_n 1, 1) := by decide +kernel
theorem dX3_word_77 : decode cX3_word 77 = .ok (.invokestatic 104, 3) := by decide +kernel
theorem dX3_word_80 : decode cX3_word 80 = .ok (.aload_n 0, 1) := by decide +kernel
theorem dX3_word_81 : decode cX3_word 81 = .ok (.getfield 13, 3) := by decide +kernel
theorem dX3_word_84 : decode cX3_word 84 = .ok (.invokestatic 141, 3) := by decide +kernel
theorem dX3_word_87 : decode cX3_word 87 = .ok (.iload_n 3, 1) := by decide +kernel
theorem dX3_word_88 : decode cX3_word 88 = .ok (.if_icmp .lt 6, 3) := by decide +kernel
theorem dX3_word_91 : decode cX3_word 91 = .ok (.goto 15, 3) := by decide +kernel
theorem dX3_word_94 : decode cX3_word 94 = .ok (.iload 5, 2) := by decide +kernel
theorem dX3_word_96 : decode cX3_word 96 = .ok (.istore 4, 2) := by decide +kernel
theorem dX3_word_98 : decode cX3_word 98 = .ok (.aload_n 0, 1) := by decide +kernel
theorem dX3_word_99 : decode cX3_word 99 = .ok (.getfield 13, 3) := by decide +kernel
theorem dX3_word_102 : decode cX3_word 102 = .ok (.invokestatic 141, 3) := by decide +kernel
theorem dX3_word_105 : decode cX3_word 105 = .ok (.istore_n 3, 1) := by decide +kernel
theorem dX3_word_106 : decode cX3_word 106 = .ok (.iinc 5 1, 3) := by decide +kernel
theorem dX3_word_109 : decode cX3_word 109 = .ok (.goto (-71), 3) := by decide +kernel
theorem dX3_word_112 : decode cX3_word 112 = .ok (.iload 4, 2) := by decide +kernel
theorem dX3_word_114 : decode cX3_word 114 = .ok (.ireturn, 1) := by decide +kernel
theorem dX3_send_0 : decode cX3_send 0 = .ok (.iload_n 1, 1) := by decide +kernel
theorem dX3_send_1 : decode cX3_send 1 = .ok (.iconst 0, 1) := by decide +kernel
theorem dX3_send_2 : decode cX3_send 2 = .ok (.bipush 24, 2) := by decide +kernel
theorem dX3_send_4 : decode cX3_send 4 = .ok (.invokestatic 126, 3) := by decide +kernel
theorem dX3_send_7 : decode cX3_send 7 = .ok (.istore_n 3, 1) := by decide +kernel
theorem dX3_send_8 : decode cX3_send 8 = .ok (.iload_n 3, 1) := by decide +kernel
theorem dX3_send_9 : decode cX3_send 9 = .ok (.ifCond .ne 15, 3) := by decide +kernel
theorem dX3_send_12 : decode cX3_send 12 = .ok (.iload_n 2, 1) := by decide +kernel
theorem dX3_send_13 : decode cX3_send 13 = .ok (.iconst 0, 1) := by decide +kernel
theorem dX3_send_14 : decode cX3_send 14 = .ok (.iconst 1, 1) := by decide +kernel
theorem dX3_send_15 : decode cX3_send 15 = .ok (.invokestatic 40, 3) := by decide +kernel
theorem dX3_send_18 : decode cX3_send 18 = .ok (.ifCond .ne 6, 3) := by decide +kernel
theorem dX3_send_21 : decode cX3_send 21 = .ok (.bipush (-2), 2) := by decide +kernel
theorem dX3_send_23 : decode cX3_send 23 = .ok (.istore_n 3, 1) := by decide +kernel
theorem dX3_send_24 : decode cX3_send 24 = .ok (.iload_n 3, 1) := by decide +kernel
theorem dX3_send_25 : decode cX3_send 25 = .ok (.ifCond .eq 9, 3) := by decide +kernel
theorem dX3_send_28 : decode cX3_send 28 = .ok (.aload_n 0, 1) := by decide +kernel
theorem dX3_send_29 : decode cX3_send 29 = .ok (.iload_n 3, 1) := by decide +kernel
theorem dX3_send_30 : decode cX3_send 30 = .ok (.invokevirtual 36, 3) := by decide +kernel
theorem dX3_send_33 : decode cX3_send 33 = .ok (.ireturn, 1) := by decide +kernel
theorem dX3_send_34 : decode cX3_send 34 = .ok (.bipush (-9), 2) := by decide +kernel
theorem dX3_send_36 : decode cX3_send 36 = .ok (.istore 4, 2) := by decide +kernel
theorem dX3_send_38 : decode cX3_send 38 = .ok (.iconst (-1), 1) := by decide +kernel
theorem dX3_send_39 : decode cX3_send 39 = .ok (.istore 5, 2) := by decide +kernel
theorem dX3_send_41 : decode cX3_send 41 = .ok (.iconst 0, 1) := by decide +kernel
theorem dX3_send_42 : decode cX3_send 42 = .ok (.istore 6, 2) := by decide +kernel
theorem dX3_send_44 : decode cX3_send 44 = .ok (.iload 6, 2) := by decide +kernel
theorem dX3_send_46 : decode cX3_send 46 = .ok (.aload_n 0, 1) := by decide +kernel
theorem dX3_send_47 : decode cX3_send 47 = .ok (.getfield 9, 3) := by decide +kernel
theorem dX3_send_50 : decode cX3_send 50 = .ok (.iconst 0, 1) := by decide +kernel
theorem dX3_send_51 : decode cX3_send 51 = .ok (.iaload, 1) := by decide +kernel
theorem dX3_send_52 : decode cX3_send 52 = .ok (.if_icmp .ge 119, 3) := by decide +kernel
theorem dX3_send_55 : decode cX3_send 55 = .ok (.aload_n 0, 1) := by decide +kernel
theorem dX3_send_56 : decode cX3_send 56 = .ok (.getfield 9, 3) := by decide +kernel
theorem dX3_send_59 : decode cX3_send 59 = .ok (.aload_n 0, 1) := by decide +kernel
theorem dX3_send_60 : decode cX3_send 60 = .ok (.getfield 13, 3) := by decide +kernel
theorem dX3_send_63 : decode cX3_send 63 = .ok (.invokestatic 110, 3) := by decide +kernel
theorem dX3_send_66 : decode cX3_send 66 = .ok (.aload_n 0, 1) := by decide +kernel
theorem dX3_send_67 : decode cX3_send 67 = .ok (.getfield 13, 3) := by decide +kernel
theorem dX3_send_70 : decode cX3_send 70 = .ok (.iconst 2, 1) := by decide +kernel
theorem dX3_send_71 : decode cX3_send 71 = .ok (.bipush 99, 2) := by decide +kernel
theorem dX3_send_73 : decode cX3_send 73 = .ok (.aload_n 0, 1) := by decide +kernel
theorem dX3_send_74 : decode cX3_send 74 = .ok (.getfield 13, 3) := by decide +kernel
theorem dX3_send_77 : decode cX3_send 77 = .ok (.iconst 2, 1) := by decide +kernel
theorem dX3_send_78 : decode cX3_send 78 = .ok (.iaload, 1) := by decide +kernel
theorem dX3_send_79 : decode cX3_send 79 = .ok (.aload_n 0, 1) := by decide +kernel
theorem dX3_send_80 : decode cX3_send 80 = .ok (.getfield 13, 3) := by decide +kernel
theorem dX3_send_83 : decode cX3_send 83 = .ok (.iload 6, 2) := by decide +kernel
theorem dX3_send_85 : decode cX3_send 85 = .ok (.iconst 3, 1) := by decide +kernel
theorem dX3_send_86 : decode cX3_send 86 = .ok (.invokestatic 52, 3) := by decide +kernel
theorem dX3_send_89 : decode cX3_send 89 = .ok (.iaload, 1) := by decide +kernel
theorem dX3_send_90 : decode cX3_send 90 = .ok (.iadd, 1) := by decide +kernel
theorem dX3_send_91 : decode cX3_send 91 = .ok (.invokestatic 44, 3) := by decide +kernel
theorem dX3_send_94 : decode cX3_send 94 = .ok (.iastore, 1) := by decide +kernel
theorem dX3_send_95 : decode cX3_send 95 = .ok (.aload_n 0, 1) := by decide +kernel
theorem dX3_send_96 : decode cX3_send 96 = .ok (.getfield 13, 3) := by decide +kernel
theorem dX3_send_99 : decode cX3_send 99 = .ok (.iload 6, 2) := by decide +kernel
theorem dX3_send_101 : decode cX3_send 101 = .ok (.iconst 3, 1) := by decide +kernel
theorem dX3_send_102 : decode cX3_send 102 = .ok (.invokestatic 52, 3) := by decide +kernel
theorem dX3_send_105 : decode cX3_send 105 = .ok (.iconst 0, 1) := by decide +kernel
theorem dX3_send_106 : decode cX3_send 106 = .ok (.iastore, 1) := by decide +kernel
theorem dX3_send_107 : decode cX3_send 107 = .ok (.aload_n 0, 1) := by decide +kernel
theorem dX3_send_108 : decode cX3_send 108 = .ok (.getfield 13, 3) := by decide +kernel
theorem dX3_send_111 : decode cX3_send 111 = .ok (.iload_n 1, 1) := by decide +kernel
theorem dX3_send_112 : decode cX3_send 112 = .ok (.invokestatic 104, 3) := by decide +kernel
theorem dX3_send_115 : decode cX3_send 115 = .ok (.iconst 1, 1) := by decide +kernel
theorem dX3_send_116 : decode cX3_send 116 = .ok (.aload_n 0, 1) := by decide +kernel
theorem dX3_send_117 : decode cX3_send 117 = .ok (.getfield 9, 3) := by decide +kernel
theorem dX3_send_120 : decode cX3_send 120 = .ok (.iconst 0, 1) := by decide +kernel
theorem dX3_send_121 : decode cX3_send 121 = .ok (.iaload, 1) := by decide +kernel
end
section
theorem dX3_send_122 : decode cX3_send 122 = .ok (.ishl, 1) := by decide +kernel
theorem dX3_send_123 : decode cX3_send 123 = .ok (.iconst 1, 1) := by decide +kernel
theorem dX3_send_124 : decode cX3_send 124 = .ok (.isub, 1) := by decide +kernel
theorem dX3_send_125 : decode cX3_send 125 = .ok (.iconst 1, 1) := by decide +kernel
theorem dX3_send_126 : decode cX3_send 126 = .ok (.iload 6, 2) := by decide +kernel
theorem dX3_send_128 : decode cX3_send 128 = .ok (.ishl, 1) := by decide +kernel
theorem dX3_send_129 : decode cX3_send 129 = .ok (.iconst (-1), 1) := by decide +kernel
theorem dX3_send_130 : decode cX3_send 130 = .ok (.ixor, 1) := by decide +kernel
theorem dX3_send_131 : decode cX3_send 131 = .ok (.iand, 1) := by decide +kernel
theorem dX3_send_132 : decode cX3_send 132 = .ok (.aload_n 0, 1) := by decide +kernel
theorem dX3_send_133 : decode cX3_send 133 = .ok (.getfield 13, 3) := by decide +kernel
theorem dX3_send_136 : decode cX3_send 136 = .ok (.invokestatic 152, 3) := by decide +kernel
theorem dX3_send_139 : decode cX3_send 139 = .ok (.iconst (-1), 1) := by decide +kernel
theorem dX3_send_140 : decode cX3_send 140 = .ok (.ixor, 1) := by decide +kernel
theorem dX3_send_141 : decode cX3_send 141 = .ok (.iand, 1) := by decide +kernel
theorem dX3_send_142 : decode cX3_send 142 = .ok (.invokestatic 120, 3) := by decide +kernel
theorem dX3_send_145 : decode cX3_send 145 = .ok (.istore 7, 2) := by decide +kernel
theorem dX3_send_147 : decode cX3_send 147 = .ok (.iload 7, 2) := by decide +kernel
theorem dX3_send_149 : decode cX3_send 149 = .ok (.iload 5, 2) := by decide +kernel
theorem dX3_send_151 : decode cX3_send 151 = .ok (.if_icmp .gt 6, 3) := by decide +kernel
theorem dX3_send_154 : decode cX3_send 154 = .ok (.goto 11, 3) := by decide +kernel
theorem dX3_send_157 : decode cX3_send 157 = .ok (.iload 6, 2) := by decide +kernel
theorem dX3_send_159 : decode cX3_send 159 = .ok (.istore 4, 2) := by decide +kernel
theorem dX3_send_161 : decode cX3_send 161 = .ok (.iload 7, 2) := by decide +kernel
theorem dX3_send_163 : decode cX3_send 163 = .ok (.istore 5, 2) := by decide +kernel
theorem dX3_send_165 : decode cX3_send 165 = .ok (.iinc 6 1, 3) := by decide +kernel
theorem dX3_send_168 : decode cX3_send 168 = .ok (.goto (-124), 3) := by decide +kernel
theorem dX3_send_171 : decode cX3_send 171 = .ok (.iload 4, 2) := by decide +kernel
theorem dX3_send_173 : decode cX3_send 173 = .ok (.ifCond .lt 7, 3) := by decide +kernel
theorem dX3_send_176 : decode cX3_send 176 = .ok (.iload_n 2, 1) := by decide +kernel
theorem dX3_send_177 : decode cX3_send 177 = .ok (.ifCond .ne 8, 3) := by decide +kernel
theorem dX3_send_180 : decode cX3_send 180 = .ok (.iload 4, 2) := by decide +kernel
theorem dX3_send_182 : decode cX3_send 182 = .ok (.goto 5, 3) := by decide +kernel
theorem dX3_send_185 : decode cX3_send 185 = .ok (.iload 5, 2) := by decide +kernel
theorem dX3_send_187 : decode cX3_send 187 = .ok (.ireturn, 1) := by decide +kernel
theorem dX3_next_0 : decode cX3_next 0 = .ok (.aload_n 0, 1) := by decide +kernel
theorem dX3_next_1 : decode cX3_next 1 = .ok (.getfield 9, 3) := by decide +kernel
theorem dX3_next_4 : decode cX3_next 4 = .ok (.iconst 1, 1) := by decide +kernel
theorem dX3_next_5 : decode cX3_next 5 = .ok (.iaload, 1) := by decide +kernel
theorem dX3_next_6 : decode cX3_next 6 = .ok (.bipush 12, 2) := by decide +kernel
theorem dX3_next_8 : decode cX3_next 8 = .ok (.irem, 1) := by decide +kernel
theorem dX3_next_9 : decode cX3_next 9 = .ok (.ifCond .ne 7, 3) := by decide +kernel
theorem dX3_next_12 : decode cX3_next 12 = .ok (.iconst 0, 1) := by decide +kernel
theorem dX3_next_13 : decode cX3_next 13 = .ok (.goto 11, 3) := by decide +kernel
theorem dX3_next_16 : decode cX3_next 16 = .ok (.aload_n 0, 1) := by decide +kernel
theorem dX3_next_17 : decode cX3_next 17 = .ok (.getfield 9, 3) := by decide +kernel
theorem dX3_next_20 : decode cX3_next 20 = .ok (.iconst 5, 1) := by decide +kernel
theorem dX3_next_21 : decode cX3_next 21 = .ok (.invokestatic 117, 3) := by decide +kernel
theorem dX3_next_24 : decode cX3_next 24 = .ok (.istore_n 1, 1) := by decide +kernel
theorem dX3_next_25 : decode cX3_next 25 = .ok (.aload_n 0, 1) := by decide +kernel
theorem dX3_next_26 : decode cX3_next 26 = .ok (.iconst 1, 1) := by decide +kernel
theorem dX3_next_27 : decode cX3_next 27 = .ok (.invokevirtual 137, 3) := by decide +kernel
theorem dX3_next_30 : decode cX3_next 30 = .ok (.aload_n 0, 1) := by decide +kernel
theorem dX3_next_31 : decode cX3_next 31 = .ok (.getfield 13, 3) := by decide +kernel
theorem dX3_next_34 : decode cX3_next 34 = .ok (.iconst 5, 1) := by decide +kernel
theorem dX3_next_35 : decode cX3_next 35 = .ok (.invokestatic 117, 3) := by decide +kernel
theorem dX3_next_38 : decode cX3_next 38 = .ok (.iload_n 1, 1) := by decide +kernel
theorem dX3_next_39 : decode cX3_next 39 = .ok (.iconst (-1), 1) := by decide +kernel
theorem dX3_next_40 : decode cX3_next 40 = .ok (.ixor, 1) := by decide +kernel
theorem dX3_next_41 : decode cX3_next 41 = .ok (.iand, 1) := by decide +kernel
theorem dX3_next_42 : decode cX3_next 42 = .ok (.ireturn, 1) := by decide +kernel
theorem dX3_extreme_0 : decode cX3_extreme 0 = .ok (.bipush (-9), 2) := by decide +kernel
theorem dX3_extreme_2 : decode cX3_extreme 2 = .ok (.istore_n 3, 1) := by decide +kernel
theorem dX3_extreme_3 : decode cX3_extreme 3 = .ok (.iconst 0, 1) := by decide +kernel
theorem dX3_extreme_4 : decode cX3_extreme 4 = .ok (.istore 4, 2) := by decide +kernel
theorem dX3_extreme_6 : decode cX3_extreme 6 = .ok (.iconst 0, 1) := by decide +kernel
theorem dX3_extreme_7 : decode cX3_extreme 7 = .ok (.istore 5, 2) := by decide +kernel
theorem dX3_extreme_9 : decode cX3_extreme 9 = .ok (.iload 5, 2) := by decide +kernel
theorem dX3_extreme_11 : decode cX3_extreme 11 = .ok (.aload_n 0, 1) := by decide +kernel
theorem dX3_extreme_12 : decode cX3_extreme 12 = .ok (.getfield 9, 3) := by decide +kernel
theorem dX3_extreme_15 : decode cX3_extreme 15 = .ok (.iconst 0, 1) := by decide +kernel
theorem dX3_extreme_16 : decode cX3_extreme 16 = .ok (.iaload, 1) := by decide +kernel
theorem dX3_extreme_17 : decode cX3_extreme 17 = .ok (.if_icmp .ge 61, 3) := by decide +kernel
theorem dX3_extreme_20 : decode cX3_extreme 20 = .ok (.iload_n 2, 1) := by decide +kernel
theorem dX3_extreme_21 : decode cX3_extreme 21 = .ok (.ifCond .eq 15, 3) := by decide +kernel
theorem dX3_extreme_24 : decode cX3_extreme 24 = .ok (.aload_n 0, 1) := by decide +kernel
theorem dX3_extreme_25 : decode cX3_extreme 25 = .ok (.getfield 9, 3) := by decide +kernel
theorem dX3_extreme_28 : decode cX3_extreme 28 = .ok (.iload 5, 2) := by decide +kernel
theorem dX3_extreme_30 : decode cX3_extreme 30 = .ok (.invokestatic 62, 3) := by decide +kernel
theorem dX3_extreme_33 : decode cX3_extreme 33 = .ok (.goto 16, 3) := by decide +kernel
theorem dX3_extreme_36 : decode cX3_extreme 36 = .ok (.iload_n 1, 1) := by decide +kernel
theorem dX3_extreme_37 : decode cX3_extreme 37 = .ok (.aload_n 0, 1) := by decide +kernel
theorem dX3_extreme_38 : decode cX3_extreme 38 = .ok (.getfield 9, 3) := by decide +kernel
theorem dX3_extreme_41 : decode cX3_extreme 41 = .ok (.iload 5, 2) := by decide +kernel
theorem dX3_extreme_43 : decode cX3_extreme 43 = .ok (.iconst 3, 1) := by decide +kernel
theorem dX3_extreme_44 : decode cX3_extreme 44 = .ok (.invokestatic 52, 3) := by decide +kernel
theorem dX3_extreme_47 : decode cX3_extreme 47 = .ok (.iaload, 1) := by decide +kernel
theorem dX3_extreme_48 : decode cX3_extreme 48 = .ok (.imul, 1) := by decide +kernel
theorem dX3_extreme_49 : decode cX3_extreme 49 = .ok (.istore 6, 2) := by decide +kernel
theorem dX3_extreme_51 : decode cX3_extreme 51 = .ok (.iload_n 3, 1) := by decide +kernel
theorem dX3_extreme_52 : decode cX3_extreme 52 = .ok (.ifCond .lt 13, 3) := by decide +kernel
theorem dX3_extreme_55 : decode cX3_extreme 55 = .ok (.iload 6, 2) := by decide +kernel
theorem dX3_extreme_57 : decode cX3_extreme 57 = .ok (.iload 4, 2) := by decide +kernel
theorem dX3_extreme_59 : decode cX3_extreme 59 = .ok (.if_icmp .gt 6, 3) := by decide +kernel
theorem dX3_extreme_62 : decode cX3_extreme 62 = .ok (.goto 10, 3) := by decide +kernel
theorem dX3_extreme_65 : decode cX3_extreme 65 = .ok (.iload 5, 2) := by decide +kernel
theorem dX3_extreme_67 : decode cX3_extreme 67 = .ok (.istore_n 3, 1) := by decide +kernel
theorem dX3_extreme_68 : decode cX3_extreme 68 = .ok (.iload 6, 2) := by decide +kernel
theorem dX3_extreme_70 : decode cX3_extreme 70 = .ok (.istore 4, 2) := by decide +kernel
theorem dX3_extreme_72 : decode cX3_extreme 72 = .ok (.iinc 5 1, 3) := by decide +kernel
theorem dX3_extreme_75 : decode cX3_extreme 75 = .ok (.goto (-66), 3) := by decide +kernel
theorem dX3_extreme_78 : decode cX3_extreme 78 = .ok (.iload_n 3, 1) := by decide +kernel
theorem dX3_extreme_79 : decode cX3_extreme 79 = .ok (.ireturn, 1) := by decide +kernel
theorem dX3_richest_0 : decode cX3_richest 0 = .ok (.iload_n 1, 1) := by decide +kernel
theorem dX3_richest_1 : decode cX3_richest 1 = .ok (.ifCond .ne 12, 3) := by decide +kernel
theorem dX3_richest_4 : decode cX3_richest 4 = .ok (.aload_n 0, 1) := by decide +kernel
theorem dX3_richest_5 : decode cX3_richest 5 = .ok (.iconst 1, 1) := by decide +kernel
theorem dX3_richest_6 : decode cX3_richest 6 = .ok (.iconst 0, 1) := by decide +kernel
theorem dX3_richest_7 : decode cX3_richest 7 = .ok (.invokevirtual 161, 3) := by decide +kernel
theorem dX3_richest_10 : decode cX3_richest 10 = .ok (.goto 37, 3) := by decide +kernel
theorem dX3_richest_13 : decode cX3_richest 13 = .ok (.iload_n 1, 1) := by decide +kernel
theorem dX3_richest_14 : decode cX3_richest 14 = .ok (.iconst 1, 1) := by decide +kernel
theorem dX3_richest_15 : decode cX3_richest 15 = .ok (.if_icmp .ne 12, 3) := by decide +kernel
theorem dX3_richest_18 : decode cX3_richest 18 = .ok (.aload_n 0, 1) := by decide +kernel
theorem dX3_richest_19 : decode cX3_richest 19 = .ok (.iconst (-1), 1) := by decide +kernel
theorem dX3_richest_20 : decode cX3_richest 20 = .ok (.iconst 0, 1) := by decide +kernel
theorem dX3_richest_21 : decode cX3_richest 21 = .ok (.invokevirtual 161, 3) := by decide +kernel
theorem dX3_richest_24 : decode cX3_richest 24 = .ok (.goto 23, 3) := by decide +kernel
theorem dX3_richest_27 : decode cX3_richest 27 = .ok (.iload_n 1, 1) := by decide +kernel
theorem dX3_richest_28 : decode cX3_richest 28 = .ok (.iconst 2, 1) := by decide +kernel
theorem dX3_richest_29 : decode cX3_richest 29 = .ok (.if_icmp .ne 12, 3) := by decide +kernel
theorem dX3_richest_32 : decode cX3_richest 32 = .ok (.aload_n 0, 1) := by decide +kernel
theorem dX3_richest_33 : decode cX3_richest 33 = .ok (.iconst 1, 1) := by decide +kernel
theorem dX3_richest_34 : decode cX3_richest 34 = .ok (.iconst 1, 1) := by decide +kernel
theorem dX3_richest_35 : decode cX3_richest 35 = .ok (.invokevirtual 161, 3) := by decide +kernel
theorem dX3_richest_38 : decode cX3_richest 38 = .ok (.goto 9, 3) := by decide +kernel
theorem dX3_richest_41 : decode cX3_richest 41 = .ok (.aload_n 0, 1) := by decide +kernel
theorem dX3_richest_42 : decode cX3_richest 42 = .ok (.bipush (-2), 2) := by decide +kernel
theorem dX3_richest_44 : decode cX3_richest 44 = .ok (.invokevirtual 36, 3) := by decide +kernel
theorem dX3_richest_47 : decode cX3_richest 47 = .ok (.ireturn, 1) := by decide +kernel
theorem dX3_quiet_0 : decode cX3_quiet 0 = .ok (.iload_n 1, 1) := by decide +kernel
theorem dX3_quiet_1 : decode cX3_quiet 1 = .ok (.iconst 0, 1) := by decide +kernel
theorem dX3_quiet_2 : decode cX3_quiet 2 = .ok (.bipush 11, 2) := by decide +kernel
theorem dX3_quiet_4 : decode cX3_quiet 4 = .ok (.invokestatic 126, 3) := by decide +kernel
theorem dX3_quiet_7 : decode cX3_quiet 7 = .ok (.istore_n 2, 1) := by decide +kernel
theorem dX3_quiet_8 : decode cX3_quiet 8 = .ok (.iload_n 2, 1) := by decide +kernel
theorem dX3_quiet_9 : decode cX3_quiet 9 = .ok (.ifCond .eq 9, 3) := by decide +kernel
theorem dX3_quiet_12 : decode cX3_quiet 12 = .ok (.aload_n 0, 1) := by decide +kernel
theorem dX3_quiet_13 : decode cX3_quiet 13 = .ok (.iload_n 2, 1) := by decide +kernel
theorem dX3_quiet_14 : decode cX3_quiet 14 = .ok (.invokevirtual 36, 3) := by decide +kernel
theorem dX3_quiet_17 : decode cX3_quiet 17 = .ok (.ireturn, 1) := by decide +kernel
theorem dX3_quiet_18 : decode cX3_quiet 18 = .ok (.iconst 0, 1) := by decide +kernel
theorem dX3_quiet_19 : decode cX3_quiet 19 = .ok (.istore_n 3, 1) := by decide +kernel
theorem dX3_quiet_20 : decode cX3_quiet 20 = .ok (.iconst 0, 1) := by decide +kernel
theorem dX3_quiet_21 : decode cX3_quiet 21 = .ok (.istore 4, 2) := by decide +kernel
theorem dX3_quiet_23 : decode cX3_quiet 23 = .ok (.iload 4, 2) := by decide +kernel
theorem dX3_quiet_25 : decode cX3_quiet 25 = .ok (.aload_n 0, 1) := by decide +kernel
theorem dX3_quiet_26 : decode cX3_quiet 26 = .ok (.getfield 9, 3) := by decide +kernel
theorem dX3_quiet_29 : decode cX3_quiet 29 = .ok (.iconst 0, 1) := by decide +kernel
theorem dX3_quiet_30 : decode cX3_quiet 30 = .ok (.iaload, 1) := by decide +kernel
theorem dX3_quiet_31 : decode cX3_quiet 31 = .ok (.if_icmp .ge 30, 3) := by decide +kernel
theorem dX3_quiet_34 : decode cX3_quiet 34 = .ok (.iload_n 3, 1) := by decide +kernel
theorem dX3_quiet_35 : decode cX3_quiet 35 = .ok (.aload_n 0, 1) := by decide +kernel
theorem dX3_quiet_36 : decode cX3_quiet 36 = .ok (.getfield 9, 3) := by decide +kernel
theorem dX3_quiet_39 : decode cX3_quiet 39 = .ok (.iload 4, 2) := by decide +kernel
theorem dX3_quiet_41 : decode cX3_quiet 41 = .ok (.invokestatic 62, 3) := by decide +kernel
theorem dX3_quiet_44 : decode cX3_quiet 44 = .ok (.iload_n 1, 1) := by decide +kernel
theorem dX3_quiet_45 : decode cX3_quiet 45 = .ok (.if_icmp .le 7, 3) := by decide +kernel
theorem dX3_quiet_48 : decode cX3_quiet 48 = .ok (.iconst 1, 1) := by decide +kernel
theorem dX3_quiet_49 : decode cX3_quiet 49 = .ok (.goto 4, 3) := by decide +kernel
theorem dX3_quiet_52 : decode cX3_quiet 52 = .ok (.iconst 0, 1) := by decide +kernel
theorem dX3_quiet_53 : decode cX3_quiet 53 = .ok (.iadd, 1) := by decide +kernel
theorem dX3_quiet_54 : decode cX3_quiet 54 = .ok (.istore_n 3, 1) := by decide +kernel
theorem dX3_quiet_55 : decode cX3_quiet 55 = .ok (.iinc 4 1, 3) := by decide +kernel
theorem dX3_quiet_58 : decode cX3_quiet 58 = .ok (.goto (-35), 3) := by decide +kernel
theorem dX3_quiet_61 : decode cX3_quiet 61 = .ok (.iload_n 3, 1) := by decide +kernel
theorem dX3_quiet_62 : decode cX3_quiet 62 = .ok (.ireturn, 1) := by decide +kernel
theorem dX3_thirst_0 : decode cX3_thirst 0 = .ok (.iconst 0, 1) := by decide +kernel
theorem dX3_thirst_1 : decode cX3_thirst 1 = .ok (.istore_n 1, 1) := by decide +kernel
theorem dX3_thirst_2 : decode cX3_thirst 2 = .ok (.iconst 0, 1) := by decide +kernel
theorem dX3_thirst_3 : decode cX3_thirst 3 = .ok (.istore_n 2, 1) := by decide +kernel
theorem dX3_thirst_4 : decode cX3_thirst 4 = .ok (.iload_n 2, 1) := by decide +kernel
theorem dX3_thirst_5 : decode cX3_thirst 5 = .ok (.aload_n 0, 1) := by decide +kernel
theorem dX3_thirst_6 : decode cX3_thirst 6 = .ok (.getfield 9, 3) := by decide +kernel
theorem dX3_thirst_9 : decode cX3_thirst 9 = .ok (.iconst 0, 1) := by decide +kernel
theorem dX3_thirst_10 : decode cX3_thirst 10 = .ok (.iaload, 1) := by decide +kernel
theorem dX3_thirst_11 : decode cX3_thirst 11 = .ok (.if_icmp .ge 25, 3) := by decide +kernel
theorem dX3_thirst_14 : decode cX3_thirst 14 = .ok (.iload_n 1, 1) := by decide +kernel
theorem dX3_thirst_15 : decode cX3_thirst 15 = .ok (.aload_n 0, 1) := by decide +kernel
theorem dX3_thirst_16 : decode cX3_thirst 16 = .ok (.getfield 9, 3) := by decide +kernel
theorem dX3_thirst_19 : decode cX3_thirst 19 = .ok (.iload_n 2, 1) := by decide +kernel
theorem dX3_thirst_20 : decode cX3_thirst 20 = .ok (.iconst 0, 1) := by decide +kernel
theorem dX3_thirst_21 : decode cX3_thirst 21 = .ok (.invokestatic 52, 3) := by decide +kernel
theorem dX3_thirst_24 : decode cX3_thirst 24 = .ok (.iaload, 1) := by decide +kernel
theorem dX3_thirst_25 : decode cX3_thirst 25 = .ok (.invokestatic 70, 3) := by decide +kernel
theorem dX3_thirst_28 : decode cX3_thirst 28 = .ok (.iadd, 1) := by decide +kernel
theorem dX3_thirst_29 : decode cX3_thirst 29 = .ok (.istore_n 1, 1) := by decide +kernel
theorem dX3_thirst_30 : decode cX3_thirst 30 = .ok (.iinc 2 1, 3) := by decide +kernel
theorem dX3_thirst_33 : decode cX3_thirst 33 = .ok (.goto (-29), 3) := by decide +kernel
theorem dX3_thirst_36 : decode cX3_thirst 36 = .ok (.iload_n 1, 1) := by decide +kernel
theorem dX3_thirst_37 : decode cX3_thirst 37 = .ok (.ireturn, 1) := by decide +kernel
theorem dX3_lasts_0 : decode cX3_lasts 0 = .ok (.aload_n 0, 1) := by decide +kernel
theorem dX3_lasts_1 : decode cX3_lasts 1 = .ok (.iload_n 1, 1) := by decide +kernel
theorem dX3_lasts_2 : decode cX3_lasts 2 = .ok (.invokevirtual 100, 3) := by decide +kernel
theorem dX3_lasts_5 : decode cX3_lasts 5 = .ok (.ifCond .eq 30, 3) := by decide +kernel
theorem dX3_lasts_8 : decode cX3_lasts 8 = .ok (.aload_n 0, 1) := by decide +kernel
theorem dX3_lasts_9 : decode cX3_lasts 9 = .ok (.getfield 9, 3) := by decide +kernel
theorem dX3_lasts_12 : decode cX3_lasts 12 = .ok (.iload_n 1, 1) := by decide +kernel
theorem dX3_lasts_13 : decode cX3_lasts 13 = .ok (.iconst 3, 1) := by decide +kernel
theorem dX3_lasts_14 : decode cX3_lasts 14 = .ok (.invokestatic 52, 3) := by decide +kernel
theorem dX3_lasts_17 : decode cX3_lasts 17 = .ok (.iaload, 1) := by decide +kernel
theorem dX3_lasts_18 : decode cX3_lasts 18 = .ok (.aload_n 0, 1) := by decide +kernel
theorem dX3_lasts_19 : decode cX3_lasts 19 = .ok (.getfield 9, 3) := by decide +kernel
theorem dX3_lasts_22 : decode cX3_lasts 22 = .ok (.iload_n 1, 1) := by decide +kernel
theorem dX3_lasts_23 : decode cX3_lasts 23 = .ok (.iconst 0, 1) := by decide +kernel
theorem dX3_lasts_24 : decode cX3_lasts 24 = .ok (.invokestatic 52, 3) := by decide +kernel
theorem dX3_lasts_27 : decode cX3_lasts 27 = .ok (.iaload, 1) := by decide +kernel
theorem dX3_lasts_28 : decode cX3_lasts 28 = .ok (.invokestatic 70, 3) := by decide +kernel
theorem dX3_lasts_31 : decode cX3_lasts 31 = .ok (.idiv, 1) := by decide +kernel
theorem dX3_lasts_32 : decode cX3_lasts 32 = .ok (.goto 8, 3) := by decide +kernel
theorem dX3_lasts_35 : decode cX3_lasts 35 = .ok (.aload_n 0, 1) := by decide +kernel
theorem dX3_lasts_36 : decode cX3_lasts 36 = .ok (.iconst (-1), 1) := by decide +kernel
theorem dX3_lasts_37 : decode cX3_lasts 37 = .ok (.invokevirtual 36, 3) := by decide +kernel
theorem dX3_lasts_40 : decode cX3_lasts 40 = .ok (.ireturn, 1) := by decide +kernel
theorem dX3_carries_0 : decode cX3_carries 0 = .ok (.iload_n 1, 1) := by decide +kernel
theorem dX3_carries_1 : decode cX3_carries 1 = .ok (.iconst 0, 1) := by decide +kernel
theorem dX3_carries_2 : decode cX3_carries 2 = .ok (.iconst 1, 1) := by decide +kernel
theorem dX3_carries_3 : decode cX3_carries 3 = .ok (.invokestatic 40, 3) := by decide +kernel
theorem dX3_carries_6 : decode cX3_carries 6 = .ok (.ifCond .ne 10, 3) := by decide +kernel
theorem dX3_carries_9 : decode cX3_carries 9 = .ok (.aload_n 0, 1) := by decide +kernel
theorem dX3_carries_10 : decode cX3_carries 10 = .ok (.bipush (-2), 2) := by decide +kernel
theorem dX3_carries_12 : decode cX3_carries 12 = .ok (.invokevirtual 36, 3) := by decide +kernel
theorem dX3_carries_15 : decode cX3_carries 15 = .ok (.ireturn, 1) := by decide +kernel
theorem dX3_carries_16 : decode cX3_carries 16 = .ok (.iconst 0, 1) := by decide +kernel
theorem dX3_carries_17 : decode cX3_carries 17 = .ok (.istore_n 2, 1) := by decide +kernel
theorem dX3_carries_18 : decode cX3_carries 18 = .ok (.iconst 0, 1) := by decide +kernel
theorem dX3_carries_19 : decode cX3_carries 19 = .ok (.istore_n 3, 1) := by decide +kernel
theorem dX3_carries_20 : decode cX3_carries 20 = .ok (.iconst 0, 1) := by decide +kernel
theorem dX3_carries_21 : decode cX3_carries 21 = .ok (.istore 4, 2) := by decide +kernel
theorem dX3_carries_23 : decode cX3_carries 23 = .ok (.iload 4, 2) := by decide +kernel
theorem dX3_carries_25 : decode cX3_carries 25 = .ok (.aload_n 0, 1) := by decide +kernel
theorem dX3_carries_26 : decode cX3_carries 26 = .ok (.getfield 9, 3) := by decide +kernel
theorem dX3_carries_29 : decode cX3_carries 29 = .ok (.iconst 0, 1) := by decide +kernel
theorem dX3_carries_30 : decode cX3_carries 30 = .ok (.iaload, 1) := by decide +kernel
theorem dX3_carries_31 : decode cX3_carries 31 = .ok (.if_icmp .ge 83, 3) := by decide +kernel
theorem dX3_carries_34 : decode cX3_carries 34 = .ok (.aload_n 0, 1) := by decide +kernel
theorem dX3_carries_35 : decode cX3_carries 35 = .ok (.getfield 9, 3) := by decide +kernel
theorem dX3_carries_38 : decode cX3_carries 38 = .ok (.iload 4, 2) := by decide +kernel
theorem dX3_carries_40 : decode cX3_carries 40 = .ok (.bipush 6, 2) := by decide +kernel
theorem dX3_carries_42 : decode cX3_carries 42 = .ok (.invokestatic 52, 3) := by decide +kernel
theorem dX3_carries_45 : decode cX3_carries 45 = .ok (.iaload, 1) := by decide +kernel
theorem dX3_carries_46 : decode cX3_carries 46 = .ok (.istore 5, 2) := by decide +kernel
theorem dX3_carries_48 : decode cX3_carries 48 = .ok (.iload 5, 2) := by decide +kernel
theorem dX3_carries_50 : decode cX3_carries 50 = .ok (.iload 4, 2) := by decide +kernel
theorem dX3_carries_52 : decode cX3_carries 52 = .ok (.if_icmp .eq 56, 3) := by decide +kernel
theorem dX3_carries_55 : decode cX3_carries 55 = .ok (.iload 5, 2) := by decide +kernel
theorem dX3_carries_57 : decode cX3_carries 57 = .ok (.aload_n 0, 1) := by decide +kernel
theorem dX3_carries_58 : decode cX3_carries 58 = .ok (.getfield 9, 3) := by decide +kernel
theorem dX3_carries_61 : decode cX3_carries 61 = .ok (.iconst 0, 1) := by decide +kernel
theorem dX3_carries_62 : decode cX3_carries 62 = .ok (.iaload, 1) := by decide +kernel
theorem dX3_carries_63 : decode cX3_carries 63 = .ok (.if_icmp .lt 6, 3) := by decide +kernel
theorem dX3_carries_66 : decode cX3_carries 66 = .ok (.goto 42, 3) := by decide +kernel
theorem dX3_carries_69 : decode cX3_carries 69 = .ok (.iload_n 2, 1) := by decide +kernel
theorem dX3_carries_70 : decode cX3_carries 70 = .ok (.iconst 1, 1) := by decide +kernel
theorem dX3_carries_71 : decode cX3_carries 71 = .ok (.iload 5, 2) := by decide +kernel
theorem dX3_carries_73 : decode cX3_carries 73 = .ok (.ishl, 1) := by decide +kernel
theorem dX3_carries_74 : decode cX3_carries 74 = .ok (.ior, 1) := by decide +kernel
theorem dX3_carries_75 : decode cX3_carries 75 = .ok (.istore_n 2, 1) := by decide +kernel
theorem dX3_carries_76 : decode cX3_carries 76 = .ok (.iload_n 3, 1) := by decide +kernel
theorem dX3_carries_77 : decode cX3_carries 77 = .ok (.iload 5, 2) := by decide +kernel
theorem dX3_carries_79 : decode cX3_carries 79 = .ok (.iload 4, 2) := by decide +kernel
theorem dX3_carries_81 : decode cX3_carries 81 = .ok (.if_icmp .le 24, 3) := by decide +kernel
theorem dX3_carries_84 : decode cX3_carries 84 = .ok (.aload_n 0, 1) := by decide +kernel
theorem dX3_carries_85 : decode cX3_carries 85 = .ok (.getfield 9, 3) := by decide +kernel
theorem dX3_carries_88 : decode cX3_carries 88 = .ok (.iload 5, 2) := by decide +kernel
theorem dX3_carries_90 : decode cX3_carries 90 = .ok (.bipush 6, 2) := by decide +kernel
theorem dX3_carries_92 : decode cX3_carries 92 = .ok (.invokestatic 52, 3) := by decide +kernel
theorem dX3_carries_95 : decode cX3_carries 95 = .ok (.iaload, 1) := by decide +kernel
theorem dX3_carries_96 : decode cX3_carries 96 = .ok (.iload 4, 2) := by decide +kernel
theorem dX3_carries_98 : decode cX3_carries 98 = .ok (.if_icmp .ne 7, 3) := by decide +kernel
theorem dX3_carries_101 : decode cX3_carries 101 = .ok (.iconst 1, 1) := by decide +kernel
theorem dX3_carries_102 : decode cX3_carries 102 = .ok (.goto 4, 3) := by decide +kernel
theorem dX3_carries_105 : decode cX3_carries 105 = .ok (.iconst 0, 1) := by decide +kernel
theorem dX3_carries_106 : decode cX3_carries 106 = .ok (.iadd, 1) := by decide +kernel
theorem dX3_carries_107 : decode cX3_carries 107 = .ok (.istore_n 3, 1) := by decide +kernel
theorem dX3_carries_108 : decode cX3_carries 108 = .ok (.iinc 4 1, 3) := by decide +kernel
theorem dX3_carries_111 : decode cX3_carries 111 = .ok (.goto (-88), 3) := by decide +kernel
theorem dX3_carries_114 : decode cX3_carries 114 = .ok (.iload_n 1, 1) := by decide +kernel
theorem dX3_carries_115 : decode cX3_carries 115 = .ok (.ifCond .ne 7, 3) := by decide +kernel
theorem dX3_carries_118 : decode cX3_carries 118 = .ok (.iload_n 2, 1) := by decide +kernel
theorem dX3_carries_119 : decode cX3_carries 119 = .ok (.goto 4, 3) := by decide +kernel
theorem dX3_carries_122 : decode cX3_carries 122 = .ok (.iload_n 3, 1) := by decide +kernel
theorem dX3_carries_123 : decode cX3_carries 123 = .ok (.ireturn, 1) := by decide +kernel
theorem dX3_hasBy_0 : decode cX3_hasBy 0 = .ok (.aload_n 0, 1) := by decide +kernel
theorem dX3_hasBy_1 : decode cX3_hasBy 1 = .ok (.getfield 9, 3) := by decide +kernel
theorem dX3_hasBy_4 : decode cX3_hasBy 4 = .ok (.aload_n 0, 1) := by decide +kernel
theorem dX3_hasBy_5 : decode cX3_hasBy 5 = .ok (.getfield 13, 3) := by decide +kernel
theorem dX3_hasBy_8 : decode cX3_hasBy 8 = .ok (.invokestatic 110, 3) := by decide +kernel
theorem dX3_hasBy_11 : decode cX3_hasBy 11 = .ok (.iload_n 3, 1) := by decide +kernel
theorem dX3_hasBy_12 : decode cX3_hasBy 12 = .ok (.iconst 1, 1) := by decide +kernel
theorem dX3_hasBy_13 : decode cX3_hasBy 13 = .ok (.if_icmp .ne 14, 3) := by decide +kernel
theorem dX3_hasBy_16 : decode cX3_hasBy 16 = .ok (.aload_n 0, 1) := by decide +kernel
theorem dX3_hasBy_17 : decode cX3_hasBy 17 = .ok (.getfield 13, 3) := by decide +kernel
theorem dX3_hasBy_20 : decode cX3_hasBy 20 = .ok (.iload_n 2, 1) := by decide +kernel
theorem dX3_hasBy_21 : decode cX3_hasBy 21 = .ok (.iconst 4, 1) := by decide +kernel
theorem dX3_hasBy_22 : decode cX3_hasBy 22 = .ok (.invokestatic 52, 3) := by decide +kernel
theorem dX3_hasBy_25 : decode cX3_hasBy 25 = .ok (.iconst 1, 1) := by decide +kernel
theorem dX3_hasBy_26 : decode cX3_hasBy 26 = .ok (.iastore, 1) := by decide +kernel
theorem dX3_hasBy_27 : decode cX3_hasBy 27 = .ok (.iload 5, 2) := by decide +kernel
theorem dX3_hasBy_29 : decode cX3_hasBy 29 = .ok (.iconst 1, 1) := by decide +kernel
theorem dX3_hasBy_30 : decode cX3_hasBy 30 = .ok (.if_icmp .ne 15, 3) := by decide +kernel
theorem dX3_hasBy_33 : decode cX3_hasBy 33 = .ok (.aload_n 0, 1) := by decide +kernel
theorem dX3_hasBy_34 : decode cX3_hasBy 34 = .ok (.getfield 13, 3) := by decide +kernel
theorem dX3_hasBy_37 : decode cX3_hasBy 37 = .ok (.iload 4, 2) := by decide +kernel
theorem dX3_hasBy_39 : decode cX3_hasBy 39 = .ok (.iconst 4, 1) := by decide +kernel
theorem dX3_hasBy_40 : decode cX3_hasBy 40 = .ok (.invokestatic 52, 3) := by decide +kernel
theorem dX3_hasBy_43 : decode cX3_hasBy 43 = .ok (.iconst 1, 1) := by decide +kernel
theorem dX3_hasBy_44 : decode cX3_hasBy 44 = .ok (.iastore, 1) := by decide +kernel
theorem dX3_hasBy_45 : decode cX3_hasBy 45 = .ok (.aload_n 0, 1) := by decide +kernel
theorem dX3_hasBy_46 : decode cX3_hasBy 46 = .ok (.getfield 13, 3) := by decide +kernel
theorem dX3_hasBy_49 : decode cX3_hasBy 49 = .ok (.iload 6, 2) := by decide +kernel
theorem dX3_hasBy_51 : decode cX3_hasBy 51 = .ok (.invokestatic 104, 3) := by decide +kernel
theorem dX3_hasBy_54 : decode cX3_hasBy 54 = .ok (.aload_n 0, 1) := by decide +kernel
theorem dX3_hasBy_55 : decode cX3_hasBy 55 = .ok (.getfield 13, 3) := by decide +kernel
theorem dX3_hasBy_58 : decode cX3_hasBy 58 = .ok (.iload_n 1, 1) := by decide +kernel
theorem dX3_hasBy_59 : decode cX3_hasBy 59 = .ok (.iconst 3, 1) := by decide +kernel
theorem dX3_hasBy_60 : decode cX3_hasBy 60 = .ok (.invokestatic 52, 3) := by decide +kernel
theorem dX3_hasBy_63 : decode cX3_hasBy 63 = .ok (.iaload, 1) := by decide +kernel
theorem dX3_hasBy_64 : decode cX3_hasBy 64 = .ok (.iconst 2, 1) := by decide +kernel
theorem dX3_hasBy_65 : decode cX3_hasBy 65 = .ok (.iload_n 1, 1) := by decide +kernel
theorem dX3_hasBy_66 : decode cX3_hasBy 66 = .ok (.iload_n 2, 1) := by decide +kernel
theorem dX3_hasBy_67 : decode cX3_hasBy 67 = .ok (.if_icmp .ne 7, 3) := by decide +kernel
theorem dX3_hasBy_70 : decode cX3_hasBy 70 = .ok (.iload_n 3, 1) := by decide +kernel
theorem dX3_hasBy_71 : decode cX3_hasBy 71 = .ok (.goto 5, 3) := by decide +kernel
theorem dX3_hasBy_74 : decode cX3_hasBy 74 = .ok (.iload 5, 2) := by decide +kernel
theorem dX3_hasBy_76 : decode cX3_hasBy 76 = .ok (.imul, 1) := by decide +kernel
theorem dX3_hasBy_77 : decode cX3_hasBy 77 = .ok (.iadd, 1) := by decide +kernel
theorem dX3_hasBy_78 : decode cX3_hasBy 78 = .ok (.ireturn, 1) := by decide +kernel
theorem dX3_two_0 : decode cX3_two 0 = .ok (.aload_n 0, 1) := by decide +kernel
theorem dX3_two_1 : decode cX3_two 1 = .ok (.iload_n 1, 1) := by decide +kernel
theorem dX3_two_2 : decode cX3_two 2 = .ok (.invokevirtual 100, 3) := by decide +kernel
theorem dX3_two_5 : decode cX3_two 5 = .ok (.ifCond .eq 26, 3) := by decide +kernel
theorem dX3_two_8 : decode cX3_two 8 = .ok (.aload_n 0, 1) := by decide +kernel
theorem dX3_two_9 : decode cX3_two 9 = .ok (.iload_n 2, 1) := by decide +kernel
theorem dX3_two_10 : decode cX3_two 10 = .ok (.invokevirtual 100, 3) := by decide +kernel
theorem dX3_two_13 : decode cX3_two 13 = .ok (.ifCond .eq 18, 3) := by decide +kernel
theorem dX3_two_16 : decode cX3_two 16 = .ok (.iload_n 1, 1) := by decide +kernel
theorem dX3_two_17 : decode cX3_two 17 = .ok (.iload_n 2, 1) := by decide +kernel
theorem dX3_two_18 : decode cX3_two 18 = .ok (.if_icmp .eq 13, 3) := by decide +kernel
theorem dX3_two_21 : decode cX3_two 21 = .ok (.iload_n 3, 1) := by decide +kernel
theorem dX3_two_22 : decode cX3_two 22 = .ok (.iconst 0, 1) := by decide +kernel
theorem dX3_two_23 : decode cX3_two 23 = .ok (.bipush 24, 2) := by decide +kernel
theorem dX3_two_25 : decode cX3_two 25 = .ok (.invokestatic 126, 3) := by decide +kernel
theorem dX3_two_28 : decode cX3_two 28 = .ok (.goto 4, 3) := by decide +kernel
theorem dX3_two_31 : decode cX3_two 31 = .ok (.iconst (-1), 1) := by decide +kernel
theorem dX3_two_32 : decode cX3_two 32 = .ok (.istore 4, 2) := by decide +kernel
theorem dX3_two_34 : decode cX3_two 34 = .ok (.iload 4, 2) := by decide +kernel
theorem dX3_two_36 : decode cX3_two 36 = .ok (.ifCond .eq 10, 3) := by decide +kernel
theorem dX3_two_39 : decode cX3_two 39 = .ok (.aload_n 0, 1) := by decide +kernel
theorem dX3_two_40 : decode cX3_two 40 = .ok (.iload 4, 2) := by decide +kernel
theorem dX3_two_42 : decode cX3_two 42 = .ok (.invokevirtual 36, 3) := by decide +kernel
theorem dX3_two_45 : decode cX3_two 45 = .ok (.ireturn, 1) := by decide +kernel
theorem dX3_two_46 : decode cX3_two 46 = .ok (.iconst 0, 1) := by decide +kernel
theorem dX3_two_47 : decode cX3_two 47 = .ok (.istore 5, 2) := by decide +kernel
theorem dX3_two_49 : decode cX3_two 49 = .ok (.iload 5, 2) := by decide +kernel
theorem dX3_two_51 : decode cX3_two 51 = .ok (.iconst 4, 1) := by decide +kernel
theorem dX3_two_52 : decode cX3_two 52 = .ok (.if_icmp .ge 88, 3) := by decide +kernel
theorem dX3_two_55 : decode cX3_two 55 = .ok (.iload 5, 2) := by decide +kernel
theorem dX3_two_57 : decode cX3_two 57 = .ok (.iconst 2, 1) := by decide +kernel
theorem dX3_two_58 : decode cX3_two 58 = .ok (.idiv, 1) := by decide +kernel
theorem dX3_two_59 : decode cX3_two 59 = .ok (.istore 6, 2) := by decide +kernel
theorem dX3_two_61 : decode cX3_two 61 = .ok (.iload 5, 2) := by decide +kernel
theorem dX3_two_63 : decode cX3_two 63 = .ok (.iconst 2, 1) := by decide +kernel
theorem dX3_two_64 : decode cX3_two 64 = .ok (.irem, 1) := by decide +kernel
theorem dX3_two_65 : decode cX3_two 65 = .ok (.istore 7, 2) := by decide +kernel
theorem dX3_two_67 : decode cX3_two 67 = .ok (.aload_n 0, 1) := by decide +kernel
theorem dX3_two_68 : decode cX3_two 68 = .ok (.iload_n 1, 1) := by decide +kernel
theorem dX3_two_69 : decode cX3_two 69 = .ok (.iload_n 1, 1) := by decide +kernel
theorem dX3_two_70 : decode cX3_two 70 = .ok (.iconst 1, 1) := by decide +kernel
theorem dX3_two_71 : decode cX3_two 71 = .ok (.iload 6, 2) := by decide +kernel
theorem dX3_two_73 : decode cX3_two 73 = .ok (.isub, 1) := by decide +kernel
theorem dX3_two_74 : decode cX3_two 74 = .ok (.iload_n 2, 1) := by decide +kernel
theorem dX3_two_75 : decode cX3_two 75 = .ok (.iload 7, 2) := by decide +kernel
theorem dX3_two_77 : decode cX3_two 77 = .ok (.iload_n 3, 1) := by decide +kernel
theorem dX3_two_78 : decode cX3_two 78 = .ok (.invokevirtual 165, 3) := by decide +kernel
theorem dX3_two_81 : decode cX3_two 81 = .ok (.aload_n 0, 1) := by decide +kernel
theorem dX3_two_82 : decode cX3_two 82 = .ok (.iload_n 1, 1) := by decide +kernel
theorem dX3_two_83 : decode cX3_two 83 = .ok (.iload_n 1, 1) := by decide +kernel
theorem dX3_two_84 : decode cX3_two 84 = .ok (.iload 6, 2) := by decide +kernel
theorem dX3_two_86 : decode cX3_two 86 = .ok (.iload_n 2, 1) := by decide +kernel
theorem dX3_two_87 : decode cX3_two 87 = .ok (.iload 7, 2) := by decide +kernel
theorem dX3_two_89 : decode cX3_two 89 = .ok (.iload_n 3, 1) := by decide +kernel
theorem dX3_two_90 : decode cX3_two 90 = .ok (.invokevirtual 165, 3) := by decide +kernel
theorem dX3_two_93 : decode cX3_two 93 = .ok (.if_icmp .gt 41, 3) := by decide +kernel
theorem dX3_two_96 : decode cX3_two 96 = .ok (.aload_n 0, 1) := by decide +kernel
theorem dX3_two_97 : decode cX3_two 97 = .ok (.iload_n 2, 1) := by decide +kernel
theorem dX3_two_98 : decode cX3_two 98 = .ok (.iload_n 1, 1) := by decide +kernel
theorem dX3_two_99 : decode cX3_two 99 = .ok (.iload 6, 2) := by decide +kernel
theorem dX3_two_101 : decode cX3_two 101 = .ok (.iload_n 2, 1) := by decide +kernel
theorem dX3_two_102 : decode cX3_two 102 = .ok (.iconst 1, 1) := by decide +kernel
theorem dX3_two_103 : decode cX3_two 103 = .ok (.iload 7, 2) := by decide +kernel
theorem dX3_two_105 : decode cX3_two 105 = .ok (.isub, 1) := by decide +kernel
theorem dX3_two_106 : decode cX3_two 106 = .ok (.iload_n 3, 1) := by decide +kernel
theorem dX3_two_107 : decode cX3_two 107 = .ok (.invokevirtual 165, 3) := by decide +kernel
theorem dX3_two_110 : decode cX3_two 110 = .ok (.aload_n 0, 1) := by decide +kernel
theorem dX3_two_111 : decode cX3_two 111 = .ok (.iload_n 2, 1) := by decide +kernel
theorem dX3_two_112 : decode cX3_two 112 = .ok (.iload_n 1, 1) := by decide +kernel
theorem dX3_two_113 : decode cX3_two 113 = .ok (.iload 6, 2) := by decide +kernel
theorem dX3_two_115 : decode cX3_two 115 = .ok (.iload_n 2, 1) := by decide +kernel
theorem dX3_two_116 : decode cX3_two 116 = .ok (.iload 7, 2) := by decide +kernel
theorem dX3_two_118 : decode cX3_two 118 = .ok (.iload_n 3, 1) := by decide +kernel
theorem dX3_two_119 : decode cX3_two 119 = .ok (.invokevirtual 165, 3) := by decide +kernel
theorem dX3_two_122 : decode cX3_two 122 = .ok (.if_icmp .gt 12, 3) := by decide +kernel
theorem dX3_two_125 : decode cX3_two 125 = .ok (.bipush 10, 2) := by decide +kernel
theorem dX3_two_127 : decode cX3_two 127 = .ok (.iload 6, 2) := by decide +kernel
theorem dX3_two_129 : decode cX3_two 129 = .ok (.imul, 1) := by decide +kernel
theorem dX3_two_130 : decode cX3_two 130 = .ok (.iload 7, 2) := by decide +kernel
theorem dX3_two_132 : decode cX3_two 132 = .ok (.iadd, 1) := by decide +kernel
theorem dX3_two_133 : decode cX3_two 133 = .ok (.ireturn, 1) := by decide +kernel
theorem dX3_two_134 : decode cX3_two 134 = .ok (.iinc 5 1, 3) := by decide +kernel
theorem dX3_two_137 : decode cX3_two 137 = .ok (.goto (-88), 3) := by decide +kernel
theorem dX3_two_140 : decode cX3_two 140 = .ok (.bipush (-9), 2) := by decide +kernel
theorem dX3_two_142 : decode cX3_two 142 = .ok (.ireturn, 1) := by decide +kernel
theorem dX3_gcd_0 : decode cX3_gcd 0 = .ok (.lload_n 0, 1) := by decide +kernel
theorem dX3_gcd_1 : decode cX3_gcd 1 = .ok (.lstore 4, 2) := by decide +kernel
theorem dX3_gcd_3 : decode cX3_gcd 3 = .ok (.lload_n 2, 1) := by decide +kernel
theorem dX3_gcd_4 : decode cX3_gcd 4 = .ok (.lstore 6, 2) := by decide +kernel
theorem dX3_gcd_6 : decode cX3_gcd 6 = .ok (.lload 6, 2) := by decide +kernel
theorem dX3_gcd_8 : decode cX3_gcd 8 = .ok (.lconst 0, 1) := by decide +kernel
theorem dX3_gcd_9 : decode cX3_gcd 9 = .ok (.lcmp, 1) := by decide +kernel
theorem dX3_gcd_10 : decode cX3_gcd 10 = .ok (.ifCond .eq 21, 3) := by decide +kernel
theorem dX3_gcd_13 : decode cX3_gcd 13 = .ok (.lload 4, 2) := by decide +kernel
theorem dX3_gcd_15 : decode cX3_gcd 15 = .ok (.lload 6, 2) := by decide +kernel
theorem dX3_gcd_17 : decode cX3_gcd 17 = .ok (.lrem, 1) := by decide +kernel
theorem dX3_gcd_18 : decode cX3_gcd 18 = .ok (.lstore 8, 2) := by decide +kernel
theorem dX3_gcd_20 : decode cX3_gcd 20 = .ok (.lload 6, 2) := by decide +kernel
theorem dX3_gcd_22 : decode cX3_gcd 22 = .ok (.lstore 4, 2) := by decide +kernel
theorem dX3_gcd_24 : decode cX3_gcd 24 = .ok (.lload 8, 2) := by decide +kernel
theorem dX3_gcd_26 : decode cX3_gcd 26 = .ok (.lstore 6, 2) := by decide +kernel
theorem dX3_gcd_28 : decode cX3_gcd 28 = .ok (.goto (-22), 3) := by decide +kernel
theorem dX3_gcd_31 : decode cX3_gcd 31 = .ok (.lload 4, 2) := by decide +kernel
theorem dX3_gcd_33 : decode cX3_gcd 33 = .ok (.lreturn, 1) := by decide +kernel
theorem dX3_partOf_0 : decode cX3_partOf 0 = .ok (.lload_n 0, 1) := by decide +kernel
theorem dX3_partOf_1 : decode cX3_partOf 1 = .ok (.lconst 0, 1) := by decide +kernel
theorem dX3_partOf_2 : decode cX3_partOf 2 = .ok (.lcmp, 1) := by decide +kernel
theorem dX3_partOf_3 : decode cX3_partOf 3 = .ok (.ifCond .ne 7, 3) := by decide +kernel
theorem dX3_partOf_6 : decode cX3_partOf 6 = .ok (.iload 4, 2) := by decide +kernel
theorem dX3_partOf_8 : decode cX3_partOf 8 = .ok (.i2l, 1) := by decide +kernel
theorem dX3_partOf_9 : decode cX3_partOf 9 = .ok (.lreturn, 1) := by decide +kernel
theorem dX3_partOf_10 : decode cX3_partOf 10 = .ok (.iload 4, 2) := by decide +kernel
theorem dX3_partOf_12 : decode cX3_partOf 12 = .ok (.ifCond .ne 7, 3) := by decide +kernel
theorem dX3_partOf_15 : decode cX3_partOf 15 = .ok (.lload_n 0, 1) := by decide +kernel
theorem dX3_partOf_16 : decode cX3_partOf 16 = .ok (.goto 4, 3) := by decide +kernel
theorem dX3_partOf_19 : decode cX3_partOf 19 = .ok (.lload_n 2, 1) := by decide +kernel
theorem dX3_partOf_20 : decode cX3_partOf 20 = .ok (.lload_n 0, 1) := by decide +kernel
theorem dX3_partOf_21 : decode cX3_partOf 21 = .ok (.lload_n 2, 1) := by decide +kernel
theorem dX3_partOf_22 : decode cX3_partOf 22 = .ok (.invokestatic 169, 3) := by decide +kernel
theorem dX3_partOf_25 : decode cX3_partOf 25 = .ok (.ldiv, 1) := by decide +kernel
theorem dX3_partOf_26 : decode cX3_partOf 26 = .ok (.lreturn, 1) := by decide +kernel
theorem dX3_sneeze_0 : decode cX3_sneeze 0 = .ok (.aload_n 0, 1) := by decide +kernel
theorem dX3_sneeze_1 : decode cX3_sneeze 1 = .ok (.iload_n 1, 1) := by decide +kernel
theorem dX3_sneeze_2 : decode cX3_sneeze 2 = .ok (.invokevirtual 100, 3) := by decide +kernel
theorem dX3_sneeze_5 : decode cX3_sneeze 5 = .ok (.ifCond .ne 9, 3) := by decide +kernel
theorem dX3_sneeze_8 : decode cX3_sneeze 8 = .ok (.aload_n 0, 1) := by decide +kernel
theorem dX3_sneeze_9 : decode cX3_sneeze 9 = .ok (.iconst (-1), 1) := by decide +kernel
theorem dX3_sneeze_10 : decode cX3_sneeze 10 = .ok (.invokevirtual 173, 3) := by decide +kernel
theorem dX3_sneeze_13 : decode cX3_sneeze 13 = .ok (.lreturn, 1) := by decide +kernel
theorem dX3_sneeze_14 : decode cX3_sneeze 14 = .ok (.iload_n 2, 1) := by decide +kernel
theorem dX3_sneeze_15 : decode cX3_sneeze 15 = .ok (.ifCond .lt 13, 3) := by decide +kernel
theorem dX3_sneeze_18 : decode cX3_sneeze 18 = .ok (.iload 4, 2) := by decide +kernel
theorem dX3_sneeze_20 : decode cX3_sneeze 20 = .ok (.ifCond .lt 8, 3) := by decide +kernel
theorem dX3_sneeze_23 : decode cX3_sneeze 23 = .ok (.iload_n 3, 1) := by decide +kernel
theorem dX3_sneeze_24 : decode cX3_sneeze 24 = .ok (.iconst 2, 1) := by decide +kernel
theorem dX3_sneeze_25 : decode cX3_sneeze 25 = .ok (.if_icmp .ge 10, 3) := by decide +kernel
theorem dX3_sneeze_28 : decode cX3_sneeze 28 = .ok (.aload_n 0, 1) := by decide +kernel
theorem dX3_sneeze_29 : decode cX3_sneeze 29 = .ok (.bipush (-4), 2) := by decide +kernel
theorem dX3_sneeze_31 : decode cX3_sneeze 31 = .ok (.invokevirtual 173, 3) := by decide +kernel
theorem dX3_sneeze_34 : decode cX3_sneeze 34 = .ok (.lreturn, 1) := by decide +kernel
theorem dX3_sneeze_35 : decode cX3_sneeze 35 = .ok (.iload_n 2, 1) := by decide +kernel
theorem dX3_sneeze_36 : decode cX3_sneeze 36 = .ok (.bipush 7, 2) := by decide +kernel
theorem dX3_sneeze_38 : decode cX3_sneeze 38 = .ok (.if_icmp .gt 16, 3) := by decide +kernel
theorem dX3_sneeze_41 : decode cX3_sneeze 41 = .ok (.iload_n 3, 1) := by decide +kernel
theorem dX3_sneeze_42 : decode cX3_sneeze 42 = .ok (.bipush 20, 2) := by decide +kernel
theorem dX3_sneeze_44 : decode cX3_sneeze 44 = .ok (.if_icmp .gt 10, 3) := by decide +kernel
theorem dX3_sneeze_47 : decode cX3_sneeze 47 = .ok (.iload 4, 2) := by decide +kernel
theorem dX3_sneeze_49 : decode cX3_sneeze 49 = .ok (.bipush 99, 2) := by decide +kernel
theorem dX3_sneeze_51 : decode cX3_sneeze 51 = .ok (.if_icmp .le 10, 3) := by decide +kernel
theorem dX3_sneeze_54 : decode cX3_sneeze 54 = .ok (.aload_n 0, 1) := by decide +kernel
theorem dX3_sneeze_55 : decode cX3_sneeze 55 = .ok (.bipush (-6), 2) := by decide +kernel
theorem dX3_sneeze_57 : decode cX3_sneeze 57 = .ok (.invokevirtual 173, 3) := by decide +kernel
theorem dX3_sneeze_60 : decode cX3_sneeze 60 = .ok (.lreturn, 1) := by decide +kernel
theorem dX3_sneeze_61 : decode cX3_sneeze 61 = .ok (.iload 5, 2) := by decide +kernel
theorem dX3_sneeze_63 : decode cX3_sneeze 63 = .ok (.iconst 0, 1) := by decide +kernel
theorem dX3_sneeze_64 : decode cX3_sneeze 64 = .ok (.iconst 1, 1) := by decide +kernel
theorem dX3_sneeze_65 : decode cX3_sneeze 65 = .ok (.invokestatic 40, 3) := by decide +kernel
theorem dX3_sneeze_68 : decode cX3_sneeze 68 = .ok (.ifCond .ne 10, 3) := by decide +kernel
theorem dX3_sneeze_71 : decode cX3_sneeze 71 = .ok (.aload_n 0, 1) := by decide +kernel
theorem dX3_sneeze_72 : decode cX3_sneeze 72 = .ok (.bipush (-2), 2) := by decide +kernel
theorem dX3_sneeze_74 : decode cX3_sneeze 74 = .ok (.invokevirtual 173, 3) := by decide +kernel
theorem dX3_sneeze_77 : decode cX3_sneeze 77 = .ok (.lreturn, 1) := by decide +kernel
theorem dX3_sneeze_78 : decode cX3_sneeze 78 = .ok (.lconst 0, 1) := by decide +kernel
theorem dX3_sneeze_79 : decode cX3_sneeze 79 = .ok (.lstore 6, 2) := by decide +kernel
theorem dX3_sneeze_81 : decode cX3_sneeze 81 = .ok (.lconst 1, 1) := by decide +kernel
theorem dX3_sneeze_82 : decode cX3_sneeze 82 = .ok (.lstore 8, 2) := by decide +kernel
theorem dX3_sneeze_84 : decode cX3_sneeze 84 = .ok (.iconst 0, 1) := by decide +kernel
theorem dX3_sneeze_85 : decode cX3_sneeze 85 = .ok (.istore 10, 2) := by decide +kernel
theorem dX3_sneeze_87 : decode cX3_sneeze 87 = .ok (.iload 10, 2) := by decide +kernel
theorem dX3_sneeze_89 : decode cX3_sneeze 89 = .ok (.iload_n 2, 1) := by decide +kernel
theorem dX3_sneeze_90 : decode cX3_sneeze 90 = .ok (.if_icmp .ge 16, 3) := by decide +kernel
theorem dX3_sneeze_93 : decode cX3_sneeze 93 = .ok (.lload 8, 2) := by decide +kernel
theorem dX3_sneeze_95 : decode cX3_sneeze 95 = .ok (.iload_n 3, 1) := by decide +kernel
theorem dX3_sneeze_96 : decode cX3_sneeze 96 = .ok (.i2l, 1) := by decide +kernel
theorem dX3_sneeze_97 : decode cX3_sneeze 97 = .ok (.lmul, 1) := by decide +kernel
theorem dX3_sneeze_98 : decode cX3_sneeze 98 = .ok (.lstore 8, 2) := by decide +kernel
theorem dX3_sneeze_100 : decode cX3_sneeze 100 = .ok (.iinc 10 1, 3) := by decide +kernel
theorem dX3_sneeze_103 : decode cX3_sneeze 103 = .ok (.goto (-16), 3) := by decide +kernel
theorem dX3_sneeze_106 : decode cX3_sneeze 106 = .ok (.iconst 0, 1) := by decide +kernel
theorem dX3_sneeze_107 : decode cX3_sneeze 107 = .ok (.istore 10, 2) := by decide +kernel
theorem dX3_sneeze_109 : decode cX3_sneeze 109 = .ok (.iload 10, 2) := by decide +kernel
theorem dX3_sneeze_111 : decode cX3_sneeze 111 = .ok (.iconst 1, 1) := by decide +kernel
theorem dX3_sneeze_112 : decode cX3_sneeze 112 = .ok (.iload_n 2, 1) := by decide +kernel
theorem dX3_sneeze_113 : decode cX3_sneeze 113 = .ok (.ishl, 1) := by decide +kernel
theorem dX3_sneeze_114 : decode cX3_sneeze 114 = .ok (.if_icmp .ge 111, 3) := by decide +kernel
theorem dX3_sneeze_117 : decode cX3_sneeze 117 = .ok (.lconst 1, 1) := by decide +kernel
theorem dX3_sneeze_118 : decode cX3_sneeze 118 = .ok (.lstore 11, 2) := by decide +kernel
theorem dX3_sneeze_120 : decode cX3_sneeze 120 = .ok (.aload_n 0, 1) := by decide +kernel
theorem dX3_sneeze_121 : decode cX3_sneeze 121 = .ok (.getfield 9, 3) := by decide +kernel
theorem dX3_sneeze_124 : decode cX3_sneeze 124 = .ok (.aload_n 0, 1) := by decide +kernel
theorem dX3_sneeze_125 : decode cX3_sneeze 125 = .ok (.getfield 13, 3) := by decide +kernel
theorem dX3_sneeze_128 : decode cX3_sneeze 128 = .ok (.invokestatic 110, 3) := by decide +kernel
theorem dX3_sneeze_131 : decode cX3_sneeze 131 = .ok (.iconst 0, 1) := by decide +kernel
theorem dX3_sneeze_132 : decode cX3_sneeze 132 = .ok (.istore 13, 2) := by decide +kernel
theorem dX3_sneeze_134 : decode cX3_sneeze 134 = .ok (.iload 13, 2) := by decide +kernel
theorem dX3_sneeze_136 : decode cX3_sneeze 136 = .ok (.iload_n 2, 1) := by decide +kernel
theorem dX3_sneeze_137 : decode cX3_sneeze 137 = .ok (.if_icmp .ge 56, 3) := by decide +kernel
theorem dX3_sneeze_140 : decode cX3_sneeze 140 = .ok (.lload 11, 2) := by decide +kernel
theorem dX3_sneeze_142 : decode cX3_sneeze 142 = .ok (.iload 10, 2) := by decide +kernel
theorem dX3_sneeze_144 : decode cX3_sneeze 144 = .ok (.iload 13, 2) := by decide +kernel
theorem dX3_sneeze_146 : decode cX3_sneeze 146 = .ok (.invokestatic 48, 3) := by decide +kernel
theorem dX3_sneeze_149 : decode cX3_sneeze 149 = .ok (.ifCond .eq 7, 3) := by decide +kernel
theorem dX3_sneeze_152 : decode cX3_sneeze 152 = .ok (.lconst 1, 1) := by decide +kernel
theorem dX3_sneeze_153 : decode cX3_sneeze 153 = .ok (.goto 7, 3) := by decide +kernel
theorem dX3_sneeze_156 : decode cX3_sneeze 156 = .ok (.iload_n 3, 1) := by decide +kernel
theorem dX3_sneeze_157 : decode cX3_sneeze 157 = .ok (.iconst 1, 1) := by decide +kernel
theorem dX3_sneeze_158 : decode cX3_sneeze 158 = .ok (.isub, 1) := by decide +kernel
theorem dX3_sneeze_159 : decode cX3_sneeze 159 = .ok (.i2l, 1) := by decide +kernel
theorem dX3_sneeze_160 : decode cX3_sneeze 160 = .ok (.lmul, 1) := by decide +kernel
theorem dX3_sneeze_161 : decode cX3_sneeze 161 = .ok (.lstore 11, 2) := by decide +kernel
theorem dX3_sneeze_163 : decode cX3_sneeze 163 = .ok (.aload_n 0, 1) := by decide +kernel
theorem dX3_sneeze_164 : decode cX3_sneeze 164 = .ok (.getfield 13, 3) := by decide +kernel
theorem dX3_sneeze_167 : decode cX3_sneeze 167 = .ok (.iload 10, 2) := by decide +kernel
theorem dX3_sneeze_169 : decode cX3_sneeze 169 = .ok (.iload 13, 2) := by decide +kernel
theorem dX3_sneeze_171 : decode cX3_sneeze 171 = .ok (.invokestatic 48, 3) := by decide +kernel
theorem dX3_sneeze_174 : decode cX3_sneeze 174 = .ok (.ifCond .eq 9, 3) := by decide +kernel
theorem dX3_sneeze_177 : decode cX3_sneeze 177 = .ok (.iconst 1, 1) := by decide +kernel
theorem dX3_sneeze_178 : decode cX3_sneeze 178 = .ok (.iload_n 1, 1) := by decide +kernel
theorem dX3_sneeze_179 : decode cX3_sneeze 179 = .ok (.ishl, 1) := by decide +kernel
theorem dX3_sneeze_180 : decode cX3_sneeze 180 = .ok (.goto 4, 3) := by decide +kernel
theorem dX3_sneeze_183 : decode cX3_sneeze 183 = .ok (.iconst 0, 1) := by decide +kernel
theorem dX3_sneeze_184 : decode cX3_sneeze 184 = .ok (.invokestatic 73, 3) := by decide +kernel
theorem dX3_sneeze_187 : decode cX3_sneeze 187 = .ok (.iinc 13 1, 3) := by decide +kernel
theorem dX3_sneeze_190 : decode cX3_sneeze 190 = .ok (.goto (-56), 3) := by decide +kernel
theorem dX3_sneeze_193 : decode cX3_sneeze 193 = .ok (.lload 6, 2) := by decide +kernel
theorem dX3_sneeze_195 : decode cX3_sneeze 195 = .ok (.aload_n 0, 1) := by decide +kernel
theorem dX3_sneeze_196 : decode cX3_sneeze 196 = .ok (.getfield 13, 3) := by decide +kernel
theorem dX3_sneeze_199 : decode cX3_sneeze 199 = .ok (.iload_n 1, 1) := by decide +kernel
theorem dX3_sneeze_200 : decode cX3_sneeze 200 = .ok (.iconst 3, 1) := by decide +kernel
theorem dX3_sneeze_201 : decode cX3_sneeze 201 = .ok (.invokestatic 52, 3) := by decide +kernel
theorem dX3_sneeze_204 : decode cX3_sneeze 204 = .ok (.iaload, 1) := by decide +kernel
theorem dX3_sneeze_205 : decode cX3_sneeze 205 = .ok (.iload 4, 2) := by decide +kernel
theorem dX3_sneeze_207 : decode cX3_sneeze 207 = .ok (.if_icmp .lt 8, 3) := by decide +kernel
theorem dX3_sneeze_210 : decode cX3_sneeze 210 = .ok (.lload 11, 2) := by decide +kernel
theorem dX3_sneeze_212 : decode cX3_sneeze 212 = .ok (.goto 4, 3) := by decide +kernel
theorem dX3_sneeze_215 : decode cX3_sneeze 215 = .ok (.lconst 0, 1) := by decide +kernel
theorem dX3_sneeze_216 : decode cX3_sneeze 216 = .ok (.ladd, 1) := by decide +kernel
theorem dX3_sneeze_217 : decode cX3_sneeze 217 = .ok (.lstore 6, 2) := by decide +kernel
theorem dX3_sneeze_219 : decode cX3_sneeze 219 = .ok (.iinc 10 1, 3) := by decide +kernel
theorem dX3_sneeze_222 : decode cX3_sneeze 222 = .ok (.goto (-113), 3) := by decide +kernel
theorem dX3_sneeze_225 : decode cX3_sneeze 225 = .ok (.lload 6, 2) := by decide +kernel
theorem dX3_sneeze_227 : decode cX3_sneeze 227 = .ok (.lload 8, 2) := by decide +kernel
theorem dX3_sneeze_229 : decode cX3_sneeze 229 = .ok (.iload 5, 2) := by decide +kernel
theorem dX3_sneeze_231 : decode cX3_sneeze 231 = .ok (.invokestatic 177, 3) := by decide +kernel
theorem dX3_sneeze_234 : decode cX3_sneeze 234 = .ok (.lreturn, 1) := by decide +kernel
theorem dX3_mean_0 : decode cX3_mean 0 = .ok (.iload_n 1, 1) := by decide +kernel
theorem dX3_mean_1 : decode cX3_mean 1 = .ok (.iconst 0, 1) := by decide +kernel
theorem dX3_mean_2 : decode cX3_mean 2 = .ok (.iconst 1, 1) := by decide +kernel
theorem dX3_mean_3 : decode cX3_mean 3 = .ok (.invokestatic 40, 3) := by decide +kernel
theorem dX3_mean_6 : decode cX3_mean 6 = .ok (.ifCond .eq 25, 3) := by decide +kernel
theorem dX3_mean_9 : decode cX3_mean 9 = .ok (.aload_n 0, 1) := by decide +kernel
theorem dX3_mean_10 : decode cX3_mean 10 = .ok (.getfield 9, 3) := by decide +kernel
theorem dX3_mean_13 : decode cX3_mean 13 = .ok (.invokestatic 141, 3) := by decide +kernel
theorem dX3_mean_16 : decode cX3_mean 16 = .ok (.i2l, 1) := by decide +kernel
theorem dX3_mean_17 : decode cX3_mean 17 = .ok (.aload_n 0, 1) := by decide +kernel
theorem dX3_mean_18 : decode cX3_mean 18 = .ok (.getfield 9, 3) := by decide +kernel
theorem dX3_mean_21 : decode cX3_mean 21 = .ok (.iconst 0, 1) := by decide +kernel
theorem dX3_mean_22 : decode cX3_mean 22 = .ok (.iaload, 1) := by decide +kernel
theorem dX3_mean_23 : decode cX3_mean 23 = .ok (.i2l, 1) := by decide +kernel
theorem dX3_mean_24 : decode cX3_mean 24 = .ok (.iload_n 1, 1) := by decide +kernel
theorem dX3_mean_25 : decode cX3_mean 25 = .ok (.invokestatic 177, 3) := by decide +kernel
theorem dX3_mean_28 : decode cX3_mean 28 = .ok (.goto 9, 3) := by decide +kernel
theorem dX3_mean_31 : decode cX3_mean 31 = .ok (.aload_n 0, 1) := by decide +kernel
theorem dX3_mean_32 : decode cX3_mean 32 = .ok (.bipush (-2), 2) := by decide +kernel
theorem dX3_mean_34 : decode cX3_mean 34 = .ok (.invokevirtual 173, 3) := by decide +kernel
theorem dX3_mean_37 : decode cX3_mean 37 = .ok (.lreturn, 1) := by decide +kernel
theorem dX3_whatIs_0 : decode cX3_whatIs 0 = .ok (.aload_n 0, 1) := by decide +kernel
theorem dX3_whatIs_1 : decode cX3_whatIs 1 = .ok (.iload_n 1, 1) := by decide +kernel
theorem dX3_whatIs_2 : decode cX3_whatIs 2 = .ok (.invokevirtual 100, 3) := by decide +kernel
theorem dX3_whatIs_5 : decode cX3_whatIs 5 = .ok (.ifCond .ne 9, 3) := by decide +kernel
theorem dX3_whatIs_8 : decode cX3_whatIs 8 = .ok (.aload_n 0, 1) := by decide +kernel
theorem dX3_whatIs_9 : decode cX3_whatIs 9 = .ok (.iconst (-1), 1) := by decide +kernel
theorem dX3_whatIs_10 : decode cX3_whatIs 10 = .ok (.invokevirtual 36, 3) := by decide +kernel
theorem dX3_whatIs_13 : decode cX3_whatIs 13 = .ok (.ireturn, 1) := by decide +kernel
theorem dX3_whatIs_14 : decode cX3_whatIs 14 = .ok (.iload_n 2, 1) := by decide +kernel
theorem dX3_whatIs_15 : decode cX3_whatIs 15 = .ok (.iconst 0, 1) := by decide +kernel
theorem dX3_whatIs_16 : decode cX3_whatIs 16 = .ok (.iconst 1, 1) := by decide +kernel
theorem dX3_whatIs_17 : decode cX3_whatIs 17 = .ok (.invokestatic 40, 3) := by decide +kernel
theorem dX3_whatIs_20 : decode cX3_whatIs 20 = .ok (.ifCond .ne 10, 3) := by decide +kernel
theorem dX3_whatIs_23 : decode cX3_whatIs 23 = .ok (.aload_n 0, 1) := by decide +kernel
theorem dX3_whatIs_24 : decode cX3_whatIs 24 = .ok (.bipush (-2), 2) := by decide +kernel
theorem dX3_whatIs_26 : decode cX3_whatIs 26 = .ok (.invokevirtual 36, 3) := by decide +kernel
theorem dX3_whatIs_29 : decode cX3_whatIs 29 = .ok (.ireturn, 1) := by decide +kernel
theorem dX3_whatIs_30 : decode cX3_whatIs 30 = .ok (.iconst 0, 1) := by decide +kernel
theorem dX3_whatIs_31 : decode cX3_whatIs 31 = .ok (.istore_n 3, 1) := by decide +kernel
theorem dX3_whatIs_32 : decode cX3_whatIs 32 = .ok (.iconst 0, 1) := by decide +kernel
theorem dX3_whatIs_33 : decode cX3_whatIs 33 = .ok (.istore 4, 2) := by decide +kernel
theorem dX3_whatIs_35 : decode cX3_whatIs 35 = .ok (.iload 4, 2) := by decide +kernel
theorem dX3_whatIs_37 : decode cX3_whatIs 37 = .ok (.iload_n 2, 1) := by decide +kernel
theorem dX3_whatIs_38 : decode cX3_whatIs 38 = .ok (.ifCond .ne 8, 3) := by decide +kernel
theorem dX3_whatIs_41 : decode cX3_whatIs 41 = .ok (.bipush 6, 2) := by decide +kernel
theorem dX3_whatIs_43 : decode cX3_whatIs 43 = .ok (.goto 5, 3) := by decide +kernel
theorem dX3_whatIs_46 : decode cX3_whatIs 46 = .ok (.bipush 10, 2) := by decide +kernel
theorem dX3_whatIs_48 : decode cX3_whatIs 48 = .ok (.if_icmp .ge 107, 3) := by decide +kernel
theorem dX3_whatIs_51 : decode cX3_whatIs 51 = .ok (.iconst 1, 1) := by decide +kernel
theorem dX3_whatIs_52 : decode cX3_whatIs 52 = .ok (.istore 5, 2) := by decide +kernel
theorem dX3_whatIs_54 : decode cX3_whatIs 54 = .ok (.aload_n 0, 1) := by decide +kernel
theorem dX3_whatIs_55 : decode cX3_whatIs 55 = .ok (.getfield 9, 3) := by decide +kernel
theorem dX3_whatIs_58 : decode cX3_whatIs 58 = .ok (.aload_n 0, 1) := by decide +kernel
theorem dX3_whatIs_59 : decode cX3_whatIs 59 = .ok (.getfield 13, 3) := by decide +kernel
theorem dX3_whatIs_62 : decode cX3_whatIs 62 = .ok (.invokestatic 110, 3) := by decide +kernel
theorem dX3_whatIs_65 : decode cX3_whatIs 65 = .ok (.aload_n 0, 1) := by decide +kernel
theorem dX3_whatIs_66 : decode cX3_whatIs 66 = .ok (.getfield 13, 3) := by decide +kernel
theorem dX3_whatIs_69 : decode cX3_whatIs 69 = .ok (.iload_n 1, 1) := by decide +kernel
theorem dX3_whatIs_70 : decode cX3_whatIs 70 = .ok (.iload_n 2, 1) := by decide +kernel
theorem dX3_whatIs_71 : decode cX3_whatIs 71 = .ok (.invokestatic 52, 3) := by decide +kernel
theorem dX3_whatIs_74 : decode cX3_whatIs 74 = .ok (.iload 4, 2) := by decide +kernel
theorem dX3_whatIs_76 : decode cX3_whatIs 76 = .ok (.iastore, 1) := by decide +kernel
theorem dX3_whatIs_77 : decode cX3_whatIs 77 = .ok (.iconst 0, 1) := by decide +kernel
theorem dX3_whatIs_78 : decode cX3_whatIs 78 = .ok (.istore 6, 2) := by decide +kernel
theorem dX3_whatIs_80 : decode cX3_whatIs 80 = .ok (.iload 6, 2) := by decide +kernel
theorem dX3_whatIs_82 : decode cX3_whatIs 82 = .ok (.aload_n 0, 1) := by decide +kernel
theorem dX3_whatIs_83 : decode cX3_whatIs 83 = .ok (.getfield 181, 3) := by decide +kernel
theorem dX3_whatIs_86 : decode cX3_whatIs 86 = .ok (.if_icmp .ge 47, 3) := by decide +kernel
theorem dX3_whatIs_89 : decode cX3_whatIs 89 = .ok (.iload 5, 2) := by decide +kernel
theorem dX3_whatIs_91 : decode cX3_whatIs 91 = .ok (.aload_n 0, 1) := by decide +kernel
theorem dX3_whatIs_92 : decode cX3_whatIs 92 = .ok (.getfield 13, 3) := by decide +kernel
theorem dX3_whatIs_95 : decode cX3_whatIs 95 = .ok (.iload_n 1, 1) := by decide +kernel
theorem dX3_whatIs_96 : decode cX3_whatIs 96 = .ok (.iconst 3, 1) := by decide +kernel
theorem dX3_whatIs_97 : decode cX3_whatIs 97 = .ok (.invokestatic 52, 3) := by decide +kernel
theorem dX3_whatIs_100 : decode cX3_whatIs 100 = .ok (.iaload, 1) := by decide +kernel
theorem dX3_whatIs_101 : decode cX3_whatIs 101 = .ok (.aload_n 0, 1) := by decide +kernel
theorem dX3_whatIs_102 : decode cX3_whatIs 102 = .ok (.getfield 25, 3) := by decide +kernel
theorem dX3_whatIs_105 : decode cX3_whatIs 105 = .ok (.iload 6, 2) := by decide +kernel
theorem dX3_whatIs_107 : decode cX3_whatIs 107 = .ok (.iaload, 1) := by decide +kernel
theorem dX3_whatIs_108 : decode cX3_whatIs 108 = .ok (.if_icmp .ne 7, 3) := by decide +kernel
theorem dX3_whatIs_111 : decode cX3_whatIs 111 = .ok (.iconst 1, 1) := by decide +kernel
theorem dX3_whatIs_112 : decode cX3_whatIs 112 = .ok (.goto 4, 3) := by decide +kernel
theorem dX3_whatIs_115 : decode cX3_whatIs 115 = .ok (.iconst 0, 1) := by decide +kernel
theorem dX3_whatIs_116 : decode cX3_whatIs 116 = .ok (.iand, 1) := by decide +kernel
theorem dX3_whatIs_117 : decode cX3_whatIs 117 = .ok (.istore 5, 2) := by decide +kernel
theorem dX3_whatIs_119 : decode cX3_whatIs 119 = .ok (.aload_n 0, 1) := by decide +kernel
theorem dX3_whatIs_120 : decode cX3_whatIs 120 = .ok (.getfield 13, 3) := by decide +kernel
theorem dX3_whatIs_123 : decode cX3_whatIs 123 = .ok (.iconst 0, 1) := by decide +kernel
theorem dX3_whatIs_124 : decode cX3_whatIs 124 = .ok (.invokestatic 73, 3) := by decide +kernel
theorem dX3_whatIs_127 : decode cX3_whatIs 127 = .ok (.iinc 6 1, 3) := by decide +kernel
theorem dX3_whatIs_130 : decode cX3_whatIs 130 = .ok (.goto (-50), 3) := by decide +kernel
theorem dX3_whatIs_133 : decode cX3_whatIs 133 = .ok (.iload_n 3, 1) := by decide +kernel
theorem dX3_whatIs_134 : decode cX3_whatIs 134 = .ok (.iload 5, 2) := by decide +kernel
theorem dX3_whatIs_136 : decode cX3_whatIs 136 = .ok (.ifCond .eq 10, 3) := by decide +kernel
theorem dX3_whatIs_139 : decode cX3_whatIs 139 = .ok (.iconst 1, 1) := by decide +kernel
theorem dX3_whatIs_140 : decode cX3_whatIs 140 = .ok (.iload 4, 2) := by decide +kernel
theorem dX3_whatIs_142 : decode cX3_whatIs 142 = .ok (.ishl, 1) := by decide +kernel
theorem dX3_whatIs_143 : decode cX3_whatIs 143 = .ok (.goto 4, 3) := by decide +kernel
theorem dX3_whatIs_146 : decode cX3_whatIs 146 = .ok (.iconst 0, 1) := by decide +kernel
theorem dX3_whatIs_147 : decode cX3_whatIs 147 = .ok (.ior, 1) := by decide +kernel
theorem dX3_whatIs_148 : decode cX3_whatIs 148 = .ok (.istore_n 3, 1) := by decide +kernel
theorem dX3_whatIs_149 : decode cX3_whatIs 149 = .ok (.iinc 4 1, 3) := by decide +kernel
theorem dX3_whatIs_152 : decode cX3_whatIs 152 = .ok (.goto (-117), 3) := by decide +kernel
theorem dX3_whatIs_155 : decode cX3_whatIs 155 = .ok (.iload_n 3, 1) := by decide +kernel
theorem dX3_whatIs_156 : decode cX3_whatIs 156 = .ok (.ireturn, 1) := by decide +kernel
theorem dX3_row_0 : decode cX3_row 0 = .ok (.iload_n 1, 1) := by decide +kernel
theorem dX3_row_1 : decode cX3_row 1 = .ok (.iconst 0, 1) := by decide +kernel
theorem dX3_row_2 : decode cX3_row 2 = .ok (.bipush 99, 2) := by decide +kernel
theorem dX3_row_4 : decode cX3_row 4 = .ok (.invokestatic 126, 3) := by decide +kernel
theorem dX3_row_7 : decode cX3_row 7 = .ok (.istore_n 2, 1) := by decide +kernel
theorem dX3_row_8 : decode cX3_row 8 = .ok (.iload_n 2, 1) := by decide +kernel
theorem dX3_row_9 : decode cX3_row 9 = .ok (.ifCond .ne 15, 3) := by decide +kernel
theorem dX3_row_12 : decode cX3_row 12 = .ok (.aload_n 0, 1) := by decide +kernel
theorem dX3_row_13 : decode cX3_row 13 = .ok (.getfield 181, 3) := by decide +kernel
theorem dX3_row_16 : decode cX3_row 16 = .ok (.bipush 16, 2) := by decide +kernel
theorem dX3_row_18 : decode cX3_row 18 = .ok (.if_icmp .ne 6, 3) := by decide +kernel
theorem dX3_row_21 : decode cX3_row 21 = .ok (.bipush (-6), 2) := by decide +kernel
theorem dX3_row_23 : decode cX3_row 23 = .ok (.istore_n 2, 1) := by decide +kernel
theorem dX3_row_24 : decode cX3_row 24 = .ok (.iload_n 2, 1) := by decide +kernel
theorem dX3_row_25 : decode cX3_row 25 = .ok (.ifCond .eq 9, 3) := by decide +kernel
theorem dX3_row_28 : decode cX3_row 28 = .ok (.aload_n 0, 1) := by decide +kernel
theorem dX3_row_29 : decode cX3_row 29 = .ok (.iload_n 2, 1) := by decide +kernel
theorem dX3_row_30 : decode cX3_row 30 = .ok (.invokevirtual 36, 3) := by decide +kernel
theorem dX3_row_33 : decode cX3_row 33 = .ok (.ireturn, 1) := by decide +kernel
theorem dX3_row_34 : decode cX3_row 34 = .ok (.aload_n 0, 1) := by decide +kernel
theorem dX3_row_35 : decode cX3_row 35 = .ok (.getfield 25, 3) := by decide +kernel
theorem dX3_row_38 : decode cX3_row 38 = .ok (.aload_n 0, 1) := by decide +kernel
theorem dX3_row_39 : decode cX3_row 39 = .ok (.getfield 181, 3) := by decide +kernel
theorem dX3_row_42 : decode cX3_row 42 = .ok (.iload_n 1, 1) := by decide +kernel
theorem dX3_row_43 : decode cX3_row 43 = .ok (.iastore, 1) := by decide +kernel
theorem dX3_row_44 : decode cX3_row 44 = .ok (.aload_n 0, 1) := by decide +kernel
theorem dX3_row_45 : decode cX3_row 45 = .ok (.dup, 1) := by decide +kernel
theorem dX3_row_46 : decode cX3_row 46 = .ok (.getfield 181, 3) := by decide +kernel
theorem dX3_row_49 : decode cX3_row 49 = .ok (.iconst 1, 1) := by decide +kernel
theorem dX3_row_50 : decode cX3_row 50 = .ok (.iadd, 1) := by decide +kernel
theorem dX3_row_51 : decode cX3_row 51 = .ok (.putfield 181, 3) := by decide +kernel
theorem dX3_row_54 : decode cX3_row 54 = .ok (.aload_n 0, 1) := by decide +kernel
theorem dX3_row_55 : decode cX3_row 55 = .ok (.getfield 181, 3) := by decide +kernel
theorem dX3_row_58 : decode cX3_row 58 = .ok (.ireturn, 1) := by decide +kernel
theorem dX3_judge_0 : decode cX3_judge 0 = .ok (.aload_n 0, 1) := by decide +kernel
theorem dX3_judge_1 : decode cX3_judge 1 = .ok (.getfield 181, 3) := by decide +kernel
theorem dX3_judge_4 : decode cX3_judge 4 = .ok (.istore_n 1, 1) := by decide +kernel
theorem dX3_judge_5 : decode cX3_judge 5 = .ok (.aload_n 0, 1) := by decide +kernel
theorem dX3_judge_6 : decode cX3_judge 6 = .ok (.iconst 0, 1) := by decide +kernel
theorem dX3_judge_7 : decode cX3_judge 7 = .ok (.putfield 181, 3) := by decide +kernel
theorem dX3_judge_10 : decode cX3_judge 10 = .ok (.iconst 0, 1) := by decide +kernel
theorem dX3_judge_11 : decode cX3_judge 11 = .ok (.istore_n 2, 1) := by decide +kernel
theorem dX3_judge_12 : decode cX3_judge 12 = .ok (.iload_n 2, 1) := by decide +kernel
theorem dX3_judge_13 : decode cX3_judge 13 = .ok (.iload_n 1, 1) := by decide +kernel
theorem dX3_judge_14 : decode cX3_judge 14 = .ok (.if_icmp .ge 38, 3) := by decide +kernel
theorem dX3_judge_17 : decode cX3_judge 17 = .ok (.aload_n 0, 1) := by decide +kernel
theorem dX3_judge_18 : decode cX3_judge 18 = .ok (.iload_n 2, 1) := by decide +kernel
theorem dX3_judge_19 : decode cX3_judge 19 = .ok (.invokevirtual 100, 3) := by decide +kernel
theorem dX3_judge_22 : decode cX3_judge 22 = .ok (.ifCond .eq 22, 3) := by decide +kernel
theorem dX3_judge_25 : decode cX3_judge 25 = .ok (.aload_n 0, 1) := by decide +kernel
theorem dX3_judge_26 : decode cX3_judge 26 = .ok (.getfield 9, 3) := by decide +kernel
theorem dX3_judge_29 : decode cX3_judge 29 = .ok (.iload_n 2, 1) := by decide +kernel
theorem dX3_judge_30 : decode cX3_judge 30 = .ok (.iconst 2, 1) := by decide +kernel
theorem dX3_judge_31 : decode cX3_judge 31 = .ok (.invokestatic 52, 3) := by decide +kernel
theorem dX3_judge_34 : decode cX3_judge 34 = .ok (.iaload, 1) := by decide +kernel
theorem dX3_judge_35 : decode cX3_judge 35 = .ok (.aload_n 0, 1) := by decide +kernel
theorem dX3_judge_36 : decode cX3_judge 36 = .ok (.getfield 25, 3) := by decide +kernel
theorem dX3_judge_39 : decode cX3_judge 39 = .ok (.iload_n 2, 1) := by decide +kernel
theorem dX3_judge_40 : decode cX3_judge 40 = .ok (.iaload, 1) := by decide +kernel
theorem dX3_judge_41 : decode cX3_judge 41 = .ok (.if_icmp .eq 5, 3) := by decide +kernel
theorem dX3_judge_44 : decode cX3_judge 44 = .ok (.iload_n 2, 1) := by decide +kernel
theorem dX3_judge_45 : decode cX3_judge 45 = .ok (.ireturn, 1) := by decide +kernel
theorem dX3_judge_46 : decode cX3_judge 46 = .ok (.iinc 2 1, 3) := by decide +kernel
theorem dX3_judge_49 : decode cX3_judge 49 = .ok (.goto (-37), 3) := by decide +kernel
theorem dX3_judge_52 : decode cX3_judge 52 = .ok (.bipush (-9), 2) := by decide +kernel
theorem dX3_judge_54 : decode cX3_judge 54 = .ok (.ireturn, 1) := by decide +kernel
theorem dX3_clear_0 : decode cX3_clear 0 = .ok (.aload_n 0, 1) := by decide +kernel
theorem dX3_clear_1 : decode cX3_clear 1 = .ok (.getfield 181, 3) := by decide +kernel
theorem dX3_clear_4 : decode cX3_clear 4 = .ok (.istore_n 1, 1) := by decide +kernel
theorem dX3_clear_5 : decode cX3_clear 5 = .ok (.aload_n 0, 1) := by decide +kernel
theorem dX3_clear_6 : decode cX3_clear 6 = .ok (.iconst 0, 1) := by decide +kernel
theorem dX3_clear_7 : decode cX3_clear 7 = .ok (.putfield 181, 3) := by decide +kernel
theorem dX3_clear_10 : decode cX3_clear 10 = .ok (.iload_n 1, 1) := by decide +kernel
theorem dX3_clear_11 : decode cX3_clear 11 = .ok (.ireturn, 1) := by decide +kernel
theorem dX3_drawn_0 : decode cX3_drawn 0 = .ok (.aload_n 0, 1) := by decide +kernel
theorem dX3_drawn_1 : decode cX3_drawn 1 = .ok (.aload_n 0, 1) := by decide +kernel
theorem dX3_drawn_2 : decode cX3_drawn 2 = .ok (.getfield 184, 3) := by decide +kernel
theorem dX3_drawn_5 : decode cX3_drawn 5 = .ok (.ldc 187, 2) := by decide +kernel
theorem dX3_drawn_7 : decode cX3_drawn 7 = .ok (.imul, 1) := by decide +kernel
theorem dX3_drawn_8 : decode cX3_drawn 8 = .ok (.ldc 188, 2) := by decide +kernel
theorem dX3_drawn_10 : decode cX3_drawn 10 = .ok (.iadd, 1) := by decide +kernel
theorem dX3_drawn_11 : decode cX3_drawn 11 = .ok (.putfield 184, 3) := by decide +kernel
theorem dX3_drawn_14 : decode cX3_drawn 14 = .ok (.aload_n 0, 1) := by decide +kernel
theorem dX3_drawn_15 : decode cX3_drawn 15 = .ok (.getfield 184, 3) := by decide +kernel
theorem dX3_drawn_18 : decode cX3_drawn 18 = .ok (.ldc 189, 2) := by decide +kernel
theorem dX3_drawn_20 : decode cX3_drawn 20 = .ok (.iand, 1) := by decide +kernel
theorem dX3_drawn_21 : decode cX3_drawn 21 = .ok (.sipush 256, 3) := by decide +kernel
theorem dX3_drawn_24 : decode cX3_drawn 24 = .ok (.idiv, 1) := by decide +kernel
theorem dX3_drawn_25 : decode cX3_drawn 25 = .ok (.iload_n 1, 1) := by decide +kernel
theorem dX3_drawn_26 : decode cX3_drawn 26 = .ok (.irem, 1) := by decide +kernel
theorem dX3_drawn_27 : decode cX3_drawn 27 = .ok (.ireturn, 1) := by decide +kernel
theorem dX3_lots_0 : decode cX3_lots 0 = .ok (.iload_n 1, 1) := by decide +kernel
theorem dX3_lots_1 : decode cX3_lots 1 = .ok (.iconst 1, 1) := by decide +kernel
theorem dX3_lots_2 : decode cX3_lots 2 = .ok (.if_icmp .ge 10, 3) := by decide +kernel
theorem dX3_lots_5 : decode cX3_lots 5 = .ok (.aload_n 0, 1) := by decide +kernel
theorem dX3_lots_6 : decode cX3_lots 6 = .ok (.bipush (-4), 2) := by decide +kernel
theorem dX3_lots_8 : decode cX3_lots 8 = .ok (.invokevirtual 36, 3) := by decide +kernel
theorem dX3_lots_11 : decode cX3_lots 11 = .ok (.ireturn, 1) := by decide +kernel
theorem dX3_lots_12 : decode cX3_lots 12 = .ok (.iload_n 1, 1) := by decide +kernel
theorem dX3_lots_13 : decode cX3_lots 13 = .ok (.bipush 20, 2) := by decide +kernel
theorem dX3_lots_15 : decode cX3_lots 15 = .ok (.if_icmp .le 10, 3) := by decide +kernel
theorem dX3_lots_18 : decode cX3_lots 18 = .ok (.aload_n 0, 1) := by decide +kernel
theorem dX3_lots_19 : decode cX3_lots 19 = .ok (.bipush (-6), 2) := by decide +kernel
theorem dX3_lots_21 : decode cX3_lots 21 = .ok (.invokevirtual 36, 3) := by decide +kernel
theorem dX3_lots_24 : decode cX3_lots 24 = .ok (.ireturn, 1) := by decide +kernel
theorem dX3_lots_25 : decode cX3_lots 25 = .ok (.iload_n 3, 1) := by decide +kernel
theorem dX3_lots_26 : decode cX3_lots 26 = .ok (.iconst 0, 1) := by decide +kernel
theorem dX3_lots_27 : decode cX3_lots 27 = .ok (.iconst 1, 1) := by decide +kernel
theorem dX3_lots_28 : decode cX3_lots 28 = .ok (.invokestatic 40, 3) := by decide +kernel
theorem dX3_lots_31 : decode cX3_lots 31 = .ok (.ifCond .ne 10, 3) := by decide +kernel
theorem dX3_lots_34 : decode cX3_lots 34 = .ok (.aload_n 0, 1) := by decide +kernel
theorem dX3_lots_35 : decode cX3_lots 35 = .ok (.bipush (-2), 2) := by decide +kernel
theorem dX3_lots_37 : decode cX3_lots 37 = .ok (.invokevirtual 36, 3) := by decide +kernel
theorem dX3_lots_40 : decode cX3_lots 40 = .ok (.ireturn, 1) := by decide +kernel
theorem dX3_lots_41 : decode cX3_lots 41 = .ok (.aload_n 0, 1) := by decide +kernel
theorem dX3_lots_42 : decode cX3_lots 42 = .ok (.iload_n 2, 1) := by decide +kernel
theorem dX3_lots_43 : decode cX3_lots 43 = .ok (.putfield 184, 3) := by decide +kernel
theorem dX3_lots_46 : decode cX3_lots 46 = .ok (.iconst 0, 1) := by decide +kernel
theorem dX3_lots_47 : decode cX3_lots 47 = .ok (.istore 4, 2) := by decide +kernel
theorem dX3_lots_49 : decode cX3_lots 49 = .ok (.iconst 0, 1) := by decide +kernel
theorem dX3_lots_50 : decode cX3_lots 50 = .ok (.istore 5, 2) := by decide +kernel
theorem dX3_lots_52 : decode cX3_lots 52 = .ok (.iload 5, 2) := by decide +kernel
theorem dX3_lots_54 : decode cX3_lots 54 = .ok (.iload_n 1, 1) := by decide +kernel
theorem dX3_lots_55 : decode cX3_lots 55 = .ok (.if_icmp .ge 85, 3) := by decide +kernel
theorem dX3_lots_58 : decode cX3_lots 58 = .ok (.aload_n 0, 1) := by decide +kernel
theorem dX3_lots_59 : decode cX3_lots 59 = .ok (.getfield 9, 3) := by decide +kernel
theorem dX3_lots_62 : decode cX3_lots 62 = .ok (.aload_n 0, 1) := by decide +kernel
theorem dX3_lots_63 : decode cX3_lots 63 = .ok (.getfield 13, 3) := by decide +kernel
theorem dX3_lots_66 : decode cX3_lots 66 = .ok (.invokestatic 110, 3) := by decide +kernel
theorem dX3_lots_69 : decode cX3_lots 69 = .ok (.iconst 0, 1) := by decide +kernel
theorem dX3_lots_70 : decode cX3_lots 70 = .ok (.istore 6, 2) := by decide +kernel
theorem dX3_lots_72 : decode cX3_lots 72 = .ok (.iload 6, 2) := by decide +kernel
theorem dX3_lots_74 : decode cX3_lots 74 = .ok (.iconst 4, 1) := by decide +kernel
theorem dX3_lots_75 : decode cX3_lots 75 = .ok (.if_icmp .ge 30, 3) := by decide +kernel
theorem dX3_lots_78 : decode cX3_lots 78 = .ok (.aload_n 0, 1) := by decide +kernel
theorem dX3_lots_79 : decode cX3_lots 79 = .ok (.getfield 13, 3) := by decide +kernel
theorem dX3_lots_82 : decode cX3_lots 82 = .ok (.iconst 3, 1) := by decide +kernel
theorem dX3_lots_83 : decode cX3_lots 83 = .ok (.aload_n 0, 1) := by decide +kernel
theorem dX3_lots_84 : decode cX3_lots 84 = .ok (.bipush 31, 2) := by decide +kernel
theorem dX3_lots_86 : decode cX3_lots 86 = .ok (.invokevirtual 190, 3) := by decide +kernel
theorem dX3_lots_89 : decode cX3_lots 89 = .ok (.iastore, 1) := by decide +kernel
theorem dX3_lots_90 : decode cX3_lots 90 = .ok (.aload_n 0, 1) := by decide +kernel
theorem dX3_lots_91 : decode cX3_lots 91 = .ok (.getfield 13, 3) := by decide +kernel
theorem dX3_lots_94 : decode cX3_lots 94 = .ok (.bipush 12, 2) := by decide +kernel
theorem dX3_lots_96 : decode cX3_lots 96 = .ok (.invokestatic 104, 3) := by decide +kernel
theorem dX3_lots_99 : decode cX3_lots 99 = .ok (.iinc 6 1, 3) := by decide +kernel
theorem dX3_lots_102 : decode cX3_lots 102 = .ok (.goto (-30), 3) := by decide +kernel
theorem dX3_lots_105 : decode cX3_lots 105 = .ok (.iload 4, 2) := by decide +kernel
theorem dX3_lots_107 : decode cX3_lots 107 = .ok (.iload_n 3, 1) := by decide +kernel
theorem dX3_lots_108 : decode cX3_lots 108 = .ok (.ifCond .ne 13, 3) := by decide +kernel
theorem dX3_lots_111 : decode cX3_lots 111 = .ok (.aload_n 0, 1) := by decide +kernel
theorem dX3_lots_112 : decode cX3_lots 112 = .ok (.getfield 13, 3) := by decide +kernel
theorem dX3_lots_115 : decode cX3_lots 115 = .ok (.invokestatic 141, 3) := by decide +kernel
theorem dX3_lots_118 : decode cX3_lots 118 = .ok (.goto 13, 3) := by decide +kernel
theorem dX3_lots_121 : decode cX3_lots 121 = .ok (.aload_n 0, 1) := by decide +kernel
theorem dX3_lots_122 : decode cX3_lots 122 = .ok (.getfield 13, 3) := by decide +kernel
theorem dX3_lots_125 : decode cX3_lots 125 = .ok (.invokestatic 152, 3) := by decide +kernel
theorem dX3_lots_128 : decode cX3_lots 128 = .ok (.invokestatic 120, 3) := by decide +kernel
theorem dX3_lots_131 : decode cX3_lots 131 = .ok (.iadd, 1) := by decide +kernel
theorem dX3_lots_132 : decode cX3_lots 132 = .ok (.istore 4, 2) := by decide +kernel
theorem dX3_lots_134 : decode cX3_lots 134 = .ok (.iinc 5 1, 3) := by decide +kernel
theorem dX3_lots_137 : decode cX3_lots 137 = .ok (.goto (-85), 3) := by decide +kernel
theorem dX3_lots_140 : decode cX3_lots 140 = .ok (.iload 4, 2) := by decide +kernel
theorem dX3_lots_142 : decode cX3_lots 142 = .ok (.ireturn, 1) := by decide +kernel
theorem dX3_image_0 : decode cX3_image 0 = .ok (.aload_n 0, 1) := by decide +kernel
theorem dX3_image_1 : decode cX3_image 1 = .ok (.getfield 9, 3) := by decide +kernel
theorem dX3_image_4 : decode cX3_image 4 = .ok (.aload_n 0, 1) := by decide +kernel
theorem dX3_image_5 : decode cX3_image 5 = .ok (.getfield 16, 3) := by decide +kernel
theorem dX3_image_8 : decode cX3_image 8 = .ok (.invokestatic 110, 3) := by decide +kernel
theorem dX3_image_11 : decode cX3_image 11 = .ok (.aload_n 0, 1) := by decide +kernel
theorem dX3_image_12 : decode cX3_image 12 = .ok (.iconst 1, 1) := by decide +kernel
theorem dX3_image_13 : decode cX3_image 13 = .ok (.putfield 193, 3) := by decide +kernel
theorem dX3_image_16 : decode cX3_image 16 = .ok (.aload_n 0, 1) := by decide +kernel
theorem dX3_image_17 : decode cX3_image 17 = .ok (.getfield 9, 3) := by decide +kernel
theorem dX3_image_20 : decode cX3_image 20 = .ok (.iconst 1, 1) := by decide +kernel
theorem dX3_image_21 : decode cX3_image 21 = .ok (.iaload, 1) := by decide +kernel
theorem dX3_image_22 : decode cX3_image 22 = .ok (.ireturn, 1) := by decide +kernel
theorem dX3_on_0 : decode cX3_on 0 = .ok (.aload_n 0, 1) := by decide +kernel
theorem dX3_on_1 : decode cX3_on 1 = .ok (.getfield 193, 3) := by decide +kernel
theorem dX3_on_4 : decode cX3_on 4 = .ok (.ifCond .ne 10, 3) := by decide +kernel
theorem dX3_on_7 : decode cX3_on 7 = .ok (.aload_n 0, 1) := by decide +kernel
theorem dX3_on_8 : decode cX3_on 8 = .ok (.bipush (-3), 2) := by decide +kernel
theorem dX3_on_10 : decode cX3_on 10 = .ok (.invokevirtual 36, 3) := by decide +kernel
theorem dX3_on_13 : decode cX3_on 13 = .ok (.ireturn, 1) := by decide +kernel
theorem dX3_on_14 : decode cX3_on 14 = .ok (.aload_n 0, 1) := by decide +kernel
theorem dX3_on_15 : decode cX3_on 15 = .ok (.getfield 16, 3) := by decide +kernel
theorem dX3_on_18 : decode cX3_on 18 = .ok (.aload_n 0, 1) := by decide +kernel
theorem dX3_on_19 : decode cX3_on 19 = .ok (.getfield 9, 3) := by decide +kernel
theorem dX3_on_22 : decode cX3_on 22 = .ok (.invokestatic 110, 3) := by decide +kernel
theorem dX3_on_25 : decode cX3_on 25 = .ok (.aload_n 0, 1) := by decide +kernel
theorem dX3_on_26 : decode cX3_on 26 = .ok (.getfield 9, 3) := by decide +kernel
theorem dX3_on_29 : decode cX3_on 29 = .ok (.iconst 1, 1) := by decide +kernel
theorem dX3_on_30 : decode cX3_on 30 = .ok (.iaload, 1) := by decide +kernel
theorem dX3_on_31 : decode cX3_on 31 = .ok (.ireturn, 1) := by decide +kernel
theorem dX3_count_0 : decode cX3_count 0 = .ok (.iload_n 1, 1) := by decide +kernel
theorem dX3_count_1 : decode cX3_count 1 = .ok (.bipush 11, 2) := by decide +kernel
theorem dX3_count_3 : decode cX3_count 3 = .ok (.bipush 16, 2) := by decide +kernel
theorem dX3_count_5 : decode cX3_count 5 = .ok (.invokestatic 40, 3) := by decide +kernel
theorem dX3_count_8 : decode cX3_count 8 = .ok (.ifCond .eq 13, 3) := by decide +kernel
theorem dX3_count_11 : decode cX3_count 11 = .ok (.aload_n 0, 1) := by decide +kernel
theorem dX3_count_12 : decode cX3_count 12 = .ok (.getfield 28, 3) := by decide +kernel
theorem dX3_count_15 : decode cX3_count 15 = .ok (.iload_n 1, 1) := by decide +kernel
theorem dX3_count_16 : decode cX3_count 16 = .ok (.bipush 10, 2) := by decide +kernel
theorem dX3_count_18 : decode cX3_count 18 = .ok (.isub, 1) := by decide +kernel
theorem dX3_count_19 : decode cX3_count 19 = .ok (.iaload, 1) := by decide +kernel
theorem dX3_count_20 : decode cX3_count 20 = .ok (.ireturn, 1) := by decide +kernel
theorem dX3_count_21 : decode cX3_count 21 = .ok (.iload_n 1, 1) := by decide +kernel
theorem dX3_count_22 : decode cX3_count 22 = .ok (.tableswitch 80 0 7 #[46, 46, 46, 46, 53, 62, 70, 75], 46) := by decide +kernel
theorem dX3_count_68 : decode cX3_count 68 = .ok (.aload_n 0, 1) := by decide +kernel
theorem dX3_count_69 : decode cX3_count 69 = .ok (.getfield 9, 3) := by decide +kernel
theorem dX3_count_72 : decode cX3_count 72 = .ok (.iload_n 1, 1) := by decide +kernel
theorem dX3_count_73 : decode cX3_count 73 = .ok (.iaload, 1) := by decide +kernel
theorem dX3_count_74 : decode cX3_count 74 = .ok (.ireturn, 1) := by decide +kernel
theorem dX3_count_75 : decode cX3_count 75 = .ok (.aload_n 0, 1) := by decide +kernel
theorem dX3_count_76 : decode cX3_count 76 = .ok (.getfield 9, 3) := by decide +kernel
theorem dX3_count_79 : decode cX3_count 79 = .ok (.iconst 4, 1) := by decide +kernel
theorem dX3_count_80 : decode cX3_count 80 = .ok (.invokestatic 117, 3) := by decide +kernel
theorem dX3_count_83 : decode cX3_count 83 = .ok (.ireturn, 1) := by decide +kernel
theorem dX3_count_84 : decode cX3_count 84 = .ok (.aload_n 0, 1) := by decide +kernel
theorem dX3_count_85 : decode cX3_count 85 = .ok (.getfield 9, 3) := by decide +kernel
theorem dX3_count_88 : decode cX3_count 88 = .ok (.invokestatic 141, 3) := by decide +kernel
theorem dX3_count_91 : decode cX3_count 91 = .ok (.ireturn, 1) := by decide +kernel
theorem dX3_count_92 : decode cX3_count 92 = .ok (.aload_n 0, 1) := by decide +kernel
theorem dX3_count_93 : decode cX3_count 93 = .ok (.getfield 181, 3) := by decide +kernel
theorem dX3_count_96 : decode cX3_count 96 = .ok (.ireturn, 1) := by decide +kernel
theorem dX3_count_97 : decode cX3_count 97 = .ok (.aload_n 0, 1) := by decide +kernel
theorem dX3_count_98 : decode cX3_count 98 = .ok (.getfield 76, 3) := by decide +kernel
theorem dX3_count_101 : decode cX3_count 101 = .ok (.ireturn, 1) := by decide +kernel
theorem dX3_count_102 : decode cX3_count 102 = .ok (.bipush (-9), 2) := by decide +kernel
theorem dX3_count_104 : decode cX3_count 104 = .ok (.ireturn, 1) := by decide +kernel
theorem dJ11_isValidCodePoint_9a6ad_0 : decode cJ11_isValidCodePoint_9a6ad 0 = .ok (.iload_n 0, 1) := by decide +kernel
theorem dJ11_isValidCodePoint_9a6ad_1 : decode cJ11_isValidCodePoint_9a6ad 1 = .ok (.bipush 16, 2) := by decide +kernel
theorem dJ11_isValidCodePoint_9a6ad_3 : decode cJ11_isValidCodePoint_9a6ad 3 = .ok (.iushr, 1) := by decide +kernel
theorem dJ11_isValidCodePoint_9a6ad_4 : decode cJ11_isValidCodePoint_9a6ad 4 = .ok (.istore_n 1, 1) := by decide +kernel
theorem dJ11_isValidCodePoint_9a6ad_5 : decode cJ11_isValidCodePoint_9a6ad 5 = .ok (.iload_n 1, 1) := by decide +kernel
theorem dJ11_isValidCodePoint_9a6ad_6 : decode cJ11_isValidCodePoint_9a6ad 6 = .ok (.bipush 17, 2) := by decide +kernel
theorem dJ11_isValidCodePoint_9a6ad_8 : decode cJ11_isValidCodePoint_9a6ad 8 = .ok (.if_icmp .ge 7, 3) := by decide +kernel
theorem dJ11_isValidCodePoint_9a6ad_11 : decode cJ11_isValidCodePoint_9a6ad 11 = .ok (.iconst 1, 1) := by decide +kernel
theorem dJ11_isValidCodePoint_9a6ad_12 : decode cJ11_isValidCodePoint_9a6ad 12 = .ok (.goto 4, 3) := by decide +kernel
theorem dJ11_isValidCodePoint_9a6ad_15 : decode cJ11_isValidCodePoint_9a6ad 15 = .ok (.iconst 0, 1) := by decide +kernel
theorem dJ11_isValidCodePoint_9a6ad_16 : decode cJ11_isValidCodePoint_9a6ad 16 = .ok (.ireturn, 1) := by decide +kernel
theorem dJ11_highSurrogate_5068e_0 : decode cJ11_highSurrogate_5068e 0 = .ok (.iload_n 0, 1) := by decide +kernel
theorem dJ11_highSurrogate_5068e_1 : decode cJ11_highSurrogate_5068e 1 = .ok (.bipush 10, 2) := by decide +kernel
theorem dJ11_highSurrogate_5068e_3 : decode cJ11_highSurrogate_5068e 3 = .ok (.iushr, 1) := by decide +kernel
theorem dJ11_highSurrogate_5068e_4 : decode cJ11_highSurrogate_5068e 4 = .ok (.ldc 110, 2) := by decide +kernel
theorem dJ11_highSurrogate_5068e_6 : decode cJ11_highSurrogate_5068e 6 = .ok (.iadd, 1) := by decide +kernel
theorem dJ11_highSurrogate_5068e_7 : decode cJ11_highSurrogate_5068e 7 = .ok (.i2c, 1) := by decide +kernel
theorem dJ11_highSurrogate_5068e_8 : decode cJ11_highSurrogate_5068e 8 = .ok (.ireturn, 1) := by decide +kernel
theorem dJ11_lowSurrogate_5068e_0 : decode cJ11_lowSurrogate_5068e 0 = .ok (.iload_n 0, 1) := by decide +kernel
theorem dJ11_lowSurrogate_5068e_1 : decode cJ11_lowSurrogate_5068e 1 = .ok (.sipush 1023, 3) := by decide +kernel
theorem dJ11_lowSurrogate_5068e_4 : decode cJ11_lowSurrogate_5068e 4 = .ok (.iand, 1) := by decide +kernel
theorem dJ11_lowSurrogate_5068e_5 : decode cJ11_lowSurrogate_5068e 5 = .ok (.ldc 76, 2) := by decide +kernel
theorem dJ11_lowSurrogate_5068e_7 : decode cJ11_lowSurrogate_5068e 7 = .ok (.iadd, 1) := by decide +kernel
theorem dJ11_lowSurrogate_5068e_8 : decode cJ11_lowSurrogate_5068e 8 = .ok (.i2c, 1) := by decide +kernel
theorem dJ11_lowSurrogate_5068e_9 : decode cJ11_lowSurrogate_5068e 9 = .ok (.ireturn, 1) := by decide +kernel
theorem dJ6_bitCount_0f7a4_0 : decode cJ6_bitCount_0f7a4 0 = .ok (.iload_n 0, 1) := by decide +kernel
theorem dJ6_bitCount_0f7a4_1 : decode cJ6_bitCount_0f7a4 1 = .ok (.iload_n 0, 1) := by decide +kernel
theorem dJ6_bitCount_0f7a4_2 : decode cJ6_bitCount_0f7a4 2 = .ok (.iconst 1, 1) := by decide +kernel
theorem dJ6_bitCount_0f7a4_3 : decode cJ6_bitCount_0f7a4 3 = .ok (.iushr, 1) := by decide +kernel
theorem dJ6_bitCount_0f7a4_4 : decode cJ6_bitCount_0f7a4 4 = .ok (.ldc_w 265, 3) := by decide +kernel
theorem dJ6_bitCount_0f7a4_7 : decode cJ6_bitCount_0f7a4 7 = .ok (.iand, 1) := by decide +kernel
theorem dJ6_bitCount_0f7a4_8 : decode cJ6_bitCount_0f7a4 8 = .ok (.isub, 1) := by decide +kernel
theorem dJ6_bitCount_0f7a4_9 : decode cJ6_bitCount_0f7a4 9 = .ok (.istore_n 0, 1) := by decide +kernel
theorem dJ6_bitCount_0f7a4_10 : decode cJ6_bitCount_0f7a4 10 = .ok (.iload_n 0, 1) := by decide +kernel
theorem dJ6_bitCount_0f7a4_11 : decode cJ6_bitCount_0f7a4 11 = .ok (.ldc_w 266, 3) := by decide +kernel
theorem dJ6_bitCount_0f7a4_14 : decode cJ6_bitCount_0f7a4 14 = .ok (.iand, 1) := by decide +kernel
theorem dJ6_bitCount_0f7a4_15 : decode cJ6_bitCount_0f7a4 15 = .ok (.iload_n 0, 1) := by decide +kernel
theorem dJ6_bitCount_0f7a4_16 : decode cJ6_bitCount_0f7a4 16 = .ok (.iconst 2, 1) := by decide +kernel
theorem dJ6_bitCount_0f7a4_17 : decode cJ6_bitCount_0f7a4 17 = .ok (.iushr, 1) := by decide +kernel
theorem dJ6_bitCount_0f7a4_18 : decode cJ6_bitCount_0f7a4 18 = .ok (.ldc_w 266, 3) := by decide +kernel
theorem dJ6_bitCount_0f7a4_21 : decode cJ6_bitCount_0f7a4 21 = .ok (.iand, 1) := by decide +kernel
theorem dJ6_bitCount_0f7a4_22 : decode cJ6_bitCount_0f7a4 22 = .ok (.iadd, 1) := by decide +kernel
theorem dJ6_bitCount_0f7a4_23 : decode cJ6_bitCount_0f7a4 23 = .ok (.istore_n 0, 1) := by decide +kernel
theorem dJ6_bitCount_0f7a4_24 : decode cJ6_bitCount_0f7a4 24 = .ok (.iload_n 0, 1) := by decide +kernel
theorem dJ6_bitCount_0f7a4_25 : decode cJ6_bitCount_0f7a4 25 = .ok (.iload_n 0, 1) := by decide +kernel
theorem dJ6_bitCount_0f7a4_26 : decode cJ6_bitCount_0f7a4 26 = .ok (.iconst 4, 1) := by decide +kernel
theorem dJ6_bitCount_0f7a4_27 : decode cJ6_bitCount_0f7a4 27 = .ok (.iushr, 1) := by decide +kernel
theorem dJ6_bitCount_0f7a4_28 : decode cJ6_bitCount_0f7a4 28 = .ok (.iadd, 1) := by decide +kernel
theorem dJ6_bitCount_0f7a4_29 : decode cJ6_bitCount_0f7a4 29 = .ok (.ldc_w 267, 3) := by decide +kernel
theorem dJ6_bitCount_0f7a4_32 : decode cJ6_bitCount_0f7a4 32 = .ok (.iand, 1) := by decide +kernel
theorem dJ6_bitCount_0f7a4_33 : decode cJ6_bitCount_0f7a4 33 = .ok (.istore_n 0, 1) := by decide +kernel
theorem dJ6_bitCount_0f7a4_34 : decode cJ6_bitCount_0f7a4 34 = .ok (.iload_n 0, 1) := by decide +kernel
theorem dJ6_bitCount_0f7a4_35 : decode cJ6_bitCount_0f7a4 35 = .ok (.iload_n 0, 1) := by decide +kernel
theorem dJ6_bitCount_0f7a4_36 : decode cJ6_bitCount_0f7a4 36 = .ok (.bipush 8, 2) := by decide +kernel
theorem dJ6_bitCount_0f7a4_38 : decode cJ6_bitCount_0f7a4 38 = .ok (.iushr, 1) := by decide +kernel
theorem dJ6_bitCount_0f7a4_39 : decode cJ6_bitCount_0f7a4 39 = .ok (.iadd, 1) := by decide +kernel
theorem dJ6_bitCount_0f7a4_40 : decode cJ6_bitCount_0f7a4 40 = .ok (.istore_n 0, 1) := by decide +kernel
theorem dJ6_bitCount_0f7a4_41 : decode cJ6_bitCount_0f7a4 41 = .ok (.iload_n 0, 1) := by decide +kernel
theorem dJ6_bitCount_0f7a4_42 : decode cJ6_bitCount_0f7a4 42 = .ok (.iload_n 0, 1) := by decide +kernel
theorem dJ6_bitCount_0f7a4_43 : decode cJ6_bitCount_0f7a4 43 = .ok (.bipush 16, 2) := by decide +kernel
theorem dJ6_bitCount_0f7a4_45 : decode cJ6_bitCount_0f7a4 45 = .ok (.iushr, 1) := by decide +kernel
theorem dJ6_bitCount_0f7a4_46 : decode cJ6_bitCount_0f7a4 46 = .ok (.iadd, 1) := by decide +kernel
theorem dJ6_bitCount_0f7a4_47 : decode cJ6_bitCount_0f7a4 47 = .ok (.istore_n 0, 1) := by decide +kernel
theorem dJ6_bitCount_0f7a4_48 : decode cJ6_bitCount_0f7a4 48 = .ok (.iload_n 0, 1) := by decide +kernel
theorem dJ6_bitCount_0f7a4_49 : decode cJ6_bitCount_0f7a4 49 = .ok (.bipush 63, 2) := by decide +kernel
theorem dJ6_bitCount_0f7a4_51 : decode cJ6_bitCount_0f7a4 51 = .ok (.iand, 1) := by decide +kernel
theorem dJ6_bitCount_0f7a4_52 : decode cJ6_bitCount_0f7a4 52 = .ok (.ireturn, 1) := by decide +kernel
theorem dJ9_max_7cf53_0 : decode cJ9_max_7cf53 0 = .ok (.iload_n 0, 1) := by decide +kernel
theorem dJ9_max_7cf53_1 : decode cJ9_max_7cf53 1 = .ok (.iload_n 1, 1) := by decide +kernel
theorem dJ9_max_7cf53_2 : decode cJ9_max_7cf53 2 = .ok (.if_icmp .lt 7, 3) := by decide +kernel
theorem dJ9_max_7cf53_5 : decode cJ9_max_7cf53 5 = .ok (.iload_n 0, 1) := by decide +kernel
theorem dJ9_max_7cf53_6 : decode cJ9_max_7cf53 6 = .ok (.goto 4, 3) := by decide +kernel
theorem dJ9_max_7cf53_9 : decode cJ9_max_7cf53 9 = .ok (.iload_n 1, 1) := by decide +kernel
theorem dJ9_max_7cf53_10 : decode cJ9_max_7cf53 10 = .ok (.ireturn, 1) := by decide +kernel
theorem dJ9_min_7cf53_0 : decode cJ9_min_7cf53 0 = .ok (.iload_n 0, 1) := by decide +kernel
theorem dJ9_min_7cf53_1 : decode cJ9_min_7cf53 1 = .ok (.iload_n 1, 1) := by decide +kernel
theorem dJ9_min_7cf53_2 : decode cJ9_min_7cf53 2 = .ok (.if_icmp .gt 7, 3) := by decide +kernel
theorem dJ9_min_7cf53_5 : decode cJ9_min_7cf53 5 = .ok (.iload_n 0, 1) := by decide +kernel
theorem dJ9_min_7cf53_6 : decode cJ9_min_7cf53 6 = .ok (.goto 4, 3) := by decide +kernel
theorem dJ9_min_7cf53_9 : decode cJ9_min_7cf53 9 = .ok (.iload_n 1, 1) := by decide +kernel
theorem dJ9_min_7cf53_10 : decode cJ9_min_7cf53 10 = .ok (.ireturn, 1) := by decide +kernel
theorem dJ0_length_8abf5_0 : decode cJ0_length_8abf5 0 = .ok (.aload_n 0, 1) := by decide +kernel
theorem dJ0_length_8abf5_1 : decode cJ0_length_8abf5 1 = .ok (.getfield 9, 3) := by decide +kernel
theorem dJ0_length_8abf5_4 : decode cJ0_length_8abf5 4 = .ok (.arraylength, 1) := by decide +kernel
theorem dJ0_length_8abf5_5 : decode cJ0_length_8abf5 5 = .ok (.aload_n 0, 1) := by decide +kernel
theorem dJ0_length_8abf5_6 : decode cJ0_length_8abf5 6 = .ok (.invokevirtual 335, 3) := by decide +kernel
theorem dJ0_length_8abf5_9 : decode cJ0_length_8abf5 9 = .ok (.ishr, 1) := by decide +kernel
theorem dJ0_length_8abf5_10 : decode cJ0_length_8abf5 10 = .ok (.ireturn, 1) := by decide +kernel
theorem dJ0_isEmpty_aae02_0 : decode cJ0_isEmpty_aae02 0 = .ok (.aload_n 0, 1) := by decide +kernel
theorem dJ0_isEmpty_aae02_1 : decode cJ0_isEmpty_aae02 1 = .ok (.getfield 9, 3) := by decide +kernel
theorem dJ0_isEmpty_aae02_4 : decode cJ0_isEmpty_aae02 4 = .ok (.arraylength, 1) := by decide +kernel
theorem dJ0_isEmpty_aae02_5 : decode cJ0_isEmpty_aae02 5 = .ok (.ifCond .ne 7, 3) := by decide +kernel
theorem dJ0_isEmpty_aae02_8 : decode cJ0_isEmpty_aae02 8 = .ok (.iconst 1, 1) := by decide +kernel
theorem dJ0_isEmpty_aae02_9 : decode cJ0_isEmpty_aae02 9 = .ok (.goto 4, 3) := by decide +kernel
theorem dJ0_isEmpty_aae02_12 : decode cJ0_isEmpty_aae02 12 = .ok (.iconst 0, 1) := by decide +kernel
theorem dJ0_isEmpty_aae02_13 : decode cJ0_isEmpty_aae02 13 = .ok (.ireturn, 1) := by decide +kernel
theorem dJ0_charAt_5068e_0 : decode cJ0_charAt_5068e 0 = .ok (.aload_n 0, 1) := by decide +kernel
theorem dJ0_charAt_5068e_1 : decode cJ0_charAt_5068e 1 = .ok (.invokevirtual 492, 3) := by decide +kernel
theorem dJ0_charAt_5068e_4 : decode cJ0_charAt_5068e 4 = .ok (.ifCond .eq 12, 3) := by decide +kernel
theorem dJ0_charAt_5068e_7 : decode cJ0_charAt_5068e 7 = .ok (.aload_n 0, 1) := by decide +kernel
theorem dJ0_charAt_5068e_8 : decode cJ0_charAt_5068e 8 = .ok (.getfield 9, 3) := by decide +kernel
theorem dJ0_charAt_5068e_11 : decode cJ0_charAt_5068e 11 = .ok (.iload_n 1, 1) := by decide +kernel
theorem dJ0_charAt_5068e_12 : decode cJ0_charAt_5068e 12 = .ok (.invokestatic 495, 3) := by decide +kernel
theorem dJ0_charAt_5068e_15 : decode cJ0_charAt_5068e 15 = .ok (.ireturn, 1) := by decide +kernel
theorem dJ0_charAt_5068e_16 : decode cJ0_charAt_5068e 16 = .ok (.aload_n 0, 1) := by decide +kernel
theorem dJ0_charAt_5068e_17 : decode cJ0_charAt_5068e 17 = .ok (.getfield 9, 3) := by decide +kernel
theorem dJ0_charAt_5068e_20 : decode cJ0_charAt_5068e 20 = .ok (.iload_n 1, 1) := by decide +kernel
theorem dJ0_charAt_5068e_21 : decode cJ0_charAt_5068e 21 = .ok (.invokestatic 498, 3) := by decide +kernel
theorem dJ0_charAt_5068e_24 : decode cJ0_charAt_5068e 24 = .ok (.ireturn, 1) := by decide +kernel
theorem dJ0_indexOf_0f7a4_0 : decode cJ0_indexOf_0f7a4 0 = .ok (.aload_n 0, 1) := by decide +kernel
theorem dJ0_indexOf_0f7a4_1 : decode cJ0_indexOf_0f7a4 1 = .ok (.iload_n 1, 1) := by decide +kernel
theorem dJ0_indexOf_0f7a4_2 : decode cJ0_indexOf_0f7a4 2 = .ok (.iconst 0, 1) := by decide +kernel
theorem dJ0_indexOf_0f7a4_3 : decode cJ0_indexOf_0f7a4 3 = .ok (.invokevirtual 633, 3) := by decide +kernel
theorem dJ0_indexOf_0f7a4_6 : decode cJ0_indexOf_0f7a4 6 = .ok (.ireturn, 1) := by decide +kernel
theorem dJ0_indexOf_7cf53_0 : decode cJ0_indexOf_7cf53 0 = .ok (.aload_n 0, 1) := by decide +kernel
theorem dJ0_indexOf_7cf53_1 : decode cJ0_indexOf_7cf53 1 = .ok (.invokevirtual 492, 3) := by decide +kernel
theorem dJ0_indexOf_7cf53_4 : decode cJ0_indexOf_7cf53 4 = .ok (.ifCond .eq 19, 3) := by decide +kernel
theorem dJ0_indexOf_7cf53_7 : decode cJ0_indexOf_7cf53 7 = .ok (.aload_n 0, 1) := by decide +kernel
theorem dJ0_indexOf_7cf53_8 : decode cJ0_indexOf_7cf53 8 = .ok (.getfield 9, 3) := by decide +kernel
theorem dJ0_indexOf_7cf53_11 : decode cJ0_indexOf_7cf53 11 = .ok (.iload_n 1, 1) := by decide +kernel
theorem dJ0_indexOf_7cf53_12 : decode cJ0_indexOf_7cf53 12 = .ok (.iload_n 2, 1) := by decide +kernel
theorem dJ0_indexOf_7cf53_13 : decode cJ0_indexOf_7cf53 13 = .ok (.aload_n 0, 1) := by decide +kernel
theorem dJ0_indexOf_7cf53_14 : decode cJ0_indexOf_7cf53 14 = .ok (.invokevirtual 505, 3) := by decide +kernel
theorem dJ0_indexOf_7cf53_17 : decode cJ0_indexOf_7cf53 17 = .ok (.invokestatic 637, 3) := by decide +kernel
theorem dJ0_indexOf_7cf53_20 : decode cJ0_indexOf_7cf53 20 = .ok (.goto 16, 3) := by decide +kernel
theorem dJ0_indexOf_7cf53_23 : decode cJ0_indexOf_7cf53 23 = .ok (.aload_n 0, 1) := by decide +kernel
theorem dJ0_indexOf_7cf53_24 : decode cJ0_indexOf_7cf53 24 = .ok (.getfield 9, 3) := by decide +kernel
theorem dJ0_indexOf_7cf53_27 : decode cJ0_indexOf_7cf53 27 = .ok (.iload_n 1, 1) := by decide +kernel
theorem dJ0_indexOf_7cf53_28 : decode cJ0_indexOf_7cf53 28 = .ok (.iload_n 2, 1) := by decide +kernel
theorem dJ0_indexOf_7cf53_29 : decode cJ0_indexOf_7cf53 29 = .ok (.aload_n 0, 1) := by decide +kernel
theorem dJ0_indexOf_7cf53_30 : decode cJ0_indexOf_7cf53 30 = .ok (.invokevirtual 505, 3) := by decide +kernel
theorem dJ0_indexOf_7cf53_33 : decode cJ0_indexOf_7cf53 33 = .ok (.invokestatic 640, 3) := by decide +kernel
theorem dJ0_indexOf_7cf53_36 : decode cJ0_indexOf_7cf53 36 = .ok (.ireturn, 1) := by decide +kernel
theorem dJ0_coder_7d493_0 : decode cJ0_coder_7d493 0 = .ok (.getstatic 38, 3) := by decide +kernel
theorem dJ0_coder_7d493_3 : decode cJ0_coder_7d493 3 = .ok (.ifCond .eq 10, 3) := by decide +kernel
theorem dJ0_coder_7d493_6 : decode cJ0_coder_7d493 6 = .ok (.aload_n 0, 1) := by decide +kernel
theorem dJ0_coder_7d493_7 : decode cJ0_coder_7d493 7 = .ok (.getfield 15, 3) := by decide +kernel
theorem dJ0_coder_7d493_10 : decode cJ0_coder_7d493 10 = .ok (.goto 4, 3) := by decide +kernel
theorem dJ0_coder_7d493_13 : decode cJ0_coder_7d493 13 = .ok (.iconst 1, 1) := by decide +kernel
theorem dJ0_coder_7d493_14 : decode cJ0_coder_7d493 14 = .ok (.ireturn, 1) := by decide +kernel
theorem dJ0_isLatin1_aae02_0 : decode cJ0_isLatin1_aae02 0 = .ok (.getstatic 38, 3) := by decide +kernel
theorem dJ0_isLatin1_aae02_3 : decode cJ0_isLatin1_aae02 3 = .ok (.ifCond .eq 14, 3) := by decide +kernel
theorem dJ0_isLatin1_aae02_6 : decode cJ0_isLatin1_aae02 6 = .ok (.aload_n 0, 1) := by decide +kernel
theorem dJ0_isLatin1_aae02_7 : decode cJ0_isLatin1_aae02 7 = .ok (.getfield 15, 3) := by decide +kernel
theorem dJ0_isLatin1_aae02_10 : decode cJ0_isLatin1_aae02 10 = .ok (.ifCond .ne 7, 3) := by decide +kernel
theorem dJ0_isLatin1_aae02_13 : decode cJ0_isLatin1_aae02 13 = .ok (.iconst 1, 1) := by decide +kernel
theorem dJ0_isLatin1_aae02_14 : decode cJ0_isLatin1_aae02 14 = .ok (.goto 4, 3) := by decide +kernel
theorem dJ0_isLatin1_aae02_17 : decode cJ0_isLatin1_aae02 17 = .ok (.iconst 0, 1) := by decide +kernel
theorem dJ0_isLatin1_aae02_18 : decode cJ0_isLatin1_aae02 18 = .ok (.ireturn, 1) := by decide +kernel
theorem dJ0_checkIndex_df160_0 : decode cJ0_checkIndex_df160 0 = .ok (.iload_n 0, 1) := by decide +kernel
theorem dJ0_checkIndex_df160_1 : decode cJ0_checkIndex_df160 1 = .ok (.iload_n 1, 1) := by decide +kernel
theorem dJ0_checkIndex_df160_2 : decode cJ0_checkIndex_df160 2 = .ok (.getstatic 1053, 3) := by decide +kernel
theorem dJ0_checkIndex_df160_5 : decode cJ0_checkIndex_df160 5 = .ok (.invokestatic 1059, 3) := by decide +kernel
theorem dJ0_checkIndex_df160_8 : decode cJ0_checkIndex_df160 8 = .ok (.pop, 1) := by decide +kernel
theorem dJ0_checkIndex_df160_9 : decode cJ0_checkIndex_df160 9 = .ok (.return_, 1) := by decide +kernel
theorem dJ0_checkBoundsBeginEnd_23922_0 : decode cJ0_checkBoundsBeginEnd_23922 0 = .ok (.iload_n 0, 1) := by decide +kernel
theorem dJ0_checkBoundsBeginEnd_23922_1 : decode cJ0_checkBoundsBeginEnd_23922 1 = .ok (.iload_n 1, 1) := by decide +kernel
theorem dJ0_checkBoundsBeginEnd_23922_2 : decode cJ0_checkBoundsBeginEnd_23922 2 = .ok (.iload_n 2, 1) := by decide +kernel
theorem dJ0_checkBoundsBeginEnd_23922_3 : decode cJ0_checkBoundsBeginEnd_23922 3 = .ok (.getstatic 1053, 3) := by decide +kernel
theorem dJ0_checkBoundsBeginEnd_23922_6 : decode cJ0_checkBoundsBeginEnd_23922 6 = .ok (.invokestatic 1062, 3) := by decide +kernel
theorem dJ0_checkBoundsBeginEnd_23922_9 : decode cJ0_checkBoundsBeginEnd_23922 9 = .ok (.pop, 1) := by decide +kernel
theorem dJ0_checkBoundsBeginEnd_23922_10 : decode cJ0_checkBoundsBeginEnd_23922 10 = .ok (.return_, 1) := by decide +kernel
theorem dJ1_charAt_3b067_0 : decode cJ1_charAt_3b067 0 = .ok (.iload_n 1, 1) := by decide +kernel
theorem dJ1_charAt_3b067_1 : decode cJ1_charAt_3b067 1 = .ok (.aload_n 0, 1) := by decide +kernel
theorem dJ1_charAt_3b067_2 : decode cJ1_charAt_3b067 2 = .ok (.arraylength, 1) := by decide +kernel
theorem dJ1_charAt_3b067_3 : decode cJ1_charAt_3b067 3 = .ok (.invokestatic 9, 3) := by decide +kernel
theorem dJ1_charAt_3b067_6 : decode cJ1_charAt_3b067 6 = .ok (.aload_n 0, 1) := by decide +kernel
theorem dJ1_charAt_3b067_7 : decode cJ1_charAt_3b067 7 = .ok (.iload_n 1, 1) := by decide +kernel
theorem dJ1_charAt_3b067_8 : decode cJ1_charAt_3b067 8 = .ok (.baload, 1) := by decide +kernel
theorem dJ1_charAt_3b067_9 : decode cJ1_charAt_3b067 9 = .ok (.sipush 255, 3) := by decide +kernel
theorem dJ1_charAt_3b067_12 : decode cJ1_charAt_3b067 12 = .ok (.iand, 1) := by decide +kernel
theorem dJ1_charAt_3b067_13 : decode cJ1_charAt_3b067 13 = .ok (.i2c, 1) := by decide +kernel
theorem dJ1_charAt_3b067_14 : decode cJ1_charAt_3b067 14 = .ok (.ireturn, 1) := by decide +kernel
theorem dJ1_canEncode_9a6ad_0 : decode cJ1_canEncode_9a6ad 0 = .ok (.iload_n 0, 1) := by decide +kernel
theorem dJ1_canEncode_9a6ad_1 : decode cJ1_canEncode_9a6ad 1 = .ok (.ifCond .lt 14, 3) := by decide +kernel
theorem dJ1_canEncode_9a6ad_4 : decode cJ1_canEncode_9a6ad 4 = .ok (.iload_n 0, 1) := by decide +kernel
theorem dJ1_canEncode_9a6ad_5 : decode cJ1_canEncode_9a6ad 5 = .ok (.sipush 255, 3) := by decide +kernel
theorem dJ1_canEncode_9a6ad_8 : decode cJ1_canEncode_9a6ad 8 = .ok (.if_icmp .gt 7, 3) := by decide +kernel
theorem dJ1_canEncode_9a6ad_11 : decode cJ1_canEncode_9a6ad 11 = .ok (.iconst 1, 1) := by decide +kernel
theorem dJ1_canEncode_9a6ad_12 : decode cJ1_canEncode_9a6ad 12 = .ok (.goto 4, 3) := by decide +kernel
theorem dJ1_canEncode_9a6ad_15 : decode cJ1_canEncode_9a6ad 15 = .ok (.iconst 0, 1) := by decide +kernel
theorem dJ1_canEncode_9a6ad_16 : decode cJ1_canEncode_9a6ad 16 = .ok (.ireturn, 1) := by decide +kernel
theorem dJ1_indexOf_4cfef_0 : decode cJ1_indexOf_4cfef 0 = .ok (.iload_n 1, 1) := by decide +kernel
theorem dJ1_indexOf_4cfef_1 : decode cJ1_indexOf_4cfef 1 = .ok (.invokestatic 88, 3) := by decide +kernel
theorem dJ1_indexOf_4cfef_4 : decode cJ1_indexOf_4cfef 4 = .ok (.ifCond .ne 5, 3) := by decide +kernel
theorem dJ1_indexOf_4cfef_7 : decode cJ1_indexOf_4cfef 7 = .ok (.iconst (-1), 1) := by decide +kernel
theorem dJ1_indexOf_4cfef_8 : decode cJ1_indexOf_4cfef 8 = .ok (.ireturn, 1) := by decide +kernel
theorem dJ1_indexOf_4cfef_9 : decode cJ1_indexOf_4cfef 9 = .ok (.iload_n 2, 1) := by decide +kernel
theorem dJ1_indexOf_4cfef_10 : decode cJ1_indexOf_4cfef 10 = .ok (.iconst 0, 1) := by decide +kernel
theorem dJ1_indexOf_4cfef_11 : decode cJ1_indexOf_4cfef 11 = .ok (.invokestatic 92, 3) := by decide +kernel
theorem dJ1_indexOf_4cfef_14 : decode cJ1_indexOf_4cfef 14 = .ok (.istore_n 2, 1) := by decide +kernel
theorem dJ1_indexOf_4cfef_15 : decode cJ1_indexOf_4cfef 15 = .ok (.iload_n 3, 1) := by decide +kernel
theorem dJ1_indexOf_4cfef_16 : decode cJ1_indexOf_4cfef 16 = .ok (.aload_n 0, 1) := by decide +kernel
theorem dJ1_indexOf_4cfef_17 : decode cJ1_indexOf_4cfef 17 = .ok (.arraylength, 1) := by decide +kernel
theorem dJ1_indexOf_4cfef_18 : decode cJ1_indexOf_4cfef 18 = .ok (.invokestatic 38, 3) := by decide +kernel
theorem dJ1_indexOf_4cfef_21 : decode cJ1_indexOf_4cfef 21 = .ok (.istore_n 3, 1) := by decide +kernel
theorem dJ1_indexOf_4cfef_22 : decode cJ1_indexOf_4cfef 22 = .ok (.iload_n 2, 1) := by decide +kernel
theorem dJ1_indexOf_4cfef_23 : decode cJ1_indexOf_4cfef 23 = .ok (.iload_n 3, 1) := by decide +kernel
theorem dJ1_indexOf_4cfef_24 : decode cJ1_indexOf_4cfef 24 = .ok (.if_icmp .lt 5, 3) := by decide +kernel
theorem dJ1_indexOf_4cfef_27 : decode cJ1_indexOf_4cfef 27 = .ok (.iconst (-1), 1) := by decide +kernel
theorem dJ1_indexOf_4cfef_28 : decode cJ1_indexOf_4cfef 28 = .ok (.ireturn, 1) := by decide +kernel
theorem dJ1_indexOf_4cfef_29 : decode cJ1_indexOf_4cfef 29 = .ok (.aload_n 0, 1) := by decide +kernel
theorem dJ1_indexOf_4cfef_30 : decode cJ1_indexOf_4cfef 30 = .ok (.iload_n 1, 1) := by decide +kernel
theorem dJ1_indexOf_4cfef_31 : decode cJ1_indexOf_4cfef 31 = .ok (.iload_n 2, 1) := by decide +kernel
theorem dJ1_indexOf_4cfef_32 : decode cJ1_indexOf_4cfef 32 = .ok (.iload_n 3, 1) := by decide +kernel
theorem dJ1_indexOf_4cfef_33 : decode cJ1_indexOf_4cfef 33 = .ok (.invokestatic 95, 3) := by decide +kernel
theorem dJ1_indexOf_4cfef_36 : decode cJ1_indexOf_4cfef 36 = .ok (.ireturn, 1) := by decide +kernel
theorem dJ1_indexOfChar_4cfef_0 : decode cJ1_indexOfChar_4cfef 0 = .ok (.iload_n 1, 1) := by decide +kernel
theorem dJ1_indexOfChar_4cfef_1 : decode cJ1_indexOfChar_4cfef 1 = .ok (.i2b, 1) := by decide +kernel
theorem dJ1_indexOfChar_4cfef_2 : decode cJ1_indexOfChar_4cfef 2 = .ok (.istore 4, 2) := by decide +kernel
theorem dJ1_indexOfChar_4cfef_4 : decode cJ1_indexOfChar_4cfef 4 = .ok (.iload_n 2, 1) := by decide +kernel
theorem dJ1_indexOfChar_4cfef_5 : decode cJ1_indexOfChar_4cfef 5 = .ok (.istore 5, 2) := by decide +kernel
theorem dJ1_indexOfChar_4cfef_7 : decode cJ1_indexOfChar_4cfef 7 = .ok (.iload 5, 2) := by decide +kernel
theorem dJ1_indexOfChar_4cfef_9 : decode cJ1_indexOfChar_4cfef 9 = .ok (.iload_n 3, 1) := by decide +kernel
theorem dJ1_indexOfChar_4cfef_10 : decode cJ1_indexOfChar_4cfef 10 = .ok (.if_icmp .ge 21, 3) := by decide +kernel
theorem dJ1_indexOfChar_4cfef_13 : decode cJ1_indexOfChar_4cfef 13 = .ok (.aload_n 0, 1) := by decide +kernel
theorem dJ1_indexOfChar_4cfef_14 : decode cJ1_indexOfChar_4cfef 14 = .ok (.iload 5, 2) := by decide +kernel
theorem dJ1_indexOfChar_4cfef_16 : decode cJ1_indexOfChar_4cfef 16 = .ok (.baload, 1) := by decide +kernel
theorem dJ1_indexOfChar_4cfef_17 : decode cJ1_indexOfChar_4cfef 17 = .ok (.iload 4, 2) := by decide +kernel
theorem dJ1_indexOfChar_4cfef_19 : decode cJ1_indexOfChar_4cfef 19 = .ok (.if_icmp .ne 6, 3) := by decide +kernel
theorem dJ1_indexOfChar_4cfef_22 : decode cJ1_indexOfChar_4cfef 22 = .ok (.iload 5, 2) := by decide +kernel
theorem dJ1_indexOfChar_4cfef_24 : decode cJ1_indexOfChar_4cfef 24 = .ok (.ireturn, 1) := by decide +kernel
theorem dJ1_indexOfChar_4cfef_25 : decode cJ1_indexOfChar_4cfef 25 = .ok (.iinc 5 1, 3) := by decide +kernel
theorem dJ1_indexOfChar_4cfef_28 : decode cJ1_indexOfChar_4cfef 28 = .ok (.goto (-21), 3) := by decide +kernel
theorem dJ1_indexOfChar_4cfef_31 : decode cJ1_indexOfChar_4cfef 31 = .ok (.iconst (-1), 1) := by decide +kernel
theorem dJ1_indexOfChar_4cfef_32 : decode cJ1_indexOfChar_4cfef 32 = .ok (.ireturn, 1) := by decide +kernel
theorem dJ2_getChar_3b067_0 : decode cJ2_getChar_3b067 0 = .ok (.getstatic 44, 3) := by decide +kernel
theorem dJ2_getChar_3b067_3 : decode cJ2_getChar_3b067 3 = .ok (.ifCond .ne 25, 3) := by decide +kernel
theorem dJ2_getChar_3b067_6 : decode cJ2_getChar_3b067 6 = .ok (.iload_n 1, 1) := by decide +kernel
theorem dJ2_getChar_3b067_7 : decode cJ2_getChar_3b067 7 = .ok (.ifCond .lt 11, 3) := by decide +kernel
theorem dJ2_getChar_3b067_10 : decode cJ2_getChar_3b067 10 = .ok (.iload_n 1, 1) := by decide +kernel
theorem dJ2_getChar_3b067_11 : decode cJ2_getChar_3b067 11 = .ok (.aload_n 0, 1) := by decide +kernel
theorem dJ2_getChar_3b067_12 : decode cJ2_getChar_3b067 12 = .ok (.invokestatic 48, 3) := by decide +kernel
theorem dJ2_getChar_3b067_15 : decode cJ2_getChar_3b067 15 = .ok (.if_icmp .lt 13, 3) := by decide +kernel
theorem dJ2_getChar_3b067_18 : decode cJ2_getChar_3b067 18 = .ok (.new 52, 3) := by decide +kernel
theorem dJ2_getChar_3b067_21 : decode cJ2_getChar_3b067 21 = .ok (.dup, 1) := by decide +kernel
theorem dJ2_getChar_3b067_22 : decode cJ2_getChar_3b067 22 = .ok (.ldc 54, 2) := by decide +kernel
theorem dJ2_getChar_3b067_24 : decode cJ2_getChar_3b067 24 = .ok (.invokespecial 56, 3) := by decide +kernel
theorem dJ2_getChar_3b067_27 : decode cJ2_getChar_3b067 27 = .ok (.athrow, 1) := by decide +kernel
theorem dJ2_getChar_3b067_28 : decode cJ2_getChar_3b067 28 = .ok (.iload_n 1, 1) := by decide +kernel
theorem dJ2_getChar_3b067_29 : decode cJ2_getChar_3b067 29 = .ok (.iconst 1, 1) := by decide +kernel
theorem dJ2_getChar_3b067_30 : decode cJ2_getChar_3b067 30 = .ok (.ishl, 1) := by decide +kernel
theorem dJ2_getChar_3b067_31 : decode cJ2_getChar_3b067 31 = .ok (.istore_n 1, 1) := by decide +kernel
theorem dJ2_getChar_3b067_32 : decode cJ2_getChar_3b067 32 = .ok (.aload_n 0, 1) := by decide +kernel
theorem dJ2_getChar_3b067_33 : decode cJ2_getChar_3b067 33 = .ok (.iload_n 1, 1) := by decide +kernel
theorem dJ2_getChar_3b067_34 : decode cJ2_getChar_3b067 34 = .ok (.iinc 1 1, 3) := by decide +kernel
theorem dJ2_getChar_3b067_37 : decode cJ2_getChar_3b067 37 = .ok (.baload, 1) := by decide +kernel
theorem dJ2_getChar_3b067_38 : decode cJ2_getChar_3b067 38 = .ok (.sipush 255, 3) := by decide +kernel
theorem dJ2_getChar_3b067_41 : decode cJ2_getChar_3b067 41 = .ok (.iand, 1) := by decide +kernel
theorem dJ2_getChar_3b067_42 : decode cJ2_getChar_3b067 42 = .ok (.getstatic 59, 3) := by decide +kernel
theorem dJ2_getChar_3b067_45 : decode cJ2_getChar_3b067 45 = .ok (.ishl, 1) := by decide +kernel
theorem dJ2_getChar_3b067_46 : decode cJ2_getChar_3b067 46 = .ok (.aload_n 0, 1) := by decide +kernel
theorem dJ2_getChar_3b067_47 : decode cJ2_getChar_3b067 47 = .ok (.iload_n 1, 1) := by decide +kernel
theorem dJ2_getChar_3b067_48 : decode cJ2_getChar_3b067 48 = .ok (.baload, 1) := by decide +kernel
theorem dJ2_getChar_3b067_49 : decode cJ2_getChar_3b067 49 = .ok (.sipush 255, 3) := by decide +kernel
theorem dJ2_getChar_3b067_52 : decode cJ2_getChar_3b067 52 = .ok (.iand, 1) := by decide +kernel
theorem dJ2_getChar_3b067_53 : decode cJ2_getChar_3b067 53 = .ok (.getstatic 63, 3) := by decide +kernel
theorem dJ2_getChar_3b067_56 : decode cJ2_getChar_3b067 56 = .ok (.ishl, 1) := by decide +kernel
theorem dJ2_getChar_3b067_57 : decode cJ2_getChar_3b067 57 = .ok (.ior, 1) := by decide +kernel
theorem dJ2_getChar_3b067_58 : decode cJ2_getChar_3b067 58 = .ok (.i2c, 1) := by decide +kernel
theorem dJ2_getChar_3b067_59 : decode cJ2_getChar_3b067 59 = .ok (.ireturn, 1) := by decide +kernel
theorem dJ2_length_9d52b_0 : decode cJ2_length_9d52b 0 = .ok (.aload_n 0, 1) := by decide +kernel
theorem dJ2_length_9d52b_1 : decode cJ2_length_9d52b 1 = .ok (.arraylength, 1) := by decide +kernel
theorem dJ2_length_9d52b_2 : decode cJ2_length_9d52b 2 = .ok (.iconst 1, 1) := by decide +kernel
theorem dJ2_length_9d52b_3 : decode cJ2_length_9d52b 3 = .ok (.ishr, 1) := by decide +kernel
theorem dJ2_length_9d52b_4 : decode cJ2_length_9d52b 4 = .ok (.ireturn, 1) := by decide +kernel
theorem dJ2_indexOf_4cfef_0 : decode cJ2_indexOf_4cfef 0 = .ok (.iload_n 2, 1) := by decide +kernel
theorem dJ2_indexOf_4cfef_1 : decode cJ2_indexOf_4cfef 1 = .ok (.iconst 0, 1) := by decide +kernel
theorem dJ2_indexOf_4cfef_2 : decode cJ2_indexOf_4cfef 2 = .ok (.invokestatic 224, 3) := by decide +kernel
theorem dJ2_indexOf_4cfef_5 : decode cJ2_indexOf_4cfef 5 = .ok (.istore_n 2, 1) := by decide +kernel
theorem dJ2_indexOf_4cfef_6 : decode cJ2_indexOf_4cfef 6 = .ok (.iload_n 3, 1) := by decide +kernel
theorem dJ2_indexOf_4cfef_7 : decode cJ2_indexOf_4cfef 7 = .ok (.aload_n 0, 1) := by decide +kernel
theorem dJ2_indexOf_4cfef_8 : decode cJ2_indexOf_4cfef 8 = .ok (.arraylength, 1) := by decide +kernel
theorem dJ2_indexOf_4cfef_9 : decode cJ2_indexOf_4cfef 9 = .ok (.iconst 1, 1) := by decide +kernel
theorem dJ2_indexOf_4cfef_10 : decode cJ2_indexOf_4cfef 10 = .ok (.ishr, 1) := by decide +kernel
theorem dJ2_indexOf_4cfef_11 : decode cJ2_indexOf_4cfef 11 = .ok (.invokestatic 183, 3) := by decide +kernel
theorem dJ2_indexOf_4cfef_14 : decode cJ2_indexOf_4cfef 14 = .ok (.istore_n 3, 1) := by decide +kernel
theorem dJ2_indexOf_4cfef_15 : decode cJ2_indexOf_4cfef 15 = .ok (.iload_n 2, 1) := by decide +kernel
theorem dJ2_indexOf_4cfef_16 : decode cJ2_indexOf_4cfef 16 = .ok (.iload_n 3, 1) := by decide +kernel
theorem dJ2_indexOf_4cfef_17 : decode cJ2_indexOf_4cfef 17 = .ok (.if_icmp .lt 5, 3) := by decide +kernel
theorem dJ2_indexOf_4cfef_20 : decode cJ2_indexOf_4cfef 20 = .ok (.iconst (-1), 1) := by decide +kernel
theorem dJ2_indexOf_4cfef_21 : decode cJ2_indexOf_4cfef 21 = .ok (.ireturn, 1) := by decide +kernel
theorem dJ2_indexOf_4cfef_22 : decode cJ2_indexOf_4cfef 22 = .ok (.iload_n 1, 1) := by decide +kernel
theorem dJ2_indexOf_4cfef_23 : decode cJ2_indexOf_4cfef 23 = .ok (.ldc 227, 2) := by decide +kernel
theorem dJ2_indexOf_4cfef_25 : decode cJ2_indexOf_4cfef 25 = .ok (.if_icmp .ge 11, 3) := by decide +kernel
theorem dJ2_indexOf_4cfef_28 : decode cJ2_indexOf_4cfef 28 = .ok (.aload_n 0, 1) := by decide +kernel
theorem dJ2_indexOf_4cfef_29 : decode cJ2_indexOf_4cfef 29 = .ok (.iload_n 1, 1) := by decide +kernel
theorem dJ2_indexOf_4cfef_30 : decode cJ2_indexOf_4cfef 30 = .ok (.iload_n 2, 1) := by decide +kernel
theorem dJ2_indexOf_4cfef_31 : decode cJ2_indexOf_4cfef 31 = .ok (.iload_n 3, 1) := by decide +kernel
theorem dJ2_indexOf_4cfef_32 : decode cJ2_indexOf_4cfef 32 = .ok (.invokestatic 228, 3) := by decide +kernel
theorem dJ2_indexOf_4cfef_35 : decode cJ2_indexOf_4cfef 35 = .ok (.ireturn, 1) := by decide +kernel
theorem dJ2_indexOf_4cfef_36 : decode cJ2_indexOf_4cfef 36 = .ok (.aload_n 0, 1) := by decide +kernel
theorem dJ2_indexOf_4cfef_37 : decode cJ2_indexOf_4cfef 37 = .ok (.iload_n 1, 1) := by decide +kernel
theorem dJ2_indexOf_4cfef_38 : decode cJ2_indexOf_4cfef 38 = .ok (.iload_n 2, 1) := by decide +kernel
theorem dJ2_indexOf_4cfef_39 : decode cJ2_indexOf_4cfef 39 = .ok (.iload_n 3, 1) := by decide +kernel
theorem dJ2_indexOf_4cfef_40 : decode cJ2_indexOf_4cfef 40 = .ok (.invokestatic 232, 3) := by decide +kernel
theorem dJ2_indexOf_4cfef_43 : decode cJ2_indexOf_4cfef 43 = .ok (.ireturn, 1) := by decide +kernel
theorem dJ2_indexOfChar_4cfef_0 : decode cJ2_indexOfChar_4cfef 0 = .ok (.iload_n 2, 1) := by decide +kernel
theorem dJ2_indexOfChar_4cfef_1 : decode cJ2_indexOfChar_4cfef 1 = .ok (.iload_n 3, 1) := by decide +kernel
theorem dJ2_indexOfChar_4cfef_2 : decode cJ2_indexOfChar_4cfef 2 = .ok (.aload_n 0, 1) := by decide +kernel
theorem dJ2_indexOfChar_4cfef_3 : decode cJ2_indexOfChar_4cfef 3 = .ok (.invokestatic 96, 3) := by decide +kernel
theorem dJ2_indexOfChar_4cfef_6 : decode cJ2_indexOfChar_4cfef 6 = .ok (.aload_n 0, 1) := by decide +kernel
theorem dJ2_indexOfChar_4cfef_7 : decode cJ2_indexOfChar_4cfef 7 = .ok (.iload_n 1, 1) := by decide +kernel
theorem dJ2_indexOfChar_4cfef_8 : decode cJ2_indexOfChar_4cfef 8 = .ok (.iload_n 2, 1) := by decide +kernel
theorem dJ2_indexOfChar_4cfef_9 : decode cJ2_indexOfChar_4cfef 9 = .ok (.iload_n 3, 1) := by decide +kernel
theorem dJ2_indexOfChar_4cfef_10 : decode cJ2_indexOfChar_4cfef 10 = .ok (.invokestatic 244, 3) := by decide +kernel
theorem dJ2_indexOfChar_4cfef_13 : decode cJ2_indexOfChar_4cfef 13 = .ok (.ireturn, 1) := by decide +kernel
theorem dJ2_indexOfCharUnsafe_4cfef_0 : decode cJ2_indexOfCharUnsafe_4cfef 0 = .ok (.iload_n 2, 1) := by decide +kernel
theorem dJ2_indexOfCharUnsafe_4cfef_1 : decode cJ2_indexOfCharUnsafe_4cfef 1 = .ok (.istore 4, 2) := by decide +kernel
theorem dJ2_indexOfCharUnsafe_4cfef_3 : decode cJ2_indexOfCharUnsafe_4cfef 3 = .ok (.iload 4, 2) := by decide +kernel
theorem dJ2_indexOfCharUnsafe_4cfef_5 : decode cJ2_indexOfCharUnsafe_4cfef 5 = .ok (.iload_n 3, 1) := by decide +kernel
theorem dJ2_indexOfCharUnsafe_4cfef_6 : decode cJ2_indexOfCharUnsafe_4cfef 6 = .ok (.if_icmp .ge 22, 3) := by decide +kernel
theorem dJ2_indexOfCharUnsafe_4cfef_9 : decode cJ2_indexOfCharUnsafe_4cfef 9 = .ok (.aload_n 0, 1) := by decide +kernel
theorem dJ2_indexOfCharUnsafe_4cfef_10 : decode cJ2_indexOfCharUnsafe_4cfef 10 = .ok (.iload 4, 2) := by decide +kernel
theorem dJ2_indexOfCharUnsafe_4cfef_12 : decode cJ2_indexOfCharUnsafe_4cfef 12 = .ok (.invokestatic 71, 3) := by decide +kernel
theorem dJ2_indexOfCharUnsafe_4cfef_15 : decode cJ2_indexOfCharUnsafe_4cfef 15 = .ok (.iload_n 1, 1) := by decide +kernel
theorem dJ2_indexOfCharUnsafe_4cfef_16 : decode cJ2_indexOfCharUnsafe_4cfef 16 = .ok (.if_icmp .ne 6, 3) := by decide +kernel
theorem dJ2_indexOfCharUnsafe_4cfef_19 : decode cJ2_indexOfCharUnsafe_4cfef 19 = .ok (.iload 4, 2) := by decide +kernel
theorem dJ2_indexOfCharUnsafe_4cfef_21 : decode cJ2_indexOfCharUnsafe_4cfef 21 = .ok (.ireturn, 1) := by decide +kernel
theorem dJ2_indexOfCharUnsafe_4cfef_22 : decode cJ2_indexOfCharUnsafe_4cfef 22 = .ok (.iinc 4 1, 3) := by decide +kernel
theorem dJ2_indexOfCharUnsafe_4cfef_25 : decode cJ2_indexOfCharUnsafe_4cfef 25 = .ok (.goto (-22), 3) := by decide +kernel
theorem dJ2_indexOfCharUnsafe_4cfef_28 : decode cJ2_indexOfCharUnsafe_4cfef 28 = .ok (.iconst (-1), 1) := by decide +kernel
theorem dJ2_indexOfCharUnsafe_4cfef_29 : decode cJ2_indexOfCharUnsafe_4cfef 29 = .ok (.ireturn, 1) := by decide +kernel
theorem dJ2_indexOfSupplementary_4cfef_0 : decode cJ2_indexOfSupplementary_4cfef 0 = .ok (.iload_n 1, 1) := by decide +kernel
theorem dJ2_indexOfSupplementary_4cfef_1 : decode cJ2_indexOfSupplementary_4cfef 1 = .ok (.invokestatic 164, 3) := by decide +kernel
theorem dJ2_indexOfSupplementary_4cfef_4 : decode cJ2_indexOfSupplementary_4cfef 4 = .ok (.ifCond .eq 65, 3) := by decide +kernel
theorem dJ2_indexOfSupplementary_4cfef_7 : decode cJ2_indexOfSupplementary_4cfef 7 = .ok (.iload_n 1, 1) := by decide +kernel
theorem dJ2_indexOfSupplementary_4cfef_8 : decode cJ2_indexOfSupplementary_4cfef 8 = .ok (.invokestatic 157, 3) := by decide +kernel
theorem dJ2_indexOfSupplementary_4cfef_11 : decode cJ2_indexOfSupplementary_4cfef 11 = .ok (.istore 4, 2) := by decide +kernel
theorem dJ2_indexOfSupplementary_4cfef_13 : decode cJ2_indexOfSupplementary_4cfef 13 = .ok (.iload_n 1, 1) := by decide +kernel
theorem dJ2_indexOfSupplementary_4cfef_14 : decode cJ2_indexOfSupplementary_4cfef 14 = .ok (.invokestatic 161, 3) := by decide +kernel
theorem dJ2_indexOfSupplementary_4cfef_17 : decode cJ2_indexOfSupplementary_4cfef 17 = .ok (.istore 5, 2) := by decide +kernel
theorem dJ2_indexOfSupplementary_4cfef_19 : decode cJ2_indexOfSupplementary_4cfef 19 = .ok (.iload_n 2, 1) := by decide +kernel
theorem dJ2_indexOfSupplementary_4cfef_20 : decode cJ2_indexOfSupplementary_4cfef 20 = .ok (.iload_n 3, 1) := by decide +kernel
theorem dJ2_indexOfSupplementary_4cfef_21 : decode cJ2_indexOfSupplementary_4cfef 21 = .ok (.aload_n 0, 1) := by decide +kernel
theorem dJ2_indexOfSupplementary_4cfef_22 : decode cJ2_indexOfSupplementary_4cfef 22 = .ok (.invokestatic 96, 3) := by decide +kernel
theorem dJ2_indexOfSupplementary_4cfef_25 : decode cJ2_indexOfSupplementary_4cfef 25 = .ok (.iload_n 2, 1) := by decide +kernel
theorem dJ2_indexOfSupplementary_4cfef_26 : decode cJ2_indexOfSupplementary_4cfef 26 = .ok (.istore 6, 2) := by decide +kernel
theorem dJ2_indexOfSupplementary_4cfef_28 : decode cJ2_indexOfSupplementary_4cfef 28 = .ok (.iload 6, 2) := by decide +kernel
theorem dJ2_indexOfSupplementary_4cfef_30 : decode cJ2_indexOfSupplementary_4cfef 30 = .ok (.iload_n 3, 1) := by decide +kernel
theorem dJ2_indexOfSupplementary_4cfef_31 : decode cJ2_indexOfSupplementary_4cfef 31 = .ok (.iconst 1, 1) := by decide +kernel
theorem dJ2_indexOfSupplementary_4cfef_32 : decode cJ2_indexOfSupplementary_4cfef 32 = .ok (.isub, 1) := by decide +kernel
theorem dJ2_indexOfSupplementary_4cfef_33 : decode cJ2_indexOfSupplementary_4cfef 33 = .ok (.if_icmp .ge 36, 3) := by decide +kernel
theorem dJ2_indexOfSupplementary_4cfef_36 : decode cJ2_indexOfSupplementary_4cfef 36 = .ok (.aload_n 0, 1) := by decide +kernel
theorem dJ2_indexOfSupplementary_4cfef_37 : decode cJ2_indexOfSupplementary_4cfef 37 = .ok (.iload 6, 2) := by decide +kernel
theorem dJ2_indexOfSupplementary_4cfef_39 : decode cJ2_indexOfSupplementary_4cfef 39 = .ok (.invokestatic 71, 3) := by decide +kernel
theorem dJ2_indexOfSupplementary_4cfef_42 : decode cJ2_indexOfSupplementary_4cfef 42 = .ok (.iload 4, 2) := by decide +kernel
theorem dJ2_indexOfSupplementary_4cfef_44 : decode cJ2_indexOfSupplementary_4cfef 44 = .ok (.if_icmp .ne 19, 3) := by decide +kernel
theorem dJ2_indexOfSupplementary_4cfef_47 : decode cJ2_indexOfSupplementary_4cfef 47 = .ok (.aload_n 0, 1) := by decide +kernel
theorem dJ2_indexOfSupplementary_4cfef_48 : decode cJ2_indexOfSupplementary_4cfef 48 = .ok (.iload 6, 2) := by decide +kernel
theorem dJ2_indexOfSupplementary_4cfef_50 : decode cJ2_indexOfSupplementary_4cfef 50 = .ok (.iconst 1, 1) := by decide +kernel
theorem dJ2_indexOfSupplementary_4cfef_51 : decode cJ2_indexOfSupplementary_4cfef 51 = .ok (.iadd, 1) := by decide +kernel
theorem dJ2_indexOfSupplementary_4cfef_52 : decode cJ2_indexOfSupplementary_4cfef 52 = .ok (.invokestatic 71, 3) := by decide +kernel
theorem dJ2_indexOfSupplementary_4cfef_55 : decode cJ2_indexOfSupplementary_4cfef 55 = .ok (.iload 5, 2) := by decide +kernel
theorem dJ2_indexOfSupplementary_4cfef_57 : decode cJ2_indexOfSupplementary_4cfef 57 = .ok (.if_icmp .ne 6, 3) := by decide +kernel
theorem dJ2_indexOfSupplementary_4cfef_60 : decode cJ2_indexOfSupplementary_4cfef 60 = .ok (.iload 6, 2) := by decide +kernel
theorem dJ2_indexOfSupplementary_4cfef_62 : decode cJ2_indexOfSupplementary_4cfef 62 = .ok (.ireturn, 1) := by decide +kernel
theorem dJ2_indexOfSupplementary_4cfef_63 : decode cJ2_indexOfSupplementary_4cfef 63 = .ok (.iinc 6 1, 3) := by decide +kernel
theorem dJ2_indexOfSupplementary_4cfef_66 : decode cJ2_indexOfSupplementary_4cfef 66 = .ok (.goto (-38), 3) := by decide +kernel
theorem dJ2_indexOfSupplementary_4cfef_69 : decode cJ2_indexOfSupplementary_4cfef 69 = .ok (.iconst (-1), 1) := by decide +kernel
theorem dJ2_indexOfSupplementary_4cfef_70 : decode cJ2_indexOfSupplementary_4cfef 70 = .ok (.ireturn, 1) := by decide +kernel
theorem dJ2_charAt_3b067_0 : decode cJ2_charAt_3b067 0 = .ok (.iload_n 1, 1) := by decide +kernel
theorem dJ2_charAt_3b067_1 : decode cJ2_charAt_3b067 1 = .ok (.aload_n 0, 1) := by decide +kernel
theorem dJ2_charAt_3b067_2 : decode cJ2_charAt_3b067 2 = .ok (.invokestatic 67, 3) := by decide +kernel
theorem dJ2_charAt_3b067_5 : decode cJ2_charAt_3b067 5 = .ok (.aload_n 0, 1) := by decide +kernel
theorem dJ2_charAt_3b067_6 : decode cJ2_charAt_3b067 6 = .ok (.iload_n 1, 1) := by decide +kernel
theorem dJ2_charAt_3b067_7 : decode cJ2_charAt_3b067 7 = .ok (.invokestatic 71, 3) := by decide +kernel
theorem dJ2_charAt_3b067_10 : decode cJ2_charAt_3b067 10 = .ok (.ireturn, 1) := by decide +kernel
theorem dJ2_checkIndex_2214a_0 : decode cJ2_checkIndex_2214a 0 = .ok (.iload_n 0, 1) := by decide +kernel
theorem dJ2_checkIndex_2214a_1 : decode cJ2_checkIndex_2214a 1 = .ok (.aload_n 1, 1) := by decide +kernel
theorem dJ2_checkIndex_2214a_2 : decode cJ2_checkIndex_2214a 2 = .ok (.invokestatic 48, 3) := by decide +kernel
theorem dJ2_checkIndex_2214a_5 : decode cJ2_checkIndex_2214a 5 = .ok (.invokestatic 414, 3) := by decide +kernel
theorem dJ2_checkIndex_2214a_8 : decode cJ2_checkIndex_2214a 8 = .ok (.return_, 1) := by decide +kernel
theorem dJ2_checkBoundsBeginEnd_d044e_0 : decode cJ2_checkBoundsBeginEnd_d044e 0 = .ok (.iload_n 0, 1) := by decide +kernel
theorem dJ2_checkBoundsBeginEnd_d044e_1 : decode cJ2_checkBoundsBeginEnd_d044e 1 = .ok (.iload_n 1, 1) := by decide +kernel
theorem dJ2_checkBoundsBeginEnd_d044e_2 : decode cJ2_checkBoundsBeginEnd_d044e 2 = .ok (.aload_n 2, 1) := by decide +kernel
theorem dJ2_checkBoundsBeginEnd_d044e_3 : decode cJ2_checkBoundsBeginEnd_d044e 3 = .ok (.invokestatic 48, 3) := by decide +kernel
theorem dJ2_checkBoundsBeginEnd_d044e_6 : decode cJ2_checkBoundsBeginEnd_d044e 6 = .ok (.invokestatic 241, 3) := by decide +kernel
theorem dJ2_checkBoundsBeginEnd_d044e_9 : decode cJ2_checkBoundsBeginEnd_d044e 9 = .ok (.return_, 1) := by decide +kernel
theorem dJ3_checkIndex_8e157_0 : decode cJ3_checkIndex_8e157 0 = .ok (.iload_n 0, 1) := by decide +kernel
theorem dJ3_checkIndex_8e157_1 : decode cJ3_checkIndex_8e157 1 = .ok (.ifCond .lt 8, 3) := by decide +kernel
theorem dJ3_checkIndex_8e157_4 : decode cJ3_checkIndex_8e157 4 = .ok (.iload_n 0, 1) := by decide +kernel
theorem dJ3_checkIndex_8e157_5 : decode cJ3_checkIndex_8e157 5 = .ok (.iload_n 1, 1) := by decide +kernel
theorem dJ3_checkIndex_8e157_6 : decode cJ3_checkIndex_8e157 6 = .ok (.if_icmp .lt 10, 3) := by decide +kernel
theorem dJ3_checkIndex_8e157_9 : decode cJ3_checkIndex_8e157 9 = .ok (.aload_n 2, 1) := by decide +kernel
theorem dJ3_checkIndex_8e157_10 : decode cJ3_checkIndex_8e157 10 = .ok (.iload_n 0, 1) := by decide +kernel
theorem dJ3_checkIndex_8e157_11 : decode cJ3_checkIndex_8e157 11 = .ok (.iload_n 1, 1) := by decide +kernel
theorem dJ3_checkIndex_8e157_12 : decode cJ3_checkIndex_8e157 12 = .ok (.invokestatic 95, 3) := by decide +kernel
theorem dJ3_checkIndex_8e157_15 : decode cJ3_checkIndex_8e157 15 = .ok (.athrow, 1) := by decide +kernel
theorem dJ3_checkIndex_8e157_16 : decode cJ3_checkIndex_8e157 16 = .ok (.iload_n 0, 1) := by decide +kernel
theorem dJ3_checkIndex_8e157_17 : decode cJ3_checkIndex_8e157 17 = .ok (.ireturn, 1) := by decide +kernel
theorem dJ3_checkFromToIndex_8c36e_0 : decode cJ3_checkFromToIndex_8c36e 0 = .ok (.iload_n 0, 1) := by decide +kernel
theorem dJ3_checkFromToIndex_8c36e_1 : decode cJ3_checkFromToIndex_8c36e 1 = .ok (.ifCond .lt 13, 3) := by decide +kernel
theorem dJ3_checkFromToIndex_8c36e_4 : decode cJ3_checkFromToIndex_8c36e 4 = .ok (.iload_n 0, 1) := by decide +kernel
theorem dJ3_checkFromToIndex_8c36e_5 : decode cJ3_checkFromToIndex_8c36e 5 = .ok (.iload_n 1, 1) := by decide +kernel
theorem dJ3_checkFromToIndex_8c36e_6 : decode cJ3_checkFromToIndex_8c36e 6 = .ok (.if_icmp .gt 8, 3) := by decide +kernel
theorem dJ3_checkFromToIndex_8c36e_9 : decode cJ3_checkFromToIndex_8c36e 9 = .ok (.iload_n 1, 1) := by decide +kernel
theorem dJ3_checkFromToIndex_8c36e_10 : decode cJ3_checkFromToIndex_8c36e 10 = .ok (.iload_n 2, 1) := by decide +kernel
theorem dJ3_checkFromToIndex_8c36e_11 : decode cJ3_checkFromToIndex_8c36e 11 = .ok (.if_icmp .le 11, 3) := by decide +kernel
theorem dJ3_checkFromToIndex_8c36e_14 : decode cJ3_checkFromToIndex_8c36e 14 = .ok (.aload_n 3, 1) := by decide +kernel
theorem dJ3_checkFromToIndex_8c36e_15 : decode cJ3_checkFromToIndex_8c36e 15 = .ok (.iload_n 0, 1) := by decide +kernel
theorem dJ3_checkFromToIndex_8c36e_16 : decode cJ3_checkFromToIndex_8c36e 16 = .ok (.iload_n 1, 1) := by decide +kernel
theorem dJ3_checkFromToIndex_8c36e_17 : decode cJ3_checkFromToIndex_8c36e 17 = .ok (.iload_n 2, 1) := by decide +kernel
theorem dJ3_checkFromToIndex_8c36e_18 : decode cJ3_checkFromToIndex_8c36e 18 = .ok (.invokestatic 99, 3) := by decide +kernel
theorem dJ3_checkFromToIndex_8c36e_21 : decode cJ3_checkFromToIndex_8c36e 21 = .ok (.athrow, 1) := by decide +kernel
theorem dJ3_checkFromToIndex_8c36e_22 : decode cJ3_checkFromToIndex_8c36e 22 = .ok (.iload_n 0, 1) := by decide +kernel
theorem dJ3_checkFromToIndex_8c36e_23 : decode cJ3_checkFromToIndex_8c36e 23 = .ok (.ireturn, 1) := by decide +kernel
theorem dL_law_0 : decode cL_law 0 = .ok (.new 7, 3) := by decide +kernel
theorem dL_law_3 : decode cL_law 3 = .ok (.dup, 1) := by decide +kernel
theorem dL_law_4 : decode cL_law 4 = .ok (.invokespecial 9, 3) := by decide +kernel
theorem dL_law_7 : decode cL_law 7 = .ok (.astore_n 1, 1) := by decide +kernel
theorem dL_law_8 : decode cL_law 8 = .ok (.new 10, 3) := by decide +kernel
theorem dL_law_11 : decode cL_law 11 = .ok (.dup, 1) := by decide +kernel
theorem dL_law_12 : decode cL_law 12 = .ok (.invokespecial 12, 3) := by decide +kernel
theorem dL_law_15 : decode cL_law 15 = .ok (.astore_n 2, 1) := by decide +kernel
theorem dL_law_16 : decode cL_law 16 = .ok (.iconst 0, 1) := by decide +kernel
theorem dL_law_17 : decode cL_law 17 = .ok (.istore_n 3, 1) := by decide +kernel
theorem dL_law_18 : decode cL_law 18 = .ok (.iload_n 3, 1) := by decide +kernel
theorem dL_law_19 : decode cL_law 19 = .ok (.aload_n 0, 1) := by decide +kernel
theorem dL_law_20 : decode cL_law 20 = .ok (.arraylength, 1) := by decide +kernel
theorem dL_law_21 : decode cL_law 21 = .ok (.bipush 6, 2) := by decide +kernel
theorem dL_law_23 : decode cL_law 23 = .ok (.isub, 1) := by decide +kernel
theorem dL_law_24 : decode cL_law 24 = .ok (.if_icmp .gt 1205, 3) := by decide +kernel
theorem dL_law_27 : decode cL_law 27 = .ok (.aload_n 0, 1) := by decide +kernel
theorem dL_law_28 : decode cL_law 28 = .ok (.iload_n 3, 1) := by decide +kernel
theorem dL_law_29 : decode cL_law 29 = .ok (.iaload, 1) := by decide +kernel
theorem dL_law_30 : decode cL_law 30 = .ok (.bipush 63, 2) := by decide +kernel
theorem dL_law_32 : decode cL_law 32 = .ok (.iand, 1) := by decide +kernel
theorem dL_law_33 : decode cL_law 33 = .ok (.tableswitch 1190 0 38 #[171, 194, 207, 240, 263, 296, 329, 362, 385, 408, 451, 474, 507, 540, 563, 576, 599, 632, 665, 688, 711, 734, 767, 780, 803, 826, 839, 862, 885, 928, 992, 1016, 1049, 1072, 1085, 1098, 1141, 1154, 1167], 171) := by decide +kernel
theorem dL_law_204 : decode cL_law 204 = .ok (.aload_n 1, 1) := by decide +kernel
theorem dL_law_205 : decode cL_law 205 = .ok (.aload_n 0, 1) := by decide +kernel
theorem dL_law_206 : decode cL_law 206 = .ok (.iload_n 3, 1) := by decide +kernel
theorem dL_law_207 : decode cL_law 207 = .ok (.iconst 1, 1) := by decide +kernel
theorem dL_law_208 : decode cL_law 208 = .ok (.iadd, 1) := by decide +kernel
theorem dL_law_209 : decode cL_law 209 = .ok (.iaload, 1) := by decide +kernel
theorem dL_law_210 : decode cL_law 210 = .ok (.invokevirtual 13, 3) := by decide +kernel
theorem dL_law_213 : decode cL_law 213 = .ok (.aload_n 2, 1) := by decide +kernel
theorem dL_law_214 : decode cL_law 214 = .ok (.aload_n 0, 1) := by decide +kernel
theorem dL_law_215 : decode cL_law 215 = .ok (.iload_n 3, 1) := by decide +kernel
theorem dL_law_216 : decode cL_law 216 = .ok (.iconst 1, 1) := by decide +kernel
theorem dL_law_217 : decode cL_law 217 = .ok (.iadd, 1) := by decide +kernel
theorem dL_law_218 : decode cL_law 218 = .ok (.iaload, 1) := by decide +kernel
theorem dL_law_219 : decode cL_law 219 = .ok (.invokevirtual 17, 3) := by decide +kernel
theorem dL_law_222 : decode cL_law 222 = .ok (.if_icmp .eq 1001, 3) := by decide +kernel
theorem dL_law_225 : decode cL_law 225 = .ok (.iconst 0, 1) := by decide +kernel
theorem dL_law_226 : decode cL_law 226 = .ok (.ireturn, 1) := by decide +kernel
theorem dL_law_227 : decode cL_law 227 = .ok (.aload_n 1, 1) := by decide +kernel
theorem dL_law_228 : decode cL_law 228 = .ok (.invokevirtual 18, 3) := by decide +kernel
theorem dL_law_231 : decode cL_law 231 = .ok (.aload_n 2, 1) := by decide +kernel
theorem dL_law_232 : decode cL_law 232 = .ok (.invokevirtual 22, 3) := by decide +kernel
theorem dL_law_235 : decode cL_law 235 = .ok (.if_icmp .eq 988, 3) := by decide +kernel
theorem dL_law_238 : decode cL_law 238 = .ok (.iconst 0, 1) := by decide +kernel
theorem dL_law_239 : decode cL_law 239 = .ok (.ireturn, 1) := by decide +kernel
theorem dL_law_240 : decode cL_law 240 = .ok (.aload_n 1, 1) := by decide +kernel
theorem dL_law_241 : decode cL_law 241 = .ok (.aload_n 0, 1) := by decide +kernel
theorem dL_law_242 : decode cL_law 242 = .ok (.iload_n 3, 1) := by decide +kernel
theorem dL_law_243 : decode cL_law 243 = .ok (.iconst 1, 1) := by decide +kernel
theorem dL_law_244 : decode cL_law 244 = .ok (.iadd, 1) := by decide +kernel
theorem dL_law_245 : decode cL_law 245 = .ok (.iaload, 1) := by decide +kernel
theorem dL_law_246 : decode cL_law 246 = .ok (.aload_n 0, 1) := by decide +kernel
theorem dL_law_247 : decode cL_law 247 = .ok (.iload_n 3, 1) := by decide +kernel
theorem dL_law_248 : decode cL_law 248 = .ok (.iconst 2, 1) := by decide +kernel
theorem dL_law_249 : decode cL_law 249 = .ok (.iadd, 1) := by decide +kernel
theorem dL_law_250 : decode cL_law 250 = .ok (.iaload, 1) := by decide +kernel
theorem dL_law_251 : decode cL_law 251 = .ok (.invokevirtual 23, 3) := by decide +kernel
theorem dL_law_254 : decode cL_law 254 = .ok (.aload_n 2, 1) := by decide +kernel
theorem dL_law_255 : decode cL_law 255 = .ok (.aload_n 0, 1) := by decide +kernel
theorem dL_law_256 : decode cL_law 256 = .ok (.iload_n 3, 1) := by decide +kernel
theorem dL_law_257 : decode cL_law 257 = .ok (.iconst 1, 1) := by decide +kernel
theorem dL_law_258 : decode cL_law 258 = .ok (.iadd, 1) := by decide +kernel
theorem dL_law_259 : decode cL_law 259 = .ok (.iaload, 1) := by decide +kernel
theorem dL_law_260 : decode cL_law 260 = .ok (.aload_n 0, 1) := by decide +kernel
theorem dL_law_261 : decode cL_law 261 = .ok (.iload_n 3, 1) := by decide +kernel
theorem dL_law_262 : decode cL_law 262 = .ok (.iconst 2, 1) := by decide +kernel
theorem dL_law_263 : decode cL_law 263 = .ok (.iadd, 1) := by decide +kernel
theorem dL_law_264 : decode cL_law 264 = .ok (.iaload, 1) := by decide +kernel
theorem dL_law_265 : decode cL_law 265 = .ok (.invokevirtual 27, 3) := by decide +kernel
theorem dL_law_268 : decode cL_law 268 = .ok (.if_icmp .eq 955, 3) := by decide +kernel
theorem dL_law_271 : decode cL_law 271 = .ok (.iconst 0, 1) := by decide +kernel
theorem dL_law_272 : decode cL_law 272 = .ok (.ireturn, 1) := by decide +kernel
theorem dL_law_273 : decode cL_law 273 = .ok (.aload_n 1, 1) := by decide +kernel
theorem dL_law_274 : decode cL_law 274 = .ok (.aload_n 0, 1) := by decide +kernel
theorem dL_law_275 : decode cL_law 275 = .ok (.iload_n 3, 1) := by decide +kernel
theorem dL_law_276 : decode cL_law 276 = .ok (.iconst 1, 1) := by decide +kernel
theorem dL_law_277 : decode cL_law 277 = .ok (.iadd, 1) := by decide +kernel
theorem dL_law_278 : decode cL_law 278 = .ok (.iaload, 1) := by decide +kernel
theorem dL_law_279 : decode cL_law 279 = .ok (.invokevirtual 28, 3) := by decide +kernel
theorem dL_law_282 : decode cL_law 282 = .ok (.aload_n 2, 1) := by decide +kernel
theorem dL_law_283 : decode cL_law 283 = .ok (.aload_n 0, 1) := by decide +kernel
theorem dL_law_284 : decode cL_law 284 = .ok (.iload_n 3, 1) := by decide +kernel
theorem dL_law_285 : decode cL_law 285 = .ok (.iconst 1, 1) := by decide +kernel
theorem dL_law_286 : decode cL_law 286 = .ok (.iadd, 1) := by decide +kernel
theorem dL_law_287 : decode cL_law 287 = .ok (.iaload, 1) := by decide +kernel
theorem dL_law_288 : decode cL_law 288 = .ok (.invokevirtual 31, 3) := by decide +kernel
theorem dL_law_291 : decode cL_law 291 = .ok (.if_icmp .eq 932, 3) := by decide +kernel
theorem dL_law_294 : decode cL_law 294 = .ok (.iconst 0, 1) := by decide +kernel
theorem dL_law_295 : decode cL_law 295 = .ok (.ireturn, 1) := by decide +kernel
theorem dL_law_296 : decode cL_law 296 = .ok (.aload_n 1, 1) := by decide +kernel
theorem dL_law_297 : decode cL_law 297 = .ok (.aload_n 0, 1) := by decide +kernel
theorem dL_law_298 : decode cL_law 298 = .ok (.iload_n 3, 1) := by decide +kernel
theorem dL_law_299 : decode cL_law 299 = .ok (.iconst 1, 1) := by decide +kernel
theorem dL_law_300 : decode cL_law 300 = .ok (.iadd, 1) := by decide +kernel
theorem dL_law_301 : decode cL_law 301 = .ok (.iaload, 1) := by decide +kernel
theorem dL_law_302 : decode cL_law 302 = .ok (.aload_n 0, 1) := by decide +kernel
theorem dL_law_303 : decode cL_law 303 = .ok (.iload_n 3, 1) := by decide +kernel
theorem dL_law_304 : decode cL_law 304 = .ok (.iconst 2, 1) := by decide +kernel
theorem dL_law_305 : decode cL_law 305 = .ok (.iadd, 1) := by decide +kernel
theorem dL_law_306 : decode cL_law 306 = .ok (.iaload, 1) := by decide +kernel
theorem dL_law_307 : decode cL_law 307 = .ok (.invokevirtual 32, 3) := by decide +kernel
theorem dL_law_310 : decode cL_law 310 = .ok (.aload_n 2, 1) := by decide +kernel
theorem dL_law_311 : decode cL_law 311 = .ok (.aload_n 0, 1) := by decide +kernel
theorem dL_law_312 : decode cL_law 312 = .ok (.iload_n 3, 1) := by decide +kernel
theorem dL_law_313 : decode cL_law 313 = .ok (.iconst 1, 1) := by decide +kernel
theorem dL_law_314 : decode cL_law 314 = .ok (.iadd, 1) := by decide +kernel
theorem dL_law_315 : decode cL_law 315 = .ok (.iaload, 1) := by decide +kernel
theorem dL_law_316 : decode cL_law 316 = .ok (.aload_n 0, 1) := by decide +kernel
theorem dL_law_317 : decode cL_law 317 = .ok (.iload_n 3, 1) := by decide +kernel
theorem dL_law_318 : decode cL_law 318 = .ok (.iconst 2, 1) := by decide +kernel
theorem dL_law_319 : decode cL_law 319 = .ok (.iadd, 1) := by decide +kernel
theorem dL_law_320 : decode cL_law 320 = .ok (.iaload, 1) := by decide +kernel
theorem dL_law_321 : decode cL_law 321 = .ok (.invokevirtual 35, 3) := by decide +kernel
theorem dL_law_324 : decode cL_law 324 = .ok (.if_icmp .eq 899, 3) := by decide +kernel
theorem dL_law_327 : decode cL_law 327 = .ok (.iconst 0, 1) := by decide +kernel
theorem dL_law_328 : decode cL_law 328 = .ok (.ireturn, 1) := by decide +kernel
theorem dL_law_329 : decode cL_law 329 = .ok (.aload_n 1, 1) := by decide +kernel
theorem dL_law_330 : decode cL_law 330 = .ok (.aload_n 0, 1) := by decide +kernel
theorem dL_law_331 : decode cL_law 331 = .ok (.iload_n 3, 1) := by decide +kernel
theorem dL_law_332 : decode cL_law 332 = .ok (.iconst 1, 1) := by decide +kernel
theorem dL_law_333 : decode cL_law 333 = .ok (.iadd, 1) := by decide +kernel
theorem dL_law_334 : decode cL_law 334 = .ok (.iaload, 1) := by decide +kernel
theorem dL_law_335 : decode cL_law 335 = .ok (.aload_n 0, 1) := by decide +kernel
theorem dL_law_336 : decode cL_law 336 = .ok (.iload_n 3, 1) := by decide +kernel
theorem dL_law_337 : decode cL_law 337 = .ok (.iconst 2, 1) := by decide +kernel
theorem dL_law_338 : decode cL_law 338 = .ok (.iadd, 1) := by decide +kernel
theorem dL_law_339 : decode cL_law 339 = .ok (.iaload, 1) := by decide +kernel
theorem dL_law_340 : decode cL_law 340 = .ok (.invokevirtual 36, 3) := by decide +kernel
theorem dL_law_343 : decode cL_law 343 = .ok (.aload_n 2, 1) := by decide +kernel
theorem dL_law_344 : decode cL_law 344 = .ok (.aload_n 0, 1) := by decide +kernel
theorem dL_law_345 : decode cL_law 345 = .ok (.iload_n 3, 1) := by decide +kernel
theorem dL_law_346 : decode cL_law 346 = .ok (.iconst 1, 1) := by decide +kernel
theorem dL_law_347 : decode cL_law 347 = .ok (.iadd, 1) := by decide +kernel
theorem dL_law_348 : decode cL_law 348 = .ok (.iaload, 1) := by decide +kernel
theorem dL_law_349 : decode cL_law 349 = .ok (.aload_n 0, 1) := by decide +kernel
theorem dL_law_350 : decode cL_law 350 = .ok (.iload_n 3, 1) := by decide +kernel
theorem dL_law_351 : decode cL_law 351 = .ok (.iconst 2, 1) := by decide +kernel
theorem dL_law_352 : decode cL_law 352 = .ok (.iadd, 1) := by decide +kernel
theorem dL_law_353 : decode cL_law 353 = .ok (.iaload, 1) := by decide +kernel
theorem dL_law_354 : decode cL_law 354 = .ok (.invokevirtual 39, 3) := by decide +kernel
theorem dL_law_357 : decode cL_law 357 = .ok (.if_icmp .eq 866, 3) := by decide +kernel
theorem dL_law_360 : decode cL_law 360 = .ok (.iconst 0, 1) := by decide +kernel
theorem dL_law_361 : decode cL_law 361 = .ok (.ireturn, 1) := by decide +kernel
theorem dL_law_362 : decode cL_law 362 = .ok (.aload_n 1, 1) := by decide +kernel
theorem dL_law_363 : decode cL_law 363 = .ok (.aload_n 0, 1) := by decide +kernel
theorem dL_law_364 : decode cL_law 364 = .ok (.iload_n 3, 1) := by decide +kernel
theorem dL_law_365 : decode cL_law 365 = .ok (.iconst 1, 1) := by decide +kernel
theorem dL_law_366 : decode cL_law 366 = .ok (.iadd, 1) := by decide +kernel
theorem dL_law_367 : decode cL_law 367 = .ok (.iaload, 1) := by decide +kernel
theorem dL_law_368 : decode cL_law 368 = .ok (.aload_n 0, 1) := by decide +kernel
theorem dL_law_369 : decode cL_law 369 = .ok (.iload_n 3, 1) := by decide +kernel
theorem dL_law_370 : decode cL_law 370 = .ok (.iconst 2, 1) := by decide +kernel
theorem dL_law_371 : decode cL_law 371 = .ok (.iadd, 1) := by decide +kernel
theorem dL_law_372 : decode cL_law 372 = .ok (.iaload, 1) := by decide +kernel
theorem dL_law_373 : decode cL_law 373 = .ok (.invokevirtual 40, 3) := by decide +kernel
theorem dL_law_376 : decode cL_law 376 = .ok (.aload_n 2, 1) := by decide +kernel
theorem dL_law_377 : decode cL_law 377 = .ok (.aload_n 0, 1) := by decide +kernel
theorem dL_law_378 : decode cL_law 378 = .ok (.iload_n 3, 1) := by decide +kernel
theorem dL_law_379 : decode cL_law 379 = .ok (.iconst 1, 1) := by decide +kernel
theorem dL_law_380 : decode cL_law 380 = .ok (.iadd, 1) := by decide +kernel
theorem dL_law_381 : decode cL_law 381 = .ok (.iaload, 1) := by decide +kernel
theorem dL_law_382 : decode cL_law 382 = .ok (.aload_n 0, 1) := by decide +kernel
theorem dL_law_383 : decode cL_law 383 = .ok (.iload_n 3, 1) := by decide +kernel
theorem dL_law_384 : decode cL_law 384 = .ok (.iconst 2, 1) := by decide +kernel
theorem dL_law_385 : decode cL_law 385 = .ok (.iadd, 1) := by decide +kernel
theorem dL_law_386 : decode cL_law 386 = .ok (.iaload, 1) := by decide +kernel
theorem dL_law_387 : decode cL_law 387 = .ok (.invokevirtual 43, 3) := by decide +kernel
theorem dL_law_390 : decode cL_law 390 = .ok (.if_icmp .eq 833, 3) := by decide +kernel
theorem dL_law_393 : decode cL_law 393 = .ok (.iconst 0, 1) := by decide +kernel
theorem dL_law_394 : decode cL_law 394 = .ok (.ireturn, 1) := by decide +kernel
theorem dL_law_395 : decode cL_law 395 = .ok (.aload_n 1, 1) := by decide +kernel
theorem dL_law_396 : decode cL_law 396 = .ok (.aload_n 0, 1) := by decide +kernel
theorem dL_law_397 : decode cL_law 397 = .ok (.iload_n 3, 1) := by decide +kernel
theorem dL_law_398 : decode cL_law 398 = .ok (.iconst 1, 1) := by decide +kernel
theorem dL_law_399 : decode cL_law 399 = .ok (.iadd, 1) := by decide +kernel
theorem dL_law_400 : decode cL_law 400 = .ok (.iaload, 1) := by decide +kernel
theorem dL_law_401 : decode cL_law 401 = .ok (.invokevirtual 44, 3) := by decide +kernel
theorem dL_law_404 : decode cL_law 404 = .ok (.aload_n 2, 1) := by decide +kernel
theorem dL_law_405 : decode cL_law 405 = .ok (.aload_n 0, 1) := by decide +kernel
theorem dL_law_406 : decode cL_law 406 = .ok (.iload_n 3, 1) := by decide +kernel
theorem dL_law_407 : decode cL_law 407 = .ok (.iconst 1, 1) := by decide +kernel
theorem dL_law_408 : decode cL_law 408 = .ok (.iadd, 1) := by decide +kernel
theorem dL_law_409 : decode cL_law 409 = .ok (.iaload, 1) := by decide +kernel
theorem dL_law_410 : decode cL_law 410 = .ok (.invokevirtual 47, 3) := by decide +kernel
theorem dL_law_413 : decode cL_law 413 = .ok (.if_icmp .eq 810, 3) := by decide +kernel
theorem dL_law_416 : decode cL_law 416 = .ok (.iconst 0, 1) := by decide +kernel
theorem dL_law_417 : decode cL_law 417 = .ok (.ireturn, 1) := by decide +kernel
theorem dL_law_418 : decode cL_law 418 = .ok (.aload_n 1, 1) := by decide +kernel
theorem dL_law_419 : decode cL_law 419 = .ok (.aload_n 0, 1) := by decide +kernel
theorem dL_law_420 : decode cL_law 420 = .ok (.iload_n 3, 1) := by decide +kernel
theorem dL_law_421 : decode cL_law 421 = .ok (.iconst 1, 1) := by decide +kernel
theorem dL_law_422 : decode cL_law 422 = .ok (.iadd, 1) := by decide +kernel
theorem dL_law_423 : decode cL_law 423 = .ok (.iaload, 1) := by decide +kernel
theorem dL_law_424 : decode cL_law 424 = .ok (.invokevirtual 48, 3) := by decide +kernel
theorem dL_law_427 : decode cL_law 427 = .ok (.aload_n 2, 1) := by decide +kernel
theorem dL_law_428 : decode cL_law 428 = .ok (.aload_n 0, 1) := by decide +kernel
theorem dL_law_429 : decode cL_law 429 = .ok (.iload_n 3, 1) := by decide +kernel
theorem dL_law_430 : decode cL_law 430 = .ok (.iconst 1, 1) := by decide +kernel
theorem dL_law_431 : decode cL_law 431 = .ok (.iadd, 1) := by decide +kernel
theorem dL_law_432 : decode cL_law 432 = .ok (.iaload, 1) := by decide +kernel
theorem dL_law_433 : decode cL_law 433 = .ok (.invokevirtual 51, 3) := by decide +kernel
theorem dL_law_436 : decode cL_law 436 = .ok (.if_icmp .eq 787, 3) := by decide +kernel
theorem dL_law_439 : decode cL_law 439 = .ok (.iconst 0, 1) := by decide +kernel
theorem dL_law_440 : decode cL_law 440 = .ok (.ireturn, 1) := by decide +kernel
theorem dL_law_441 : decode cL_law 441 = .ok (.aload_n 1, 1) := by decide +kernel
theorem dL_law_442 : decode cL_law 442 = .ok (.aload_n 0, 1) := by decide +kernel
theorem dL_law_443 : decode cL_law 443 = .ok (.iload_n 3, 1) := by decide +kernel
theorem dL_law_444 : decode cL_law 444 = .ok (.iconst 1, 1) := by decide +kernel
theorem dL_law_445 : decode cL_law 445 = .ok (.iadd, 1) := by decide +kernel
theorem dL_law_446 : decode cL_law 446 = .ok (.iaload, 1) := by decide +kernel
theorem dL_law_447 : decode cL_law 447 = .ok (.aload_n 0, 1) := by decide +kernel
theorem dL_law_448 : decode cL_law 448 = .ok (.iload_n 3, 1) := by decide +kernel
theorem dL_law_449 : decode cL_law 449 = .ok (.iconst 2, 1) := by decide +kernel
theorem dL_law_450 : decode cL_law 450 = .ok (.iadd, 1) := by decide +kernel
theorem dL_law_451 : decode cL_law 451 = .ok (.iaload, 1) := by decide +kernel
theorem dL_law_452 : decode cL_law 452 = .ok (.aload_n 0, 1) := by decide +kernel
theorem dL_law_453 : decode cL_law 453 = .ok (.iload_n 3, 1) := by decide +kernel
theorem dL_law_454 : decode cL_law 454 = .ok (.iconst 3, 1) := by decide +kernel
theorem dL_law_455 : decode cL_law 455 = .ok (.iadd, 1) := by decide +kernel
theorem dL_law_456 : decode cL_law 456 = .ok (.iaload, 1) := by decide +kernel
theorem dL_law_457 : decode cL_law 457 = .ok (.invokevirtual 52, 3) := by decide +kernel
theorem dL_law_460 : decode cL_law 460 = .ok (.aload_n 2, 1) := by decide +kernel
theorem dL_law_461 : decode cL_law 461 = .ok (.aload_n 0, 1) := by decide +kernel
theorem dL_law_462 : decode cL_law 462 = .ok (.iload_n 3, 1) := by decide +kernel
theorem dL_law_463 : decode cL_law 463 = .ok (.iconst 1, 1) := by decide +kernel
theorem dL_law_464 : decode cL_law 464 = .ok (.iadd, 1) := by decide +kernel
theorem dL_law_465 : decode cL_law 465 = .ok (.iaload, 1) := by decide +kernel
theorem dL_law_466 : decode cL_law 466 = .ok (.aload_n 0, 1) := by decide +kernel
theorem dL_law_467 : decode cL_law 467 = .ok (.iload_n 3, 1) := by decide +kernel
theorem dL_law_468 : decode cL_law 468 = .ok (.iconst 2, 1) := by decide +kernel
theorem dL_law_469 : decode cL_law 469 = .ok (.iadd, 1) := by decide +kernel
theorem dL_law_470 : decode cL_law 470 = .ok (.iaload, 1) := by decide +kernel
theorem dL_law_471 : decode cL_law 471 = .ok (.aload_n 0, 1) := by decide +kernel
theorem dL_law_472 : decode cL_law 472 = .ok (.iload_n 3, 1) := by decide +kernel
theorem dL_law_473 : decode cL_law 473 = .ok (.iconst 3, 1) := by decide +kernel
theorem dL_law_474 : decode cL_law 474 = .ok (.iadd, 1) := by decide +kernel
theorem dL_law_475 : decode cL_law 475 = .ok (.iaload, 1) := by decide +kernel
theorem dL_law_476 : decode cL_law 476 = .ok (.invokevirtual 56, 3) := by decide +kernel
theorem dL_law_479 : decode cL_law 479 = .ok (.if_icmp .eq 744, 3) := by decide +kernel
theorem dL_law_482 : decode cL_law 482 = .ok (.iconst 0, 1) := by decide +kernel
theorem dL_law_483 : decode cL_law 483 = .ok (.ireturn, 1) := by decide +kernel
theorem dL_law_484 : decode cL_law 484 = .ok (.aload_n 1, 1) := by decide +kernel
theorem dL_law_485 : decode cL_law 485 = .ok (.aload_n 0, 1) := by decide +kernel
theorem dL_law_486 : decode cL_law 486 = .ok (.iload_n 3, 1) := by decide +kernel
theorem dL_law_487 : decode cL_law 487 = .ok (.iconst 1, 1) := by decide +kernel
theorem dL_law_488 : decode cL_law 488 = .ok (.iadd, 1) := by decide +kernel
theorem dL_law_489 : decode cL_law 489 = .ok (.iaload, 1) := by decide +kernel
theorem dL_law_490 : decode cL_law 490 = .ok (.invokevirtual 57, 3) := by decide +kernel
theorem dL_law_493 : decode cL_law 493 = .ok (.aload_n 2, 1) := by decide +kernel
theorem dL_law_494 : decode cL_law 494 = .ok (.aload_n 0, 1) := by decide +kernel
theorem dL_law_495 : decode cL_law 495 = .ok (.iload_n 3, 1) := by decide +kernel
theorem dL_law_496 : decode cL_law 496 = .ok (.iconst 1, 1) := by decide +kernel
theorem dL_law_497 : decode cL_law 497 = .ok (.iadd, 1) := by decide +kernel
theorem dL_law_498 : decode cL_law 498 = .ok (.iaload, 1) := by decide +kernel
theorem dL_law_499 : decode cL_law 499 = .ok (.invokevirtual 60, 3) := by decide +kernel
theorem dL_law_502 : decode cL_law 502 = .ok (.if_icmp .eq 721, 3) := by decide +kernel
theorem dL_law_505 : decode cL_law 505 = .ok (.iconst 0, 1) := by decide +kernel
theorem dL_law_506 : decode cL_law 506 = .ok (.ireturn, 1) := by decide +kernel
theorem dL_law_507 : decode cL_law 507 = .ok (.aload_n 1, 1) := by decide +kernel
theorem dL_law_508 : decode cL_law 508 = .ok (.aload_n 0, 1) := by decide +kernel
theorem dL_law_509 : decode cL_law 509 = .ok (.iload_n 3, 1) := by decide +kernel
theorem dL_law_510 : decode cL_law 510 = .ok (.iconst 1, 1) := by decide +kernel
theorem dL_law_511 : decode cL_law 511 = .ok (.iadd, 1) := by decide +kernel
theorem dL_law_512 : decode cL_law 512 = .ok (.iaload, 1) := by decide +kernel
theorem dL_law_513 : decode cL_law 513 = .ok (.aload_n 0, 1) := by decide +kernel
theorem dL_law_514 : decode cL_law 514 = .ok (.iload_n 3, 1) := by decide +kernel
theorem dL_law_515 : decode cL_law 515 = .ok (.iconst 2, 1) := by decide +kernel
theorem dL_law_516 : decode cL_law 516 = .ok (.iadd, 1) := by decide +kernel
theorem dL_law_517 : decode cL_law 517 = .ok (.iaload, 1) := by decide +kernel
theorem dL_law_518 : decode cL_law 518 = .ok (.invokevirtual 61, 3) := by decide +kernel
theorem dL_law_521 : decode cL_law 521 = .ok (.aload_n 2, 1) := by decide +kernel
theorem dL_law_522 : decode cL_law 522 = .ok (.aload_n 0, 1) := by decide +kernel
theorem dL_law_523 : decode cL_law 523 = .ok (.iload_n 3, 1) := by decide +kernel
theorem dL_law_524 : decode cL_law 524 = .ok (.iconst 1, 1) := by decide +kernel
theorem dL_law_525 : decode cL_law 525 = .ok (.iadd, 1) := by decide +kernel
theorem dL_law_526 : decode cL_law 526 = .ok (.iaload, 1) := by decide +kernel
theorem dL_law_527 : decode cL_law 527 = .ok (.aload_n 0, 1) := by decide +kernel
theorem dL_law_528 : decode cL_law 528 = .ok (.iload_n 3, 1) := by decide +kernel
theorem dL_law_529 : decode cL_law 529 = .ok (.iconst 2, 1) := by decide +kernel
theorem dL_law_530 : decode cL_law 530 = .ok (.iadd, 1) := by decide +kernel
theorem dL_law_531 : decode cL_law 531 = .ok (.iaload, 1) := by decide +kernel
theorem dL_law_532 : decode cL_law 532 = .ok (.invokevirtual 64, 3) := by decide +kernel
theorem dL_law_535 : decode cL_law 535 = .ok (.if_icmp .eq 688, 3) := by decide +kernel
theorem dL_law_538 : decode cL_law 538 = .ok (.iconst 0, 1) := by decide +kernel
theorem dL_law_539 : decode cL_law 539 = .ok (.ireturn, 1) := by decide +kernel
theorem dL_law_540 : decode cL_law 540 = .ok (.aload_n 1, 1) := by decide +kernel
theorem dL_law_541 : decode cL_law 541 = .ok (.aload_n 0, 1) := by decide +kernel
theorem dL_law_542 : decode cL_law 542 = .ok (.iload_n 3, 1) := by decide +kernel
theorem dL_law_543 : decode cL_law 543 = .ok (.iconst 1, 1) := by decide +kernel
theorem dL_law_544 : decode cL_law 544 = .ok (.iadd, 1) := by decide +kernel
theorem dL_law_545 : decode cL_law 545 = .ok (.iaload, 1) := by decide +kernel
theorem dL_law_546 : decode cL_law 546 = .ok (.aload_n 0, 1) := by decide +kernel
theorem dL_law_547 : decode cL_law 547 = .ok (.iload_n 3, 1) := by decide +kernel
theorem dL_law_548 : decode cL_law 548 = .ok (.iconst 2, 1) := by decide +kernel
theorem dL_law_549 : decode cL_law 549 = .ok (.iadd, 1) := by decide +kernel
theorem dL_law_550 : decode cL_law 550 = .ok (.iaload, 1) := by decide +kernel
theorem dL_law_551 : decode cL_law 551 = .ok (.invokevirtual 65, 3) := by decide +kernel
theorem dL_law_554 : decode cL_law 554 = .ok (.aload_n 2, 1) := by decide +kernel
theorem dL_law_555 : decode cL_law 555 = .ok (.aload_n 0, 1) := by decide +kernel
theorem dL_law_556 : decode cL_law 556 = .ok (.iload_n 3, 1) := by decide +kernel
theorem dL_law_557 : decode cL_law 557 = .ok (.iconst 1, 1) := by decide +kernel
theorem dL_law_558 : decode cL_law 558 = .ok (.iadd, 1) := by decide +kernel
theorem dL_law_559 : decode cL_law 559 = .ok (.iaload, 1) := by decide +kernel
theorem dL_law_560 : decode cL_law 560 = .ok (.aload_n 0, 1) := by decide +kernel
theorem dL_law_561 : decode cL_law 561 = .ok (.iload_n 3, 1) := by decide +kernel
theorem dL_law_562 : decode cL_law 562 = .ok (.iconst 2, 1) := by decide +kernel
theorem dL_law_563 : decode cL_law 563 = .ok (.iadd, 1) := by decide +kernel
theorem dL_law_564 : decode cL_law 564 = .ok (.iaload, 1) := by decide +kernel
theorem dL_law_565 : decode cL_law 565 = .ok (.invokevirtual 68, 3) := by decide +kernel
theorem dL_law_568 : decode cL_law 568 = .ok (.if_icmp .eq 655, 3) := by decide +kernel
theorem dL_law_571 : decode cL_law 571 = .ok (.iconst 0, 1) := by decide +kernel
theorem dL_law_572 : decode cL_law 572 = .ok (.ireturn, 1) := by decide +kernel
theorem dL_law_573 : decode cL_law 573 = .ok (.aload_n 1, 1) := by decide +kernel
theorem dL_law_574 : decode cL_law 574 = .ok (.aload_n 0, 1) := by decide +kernel
theorem dL_law_575 : decode cL_law 575 = .ok (.iload_n 3, 1) := by decide +kernel
theorem dL_law_576 : decode cL_law 576 = .ok (.iconst 1, 1) := by decide +kernel
theorem dL_law_577 : decode cL_law 577 = .ok (.iadd, 1) := by decide +kernel
theorem dL_law_578 : decode cL_law 578 = .ok (.iaload, 1) := by decide +kernel
theorem dL_law_579 : decode cL_law 579 = .ok (.invokevirtual 69, 3) := by decide +kernel
theorem dL_law_582 : decode cL_law 582 = .ok (.aload_n 2, 1) := by decide +kernel
theorem dL_law_583 : decode cL_law 583 = .ok (.aload_n 0, 1) := by decide +kernel
theorem dL_law_584 : decode cL_law 584 = .ok (.iload_n 3, 1) := by decide +kernel
theorem dL_law_585 : decode cL_law 585 = .ok (.iconst 1, 1) := by decide +kernel
theorem dL_law_586 : decode cL_law 586 = .ok (.iadd, 1) := by decide +kernel
theorem dL_law_587 : decode cL_law 587 = .ok (.iaload, 1) := by decide +kernel
theorem dL_law_588 : decode cL_law 588 = .ok (.invokevirtual 72, 3) := by decide +kernel
theorem dL_law_591 : decode cL_law 591 = .ok (.if_icmp .eq 632, 3) := by decide +kernel
theorem dL_law_594 : decode cL_law 594 = .ok (.iconst 0, 1) := by decide +kernel
theorem dL_law_595 : decode cL_law 595 = .ok (.ireturn, 1) := by decide +kernel
theorem dL_law_596 : decode cL_law 596 = .ok (.aload_n 1, 1) := by decide +kernel
theorem dL_law_597 : decode cL_law 597 = .ok (.invokevirtual 73, 3) := by decide +kernel
theorem dL_law_600 : decode cL_law 600 = .ok (.aload_n 2, 1) := by decide +kernel
theorem dL_law_601 : decode cL_law 601 = .ok (.invokevirtual 76, 3) := by decide +kernel
theorem dL_law_604 : decode cL_law 604 = .ok (.if_icmp .eq 619, 3) := by decide +kernel
theorem dL_law_607 : decode cL_law 607 = .ok (.iconst 0, 1) := by decide +kernel
theorem dL_law_608 : decode cL_law 608 = .ok (.ireturn, 1) := by decide +kernel
theorem dL_law_609 : decode cL_law 609 = .ok (.aload_n 1, 1) := by decide +kernel
theorem dL_law_610 : decode cL_law 610 = .ok (.aload_n 0, 1) := by decide +kernel
theorem dL_law_611 : decode cL_law 611 = .ok (.iload_n 3, 1) := by decide +kernel
theorem dL_law_612 : decode cL_law 612 = .ok (.iconst 1, 1) := by decide +kernel
theorem dL_law_613 : decode cL_law 613 = .ok (.iadd, 1) := by decide +kernel
theorem dL_law_614 : decode cL_law 614 = .ok (.iaload, 1) := by decide +kernel
theorem dL_law_615 : decode cL_law 615 = .ok (.invokevirtual 77, 3) := by decide +kernel
theorem dL_law_618 : decode cL_law 618 = .ok (.aload_n 2, 1) := by decide +kernel
theorem dL_law_619 : decode cL_law 619 = .ok (.aload_n 0, 1) := by decide +kernel
theorem dL_law_620 : decode cL_law 620 = .ok (.iload_n 3, 1) := by decide +kernel
theorem dL_law_621 : decode cL_law 621 = .ok (.iconst 1, 1) := by decide +kernel
theorem dL_law_622 : decode cL_law 622 = .ok (.iadd, 1) := by decide +kernel
theorem dL_law_623 : decode cL_law 623 = .ok (.iaload, 1) := by decide +kernel
theorem dL_law_624 : decode cL_law 624 = .ok (.invokevirtual 80, 3) := by decide +kernel
theorem dL_law_627 : decode cL_law 627 = .ok (.if_icmp .eq 596, 3) := by decide +kernel
theorem dL_law_630 : decode cL_law 630 = .ok (.iconst 0, 1) := by decide +kernel
theorem dL_law_631 : decode cL_law 631 = .ok (.ireturn, 1) := by decide +kernel
theorem dL_law_632 : decode cL_law 632 = .ok (.aload_n 1, 1) := by decide +kernel
theorem dL_law_633 : decode cL_law 633 = .ok (.aload_n 0, 1) := by decide +kernel
theorem dL_law_634 : decode cL_law 634 = .ok (.iload_n 3, 1) := by decide +kernel
theorem dL_law_635 : decode cL_law 635 = .ok (.iconst 1, 1) := by decide +kernel
theorem dL_law_636 : decode cL_law 636 = .ok (.iadd, 1) := by decide +kernel
theorem dL_law_637 : decode cL_law 637 = .ok (.iaload, 1) := by decide +kernel
theorem dL_law_638 : decode cL_law 638 = .ok (.aload_n 0, 1) := by decide +kernel
theorem dL_law_639 : decode cL_law 639 = .ok (.iload_n 3, 1) := by decide +kernel
theorem dL_law_640 : decode cL_law 640 = .ok (.iconst 2, 1) := by decide +kernel
theorem dL_law_641 : decode cL_law 641 = .ok (.iadd, 1) := by decide +kernel
theorem dL_law_642 : decode cL_law 642 = .ok (.iaload, 1) := by decide +kernel
theorem dL_law_643 : decode cL_law 643 = .ok (.invokevirtual 81, 3) := by decide +kernel
theorem dL_law_646 : decode cL_law 646 = .ok (.aload_n 2, 1) := by decide +kernel
theorem dL_law_647 : decode cL_law 647 = .ok (.aload_n 0, 1) := by decide +kernel
theorem dL_law_648 : decode cL_law 648 = .ok (.iload_n 3, 1) := by decide +kernel
theorem dL_law_649 : decode cL_law 649 = .ok (.iconst 1, 1) := by decide +kernel
theorem dL_law_650 : decode cL_law 650 = .ok (.iadd, 1) := by decide +kernel
theorem dL_law_651 : decode cL_law 651 = .ok (.iaload, 1) := by decide +kernel
theorem dL_law_652 : decode cL_law 652 = .ok (.aload_n 0, 1) := by decide +kernel
theorem dL_law_653 : decode cL_law 653 = .ok (.iload_n 3, 1) := by decide +kernel
theorem dL_law_654 : decode cL_law 654 = .ok (.iconst 2, 1) := by decide +kernel
theorem dL_law_655 : decode cL_law 655 = .ok (.iadd, 1) := by decide +kernel
theorem dL_law_656 : decode cL_law 656 = .ok (.iaload, 1) := by decide +kernel
theorem dL_law_657 : decode cL_law 657 = .ok (.invokevirtual 84, 3) := by decide +kernel
theorem dL_law_660 : decode cL_law 660 = .ok (.if_icmp .eq 563, 3) := by decide +kernel
theorem dL_law_663 : decode cL_law 663 = .ok (.iconst 0, 1) := by decide +kernel
theorem dL_law_664 : decode cL_law 664 = .ok (.ireturn, 1) := by decide +kernel
theorem dL_law_665 : decode cL_law 665 = .ok (.aload_n 1, 1) := by decide +kernel
theorem dL_law_666 : decode cL_law 666 = .ok (.aload_n 0, 1) := by decide +kernel
theorem dL_law_667 : decode cL_law 667 = .ok (.iload_n 3, 1) := by decide +kernel
theorem dL_law_668 : decode cL_law 668 = .ok (.iconst 1, 1) := by decide +kernel
theorem dL_law_669 : decode cL_law 669 = .ok (.iadd, 1) := by decide +kernel
theorem dL_law_670 : decode cL_law 670 = .ok (.iaload, 1) := by decide +kernel
theorem dL_law_671 : decode cL_law 671 = .ok (.aload_n 0, 1) := by decide +kernel
theorem dL_law_672 : decode cL_law 672 = .ok (.iload_n 3, 1) := by decide +kernel
theorem dL_law_673 : decode cL_law 673 = .ok (.iconst 2, 1) := by decide +kernel
theorem dL_law_674 : decode cL_law 674 = .ok (.iadd, 1) := by decide +kernel
theorem dL_law_675 : decode cL_law 675 = .ok (.iaload, 1) := by decide +kernel
theorem dL_law_676 : decode cL_law 676 = .ok (.invokevirtual 85, 3) := by decide +kernel
theorem dL_law_679 : decode cL_law 679 = .ok (.aload_n 2, 1) := by decide +kernel
theorem dL_law_680 : decode cL_law 680 = .ok (.aload_n 0, 1) := by decide +kernel
theorem dL_law_681 : decode cL_law 681 = .ok (.iload_n 3, 1) := by decide +kernel
theorem dL_law_682 : decode cL_law 682 = .ok (.iconst 1, 1) := by decide +kernel
theorem dL_law_683 : decode cL_law 683 = .ok (.iadd, 1) := by decide +kernel
theorem dL_law_684 : decode cL_law 684 = .ok (.iaload, 1) := by decide +kernel
theorem dL_law_685 : decode cL_law 685 = .ok (.aload_n 0, 1) := by decide +kernel
theorem dL_law_686 : decode cL_law 686 = .ok (.iload_n 3, 1) := by decide +kernel
theorem dL_law_687 : decode cL_law 687 = .ok (.iconst 2, 1) := by decide +kernel
theorem dL_law_688 : decode cL_law 688 = .ok (.iadd, 1) := by decide +kernel
theorem dL_law_689 : decode cL_law 689 = .ok (.iaload, 1) := by decide +kernel
theorem dL_law_690 : decode cL_law 690 = .ok (.invokevirtual 88, 3) := by decide +kernel
theorem dL_law_693 : decode cL_law 693 = .ok (.if_icmp .eq 530, 3) := by decide +kernel
theorem dL_law_696 : decode cL_law 696 = .ok (.iconst 0, 1) := by decide +kernel
theorem dL_law_697 : decode cL_law 697 = .ok (.ireturn, 1) := by decide +kernel
theorem dL_law_698 : decode cL_law 698 = .ok (.aload_n 1, 1) := by decide +kernel
theorem dL_law_699 : decode cL_law 699 = .ok (.aload_n 0, 1) := by decide +kernel
theorem dL_law_700 : decode cL_law 700 = .ok (.iload_n 3, 1) := by decide +kernel
theorem dL_law_701 : decode cL_law 701 = .ok (.iconst 1, 1) := by decide +kernel
theorem dL_law_702 : decode cL_law 702 = .ok (.iadd, 1) := by decide +kernel
theorem dL_law_703 : decode cL_law 703 = .ok (.iaload, 1) := by decide +kernel
theorem dL_law_704 : decode cL_law 704 = .ok (.invokevirtual 89, 3) := by decide +kernel
theorem dL_law_707 : decode cL_law 707 = .ok (.aload_n 2, 1) := by decide +kernel
theorem dL_law_708 : decode cL_law 708 = .ok (.aload_n 0, 1) := by decide +kernel
theorem dL_law_709 : decode cL_law 709 = .ok (.iload_n 3, 1) := by decide +kernel
theorem dL_law_710 : decode cL_law 710 = .ok (.iconst 1, 1) := by decide +kernel
theorem dL_law_711 : decode cL_law 711 = .ok (.iadd, 1) := by decide +kernel
theorem dL_law_712 : decode cL_law 712 = .ok (.iaload, 1) := by decide +kernel
theorem dL_law_713 : decode cL_law 713 = .ok (.invokevirtual 92, 3) := by decide +kernel
theorem dL_law_716 : decode cL_law 716 = .ok (.if_icmp .eq 507, 3) := by decide +kernel
theorem dL_law_719 : decode cL_law 719 = .ok (.iconst 0, 1) := by decide +kernel
theorem dL_law_720 : decode cL_law 720 = .ok (.ireturn, 1) := by decide +kernel
theorem dL_law_721 : decode cL_law 721 = .ok (.aload_n 1, 1) := by decide +kernel
theorem dL_law_722 : decode cL_law 722 = .ok (.aload_n 0, 1) := by decide +kernel
theorem dL_law_723 : decode cL_law 723 = .ok (.iload_n 3, 1) := by decide +kernel
theorem dL_law_724 : decode cL_law 724 = .ok (.iconst 1, 1) := by decide +kernel
theorem dL_law_725 : decode cL_law 725 = .ok (.iadd, 1) := by decide +kernel
theorem dL_law_726 : decode cL_law 726 = .ok (.iaload, 1) := by decide +kernel
theorem dL_law_727 : decode cL_law 727 = .ok (.invokevirtual 93, 3) := by decide +kernel
theorem dL_law_730 : decode cL_law 730 = .ok (.aload_n 2, 1) := by decide +kernel
theorem dL_law_731 : decode cL_law 731 = .ok (.aload_n 0, 1) := by decide +kernel
theorem dL_law_732 : decode cL_law 732 = .ok (.iload_n 3, 1) := by decide +kernel
theorem dL_law_733 : decode cL_law 733 = .ok (.iconst 1, 1) := by decide +kernel
theorem dL_law_734 : decode cL_law 734 = .ok (.iadd, 1) := by decide +kernel
theorem dL_law_735 : decode cL_law 735 = .ok (.iaload, 1) := by decide +kernel
theorem dL_law_736 : decode cL_law 736 = .ok (.invokevirtual 96, 3) := by decide +kernel
theorem dL_law_739 : decode cL_law 739 = .ok (.if_icmp .eq 484, 3) := by decide +kernel
theorem dL_law_742 : decode cL_law 742 = .ok (.iconst 0, 1) := by decide +kernel
theorem dL_law_743 : decode cL_law 743 = .ok (.ireturn, 1) := by decide +kernel
theorem dL_law_744 : decode cL_law 744 = .ok (.aload_n 1, 1) := by decide +kernel
theorem dL_law_745 : decode cL_law 745 = .ok (.aload_n 0, 1) := by decide +kernel
theorem dL_law_746 : decode cL_law 746 = .ok (.iload_n 3, 1) := by decide +kernel
theorem dL_law_747 : decode cL_law 747 = .ok (.iconst 1, 1) := by decide +kernel
theorem dL_law_748 : decode cL_law 748 = .ok (.iadd, 1) := by decide +kernel
theorem dL_law_749 : decode cL_law 749 = .ok (.iaload, 1) := by decide +kernel
theorem dL_law_750 : decode cL_law 750 = .ok (.invokevirtual 97, 3) := by decide +kernel
theorem dL_law_753 : decode cL_law 753 = .ok (.aload_n 2, 1) := by decide +kernel
theorem dL_law_754 : decode cL_law 754 = .ok (.aload_n 0, 1) := by decide +kernel
theorem dL_law_755 : decode cL_law 755 = .ok (.iload_n 3, 1) := by decide +kernel
theorem dL_law_756 : decode cL_law 756 = .ok (.iconst 1, 1) := by decide +kernel
theorem dL_law_757 : decode cL_law 757 = .ok (.iadd, 1) := by decide +kernel
theorem dL_law_758 : decode cL_law 758 = .ok (.iaload, 1) := by decide +kernel
theorem dL_law_759 : decode cL_law 759 = .ok (.invokevirtual 100, 3) := by decide +kernel
theorem dL_law_762 : decode cL_law 762 = .ok (.if_icmp .eq 461, 3) := by decide +kernel
theorem dL_law_765 : decode cL_law 765 = .ok (.iconst 0, 1) := by decide +kernel
theorem dL_law_766 : decode cL_law 766 = .ok (.ireturn, 1) := by decide +kernel
theorem dL_law_767 : decode cL_law 767 = .ok (.aload_n 1, 1) := by decide +kernel
theorem dL_law_768 : decode cL_law 768 = .ok (.aload_n 0, 1) := by decide +kernel
theorem dL_law_769 : decode cL_law 769 = .ok (.iload_n 3, 1) := by decide +kernel
theorem dL_law_770 : decode cL_law 770 = .ok (.iconst 1, 1) := by decide +kernel
theorem dL_law_771 : decode cL_law 771 = .ok (.iadd, 1) := by decide +kernel
theorem dL_law_772 : decode cL_law 772 = .ok (.iaload, 1) := by decide +kernel
theorem dL_law_773 : decode cL_law 773 = .ok (.aload_n 0, 1) := by decide +kernel
theorem dL_law_774 : decode cL_law 774 = .ok (.iload_n 3, 1) := by decide +kernel
theorem dL_law_775 : decode cL_law 775 = .ok (.iconst 2, 1) := by decide +kernel
theorem dL_law_776 : decode cL_law 776 = .ok (.iadd, 1) := by decide +kernel
theorem dL_law_777 : decode cL_law 777 = .ok (.iaload, 1) := by decide +kernel
theorem dL_law_778 : decode cL_law 778 = .ok (.invokevirtual 101, 3) := by decide +kernel
theorem dL_law_781 : decode cL_law 781 = .ok (.aload_n 2, 1) := by decide +kernel
theorem dL_law_782 : decode cL_law 782 = .ok (.aload_n 0, 1) := by decide +kernel
theorem dL_law_783 : decode cL_law 783 = .ok (.iload_n 3, 1) := by decide +kernel
theorem dL_law_784 : decode cL_law 784 = .ok (.iconst 1, 1) := by decide +kernel
theorem dL_law_785 : decode cL_law 785 = .ok (.iadd, 1) := by decide +kernel
theorem dL_law_786 : decode cL_law 786 = .ok (.iaload, 1) := by decide +kernel
theorem dL_law_787 : decode cL_law 787 = .ok (.aload_n 0, 1) := by decide +kernel
theorem dL_law_788 : decode cL_law 788 = .ok (.iload_n 3, 1) := by decide +kernel
theorem dL_law_789 : decode cL_law 789 = .ok (.iconst 2, 1) := by decide +kernel
theorem dL_law_790 : decode cL_law 790 = .ok (.iadd, 1) := by decide +kernel
theorem dL_law_791 : decode cL_law 791 = .ok (.iaload, 1) := by decide +kernel
theorem dL_law_792 : decode cL_law 792 = .ok (.invokevirtual 104, 3) := by decide +kernel
theorem dL_law_795 : decode cL_law 795 = .ok (.if_icmp .eq 428, 3) := by decide +kernel
theorem dL_law_798 : decode cL_law 798 = .ok (.iconst 0, 1) := by decide +kernel
theorem dL_law_799 : decode cL_law 799 = .ok (.ireturn, 1) := by decide +kernel
theorem dL_law_800 : decode cL_law 800 = .ok (.aload_n 1, 1) := by decide +kernel
theorem dL_law_801 : decode cL_law 801 = .ok (.invokevirtual 105, 3) := by decide +kernel
theorem dL_law_804 : decode cL_law 804 = .ok (.aload_n 2, 1) := by decide +kernel
theorem dL_law_805 : decode cL_law 805 = .ok (.invokevirtual 108, 3) := by decide +kernel
theorem dL_law_808 : decode cL_law 808 = .ok (.if_icmp .eq 415, 3) := by decide +kernel
theorem dL_law_811 : decode cL_law 811 = .ok (.iconst 0, 1) := by decide +kernel
theorem dL_law_812 : decode cL_law 812 = .ok (.ireturn, 1) := by decide +kernel
theorem dL_law_813 : decode cL_law 813 = .ok (.aload_n 1, 1) := by decide +kernel
theorem dL_law_814 : decode cL_law 814 = .ok (.aload_n 0, 1) := by decide +kernel
theorem dL_law_815 : decode cL_law 815 = .ok (.iload_n 3, 1) := by decide +kernel
theorem dL_law_816 : decode cL_law 816 = .ok (.iconst 1, 1) := by decide +kernel
theorem dL_law_817 : decode cL_law 817 = .ok (.iadd, 1) := by decide +kernel
theorem dL_law_818 : decode cL_law 818 = .ok (.iaload, 1) := by decide +kernel
theorem dL_law_819 : decode cL_law 819 = .ok (.invokevirtual 109, 3) := by decide +kernel
theorem dL_law_822 : decode cL_law 822 = .ok (.aload_n 2, 1) := by decide +kernel
theorem dL_law_823 : decode cL_law 823 = .ok (.aload_n 0, 1) := by decide +kernel
theorem dL_law_824 : decode cL_law 824 = .ok (.iload_n 3, 1) := by decide +kernel
theorem dL_law_825 : decode cL_law 825 = .ok (.iconst 1, 1) := by decide +kernel
theorem dL_law_826 : decode cL_law 826 = .ok (.iadd, 1) := by decide +kernel
theorem dL_law_827 : decode cL_law 827 = .ok (.iaload, 1) := by decide +kernel
theorem dL_law_828 : decode cL_law 828 = .ok (.invokevirtual 112, 3) := by decide +kernel
theorem dL_law_831 : decode cL_law 831 = .ok (.if_icmp .eq 392, 3) := by decide +kernel
theorem dL_law_834 : decode cL_law 834 = .ok (.iconst 0, 1) := by decide +kernel
theorem dL_law_835 : decode cL_law 835 = .ok (.ireturn, 1) := by decide +kernel
theorem dL_law_836 : decode cL_law 836 = .ok (.aload_n 1, 1) := by decide +kernel
theorem dL_law_837 : decode cL_law 837 = .ok (.aload_n 0, 1) := by decide +kernel
theorem dL_law_838 : decode cL_law 838 = .ok (.iload_n 3, 1) := by decide +kernel
theorem dL_law_839 : decode cL_law 839 = .ok (.iconst 1, 1) := by decide +kernel
theorem dL_law_840 : decode cL_law 840 = .ok (.iadd, 1) := by decide +kernel
theorem dL_law_841 : decode cL_law 841 = .ok (.iaload, 1) := by decide +kernel
theorem dL_law_842 : decode cL_law 842 = .ok (.invokevirtual 113, 3) := by decide +kernel
theorem dL_law_845 : decode cL_law 845 = .ok (.aload_n 2, 1) := by decide +kernel
theorem dL_law_846 : decode cL_law 846 = .ok (.aload_n 0, 1) := by decide +kernel
theorem dL_law_847 : decode cL_law 847 = .ok (.iload_n 3, 1) := by decide +kernel
theorem dL_law_848 : decode cL_law 848 = .ok (.iconst 1, 1) := by decide +kernel
theorem dL_law_849 : decode cL_law 849 = .ok (.iadd, 1) := by decide +kernel
theorem dL_law_850 : decode cL_law 850 = .ok (.iaload, 1) := by decide +kernel
theorem dL_law_851 : decode cL_law 851 = .ok (.invokevirtual 116, 3) := by decide +kernel
theorem dL_law_854 : decode cL_law 854 = .ok (.if_icmp .eq 369, 3) := by decide +kernel
theorem dL_law_857 : decode cL_law 857 = .ok (.iconst 0, 1) := by decide +kernel
theorem dL_law_858 : decode cL_law 858 = .ok (.ireturn, 1) := by decide +kernel
theorem dL_law_859 : decode cL_law 859 = .ok (.aload_n 1, 1) := by decide +kernel
theorem dL_law_860 : decode cL_law 860 = .ok (.invokevirtual 117, 3) := by decide +kernel
theorem dL_law_863 : decode cL_law 863 = .ok (.aload_n 2, 1) := by decide +kernel
theorem dL_law_864 : decode cL_law 864 = .ok (.invokevirtual 120, 3) := by decide +kernel
theorem dL_law_867 : decode cL_law 867 = .ok (.if_icmp .eq 356, 3) := by decide +kernel
theorem dL_law_870 : decode cL_law 870 = .ok (.iconst 0, 1) := by decide +kernel
theorem dL_law_871 : decode cL_law 871 = .ok (.ireturn, 1) := by decide +kernel
theorem dL_law_872 : decode cL_law 872 = .ok (.aload_n 1, 1) := by decide +kernel
theorem dL_law_873 : decode cL_law 873 = .ok (.aload_n 0, 1) := by decide +kernel
theorem dL_law_874 : decode cL_law 874 = .ok (.iload_n 3, 1) := by decide +kernel
theorem dL_law_875 : decode cL_law 875 = .ok (.iconst 1, 1) := by decide +kernel
theorem dL_law_876 : decode cL_law 876 = .ok (.iadd, 1) := by decide +kernel
theorem dL_law_877 : decode cL_law 877 = .ok (.iaload, 1) := by decide +kernel
theorem dL_law_878 : decode cL_law 878 = .ok (.invokevirtual 121, 3) := by decide +kernel
theorem dL_law_881 : decode cL_law 881 = .ok (.aload_n 2, 1) := by decide +kernel
theorem dL_law_882 : decode cL_law 882 = .ok (.aload_n 0, 1) := by decide +kernel
theorem dL_law_883 : decode cL_law 883 = .ok (.iload_n 3, 1) := by decide +kernel
theorem dL_law_884 : decode cL_law 884 = .ok (.iconst 1, 1) := by decide +kernel
theorem dL_law_885 : decode cL_law 885 = .ok (.iadd, 1) := by decide +kernel
theorem dL_law_886 : decode cL_law 886 = .ok (.iaload, 1) := by decide +kernel
theorem dL_law_887 : decode cL_law 887 = .ok (.invokevirtual 124, 3) := by decide +kernel
theorem dL_law_890 : decode cL_law 890 = .ok (.if_icmp .eq 333, 3) := by decide +kernel
theorem dL_law_893 : decode cL_law 893 = .ok (.iconst 0, 1) := by decide +kernel
theorem dL_law_894 : decode cL_law 894 = .ok (.ireturn, 1) := by decide +kernel
theorem dL_law_895 : decode cL_law 895 = .ok (.aload_n 1, 1) := by decide +kernel
theorem dL_law_896 : decode cL_law 896 = .ok (.aload_n 0, 1) := by decide +kernel
theorem dL_law_897 : decode cL_law 897 = .ok (.iload_n 3, 1) := by decide +kernel
theorem dL_law_898 : decode cL_law 898 = .ok (.iconst 1, 1) := by decide +kernel
theorem dL_law_899 : decode cL_law 899 = .ok (.iadd, 1) := by decide +kernel
theorem dL_law_900 : decode cL_law 900 = .ok (.iaload, 1) := by decide +kernel
theorem dL_law_901 : decode cL_law 901 = .ok (.invokevirtual 125, 3) := by decide +kernel
theorem dL_law_904 : decode cL_law 904 = .ok (.aload_n 2, 1) := by decide +kernel
theorem dL_law_905 : decode cL_law 905 = .ok (.aload_n 0, 1) := by decide +kernel
theorem dL_law_906 : decode cL_law 906 = .ok (.iload_n 3, 1) := by decide +kernel
theorem dL_law_907 : decode cL_law 907 = .ok (.iconst 1, 1) := by decide +kernel
theorem dL_law_908 : decode cL_law 908 = .ok (.iadd, 1) := by decide +kernel
theorem dL_law_909 : decode cL_law 909 = .ok (.iaload, 1) := by decide +kernel
theorem dL_law_910 : decode cL_law 910 = .ok (.invokevirtual 128, 3) := by decide +kernel
theorem dL_law_913 : decode cL_law 913 = .ok (.if_icmp .eq 310, 3) := by decide +kernel
theorem dL_law_916 : decode cL_law 916 = .ok (.iconst 0, 1) := by decide +kernel
theorem dL_law_917 : decode cL_law 917 = .ok (.ireturn, 1) := by decide +kernel
theorem dL_law_918 : decode cL_law 918 = .ok (.aload_n 1, 1) := by decide +kernel
theorem dL_law_919 : decode cL_law 919 = .ok (.aload_n 0, 1) := by decide +kernel
theorem dL_law_920 : decode cL_law 920 = .ok (.iload_n 3, 1) := by decide +kernel
theorem dL_law_921 : decode cL_law 921 = .ok (.iconst 1, 1) := by decide +kernel
theorem dL_law_922 : decode cL_law 922 = .ok (.iadd, 1) := by decide +kernel
theorem dL_law_923 : decode cL_law 923 = .ok (.iaload, 1) := by decide +kernel
theorem dL_law_924 : decode cL_law 924 = .ok (.aload_n 0, 1) := by decide +kernel
theorem dL_law_925 : decode cL_law 925 = .ok (.iload_n 3, 1) := by decide +kernel
theorem dL_law_926 : decode cL_law 926 = .ok (.iconst 2, 1) := by decide +kernel
theorem dL_law_927 : decode cL_law 927 = .ok (.iadd, 1) := by decide +kernel
theorem dL_law_928 : decode cL_law 928 = .ok (.iaload, 1) := by decide +kernel
theorem dL_law_929 : decode cL_law 929 = .ok (.aload_n 0, 1) := by decide +kernel
theorem dL_law_930 : decode cL_law 930 = .ok (.iload_n 3, 1) := by decide +kernel
theorem dL_law_931 : decode cL_law 931 = .ok (.iconst 3, 1) := by decide +kernel
theorem dL_law_932 : decode cL_law 932 = .ok (.iadd, 1) := by decide +kernel
theorem dL_law_933 : decode cL_law 933 = .ok (.iaload, 1) := by decide +kernel
theorem dL_law_934 : decode cL_law 934 = .ok (.invokevirtual 129, 3) := by decide +kernel
theorem dL_law_937 : decode cL_law 937 = .ok (.aload_n 2, 1) := by decide +kernel
theorem dL_law_938 : decode cL_law 938 = .ok (.aload_n 0, 1) := by decide +kernel
theorem dL_law_939 : decode cL_law 939 = .ok (.iload_n 3, 1) := by decide +kernel
theorem dL_law_940 : decode cL_law 940 = .ok (.iconst 1, 1) := by decide +kernel
theorem dL_law_941 : decode cL_law 941 = .ok (.iadd, 1) := by decide +kernel
theorem dL_law_942 : decode cL_law 942 = .ok (.iaload, 1) := by decide +kernel
theorem dL_law_943 : decode cL_law 943 = .ok (.aload_n 0, 1) := by decide +kernel
theorem dL_law_944 : decode cL_law 944 = .ok (.iload_n 3, 1) := by decide +kernel
theorem dL_law_945 : decode cL_law 945 = .ok (.iconst 2, 1) := by decide +kernel
theorem dL_law_946 : decode cL_law 946 = .ok (.iadd, 1) := by decide +kernel
theorem dL_law_947 : decode cL_law 947 = .ok (.iaload, 1) := by decide +kernel
theorem dL_law_948 : decode cL_law 948 = .ok (.aload_n 0, 1) := by decide +kernel
theorem dL_law_949 : decode cL_law 949 = .ok (.iload_n 3, 1) := by decide +kernel
theorem dL_law_950 : decode cL_law 950 = .ok (.iconst 3, 1) := by decide +kernel
theorem dL_law_951 : decode cL_law 951 = .ok (.iadd, 1) := by decide +kernel
theorem dL_law_952 : decode cL_law 952 = .ok (.iaload, 1) := by decide +kernel
theorem dL_law_953 : decode cL_law 953 = .ok (.invokevirtual 132, 3) := by decide +kernel
theorem dL_law_956 : decode cL_law 956 = .ok (.if_icmp .eq 267, 3) := by decide +kernel
theorem dL_law_959 : decode cL_law 959 = .ok (.iconst 0, 1) := by decide +kernel
theorem dL_law_960 : decode cL_law 960 = .ok (.ireturn, 1) := by decide +kernel
theorem dL_law_961 : decode cL_law 961 = .ok (.aload_n 1, 1) := by decide +kernel
theorem dL_law_962 : decode cL_law 962 = .ok (.aload_n 0, 1) := by decide +kernel
theorem dL_law_963 : decode cL_law 963 = .ok (.iload_n 3, 1) := by decide +kernel
theorem dL_law_964 : decode cL_law 964 = .ok (.iconst 1, 1) := by decide +kernel
theorem dL_law_965 : decode cL_law 965 = .ok (.iadd, 1) := by decide +kernel
theorem dL_law_966 : decode cL_law 966 = .ok (.iaload, 1) := by decide +kernel
theorem dL_law_967 : decode cL_law 967 = .ok (.aload_n 0, 1) := by decide +kernel
theorem dL_law_968 : decode cL_law 968 = .ok (.iload_n 3, 1) := by decide +kernel
theorem dL_law_969 : decode cL_law 969 = .ok (.iconst 2, 1) := by decide +kernel
theorem dL_law_970 : decode cL_law 970 = .ok (.iadd, 1) := by decide +kernel
theorem dL_law_971 : decode cL_law 971 = .ok (.iaload, 1) := by decide +kernel
theorem dL_law_972 : decode cL_law 972 = .ok (.aload_n 0, 1) := by decide +kernel
theorem dL_law_973 : decode cL_law 973 = .ok (.iload_n 3, 1) := by decide +kernel
theorem dL_law_974 : decode cL_law 974 = .ok (.iconst 3, 1) := by decide +kernel
theorem dL_law_975 : decode cL_law 975 = .ok (.iadd, 1) := by decide +kernel
theorem dL_law_976 : decode cL_law 976 = .ok (.iaload, 1) := by decide +kernel
theorem dL_law_977 : decode cL_law 977 = .ok (.aload_n 0, 1) := by decide +kernel
theorem dL_law_978 : decode cL_law 978 = .ok (.iload_n 3, 1) := by decide +kernel
theorem dL_law_979 : decode cL_law 979 = .ok (.iconst 4, 1) := by decide +kernel
theorem dL_law_980 : decode cL_law 980 = .ok (.iadd, 1) := by decide +kernel
theorem dL_law_981 : decode cL_law 981 = .ok (.iaload, 1) := by decide +kernel
theorem dL_law_982 : decode cL_law 982 = .ok (.aload_n 0, 1) := by decide +kernel
theorem dL_law_983 : decode cL_law 983 = .ok (.iload_n 3, 1) := by decide +kernel
theorem dL_law_984 : decode cL_law 984 = .ok (.iconst 5, 1) := by decide +kernel
theorem dL_law_985 : decode cL_law 985 = .ok (.iadd, 1) := by decide +kernel
theorem dL_law_986 : decode cL_law 986 = .ok (.iaload, 1) := by decide +kernel
theorem dL_law_987 : decode cL_law 987 = .ok (.invokevirtual 133, 3) := by decide +kernel
theorem dL_law_990 : decode cL_law 990 = .ok (.aload_n 2, 1) := by decide +kernel
theorem dL_law_991 : decode cL_law 991 = .ok (.aload_n 0, 1) := by decide +kernel
theorem dL_law_992 : decode cL_law 992 = .ok (.iload_n 3, 1) := by decide +kernel
theorem dL_law_993 : decode cL_law 993 = .ok (.iconst 1, 1) := by decide +kernel
theorem dL_law_994 : decode cL_law 994 = .ok (.iadd, 1) := by decide +kernel
theorem dL_law_995 : decode cL_law 995 = .ok (.iaload, 1) := by decide +kernel
theorem dL_law_996 : decode cL_law 996 = .ok (.aload_n 0, 1) := by decide +kernel
theorem dL_law_997 : decode cL_law 997 = .ok (.iload_n 3, 1) := by decide +kernel
theorem dL_law_998 : decode cL_law 998 = .ok (.iconst 2, 1) := by decide +kernel
theorem dL_law_999 : decode cL_law 999 = .ok (.iadd, 1) := by decide +kernel
theorem dL_law_1000 : decode cL_law 1000 = .ok (.iaload, 1) := by decide +kernel
theorem dL_law_1001 : decode cL_law 1001 = .ok (.aload_n 0, 1) := by decide +kernel
theorem dL_law_1002 : decode cL_law 1002 = .ok (.iload_n 3, 1) := by decide +kernel
theorem dL_law_1003 : decode cL_law 1003 = .ok (.iconst 3, 1) := by decide +kernel
theorem dL_law_1004 : decode cL_law 1004 = .ok (.iadd, 1) := by decide +kernel
theorem dL_law_1005 : decode cL_law 1005 = .ok (.iaload, 1) := by decide +kernel
theorem dL_law_1006 : decode cL_law 1006 = .ok (.aload_n 0, 1) := by decide +kernel
theorem dL_law_1007 : decode cL_law 1007 = .ok (.iload_n 3, 1) := by decide +kernel
theorem dL_law_1008 : decode cL_law 1008 = .ok (.iconst 4, 1) := by decide +kernel
theorem dL_law_1009 : decode cL_law 1009 = .ok (.iadd, 1) := by decide +kernel
theorem dL_law_1010 : decode cL_law 1010 = .ok (.iaload, 1) := by decide +kernel
theorem dL_law_1011 : decode cL_law 1011 = .ok (.aload_n 0, 1) := by decide +kernel
theorem dL_law_1012 : decode cL_law 1012 = .ok (.iload_n 3, 1) := by decide +kernel
theorem dL_law_1013 : decode cL_law 1013 = .ok (.iconst 5, 1) := by decide +kernel
theorem dL_law_1014 : decode cL_law 1014 = .ok (.iadd, 1) := by decide +kernel
theorem dL_law_1015 : decode cL_law 1015 = .ok (.iaload, 1) := by decide +kernel
theorem dL_law_1016 : decode cL_law 1016 = .ok (.invokevirtual 137, 3) := by decide +kernel
theorem dL_law_1019 : decode cL_law 1019 = .ok (.lcmp, 1) := by decide +kernel
theorem dL_law_1020 : decode cL_law 1020 = .ok (.ifCond .eq 203, 3) := by decide +kernel
theorem dL_law_1023 : decode cL_law 1023 = .ok (.iconst 0, 1) := by decide +kernel
theorem dL_law_1024 : decode cL_law 1024 = .ok (.ireturn, 1) := by decide +kernel
theorem dL_law_1025 : decode cL_law 1025 = .ok (.aload_n 1, 1) := by decide +kernel
theorem dL_law_1026 : decode cL_law 1026 = .ok (.aload_n 0, 1) := by decide +kernel
theorem dL_law_1027 : decode cL_law 1027 = .ok (.iload_n 3, 1) := by decide +kernel
theorem dL_law_1028 : decode cL_law 1028 = .ok (.iconst 1, 1) := by decide +kernel
theorem dL_law_1029 : decode cL_law 1029 = .ok (.iadd, 1) := by decide +kernel
theorem dL_law_1030 : decode cL_law 1030 = .ok (.iaload, 1) := by decide +kernel
theorem dL_law_1031 : decode cL_law 1031 = .ok (.invokevirtual 138, 3) := by decide +kernel
theorem dL_law_1034 : decode cL_law 1034 = .ok (.aload_n 2, 1) := by decide +kernel
theorem dL_law_1035 : decode cL_law 1035 = .ok (.aload_n 0, 1) := by decide +kernel
theorem dL_law_1036 : decode cL_law 1036 = .ok (.iload_n 3, 1) := by decide +kernel
theorem dL_law_1037 : decode cL_law 1037 = .ok (.iconst 1, 1) := by decide +kernel
theorem dL_law_1038 : decode cL_law 1038 = .ok (.iadd, 1) := by decide +kernel
theorem dL_law_1039 : decode cL_law 1039 = .ok (.iaload, 1) := by decide +kernel
theorem dL_law_1040 : decode cL_law 1040 = .ok (.invokevirtual 142, 3) := by decide +kernel
theorem dL_law_1043 : decode cL_law 1043 = .ok (.lcmp, 1) := by decide +kernel
theorem dL_law_1044 : decode cL_law 1044 = .ok (.ifCond .eq 179, 3) := by decide +kernel
theorem dL_law_1047 : decode cL_law 1047 = .ok (.iconst 0, 1) := by decide +kernel
theorem dL_law_1048 : decode cL_law 1048 = .ok (.ireturn, 1) := by decide +kernel
theorem dL_law_1049 : decode cL_law 1049 = .ok (.aload_n 1, 1) := by decide +kernel
theorem dL_law_1050 : decode cL_law 1050 = .ok (.aload_n 0, 1) := by decide +kernel
theorem dL_law_1051 : decode cL_law 1051 = .ok (.iload_n 3, 1) := by decide +kernel
theorem dL_law_1052 : decode cL_law 1052 = .ok (.iconst 1, 1) := by decide +kernel
theorem dL_law_1053 : decode cL_law 1053 = .ok (.iadd, 1) := by decide +kernel
theorem dL_law_1054 : decode cL_law 1054 = .ok (.iaload, 1) := by decide +kernel
theorem dL_law_1055 : decode cL_law 1055 = .ok (.aload_n 0, 1) := by decide +kernel
theorem dL_law_1056 : decode cL_law 1056 = .ok (.iload_n 3, 1) := by decide +kernel
theorem dL_law_1057 : decode cL_law 1057 = .ok (.iconst 2, 1) := by decide +kernel
theorem dL_law_1058 : decode cL_law 1058 = .ok (.iadd, 1) := by decide +kernel
theorem dL_law_1059 : decode cL_law 1059 = .ok (.iaload, 1) := by decide +kernel
theorem dL_law_1060 : decode cL_law 1060 = .ok (.invokevirtual 143, 3) := by decide +kernel
theorem dL_law_1063 : decode cL_law 1063 = .ok (.aload_n 2, 1) := by decide +kernel
theorem dL_law_1064 : decode cL_law 1064 = .ok (.aload_n 0, 1) := by decide +kernel
theorem dL_law_1065 : decode cL_law 1065 = .ok (.iload_n 3, 1) := by decide +kernel
theorem dL_law_1066 : decode cL_law 1066 = .ok (.iconst 1, 1) := by decide +kernel
theorem dL_law_1067 : decode cL_law 1067 = .ok (.iadd, 1) := by decide +kernel
theorem dL_law_1068 : decode cL_law 1068 = .ok (.iaload, 1) := by decide +kernel
theorem dL_law_1069 : decode cL_law 1069 = .ok (.aload_n 0, 1) := by decide +kernel
theorem dL_law_1070 : decode cL_law 1070 = .ok (.iload_n 3, 1) := by decide +kernel
theorem dL_law_1071 : decode cL_law 1071 = .ok (.iconst 2, 1) := by decide +kernel
theorem dL_law_1072 : decode cL_law 1072 = .ok (.iadd, 1) := by decide +kernel
theorem dL_law_1073 : decode cL_law 1073 = .ok (.iaload, 1) := by decide +kernel
theorem dL_law_1074 : decode cL_law 1074 = .ok (.invokevirtual 146, 3) := by decide +kernel
theorem dL_law_1077 : decode cL_law 1077 = .ok (.if_icmp .eq 146, 3) := by decide +kernel
theorem dL_law_1080 : decode cL_law 1080 = .ok (.iconst 0, 1) := by decide +kernel
theorem dL_law_1081 : decode cL_law 1081 = .ok (.ireturn, 1) := by decide +kernel
theorem dL_law_1082 : decode cL_law 1082 = .ok (.aload_n 1, 1) := by decide +kernel
theorem dL_law_1083 : decode cL_law 1083 = .ok (.aload_n 0, 1) := by decide +kernel
theorem dL_law_1084 : decode cL_law 1084 = .ok (.iload_n 3, 1) := by decide +kernel
theorem dL_law_1085 : decode cL_law 1085 = .ok (.iconst 1, 1) := by decide +kernel
theorem dL_law_1086 : decode cL_law 1086 = .ok (.iadd, 1) := by decide +kernel
theorem dL_law_1087 : decode cL_law 1087 = .ok (.iaload, 1) := by decide +kernel
theorem dL_law_1088 : decode cL_law 1088 = .ok (.invokevirtual 147, 3) := by decide +kernel
theorem dL_law_1091 : decode cL_law 1091 = .ok (.aload_n 2, 1) := by decide +kernel
theorem dL_law_1092 : decode cL_law 1092 = .ok (.aload_n 0, 1) := by decide +kernel
theorem dL_law_1093 : decode cL_law 1093 = .ok (.iload_n 3, 1) := by decide +kernel
theorem dL_law_1094 : decode cL_law 1094 = .ok (.iconst 1, 1) := by decide +kernel
theorem dL_law_1095 : decode cL_law 1095 = .ok (.iadd, 1) := by decide +kernel
theorem dL_law_1096 : decode cL_law 1096 = .ok (.iaload, 1) := by decide +kernel
theorem dL_law_1097 : decode cL_law 1097 = .ok (.invokevirtual 150, 3) := by decide +kernel
theorem dL_law_1100 : decode cL_law 1100 = .ok (.if_icmp .eq 123, 3) := by decide +kernel
theorem dL_law_1103 : decode cL_law 1103 = .ok (.iconst 0, 1) := by decide +kernel
theorem dL_law_1104 : decode cL_law 1104 = .ok (.ireturn, 1) := by decide +kernel
theorem dL_law_1105 : decode cL_law 1105 = .ok (.aload_n 1, 1) := by decide +kernel
theorem dL_law_1106 : decode cL_law 1106 = .ok (.invokevirtual 151, 3) := by decide +kernel
theorem dL_law_1109 : decode cL_law 1109 = .ok (.aload_n 2, 1) := by decide +kernel
theorem dL_law_1110 : decode cL_law 1110 = .ok (.invokevirtual 154, 3) := by decide +kernel
theorem dL_law_1113 : decode cL_law 1113 = .ok (.if_icmp .eq 110, 3) := by decide +kernel
theorem dL_law_1116 : decode cL_law 1116 = .ok (.iconst 0, 1) := by decide +kernel
theorem dL_law_1117 : decode cL_law 1117 = .ok (.ireturn, 1) := by decide +kernel
theorem dL_law_1118 : decode cL_law 1118 = .ok (.aload_n 1, 1) := by decide +kernel
theorem dL_law_1119 : decode cL_law 1119 = .ok (.invokevirtual 155, 3) := by decide +kernel
theorem dL_law_1122 : decode cL_law 1122 = .ok (.aload_n 2, 1) := by decide +kernel
theorem dL_law_1123 : decode cL_law 1123 = .ok (.invokevirtual 158, 3) := by decide +kernel
theorem dL_law_1126 : decode cL_law 1126 = .ok (.if_icmp .eq 97, 3) := by decide +kernel
theorem dL_law_1129 : decode cL_law 1129 = .ok (.iconst 0, 1) := by decide +kernel
theorem dL_law_1130 : decode cL_law 1130 = .ok (.ireturn, 1) := by decide +kernel
theorem dL_law_1131 : decode cL_law 1131 = .ok (.aload_n 1, 1) := by decide +kernel
theorem dL_law_1132 : decode cL_law 1132 = .ok (.aload_n 0, 1) := by decide +kernel
theorem dL_law_1133 : decode cL_law 1133 = .ok (.iload_n 3, 1) := by decide +kernel
theorem dL_law_1134 : decode cL_law 1134 = .ok (.iconst 1, 1) := by decide +kernel
theorem dL_law_1135 : decode cL_law 1135 = .ok (.iadd, 1) := by decide +kernel
theorem dL_law_1136 : decode cL_law 1136 = .ok (.iaload, 1) := by decide +kernel
theorem dL_law_1137 : decode cL_law 1137 = .ok (.aload_n 0, 1) := by decide +kernel
theorem dL_law_1138 : decode cL_law 1138 = .ok (.iload_n 3, 1) := by decide +kernel
theorem dL_law_1139 : decode cL_law 1139 = .ok (.iconst 2, 1) := by decide +kernel
theorem dL_law_1140 : decode cL_law 1140 = .ok (.iadd, 1) := by decide +kernel
theorem dL_law_1141 : decode cL_law 1141 = .ok (.iaload, 1) := by decide +kernel
theorem dL_law_1142 : decode cL_law 1142 = .ok (.aload_n 0, 1) := by decide +kernel
theorem dL_law_1143 : decode cL_law 1143 = .ok (.iload_n 3, 1) := by decide +kernel
theorem dL_law_1144 : decode cL_law 1144 = .ok (.iconst 3, 1) := by decide +kernel
theorem dL_law_1145 : decode cL_law 1145 = .ok (.iadd, 1) := by decide +kernel
theorem dL_law_1146 : decode cL_law 1146 = .ok (.iaload, 1) := by decide +kernel
theorem dL_law_1147 : decode cL_law 1147 = .ok (.invokevirtual 159, 3) := by decide +kernel
theorem dL_law_1150 : decode cL_law 1150 = .ok (.aload_n 2, 1) := by decide +kernel
theorem dL_law_1151 : decode cL_law 1151 = .ok (.aload_n 0, 1) := by decide +kernel
theorem dL_law_1152 : decode cL_law 1152 = .ok (.iload_n 3, 1) := by decide +kernel
theorem dL_law_1153 : decode cL_law 1153 = .ok (.iconst 1, 1) := by decide +kernel
theorem dL_law_1154 : decode cL_law 1154 = .ok (.iadd, 1) := by decide +kernel
theorem dL_law_1155 : decode cL_law 1155 = .ok (.iaload, 1) := by decide +kernel
theorem dL_law_1156 : decode cL_law 1156 = .ok (.aload_n 0, 1) := by decide +kernel
theorem dL_law_1157 : decode cL_law 1157 = .ok (.iload_n 3, 1) := by decide +kernel
theorem dL_law_1158 : decode cL_law 1158 = .ok (.iconst 2, 1) := by decide +kernel
theorem dL_law_1159 : decode cL_law 1159 = .ok (.iadd, 1) := by decide +kernel
theorem dL_law_1160 : decode cL_law 1160 = .ok (.iaload, 1) := by decide +kernel
theorem dL_law_1161 : decode cL_law 1161 = .ok (.aload_n 0, 1) := by decide +kernel
theorem dL_law_1162 : decode cL_law 1162 = .ok (.iload_n 3, 1) := by decide +kernel
theorem dL_law_1163 : decode cL_law 1163 = .ok (.iconst 3, 1) := by decide +kernel
theorem dL_law_1164 : decode cL_law 1164 = .ok (.iadd, 1) := by decide +kernel
theorem dL_law_1165 : decode cL_law 1165 = .ok (.iaload, 1) := by decide +kernel
theorem dL_law_1166 : decode cL_law 1166 = .ok (.invokevirtual 162, 3) := by decide +kernel
theorem dL_law_1169 : decode cL_law 1169 = .ok (.if_icmp .eq 54, 3) := by decide +kernel
theorem dL_law_1172 : decode cL_law 1172 = .ok (.iconst 0, 1) := by decide +kernel
theorem dL_law_1173 : decode cL_law 1173 = .ok (.ireturn, 1) := by decide +kernel
theorem dL_law_1174 : decode cL_law 1174 = .ok (.aload_n 1, 1) := by decide +kernel
theorem dL_law_1175 : decode cL_law 1175 = .ok (.invokevirtual 163, 3) := by decide +kernel
theorem dL_law_1178 : decode cL_law 1178 = .ok (.aload_n 2, 1) := by decide +kernel
theorem dL_law_1179 : decode cL_law 1179 = .ok (.invokevirtual 166, 3) := by decide +kernel
theorem dL_law_1182 : decode cL_law 1182 = .ok (.if_icmp .eq 41, 3) := by decide +kernel
theorem dL_law_1185 : decode cL_law 1185 = .ok (.iconst 0, 1) := by decide +kernel
theorem dL_law_1186 : decode cL_law 1186 = .ok (.ireturn, 1) := by decide +kernel
theorem dL_law_1187 : decode cL_law 1187 = .ok (.aload_n 1, 1) := by decide +kernel
theorem dL_law_1188 : decode cL_law 1188 = .ok (.invokevirtual 167, 3) := by decide +kernel
theorem dL_law_1191 : decode cL_law 1191 = .ok (.aload_n 2, 1) := by decide +kernel
theorem dL_law_1192 : decode cL_law 1192 = .ok (.invokevirtual 170, 3) := by decide +kernel
theorem dL_law_1195 : decode cL_law 1195 = .ok (.if_icmp .eq 28, 3) := by decide +kernel
theorem dL_law_1198 : decode cL_law 1198 = .ok (.iconst 0, 1) := by decide +kernel
theorem dL_law_1199 : decode cL_law 1199 = .ok (.ireturn, 1) := by decide +kernel
theorem dL_law_1200 : decode cL_law 1200 = .ok (.aload_n 1, 1) := by decide +kernel
theorem dL_law_1201 : decode cL_law 1201 = .ok (.aload_n 0, 1) := by decide +kernel
theorem dL_law_1202 : decode cL_law 1202 = .ok (.iload_n 3, 1) := by decide +kernel
theorem dL_law_1203 : decode cL_law 1203 = .ok (.iconst 1, 1) := by decide +kernel
theorem dL_law_1204 : decode cL_law 1204 = .ok (.iadd, 1) := by decide +kernel
theorem dL_law_1205 : decode cL_law 1205 = .ok (.iaload, 1) := by decide +kernel
theorem dL_law_1206 : decode cL_law 1206 = .ok (.invokevirtual 171, 3) := by decide +kernel
theorem dL_law_1209 : decode cL_law 1209 = .ok (.aload_n 2, 1) := by decide +kernel
theorem dL_law_1210 : decode cL_law 1210 = .ok (.aload_n 0, 1) := by decide +kernel
theorem dL_law_1211 : decode cL_law 1211 = .ok (.iload_n 3, 1) := by decide +kernel
theorem dL_law_1212 : decode cL_law 1212 = .ok (.iconst 1, 1) := by decide +kernel
theorem dL_law_1213 : decode cL_law 1213 = .ok (.iadd, 1) := by decide +kernel
theorem dL_law_1214 : decode cL_law 1214 = .ok (.iaload, 1) := by decide +kernel
theorem dL_law_1215 : decode cL_law 1215 = .ok (.invokevirtual 174, 3) := by decide +kernel
theorem dL_law_1218 : decode cL_law 1218 = .ok (.if_icmp .eq 5, 3) := by decide +kernel
theorem dL_law_1221 : decode cL_law 1221 = .ok (.iconst 0, 1) := by decide +kernel
theorem dL_law_1222 : decode cL_law 1222 = .ok (.ireturn, 1) := by decide +kernel
theorem dL_law_1223 : decode cL_law 1223 = .ok (.iinc 3 6, 3) := by decide +kernel
theorem dL_law_1226 : decode cL_law 1226 = .ok (.goto (-1208), 3) := by decide +kernel
theorem dL_law_1229 : decode cL_law 1229 = .ok (.iconst 1, 1) := by decide +kernel
theorem dL_law_1230 : decode cL_law 1230 = .ok (.ireturn, 1) := by decide +kernel
end
section
/-! ===== a small machine over the system's cells: its values, its memory, its instructions; what it comes to, the JVM comes to ===== -/
abbrev xOb : Type := Fin 3 ⊕ ((Fin 5 × Fin 3) ⊕ (Fin 4 ⊕ Nat))
abbrev xV : Type := Int32 ⊕ (Int64 ⊕ xOb)
abbrev xM : Type := xOb → Nat → Int32
abbrev xF : Type := List (Option xV) × (List xV × xM)
abbrev xK : Type := Nat → xF → Prop
abbrev xR : Type := Option xV → xM → Prop
abbrev xi (a : Int32) : xV := .inl a
abbrev xl (a : Int64) : xV := .inr (.inl a)
abbrev xo (o : xOb) : xV := .inr (.inr o)
/-- a hill; a row of a hill; a row of the model; what there is once -/
abbrev xH (i : Fin 3) : xOb := .inl i
abbrev xA (k : Fin 5) (i : Fin 3) : xOb := .inr (.inl (k, i))
abbrev xW (r : Fin 4) : xOb := .inr (.inr (.inl r))
abbrev xN (n : Nat) : xOb := .inr (.inr (.inr n))
/-- an instruction: what must hold so that it goes on as K says, or ends as R says; larger K, R: larger -/
def xI : Type := { i : xF → xK → xR → Prop // ∀ (f : xF) (K K' : xK) (R R' : xR), (∀ a b, K a b → K' a b) → (∀ a b, R a b → R' a b) → i f K R → i f K' R' }
/-- a method's own meaning -/
def xZ : Type := { w : List xV → xM → xR → Prop // ∀ (a : List xV) (M : xM) (R R' : xR), (∀ a b, R a b → R' a b) → w a M R → w a M R' }
def xWP (pg : Nat → xI) (pc : Nat) (f : xF) (R : xR) : Prop := ∀ P : xK, (∀ pc f, (pg pc).1 f P R → P pc f) → P pc f
theorem xmk {pg : Nat → xI} {pc : Nat} {f : xF} {R : xR} (h : (pg pc).1 f (fun a b => xWP pg a b R) R) : xWP pg pc f R :=
  fun P hP => hP pc f ((pg pc).2 _ _ _ _ _ (fun _ _ hw => hw P hP) (fun _ _ h => h) h)
theorem xWP_mono {pg : Nat → xI} {pc : Nat} {f : xF} {R R' : xR} (hR : ∀ a b, R a b → R' a b) (h : xWP pg pc f R) : xWP pg pc f R' :=
  fun P hP => h P (fun pc f hi => hP pc f ((pg pc).2 _ _ _ _ _ (fun _ _ h => h) hR hi))
/-- k instructions at once; it stays at the places S -/
def xit (S : List Nat) (pg : Nat → xI) (R : xR) : Nat → Nat → xF → Prop
  | 0, pc, f => xWP pg pc f R
  | k + 1, pc, f => (pg pc).1 f (fun a b => cond (S.contains a) (xWP pg a b R) (xit S pg R k a b)) R
theorem xgo {pg : Nat → xI} {R : xR} (S : List Nat) : ∀ (k : Nat) {pc : Nat} {f : xF}, xit S pg R k pc f → xWP pg pc f R
  | 0, _, _, h => h
  | k + 1, pc, f, h => xmk ((pg pc).2 _ _ _ _ _ (fun a b hw => by
      cases hS : S.contains a with
      | true => rw [hS] at hw; exact hw
      | false => rw [hS] at hw; exact xgo S k hw) (fun _ _ h => h) h)
/-! the forms of instructions -/
def xdet (g : xF → Option (Nat × xF)) : xI := ⟨fun f K _ => match g f with
  | some (n, f') => K n f'
  | none => False, fun f K K' R R' hK _ h => by
    dsimp only at h ⊢
    revert h
    cases g f with
    | none => exact fun h => h
    | some q => exact fun h => hK _ _ h⟩
def xdec (g : xF → Option (Prop × (Nat × xF))) : xI := ⟨fun f K _ => match g f with
  | some (c, n, f') => c ∧ K n f'
  | none => False, fun f K K' R R' hK _ h => by
    dsimp only at h ⊢
    revert h
    cases g f with
    | none => exact fun h => h
    | some q => exact fun h => ⟨h.1, hK _ _ h.2⟩⟩
def xbr (g : xF → Option (Prop × (Nat × (Nat × xF)))) : xI := ⟨fun f K _ => match g f with
  | some (c, t, n, f') => (c → K t f') ∧ (¬ c → K n f')
  | none => False, fun f K K' R R' hK _ h => by
    dsimp only at h ⊢
    revert h
    cases g f with
    | none => exact fun h => h
    | some q => exact fun h => ⟨fun c => hK _ _ (h.1 c), fun c => hK _ _ (h.2 c)⟩⟩
def xre (g : xF → Option (Prop × (Option xV × xM))) : xI := ⟨fun f _ R => match g f with
  | some (c, v, M) => c ∧ R v M
  | none => False, fun f K K' R R' _ hR h => by
    dsimp only at h ⊢
    revert h
    cases g f with
    | none => exact fun h => h
    | some q => exact fun h => ⟨h.1, hR _ _ h.2⟩⟩
def xsw (a : Int32) (d : Nat) (k : Nat → Prop) : List (Int32 × Nat) → Prop
  | [] => k d
  | (c, t) :: r => (a = c → k t) ∧ (¬ a = c → xsw a d k r)
theorem xsw_mono {a : Int32} {d : Nat} {k k' : Nat → Prop} (h : ∀ n, k n → k' n) : ∀ (r : List (Int32 × Nat)), xsw a d k r → xsw a d k' r
  | [], q => h _ q
  | (_, _) :: r, q => ⟨fun c => h _ (q.1 c), fun c => xsw_mono h r (q.2 c)⟩
def xswi (d : Nat) (r : List (Int32 × Nat)) : xI := ⟨fun f K _ => match f with
  | (ls, .inl a :: st, M) => xsw a d (fun n => K n (ls, st, M)) r
  | _ => False, fun f K K' R R' hK _ h => by
    obtain ⟨ls, st, M⟩ := f
    match st, h with
    | .inl a :: st, h => exact xsw_mono (fun n => hK _ _) r h
    | [], h => exact h
    | .inr _ :: _, h => exact h⟩
def xcat : xV → Nat
  | .inr (.inl _) => 2
  | _ => 1
def xcs : List xV → Nat
  | [] => 0
  | v :: r => xcat v + xcs r
def xpop : Nat → List xV → List xV → Option (List xV × List xV)
  | 0, st, acc => some (acc, st)
  | _ + 1, [], _ => none
  | n + 1, v :: st, acc => xpop n st (v :: acc)
/-- a call of a method that has the meaning w, with n values on the stack; 'ok' looks at the receiver -/
def xcall (ok : List xV → Bool) (w : xZ) (n nx : Nat) : xI := ⟨fun f K _ => match f with
  | (ls, st, M) => match xpop n st [] with
    | some (as, rest) => (ok as && Nat.ble (xcs rest) 8) = true ∧ w.1 as M (fun v M' => K nx (ls, v.toList ++ rest, M'))
    | none => False, fun f K K' R R' hK _ h => by
    obtain ⟨ls, st, M⟩ := f
    dsimp only at h ⊢
    revert h
    show (match xpop n st [] with
      | some (as, rest) => (ok as && Nat.ble (xcs rest) 8) = true ∧ w.1 as M (fun v M' => K nx (ls, v.toList ++ rest, M'))
      | none => False) → (match xpop n st [] with
      | some (as, rest) => (ok as && Nat.ble (xcs rest) 8) = true ∧ w.1 as M (fun v M' => K' nx (ls, v.toList ++ rest, M'))
      | none => False)
    cases xpop n st [] with
    | none => exact fun h => h
    | some q => exact fun h => ⟨h.1, w.2 _ _ _ _ (fun _ _ => hK _ _) h.2⟩⟩
def xst : xI := ⟨fun _ _ _ => False, fun _ _ _ _ _ _ _ h => h⟩
/-! locals -/
def xget : List (Option xV) → Nat → Option xV
  | [], _ => none
  | a :: _, 0 => a
  | _ :: l, n + 1 => xget l n
def xst1 : List (Option xV) → Nat → xV → List (Option xV)
  | [], _, _ => []
  | _ :: l, 0, v => some v :: l
  | some (.inr (.inl _)) :: l, 1, v => none :: xst1 l 0 v
  | a :: l, n + 1, v => a :: xst1 l n v
def xclr : List (Option xV) → List (Option xV)
  | [] => []
  | _ :: l => none :: l
def xst2 : List (Option xV) → Nat → xV → List (Option xV)
  | [], _, _ => []
  | _ :: l, 0, v => some v :: xclr l
  | some (.inr (.inl _)) :: l, 1, v => none :: xst2 l 0 v
  | a :: l, n + 1, v => a :: xst2 l n v
def xent : Nat → List xV → List (Option xV)
  | 0, _ => []
  | n + 1, [] => none :: xent n []
  | n + 2, .inr (.inl a) :: r => some (.inr (.inl a)) :: none :: xent n r
  | n + 1, v :: r => some v :: xent n r
def xmet (pg : Nat → xI) (mL : Nat) : xZ := ⟨fun as M R => xWP pg 0 (xent mL as, [], M) R, fun _ _ _ _ hR h => xWP_mono hR h⟩
def x_push (v : xV) (nx : Nat) : xI := xdet fun f => match f with
  | (ls, st, M) => some (nx, (ls, v :: st, M))
def x_ild (i nx : Nat) : xI := xdet fun f => match f with
  | (ls, st, M) => match xget ls i with
    | some (.inl a) => some (nx, ls, (.inl a) :: st, M)
    | _ => none
def x_lld (i nx : Nat) : xI := xdet fun f => match f with
  | (ls, st, M) => match xget ls i with
    | some (.inr (.inl a)) => some (nx, ls, (.inr (.inl a)) :: st, M)
    | _ => none
def x_ald (i nx : Nat) : xI := xdet fun f => match f with
  | (ls, st, M) => match xget ls i with
    | some (.inr (.inr a)) => some (nx, ls, (.inr (.inr a)) :: st, M)
    | _ => none
def x_ist (i nx : Nat) : xI := xdet fun f => match f with
  | (ls, (.inl a) :: st, M) => some (nx, xst1 ls i (.inl a), st, M)
  | _ => none
def x_lst (i nx : Nat) : xI := xdet fun f => match f with
  | (ls, (.inr (.inl a)) :: st, M) => some (nx, xst2 ls i (.inr (.inl a)), st, M)
  | _ => none
def x_ast (i nx : Nat) : xI := xdet fun f => match f with
  | (ls, (.inr (.inr a)) :: st, M) => some (nx, xst1 ls i (.inr (.inr a)), st, M)
  | _ => none
def x_iinc (i : Nat) (n : Int32) (nx : Nat) : xI := xdet fun f => match f with
  | (ls, st, M) => match xget ls i with
    | some (.inl a) => some (nx, xst1 ls i (.inl (a + n)), st, M)
    | _ => none
def x_iadd (nx : Nat) : xI := xdet fun f => match f with
  | (ls, .inl b :: .inl a :: st, M) => some (nx, (ls, .inl (a + b) :: st, M))
  | _ => none
def x_isub (nx : Nat) : xI := xdet fun f => match f with
  | (ls, .inl b :: .inl a :: st, M) => some (nx, (ls, .inl (a - b) :: st, M))
  | _ => none
def x_imul (nx : Nat) : xI := xdet fun f => match f with
  | (ls, .inl b :: .inl a :: st, M) => some (nx, (ls, .inl (a * b) :: st, M))
  | _ => none
def x_iand (nx : Nat) : xI := xdet fun f => match f with
  | (ls, .inl b :: .inl a :: st, M) => some (nx, (ls, .inl (a &&& b) :: st, M))
  | _ => none
def x_ior (nx : Nat) : xI := xdet fun f => match f with
  | (ls, .inl b :: .inl a :: st, M) => some (nx, (ls, .inl (a ||| b) :: st, M))
  | _ => none
def x_ixor (nx : Nat) : xI := xdet fun f => match f with
  | (ls, .inl b :: .inl a :: st, M) => some (nx, (ls, .inl (a ^^^ b) :: st, M))
  | _ => none
def x_ishl (nx : Nat) : xI := xdet fun f => match f with
  | (ls, .inl b :: .inl a :: st, M) => some (nx, (ls, .inl (a <<< (b &&& 31)) :: st, M))
  | _ => none
def x_ishr (nx : Nat) : xI := xdet fun f => match f with
  | (ls, .inl b :: .inl a :: st, M) => some (nx, (ls, .inl (a >>> (b &&& 31)) :: st, M))
  | _ => none
def x_iushr (nx : Nat) : xI := xdet fun f => match f with
  | (ls, .inl b :: .inl a :: st, M) => some (nx, (ls, .inl ((a.toUInt32 >>> (b.toUInt32 &&& Int32.toUInt32 31)).toInt32) :: st, M))
  | _ => none
def x_idiv (nx : Nat) : xI := xdec fun f => match f with
  | (ls, .inl b :: .inl a :: st, M) => some (¬ b = 0, nx, (ls, .inl (a / b) :: st, M))
  | _ => none
def x_irem (nx : Nat) : xI := xdec fun f => match f with
  | (ls, .inl b :: .inl a :: st, M) => some (¬ b = 0, nx, (ls, .inl (a - a / b * b) :: st, M))
  | _ => none
def x_ineg (nx : Nat) : xI := xdet fun f => match f with
  | (ls, .inl a :: st, M) => some (nx, (ls, .inl (-a) :: st, M))
  | _ => none
def x_ladd (nx : Nat) : xI := xdet fun f => match f with
  | (ls, .inr (.inl b) :: .inr (.inl a) :: st, M) => some (nx, (ls, .inr (.inl (a + b)) :: st, M))
  | _ => none
def x_lsub (nx : Nat) : xI := xdet fun f => match f with
  | (ls, .inr (.inl b) :: .inr (.inl a) :: st, M) => some (nx, (ls, .inr (.inl (a - b)) :: st, M))
  | _ => none
def x_lmul (nx : Nat) : xI := xdet fun f => match f with
  | (ls, .inr (.inl b) :: .inr (.inl a) :: st, M) => some (nx, (ls, .inr (.inl (a * b)) :: st, M))
  | _ => none
def x_ldiv (nx : Nat) : xI := xdec fun f => match f with
  | (ls, .inr (.inl b) :: .inr (.inl a) :: st, M) => some (¬ b = 0, nx, (ls, .inr (.inl (a / b)) :: st, M))
  | _ => none
def x_lrem (nx : Nat) : xI := xdec fun f => match f with
  | (ls, .inr (.inl b) :: .inr (.inl a) :: st, M) => some (¬ b = 0, nx, (ls, .inr (.inl (a - a / b * b)) :: st, M))
  | _ => none
def x_lcmp (nx : Nat) : xI := xdet fun f => match f with
  | (ls, .inr (.inl b) :: .inr (.inl a) :: st, M) => some (nx, (ls, .inl (lg_cmp a b) :: st, M))
  | _ => none
def x_i2l (nx : Nat) : xI := xdet fun f => match f with
  | (ls, .inl a :: st, M) => some (nx, (ls, .inr (.inl a.toInt64) :: st, M))
  | _ => none
def x_i2c (nx : Nat) : xI := xdet fun f => match f with
  | (ls, .inl a :: st, M) => some (nx, (ls, .inl (a.toUInt32 % 65536).toInt32 :: st, M))
  | _ => none
def x_dupi (nx : Nat) : xI := xdet fun f => match f with
  | (ls, .inl a :: st, M) => some (nx, (ls, .inl a :: .inl a :: st, M))
  | _ => none
def x_popi (nx : Nat) : xI := xdet fun f => match f with
  | (ls, .inl a :: st, M) => some (nx, (ls, st, M))
  | _ => none
def x_dupo (nx : Nat) : xI := xdet fun f => match f with
  | (ls, .inr (.inr a) :: st, M) => some (nx, (ls, .inr (.inr a) :: .inr (.inr a) :: st, M))
  | _ => none
def x_popo (nx : Nat) : xI := xdet fun f => match f with
  | (ls, .inr (.inr a) :: st, M) => some (nx, (ls, st, M))
  | _ => none
def x_dup2 (nx : Nat) : xI := xdet fun f => match f with
  | (ls, .inl b :: .inr (.inr a) :: st, M) => some (nx, (ls, .inl b :: .inr (.inr a) :: .inl b :: .inr (.inr a) :: st, M))
  | _ => none
def x_ifeq (tg nx : Nat) : xI := xbr fun f => match f with
  | (ls, .inl a :: st, M) => some (a = 0, tg, nx, ls, st, M)
  | _ => none
def x_iflt (tg nx : Nat) : xI := xbr fun f => match f with
  | (ls, .inl a :: st, M) => some (a < 0, tg, nx, ls, st, M)
  | _ => none
def x_ifge (tg nx : Nat) : xI := xbr fun f => match f with
  | (ls, .inl a :: st, M) => some (0 ≤ a, tg, nx, ls, st, M)
  | _ => none
def x_ifgt (tg nx : Nat) : xI := xbr fun f => match f with
  | (ls, .inl a :: st, M) => some (0 < a, tg, nx, ls, st, M)
  | _ => none
def x_ifle (tg nx : Nat) : xI := xbr fun f => match f with
  | (ls, .inl a :: st, M) => some (a ≤ 0, tg, nx, ls, st, M)
  | _ => none
def x_iceq (tg nx : Nat) : xI := xbr fun f => match f with
  | (ls, .inl b :: .inl a :: st, M) => some (a = b, tg, nx, ls, st, M)
  | _ => none
def x_iclt (tg nx : Nat) : xI := xbr fun f => match f with
  | (ls, .inl b :: .inl a :: st, M) => some (a < b, tg, nx, ls, st, M)
  | _ => none
def x_icge (tg nx : Nat) : xI := xbr fun f => match f with
  | (ls, .inl b :: .inl a :: st, M) => some (b ≤ a, tg, nx, ls, st, M)
  | _ => none
def x_icgt (tg nx : Nat) : xI := xbr fun f => match f with
  | (ls, .inl b :: .inl a :: st, M) => some (b < a, tg, nx, ls, st, M)
  | _ => none
def x_icle (tg nx : Nat) : xI := xbr fun f => match f with
  | (ls, .inl b :: .inl a :: st, M) => some (a ≤ b, tg, nx, ls, st, M)
  | _ => none
def x_ifne (tg nx : Nat) : xI := xbr fun f => match f with
  | (ls, .inl a :: st, M) => some (a = 0, nx, tg, ls, st, M)
  | _ => none
def x_icne (tg nx : Nat) : xI := xbr fun f => match f with
  | (ls, .inl b :: .inl a :: st, M) => some (a = b, nx, tg, ls, st, M)
  | _ => none
def x_goto (nx : Nat) : xI := xdet fun f => match f with
  | (ls, st, M) => some (nx, (ls, st, M))
def xal : xOb → Option Nat
  | .inl _ => none
  | .inr (.inl _) => some 6
  | .inr (.inr (.inl _)) => some 47
  | .inr (.inr (.inr n)) => match n with
    | 3 => some 96
    | 4 => some 16
    | 5 => some 7
    | 6 => some 96
    | 7 => some 16
    | 8 => some 7
    | 9 => some 3
    | _ => none
def xci : xOb → Nat
  | .inl _ => 0
  | .inr (.inl _) => 9
  | .inr (.inr (.inl _)) => 9
  | .inr (.inr (.inr n)) => match n with
    | 0 => 2
    | 1 => 1
    | 2 => 3
    | _ => 9
def xfl (o : xOb) (g : Nat → Int32) : List xV := match o with
  | .inl i => [xo (xA 0 i), xo (xA 1 i), xo (xA 2 i), xo (xA 3 i), xo (xA 4 i), xi (g 5), xi (g 6), xi (g 7), xi (g 8), xi (g 9), xi (g 10), xi (g 11)]
  | .inr (.inl _) => []
  | .inr (.inr (.inl _)) => []
  | .inr (.inr (.inr n)) => match n with
    | 0 => [xo (xH 0), xo (xH 1), xo (xH 2), xo (xN 1), xo (xN 4), xo (xN 5), xi (g 6), xi (g 7)]
    | 1 => [xo (xN 3), xi (g 1)]
    | 2 => [xo (xW 0), xo (xW 1), xo (xW 2), xo (xW 3), xi (g 4), xo (xN 6), xo (xN 7), xo (xN 8), xi (g 8), xi (g 9), xi (g 10), xo (xN 9), xi (g 12)]
    | _ => []
def xup (M : xM) (o : xOb) (k : Nat) (v : Int32) : xM := fun o' => if o' = o then upd (M o) k v else M o'
def xat (l : List xV) (k : Nat) : Option xV := match l, k with
  | [], _ => none
  | a :: _, 0 => some a
  | _ :: l, k + 1 => xat l k
def x_get (ci k nx : Nat) : xI := xdet fun f => match f with
  | (ls, .inr (.inr o) :: st, M) => cond (Nat.beq (xci o) ci) (match xat (xfl o (M o)) k with
    | some v => some (nx, ls, v :: st, M)
    | none => none) none
  | _ => none
def x_put (ci k nx : Nat) : xI := xdet fun f => match f with
  | (ls, .inl a :: .inr (.inr o) :: st, M) => cond (Nat.beq (xci o) ci) (some (nx, ls, st, xup M o k a)) none
  | _ => none
def x_putz (ci k nx : Nat) : xI := xdec fun f => match f with
  | (ls, .inl a :: .inr (.inr o) :: st, M) => cond (Nat.beq (xci o) ci) (some (a = 0 ∨ a = 1, nx, ls, st, xup M o k a)) none
  | _ => none
def x_iald (nx : Nat) : xI := xdec fun f => match f with
  | (ls, .inl a :: .inr (.inr o) :: st, M) => match xal o with
    | some n => some (vp_in a n, nx, ls, .inl (M o a.toNatClampNeg) :: st, M)
    | none => none
  | _ => none
def x_iast (nx : Nat) : xI := xdec fun f => match f with
  | (ls, .inl b :: .inl a :: .inr (.inr o) :: st, M) => match xal o with
    | some n => some (vp_in a n, nx, ls, st, xup M o a.toNatClampNeg b)
    | none => none
  | _ => none
def x_min (nx : Nat) : xI := xdet fun f => match f with
  | (ls, .inl b :: .inl a :: st, M) => cond (Nat.ble (xcs st) 8) (some (nx, ls, .inl (if b < a then b else a) :: st, M)) none
  | _ => none
def x_max (nx : Nat) : xI := xdet fun f => match f with
  | (ls, .inl b :: .inl a :: st, M) => cond (Nat.ble (xcs st) 8) (some (nx, ls, .inl (if a < b then b else a) :: st, M)) none
  | _ => none
def x_iret : xI := xre fun f => match f with
  | (_, [.inl a], M) => some (True, some (.inl a), M)
  | _ => none
def x_zret : xI := xre fun f => match f with
  | (_, [.inl a], M) => some (a = 0 ∨ a = 1, some (.inl a), M)
  | _ => none
def x_lret : xI := xre fun f => match f with
  | (_, [.inr (.inl a)], M) => some (True, some (.inr (.inl a)), M)
  | _ => none
def x_aret : xI := xre fun f => match f with
  | (_, [.inr (.inr a)], M) => some (True, some (.inr (.inr a)), M)
  | _ => none
def x_vret : xI := xre fun f => match f with
  | (_, [], M) => some (True, none, M)
  | _ => none
/-! the world of the machine's cells -/
def xobs : List xOb := [xN 0, xH 0, xA 0 0, xA 1 0, xA 2 0, xA 3 0, xA 4 0, xH 1, xA 0 1, xA 1 1, xA 2 1, xA 3 1, xA 4 1, xH 2, xA 0 2, xA 1 2, xA 2 2, xA 3 2, xA 4 2, xN 1, xN 3, xN 4, xN 5, xN 2, xW 0, xW 1, xW 2, xW 3, xN 6, xN 7, xN 8, xN 9]
def xix : xOb → Nat
  | .inl i => 1 + 6 * i.val
  | .inr (.inl (k, i)) => 2 + 6 * i.val + k.val
  | .inr (.inr (.inl r)) => 24 + r.val
  | .inr (.inr (.inr n)) => match n with
    | 0 => 0
    | 1 => 19
    | 2 => 23
    | 3 => 20
    | 4 => 21
    | 5 => 22
    | 6 => 28
    | 7 => 29
    | 8 => 30
    | 9 => 31
    | n => n + 22
theorem xobs_ix : ∀ j : Nat, j < 32 → (xobs[j]?).map xix = some j := by decide +kernel
theorem xobs_at : ∀ j : Nat, ∀ o, xobs[j]? = some o → xix o = j := by
  intro j o h
  have hj : j < 32 := (List.getElem?_eq_some_iff.mp h).1
  have h1 := xobs_ix j hj
  rw [h] at h1
  exact Option.some.inj h1
theorem xobs_H : ∀ i : Fin 3, xobs[xix (xH i)]? = some (xH i) := by decide +kernel
theorem xobs_A : ∀ (k : Fin 5) (i : Fin 3), xobs[xix (xA k i)]? = some (xA k i) := by decide +kernel
theorem xobs_W : ∀ r : Fin 4, xobs[xix (xW r)]? = some (xW r) := by decide +kernel
theorem xobs_N : ∀ n : Nat, n < 10 → xobs[xix (xN n)]? = some (xN n) := fun n h => match n, h with
  | 0, _ => rfl
  | 1, _ => rfl
  | 2, _ => rfl
  | 3, _ => rfl
  | 4, _ => rfl
  | 5, _ => rfl
  | 6, _ => rfl
  | 7, _ => rfl
  | 8, _ => rfl
  | 9, _ => rfl
  | k + 10, h => absurd h (by omega)
theorem xobs_ar : ∀ (o : xOb) (n : Nat), xal o = some n → xobs[xix o]? = some o
  | .inl _, _, h => by cases h
  | .inr (.inl (k, i)), _, _ => xobs_A k i
  | .inr (.inr (.inl r)), _, _ => xobs_W r
  | .inr (.inr (.inr q)), n, h => by
    by_cases hq : q < 10
    · exact xobs_N q hq
    · obtain ⟨q, rfl⟩ : ∃ k, q = k + 10 := ⟨q - 10, by omega⟩
      cases h
theorem xobs_cl : ∀ (o : xOb), xci o < 4 → xobs[xix o]? = some o
  | .inl i, _ => xobs_H i
  | .inr (.inl (k, i)), _ => xobs_A k i
  | .inr (.inr (.inl r)), _ => xobs_W r
  | .inr (.inr (.inr q)), h => by
    by_cases hq : q < 10
    · exact xobs_N q hq
    · obtain ⟨q, rfl⟩ : ∃ k, q = k + 10 := ⟨q - 10, by omega⟩
      exact absurd h (by show ¬ (9 < 4); omega)
theorem xal_cl : ∀ (o : xOb), xci o < 4 → xal o = none
  | .inl _, _ => rfl
  | .inr (.inl _), h => absurd h (by show ¬ (9 < 4); omega)
  | .inr (.inr (.inl _)), h => absurd h (by show ¬ (9 < 4); omega)
  | .inr (.inr (.inr 0)), _ => rfl
  | .inr (.inr (.inr 1)), _ => rfl
  | .inr (.inr (.inr 2)), _ => rfl
  | .inr (.inr (.inr (_ + 3))), h => absurd h (by show ¬ (9 < 4); omega)
def xtv (ad : xOb → Nat) : xV → Value
  | .inl a => .int a
  | .inr (.inl a) => .long a
  | .inr (.inr o) => .ref (ad o)
theorem xtv_cat (ad : xOb → Nat) : ∀ v : xV, (xtv ad v).category = xcat v
  | .inl _ => rfl
  | .inr (.inl _) => rfl
  | .inr (.inr _) => rfl
def xen (ad : xOb → Nat) (cA : ClassId) (o : xOb) (g : Nat → Int32) : va_E := match xal o with
  | some n => .inl (cA, n, .inl g)
  | none => .inr (xci o, (xfl o g).map (xtv ad))
def xwd (ad : xOb → Nat) (cA : ClassId) (M : xM) : va_W := xobs.map (fun o => (ad o, xen ad cA o (M o)))
theorem xwd_at {ad : xOb → Nat} {cA : ClassId} {M : xM} {o : xOb} (h : xobs[xix o]? = some o) : (xwd ad cA M)[xix o]? = some (ad o, xen ad cA o (M o)) := by
  unfold xwd
  rw [List.getElem?_map, h]
  rfl
theorem xwd_set {ad : xOb → Nat} {cA : ClassId} {M : xM} {o : xOb} (h : xobs[xix o]? = some o) (g : Nat → Int32) : (xwd ad cA M).set (xix o) (ad o, xen ad cA o g) = xwd ad cA (fun o' => if o' = o then g else M o') := by
  apply List.ext_getElem?
  intro j
  have hl : xix o < xobs.length := (List.getElem?_eq_some_iff.mp h).1
  by_cases hj : j = xix o
  · subst hj
    rw [List.getElem?_set_self (by unfold xwd; rw [List.length_map]; exact hl)]
    unfold xwd
    rw [List.getElem?_map, h]
    simp
  · rw [List.getElem?_set_ne (fun q => hj q.symm)]
    unfold xwd
    rw [List.getElem?_map, List.getElem?_map]
    cases hq : xobs[j]? with
    | none => rfl
    | some o' =>
      have hne : ¬ o' = o := fun q => hj (by rw [← xobs_at j o' hq, q])
      simp [hne]
def xAd (ad : xOb → Nat) : Nat → Prop := fun q => ∃ (j : Nat) (o : xOb), xobs[j]? = some o ∧ q = ad o
def xJ (ad : xOb → Nat) : Prop := ∀ (i j : Nat) (o o' : xOb), xobs[i]? = some o → xobs[j]? = some o' → ad o = ad o' → i = j
theorem xwd_D {ad : xOb → Nat} {cA : ClassId} {M : xM} (hJ : xJ ad) : va_D (xAd ad) (xwd ad cA M) := by
  have key : ∀ (k : Nat) (q : Nat × va_E), (xwd ad cA M)[k]? = some q → ∃ o, xobs[k]? = some o ∧ q.1 = ad o := by
    intro k q hk
    unfold xwd at hk
    rw [List.getElem?_map] at hk
    cases ho : xobs[k]? with
    | none => rw [ho] at hk; cases hk
    | some o => rw [ho] at hk; cases hk; exact ⟨o, rfl, rfl⟩
  refine ⟨fun i j a b hi hj hab => ?_, fun k q hk => ?_⟩
  · obtain ⟨o, h1, h2⟩ := key i a hi
    obtain ⟨o', h3, h4⟩ := key j b hj
    exact hJ i j o o' h1 h3 (by rw [← h2, ← h4]; exact hab)
  · obtain ⟨o, h1, h2⟩ := key k q hk
    exact ⟨k, o, h1, h2⟩
/-- the String constants, the statics that their methods read -/
def xlen : List Nat := [4, 3, 4, 2, 0, 6]
def xbyt : List (List Int32) := [[107, 100, 100, 59], [100, 100, 59], [100, 100, 100, 59], [100, 59], [], [112, 119, 115, 109, 116, 108]]
def xtx : List (Nat × String) := [(52, "kdd;"), (54, "dd;"), (56, "ddd;"), (58, "d;"), (60, ""), (65, "pwsmtl")]
def xStr (ad : xOb → Nat) (s : State) : Prop :=
  va_Z "java/lang/String" "COMPACT_STRINGS" "Z" (.int 1) (xAd ad) s s.heap ∧ va_Zq "jdk/internal/util/Preconditions" "SIOOBE_FORMATTER" "Ljava/util/function/BiFunction;" (xAd ad) s s.heap ∧
  vk_S 6 xlen xbyt (fun i => ad (xN (20 + i))) (fun i => ad (xN (40 + i))) (xAd ad) s s.heap ∧
  ∀ i q, xtx[i]? = some q → vk_R RX1 q.1 q.2 (ad (xN (20 + i))) s
def xSx (D : va_G) (cA : ClassId) (ad : xOb → Nat) (s : State) : Prop := va_K D vwCl [(cA, .int)] s ∧ xJ ad ∧ xStr ad s
theorem xSx_same {D : va_G} {cA : ClassId} {ad : xOb → Nat} {u U : State} (hv : U.vm = u.vm) (hh : U.heap = u.heap) (h : xSx D cA ad u) : xSx D cA ad U := by
  have ha : u.vm.Alike U.vm := by rw [hv]; exact Vm.Alike.refl u.vm
  obtain ⟨h1, h2, h3, h4, h5, h6⟩ := h
  exact ⟨va_K.moved ha h1, h2, by rw [hh]; exact h3.moved ha, by rw [hh]; exact h4.moved ha, by rw [hh]; exact h5.moved ha, fun i q hq => (h6 i q hq).same hv⟩
theorem xSx_warm {D : va_G} {cA : ClassId} {ad : xOb → Nat} {s U : State} {locs : List Loc} (hW : s.WarmedH U.vm) (hS : va_S (xAd ad) s.heap U.heap locs) (h : xSx D cA ad s) : xSx D cA ad U := by
  have ha := hW.alike
  obtain ⟨h1, h2, h3, h4, h5, h6⟩ := h
  exact ⟨va_K.moved ha h1, h2, (h3.kept hS.2.1).moved ha, (h4.kept hS.2.1).moved ha, (h5.kept hS.2.1).moved ha, fun i q hq => (h6 i q hq).warm hW⟩
def xPre (D : va_G) (cA : ClassId) (ad : xOb → Nat) (as : List xV) (M : xM) : Array Value → State → Prop := fun v U => v = (as.map (xtv ad)).toArray ∧ va_P D vwCl (xwd ad cA M) U.heap ∧ xSx D cA ad U
def xPost (D : va_G) (cA : ClassId) (ad : xOb → Nat) (Rt : xR) : Array Value → State → Outcome → State → Prop := fun _ st oc t => (∃ (v : Option xV) (M : xM), oc = .returned (v.map (xtv ad)) ∧ Rt v M ∧ va_P D vwCl (xwd ad cA M) t.heap) ∧ va_F (xAd ad) st t
theorem xPre_blind {D : va_G} {cA : ClassId} {ad : xOb → Nat} {as : List xV} {M : xM} : FrameBlind (xPre D cA ad as M) := fun a U g mk h => ⟨h.1, h.2.1, xSx_same (u := U) (U := U.calling g mk a) rfl rfl h.2.2⟩
/-- the locals that a frame's list tells -/
def xas (ad : xOb → Nat) : Nat → List (Option xV) → List (Nat × Value)
  | _, [] => []
  | k, none :: l => xas ad (k + 1) l
  | k, some v :: l => (k, xtv ad v) :: xas ad (k + 1) l
theorem xas_get {ad : xOb → Nat} : ∀ (L : List (Option xV)) (k i : Nat) (v : xV), xget L i = some v → (k + i, xtv ad v) ∈ xas ad k L
  | [], _, _, _, h => by cases h
  | none :: l, k, 0, v, h => by cases h
  | some w :: l, k, 0, v, h => by
    cases h
    exact List.mem_cons_self
  | none :: l, k, i + 1, v, h => by
    have := xas_get (ad := ad) l (k + 1) i v h
    rw [show k + (i + 1) = k + 1 + i by omega]
    exact this
  | some w :: l, k, i + 1, v, h => by
    have := xas_get (ad := ad) l (k + 1) i v h
    rw [show k + (i + 1) = k + 1 + i by omega]
    exact List.mem_cons_of_mem _ this
theorem xas_mem {ad : xOb → Nat} : ∀ (L : List (Option xV)) (k : Nat) (q : Nat × Value), q ∈ xas ad k L → ∃ i v, q = (k + i, xtv ad v) ∧ xget L i = some v
  | [], _, _, h => by cases h
  | none :: l, k, q, h => by
    obtain ⟨i, v, h1, h2⟩ := xas_mem l (k + 1) q h
    exact ⟨i + 1, v, by rw [h1, show k + 1 + i = k + (i + 1) by omega], h2⟩
  | some w :: l, k, q, h => by
    rcases List.mem_cons.mp h with h | h
    · exact ⟨0, w, h, rfl⟩
    · obtain ⟨i, v, h1, h2⟩ := xas_mem l (k + 1) q h
      exact ⟨i + 1, v, by rw [h1, show k + 1 + i = k + (i + 1) by omega], h2⟩
def xLk (ad : xOb → Nat) (ls : Array Slot) (mL : Nat) (L : List (Option xV)) : Prop := L.length = mL ∧ lv_has ls mL (xas ad 0 L)
theorem xLk_at {ad : xOb → Nat} {ls : Array Slot} {mL : Nat} {L : List (Option xV)} (h : xLk ad ls mL L) {i : Nat} {v : xV} (hv : xget L i = some v) : ls[i]? = some (.val (xtv ad v)) := by
  have := h.2.2.2 _ (xas_get L 0 i v hv)
  rw [Nat.zero_add] at this
  exact this
theorem xst1_len : ∀ (L : List (Option xV)) (i : Nat) (v : xV), (xst1 L i v).length = L.length
  | [], _, _ => rfl
  | _ :: l, 0, v => rfl
  | some (.inr (.inl _)) :: l, 1, v => by show (none :: xst1 l 0 v).length = _; rw [List.length_cons, xst1_len l 0 v]; rfl
  | none :: l, 1, v => by show (none :: xst1 l 0 v).length = _; rw [List.length_cons, xst1_len l 0 v]; rfl
  | some (.inl a) :: l, 1, v => by show (some (.inl a) :: xst1 l 0 v).length = _; rw [List.length_cons, xst1_len l 0 v]; rfl
  | some (.inr (.inr a)) :: l, 1, v => by show (some (.inr (.inr a)) :: xst1 l 0 v).length = _; rw [List.length_cons, xst1_len l 0 v]; rfl
  | a :: l, n + 2, v => by rw [show xst1 (a :: l) (n + 2) v = a :: xst1 l (n + 1) v by cases a <;> simp [xst1], List.length_cons, xst1_len l (n + 1) v]; rfl
theorem xst1_get : ∀ (L : List (Option xV)) (i : Nat) (v : xV) (j : Nat) (w : xV), xget (xst1 L i v) j = some w → (j = i ∧ w = v) ∨ (j ≠ i ∧ xget L j = some w ∧ ¬ (j + 1 = i ∧ xcat w = 2))
  | [], _, _, _, _, h => by cases h
  | _ :: l, 0, v, 0, w, h => Or.inl ⟨rfl, (Option.some.inj h).symm⟩
  | _ :: l, 0, v, j + 1, w, h => Or.inr ⟨by omega, h, fun q => by omega⟩
  | some (.inr (.inl _)) :: l, 1, v, 0, w, h => by cases h
  | some (.inr (.inl _)) :: l, 1, v, j + 1, w, h => by
    rcases xst1_get l 0 v j w h with ⟨a, b⟩ | ⟨a, b, c⟩
    · exact Or.inl ⟨by omega, b⟩
    · exact Or.inr ⟨by omega, b, fun q => c ⟨by omega, q.2⟩⟩
  | none :: l, 1, v, 0, w, h => by cases h
  | none :: l, 1, v, j + 1, w, h => by
    rcases xst1_get l 0 v j w h with ⟨a, b⟩ | ⟨a, b, c⟩
    · exact Or.inl ⟨by omega, b⟩
    · exact Or.inr ⟨by omega, b, fun q => c ⟨by omega, q.2⟩⟩
  | some (.inl a) :: l, 1, v, 0, w, h => by
    cases h
    exact Or.inr ⟨by omega, rfl, fun q => by cases q.2⟩
  | some (.inl a) :: l, 1, v, j + 1, w, h => by
    rcases xst1_get l 0 v j w h with ⟨a, b⟩ | ⟨a, b, c⟩
    · exact Or.inl ⟨by omega, b⟩
    · exact Or.inr ⟨by omega, b, fun q => c ⟨by omega, q.2⟩⟩
  | some (.inr (.inr a)) :: l, 1, v, 0, w, h => by
    cases h
    exact Or.inr ⟨by omega, rfl, fun q => by cases q.2⟩
  | some (.inr (.inr a)) :: l, 1, v, j + 1, w, h => by
    rcases xst1_get l 0 v j w h with ⟨a, b⟩ | ⟨a, b, c⟩
    · exact Or.inl ⟨by omega, b⟩
    · exact Or.inr ⟨by omega, b, fun q => c ⟨by omega, q.2⟩⟩
  | a :: l, n + 2, v, 0, w, h => by
    rw [show xst1 (a :: l) (n + 2) v = a :: xst1 l (n + 1) v by cases a <;> simp [xst1]] at h
    exact Or.inr ⟨by omega, h, fun q => by omega⟩
  | a :: l, n + 2, v, j + 1, w, h => by
    rw [show xst1 (a :: l) (n + 2) v = a :: xst1 l (n + 1) v by cases a <;> simp [xst1]] at h
    rcases xst1_get l (n + 1) v j w h with ⟨a, b⟩ | ⟨a, b, c⟩
    · exact Or.inl ⟨by omega, b⟩
    · exact Or.inr ⟨by omega, b, fun q => c ⟨by omega, q.2⟩⟩
theorem xLk_st1 {ad : xOb → Nat} {ls ls' : Array Slot} {mL : Nat} {L : List (Option xV)} {i : Nat} {v : xV} (h : xLk ad ls mL L) (h' : lv_has ls' mL ((i, xtv ad v) :: (xas ad 0 L).filter (fun q => !(q.1 == i) && !(q.1 + 1 == i && q.2.category == 2)))) : xLk ad ls' mL (xst1 L i v) := by
  refine ⟨by rw [xst1_len]; exact h.1, h'.1, h'.2.1, fun q hq => ?_⟩
  obtain ⟨j, w, rfl, hw⟩ := xas_mem _ 0 q hq
  rw [Nat.zero_add]
  rcases xst1_get L i v j w hw with ⟨rfl, rfl⟩ | ⟨h1, h2, h3⟩
  · exact h'.2.2 _ List.mem_cons_self
  · refine h'.2.2 (j, xtv ad w) (List.mem_cons_of_mem _ (List.mem_filter.mpr ⟨?_, ?_⟩))
    · have := xas_get (ad := ad) L 0 j w h2
      rw [Nat.zero_add] at this
      exact this
    · rw [xtv_cat]
      simp only [Bool.and_eq_true, Bool.not_eq_true', beq_eq_false_iff_ne, Bool.and_eq_false_iff]
      refine ⟨h1, ?_⟩
      by_cases hj : j + 1 = i
      · exact Or.inr (fun q => h3 ⟨hj, q⟩)
      · exact Or.inl hj
theorem xclr_len : ∀ L : List (Option xV), (xclr L).length = L.length
  | [] => rfl
  | _ :: _ => rfl
theorem xst2_len : ∀ (L : List (Option xV)) (i : Nat) (v : xV), (xst2 L i v).length = L.length
  | [], _, _ => rfl
  | _ :: l, 0, v => by show (some v :: xclr l).length = _; rw [List.length_cons, xclr_len l]; rfl
  | some (.inr (.inl _)) :: l, 1, v => by show (none :: xst2 l 0 v).length = _; rw [List.length_cons, xst2_len l 0 v]; rfl
  | none :: l, 1, v => by show (none :: xst2 l 0 v).length = _; rw [List.length_cons, xst2_len l 0 v]; rfl
  | some (.inl a) :: l, 1, v => by show (some (.inl a) :: xst2 l 0 v).length = _; rw [List.length_cons, xst2_len l 0 v]; rfl
  | some (.inr (.inr a)) :: l, 1, v => by show (some (.inr (.inr a)) :: xst2 l 0 v).length = _; rw [List.length_cons, xst2_len l 0 v]; rfl
  | a :: l, n + 2, v => by rw [show xst2 (a :: l) (n + 2) v = a :: xst2 l (n + 1) v by cases a <;> simp [xst2], List.length_cons, xst2_len l (n + 1) v]; rfl
theorem xclr_get : ∀ (L : List (Option xV)) (j : Nat) (w : xV), xget (xclr L) j = some w → j ≠ 0 ∧ xget L j = some w
  | [], _, _, h => by cases h
  | _ :: l, 0, w, h => by cases h
  | _ :: l, j + 1, w, h => ⟨by omega, h⟩
theorem xst2_get : ∀ (L : List (Option xV)) (i : Nat) (v : xV) (j : Nat) (w : xV), xget (xst2 L i v) j = some w → (j = i ∧ w = v) ∨ (j ≠ i ∧ j ≠ i + 1 ∧ xget L j = some w ∧ ¬ (j + 1 = i ∧ xcat w = 2))
  | [], _, _, _, _, h => by cases h
  | _ :: l, 0, v, 0, w, h => Or.inl ⟨rfl, (Option.some.inj h).symm⟩
  | _ :: l, 0, v, j + 1, w, h => by
    obtain ⟨h1, h2⟩ := xclr_get l j w h
    exact Or.inr ⟨by omega, by omega, h2, fun q => by omega⟩
  | some (.inr (.inl _)) :: l, 1, v, 0, w, h => by cases h
  | some (.inr (.inl _)) :: l, 1, v, j + 1, w, h => by
    rcases xst2_get l 0 v j w h with ⟨a, b⟩ | ⟨a, a', b, c⟩
    · exact Or.inl ⟨by omega, b⟩
    · exact Or.inr ⟨by omega, by omega, b, fun q => c ⟨by omega, q.2⟩⟩
  | none :: l, 1, v, 0, w, h => by cases h
  | none :: l, 1, v, j + 1, w, h => by
    rcases xst2_get l 0 v j w h with ⟨a, b⟩ | ⟨a, a', b, c⟩
    · exact Or.inl ⟨by omega, b⟩
    · exact Or.inr ⟨by omega, by omega, b, fun q => c ⟨by omega, q.2⟩⟩
  | some (.inl a) :: l, 1, v, 0, w, h => by
    cases h
    exact Or.inr ⟨by omega, by omega, rfl, fun q => by cases q.2⟩
  | some (.inl a) :: l, 1, v, j + 1, w, h => by
    rcases xst2_get l 0 v j w h with ⟨a, b⟩ | ⟨a, a', b, c⟩
    · exact Or.inl ⟨by omega, b⟩
    · exact Or.inr ⟨by omega, by omega, b, fun q => c ⟨by omega, q.2⟩⟩
  | some (.inr (.inr a)) :: l, 1, v, 0, w, h => by
    cases h
    exact Or.inr ⟨by omega, by omega, rfl, fun q => by cases q.2⟩
  | some (.inr (.inr a)) :: l, 1, v, j + 1, w, h => by
    rcases xst2_get l 0 v j w h with ⟨a, b⟩ | ⟨a, a', b, c⟩
    · exact Or.inl ⟨by omega, b⟩
    · exact Or.inr ⟨by omega, by omega, b, fun q => c ⟨by omega, q.2⟩⟩
  | a :: l, n + 2, v, 0, w, h => by
    rw [show xst2 (a :: l) (n + 2) v = a :: xst2 l (n + 1) v by cases a <;> simp [xst2]] at h
    exact Or.inr ⟨by omega, by omega, h, fun q => by omega⟩
  | a :: l, n + 2, v, j + 1, w, h => by
    rw [show xst2 (a :: l) (n + 2) v = a :: xst2 l (n + 1) v by cases a <;> simp [xst2]] at h
    rcases xst2_get l (n + 1) v j w h with ⟨a, b⟩ | ⟨a, a', b, c⟩
    · exact Or.inl ⟨by omega, b⟩
    · exact Or.inr ⟨by omega, by omega, b, fun q => c ⟨by omega, q.2⟩⟩
theorem xLk_st2 {ad : xOb → Nat} {ls ls' : Array Slot} {mL : Nat} {L : List (Option xV)} {i : Nat} {v : xV} (h : xLk ad ls mL L) (h' : lv_has ls' mL ((i, xtv ad v) :: (xas ad 0 L).filter (fun q => !(q.1 == i) && (!(q.1 == i + 1) && !(q.1 + 1 == i && q.2.category == 2))))) : xLk ad ls' mL (xst2 L i v) := by
  refine ⟨by rw [xst2_len]; exact h.1, h'.1, h'.2.1, fun q hq => ?_⟩
  obtain ⟨j, w, rfl, hw⟩ := xas_mem _ 0 q hq
  rw [Nat.zero_add]
  rcases xst2_get L i v j w hw with ⟨rfl, rfl⟩ | ⟨h1, h4, h2, h3⟩
  · exact h'.2.2 _ List.mem_cons_self
  · refine h'.2.2 (j, xtv ad w) (List.mem_cons_of_mem _ (List.mem_filter.mpr ⟨?_, ?_⟩))
    · have := xas_get (ad := ad) L 0 j w h2
      rw [Nat.zero_add] at this
      exact this
    · rw [xtv_cat]
      simp only [Bool.and_eq_true, Bool.not_eq_true', beq_eq_false_iff_ne, Bool.and_eq_false_iff]
      refine ⟨h1, h4, ?_⟩
      by_cases hj : j + 1 = i
      · exact Or.inr (fun q => h3 ⟨hj, q⟩)
      · exact Or.inl hj
end
section
/-! ===== what the small machine comes to, the JVM comes to: an instruction, a lemma ===== -/
def xPW (p : Program) (l : Launch) (e : Env) (R : Room) (s : State) (m : MethodId) (args : Array Value) (below : List Frame) (meth : Method) (c : Code) (cells slots : Nat) (Q : State → Prop) (D : va_G) (cA : ClassId) (ad : xOb → Nat) (mL : Nat) : xK := fun pc f =>
  ∀ (H : Heap) (locs : List Loc) (ls : Array Slot), va_P D vwCl (xwd ad cA f.2.2) H → va_S (xAd ad) s.heap H locs → xLk ad ls mL f.1 → W p l e R s m args below meth c H locs cells slots Q (F0 m pc ls (f.2.1.map (xtv ad)))
def xCx (p : Program) (s : State) (m : MethodId) (args : Array Value) (c : Code) (own : String) (cc : ByteArray) (mL : Nat) (R : Room) (cells slots : Nat) (D : va_G) (cA : ClassId) (ad : xOb → Nat) : Prop :=
  p.tables.exec = Jvm.exec ∧ c.code = cc ∧ c.maxLocals = mL ∧ s.vm.findClass own = some m.cls ∧ (∀ w ∈ xAL, w.before args s = true) ∧ xSx D cA ad s ∧ cells ≤ R.cells ∧ slots ≤ R.slots
def xOk (own : String) (cc : ByteArray) (mL : Nat) (R : Room) (pc : Nat) (i : xI) : Prop :=
  ∀ (p : Program) (l : Launch) (e : Env) (s : State) (m : MethodId) (args : Array Value) (below : List Frame) (meth : Method) (c : Code) (cells slots : Nat) (Q : State → Prop) (D : va_G) (cA : ClassId) (ad : xOb → Nat) (Rt : xR),
    xCx p s m args c own cc mL R cells slots D cA ad → ∀ f : xF, i.1 f (xPW p l e R s m args below meth c cells slots Q D cA ad mL) Rt → xPW p l e R s m args below meth c cells slots Q D cA ad mL pc f
theorem xdet_inv {g : xF → Option (Nat × xF)} {f : xF} {K : xK} {R : xR} (h : (xdet g).1 f K R) : ∃ n f', g f = some (n, f') ∧ K n f' := by
  have h : (match g f with
    | some (n, f') => K n f'
    | none => False) := h
  cases hg : g f with
  | none => rw [hg] at h; exact h.elim
  | some q => rw [hg] at h; exact ⟨q.1, q.2, rfl, h⟩
theorem xdec_inv {g : xF → Option (Prop × (Nat × xF))} {f : xF} {K : xK} {R : xR} (h : (xdec g).1 f K R) : ∃ c n f', g f = some (c, n, f') ∧ c ∧ K n f' := by
  have h : (match g f with
    | some (c, n, f') => c ∧ K n f'
    | none => False) := h
  cases hg : g f with
  | none => rw [hg] at h; exact h.elim
  | some q => rw [hg] at h; exact ⟨q.1, q.2.1, q.2.2, rfl, h⟩
theorem xbr_inv {g : xF → Option (Prop × (Nat × (Nat × xF)))} {f : xF} {K : xK} {R : xR} (h : (xbr g).1 f K R) : ∃ c t n f', g f = some (c, t, n, f') ∧ (c → K t f') ∧ (¬ c → K n f') := by
  have h : (match g f with
    | some (c, t, n, f') => (c → K t f') ∧ (¬ c → K n f')
    | none => False) := h
  cases hg : g f with
  | none => rw [hg] at h; exact h.elim
  | some q => rw [hg] at h; exact ⟨q.1, q.2.1, q.2.2.1, q.2.2.2, rfl, h⟩
theorem xre_inv {g : xF → Option (Prop × (Option xV × xM))} {f : xF} {K : xK} {R : xR} (h : (xre g).1 f K R) : ∃ c v M, g f = some (c, v, M) ∧ c ∧ R v M := by
  have h : (match g f with
    | some (c, v, M) => c ∧ R v M
    | none => False) := h
  cases hg : g f with
  | none => rw [hg] at h; exact h.elim
  | some q => rw [hg] at h; exact ⟨q.1, q.2.1, q.2.2, rfl, h⟩
section XOK
variable {own : String} {cc : ByteArray} {mL : Nat} {R : Room} {pc nx tg : Nat}

theorem ok_iadd (hd : decode cc pc = .ok (.iadd, 1)) (hn : pc + 1 = nx) : xOk own cc mL R pc (x_iadd nx) := by
  subst hn
  intro p l e s m args below meth c cells slots Q D cA ad Rt hC f hi
  obtain ⟨n, f', hg, hk⟩ := xdet_inv hi
  (try dsimp only at hg)
  split at hg <;> cases hg
  exact fun H locs ls hP hS hL => lv_iadd hC.1 hC.2.1 hd (hk H locs ls hP hS hL)
theorem ok_isub (hd : decode cc pc = .ok (.isub, 1)) (hn : pc + 1 = nx) : xOk own cc mL R pc (x_isub nx) := by
  subst hn
  intro p l e s m args below meth c cells slots Q D cA ad Rt hC f hi
  obtain ⟨n, f', hg, hk⟩ := xdet_inv hi
  (try dsimp only at hg)
  split at hg <;> cases hg
  exact fun H locs ls hP hS hL => lv_isub hC.1 hC.2.1 hd (hk H locs ls hP hS hL)
theorem ok_imul (hd : decode cc pc = .ok (.imul, 1)) (hn : pc + 1 = nx) : xOk own cc mL R pc (x_imul nx) := by
  subst hn
  intro p l e s m args below meth c cells slots Q D cA ad Rt hC f hi
  obtain ⟨n, f', hg, hk⟩ := xdet_inv hi
  (try dsimp only at hg)
  split at hg <;> cases hg
  exact fun H locs ls hP hS hL => lv_imul hC.1 hC.2.1 hd (hk H locs ls hP hS hL)
theorem ok_iand (hd : decode cc pc = .ok (.iand, 1)) (hn : pc + 1 = nx) : xOk own cc mL R pc (x_iand nx) := by
  subst hn
  intro p l e s m args below meth c cells slots Q D cA ad Rt hC f hi
  obtain ⟨n, f', hg, hk⟩ := xdet_inv hi
  (try dsimp only at hg)
  split at hg <;> cases hg
  exact fun H locs ls hP hS hL => lv_iand hC.1 hC.2.1 hd (hk H locs ls hP hS hL)
theorem ok_ior (hd : decode cc pc = .ok (.ior, 1)) (hn : pc + 1 = nx) : xOk own cc mL R pc (x_ior nx) := by
  subst hn
  intro p l e s m args below meth c cells slots Q D cA ad Rt hC f hi
  obtain ⟨n, f', hg, hk⟩ := xdet_inv hi
  (try dsimp only at hg)
  split at hg <;> cases hg
  exact fun H locs ls hP hS hL => lv_ior hC.1 hC.2.1 hd (hk H locs ls hP hS hL)
theorem ok_ixor (hd : decode cc pc = .ok (.ixor, 1)) (hn : pc + 1 = nx) : xOk own cc mL R pc (x_ixor nx) := by
  subst hn
  intro p l e s m args below meth c cells slots Q D cA ad Rt hC f hi
  obtain ⟨n, f', hg, hk⟩ := xdet_inv hi
  (try dsimp only at hg)
  split at hg <;> cases hg
  exact fun H locs ls hP hS hL => lv_ixor hC.1 hC.2.1 hd (hk H locs ls hP hS hL)
theorem ok_ishl (hd : decode cc pc = .ok (.ishl, 1)) (hn : pc + 1 = nx) : xOk own cc mL R pc (x_ishl nx) := by
  subst hn
  intro p l e s m args below meth c cells slots Q D cA ad Rt hC f hi
  obtain ⟨n, f', hg, hk⟩ := xdet_inv hi
  (try dsimp only at hg)
  split at hg <;> cases hg
  exact fun H locs ls hP hS hL => lv_ishl hC.1 hC.2.1 hd (hk H locs ls hP hS hL)
theorem ok_ishr (hd : decode cc pc = .ok (.ishr, 1)) (hn : pc + 1 = nx) : xOk own cc mL R pc (x_ishr nx) := by
  subst hn
  intro p l e s m args below meth c cells slots Q D cA ad Rt hC f hi
  obtain ⟨n, f', hg, hk⟩ := xdet_inv hi
  (try dsimp only at hg)
  split at hg <;> cases hg
  exact fun H locs ls hP hS hL => lv_ishr hC.1 hC.2.1 hd (hk H locs ls hP hS hL)
theorem ok_ineg (hd : decode cc pc = .ok (.ineg, 1)) (hn : pc + 1 = nx) : xOk own cc mL R pc (x_ineg nx) := by
  subst hn
  intro p l e s m args below meth c cells slots Q D cA ad Rt hC f hi
  obtain ⟨n, f', hg, hk⟩ := xdet_inv hi
  (try dsimp only at hg)
  split at hg <;> cases hg
  exact fun H locs ls hP hS hL => lv_ineg hC.1 hC.2.1 hd (hk H locs ls hP hS hL)
theorem ok_iushr (hd : decode cc pc = .ok (.iushr, 1)) (hn : pc + 1 = nx) : xOk own cc mL R pc (x_iushr nx) := by
  subst hn
  intro p l e s m args below meth c cells slots Q D cA ad Rt hC f hi
  obtain ⟨n, f', hg, hk⟩ := xdet_inv hi
  (try dsimp only at hg)
  split at hg <;> cases hg
  exact fun H locs ls hP hS hL => lv_iushr hC.1 hC.2.1 hd rfl (hk H locs ls hP hS hL)
theorem ok_idiv (hd : decode cc pc = .ok (.idiv, 1)) (hn : pc + 1 = nx) : xOk own cc mL R pc (x_idiv nx) := by
  subst hn
  intro p l e s m args below meth c cells slots Q D cA ad Rt hC f hi
  obtain ⟨cd, n, f', hg, hc, hk⟩ := xdec_inv hi
  (try dsimp only at hg)
  split at hg <;> cases hg
  exact fun H locs ls hP hS hL => lv_idiv hC.1 hC.2.1 hd hc (hk H locs ls hP hS hL)
theorem ok_irem (hd : decode cc pc = .ok (.irem, 1)) (hn : pc + 1 = nx) : xOk own cc mL R pc (x_irem nx) := by
  subst hn
  intro p l e s m args below meth c cells slots Q D cA ad Rt hC f hi
  obtain ⟨cd, n, f', hg, hc, hk⟩ := xdec_inv hi
  (try dsimp only at hg)
  split at hg <;> cases hg
  exact fun H locs ls hP hS hL => lv_irem hC.1 hC.2.1 hd hc (hk H locs ls hP hS hL)
theorem ok_ladd (hd : decode cc pc = .ok (.ladd, 1)) (hn : pc + 1 = nx) : xOk own cc mL R pc (x_ladd nx) := by
  subst hn
  intro p l e s m args below meth c cells slots Q D cA ad Rt hC f hi
  obtain ⟨n, f', hg, hk⟩ := xdet_inv hi
  (try dsimp only at hg)
  split at hg <;> cases hg
  exact fun H locs ls hP hS hL => lv_ladd hC.1 hC.2.1 hd (hk H locs ls hP hS hL)
theorem ok_lsub (hd : decode cc pc = .ok (.lsub, 1)) (hn : pc + 1 = nx) : xOk own cc mL R pc (x_lsub nx) := by
  subst hn
  intro p l e s m args below meth c cells slots Q D cA ad Rt hC f hi
  obtain ⟨n, f', hg, hk⟩ := xdet_inv hi
  (try dsimp only at hg)
  split at hg <;> cases hg
  exact fun H locs ls hP hS hL => lv_lsub hC.1 hC.2.1 hd (hk H locs ls hP hS hL)
theorem ok_lmul (hd : decode cc pc = .ok (.lmul, 1)) (hn : pc + 1 = nx) : xOk own cc mL R pc (x_lmul nx) := by
  subst hn
  intro p l e s m args below meth c cells slots Q D cA ad Rt hC f hi
  obtain ⟨n, f', hg, hk⟩ := xdet_inv hi
  (try dsimp only at hg)
  split at hg <;> cases hg
  exact fun H locs ls hP hS hL => lv_lmul hC.1 hC.2.1 hd (hk H locs ls hP hS hL)
theorem ok_ldiv (hd : decode cc pc = .ok (.ldiv, 1)) (hn : pc + 1 = nx) : xOk own cc mL R pc (x_ldiv nx) := by
  subst hn
  intro p l e s m args below meth c cells slots Q D cA ad Rt hC f hi
  obtain ⟨cd, n, f', hg, hc, hk⟩ := xdec_inv hi
  (try dsimp only at hg)
  split at hg <;> cases hg
  exact fun H locs ls hP hS hL => lv_ldiv hC.1 hC.2.1 hd hc (hk H locs ls hP hS hL)
theorem ok_lrem (hd : decode cc pc = .ok (.lrem, 1)) (hn : pc + 1 = nx) : xOk own cc mL R pc (x_lrem nx) := by
  subst hn
  intro p l e s m args below meth c cells slots Q D cA ad Rt hC f hi
  obtain ⟨cd, n, f', hg, hc, hk⟩ := xdec_inv hi
  (try dsimp only at hg)
  split at hg <;> cases hg
  exact fun H locs ls hP hS hL => lv_lrem hC.1 hC.2.1 hd hc (hk H locs ls hP hS hL)
theorem ok_lcmp (hd : decode cc pc = .ok (.lcmp, 1)) (hn : pc + 1 = nx) : xOk own cc mL R pc (x_lcmp nx) := by
  subst hn
  intro p l e s m args below meth c cells slots Q D cA ad Rt hC f hi
  obtain ⟨n, f', hg, hk⟩ := xdet_inv hi
  (try dsimp only at hg)
  split at hg <;> cases hg
  exact fun H locs ls hP hS hL => W.lcmp hC.1 hC.2.1 hd (hk H locs ls hP hS hL)
theorem ok_i2l (hd : decode cc pc = .ok (.i2l, 1)) (hn : pc + 1 = nx) : xOk own cc mL R pc (x_i2l nx) := by
  subst hn
  intro p l e s m args below meth c cells slots Q D cA ad Rt hC f hi
  obtain ⟨n, f', hg, hk⟩ := xdet_inv hi
  (try dsimp only at hg)
  split at hg <;> cases hg
  exact fun H locs ls hP hS hL => lv_i2l hC.1 hC.2.1 hd rfl (hk H locs ls hP hS hL)
theorem ok_i2c (hd : decode cc pc = .ok (.i2c, 1)) (hn : pc + 1 = nx) : xOk own cc mL R pc (x_i2c nx) := by
  subst hn
  intro p l e s m args below meth c cells slots Q D cA ad Rt hC f hi
  obtain ⟨n, f', hg, hk⟩ := xdet_inv hi
  (try dsimp only at hg)
  split at hg <;> cases hg
  exact fun H locs ls hP hS hL => lv_i2c hC.1 hC.2.1 hd rfl (hk H locs ls hP hS hL)
theorem ok_dupi (hd : decode cc pc = .ok (.dup, 1)) (hn : pc + 1 = nx) : xOk own cc mL R pc (x_dupi nx) := by
  subst hn
  intro p l e s m args below meth c cells slots Q D cA ad Rt hC f hi
  obtain ⟨n, f', hg, hk⟩ := xdet_inv hi
  (try dsimp only at hg)
  split at hg <;> cases hg
  exact fun H locs ls hP hS hL => lv_dup hC.1 hC.2.1 hd rfl (hk H locs ls hP hS hL)
theorem ok_dupo (hd : decode cc pc = .ok (.dup, 1)) (hn : pc + 1 = nx) : xOk own cc mL R pc (x_dupo nx) := by
  subst hn
  intro p l e s m args below meth c cells slots Q D cA ad Rt hC f hi
  obtain ⟨n, f', hg, hk⟩ := xdet_inv hi
  (try dsimp only at hg)
  split at hg <;> cases hg
  exact fun H locs ls hP hS hL => lv_dup hC.1 hC.2.1 hd rfl (hk H locs ls hP hS hL)
theorem ok_popi (hd : decode cc pc = .ok (.pop, 1)) (hn : pc + 1 = nx) : xOk own cc mL R pc (x_popi nx) := by
  subst hn
  intro p l e s m args below meth c cells slots Q D cA ad Rt hC f hi
  obtain ⟨n, f', hg, hk⟩ := xdet_inv hi
  (try dsimp only at hg)
  split at hg <;> cases hg
  exact fun H locs ls hP hS hL => lv_pop hC.1 hC.2.1 hd rfl (hk H locs ls hP hS hL)
theorem ok_popo (hd : decode cc pc = .ok (.pop, 1)) (hn : pc + 1 = nx) : xOk own cc mL R pc (x_popo nx) := by
  subst hn
  intro p l e s m args below meth c cells slots Q D cA ad Rt hC f hi
  obtain ⟨n, f', hg, hk⟩ := xdet_inv hi
  (try dsimp only at hg)
  split at hg <;> cases hg
  exact fun H locs ls hP hS hL => lv_pop hC.1 hC.2.1 hd rfl (hk H locs ls hP hS hL)
theorem ok_dup2 (hd : decode cc pc = .ok (.dup2, 1)) (hn : pc + 1 = nx) : xOk own cc mL R pc (x_dup2 nx) := by
  subst hn
  intro p l e s m args below meth c cells slots Q D cA ad Rt hC f hi
  obtain ⟨n, f', hg, hk⟩ := xdet_inv hi
  (try dsimp only at hg)
  split at hg <;> cases hg
  exact fun H locs ls hP hS hL => lv_dup2_11 hC.1 hC.2.1 hd rfl rfl (hk H locs ls hP hS hL)
theorem ok_iconst {n : Int} {v : Int32} (hd : decode cc pc = .ok (.iconst n, 1)) (hv : Int32.ofInt n = v) (hn : pc + 1 = nx) : xOk own cc mL R pc (x_push (xi v) nx) := by
  subst hn
  intro p l e s m args below meth c cells slots Q D cA ad Rt hC f hi
  exact fun H locs ls hP hS hL => lv_iconst hC.1 hC.2.1 hd hv (hi H locs ls hP hS hL)
theorem ok_bipush {n : Int} {v : Int32} (hd : decode cc pc = .ok (.bipush n, 2)) (hv : (Int8.ofInt n).toInt32 = v) (hn : pc + 2 = nx) : xOk own cc mL R pc (x_push (xi v) nx) := by
  subst hn
  intro p l e s m args below meth c cells slots Q D cA ad Rt hC f hi
  exact fun H locs ls hP hS hL => lv_bipush hC.1 hC.2.1 hd hv (hi H locs ls hP hS hL)
theorem ok_sipush {n : Int} {v : Int32} (hd : decode cc pc = .ok (.sipush n, 3)) (hv : (Int16.ofInt n).toInt32 = v) (hn : pc + 3 = nx) : xOk own cc mL R pc (x_push (xi v) nx) := by
  subst hn
  intro p l e s m args below meth c cells slots Q D cA ad Rt hC f hi
  exact fun H locs ls hP hS hL => lv_sipush hC.1 hC.2.1 hd hv (hi H locs ls hP hS hL)
theorem ok_lconst {n : Fin 2} {v : Int64} (hd : decode cc pc = .ok (.lconst n, 1)) (hv : Int64.ofNat (n : Nat) = v) (hn : pc + 1 = nx) : xOk own cc mL R pc (x_push (xl v) nx) := by
  subst hn
  intro p l e s m args below meth c cells slots Q D cA ad Rt hC f hi
  exact fun H locs ls hP hS hL => lv_lconst hC.1 hC.2.1 hd hv (hi H locs ls hP hS hL)
theorem ok_ldc {ix : Nat} {v : Int32} (hd : decode cc pc = .ok (.ldc ix, 2)) (hw : Cond.constant own ix v ∈ xAL) (hn : pc + 2 = nx) : xOk own cc mL R pc (x_push (xi v) nx) := by
  subst hn
  intro p l e s m args below meth c cells slots Q D cA ad Rt hC f hi
  exact fun H locs ls hP hS hL => lv_ldc hC.1 hC.2.1 hC.2.2.2.1 (hC.2.2.2.2.1 _ hw) hd (hi H locs ls hP hS hL)
theorem ok_ldcw {ix : Nat} {v : Int32} (hd : decode cc pc = .ok (.ldc_w ix, 3)) (hw : Cond.constant own ix v ∈ xAL) (hn : pc + 3 = nx) : xOk own cc mL R pc (x_push (xi v) nx) := by
  subst hn
  intro p l e s m args below meth c cells slots Q D cA ad Rt hC f hi
  exact fun H locs ls hP hS hL => lv_ldcw hC.1 hC.2.1 hC.2.2.2.1 (hC.2.2.2.2.1 _ hw) hd (hi H locs ls hP hS hL)
theorem ok_ldc2 {ix : Nat} {v : Int64} (hd : decode cc pc = .ok (.ldc2_w ix, 3)) (hw : Cond.constantLong own ix v ∈ xAL) (hn : pc + 3 = nx) : xOk own cc mL R pc (x_push (xl v) nx) := by
  subst hn
  intro p l e s m args below meth c cells slots Q D cA ad Rt hC f hi
  exact fun H locs ls hP hS hL => lv_ldc2 hC.1 hC.2.1 hC.2.2.2.1 (hC.2.2.2.2.1 _ hw) hd (hi H locs ls hP hS hL)
theorem ok_ldcs {j : Nat} {q : Nat × String} (hq : xtx[j]? = some q) (ho : own = RX1) (hd : decode cc pc = .ok (.ldc q.1, 2)) (hn : pc + 2 = nx) : xOk own cc mL R pc (x_push (xo (xN (20 + j))) nx) := by
  subst hn
  intro p l e s m args below meth c cells slots Q D cA ad Rt hC f hi
  subst ho
  exact fun H locs ls hP hS hL => va_ldcS hC.1 hC.2.1 hC.2.2.2.1 (hC.2.2.2.2.2.1.2.2.2.2.2 j q hq) hd (hi H locs ls hP hS hL)
theorem ok_goto {off : Int} (hd : decode cc pc = .ok (.goto off, 3)) (hn : (pc : Int) + off = (nx : Int)) : xOk own cc mL R pc (x_goto nx) := by
  intro p l e s m args below meth c cells slots Q D cA ad Rt hC f hi
  exact fun H locs ls hP hS hL => lv_goto hC.1 hC.2.1 hd hn (hi H locs ls hP hS hL)
theorem ok_ildn {k : Fin 4} {i : Nat} (hd : decode cc pc = .ok (.iload_n k, 1)) (hi0 : (k : Nat) = i) (hn : pc + 1 = nx) : xOk own cc mL R pc (x_ild i nx) := by
  subst hn
  intro p l e s m args below meth c cells slots Q D cA ad Rt hC f hi
  obtain ⟨n, f', hg, hk⟩ := xdet_inv hi
  obtain ⟨ls0, st, M⟩ := f
  (try dsimp only at hg)
  split at hg <;> cases hg
  rename_i hx
  exact fun H locs ls hP hS hL => lv_iload_n hC.1 hC.2.1 hd hi0 (xLk_at hL hx) (hk H locs ls hP hS hL)
theorem ok_ild {i : Nat} (hd : decode cc pc = .ok (.iload i, 2)) (hn : pc + 2 = nx) : xOk own cc mL R pc (x_ild i nx) := by
  subst hn
  intro p l e s m args below meth c cells slots Q D cA ad Rt hC f hi
  obtain ⟨n, f', hg, hk⟩ := xdet_inv hi
  obtain ⟨ls0, st, M⟩ := f
  (try dsimp only at hg)
  split at hg <;> cases hg
  rename_i hx
  exact fun H locs ls hP hS hL => lv_iload hC.1 hC.2.1 hd (xLk_at hL hx) (hk H locs ls hP hS hL)
theorem ok_lldn {k : Fin 4} {i : Nat} (hd : decode cc pc = .ok (.lload_n k, 1)) (hi0 : (k : Nat) = i) (hn : pc + 1 = nx) : xOk own cc mL R pc (x_lld i nx) := by
  subst hn
  intro p l e s m args below meth c cells slots Q D cA ad Rt hC f hi
  obtain ⟨n, f', hg, hk⟩ := xdet_inv hi
  obtain ⟨ls0, st, M⟩ := f
  (try dsimp only at hg)
  split at hg <;> cases hg
  rename_i hx
  exact fun H locs ls hP hS hL => lv_lload_n hC.1 hC.2.1 hd hi0 (xLk_at hL hx) (hk H locs ls hP hS hL)
theorem ok_lld {i : Nat} (hd : decode cc pc = .ok (.lload i, 2)) (hn : pc + 2 = nx) : xOk own cc mL R pc (x_lld i nx) := by
  subst hn
  intro p l e s m args below meth c cells slots Q D cA ad Rt hC f hi
  obtain ⟨n, f', hg, hk⟩ := xdet_inv hi
  obtain ⟨ls0, st, M⟩ := f
  (try dsimp only at hg)
  split at hg <;> cases hg
  rename_i hx
  exact fun H locs ls hP hS hL => lv_lload hC.1 hC.2.1 hd (xLk_at hL hx) (hk H locs ls hP hS hL)
theorem ok_aldn {k : Fin 4} {i : Nat} (hd : decode cc pc = .ok (.aload_n k, 1)) (hi0 : (k : Nat) = i) (hn : pc + 1 = nx) : xOk own cc mL R pc (x_ald i nx) := by
  subst hn
  intro p l e s m args below meth c cells slots Q D cA ad Rt hC f hi
  obtain ⟨n, f', hg, hk⟩ := xdet_inv hi
  obtain ⟨ls0, st, M⟩ := f
  (try dsimp only at hg)
  split at hg <;> cases hg
  rename_i hx
  exact fun H locs ls hP hS hL => lv_aload_n hC.1 hC.2.1 hd hi0 (xLk_at hL hx) (hk H locs ls hP hS hL)
theorem ok_ald {i : Nat} (hd : decode cc pc = .ok (.aload i, 2)) (hn : pc + 2 = nx) : xOk own cc mL R pc (x_ald i nx) := by
  subst hn
  intro p l e s m args below meth c cells slots Q D cA ad Rt hC f hi
  obtain ⟨n, f', hg, hk⟩ := xdet_inv hi
  obtain ⟨ls0, st, M⟩ := f
  (try dsimp only at hg)
  split at hg <;> cases hg
  rename_i hx
  exact fun H locs ls hP hS hL => lv_aload hC.1 hC.2.1 hd (xLk_at hL hx) (hk H locs ls hP hS hL)
theorem ok_istn {k : Fin 4} {i : Nat} (hd : decode cc pc = .ok (.istore_n k, 1)) (hi0 : (k : Nat) = i) (hm : i < mL) (hn : pc + 1 = nx) : xOk own cc mL R pc (x_ist i nx) := by
  subst hn
  intro p l e s m args below meth c cells slots Q D cA ad Rt hC f hi
  obtain ⟨n, f', hg, hk⟩ := xdet_inv hi
  (try dsimp only at hg)
  split at hg <;> cases hg
  exact fun H locs ls hP hS hL => lv_istore_n hC.1 hC.2.1 hd hi0 hL.2 hm rfl (fun ls' hl' => hk H locs ls' hP hS (xLk_st1 hL hl'))
theorem ok_ist {i : Nat} (hd : decode cc pc = .ok (.istore i, 2)) (hm : i < mL) (hn : pc + 2 = nx) : xOk own cc mL R pc (x_ist i nx) := by
  subst hn
  intro p l e s m args below meth c cells slots Q D cA ad Rt hC f hi
  obtain ⟨n, f', hg, hk⟩ := xdet_inv hi
  (try dsimp only at hg)
  split at hg <;> cases hg
  exact fun H locs ls hP hS hL => lv_istore hC.1 hC.2.1 hd hL.2 hm rfl (fun ls' hl' => hk H locs ls' hP hS (xLk_st1 hL hl'))
theorem ok_astn {k : Fin 4} {i : Nat} (hd : decode cc pc = .ok (.astore_n k, 1)) (hi0 : (k : Nat) = i) (hm : i < mL) (hn : pc + 1 = nx) : xOk own cc mL R pc (x_ast i nx) := by
  subst hn
  intro p l e s m args below meth c cells slots Q D cA ad Rt hC f hi
  obtain ⟨n, f', hg, hk⟩ := xdet_inv hi
  (try dsimp only at hg)
  split at hg <;> cases hg
  exact fun H locs ls hP hS hL => lv_astore_n hC.1 hC.2.1 hd hi0 hL.2 hm rfl (fun ls' hl' => hk H locs ls' hP hS (xLk_st1 hL hl'))
theorem ok_ast {i : Nat} (hd : decode cc pc = .ok (.astore i, 2)) (hm : i < mL) (hn : pc + 2 = nx) : xOk own cc mL R pc (x_ast i nx) := by
  subst hn
  intro p l e s m args below meth c cells slots Q D cA ad Rt hC f hi
  obtain ⟨n, f', hg, hk⟩ := xdet_inv hi
  (try dsimp only at hg)
  split at hg <;> cases hg
  exact fun H locs ls hP hS hL => lv_astore hC.1 hC.2.1 hd hL.2 hm rfl (fun ls' hl' => hk H locs ls' hP hS (xLk_st1 hL hl'))
theorem ok_lstn {k : Fin 4} {i : Nat} (hd : decode cc pc = .ok (.lstore_n k, 1)) (hi0 : (k : Nat) = i) (hm : i + 1 < mL) (hn : pc + 1 = nx) : xOk own cc mL R pc (x_lst i nx) := by
  subst hn
  intro p l e s m args below meth c cells slots Q D cA ad Rt hC f hi
  obtain ⟨n, f', hg, hk⟩ := xdet_inv hi
  (try dsimp only at hg)
  split at hg <;> cases hg
  exact fun H locs ls hP hS hL => lv_lstore_n hC.1 hC.2.1 hd hi0 hL.2 hm rfl (fun ls' hl' => hk H locs ls' hP hS (xLk_st2 hL hl'))
theorem ok_lst {i : Nat} (hd : decode cc pc = .ok (.lstore i, 2)) (hm : i + 1 < mL) (hn : pc + 2 = nx) : xOk own cc mL R pc (x_lst i nx) := by
  subst hn
  intro p l e s m args below meth c cells slots Q D cA ad Rt hC f hi
  obtain ⟨n, f', hg, hk⟩ := xdet_inv hi
  (try dsimp only at hg)
  split at hg <;> cases hg
  exact fun H locs ls hP hS hL => lv_lstore hC.1 hC.2.1 hd hL.2 hm rfl (fun ls' hl' => hk H locs ls' hP hS (xLk_st2 hL hl'))
theorem ok_iinc {i : Nat} {n : Int} {v : Int32} (hd : decode cc pc = .ok (.iinc i n, 3)) (hv : Int32.ofInt n = v) (hm : i < mL) (hn : pc + 3 = nx) : xOk own cc mL R pc (x_iinc i v nx) := by
  subst hn
  intro p l e s m args below meth c cells slots Q D cA ad Rt hC f hi
  obtain ⟨n', f', hg, hk⟩ := xdet_inv hi
  obtain ⟨ls0, st, M⟩ := f
  (try dsimp only at hg)
  split at hg <;> cases hg
  rename_i a hx
  intro H locs ls hP hS hL
  obtain ⟨k, hk2⟩ := List.getElem?_of_mem (xas_get (ad := ad) ls0 0 i _ hx)
  rw [Nat.zero_add] at hk2
  exact lv_iinc hC.1 hC.2.1 hd hL.2 hk2 (by rw [hv]) hm rfl (fun ls' hl' => hk H locs ls' hP hS (xLk_st1 hL hl'))
theorem ok_ifeq {off : Int} (hd : decode cc pc = .ok (.ifCond .eq off, 3)) (ht : (pc : Int) + off = (tg : Int)) (hn : pc + 3 = nx) : xOk own cc mL R pc (x_ifeq tg nx) := by
  subst hn
  intro p l e s m args below meth c cells slots Q D cA ad Rt hC f hi
  obtain ⟨cd, t, n, f', hg, h1, h2⟩ := xbr_inv hi
  (try dsimp only at hg)
  split at hg <;> cases hg
  exact fun H locs ls hP hS hL => lv_if_eq hC.1 hC.2.1 hd ht (fun q => h1 q H locs ls hP hS hL) (fun q => h2 q H locs ls hP hS hL)
theorem ok_iceq {off : Int} (hd : decode cc pc = .ok (.if_icmp .eq off, 3)) (ht : (pc : Int) + off = (tg : Int)) (hn : pc + 3 = nx) : xOk own cc mL R pc (x_iceq tg nx) := by
  subst hn
  intro p l e s m args below meth c cells slots Q D cA ad Rt hC f hi
  obtain ⟨cd, t, n, f', hg, h1, h2⟩ := xbr_inv hi
  (try dsimp only at hg)
  split at hg <;> cases hg
  exact fun H locs ls hP hS hL => lv_icmp_eq hC.1 hC.2.1 hd ht (fun q => h1 q H locs ls hP hS hL) (fun q => h2 q H locs ls hP hS hL)
theorem ok_ifne {off : Int} (hd : decode cc pc = .ok (.ifCond .ne off, 3)) (ht : (pc : Int) + off = (tg : Int)) (hn : pc + 3 = nx) : xOk own cc mL R pc (x_ifne tg nx) := by
  subst hn
  intro p l e s m args below meth c cells slots Q D cA ad Rt hC f hi
  obtain ⟨cd, t, n, f', hg, h1, h2⟩ := xbr_inv hi
  (try dsimp only at hg)
  split at hg <;> cases hg
  exact fun H locs ls hP hS hL => lv_if_ne hC.1 hC.2.1 hd ht (fun q => h2 q H locs ls hP hS hL) (fun q => h1 q H locs ls hP hS hL)
theorem ok_icne {off : Int} (hd : decode cc pc = .ok (.if_icmp .ne off, 3)) (ht : (pc : Int) + off = (tg : Int)) (hn : pc + 3 = nx) : xOk own cc mL R pc (x_icne tg nx) := by
  subst hn
  intro p l e s m args below meth c cells slots Q D cA ad Rt hC f hi
  obtain ⟨cd, t, n, f', hg, h1, h2⟩ := xbr_inv hi
  (try dsimp only at hg)
  split at hg <;> cases hg
  exact fun H locs ls hP hS hL => lv_icmp_ne hC.1 hC.2.1 hd ht (fun q => h2 q H locs ls hP hS hL) (fun q => h1 q H locs ls hP hS hL)
theorem ok_iflt {off : Int} (hd : decode cc pc = .ok (.ifCond .lt off, 3)) (ht : (pc : Int) + off = (tg : Int)) (hn : pc + 3 = nx) : xOk own cc mL R pc (x_iflt tg nx) := by
  subst hn
  intro p l e s m args below meth c cells slots Q D cA ad Rt hC f hi
  obtain ⟨cd, t, n, f', hg, h1, h2⟩ := xbr_inv hi
  (try dsimp only at hg)
  split at hg <;> cases hg
  exact fun H locs ls hP hS hL => lv_if_lt hC.1 hC.2.1 hd ht (fun q => h1 q H locs ls hP hS hL) (fun q => h2 q H locs ls hP hS hL)
theorem ok_iclt {off : Int} (hd : decode cc pc = .ok (.if_icmp .lt off, 3)) (ht : (pc : Int) + off = (tg : Int)) (hn : pc + 3 = nx) : xOk own cc mL R pc (x_iclt tg nx) := by
  subst hn
  intro p l e s m args below meth c cells slots Q D cA ad Rt hC f hi
  obtain ⟨cd, t, n, f', hg, h1, h2⟩ := xbr_inv hi
  (try dsimp only at hg)
  split at hg <;> cases hg
  exact fun H locs ls hP hS hL => lv_icmp_lt hC.1 hC.2.1 hd ht (fun q => h1 q H locs ls hP hS hL) (fun q => h2 q H locs ls hP hS hL)
theorem ok_ifge {off : Int} (hd : decode cc pc = .ok (.ifCond .ge off, 3)) (ht : (pc : Int) + off = (tg : Int)) (hn : pc + 3 = nx) : xOk own cc mL R pc (x_ifge tg nx) := by
  subst hn
  intro p l e s m args below meth c cells slots Q D cA ad Rt hC f hi
  obtain ⟨cd, t, n, f', hg, h1, h2⟩ := xbr_inv hi
  (try dsimp only at hg)
  split at hg <;> cases hg
  exact fun H locs ls hP hS hL => lv_if_ge hC.1 hC.2.1 hd ht (fun q => h1 q H locs ls hP hS hL) (fun q => h2 q H locs ls hP hS hL)
theorem ok_icge {off : Int} (hd : decode cc pc = .ok (.if_icmp .ge off, 3)) (ht : (pc : Int) + off = (tg : Int)) (hn : pc + 3 = nx) : xOk own cc mL R pc (x_icge tg nx) := by
  subst hn
  intro p l e s m args below meth c cells slots Q D cA ad Rt hC f hi
  obtain ⟨cd, t, n, f', hg, h1, h2⟩ := xbr_inv hi
  (try dsimp only at hg)
  split at hg <;> cases hg
  exact fun H locs ls hP hS hL => lv_icmp_ge hC.1 hC.2.1 hd ht (fun q => h1 q H locs ls hP hS hL) (fun q => h2 q H locs ls hP hS hL)
theorem ok_ifgt {off : Int} (hd : decode cc pc = .ok (.ifCond .gt off, 3)) (ht : (pc : Int) + off = (tg : Int)) (hn : pc + 3 = nx) : xOk own cc mL R pc (x_ifgt tg nx) := by
  subst hn
  intro p l e s m args below meth c cells slots Q D cA ad Rt hC f hi
  obtain ⟨cd, t, n, f', hg, h1, h2⟩ := xbr_inv hi
  (try dsimp only at hg)
  split at hg <;> cases hg
  exact fun H locs ls hP hS hL => lv_if_gt hC.1 hC.2.1 hd ht (fun q => h1 q H locs ls hP hS hL) (fun q => h2 q H locs ls hP hS hL)
theorem ok_icgt {off : Int} (hd : decode cc pc = .ok (.if_icmp .gt off, 3)) (ht : (pc : Int) + off = (tg : Int)) (hn : pc + 3 = nx) : xOk own cc mL R pc (x_icgt tg nx) := by
  subst hn
  intro p l e s m args below meth c cells slots Q D cA ad Rt hC f hi
  obtain ⟨cd, t, n, f', hg, h1, h2⟩ := xbr_inv hi
  (try dsimp only at hg)
  split at hg <;> cases hg
  exact fun H locs ls hP hS hL => lv_icmp_gt hC.1 hC.2.1 hd ht (fun q => h1 q H locs ls hP hS hL) (fun q => h2 q H locs ls hP hS hL)
theorem ok_ifle {off : Int} (hd : decode cc pc = .ok (.ifCond .le off, 3)) (ht : (pc : Int) + off = (tg : Int)) (hn : pc + 3 = nx) : xOk own cc mL R pc (x_ifle tg nx) := by
  subst hn
  intro p l e s m args below meth c cells slots Q D cA ad Rt hC f hi
  obtain ⟨cd, t, n, f', hg, h1, h2⟩ := xbr_inv hi
  (try dsimp only at hg)
  split at hg <;> cases hg
  exact fun H locs ls hP hS hL => lv_if_le hC.1 hC.2.1 hd ht (fun q => h1 q H locs ls hP hS hL) (fun q => h2 q H locs ls hP hS hL)
theorem ok_icle {off : Int} (hd : decode cc pc = .ok (.if_icmp .le off, 3)) (ht : (pc : Int) + off = (tg : Int)) (hn : pc + 3 = nx) : xOk own cc mL R pc (x_icle tg nx) := by
  subst hn
  intro p l e s m args below meth c cells slots Q D cA ad Rt hC f hi
  obtain ⟨cd, t, n, f', hg, h1, h2⟩ := xbr_inv hi
  (try dsimp only at hg)
  split at hg <;> cases hg
  exact fun H locs ls hP hS hL => lv_icmp_le hC.1 hC.2.1 hd ht (fun q => h1 q H locs ls hP hS hL) (fun q => h2 q H locs ls hP hS hL)
end XOK
section XOK2
variable {own : String} {cc : ByteArray} {mL : Nat} {R : Room} {pc nx tg : Nat}
theorem xat_get {ad : xOb → Nat} : ∀ (l : List xV) (k : Nat) (v : xV), xat l k = some v → (l.map (xtv ad))[k]? = some (xtv ad v)
  | [], _, _, h => by cases h
  | a :: l, 0, v, h => by cases h; rfl
  | a :: l, k + 1, v, h => by
    have := xat_get (ad := ad) l k v h
    rw [List.map_cons, List.getElem?_cons_succ]
    exact this
theorem xwd_ob {ad : xOb → Nat} {cA : ClassId} {M : xM} {o : xOb} {ci : Nat} (h : xci o = ci) (h4 : ci < 4) : (xwd ad cA M)[xix o]? = some (ad o, .inr (ci, (xfl o (M o)).map (xtv ad))) := by
  subst h
  rw [xwd_at (xobs_cl o h4)]
  unfold xen
  rw [xal_cl o h4]
theorem xwd_ar {ad : xOb → Nat} {cA : ClassId} {M : xM} {o : xOb} {n : Nat} (h : xal o = some n) : (xwd ad cA M)[xix o]? = some (ad o, .inl (cA, n, .inl (M o))) := by
  rw [xwd_at (xobs_ar o n h)]
  unfold xen
  rw [h]
theorem ok_get {ci k ix : Nat} {C : String} {T : u_T} {N : Nat} (hcl : vwCl[ci]? = some (C, T, N)) (hlay : ∀ w ∈ u_ws C T N, w ∈ xAL) (hk : k < N) (hw : Cond.fieldLink own ix (T k).1 (T k).2.1 (T k).2.2.1 ∈ xAL) (hd : decode cc pc = .ok (.getfield ix, 3)) (hn : pc + 3 = nx) : xOk own cc mL R pc (x_get ci k nx) := by
  subst hn
  intro p l e s m args below meth c cells slots Q D cA ad Rt hC f hi
  obtain ⟨n, f', hg, hk2⟩ := xdet_inv hi
  (try dsimp only at hg)
  split at hg
  · rename_i ls0 o st M
    cases hb : Nat.beq (xci o) ci with
    | false => rw [hb] at hg; cases hg
    | true =>
      rw [hb] at hg
      have hg : (match xat (xfl o (M o)) k with
        | some v => some (pc + 3, ls0, v :: st, M)
        | none => none) = some (n, f') := hg
      split at hg <;> cases hg
      rename_i v hv
      have hci := Nat.eq_of_beq_eq_true hb
      have h4 : ci < 4 := (List.getElem?_eq_some_iff.mp hcl).1
      intro H locs ls hP hS hL
      exact va_get hC.1 hC.2.1 hC.2.2.2.2.1 hlay hC.2.2.2.1 hC.2.2.2.2.2.1.1 hP (xix o) (xwd_ob hci h4) hcl k hk (hC.2.2.2.2.1 _ hw) (fun _ h9 => h9) (xat_get _ k v hv) hd (hk2 H locs ls hP hS hL)
  · cases hg
theorem xwd_put {ad : xOb → Nat} {cA : ClassId} {M : xM} {o : xOb} {ci k : Nat} {a : Int32} (h : xci o = ci) (h4 : ci < 4) (hf : (xfl o (M o)).set k (xi a) = xfl o (upd (M o) k a)) : (xwd ad cA M).set (xix o) (ad o, .inr (ci, ((xfl o (M o)).map (xtv ad)).set k (.int a))) = xwd ad cA (xup M o k a) := by
  subst h
  have h1 := xwd_set (ad := ad) (cA := cA) (M := M) (xobs_cl o h4) (upd (M o) k a)
  have h2 : xen ad cA o (upd (M o) k a) = .inr (xci o, ((xfl o (M o)).map (xtv ad)).set k (.int a)) := by
    unfold xen
    rw [xal_cl o h4, ← hf, List.map_set]
    rfl
  rw [h2] at h1
  exact h1
theorem xwd_put2 {ad : xOb → Nat} {cA : ClassId} {M : xM} {o : xOb} {n k : Nat} {a : Int32} (h : xal o = some n) : (xwd ad cA M).set (xix o) (ad o, .inl (cA, n, .inl (upd (M o) k a))) = xwd ad cA (xup M o k a) := by
  have h1 := xwd_set (ad := ad) (cA := cA) (M := M) (xobs_ar o n h) (upd (M o) k a)
  have h2 : xen ad cA o (upd (M o) k a) = .inl (cA, n, .inl (upd (M o) k a)) := by
    unfold xen
    rw [h]
  rw [h2] at h1
  exact h1
theorem xput_at {l : List xV} {k : Nat} {a b : xV} (h : xat l k = some b) : k < l.length := by
  have := xat_get (ad := fun _ => 0) l k b h
  have := (List.getElem?_eq_some_iff.mp this).1
  simpa using this
theorem ok_put {ci k ix : Nat} {C : String} {T : u_T} {N : Nat} (hcl : vwCl[ci]? = some (C, T, N)) (hlay : ∀ w ∈ u_ws C T N, w ∈ xAL) (ty0 : Nat → FieldType) (hty : ∀ k, k < N → parseFieldDescriptor (T k).2.2.1 = some (ty0 k)) (hnm : ∀ a, a < N → ∀ b, b < N → a ≠ b → (T a).2.1 ≠ (T b).2.1) (hk : k < N) (hfin : (T k).2.2.2 = false) (hint : ty0 k = .int) (hfl : ∀ (o : xOb) (g : Nat → Int32) (a : Int32), xci o = ci → (xfl o g).set k (xi a) = xfl o (upd g k a) ∧ k < (xfl o g).length) (hw : Cond.fieldLink own ix (T k).1 (T k).2.1 (T k).2.2.1 ∈ xAL) (hd : decode cc pc = .ok (.putfield ix, 3)) (hn : pc + 3 = nx) : xOk own cc mL R pc (x_put ci k nx) := by
  subst hn
  intro p l e s m args below meth c cells slots Q D cA ad Rt hC f hi
  obtain ⟨n, f', hg, hk2⟩ := xdet_inv hi
  (try dsimp only at hg)
  split at hg
  · rename_i ls0 a o st M
    cases hb : Nat.beq (xci o) ci with
    | false => rw [hb] at hg; cases hg
    | true =>
      rw [hb] at hg
      have hg : some (pc + 3, ls0, st, xup M o k a) = some (n, f') := hg
      cases hg
      have hci := Nat.eq_of_beq_eq_true hb
      have h4 : ci < 4 := (List.getElem?_eq_some_iff.mp hcl).1
      intro H locs ls hP hS hL
      refine va_put (v := .int a) (ty := .int) hC.1 hC.2.1 hC.2.2.2.2.1 hlay ty0 hty hnm hC.2.2.2.1 hC.2.2.2.2.2.1.1 hP (xwd_D hC.2.2.2.2.2.1.2.1) hS (xix o) (xwd_ob hci h4) hcl k hk (hC.2.2.2.2.1 _ hw) (fun _ h9 => h9) hfin (by rw [hty k hk, hint]) rfl rfl (by rw [List.length_map]; exact (hfl o (M o) a hci).2) hd (fun H1 locs1 hP1 _ hS1 => ?_)
      rw [xwd_put hci h4 (hfl o (M o) a hci).1] at hP1
      exact hk2 H1 locs1 ls hP1 hS1 hL
  · cases hg
theorem ok_putz {ci k ix : Nat} {C : String} {T : u_T} {N : Nat} (hcl : vwCl[ci]? = some (C, T, N)) (hlay : ∀ w ∈ u_ws C T N, w ∈ xAL) (ty0 : Nat → FieldType) (hty : ∀ k, k < N → parseFieldDescriptor (T k).2.2.1 = some (ty0 k)) (hnm : ∀ a, a < N → ∀ b, b < N → a ≠ b → (T a).2.1 ≠ (T b).2.1) (hk : k < N) (hfin : (T k).2.2.2 = false) (hint : ty0 k = .boolean) (hfl : ∀ (o : xOb) (g : Nat → Int32) (a : Int32), xci o = ci → (xfl o g).set k (xi a) = xfl o (upd g k a) ∧ k < (xfl o g).length) (hw : Cond.fieldLink own ix (T k).1 (T k).2.1 (T k).2.2.1 ∈ xAL) (hd : decode cc pc = .ok (.putfield ix, 3)) (hn : pc + 3 = nx) : xOk own cc mL R pc (x_putz ci k nx) := by
  subst hn
  intro p l e s m args below meth c cells slots Q D cA ad Rt hC f hi
  obtain ⟨cd, n, f', hg, hcd, hk2⟩ := xdec_inv hi
  (try dsimp only at hg)
  split at hg
  · rename_i ls0 a o st M
    cases hb : Nat.beq (xci o) ci with
    | false => rw [hb] at hg; cases hg
    | true =>
      rw [hb] at hg
      have hg : some ((a = 0 ∨ a = 1), pc + 3, ls0, st, xup M o k a) = some (cd, n, f') := hg
      cases hg
      have hci := Nat.eq_of_beq_eq_true hb
      have h4 : ci < 4 := (List.getElem?_eq_some_iff.mp hcl).1
      have hnr : narrow .boolean (.int a) = .int a ∧ fits .boolean (.int a) = true := by
        rcases hcd with rfl | rfl <;> exact ⟨rfl, rfl⟩
      intro H locs ls hP hS hL
      refine va_put (v := .int a) (ty := .boolean) hC.1 hC.2.1 hC.2.2.2.2.1 hlay ty0 hty hnm hC.2.2.2.1 hC.2.2.2.2.2.1.1 hP (xwd_D hC.2.2.2.2.2.1.2.1) hS (xix o) (xwd_ob hci h4) hcl k hk (hC.2.2.2.2.1 _ hw) (fun _ h9 => h9) hfin (by rw [hty k hk, hint]) hnr.1 hnr.2 (by rw [List.length_map]; exact (hfl o (M o) a hci).2) hd (fun H1 locs1 hP1 _ hS1 => ?_)
      rw [xwd_put hci h4 (hfl o (M o) a hci).1] at hP1
      exact hk2 H1 locs1 ls hP1 hS1 hL
  · cases hg
theorem ok_iald (hd : decode cc pc = .ok (.iaload, 1)) (hn : pc + 1 = nx) : xOk own cc mL R pc (x_iald nx) := by
  subst hn
  intro p l e s m args below meth c cells slots Q D cA ad Rt hC f hi
  obtain ⟨cd, n, f', hg, hcd, hk2⟩ := xdec_inv hi
  (try dsimp only at hg)
  split at hg
  · split at hg <;> cases hg
    rename_i hal
    intro H locs ls hP hS hL
    exact va_iald hC.1 hC.2.1 hC.2.2.2.2.2.1.1 hP _ 0 (xwd_ar hal) rfl hcd hd (hk2 H locs ls hP hS hL)
  · cases hg
theorem ok_iast (hd : decode cc pc = .ok (.iastore, 1)) (hn : pc + 1 = nx) : xOk own cc mL R pc (x_iast nx) := by
  subst hn
  intro p l e s m args below meth c cells slots Q D cA ad Rt hC f hi
  obtain ⟨cd, n, f', hg, hcd, hk2⟩ := xdec_inv hi
  (try dsimp only at hg)
  split at hg
  · split at hg <;> cases hg
    rename_i hal
    intro H locs ls hP hS hL
    refine va_iast hC.1 hC.2.1 hC.2.2.2.2.2.1.1 hP (xwd_D hC.2.2.2.2.2.1.2.1) hS _ 0 (xwd_ar hal) rfl hcd hd (fun H1 locs1 hP1 _ hS1 => ?_)
    rw [xwd_put2 hal] at hP1
    exact hk2 H1 locs1 ls hP1 hS1 hL
  · cases hg
theorem xcs_sum (ad : xOb → Nat) : ∀ st : List xV, ((st.map (xtv ad)).map fun v => v.category).sum = xcs st
  | [] => rfl
  | v :: r => by
    rw [List.map_cons, List.map_cons, List.sum_cons, xcs_sum ad r, xtv_cat]
    rfl
theorem ok_min {ix : Nat} (hw : Cond.methodLink own ix Lib.Math.min.name ∈ xAL) (hR : 1 ≤ R.frames ∧ 21 ≤ R.locals) (hd : decode cc pc = .ok (.invokestatic ix, 3)) (hn : pc + 3 = nx) : xOk own cc mL R pc (x_min nx) := by
  subst hn
  intro p l e s m args below meth c cells slots Q D cA ad Rt hC f hi
  obtain ⟨n, f', hg, hk2⟩ := xdet_inv hi
  (try dsimp only at hg)
  split at hg
  · rename_i ls0 b a st M
    cases hb : Nat.ble (xcs st) 8 with
    | false => rw [hb] at hg; cases hg
    | true =>
      rw [hb] at hg
      have hg : some (pc + 3, ls0, (.inl (if b < a then b else a) : xV) :: st, M) = some (n, f') := hg
      cases hg
      have h8 := Nat.le_of_ble_eq_true hb
      intro H locs ls hP hS hL
      exact va_mmin hC.1 hC.2.1 (by rw [hC.2.2.1]; exact hL.2.1.symm) hC.2.2.2.1 (hC.2.2.2.2.1 _ hw) (hC.2.2.2.2.1 _ kst_J9_min_7cf53) (hC.2.2.2.2.1 _ kin_J9) (hC.2.2.2.2.1 _ kc_J9_min_7cf53) hR.1 (by rw [xcs_sum]; omega) hC.2.2.2.2.2.2.1 hC.2.2.2.2.2.2.2 hd (hk2 H locs ls hP hS hL)
  · cases hg
theorem ok_max {ix : Nat} (hw : Cond.methodLink own ix Lib.Math.max.name ∈ xAL) (hR : 1 ≤ R.frames ∧ 21 ≤ R.locals) (hd : decode cc pc = .ok (.invokestatic ix, 3)) (hn : pc + 3 = nx) : xOk own cc mL R pc (x_max nx) := by
  subst hn
  intro p l e s m args below meth c cells slots Q D cA ad Rt hC f hi
  obtain ⟨n, f', hg, hk2⟩ := xdet_inv hi
  (try dsimp only at hg)
  split at hg
  · rename_i ls0 b a st M
    cases hb : Nat.ble (xcs st) 8 with
    | false => rw [hb] at hg; cases hg
    | true =>
      rw [hb] at hg
      have hg : some (pc + 3, ls0, (.inl (if a < b then b else a) : xV) :: st, M) = some (n, f') := hg
      cases hg
      have h8 := Nat.le_of_ble_eq_true hb
      intro H locs ls hP hS hL
      exact va_mmax hC.1 hC.2.1 (by rw [hC.2.2.1]; exact hL.2.1.symm) hC.2.2.2.1 (hC.2.2.2.2.1 _ hw) (hC.2.2.2.2.1 _ kst_J9_max_7cf53) (hC.2.2.2.2.1 _ kin_J9) (hC.2.2.2.2.1 _ kc_J9_max_7cf53) hR.1 (by rw [xcs_sum]; omega) hC.2.2.2.2.2.2.1 hC.2.2.2.2.2.2.2 hd (hk2 H locs ls hP hS hL)
  · cases hg
end XOK2
end
section
theorem xpop_spec : ∀ (n : Nat) (st acc as rest : List xV), xpop n st acc = some (as, rest) → ∃ bs, as = bs ++ acc ∧ st = bs.reverse ++ rest ∧ bs.length = n
  | 0, st, acc, as, rest, h => by
    cases h
    exact ⟨[], rfl, rfl, rfl⟩
  | n + 1, [], acc, as, rest, h => by cases h
  | n + 1, v :: st, acc, as, rest, h => by
    obtain ⟨bs, h1, h2, h3⟩ := xpop_spec n st (v :: acc) as rest h
    refine ⟨bs ++ [v], ?_, ?_, ?_⟩
    · rw [h1, List.append_assoc]; rfl
    · rw [h2, List.reverse_append]; rfl
    · rw [List.length_append, h3]; rfl
/-- a method's meaning is what the JVM does -/
def xSnd (y : MethodName) (bytes : ByteArray) (maxL : Nat) (ret : Option FieldType) (rm : Room) (w : xZ) : Prop :=
  ∀ (l : Launch) (D : va_G) (cA : ClassId) (ad : xOb → Nat) (as : List xV) (M : xM) (Rt : xR), xcs as ≤ maxL → w.1 as M Rt → Met l y (Cond.code y bytes maxL ret :: xAL) rm (xPre D cA ad as M) (xPost D cA ad Rt) 0 0 (xAd ad)
section XCA
variable {p : Program} {l : Launch} {e : Env} {R : Room} {s : State} {m : MethodId} {args : Array Value} {below : List Frame} {meth : Method} {c : Code} {cells slots : Nat} {Q : State → Prop} {D : va_G} {cA : ClassId} {ad : xOb → Nat} {mL pc : Nat}
theorem xrun_W {H : Heap} {locs : List Loc} {ls : Array Slot} {st0 : List Value} {ls0 : List (Option xV)} {rest : List xV} {Rt : xR} {a : Array Value}
    (hr : va_Run p l e R s m args below meth c H locs cells slots 0 0 (F0 m pc ls st0) (rest.map (xtv ad)) (xPost D cA ad Rt a) (xAd ad)) (hS : va_S (xAd ad) s.heap H locs) (hL : xLk ad ls mL ls0)
    (kk : ∀ v M', Rt v M' → xPW p l e R s m args below meth c cells slots Q D cA ad mL (pc + 3) (ls0, v.toList ++ rest, M')) : W p l e R s m args below meth c H locs cells slots Q (F0 m pc ls st0) := by
  intro T hT X
  obtain ⟨v, st₀, t, T', L, h0, X', hLo, e1, e2, ⟨⟨v', M', hv, hp, hb⟩, hz, hk⟩, st⟩ := hr T hT X
  cases hv
  rw [h0] at hz hk
  have key := kk v' M' hp T'.heap (locs ++ L) ls (by rw [e1]; exact hb)
    ⟨Nat.le_trans hS.1 (by rw [e1]; exact hz), fun q h1 h2 => by rw [e1, hk q (Nat.lt_of_lt_of_le h1 hS.1) h2]; exact hS.2.1 q h1 h2, fun q hq => by
      rcases List.mem_append.mp hq with h | h
      · exact hS.2.2 q h
      · exact hLo q h⟩ hL
  obtain ⟨t2, a1, b1⟩ := key T' rfl X'
  refine ⟨t2, st t2 ?_, b1⟩
  have he : (v'.map (xtv ad)).toList ++ rest.map (xtv ad) = (v'.toList ++ rest).map (xtv ad) := by cases v' <;> rfl
  rw [he]
  exact a1
end XCA
def xoS (mL : Nat) : List xV → Bool := fun as => Nat.ble (xcs as) mL
def xoV (ci mL : Nat) : List xV → Bool := fun as => match as with
  | .inr (.inr o) :: _ => Nat.beq (xci o) ci && Nat.ble (xcs as) mL
  | _ => false
def xoT (mL : Nat) : List xV → Bool := fun as => match as with
  | .inr (.inr (.inr (.inr (.inr n)))) :: _ => (Nat.ble 20 n && Nat.ble n 25) && Nat.ble (xcs as) mL
  | _ => false
section XOK3
variable {own : String} {cc : ByteArray} {mL : Nat} {R : Room} {pc nx tg : Nat}
theorem xcall_inv {ok : List xV → Bool} {w : xZ} {n : Nat} {f : xF} {K : xK} {Rt : xR} (h : (xcall ok w n nx).1 f K Rt) : ∃ ls0 as rest M, f = (ls0, as.reverse ++ rest, M) ∧ as.length = n ∧ ok as = true ∧ xcs rest ≤ 8 ∧ w.1 as M (fun v M' => K nx (ls0, v.toList ++ rest, M')) := by
  obtain ⟨ls0, st, M⟩ := f
  have h : (match xpop n st [] with
    | some (as, rest) => (ok as && Nat.ble (xcs rest) 8) = true ∧ w.1 as M (fun v M' => K nx (ls0, v.toList ++ rest, M'))
    | none => False) := h
  cases hp : xpop n st [] with
  | none => rw [hp] at h; exact h.elim
  | some q =>
    obtain ⟨as, rest⟩ := q
    rw [hp] at h
    obtain ⟨bs, h1, h2, h3⟩ := xpop_spec n st [] as rest hp
    rw [List.append_nil] at h1
    subst h1
    have hb := Bool.and_eq_true_iff.mp h.1
    exact ⟨ls0, as, rest, M, by rw [h2], h3, hb.1, Nat.le_of_ble_eq_true hb.2, h.2⟩
theorem xgood {y : MethodName} {bytes : ByteArray} {maxL : Nat} {ret : Option FieldType} (h : Cond.code y bytes maxL ret ∈ xAL) : GoodIn xAL (Cond.code y bytes maxL ret :: xAL) := fun w hw => by
  rcases List.mem_cons.mp hw with rfl | hw
  · exact xAL_good _ h
  · exact xAL_good _ hw
def xDs (y : MethodName) (n : Nat) : Prop := y.cls ≠ "java/lang/invoke/MethodHandle" ∧ y.cls ≠ "java/lang/invoke/VarHandle" ∧ (parseMethodDescriptor y.desc).map (fun d => d.parameters.length) = some n
theorem ok_callS {y : MethodName} {bytes : ByteArray} {maxL : Nat} {ret : Option FieldType} {rm : Room} {w : xZ} {ix n : Nat} (hM : xSnd y bytes maxL ret rm w) (hrm : rm.cells = 0 ∧ rm.slots = 0) (hR : rm.frames + 1 ≤ R.frames ∧ 8 + (maxL + 11) + rm.locals ≤ R.locals) (hds : xDs y n)
    (w1 : Cond.methodLink own ix y ∈ xAL) (w2 : Cond.static y ∈ xAL) (w3 : Cond.initialized y.cls ∈ xAL) (w4 : Cond.code y bytes maxL ret ∈ xAL) (hd : decode cc pc = .ok (.invokestatic ix, 3)) (hn : pc + 3 = nx) : xOk own cc mL R pc (xcall (xoS maxL) w n nx) := by
  subst hn
  intro p l e s m args below meth c cells slots Q D cA ad Rt hC f hi
  obtain ⟨ls0, as, rest, M, rfl, hlen, hok, h8, hw⟩ := xcall_inv hi
  intro H locs ls hP hS hL
  have hts := hC.2.2.2.2.1
  have hM2 := hM l D cA ad as M _ (Nat.le_of_ble_eq_true hok) hw
  have hcb : CallB R s args own ix y bytes maxL ret (Cond.code y bytes maxL ret :: xAL) rm 0 0 n := callB_of n hts (xgood w4) rfl hrm.1 hrm.2 (hts _ w3) (hts _ w1) hds hR
  refine xrun_W (a := ((as.map (xtv ad))).toArray) (rest := rest) (va_runS (As := as.map (xtv ad)) ⟨hC.1, hC.2.1, hC.2.2.1, hC.2.2.2.1, hts⟩ hM2 ⟨hcb, hts _ w2⟩ ⟨xPre_blind, fun U hU hW => ⟨rfl, by rw [hU]; exact hP, xSx_warm hW (by rw [hU]; exact hS) hC.2.2.2.2.2.1⟩⟩ rfl (by rw [List.length_map]; exact hlen) hL.2.1 (by show (as.reverse ++ rest).map (xtv ad) = _; rw [List.map_append, List.map_reverse]) (lv_room (by rw [xcs_sum]; exact h8)) hd ⟨hC.2.2.2.2.2.2.1, hC.2.2.2.2.2.2.2⟩) hS hL (fun v M' h => h)
theorem ok_callV {ci : Nat} {C : String} {T : u_T} {N : Nat} {y : MethodName} {bytes : ByteArray} {maxL : Nat} {ret : Option FieldType} {rm : Room} {w : xZ} {ix n : Nat} (hcl : vwCl[ci]? = some (C, T, N)) (hM : xSnd y bytes maxL ret rm w) (hrm : rm.cells = 0 ∧ rm.slots = 0) (hR : rm.frames + 1 ≤ R.frames ∧ 8 + (maxL + 11) + rm.locals ≤ R.locals) (hds : xDs y n) 
    (w1 : Cond.methodLink own ix y ∈ xAL) (w2 : Cond.instanceMethod y ∈ xAL) (w5 : Cond.selects C y y ∈ xAL) (w3 : Cond.initialized y.cls ∈ xAL) (w4 : Cond.code y bytes maxL ret ∈ xAL) (hd : decode cc pc = .ok (.invokevirtual ix, 3)) (hn : pc + 3 = nx) : xOk own cc mL R pc (xcall (xoV ci maxL) w (n + 1) nx) := by
  subst hn
  intro p l e s m args below meth c cells slots Q D cA ad Rt hC f hi
  obtain ⟨ls0, as, rest, M, rfl, hlen, hok, h8, hw⟩ := xcall_inv hi
  intro H locs ls hP hS hL
  have hts := hC.2.2.2.2.1
  match as, hlen, hok, hw with
  | .inr (.inr o) :: as, hlen, hok, hw =>
    have hb := Bool.and_eq_true_iff.mp hok
    have hci := Nat.eq_of_beq_eq_true hb.1
    have h4 : ci < 4 := (List.getElem?_eq_some_iff.mp hcl).1
    have hM2 := hM l D cA ad _ M _ (Nat.le_of_ble_eq_true hb.2) hw
    have hcb : CallB R s args own ix y bytes maxL ret (Cond.code y bytes maxL ret :: xAL) rm 0 0 n := callB_of n hts (xgood w4) rfl hrm.1 hrm.2 (hts _ w3) (hts _ w1) hds hR
    refine xrun_W (a := (Value.ref (ad o) :: as.map (xtv ad)).toArray) (rest := rest) (va_runV (b := ad o) (C := C) (As := as.map (xtv ad)) ⟨hC.1, hC.2.1, hC.2.2.1, hC.2.2.2.1, hts⟩ hM2 ⟨hcb, hts _ w2, hts _ w5⟩ ⟨xPre_blind, va_recv hC.2.2.2.2.2.1.1 hP hcl (xwd_ob hci h4), fun U hU hW => ⟨rfl, by rw [hU]; exact hP, xSx_warm hW (by rw [hU]; exact hS) hC.2.2.2.2.2.1⟩⟩ rfl (by rw [List.length_map]; exact Nat.succ.inj hlen) hL.2.1 (by show ((.inr (.inr o) :: as).reverse ++ rest).map (xtv ad) = _; rw [List.reverse_cons, List.append_assoc, List.map_append, List.map_reverse]; rfl) (lv_room (by rw [xcs_sum]; exact h8)) hd ⟨hC.2.2.2.2.2.2.1, hC.2.2.2.2.2.2.2⟩) hS hL (fun v M' h => h)
  | [], _, hok, _ => cases hok
  | .inl _ :: _, _, hok, _ => cases hok
  | .inr (.inl _) :: _, _, hok, _ => cases hok
theorem ok_callT {y : MethodName} {bytes : ByteArray} {maxL : Nat} {ret : Option FieldType} {rm : Room} {w : xZ} {ix n : Nat} (hM : xSnd y bytes maxL ret rm w) (hrm : rm.cells = 0 ∧ rm.slots = 0) (hR : rm.frames + 1 ≤ R.frames ∧ 8 + (maxL + 11) + rm.locals ≤ R.locals) (hds : xDs y n) 
    (w1 : Cond.methodLink own ix y ∈ xAL) (w2 : Cond.instanceMethod y ∈ xAL) (w5 : Cond.selects "java/lang/String" y y ∈ xAL) (w3 : Cond.initialized y.cls ∈ xAL) (w4 : Cond.code y bytes maxL ret ∈ xAL) (hd : decode cc pc = .ok (.invokevirtual ix, 3)) (hn : pc + 3 = nx) : xOk own cc mL R pc (xcall (xoT maxL) w (n + 1) nx) := by
  subst hn
  intro p l e s m args below meth c cells slots Q D cA ad Rt hC f hi
  obtain ⟨ls0, as, rest, M, rfl, hlen, hok, h8, hw⟩ := xcall_inv hi
  intro H locs ls hP hS hL
  have hts := hC.2.2.2.2.1
  match as, hlen, hok, hw with
  | .inr (.inr (.inr (.inr (.inr k)))) :: as, hlen, hok, hw =>
    have hb := Bool.and_eq_true_iff.mp hok
    have hb2 := Bool.and_eq_true_iff.mp hb.1
    have k1 := Nat.le_of_ble_eq_true hb2.1
    have k2 := Nat.le_of_ble_eq_true hb2.2
    obtain ⟨i, rfl⟩ : ∃ i, k = 20 + i := ⟨k - 20, by omega⟩
    have hM2 := hM l D cA ad _ M _ (Nat.le_of_ble_eq_true hb.2) hw
    have hcb : CallB R s args own ix y bytes maxL ret (Cond.code y bytes maxL ret :: xAL) rm 0 0 n := callB_of n hts (xgood w4) rfl hrm.1 hrm.2 (hts _ w3) (hts _ w1) hds hR
    refine xrun_W (a := (Value.ref (ad (xN (20 + i))) :: as.map (xtv ad)).toArray) (rest := rest) (va_runV (b := ad (xN (20 + i))) (C := "java/lang/String") (As := as.map (xtv ad)) ⟨hC.1, hC.2.1, hC.2.2.1, hC.2.2.2.1, hts⟩ hM2 ⟨hcb, hts _ w2, hts _ w5⟩ ⟨xPre_blind, vk_recv (adK := fun i => ad (xN (20 + i))) (i := i) hC.2.2.2.2.2.1.2.2.2.2.1 (by omega) hS, fun U hU hW => ⟨rfl, by rw [hU]; exact hP, xSx_warm hW (by rw [hU]; exact hS) hC.2.2.2.2.2.1⟩⟩ rfl (by rw [List.length_map]; exact Nat.succ.inj hlen) hL.2.1 (by show ((.inr (.inr (xN (20 + i))) :: as).reverse ++ rest).map (xtv ad) = _; rw [List.reverse_cons, List.append_assoc, List.map_append, List.map_reverse]; rfl) (lv_room (by rw [xcs_sum]; exact h8)) hd ⟨hC.2.2.2.2.2.2.1, hC.2.2.2.2.2.2.2⟩) hS hL (fun v M' h => h)
  | [], _, hok, _ => cases hok
  | .inl _ :: _, _, hok, _ => cases hok
  | .inr (.inl _) :: _, _, hok, _ => cases hok
  | .inr (.inr (.inl _)) :: _, _, hok, _ => cases hok
  | .inr (.inr (.inr (.inl _))) :: _, _, hok, _ => cases hok
  | .inr (.inr (.inr (.inr (.inl _)))) :: _, _, hok, _ => cases hok
/-! switches -/
theorem xsw_at {a : Int32} {d : Nat} {k : Nat → Prop} : ∀ {r : List (Int32 × Nat)}, xsw a d k r → k (((r.find? (fun q => q.1 == a)).map (fun q => q.2)).getD d)
  | [], h => h
  | (c, t) :: r, h => by
    by_cases hc : a = c
    · subst hc
      simpa using h.1 rfl
    · have := xsw_at (h.2 hc)
      have hf : ((c, t).1 == a) = false := by
        rw [beq_eq_false_iff_ne]
        exact fun q => hc q.symm
      rw [List.find?_cons_of_neg (by rw [hf]; decide)]
      exact this
theorem xswi_inv {d : Nat} {r : List (Int32 × Nat)} {f : xF} {K : xK} {Rt : xR} (h : (xswi d r).1 f K Rt) : ∃ ls0 a st M, f = (ls0, .inl a :: st, M) ∧ K (((r.find? (fun q => q.1 == a)).map (fun q => q.2)).getD d) (ls0, st, M) := by
  obtain ⟨ls0, st, M⟩ := f
  match st, h with
  | .inl a :: st, h => exact ⟨ls0, a, st, M, rfl, xsw_at (k := fun n => K n (ls0, st, M)) h⟩
  | [], h => exact h.elim
  | .inr _ :: _, h => exact h.elim
/-- a tableswitch: its cases lo, lo + 1 .. and where each goes -/
theorem ok_tsw {dflt lo hi : Int} {offs : Array Int} {len d : Nat} {r : List (Int32 × Nat)} (hd : decode cc pc = .ok (.tableswitch dflt lo hi offs, len)) (h0 : (pc : Int) + dflt = (d : Int))
    (hin : ∀ q ∈ r, ¬ q.1.toInt < lo ∧ ¬ hi < q.1.toInt ∧ ∃ off, offs[(q.1.toInt - lo).toNat]? = some off ∧ (pc : Int) + off = (q.2 : Int)) (hall : ∀ k : Nat, k < (hi - lo + 1).toNat → ∃ q ∈ r, q.1.toInt = lo + k) : xOk own cc mL R pc (xswi d r) := by
  intro p l e s m args below meth c cells slots Q D cA ad Rt hC f hi0
  obtain ⟨ls0, a, st, M, rfl, hk⟩ := xswi_inv hi0
  intro H locs ls hP hS hL
  cases hf : r.find? (fun q => q.1 == a) with
  | some q =>
    rw [hf] at hk
    have hq := List.find?_some hf
    have hqa : q.1 = a := by simpa using hq
    obtain ⟨h1, h2, off, h3, h4⟩ := hin q (List.mem_of_find?_eq_some hf)
    rw [hqa] at h1 h2 h3
    exact lv_tableIn hC.1 hC.2.1 hd h1 h2 h3 h4 (hk H locs ls hP hS hL)
  | none =>
    rw [hf] at hk
    have hn := List.find?_eq_none.mp hf
    refine lv_tableOut hC.1 hC.2.1 hd ?_ h0 (hk H locs ls hP hS hL)
    by_cases h1 : a.toInt < lo
    · exact Or.inl h1
    · by_cases h2 : hi < a.toInt
      · exact Or.inr h2
      · exfalso
        obtain ⟨q, hq, he⟩ := hall (a.toInt - lo).toNat (by omega)
        have he : q.1.toInt = a.toInt := by rw [he]; omega
        exact hn q hq (by simpa using Int32.toInt_inj.mp he)
theorem xlk_off : ∀ (r : List (Int32 × Nat)) (pc d : Nat) (dflt : Int) (a : Int32), (pc : Int) + dflt = (d : Int) → (pc : Int) + Op.lookupswitch.offset (r.map fun q => (q.1.toInt, (q.2 : Int) - pc)) dflt a.toInt = ((((r.find? (fun q => q.1 == a)).map (fun q => q.2)).getD d : Nat) : Int)
  | [], pc, d, dflt, a, h => h
  | (c, t) :: r, pc, d, dflt, a, h => by
    rw [List.map_cons, Op.lookupswitch.offset_cons]
    by_cases hc : a = c
    · subst hc
      rw [if_pos rfl]
      simp
      omega
    · rw [if_neg (fun q => hc (Int32.toInt_inj.mp q.symm)), xlk_off r pc d dflt a h]
      have hf : ((c, t).1 == a) = false := by
        rw [beq_eq_false_iff_ne]
        exact fun q => hc q.symm
      rw [List.find?_cons_of_neg (by rw [hf]; decide)]
theorem ok_lsw {dflt : Int} {ps : Array (Int × Int)} {len d : Nat} {r : List (Int32 × Nat)} (hd : decode cc pc = .ok (.lookupswitch dflt ps, len)) (h0 : (pc : Int) + dflt = (d : Int)) (hs : (ps.toList.zip (ps.toList.drop 1)).all (fun (a, next) => a.1 < next.1) = true) (hr : ps.toList = r.map fun q => (q.1.toInt, (q.2 : Int) - pc)) : xOk own cc mL R pc (xswi d r) := by
  intro p l e s m args below meth c cells slots Q D cA ad Rt hC f hi0
  obtain ⟨ls0, a, st, M, rfl, hk⟩ := xswi_inv hi0
  intro H locs ls hP hS hL
  exact lv_lookup hC.1 hC.2.1 hd hs rfl (by rw [hr]; exact xlk_off r pc d dflt a h0) (hk H locs ls hP hS hL)
/-! a method: its instructions, its ends -/
def xOkM (own : String) (cc : ByteArray) (mL : Nat) (ret : Option FieldType) (R : Room) (pc : Nat) (i : xI) : Prop :=
  ∀ (p : Program) (l : Launch) (e : Env) (s : State) (m : MethodId) (args : Array Value) (below : List Frame) (meth : Method) (c : Code) (D : va_G) (cA : ClassId) (ad : xOb → Nat) (Rt : xR),
    xCx p s m args c own cc mL R 0 0 D cA ad → meth.sig.returnType = ret → meth.locks = false → ∀ f : xF, i.1 f (xPW p l e R s m args below meth c 0 0 (MQ below (xPost D cA ad Rt) args s 0 0 (xAd ad)) D cA ad mL) Rt → xPW p l e R s m args below meth c 0 0 (MQ below (xPost D cA ad Rt) args s 0 0 (xAd ad)) D cA ad mL pc f
theorem xOk.m {ret : Option FieldType} {i : xI} (h : xOk own cc mL R pc i) : xOkM own cc mL ret R pc i := fun p l e s m args below meth c D cA ad Rt hC _ _ f hi => h p l e s m args below meth c 0 0 _ D cA ad Rt hC f hi
theorem ok_st {ret : Option FieldType} : xOkM own cc mL ret R pc xst := fun _ _ _ _ _ _ _ _ _ _ _ _ _ _ _ _ _ hi => hi.elim
theorem ok_iret (hd : decode cc pc = .ok (.ireturn, 1)) : xOkM own cc mL (some .int) R pc x_iret := by
  intro p l e s m args below meth c D cA ad Rt hC hr hlk f hi
  obtain ⟨cd, v, M, hg, hcd, hk⟩ := xre_inv hi
  (try dsimp only at hg)
  split at hg <;> cases hg
  exact fun H locs ls hP hS hL => W.iret hC.1 hC.2.1 hr (fun t ht hW => ⟨⟨_, _, rfl, hk, by rw [ht]; exact hP⟩, hS.F ht⟩) hS.2.2 hd
theorem ok_zret (hd : decode cc pc = .ok (.ireturn, 1)) : xOkM own cc mL (some .boolean) R pc x_zret := by
  intro p l e s m args below meth c D cA ad Rt hC hr hlk f hi
  obtain ⟨cd, v, M, hg, hcd, hk⟩ := xre_inv hi
  (try dsimp only at hg)
  split at hg <;> cases hg
  exact fun H locs ls hP hS hL => W.zret hC.1 hC.2.1 hr (by rcases hcd with rfl | rfl <;> rfl) (fun t ht hW => ⟨⟨_, _, rfl, hk, by rw [ht]; exact hP⟩, hS.F ht⟩) hS.2.2 hd
theorem ok_lret (hd : decode cc pc = .ok (.lreturn, 1)) : xOkM own cc mL (some .long) R pc x_lret := by
  intro p l e s m args below meth c D cA ad Rt hC hr hlk f hi
  obtain ⟨cd, v, M, hg, hcd, hk⟩ := xre_inv hi
  (try dsimp only at hg)
  split at hg <;> cases hg
  exact fun H locs ls hP hS hL => W.lret hC.1 hC.2.1 hr (fun t ht hW => ⟨⟨_, _, rfl, hk, by rw [ht]; exact hP⟩, hS.F ht⟩) hS.2.2 hd
theorem ok_aret {nm : String} (hd : decode cc pc = .ok (.areturn, 1)) : xOkM own cc mL (some (.object nm)) R pc x_aret := by
  intro p l e s m args below meth c D cA ad Rt hC hr hlk f hi
  obtain ⟨cd, v, M, hg, hcd, hk⟩ := xre_inv hi
  (try dsimp only at hg)
  split at hg <;> cases hg
  exact fun H locs ls hP hS hL => W.aret hC.1 hC.2.1 hr (Or.inl ⟨nm, rfl⟩) (Or.inr ⟨_, rfl⟩) (fun t ht hW => ⟨⟨_, _, rfl, hk, by rw [ht]; exact hP⟩, hS.F ht⟩) hS.2.2 hd
theorem ok_vret (hd : decode cc pc = .ok (.return_, 1)) : xOkM own cc mL none R pc x_vret := by
  intro p l e s m args below meth c D cA ad Rt hC hr hlk f hi
  obtain ⟨cd, v, M, hg, hcd, hk⟩ := xre_inv hi
  (try dsimp only at hg)
  split at hg <;> cases hg
  exact fun H locs ls hP hS hL => W.vret hC.1 hC.2.1 hr (fun t ht hW => ⟨⟨_, _, rfl, hk, by rw [ht]; exact hP⟩, hS.F ht⟩) hS.2.2 hd
theorem xlg_len (ad : xOb → Nat) : ∀ as : List xV, (lg_sl (as.map (xtv ad))).length = xcs as
  | [] => rfl
  | .inl a :: r => by
    have := xlg_len ad r
    show (lg_sl (.int a :: r.map (xtv ad))).length = 1 + xcs r
    rw [← this]
    simp [lg_sl, Value.category]
    omega
  | .inr (.inl a) :: r => by
    have := xlg_len ad r
    show (lg_sl (.long a :: r.map (xtv ad))).length = 2 + xcs r
    rw [← this]
    simp [lg_sl, Value.category]
    omega
  | .inr (.inr a) :: r => by
    have := xlg_len ad r
    show (lg_sl (.ref (ad a) :: r.map (xtv ad))).length = 1 + xcs r
    rw [← this]
    simp [lg_sl, Value.category]
    omega
theorem xent_len : ∀ (n : Nat) (as : List xV), (xent n as).length = n
  | 0, _ => by simp [xent]
  | n + 1, [] => by simp [xent, xent_len n []]
  | 1, .inr (.inl a) :: r => by simp [xent]
  | n + 2, .inr (.inl a) :: r => by simp [xent, xent_len n r]
  | n + 1, .inl a :: r => by simp [xent, xent_len n r]
  | n + 1, .inr (.inr a) :: r => by simp [xent, xent_len n r]
theorem xent_nil (ad : xOb → Nat) : ∀ (n k : Nat), xas ad k (xent n []) = []
  | 0, _ => by simp [xent, xas]
  | n + 1, k => by simp [xent, xas, xent_nil ad n (k + 1)]
theorem xent_as (ad : xOb → Nat) : ∀ (n k : Nat) (as : List xV), xcs as ≤ n → ∀ q ∈ xas ad k (xent n as), q ∈ lv_args k (as.map (xtv ad))
  | n, k, [], _, q, hq => by rw [xent_nil] at hq; cases hq
  | 0, k, v :: r, h, q, hq => by simp [xent, xas] at hq
  | 1, k, .inr (.inl a) :: r, h, q, hq => by
    have : xcs (.inr (.inl a) :: r) = 2 + xcs r := rfl
    omega
  | n + 2, k, .inr (.inl a) :: r, h, q, hq => by
    have h1 : xcs (.inr (.inl a) :: r) = 2 + xcs r := rfl
    rw [show xent (n + 2) (.inr (.inl a) :: r) = some (.inr (.inl a)) :: none :: xent n r by simp [xent]] at hq
    rcases List.mem_cons.mp hq with rfl | hq
    · exact List.mem_cons_self
    · have := xent_as ad n (k + 2) r (by omega) q hq
      exact List.mem_cons_of_mem _ this
  | n + 1, k, .inl a :: r, h, q, hq => by
    have h1 : xcs (.inl a :: r) = 1 + xcs r := rfl
    rw [show xent (n + 1) (.inl a :: r) = some (.inl a) :: xent n r by simp [xent]] at hq
    rcases List.mem_cons.mp hq with rfl | hq
    · exact List.mem_cons_self
    · have := xent_as ad n (k + 1) r (by omega) q hq
      exact List.mem_cons_of_mem _ this
  | n + 1, k, .inr (.inr a) :: r, h, q, hq => by
    have h1 : xcs (.inr (.inr a) :: r) = 1 + xcs r := rfl
    rw [show xent (n + 1) (.inr (.inr a) :: r) = some (.inr (.inr a)) :: xent n r by simp [xent]] at hq
    rcases List.mem_cons.mp hq with rfl | hq
    · exact List.mem_cons_self
    · have := xent_as ad n (k + 1) r (by omega) q hq
      exact List.mem_cons_of_mem _ this
/-- a method whose instructions are as the small machine has them means what the small machine says -/
theorem xsnd {y : MethodName} {pg : Nat → xI} {ret : Option FieldType} (hy : plainName y.cls = true) (hok : ∀ pc, xOkM y.cls cc mL ret R pc (pg pc)) : xSnd y cc mL ret R (xmet pg mL) := by
  intro l D cA ad as M Rt hcs hw
  refine Met.ofW (cc := cc) (maxL := mL) (ret := ret) hy rfl ?_
  intro p e s m args below meth c s₁ B hml hv
  obtain ⟨rfl, hP, hSx⟩ := hv
  have hts := atoms_spec (ws := Cond.code y cc mL ret :: xAL) B.pre
  have hC : xCx p s m ((as.map (xtv ad)).toArray) c y.cls cc mL R 0 0 D cA ad := ⟨B.exec, B.bytes, hml, findClass_of_methodNamed B.named, fun w h => hts w (List.mem_cons_of_mem _ h), hSx, Nat.zero_le _, Nat.zero_le _⟩
  have hlocks := B.notSynchronized
  have h0 : xPW p l e R s m ((as.map (xtv ad)).toArray) below meth c 0 0 (MQ below (xPost D cA ad Rt) ((as.map (xtv ad)).toArray) s 0 0 (xAd ad)) D cA ad mL 0 (xent mL as, [], M) := hw _ (fun pc f hi => hok pc p l e s m _ below meth c D cA ad Rt hC B.returns hlocks f hi)
  have hle : (lg_sl (as.map (xtv ad))).length ≤ mL := by rw [xlg_len]; exact hcs
  have hl := lv_entry (as.map (xtv ad)) (n := mL) hle
  rw [lg_entry_eq]
  exact h0 s.heap [] _ hP va_S.rf ⟨xent_len mL as, hl.1, hl.2.1, fun q hq => hl.2.2 q (xent_as ad mL 0 as hcs q hq)⟩
/-- programs are trees of places -/
theorem ok_lf {ret : Option FieldType} {k : Nat} {i : xI} (h : xOkM own cc mL ret R k i) : ∀ pc, xOkM own cc mL ret R pc (cond (Nat.beq pc k) i xst) := fun pc => by
  cases hb : Nat.beq pc k with
  | false => exact ok_st
  | true =>
    have := Nat.eq_of_beq_eq_true hb
    subst this
    exact h
theorem ok_nd {ret : Option FieldType} {k : Nat} {a b : Nat → xI} (h1 : ∀ pc, xOkM own cc mL ret R pc (a pc)) (h2 : ∀ pc, xOkM own cc mL ret R pc (b pc)) : ∀ pc, xOkM own cc mL ret R pc (cond (Nat.ble pc k) (a pc) (b pc)) := fun pc => by
  cases Nat.ble pc k with
  | false => exact h2 pc
  | true => exact h1 pc
end XOK3
end
section
/-! the fields of ints, a row each: writing one is writing the memory -/
theorem fs_0_5 : ∀ (o : xOb) (g : Nat → Int32) (a : Int32), xci o = 0 → (xfl o g).set 5 (xi a) = xfl o (upd g 5 a) ∧ 5 < (xfl o g).length := fun o g a h => match o, h with
  | .inl i, _ => ⟨rfl, (by show 5 < 12; omega)⟩
  | .inr (.inl _), h => by cases h
  | .inr (.inr (.inl _)), h => by cases h
  | .inr (.inr (.inr 0)), h => by cases h
  | .inr (.inr (.inr 1)), h => by cases h
  | .inr (.inr (.inr 2)), h => by cases h
  | .inr (.inr (.inr (_ + 3))), h => by cases h
theorem fs_0_6 : ∀ (o : xOb) (g : Nat → Int32) (a : Int32), xci o = 0 → (xfl o g).set 6 (xi a) = xfl o (upd g 6 a) ∧ 6 < (xfl o g).length := fun o g a h => match o, h with
  | .inl i, _ => ⟨rfl, (by show 6 < 12; omega)⟩
  | .inr (.inl _), h => by cases h
  | .inr (.inr (.inl _)), h => by cases h
  | .inr (.inr (.inr 0)), h => by cases h
  | .inr (.inr (.inr 1)), h => by cases h
  | .inr (.inr (.inr 2)), h => by cases h
  | .inr (.inr (.inr (_ + 3))), h => by cases h
theorem fs_0_7 : ∀ (o : xOb) (g : Nat → Int32) (a : Int32), xci o = 0 → (xfl o g).set 7 (xi a) = xfl o (upd g 7 a) ∧ 7 < (xfl o g).length := fun o g a h => match o, h with
  | .inl i, _ => ⟨rfl, (by show 7 < 12; omega)⟩
  | .inr (.inl _), h => by cases h
  | .inr (.inr (.inl _)), h => by cases h
  | .inr (.inr (.inr 0)), h => by cases h
  | .inr (.inr (.inr 1)), h => by cases h
  | .inr (.inr (.inr 2)), h => by cases h
  | .inr (.inr (.inr (_ + 3))), h => by cases h
theorem fs_0_8 : ∀ (o : xOb) (g : Nat → Int32) (a : Int32), xci o = 0 → (xfl o g).set 8 (xi a) = xfl o (upd g 8 a) ∧ 8 < (xfl o g).length := fun o g a h => match o, h with
  | .inl i, _ => ⟨rfl, (by show 8 < 12; omega)⟩
  | .inr (.inl _), h => by cases h
  | .inr (.inr (.inl _)), h => by cases h
  | .inr (.inr (.inr 0)), h => by cases h
  | .inr (.inr (.inr 1)), h => by cases h
  | .inr (.inr (.inr 2)), h => by cases h
  | .inr (.inr (.inr (_ + 3))), h => by cases h
theorem fs_0_9 : ∀ (o : xOb) (g : Nat → Int32) (a : Int32), xci o = 0 → (xfl o g).set 9 (xi a) = xfl o (upd g 9 a) ∧ 9 < (xfl o g).length := fun o g a h => match o, h with
  | .inl i, _ => ⟨rfl, (by show 9 < 12; omega)⟩
  | .inr (.inl _), h => by cases h
  | .inr (.inr (.inl _)), h => by cases h
  | .inr (.inr (.inr 0)), h => by cases h
  | .inr (.inr (.inr 1)), h => by cases h
  | .inr (.inr (.inr 2)), h => by cases h
  | .inr (.inr (.inr (_ + 3))), h => by cases h
theorem fs_0_10 : ∀ (o : xOb) (g : Nat → Int32) (a : Int32), xci o = 0 → (xfl o g).set 10 (xi a) = xfl o (upd g 10 a) ∧ 10 < (xfl o g).length := fun o g a h => match o, h with
  | .inl i, _ => ⟨rfl, (by show 10 < 12; omega)⟩
  | .inr (.inl _), h => by cases h
  | .inr (.inr (.inl _)), h => by cases h
  | .inr (.inr (.inr 0)), h => by cases h
  | .inr (.inr (.inr 1)), h => by cases h
  | .inr (.inr (.inr 2)), h => by cases h
  | .inr (.inr (.inr (_ + 3))), h => by cases h
theorem fs_0_11 : ∀ (o : xOb) (g : Nat → Int32) (a : Int32), xci o = 0 → (xfl o g).set 11 (xi a) = xfl o (upd g 11 a) ∧ 11 < (xfl o g).length := fun o g a h => match o, h with
  | .inl i, _ => ⟨rfl, (by show 11 < 12; omega)⟩
  | .inr (.inl _), h => by cases h
  | .inr (.inr (.inl _)), h => by cases h
  | .inr (.inr (.inr 0)), h => by cases h
  | .inr (.inr (.inr 1)), h => by cases h
  | .inr (.inr (.inr 2)), h => by cases h
  | .inr (.inr (.inr (_ + 3))), h => by cases h
theorem fs_1_1 : ∀ (o : xOb) (g : Nat → Int32) (a : Int32), xci o = 1 → (xfl o g).set 1 (xi a) = xfl o (upd g 1 a) ∧ 1 < (xfl o g).length := fun o g a h => match o, h with
  | .inl i, h => by cases h
  | .inr (.inl _), h => by cases h
  | .inr (.inr (.inl _)), h => by cases h
  | .inr (.inr (.inr 0)), h => by cases h
  | .inr (.inr (.inr 1)), _ => ⟨rfl, (by show 1 < 2; omega)⟩
  | .inr (.inr (.inr 2)), h => by cases h
  | .inr (.inr (.inr (_ + 3))), h => by cases h
theorem fs_2_6 : ∀ (o : xOb) (g : Nat → Int32) (a : Int32), xci o = 2 → (xfl o g).set 6 (xi a) = xfl o (upd g 6 a) ∧ 6 < (xfl o g).length := fun o g a h => match o, h with
  | .inl i, h => by cases h
  | .inr (.inl _), h => by cases h
  | .inr (.inr (.inl _)), h => by cases h
  | .inr (.inr (.inr 0)), _ => ⟨rfl, (by show 6 < 8; omega)⟩
  | .inr (.inr (.inr 1)), h => by cases h
  | .inr (.inr (.inr 2)), h => by cases h
  | .inr (.inr (.inr (_ + 3))), h => by cases h
theorem fs_2_7 : ∀ (o : xOb) (g : Nat → Int32) (a : Int32), xci o = 2 → (xfl o g).set 7 (xi a) = xfl o (upd g 7 a) ∧ 7 < (xfl o g).length := fun o g a h => match o, h with
  | .inl i, h => by cases h
  | .inr (.inl _), h => by cases h
  | .inr (.inr (.inl _)), h => by cases h
  | .inr (.inr (.inr 0)), _ => ⟨rfl, (by show 7 < 8; omega)⟩
  | .inr (.inr (.inr 1)), h => by cases h
  | .inr (.inr (.inr 2)), h => by cases h
  | .inr (.inr (.inr (_ + 3))), h => by cases h
theorem fs_3_4 : ∀ (o : xOb) (g : Nat → Int32) (a : Int32), xci o = 3 → (xfl o g).set 4 (xi a) = xfl o (upd g 4 a) ∧ 4 < (xfl o g).length := fun o g a h => match o, h with
  | .inl i, h => by cases h
  | .inr (.inl _), h => by cases h
  | .inr (.inr (.inl _)), h => by cases h
  | .inr (.inr (.inr 0)), h => by cases h
  | .inr (.inr (.inr 1)), h => by cases h
  | .inr (.inr (.inr 2)), _ => ⟨rfl, (by show 4 < 13; omega)⟩
  | .inr (.inr (.inr (_ + 3))), h => by cases h
theorem fs_3_8 : ∀ (o : xOb) (g : Nat → Int32) (a : Int32), xci o = 3 → (xfl o g).set 8 (xi a) = xfl o (upd g 8 a) ∧ 8 < (xfl o g).length := fun o g a h => match o, h with
  | .inl i, h => by cases h
  | .inr (.inl _), h => by cases h
  | .inr (.inr (.inl _)), h => by cases h
  | .inr (.inr (.inr 0)), h => by cases h
  | .inr (.inr (.inr 1)), h => by cases h
  | .inr (.inr (.inr 2)), _ => ⟨rfl, (by show 8 < 13; omega)⟩
  | .inr (.inr (.inr (_ + 3))), h => by cases h
theorem fs_3_9 : ∀ (o : xOb) (g : Nat → Int32) (a : Int32), xci o = 3 → (xfl o g).set 9 (xi a) = xfl o (upd g 9 a) ∧ 9 < (xfl o g).length := fun o g a h => match o, h with
  | .inl i, h => by cases h
  | .inr (.inl _), h => by cases h
  | .inr (.inr (.inl _)), h => by cases h
  | .inr (.inr (.inr 0)), h => by cases h
  | .inr (.inr (.inr 1)), h => by cases h
  | .inr (.inr (.inr 2)), _ => ⟨rfl, (by show 9 < 13; omega)⟩
  | .inr (.inr (.inr (_ + 3))), h => by cases h
theorem fs_3_10 : ∀ (o : xOb) (g : Nat → Int32) (a : Int32), xci o = 3 → (xfl o g).set 10 (xi a) = xfl o (upd g 10 a) ∧ 10 < (xfl o g).length := fun o g a h => match o, h with
  | .inl i, h => by cases h
  | .inr (.inl _), h => by cases h
  | .inr (.inr (.inl _)), h => by cases h
  | .inr (.inr (.inr 0)), h => by cases h
  | .inr (.inr (.inr 1)), h => by cases h
  | .inr (.inr (.inr 2)), _ => ⟨rfl, (by show 10 < 13; omega)⟩
  | .inr (.inr (.inr (_ + 3))), h => by cases h
theorem fs_3_12 : ∀ (o : xOb) (g : Nat → Int32) (a : Int32), xci o = 3 → (xfl o g).set 12 (xi a) = xfl o (upd g 12 a) ∧ 12 < (xfl o g).length := fun o g a h => match o, h with
  | .inl i, h => by cases h
  | .inr (.inl _), h => by cases h
  | .inr (.inr (.inl _)), h => by cases h
  | .inr (.inr (.inr 0)), h => by cases h
  | .inr (.inr (.inr 1)), h => by cases h
  | .inr (.inr (.inr 2)), _ => ⟨rfl, (by show 12 < 13; omega)⟩
  | .inr (.inr (.inr (_ + 3))), h => by cases h
/-! the String constants: what their methods read -/
def xsb (n : Nat) : Bool := Nat.ble 40 n && Nat.ble n 45
def x_sval (nx : Nat) : xI := xdet fun f => match f with
  | (ls, .inr (.inr (.inr (.inr (.inr n)))) :: st, M) => cond (Nat.ble 20 n && Nat.ble n 25) (some (nx, ls, xo (xN (n + 20)) :: st, M)) none
  | _ => none
def x_scod (nx : Nat) : xI := xdet fun f => match f with
  | (ls, .inr (.inr (.inr (.inr (.inr n)))) :: st, M) => cond (Nat.ble 20 n && Nat.ble n 25) (some (nx, ls, xi 0 :: st, M)) none
  | _ => none
def x_alen (nx : Nat) : xI := xdet fun f => match f with
  | (ls, .inr (.inr (.inr (.inr (.inr n)))) :: st, M) => cond (Nat.ble 40 n && Nat.ble n 45) (some (nx, ls, xi (Int32.ofNat (xlen.getD (n - 40) 0)) :: st, M)) none
  | _ => none
def x_bald (nx : Nat) : xI := xdec fun f => match f with
  | (ls, .inl a :: .inr (.inr (.inr (.inr (.inr n)))) :: st, M) => cond (Nat.ble 40 n && Nat.ble n 45) (some (vp_in a (xlen.getD (n - 40) 0), nx, ls, xi ((xbyt.getD (n - 40) []).getD a.toNatClampNeg 0) :: st, M)) none
  | _ => none
def x_i2b (nx : Nat) : xI := xdet fun f => match f with
  | (ls, .inl a :: st, M) => some (nx, ls, .inl a.toInt8.toInt32 :: st, M)
  | _ => none
def x_bret : xI := xre fun f => match f with
  | (_, [.inl a], M) => some (narrow .byte (.int a) = .int a, some (.inl a), M)
  | _ => none
def x_cret : xI := xre fun f => match f with
  | (_, [.inl a], M) => some (narrow .char (.int a) = .int a, some (.inl a), M)
  | _ => none
section XOK4
variable {own : String} {cc : ByteArray} {mL : Nat} {R : Room} {pc nx tg : Nat}
theorem ok_i2b (hd : decode cc pc = .ok (.i2b, 1)) (hn : pc + 1 = nx) : xOk own cc mL R pc (x_i2b nx) := by
  subst hn
  intro p l e s m args below meth c cells slots Q D cA ad Rt hC f hi
  obtain ⟨n, f', hg, hk⟩ := xdet_inv hi
  (try dsimp only at hg)
  split at hg <;> cases hg
  exact fun H locs ls hP hS hL => lv_i2b hC.1 hC.2.1 hd rfl (hk H locs ls hP hS hL)
theorem ok_gcs {ix : Nat} (hw : Cond.fieldLink own ix "java/lang/String" "COMPACT_STRINGS" "Z" ∈ xAL) (hd : decode cc pc = .ok (.getstatic ix, 3)) (hn : pc + 3 = nx) : xOk own cc mL R pc (x_push (xi 1) nx) := by
  subst hn
  intro p l e s m args below meth c cells slots Q D cA ad Rt hC f hi
  exact fun H locs ls hP hS hL => va_gets hC.1 hC.2.1 hC.2.2.2.2.2.1.2.2.1 hS hC.2.2.2.1 (hC.2.2.2.2.1 _ hw) (fun _ h9 => h9) hd (hi H locs ls hP hS hL)
theorem ok_sval {ix : Nat} (hw : Cond.fieldLink own ix "java/lang/String" "value" "[B" ∈ xAL) (hd : decode cc pc = .ok (.getfield ix, 3)) (hn : pc + 3 = nx) : xOk own cc mL R pc (x_sval nx) := by
  subst hn
  intro p l e s m args below meth c cells slots Q D cA ad Rt hC f hi
  obtain ⟨n, f', hg, hk⟩ := xdet_inv hi
  (try dsimp only at hg)
  split at hg
  · rename_i ls0 k st M
    cases hb : (Nat.ble 20 k && Nat.ble k 25) with
    | false => rw [hb] at hg; cases hg
    | true =>
      rw [hb] at hg
      have hg : some (pc + 3, ls0, xo (xN (k + 20)) :: st, M) = some (n, f') := hg
      cases hg
      have hb2 := Bool.and_eq_true_iff.mp hb
      have k1 := Nat.le_of_ble_eq_true hb2.1
      have k2 := Nat.le_of_ble_eq_true hb2.2
      obtain ⟨i, rfl⟩ : ∃ i, k = 20 + i := ⟨k - 20, by omega⟩
      have h1 := (hC.2.2.2.2.2.1.2.2.2.2.1.1 i (by omega)).2.2.1
      have he : xN (20 + i + 20) = xN (40 + i) := by rw [show 20 + i + 20 = 40 + i by omega]
      rw [he] at hk
      exact fun H locs ls hP hS hL => vk_getf hC.1 hC.2.1 h1 hS hC.2.2.2.1 (hC.2.2.2.2.1 _ hw) (fun _ h9 => h9) hd (hk H locs ls hP hS hL)
  · cases hg
theorem ok_scod {ix : Nat} (hw : Cond.fieldLink own ix "java/lang/String" "coder" "B" ∈ xAL) (hd : decode cc pc = .ok (.getfield ix, 3)) (hn : pc + 3 = nx) : xOk own cc mL R pc (x_scod nx) := by
  subst hn
  intro p l e s m args below meth c cells slots Q D cA ad Rt hC f hi
  obtain ⟨n, f', hg, hk⟩ := xdet_inv hi
  (try dsimp only at hg)
  split at hg
  · rename_i ls0 k st M
    cases hb : (Nat.ble 20 k && Nat.ble k 25) with
    | false => rw [hb] at hg; cases hg
    | true =>
      rw [hb] at hg
      have hg : some (pc + 3, ls0, xi 0 :: st, M) = some (n, f') := hg
      cases hg
      have hb2 := Bool.and_eq_true_iff.mp hb
      have k1 := Nat.le_of_ble_eq_true hb2.1
      have k2 := Nat.le_of_ble_eq_true hb2.2
      obtain ⟨i, rfl⟩ : ∃ i, k = 20 + i := ⟨k - 20, by omega⟩
      have h1 := (hC.2.2.2.2.2.1.2.2.2.2.1.1 i (by omega)).2.1
      exact fun H locs ls hP hS hL => vk_getf hC.1 hC.2.1 h1 hS hC.2.2.2.1 (hC.2.2.2.2.1 _ hw) (fun _ h9 => h9) hd (hk H locs ls hP hS hL)
  · cases hg
theorem ok_alen (hd : decode cc pc = .ok (.arraylength, 1)) (hn : pc + 1 = nx) : xOk own cc mL R pc (x_alen nx) := by
  subst hn
  intro p l e s m args below meth c cells slots Q D cA ad Rt hC f hi
  obtain ⟨n, f', hg, hk⟩ := xdet_inv hi
  (try dsimp only at hg)
  split at hg
  · rename_i ls0 k st M
    cases hb : (Nat.ble 40 k && Nat.ble k 45) with
    | false => rw [hb] at hg; cases hg
    | true =>
      rw [hb] at hg
      have hg : some (pc + 1, ls0, xi (Int32.ofNat (xlen.getD (k - 40) 0)) :: st, M) = some (n, f') := hg
      cases hg
      have hb2 := Bool.and_eq_true_iff.mp hb
      have k1 := Nat.le_of_ble_eq_true hb2.1
      have k2 := Nat.le_of_ble_eq_true hb2.2
      obtain ⟨i, rfl⟩ : ∃ i, k = 40 + i := ⟨k - 40, by omega⟩
      have h1 := (hC.2.2.2.2.2.1.2.2.2.2.1.1 i (by omega)).2.2.2
      rw [show 40 + i - 40 = i by omega] at hk
      exact fun H locs ls hP hS hL => va_tlen hC.1 hC.2.1 h1 hS rfl hd (hk H locs ls hP hS hL)
  · cases hg
theorem ok_bald (hd : decode cc pc = .ok (.baload, 1)) (hn : pc + 1 = nx) : xOk own cc mL R pc (x_bald nx) := by
  subst hn
  intro p l e s m args below meth c cells slots Q D cA ad Rt hC f hi
  obtain ⟨cd, n, f', hg, hcd, hk⟩ := xdec_inv hi
  (try dsimp only at hg)
  split at hg
  · rename_i ls0 a k st M
    cases hb : (Nat.ble 40 k && Nat.ble k 45) with
    | false => rw [hb] at hg; cases hg
    | true =>
      rw [hb] at hg
      have hg : some (vp_in a (xlen.getD (k - 40) 0), pc + 1, ls0, xi ((xbyt.getD (k - 40) []).getD a.toNatClampNeg 0) :: st, M) = some (cd, n, f') := hg
      cases hg
      have hb2 := Bool.and_eq_true_iff.mp hb
      have k1 := Nat.le_of_ble_eq_true hb2.1
      have k2 := Nat.le_of_ble_eq_true hb2.2
      obtain ⟨i, rfl⟩ : ∃ i, k = 40 + i := ⟨k - 40, by omega⟩
      have h1 := (hC.2.2.2.2.2.1.2.2.2.2.1.1 i (by omega)).2.2.2
      rw [show 40 + i - 40 = i by omega] at hk hcd
      exact fun H locs ls hP hS hL => va_tb hC.1 hC.2.1 h1 hS hcd rfl hd (hk H locs ls hP hS hL)
  · cases hg
theorem ok_bret (hd : decode cc pc = .ok (.ireturn, 1)) : xOkM own cc mL (some .byte) R pc x_bret := by
  intro p l e s m args below meth c D cA ad Rt hC hr hlk f hi
  obtain ⟨cd, v, M, hg, hcd, hk⟩ := xre_inv hi
  (try dsimp only at hg)
  split at hg <;> cases hg
  exact fun H locs ls hP hS hL => W.zret hC.1 hC.2.1 hr hcd (fun t ht hW => ⟨⟨_, _, rfl, hk, by rw [ht]; exact hP⟩, hS.F ht⟩) hS.2.2 hd
theorem ok_cret (hd : decode cc pc = .ok (.ireturn, 1)) : xOkM own cc mL (some .char) R pc x_cret := by
  intro p l e s m args below meth c D cA ad Rt hC hr hlk f hi
  obtain ⟨cd, v, M, hg, hcd, hk⟩ := xre_inv hi
  (try dsimp only at hg)
  split at hg <;> cases hg
  exact fun H locs ls hP hS hL => W.zret hC.1 hC.2.1 hr hcd (fun t ht hW => ⟨⟨_, _, rfl, hk, by rw [ht]; exact hP⟩, hS.F ht⟩) hS.2.2 hd
end XOK4
/-! String.checkIndex, by hand: the formatter may be null -/
def xPj (i n : Int32) (v : Value) : Array Value → State → Prop := fun a _ => a = [.int i, .int n, v].toArray ∧ (v = .null ∨ ∃ t, v = .ref t) ∧ ¬ i < 0 ∧ i < n
def xQj (i : Int32) : Array Value → State → Outcome → State → Prop := fun _ st oc t => oc = .returned (some (.int i)) ∧ t.heap = st.heap
set_option maxRecDepth 20000 in
theorem s_J3_checkIndex_8e157 (l : Launch) (i n : Int32) (v : Value) : Met l yJ3_checkIndex_8e157 (Cond.code yJ3_checkIndex_8e157 cJ3_checkIndex_8e157 3 (some .int) :: xAL) { frames := 0, cells := 0, slots := 0, locals := 0 } (xPj i n v) (xQj i) 0 0 (fun _ => False) := by
  refine Met.ofW (cc := cJ3_checkIndex_8e157) (maxL := 3) (ret := some .int) (by decide +kernel) rfl ?_
  intro p e s m args below meth c s₁ B hml hv
  obtain ⟨rfl, hvv, h0, h1⟩ := hv
  have hx := B.exec
  have hb := B.bytes
  have hr := B.returns
  have hlocks := B.notSynchronized
  have hvc : v.category = 1 := by rcases hvv with rfl | ⟨t, rfl⟩ <;> rfl
  have hl := lv_entry ([.int i, .int n, v]) (n := 3) (by rcases hvv with rfl | ⟨t, rfl⟩ <;> exact Nat.le_of_ble_eq_true rfl)
  rw [lg_entry_eq]
  generalize (lg_sl ([.int i, .int n, v]) ++ List.replicate (3 - (lg_sl ([.int i, .int n, v])).length) Slot.unset).toArray = ls at hl ⊢
  have hl : lv_has ls 3 [(0, .int i), (1, .int n), (2, v)] := hl
  refine lv_iload_n hx hb dJ3_checkIndex_8e157_0 rfl (lv_at hl 0 rfl) ?_
  refine lv_if_lt (tgt := 9) hx hb dJ3_checkIndex_8e157_1 (by decide) (fun c => absurd c h0) (fun _ => ?_)
  refine lv_iload_n hx hb dJ3_checkIndex_8e157_4 rfl (lv_at hl 0 rfl) ?_
  refine lv_iload_n hx hb dJ3_checkIndex_8e157_5 rfl (lv_at hl 1 rfl) ?_
  refine lv_icmp_lt (tgt := 16) hx hb dJ3_checkIndex_8e157_6 (by decide) (fun _ => ?_) (fun c => absurd h1 c)
  refine lv_iload_n hx hb dJ3_checkIndex_8e157_16 rfl (lv_at hl 0 rfl) ?_
  exact W.iret hx hb hr (fun t ht hW => ⟨rfl, ht⟩) (fun q hq => by cases hq) dJ3_checkIndex_8e157_17
theorem kd_J3_checkIndex_8e157 : xDs yJ3_checkIndex_8e157 3 := ⟨by decide +kernel, by decide +kernel, by decide +kernel⟩
def rm_J0_checkIndex_df160 : Room := { frames := 1, cells := 0, slots := 0, locals := 22 }
def z_J0_checkIndex_df160 : xZ := ⟨fun as M R => match as with
  | [.inl i, .inl n] => (¬ i < 0 ∧ i < n) ∧ R none M
  | _ => False, fun as M R R' hR h => by
    match as, h with
    | [.inl i, .inl n], h => exact ⟨h.1, hR _ _ h.2⟩⟩
theorem kd_J0_checkIndex_df160 : xDs yJ0_checkIndex_df160 2 := ⟨by decide +kernel, by decide +kernel, by decide +kernel⟩
set_option maxRecDepth 20000 in
set_option maxHeartbeats 4000000 in
theorem s_J0_checkIndex_df160 : xSnd yJ0_checkIndex_df160 cJ0_checkIndex_df160 2 none rm_J0_checkIndex_df160 z_J0_checkIndex_df160 := by
  intro l D cA ad as M Rt hcs hw
  match as, hw with
  | [.inl i, .inl n], hw =>
    refine Met.ofW (cc := cJ0_checkIndex_df160) (maxL := 2) (ret := none) (by decide +kernel) rfl ?_
    intro p e s m args below meth c s₁ B hml hv
    obtain ⟨rfl, hP, hSx⟩ := hv
    have hx := B.exec
    have hb := B.bytes
    have hr := B.returns
    have hlocks := B.notSynchronized
    have hts0 := atoms_spec (ws := Cond.code yJ0_checkIndex_df160 cJ0_checkIndex_df160 2 none :: xAL) B.pre
    have hts : ∀ w ∈ xAL, w.before ([xi i, xi n].map (xtv ad)).toArray s = true := fun w h => hts0 w (List.mem_cons_of_mem _ h)
    have hown : s.vm.findClass RJ0 = some m.cls := findClass_of_methodNamed B.named
    have hl := lv_entry ([Value.int i, Value.int n]) (n := 2) (Nat.le_of_ble_eq_true rfl)
    rw [lg_entry_eq]
    have hl : lv_has ((lg_sl ([xi i, xi n].map (xtv ad)) ++ List.replicate (2 - (lg_sl ([xi i, xi n].map (xtv ad))).length) Slot.unset).toArray) 2 [(0, Value.int i), (1, Value.int n)] := hl
    generalize (lg_sl ([xi i, xi n].map (xtv ad)) ++ List.replicate (2 - (lg_sl ([xi i, xi n].map (xtv ad))).length) Slot.unset).toArray = ls at hl ⊢
    have hS : va_S (xAd ad) s.heap s.heap [] := va_S.rf
    refine lv_iload_n hx hb dJ0_checkIndex_df160_0 rfl (lv_at hl 0 rfl) ?_
    refine lv_iload_n hx hb dJ0_checkIndex_df160_1 rfl (lv_at hl 1 rfl) ?_
    have key : ∀ v : Value, (v = .null ∨ ∃ t, v = .ref t) → W p l e rm_J0_checkIndex_df160 s m ([xi i, xi n].map (xtv ad)).toArray below meth c s.heap [] 0 0 (MQ below (xPost D cA ad Rt) ([xi i, xi n].map (xtv ad)).toArray s 0 0 (xAd ad)) (F0 m 5 ls [v, .int n, .int i]) := by
      intro v hv
      have hcb : CallB rm_J0_checkIndex_df160 s ([xi i, xi n].map (xtv ad)).toArray RJ0 1059 yJ3_checkIndex_8e157 cJ3_checkIndex_8e157 3 (some .int) (Cond.code yJ3_checkIndex_8e157 cJ3_checkIndex_8e157 3 (some .int) :: xAL) { frames := 0, cells := 0, slots := 0, locals := 0 } 0 0 3 := callB_of 3 hts (xgood kc_J3_checkIndex_8e157) rfl rfl rfl (hts _ kin_J3) (hts _ km_J0_1059) kd_J3_checkIndex_8e157 ⟨Nat.le_of_ble_eq_true rfl, Nat.le_of_ble_eq_true rfl⟩
      have hrun := va_runS (H := s.heap) (locs := []) (e := e) (below := below) (meth := meth) (cells := 0) (slots := 0) (g := F0 m 5 ls [v, .int n, .int i]) (As := [.int i, .int n, v]) (rest := []) ⟨hx, hb, hml, hown, hts⟩ (s_J3_checkIndex_8e157 l i n v) ⟨hcb, hts _ kst_J3_checkIndex_8e157⟩ ⟨fun a U g mk h => h, fun U hU hW => ⟨rfl, hv, hw.1.1, hw.1.2⟩⟩ rfl rfl hl.1 rfl (lv_room (Nat.le_of_ble_eq_true rfl)) dJ0_checkIndex_df160_5 ⟨Nat.le_refl _, Nat.le_refl _⟩
      intro T hT X
      obtain ⟨v', st₀, t, T', L, h0, X', hLo, e1, e2, ⟨hv', hh⟩, st⟩ := hrun T hT X
      cases hv'
      have hk : W p l e rm_J0_checkIndex_df160 s m ([xi i, xi n].map (xtv ad)).toArray below meth c s.heap ([] ++ L) 0 0 (MQ below (xPost D cA ad Rt) ([xi i, xi n].map (xtv ad)).toArray s 0 0 (xAd ad)) (F0 m 8 ls [.int i]) := by
        refine lv_pop hx hb dJ0_checkIndex_df160_8 rfl ?_
        exact W.vret hx hb hr (fun t ht hW => ⟨⟨none, M, rfl, hw.2, by rw [ht]; exact hP⟩, hS.F ht⟩) (fun q hq => (hLo q (by simpa using hq)).elim) dJ0_checkIndex_df160_9
      obtain ⟨t2, a1, b1⟩ := hk T' (by rw [e1, hh, h0]) X'
      exact ⟨t2, st t2 a1, b1⟩
    rcases hSx.2.2.2.1 with hz | ⟨t, hz⟩
    · exact va_gets hx hb hz hS hown (hts _ kf_J0_1053) (fun _ h9 => h9) dJ0_checkIndex_df160_2 (key _ (Or.inl rfl))
    · exact va_gets hx hb hz hS hown (hts _ kf_J0_1053) (fun _ h9 => h9) dJ0_checkIndex_df160_2 (key _ (Or.inr ⟨t, rfl⟩))
end
