section
-- ===== PART A: goes FIRST, ahead of the names: the tables' words, and 'selects' of the private methods out of them =====
/-- a private method of a class that the tables say can be made, by its rows of tables_1 -/
def lw_okq (q : MethodName × Nat) : Prop := (q.1.cls ≠ "java/lang/invoke/MethodHandle" ∧ q.1.cls ≠ "java/lang/invoke/VarHandle") ∧ Cond.instantiable q.1.cls q.2 ∈ tables_1 ∧ Cond.privateMethod q.1 ∈ tables_1 ∧ Cond.instanceMethod q.1 ∈ tables_1
theorem lw_p0 : lw_okq (⟨"PureGroups", "refused", "(I)I"⟩, 16) := ⟨⟨by decide +kernel, by decide +kernel⟩, List.mem_of_getElem? (i := 15) (by decide +kernel), List.mem_of_getElem? (i := 335) (by decide +kernel), List.mem_of_getElem? (i := 336) (by decide +kernel)⟩
theorem lw_p1 : lw_okq (⟨"PureGroups$Elimination", "bringUp", "(I)Z"⟩, 6) := ⟨⟨by decide +kernel, by decide +kernel⟩, List.mem_of_getElem? (i := 97) (by decide +kernel), List.mem_of_getElem? (i := 384) (by decide +kernel), List.mem_of_getElem? (i := 385) (by decide +kernel)⟩
theorem lw_p2 : lw_okq (⟨"PureGroups$Elimination", "clearOthers", "(I)V"⟩, 6) := ⟨⟨by decide +kernel, by decide +kernel⟩, List.mem_of_getElem? (i := 97) (by decide +kernel), List.mem_of_getElem? (i := 388) (by decide +kernel), List.mem_of_getElem? (i := 389) (by decide +kernel)⟩
theorem lw_p3 : lw_okq (⟨"PureGroups", "isQuantity", "(I)Z"⟩, 16) := ⟨⟨by decide +kernel, by decide +kernel⟩, List.mem_of_getElem? (i := 15) (by decide +kernel), List.mem_of_getElem? (i := 396) (by decide +kernel), List.mem_of_getElem? (i := 397) (by decide +kernel)⟩
theorem lw_p4 : lw_okq (⟨"PureGroups", "refusedFar", "(I)I"⟩, 16) := ⟨⟨by decide +kernel, by decide +kernel⟩, List.mem_of_getElem? (i := 15) (by decide +kernel), List.mem_of_getElem? (i := 403) (by decide +kernel), List.mem_of_getElem? (i := 404) (by decide +kernel)⟩
theorem lw_p5 : lw_okq (⟨"PureGroups", "isGroup", "(I)Z"⟩, 16) := ⟨⟨by decide +kernel, by decide +kernel⟩, List.mem_of_getElem? (i := 15) (by decide +kernel), List.mem_of_getElem? (i := 453) (by decide +kernel), List.mem_of_getElem? (i := 454) (by decide +kernel)⟩
theorem lw_p6 : lw_okq (⟨"PureGroups", "isMissing", "(I)Z"⟩, 16) := ⟨⟨by decide +kernel, by decide +kernel⟩, List.mem_of_getElem? (i := 15) (by decide +kernel), List.mem_of_getElem? (i := 482) (by decide +kernel), List.mem_of_getElem? (i := 483) (by decide +kernel)⟩
theorem lw_p7 : lw_okq (⟨"PureGroups", "takeNumbers", "(II[I)Z"⟩, 16) := ⟨⟨by decide +kernel, by decide +kernel⟩, List.mem_of_getElem? (i := 15) (by decide +kernel), List.mem_of_getElem? (i := 486) (by decide +kernel), List.mem_of_getElem? (i := 487) (by decide +kernel)⟩
theorem lw_p8 : lw_okq (⟨"PureGroups", "isPlace", "(II)Z"⟩, 16) := ⟨⟨by decide +kernel, by decide +kernel⟩, List.mem_of_getElem? (i := 15) (by decide +kernel), List.mem_of_getElem? (i := 490) (by decide +kernel), List.mem_of_getElem? (i := 491) (by decide +kernel)⟩
theorem lw_p9 : lw_okq (⟨"PureGroups", "refusedFarLong", "(I)J"⟩, 16) := ⟨⟨by decide +kernel, by decide +kernel⟩, List.mem_of_getElem? (i := 15) (by decide +kernel), List.mem_of_getElem? (i := 509) (by decide +kernel), List.mem_of_getElem? (i := 510) (by decide +kernel)⟩
theorem lw_p10 : lw_okq (⟨"PureGroups", "isSet", "(I)Z"⟩, 16) := ⟨⟨by decide +kernel, by decide +kernel⟩, List.mem_of_getElem? (i := 15) (by decide +kernel), List.mem_of_getElem? (i := 550) (by decide +kernel), List.mem_of_getElem? (i := 551) (by decide +kernel)⟩
theorem lw_p11 : lw_okq (⟨"PureGroups", "isOutside", "(II)Z"⟩, 16) := ⟨⟨by decide +kernel, by decide +kernel⟩, List.mem_of_getElem? (i := 15) (by decide +kernel), List.mem_of_getElem? (i := 569) (by decide +kernel), List.mem_of_getElem? (i := 570) (by decide +kernel)⟩
theorem lw_p12 : lw_okq (⟨"PureGroups$Choice", "lookAtOne", "(I)V"⟩, 9) := ⟨⟨by decide +kernel, by decide +kernel⟩, List.mem_of_getElem? (i := 158) (by decide +kernel), List.mem_of_getElem? (i := 582) (by decide +kernel), List.mem_of_getElem? (i := 583) (by decide +kernel)⟩
theorem lw_p13 : lw_okq (⟨"PureGroups", "isUnbalanced", "([I)Z"⟩, 16) := ⟨⟨by decide +kernel, by decide +kernel⟩, List.mem_of_getElem? (i := 15) (by decide +kernel), List.mem_of_getElem? (i := 630) (by decide +kernel), List.mem_of_getElem? (i := 631) (by decide +kernel)⟩
theorem lw_p14 : lw_okq (⟨"PureGroups$Search", "findRow", "([I)I"⟩, 7) := ⟨⟨by decide +kernel, by decide +kernel⟩, List.mem_of_getElem? (i := 199) (by decide +kernel), List.mem_of_getElem? (i := 667) (by decide +kernel), List.mem_of_getElem? (i := 668) (by decide +kernel)⟩
theorem lw_p15 : lw_okq (⟨"PureGroups$Reading", "readSum", "(I)V"⟩, 13) := ⟨⟨by decide +kernel, by decide +kernel⟩, List.mem_of_getElem? (i := 229) (by decide +kernel), List.mem_of_getElem? (i := 706) (by decide +kernel), List.mem_of_getElem? (i := 707) (by decide +kernel)⟩
def lw_privs_1 : List (MethodName × Nat) := [(⟨"PureGroups", "refused", "(I)I"⟩, 16), (⟨"PureGroups$Elimination", "bringUp", "(I)Z"⟩, 6), (⟨"PureGroups$Elimination", "clearOthers", "(I)V"⟩, 6), (⟨"PureGroups", "isQuantity", "(I)Z"⟩, 16), (⟨"PureGroups", "refusedFar", "(I)I"⟩, 16), (⟨"PureGroups", "isGroup", "(I)Z"⟩, 16), (⟨"PureGroups", "isMissing", "(I)Z"⟩, 16), (⟨"PureGroups", "takeNumbers", "(II[I)Z"⟩, 16), (⟨"PureGroups", "isPlace", "(II)Z"⟩, 16), (⟨"PureGroups", "refusedFarLong", "(I)J"⟩, 16), (⟨"PureGroups", "isSet", "(I)Z"⟩, 16), (⟨"PureGroups", "isOutside", "(II)Z"⟩, 16), (⟨"PureGroups$Choice", "lookAtOne", "(I)V"⟩, 9), (⟨"PureGroups", "isUnbalanced", "([I)Z"⟩, 16), (⟨"PureGroups$Search", "findRow", "([I)I"⟩, 7), (⟨"PureGroups$Reading", "readSum", "(I)V"⟩, 13)]
theorem lw_r1 : ∀ q ∈ lw_privs_1, lw_okq q := List.forall_mem_cons.mpr ⟨lw_p0, List.forall_mem_cons.mpr ⟨lw_p1, List.forall_mem_cons.mpr ⟨lw_p2, List.forall_mem_cons.mpr ⟨lw_p3, List.forall_mem_cons.mpr ⟨lw_p4, List.forall_mem_cons.mpr ⟨lw_p5, List.forall_mem_cons.mpr ⟨lw_p6, List.forall_mem_cons.mpr ⟨lw_p7, List.forall_mem_cons.mpr ⟨lw_p8, List.forall_mem_cons.mpr ⟨lw_p9, List.forall_mem_cons.mpr ⟨lw_p10, List.forall_mem_cons.mpr ⟨lw_p11, List.forall_mem_cons.mpr ⟨lw_p12, List.forall_mem_cons.mpr ⟨lw_p13, List.forall_mem_cons.mpr ⟨lw_p14, List.forall_mem_cons.mpr ⟨lw_p15, fun _ h => absurd h List.not_mem_nil⟩⟩⟩⟩⟩⟩⟩⟩⟩⟩⟩⟩⟩⟩⟩⟩
theorem lw_p16 : lw_okq (⟨"PureGroups$Reading", "readTerm", "(I)V"⟩, 13) := ⟨⟨by decide +kernel, by decide +kernel⟩, List.mem_of_getElem? (i := 229) (by decide +kernel), List.mem_of_getElem? (i := 710) (by decide +kernel), List.mem_of_getElem? (i := 711) (by decide +kernel)⟩
theorem lw_p17 : lw_okq (⟨"PureGroups$Reading", "readPart", "(II)V"⟩, 13) := ⟨⟨by decide +kernel, by decide +kernel⟩, List.mem_of_getElem? (i := 229) (by decide +kernel), List.mem_of_getElem? (i := 714) (by decide +kernel), List.mem_of_getElem? (i := 715) (by decide +kernel)⟩
theorem lw_p18 : lw_okq (⟨"PureGroups$Reading", "readAtom", "(I)[I"⟩, 13) := ⟨⟨by decide +kernel, by decide +kernel⟩, List.mem_of_getElem? (i := 229) (by decide +kernel), List.mem_of_getElem? (i := 718) (by decide +kernel), List.mem_of_getElem? (i := 719) (by decide +kernel)⟩
theorem lw_p19 : lw_okq (⟨"PureGroups$Reading", "next", "()I"⟩, 13) := ⟨⟨by decide +kernel, by decide +kernel⟩, List.mem_of_getElem? (i := 229) (by decide +kernel), List.mem_of_getElem? (i := 722) (by decide +kernel), List.mem_of_getElem? (i := 723) (by decide +kernel)⟩
theorem lw_p20 : lw_okq (⟨"PureGroups$Reading", "readNumber", "()V"⟩, 13) := ⟨⟨by decide +kernel, by decide +kernel⟩, List.mem_of_getElem? (i := 229) (by decide +kernel), List.mem_of_getElem? (i := 729) (by decide +kernel), List.mem_of_getElem? (i := 730) (by decide +kernel)⟩
theorem lw_p21 : lw_okq (⟨"PureGroups$Reading", "readInner", "(II)[I"⟩, 13) := ⟨⟨by decide +kernel, by decide +kernel⟩, List.mem_of_getElem? (i := 229) (by decide +kernel), List.mem_of_getElem? (i := 733) (by decide +kernel), List.mem_of_getElem? (i := 734) (by decide +kernel)⟩
theorem lw_p22 : lw_okq (⟨"PureGroups$Reading", "expect", "(I)V"⟩, 13) := ⟨⟨by decide +kernel, by decide +kernel⟩, List.mem_of_getElem? (i := 229) (by decide +kernel), List.mem_of_getElem? (i := 737) (by decide +kernel), List.mem_of_getElem? (i := 738) (by decide +kernel)⟩
theorem lw_p23 : lw_okq (⟨"PureGroups$Reading", "failHere", "()V"⟩, 13) := ⟨⟨by decide +kernel, by decide +kernel⟩, List.mem_of_getElem? (i := 229) (by decide +kernel), List.mem_of_getElem? (i := 741) (by decide +kernel), List.mem_of_getElem? (i := 742) (by decide +kernel)⟩
theorem lw_p24 : lw_okq (⟨"PureGroups$Reading", "markWrong", "(I)V"⟩, 13) := ⟨⟨by decide +kernel, by decide +kernel⟩, List.mem_of_getElem? (i := 229) (by decide +kernel), List.mem_of_getElem? (i := 746) (by decide +kernel), List.mem_of_getElem? (i := 747) (by decide +kernel)⟩
theorem lw_p25 : lw_okq (⟨"PureGroups$Reading", "readPower", "()I"⟩, 13) := ⟨⟨by decide +kernel, by decide +kernel⟩, List.mem_of_getElem? (i := 229) (by decide +kernel), List.mem_of_getElem? (i := 750) (by decide +kernel), List.mem_of_getElem? (i := 751) (by decide +kernel)⟩
theorem lw_p26 : lw_okq (⟨"PureGroups$Reading", "isNext", "(II)Z"⟩, 13) := ⟨⟨by decide +kernel, by decide +kernel⟩, List.mem_of_getElem? (i := 229) (by decide +kernel), List.mem_of_getElem? (i := 754) (by decide +kernel), List.mem_of_getElem? (i := 755) (by decide +kernel)⟩
theorem lw_p27 : lw_okq (⟨"PureGroupsModel", "refuse", "(I)I"⟩, 27) := ⟨⟨by decide +kernel, by decide +kernel⟩, List.mem_of_getElem? (i := 854) (by decide +kernel), List.mem_of_getElem? (i := 947) (by decide +kernel), List.mem_of_getElem? (i := 948) (by decide +kernel)⟩
theorem lw_p28 : lw_okq (⟨"PureGroupsModel", "isOne", "(I)Z"⟩, 27) := ⟨⟨by decide +kernel, by decide +kernel⟩, List.mem_of_getElem? (i := 854) (by decide +kernel), List.mem_of_getElem? (i := 963) (by decide +kernel), List.mem_of_getElem? (i := 964) (by decide +kernel)⟩
theorem lw_p29 : lw_okq (⟨"PureGroupsModel", "refuseFar", "(I)I"⟩, 27) := ⟨⟨by decide +kernel, by decide +kernel⟩, List.mem_of_getElem? (i := 854) (by decide +kernel), List.mem_of_getElem? (i := 971) (by decide +kernel), List.mem_of_getElem? (i := 972) (by decide +kernel)⟩
theorem lw_p30 : lw_okq (⟨"PureGroupsModel", "changes", "(II)V"⟩, 27) := ⟨⟨by decide +kernel, by decide +kernel⟩, List.mem_of_getElem? (i := 854) (by decide +kernel), List.mem_of_getElem? (i := 976) (by decide +kernel), List.mem_of_getElem? (i := 977) (by decide +kernel)⟩
theorem lw_p31 : lw_okq (⟨"PureGroupsModel", "firm", "()I"⟩, 27) := ⟨⟨by decide +kernel, by decide +kernel⟩, List.mem_of_getElem? (i := 854) (by decide +kernel), List.mem_of_getElem? (i := 988) (by decide +kernel), List.mem_of_getElem? (i := 989) (by decide +kernel)⟩
def lw_privs_2 : List (MethodName × Nat) := [(⟨"PureGroups$Reading", "readTerm", "(I)V"⟩, 13), (⟨"PureGroups$Reading", "readPart", "(II)V"⟩, 13), (⟨"PureGroups$Reading", "readAtom", "(I)[I"⟩, 13), (⟨"PureGroups$Reading", "next", "()I"⟩, 13), (⟨"PureGroups$Reading", "readNumber", "()V"⟩, 13), (⟨"PureGroups$Reading", "readInner", "(II)[I"⟩, 13), (⟨"PureGroups$Reading", "expect", "(I)V"⟩, 13), (⟨"PureGroups$Reading", "failHere", "()V"⟩, 13), (⟨"PureGroups$Reading", "markWrong", "(I)V"⟩, 13), (⟨"PureGroups$Reading", "readPower", "()I"⟩, 13), (⟨"PureGroups$Reading", "isNext", "(II)Z"⟩, 13), (⟨"PureGroupsModel", "refuse", "(I)I"⟩, 27), (⟨"PureGroupsModel", "isOne", "(I)Z"⟩, 27), (⟨"PureGroupsModel", "refuseFar", "(I)I"⟩, 27), (⟨"PureGroupsModel", "changes", "(II)V"⟩, 27), (⟨"PureGroupsModel", "firm", "()I"⟩, 27)]
theorem lw_r2 : ∀ q ∈ lw_privs_2, lw_okq q := List.forall_mem_cons.mpr ⟨lw_p16, List.forall_mem_cons.mpr ⟨lw_p17, List.forall_mem_cons.mpr ⟨lw_p18, List.forall_mem_cons.mpr ⟨lw_p19, List.forall_mem_cons.mpr ⟨lw_p20, List.forall_mem_cons.mpr ⟨lw_p21, List.forall_mem_cons.mpr ⟨lw_p22, List.forall_mem_cons.mpr ⟨lw_p23, List.forall_mem_cons.mpr ⟨lw_p24, List.forall_mem_cons.mpr ⟨lw_p25, List.forall_mem_cons.mpr ⟨lw_p26, List.forall_mem_cons.mpr ⟨lw_p27, List.forall_mem_cons.mpr ⟨lw_p28, List.forall_mem_cons.mpr ⟨lw_p29, List.forall_mem_cons.mpr ⟨lw_p30, List.forall_mem_cons.mpr ⟨lw_p31, fun _ h => absurd h List.not_mem_nil⟩⟩⟩⟩⟩⟩⟩⟩⟩⟩⟩⟩⟩⟩⟩⟩
theorem lw_p32 : lw_okq (⟨"PureGroupsModel", "isHad", "(II)Z"⟩, 27) := ⟨⟨by decide +kernel, by decide +kernel⟩, List.mem_of_getElem? (i := 854) (by decide +kernel), List.mem_of_getElem? (i := 992) (by decide +kernel), List.mem_of_getElem? (i := 993) (by decide +kernel)⟩
theorem lw_p33 : lw_okq (⟨"PureGroupsModel", "lays", "(II)I"⟩, 27) := ⟨⟨by decide +kernel, by decide +kernel⟩, List.mem_of_getElem? (i := 854) (by decide +kernel), List.mem_of_getElem? (i := 996) (by decide +kernel), List.mem_of_getElem? (i := 997) (by decide +kernel)⟩
theorem lw_p34 : lw_okq (⟨"PureGroupsModel", "powerOf", "(II)I"⟩, 27) := ⟨⟨by decide +kernel, by decide +kernel⟩, List.mem_of_getElem? (i := 854) (by decide +kernel), List.mem_of_getElem? (i := 1003) (by decide +kernel), List.mem_of_getElem? (i := 1004) (by decide +kernel)⟩
theorem lw_p35 : lw_okq (⟨"PureGroupsModel", "clears", "(II)J"⟩, 27) := ⟨⟨by decide +kernel, by decide +kernel⟩, List.mem_of_getElem? (i := 854) (by decide +kernel), List.mem_of_getElem? (i := 1007) (by decide +kernel), List.mem_of_getElem? (i := 1008) (by decide +kernel)⟩
theorem lw_p36 : lw_okq (⟨"PureGroupsModel", "swapRows", "(II)V"⟩, 27) := ⟨⟨by decide +kernel, by decide +kernel⟩, List.mem_of_getElem? (i := 854) (by decide +kernel), List.mem_of_getElem? (i := 1011) (by decide +kernel), List.mem_of_getElem? (i := 1012) (by decide +kernel)⟩
theorem lw_p37 : lw_okq (⟨"PureGroupsModel", "isPure", "(I)Z"⟩, 27) := ⟨⟨by decide +kernel, by decide +kernel⟩, List.mem_of_getElem? (i := 854) (by decide +kernel), List.mem_of_getElem? (i := 1018) (by decide +kernel), List.mem_of_getElem? (i := 1019) (by decide +kernel)⟩
theorem lw_p38 : lw_okq (⟨"PureGroupsModel", "twinOf", "(I)I"⟩, 27) := ⟨⟨by decide +kernel, by decide +kernel⟩, List.mem_of_getElem? (i := 854) (by decide +kernel), List.mem_of_getElem? (i := 1030) (by decide +kernel), List.mem_of_getElem? (i := 1031) (by decide +kernel)⟩
theorem lw_p39 : lw_okq (⟨"PureGroupsModel", "isLike", "(II)Z"⟩, 27) := ⟨⟨by decide +kernel, by decide +kernel⟩, List.mem_of_getElem? (i := 854) (by decide +kernel), List.mem_of_getElem? (i := 1034) (by decide +kernel), List.mem_of_getElem? (i := 1035) (by decide +kernel)⟩
theorem lw_p40 : lw_okq (⟨"PureGroupsModel", "loose", "()I"⟩, 27) := ⟨⟨by decide +kernel, by decide +kernel⟩, List.mem_of_getElem? (i := 854) (by decide +kernel), List.mem_of_getElem? (i := 1052) (by decide +kernel), List.mem_of_getElem? (i := 1053) (by decide +kernel)⟩
theorem lw_p41 : lw_okq (⟨"PureGroupsModel", "different", "()I"⟩, 27) := ⟨⟨by decide +kernel, by decide +kernel⟩, List.mem_of_getElem? (i := 854) (by decide +kernel), List.mem_of_getElem? (i := 1056) (by decide +kernel), List.mem_of_getElem? (i := 1057) (by decide +kernel)⟩
theorem lw_p42 : lw_okq (⟨"PureGroupsModel", "ownOf", "(I)I"⟩, 27) := ⟨⟨by decide +kernel, by decide +kernel⟩, List.mem_of_getElem? (i := 854) (by decide +kernel), List.mem_of_getElem? (i := 1064) (by decide +kernel), List.mem_of_getElem? (i := 1065) (by decide +kernel)⟩
theorem lw_p43 : lw_okq (⟨"PureGroupsModel", "groups", "(I)V"⟩, 27) := ⟨⟨by decide +kernel, by decide +kernel⟩, List.mem_of_getElem? (i := 854) (by decide +kernel), List.mem_of_getElem? (i := 1068) (by decide +kernel), List.mem_of_getElem? (i := 1069) (by decide +kernel)⟩
theorem lw_p44 : lw_okq (⟨"PureGroupsModel", "tells", "(II)Z"⟩, 27) := ⟨⟨by decide +kernel, by decide +kernel⟩, List.mem_of_getElem? (i := 854) (by decide +kernel), List.mem_of_getElem? (i := 1080) (by decide +kernel), List.mem_of_getElem? (i := 1081) (by decide +kernel)⟩
theorem lw_p45 : lw_okq (⟨"PureGroupsModel", "isToldPure", "()Z"⟩, 27) := ⟨⟨by decide +kernel, by decide +kernel⟩, List.mem_of_getElem? (i := 854) (by decide +kernel), List.mem_of_getElem? (i := 1086) (by decide +kernel), List.mem_of_getElem? (i := 1087) (by decide +kernel)⟩
theorem lw_p46 : lw_okq (⟨"PureGroupsModel", "refuseFarther", "(I)J"⟩, 27) := ⟨⟨by decide +kernel, by decide +kernel⟩, List.mem_of_getElem? (i := 854) (by decide +kernel), List.mem_of_getElem? (i := 1094) (by decide +kernel), List.mem_of_getElem? (i := 1095) (by decide +kernel)⟩
theorem lw_p47 : lw_okq (⟨"PureGroupsModel", "isLeast", "(II)Z"⟩, 27) := ⟨⟨by decide +kernel, by decide +kernel⟩, List.mem_of_getElem? (i := 854) (by decide +kernel), List.mem_of_getElem? (i := 1110) (by decide +kernel), List.mem_of_getElem? (i := 1111) (by decide +kernel)⟩
def lw_privs_3 : List (MethodName × Nat) := [(⟨"PureGroupsModel", "isHad", "(II)Z"⟩, 27), (⟨"PureGroupsModel", "lays", "(II)I"⟩, 27), (⟨"PureGroupsModel", "powerOf", "(II)I"⟩, 27), (⟨"PureGroupsModel", "clears", "(II)J"⟩, 27), (⟨"PureGroupsModel", "swapRows", "(II)V"⟩, 27), (⟨"PureGroupsModel", "isPure", "(I)Z"⟩, 27), (⟨"PureGroupsModel", "twinOf", "(I)I"⟩, 27), (⟨"PureGroupsModel", "isLike", "(II)Z"⟩, 27), (⟨"PureGroupsModel", "loose", "()I"⟩, 27), (⟨"PureGroupsModel", "different", "()I"⟩, 27), (⟨"PureGroupsModel", "ownOf", "(I)I"⟩, 27), (⟨"PureGroupsModel", "groups", "(I)V"⟩, 27), (⟨"PureGroupsModel", "tells", "(II)Z"⟩, 27), (⟨"PureGroupsModel", "isToldPure", "()Z"⟩, 27), (⟨"PureGroupsModel", "refuseFarther", "(I)J"⟩, 27), (⟨"PureGroupsModel", "isLeast", "(II)Z"⟩, 27)]
theorem lw_r3 : ∀ q ∈ lw_privs_3, lw_okq q := List.forall_mem_cons.mpr ⟨lw_p32, List.forall_mem_cons.mpr ⟨lw_p33, List.forall_mem_cons.mpr ⟨lw_p34, List.forall_mem_cons.mpr ⟨lw_p35, List.forall_mem_cons.mpr ⟨lw_p36, List.forall_mem_cons.mpr ⟨lw_p37, List.forall_mem_cons.mpr ⟨lw_p38, List.forall_mem_cons.mpr ⟨lw_p39, List.forall_mem_cons.mpr ⟨lw_p40, List.forall_mem_cons.mpr ⟨lw_p41, List.forall_mem_cons.mpr ⟨lw_p42, List.forall_mem_cons.mpr ⟨lw_p43, List.forall_mem_cons.mpr ⟨lw_p44, List.forall_mem_cons.mpr ⟨lw_p45, List.forall_mem_cons.mpr ⟨lw_p46, List.forall_mem_cons.mpr ⟨lw_p47, fun _ h => absurd h List.not_mem_nil⟩⟩⟩⟩⟩⟩⟩⟩⟩⟩⟩⟩⟩⟩⟩⟩
theorem lw_p48 : lw_okq (⟨"PureGroupsModel", "isSet", "(I)Z"⟩, 27) := ⟨⟨by decide +kernel, by decide +kernel⟩, List.mem_of_getElem? (i := 854) (by decide +kernel), List.mem_of_getElem? (i := 1118) (by decide +kernel), List.mem_of_getElem? (i := 1119) (by decide +kernel)⟩
theorem lw_p49 : lw_okq (⟨"PureGroupsModel", "isChosen", "(I)Z"⟩, 27) := ⟨⟨by decide +kernel, by decide +kernel⟩, List.mem_of_getElem? (i := 854) (by decide +kernel), List.mem_of_getElem? (i := 1122) (by decide +kernel), List.mem_of_getElem? (i := 1123) (by decide +kernel)⟩
theorem lw_p50 : lw_okq (⟨"PureGroupsModel", "isFree", "(I)Z"⟩, 27) := ⟨⟨by decide +kernel, by decide +kernel⟩, List.mem_of_getElem? (i := 854) (by decide +kernel), List.mem_of_getElem? (i := 1126) (by decide +kernel), List.mem_of_getElem? (i := 1127) (by decide +kernel)⟩
theorem lw_p51 : lw_okq (⟨"PureGroupsModel", "sizesOf", "(I)J"⟩, 27) := ⟨⟨by decide +kernel, by decide +kernel⟩, List.mem_of_getElem? (i := 854) (by decide +kernel), List.mem_of_getElem? (i := 1138) (by decide +kernel), List.mem_of_getElem? (i := 1139) (by decide +kernel)⟩
theorem lw_p52 : lw_okq (⟨"PureGroupsModel", "chosen", "()I"⟩, 27) := ⟨⟨by decide +kernel, by decide +kernel⟩, List.mem_of_getElem? (i := 854) (by decide +kernel), List.mem_of_getElem? (i := 1146) (by decide +kernel), List.mem_of_getElem? (i := 1147) (by decide +kernel)⟩
theorem lw_p53 : lw_okq (⟨"PureGroupsModel", "bestSet", "(Z)I"⟩, 27) := ⟨⟨by decide +kernel, by decide +kernel⟩, List.mem_of_getElem? (i := 854) (by decide +kernel), List.mem_of_getElem? (i := 1150) (by decide +kernel), List.mem_of_getElem? (i := 1151) (by decide +kernel)⟩
theorem lw_p54 : lw_okq (⟨"PureGroupsModel", "areScaled", "()Z"⟩, 27) := ⟨⟨by decide +kernel, by decide +kernel⟩, List.mem_of_getElem? (i := 854) (by decide +kernel), List.mem_of_getElem? (i := 1170) (by decide +kernel), List.mem_of_getElem? (i := 1171) (by decide +kernel)⟩
theorem lw_p55 : lw_okq (⟨"PureGroupsModel", "isAlike", "()Z"⟩, 27) := ⟨⟨by decide +kernel, by decide +kernel⟩, List.mem_of_getElem? (i := 854) (by decide +kernel), List.mem_of_getElem? (i := 1174) (by decide +kernel), List.mem_of_getElem? (i := 1175) (by decide +kernel)⟩
theorem lw_p56 : lw_okq (⟨"PureGroupsModel", "weighs", "(II)J"⟩, 27) := ⟨⟨by decide +kernel, by decide +kernel⟩, List.mem_of_getElem? (i := 854) (by decide +kernel), List.mem_of_getElem? (i := 1182) (by decide +kernel), List.mem_of_getElem? (i := 1183) (by decide +kernel)⟩
theorem lw_p57 : lw_okq (⟨"PureGroupsModel", "powerIn", "(II)I"⟩, 27) := ⟨⟨by decide +kernel, by decide +kernel⟩, List.mem_of_getElem? (i := 854) (by decide +kernel), List.mem_of_getElem? (i := 1186) (by decide +kernel), List.mem_of_getElem? (i := 1187) (by decide +kernel)⟩
theorem lw_p58 : lw_okq (⟨"PureGroupsModel", "wrongMust", "(II)I"⟩, 27) := ⟨⟨by decide +kernel, by decide +kernel⟩, List.mem_of_getElem? (i := 854) (by decide +kernel), List.mem_of_getElem? (i := 1197) (by decide +kernel), List.mem_of_getElem? (i := 1198) (by decide +kernel)⟩
theorem lw_p59 : lw_okq (⟨"PureGroupsModel", "isScaled", "(I)Z"⟩, 27) := ⟨⟨by decide +kernel, by decide +kernel⟩, List.mem_of_getElem? (i := 854) (by decide +kernel), List.mem_of_getElem? (i := 1201) (by decide +kernel), List.mem_of_getElem? (i := 1202) (by decide +kernel)⟩
theorem lw_p60 : lw_okq (⟨"PureGroupsModel", "fewestOf", "(I)I"⟩, 27) := ⟨⟨by decide +kernel, by decide +kernel⟩, List.mem_of_getElem? (i := 854) (by decide +kernel), List.mem_of_getElem? (i := 1217) (by decide +kernel), List.mem_of_getElem? (i := 1218) (by decide +kernel)⟩
theorem lw_p61 : lw_okq (⟨"PureGroupsModel", "fills", "(II)Z"⟩, 27) := ⟨⟨by decide +kernel, by decide +kernel⟩, List.mem_of_getElem? (i := 854) (by decide +kernel), List.mem_of_getElem? (i := 1221) (by decide +kernel), List.mem_of_getElem? (i := 1222) (by decide +kernel)⟩
theorem lw_p62 : lw_okq (⟨"PureGroupsModel", "isWanted", "(I)Z"⟩, 27) := ⟨⟨by decide +kernel, by decide +kernel⟩, List.mem_of_getElem? (i := 854) (by decide +kernel), List.mem_of_getElem? (i := 1225) (by decide +kernel), List.mem_of_getElem? (i := 1226) (by decide +kernel)⟩
theorem lw_p63 : lw_okq (⟨"PureGroupsModel", "powerBy", "(II)I"⟩, 27) := ⟨⟨by decide +kernel, by decide +kernel⟩, List.mem_of_getElem? (i := 854) (by decide +kernel), List.mem_of_getElem? (i := 1229) (by decide +kernel), List.mem_of_getElem? (i := 1230) (by decide +kernel)⟩
def lw_privs_4 : List (MethodName × Nat) := [(⟨"PureGroupsModel", "isSet", "(I)Z"⟩, 27), (⟨"PureGroupsModel", "isChosen", "(I)Z"⟩, 27), (⟨"PureGroupsModel", "isFree", "(I)Z"⟩, 27), (⟨"PureGroupsModel", "sizesOf", "(I)J"⟩, 27), (⟨"PureGroupsModel", "chosen", "()I"⟩, 27), (⟨"PureGroupsModel", "bestSet", "(Z)I"⟩, 27), (⟨"PureGroupsModel", "areScaled", "()Z"⟩, 27), (⟨"PureGroupsModel", "isAlike", "()Z"⟩, 27), (⟨"PureGroupsModel", "weighs", "(II)J"⟩, 27), (⟨"PureGroupsModel", "powerIn", "(II)I"⟩, 27), (⟨"PureGroupsModel", "wrongMust", "(II)I"⟩, 27), (⟨"PureGroupsModel", "isScaled", "(I)Z"⟩, 27), (⟨"PureGroupsModel", "fewestOf", "(I)I"⟩, 27), (⟨"PureGroupsModel", "fills", "(II)Z"⟩, 27), (⟨"PureGroupsModel", "isWanted", "(I)Z"⟩, 27), (⟨"PureGroupsModel", "powerBy", "(II)I"⟩, 27)]
theorem lw_r4 : ∀ q ∈ lw_privs_4, lw_okq q := List.forall_mem_cons.mpr ⟨lw_p48, List.forall_mem_cons.mpr ⟨lw_p49, List.forall_mem_cons.mpr ⟨lw_p50, List.forall_mem_cons.mpr ⟨lw_p51, List.forall_mem_cons.mpr ⟨lw_p52, List.forall_mem_cons.mpr ⟨lw_p53, List.forall_mem_cons.mpr ⟨lw_p54, List.forall_mem_cons.mpr ⟨lw_p55, List.forall_mem_cons.mpr ⟨lw_p56, List.forall_mem_cons.mpr ⟨lw_p57, List.forall_mem_cons.mpr ⟨lw_p58, List.forall_mem_cons.mpr ⟨lw_p59, List.forall_mem_cons.mpr ⟨lw_p60, List.forall_mem_cons.mpr ⟨lw_p61, List.forall_mem_cons.mpr ⟨lw_p62, List.forall_mem_cons.mpr ⟨lw_p63, fun _ h => absurd h List.not_mem_nil⟩⟩⟩⟩⟩⟩⟩⟩⟩⟩⟩⟩⟩⟩⟩⟩
theorem lw_p64 : lw_okq (⟨"PureGroupsModel", "adds", "(III)I"⟩, 27) := ⟨⟨by decide +kernel, by decide +kernel⟩, List.mem_of_getElem? (i := 854) (by decide +kernel), List.mem_of_getElem? (i := 1237) (by decide +kernel), List.mem_of_getElem? (i := 1238) (by decide +kernel)⟩
theorem lw_p65 : lw_okq (⟨"PureGroupsModel", "keyOf", "(I)J"⟩, 27) := ⟨⟨by decide +kernel, by decide +kernel⟩, List.mem_of_getElem? (i := 854) (by decide +kernel), List.mem_of_getElem? (i := 1241) (by decide +kernel), List.mem_of_getElem? (i := 1242) (by decide +kernel)⟩
theorem lw_p66 : lw_okq (⟨"PureGroupsModel", "differs", "(IJ)I"⟩, 27) := ⟨⟨by decide +kernel, by decide +kernel⟩, List.mem_of_getElem? (i := 854) (by decide +kernel), List.mem_of_getElem? (i := 1246) (by decide +kernel), List.mem_of_getElem? (i := 1247) (by decide +kernel)⟩
theorem lw_p67 : lw_okq (⟨"PureGroupsModel", "readsBoth", "()Z"⟩, 27) := ⟨⟨by decide +kernel, by decide +kernel⟩, List.mem_of_getElem? (i := 854) (by decide +kernel), List.mem_of_getElem? (i := 1254) (by decide +kernel), List.mem_of_getElem? (i := 1255) (by decide +kernel)⟩
theorem lw_p68 : lw_okq (⟨"PureGroupsModel", "readsSum", "()Z"⟩, 27) := ⟨⟨by decide +kernel, by decide +kernel⟩, List.mem_of_getElem? (i := 854) (by decide +kernel), List.mem_of_getElem? (i := 1258) (by decide +kernel), List.mem_of_getElem? (i := 1259) (by decide +kernel)⟩
theorem lw_p69 : lw_okq (⟨"PureGroupsModel", "readsTerm", "()Z"⟩, 27) := ⟨⟨by decide +kernel, by decide +kernel⟩, List.mem_of_getElem? (i := 854) (by decide +kernel), List.mem_of_getElem? (i := 1262) (by decide +kernel), List.mem_of_getElem? (i := 1263) (by decide +kernel)⟩
theorem lw_p70 : lw_okq (⟨"PureGroupsModel", "readsPart", "()Z"⟩, 27) := ⟨⟨by decide +kernel, by decide +kernel⟩, List.mem_of_getElem? (i := 854) (by decide +kernel), List.mem_of_getElem? (i := 1266) (by decide +kernel), List.mem_of_getElem? (i := 1267) (by decide +kernel)⟩
theorem lw_p71 : lw_okq (⟨"PureGroupsModel", "readsAtom", "()Z"⟩, 27) := ⟨⟨by decide +kernel, by decide +kernel⟩, List.mem_of_getElem? (i := 854) (by decide +kernel), List.mem_of_getElem? (i := 1270) (by decide +kernel), List.mem_of_getElem? (i := 1271) (by decide +kernel)⟩
theorem lw_p72 : lw_okq (⟨"PureGroupsModel", "here", "()I"⟩, 27) := ⟨⟨by decide +kernel, by decide +kernel⟩, List.mem_of_getElem? (i := 854) (by decide +kernel), List.mem_of_getElem? (i := 1274) (by decide +kernel), List.mem_of_getElem? (i := 1275) (by decide +kernel)⟩
theorem lw_p73 : lw_okq (⟨"PureGroupsModel", "isDigit", "()Z"⟩, 27) := ⟨⟨by decide +kernel, by decide +kernel⟩, List.mem_of_getElem? (i := 854) (by decide +kernel), List.mem_of_getElem? (i := 1279) (by decide +kernel), List.mem_of_getElem? (i := 1280) (by decide +kernel)⟩
theorem lw_p74 : lw_okq (⟨"PureGroupsModel", "readsClosed", "()Z"⟩, 27) := ⟨⟨by decide +kernel, by decide +kernel⟩, List.mem_of_getElem? (i := 854) (by decide +kernel), List.mem_of_getElem? (i := 1285) (by decide +kernel), List.mem_of_getElem? (i := 1286) (by decide +kernel)⟩
theorem lw_p75 : lw_okq (⟨"PureGroupsModel", "isSigned", "(II)Z"⟩, 27) := ⟨⟨by decide +kernel, by decide +kernel⟩, List.mem_of_getElem? (i := 854) (by decide +kernel), List.mem_of_getElem? (i := 1289) (by decide +kernel), List.mem_of_getElem? (i := 1290) (by decide +kernel)⟩
theorem lw_p76 : lw_okq (⟨"PureGroupsModel", "goesThrough", "()V"⟩, 27) := ⟨⟨by decide +kernel, by decide +kernel⟩, List.mem_of_getElem? (i := 854) (by decide +kernel), List.mem_of_getElem? (i := 1297) (by decide +kernel), List.mem_of_getElem? (i := 1298) (by decide +kernel)⟩
theorem lw_p77 : lw_okq (⟨"PureGroupsModel", "sum", "(I)V"⟩, 27) := ⟨⟨by decide +kernel, by decide +kernel⟩, List.mem_of_getElem? (i := 854) (by decide +kernel), List.mem_of_getElem? (i := 1301) (by decide +kernel), List.mem_of_getElem? (i := 1302) (by decide +kernel)⟩
theorem lw_p78 : lw_okq (⟨"PureGroupsModel", "term", "(I)V"⟩, 27) := ⟨⟨by decide +kernel, by decide +kernel⟩, List.mem_of_getElem? (i := 854) (by decide +kernel), List.mem_of_getElem? (i := 1305) (by decide +kernel), List.mem_of_getElem? (i := 1306) (by decide +kernel)⟩
theorem lw_p79 : lw_okq (⟨"PureGroupsModel", "part", "(I)V"⟩, 27) := ⟨⟨by decide +kernel, by decide +kernel⟩, List.mem_of_getElem? (i := 854) (by decide +kernel), List.mem_of_getElem? (i := 1309) (by decide +kernel), List.mem_of_getElem? (i := 1310) (by decide +kernel)⟩
def lw_privs_5 : List (MethodName × Nat) := [(⟨"PureGroupsModel", "adds", "(III)I"⟩, 27), (⟨"PureGroupsModel", "keyOf", "(I)J"⟩, 27), (⟨"PureGroupsModel", "differs", "(IJ)I"⟩, 27), (⟨"PureGroupsModel", "readsBoth", "()Z"⟩, 27), (⟨"PureGroupsModel", "readsSum", "()Z"⟩, 27), (⟨"PureGroupsModel", "readsTerm", "()Z"⟩, 27), (⟨"PureGroupsModel", "readsPart", "()Z"⟩, 27), (⟨"PureGroupsModel", "readsAtom", "()Z"⟩, 27), (⟨"PureGroupsModel", "here", "()I"⟩, 27), (⟨"PureGroupsModel", "isDigit", "()Z"⟩, 27), (⟨"PureGroupsModel", "readsClosed", "()Z"⟩, 27), (⟨"PureGroupsModel", "isSigned", "(II)Z"⟩, 27), (⟨"PureGroupsModel", "goesThrough", "()V"⟩, 27), (⟨"PureGroupsModel", "sum", "(I)V"⟩, 27), (⟨"PureGroupsModel", "term", "(I)V"⟩, 27), (⟨"PureGroupsModel", "part", "(I)V"⟩, 27)]
theorem lw_r5 : ∀ q ∈ lw_privs_5, lw_okq q := List.forall_mem_cons.mpr ⟨lw_p64, List.forall_mem_cons.mpr ⟨lw_p65, List.forall_mem_cons.mpr ⟨lw_p66, List.forall_mem_cons.mpr ⟨lw_p67, List.forall_mem_cons.mpr ⟨lw_p68, List.forall_mem_cons.mpr ⟨lw_p69, List.forall_mem_cons.mpr ⟨lw_p70, List.forall_mem_cons.mpr ⟨lw_p71, List.forall_mem_cons.mpr ⟨lw_p72, List.forall_mem_cons.mpr ⟨lw_p73, List.forall_mem_cons.mpr ⟨lw_p74, List.forall_mem_cons.mpr ⟨lw_p75, List.forall_mem_cons.mpr ⟨lw_p76, List.forall_mem_cons.mpr ⟨lw_p77, List.forall_mem_cons.mpr ⟨lw_p78, List.forall_mem_cons.mpr ⟨lw_p79, fun _ h => absurd h List.not_mem_nil⟩⟩⟩⟩⟩⟩⟩⟩⟩⟩⟩⟩⟩⟩⟩⟩
theorem lw_p80 : lw_okq (⟨"PureGroupsModel", "atom", "(I)V"⟩, 27) := ⟨⟨by decide +kernel, by decide +kernel⟩, List.mem_of_getElem? (i := 854) (by decide +kernel), List.mem_of_getElem? (i := 1313) (by decide +kernel), List.mem_of_getElem? (i := 1314) (by decide +kernel)⟩
theorem lw_p81 : lw_okq (⟨"PureGroupsModel", "sign", "()I"⟩, 27) := ⟨⟨by decide +kernel, by decide +kernel⟩, List.mem_of_getElem? (i := 854) (by decide +kernel), List.mem_of_getElem? (i := 1317) (by decide +kernel), List.mem_of_getElem? (i := 1318) (by decide +kernel)⟩
theorem lw_p82 : lw_okq (⟨"PureGroupsModel", "sets", "(II)V"⟩, 27) := ⟨⟨by decide +kernel, by decide +kernel⟩, List.mem_of_getElem? (i := 854) (by decide +kernel), List.mem_of_getElem? (i := 1321) (by decide +kernel), List.mem_of_getElem? (i := 1322) (by decide +kernel)⟩
theorem lw_p83 : lw_okq (⟨"PureGroupsModel", "isPureAt", "(I)Z"⟩, 27) := ⟨⟨by decide +kernel, by decide +kernel⟩, List.mem_of_getElem? (i := 854) (by decide +kernel), List.mem_of_getElem? (i := 1326) (by decide +kernel), List.mem_of_getElem? (i := 1327) (by decide +kernel)⟩
theorem lw_p84 : lw_okq (⟨"PureGroupsModel", "draws", "(I)I"⟩, 27) := ⟨⟨by decide +kernel, by decide +kernel⟩, List.mem_of_getElem? (i := 854) (by decide +kernel), List.mem_of_getElem? (i := 1342) (by decide +kernel), List.mem_of_getElem? (i := 1343) (by decide +kernel)⟩
theorem lw_p85 : lw_okq (⟨"PureGroupsModel", "wrongCell", "(II)I"⟩, 27) := ⟨⟨by decide +kernel, by decide +kernel⟩, List.mem_of_getElem? (i := 854) (by decide +kernel), List.mem_of_getElem? (i := 1357) (by decide +kernel), List.mem_of_getElem? (i := 1358) (by decide +kernel)⟩
theorem lw_p86 : lw_okq (⟨"PureGroupsModel", "isCell", "(II)Z"⟩, 27) := ⟨⟨by decide +kernel, by decide +kernel⟩, List.mem_of_getElem? (i := 854) (by decide +kernel), List.mem_of_getElem? (i := 1361) (by decide +kernel), List.mem_of_getElem? (i := 1362) (by decide +kernel)⟩
theorem lw_p87 : lw_okq (⟨"PureGroupsModel", "scales", "()I"⟩, 27) := ⟨⟨by decide +kernel, by decide +kernel⟩, List.mem_of_getElem? (i := 854) (by decide +kernel), List.mem_of_getElem? (i := 1393) (by decide +kernel), List.mem_of_getElem? (i := 1394) (by decide +kernel)⟩
def lw_privs_6 : List (MethodName × Nat) := [(⟨"PureGroupsModel", "atom", "(I)V"⟩, 27), (⟨"PureGroupsModel", "sign", "()I"⟩, 27), (⟨"PureGroupsModel", "sets", "(II)V"⟩, 27), (⟨"PureGroupsModel", "isPureAt", "(I)Z"⟩, 27), (⟨"PureGroupsModel", "draws", "(I)I"⟩, 27), (⟨"PureGroupsModel", "wrongCell", "(II)I"⟩, 27), (⟨"PureGroupsModel", "isCell", "(II)Z"⟩, 27), (⟨"PureGroupsModel", "scales", "()I"⟩, 27)]
theorem lw_r6 : ∀ q ∈ lw_privs_6, lw_okq q := List.forall_mem_cons.mpr ⟨lw_p80, List.forall_mem_cons.mpr ⟨lw_p81, List.forall_mem_cons.mpr ⟨lw_p82, List.forall_mem_cons.mpr ⟨lw_p83, List.forall_mem_cons.mpr ⟨lw_p84, List.forall_mem_cons.mpr ⟨lw_p85, List.forall_mem_cons.mpr ⟨lw_p86, List.forall_mem_cons.mpr ⟨lw_p87, fun _ h => absurd h List.not_mem_nil⟩⟩⟩⟩⟩⟩⟩⟩
def lw_privs : List (MethodName × Nat) := lw_privs_1 ++ (lw_privs_2 ++ (lw_privs_3 ++ (lw_privs_4 ++ (lw_privs_5 ++ (lw_privs_6)))))
def lw_tbl : List Cond := k2_sels lw_privs ++ tables_1
theorem lw_privs_ok : ∀ q ∈ lw_privs, lw_okq q := by
  show ∀ q ∈ lw_privs_1 ++ (lw_privs_2 ++ (lw_privs_3 ++ (lw_privs_4 ++ (lw_privs_5 ++ (lw_privs_6))))), lw_okq q
  exact List.forall_mem_append.mpr ⟨lw_r1, List.forall_mem_append.mpr ⟨lw_r2, List.forall_mem_append.mpr ⟨lw_r3, List.forall_mem_append.mpr ⟨lw_r4, List.forall_mem_append.mpr ⟨lw_r5, lw_r6⟩⟩⟩⟩⟩
end
section
def RX0 : String := "PureGroups$Choice"
def TX0 : u_T := fun k => match k with
  | 0 => ("PureGroups$Choice", "space", "LPureGroups$Space;", true)
  | 1 => ("PureGroups$Choice", "chosen", "LPureGroups$Elimination;", true)
  | 2 => ("PureGroups$Choice", "powers", "[I", true)
  | 3 => ("PureGroups$Choice", "lookedAt", "I", false)
  | 4 => ("PureGroups$Choice", "count", "I", false)
  | 5 => ("PureGroups$Choice", "tried", "I", false)
  | 6 => ("PureGroups$Choice", "first", "I", false)
  | 7 => ("PureGroups$Choice", "best", "I", false)
  | _ => ("PureGroups$Choice", "leastSizes", "J", false)
def tyX0 : Nat → FieldType := fun k => match k with
  | 0 => .object "PureGroups$Space"
  | 1 => .object "PureGroups$Elimination"
  | 2 => .array .int
  | 3 => .int
  | 4 => .int
  | 5 => .int
  | 6 => .int
  | 7 => .int
  | _ => .long
theorem nmX0 : ∀ a, a < 9 → ∀ b, b < 9 → a ≠ b → (TX0 a).2.1 ≠ (TX0 b).2.1 := by decide +kernel
theorem tyX0_ok : ∀ k, k < 9 → parseFieldDescriptor (TX0 k).2.2.1 = some (tyX0 k) := by decide +kernel
def RX1 : String := "PureGroups$Elimination"
def TX1 : u_T := fun k => match k with
  | 0 => ("PureGroups$Elimination", "cell", "[[J", true)
  | 1 => ("PureGroups$Elimination", "rowOf", "[I", true)
  | 2 => ("PureGroups$Elimination", "size", "I", false)
  | 3 => ("PureGroups$Elimination", "rank", "I", false)
  | 4 => ("PureGroups$Elimination", "pivots", "I", false)
  | _ => ("PureGroups$Elimination", "scale", "J", false)
def tyX1 : Nat → FieldType := fun k => match k with
  | 0 => .array (.array .long)
  | 1 => .array .int
  | 2 => .int
  | 3 => .int
  | 4 => .int
  | _ => .long
theorem nmX1 : ∀ a, a < 6 → ∀ b, b < 6 → a ≠ b → (TX1 a).2.1 ≠ (TX1 b).2.1 := by decide +kernel
theorem tyX1_ok : ∀ k, k < 6 → parseFieldDescriptor (TX1 k).2.2.1 = some (tyX1 k) := by decide +kernel
def RX2 : String := "PureGroups$History"
def TX2 : u_T := fun k => match k with
  | 0 => ("PureGroups$History", "rows", "[[I", true)
  | 1 => ("PureGroups$History", "next", "I", false)
  | _ => ("PureGroups$History", "size", "I", false)
def tyX2 : Nat → FieldType := fun k => match k with
  | 0 => .array (.array .int)
  | 1 => .int
  | _ => .int
theorem nmX2 : ∀ a, a < 3 → ∀ b, b < 3 → a ≠ b → (TX2 a).2.1 ≠ (TX2 b).2.1 := by decide +kernel
theorem tyX2_ok : ∀ k, k < 3 → parseFieldDescriptor (TX2 k).2.2.1 = some (tyX2 k) := by decide +kernel
def RX3 : String := "PureGroups$Model"
def TX3 : u_T := fun k => match k with
  | 0 => ("PureGroups$Model", "size", "I", false)
  | 1 => ("PureGroups$Model", "kind", "[I", true)
  | 2 => ("PureGroups$Model", "told", "[[I", true)
  | 3 => ("PureGroups$Model", "above", "[I", true)
  | 4 => ("PureGroups$Model", "below", "[I", true)
  | 5 => ("PureGroups$Model", "letters", "[I", true)
  | 6 => ("PureGroups$Model", "length", "I", false)
  | _ => ("PureGroups$Model", "terms", "I", false)
def tyX3 : Nat → FieldType := fun k => match k with
  | 0 => .int
  | 1 => .array .int
  | 2 => .array (.array .int)
  | 3 => .array .int
  | 4 => .array .int
  | 5 => .array .int
  | 6 => .int
  | _ => .int
theorem nmX3 : ∀ a, a < 8 → ∀ b, b < 8 → a ≠ b → (TX3 a).2.1 ≠ (TX3 b).2.1 := by decide +kernel
theorem tyX3_ok : ∀ k, k < 8 → parseFieldDescriptor (TX3 k).2.2.1 = some (tyX3 k) := by decide +kernel
def RX4 : String := "PureGroups$Reading"
def TX4 : u_T := fun k => match k with
  | 0 => ("PureGroups$Reading", "space", "LPureGroups$Space;", true)
  | 1 => ("PureGroups$Reading", "text", "[I", true)
  | 2 => ("PureGroups$Reading", "length", "I", false)
  | 3 => ("PureGroups$Reading", "place", "I", false)
  | 4 => ("PureGroups$Reading", "fault", "I", false)
  | 5 => ("PureGroups$Reading", "terms", "I", false)
  | 6 => ("PureGroups$Reading", "quantities", "I", false)
  | 7 => ("PureGroups$Reading", "wrongAt", "[I", true)
  | 8 => ("PureGroups$Reading", "sums", "[[I", true)
  | 9 => ("PureGroups$Reading", "products", "[[I", true)
  | 10 => ("PureGroups$Reading", "none", "[I", true)
  | 11 => ("PureGroups$Reading", "ahead", "[I", true)
  | _ => ("PureGroups$Reading", "behind", "[I", true)
def tyX4 : Nat → FieldType := fun k => match k with
  | 0 => .object "PureGroups$Space"
  | 1 => .array .int
  | 2 => .int
  | 3 => .int
  | 4 => .int
  | 5 => .int
  | 6 => .int
  | 7 => .array .int
  | 8 => .array (.array .int)
  | 9 => .array (.array .int)
  | 10 => .array .int
  | 11 => .array .int
  | _ => .array .int
theorem nmX4 : ∀ a, a < 13 → ∀ b, b < 13 → a ≠ b → (TX4 a).2.1 ≠ (TX4 b).2.1 := by decide +kernel
theorem tyX4_ok : ∀ k, k < 13 → parseFieldDescriptor (TX4 k).2.2.1 = some (tyX4 k) := by decide +kernel
def RX5 : String := "PureGroups$Search"
def TX5 : u_T := fun k => match k with
  | 0 => ("PureGroups$Search", "space", "LPureGroups$Space;", true)
  | 1 => ("PureGroups$Search", "leastPowers", "[I", true)
  | 2 => ("PureGroups$Search", "leastSize", "I", false)
  | 3 => ("PureGroups$Search", "leastOf", "I", false)
  | 4 => ("PureGroups$Search", "factorKeys", "[J", true)
  | 5 => ("PureGroups$Search", "row", "[I", true)
  | _ => ("PureGroups$Search", "seen", "[J", true)
def tyX5 : Nat → FieldType := fun k => match k with
  | 0 => .object "PureGroups$Space"
  | 1 => .array .int
  | 2 => .int
  | 3 => .int
  | 4 => .array .long
  | 5 => .array .int
  | _ => .array .long
theorem nmX5 : ∀ a, a < 7 → ∀ b, b < 7 → a ≠ b → (TX5 a).2.1 ≠ (TX5 b).2.1 := by decide +kernel
theorem tyX5_ok : ∀ k, k < 7 → parseFieldDescriptor (TX5 k).2.2.1 = some (tyX5 k) := by decide +kernel
def RX6 : String := "PureGroups$Space"
def TX6 : u_T := fun k => match k with
  | 0 => ("PureGroups$Space", "size", "I", false)
  | 1 => ("PureGroups$Space", "version", "I", false)
  | 2 => ("PureGroups$Space", "power", "[[I", true)
  | 3 => ("PureGroups$Space", "key", "[J", true)
  | _ => ("PureGroups$Space", "all", "LPureGroups$Elimination;", true)
def tyX6 : Nat → FieldType := fun k => match k with
  | 0 => .int
  | 1 => .int
  | 2 => .array (.array .int)
  | 3 => .array .long
  | _ => .object "PureGroups$Elimination"
theorem nmX6 : ∀ a, a < 5 → ∀ b, b < 5 → a ≠ b → (TX6 a).2.1 ≠ (TX6 b).2.1 := by decide +kernel
theorem tyX6_ok : ∀ k, k < 5 → parseFieldDescriptor (TX6 k).2.2.1 = some (tyX6 k) := by decide +kernel
def RX7 : String := "PureGroups"
def TX7 : u_T := fun k => match k with
  | 0 => ("PureGroups", "model", "LPureGroups$Model;", true)
  | 1 => ("PureGroups", "image", "LPureGroups$Model;", true)
  | 2 => ("PureGroups", "imageTaken", "Z", false)
  | 3 => ("PureGroups", "history", "LPureGroups$History;", true)
  | 4 => ("PureGroups", "space", "LPureGroups$Space;", true)
  | 5 => ("PureGroups", "choice", "LPureGroups$Choice;", true)
  | 6 => ("PureGroups", "search", "LPureGroups$Search;", true)
  | 7 => ("PureGroups", "reading", "LPureGroups$Reading;", true)
  | 8 => ("PureGroups", "letters", "[I", true)
  | 9 => ("PureGroups", "letterCount", "I", false)
  | 10 => ("PureGroups", "lists", "[[I", true)
  | 11 => ("PureGroups", "listSizes", "[I", true)
  | 12 => ("PureGroups", "powers", "[I", true)
  | 13 => ("PureGroups", "product", "[I", true)
  | 14 => ("PureGroups", "dimension", "[I", true)
  | _ => ("PureGroups", "refusals", "[I", true)
def tyX7 : Nat → FieldType := fun k => match k with
  | 0 => .object "PureGroups$Model"
  | 1 => .object "PureGroups$Model"
  | 2 => .boolean
  | 3 => .object "PureGroups$History"
  | 4 => .object "PureGroups$Space"
  | 5 => .object "PureGroups$Choice"
  | 6 => .object "PureGroups$Search"
  | 7 => .object "PureGroups$Reading"
  | 8 => .array .int
  | 9 => .int
  | 10 => .array (.array .int)
  | 11 => .array .int
  | 12 => .array .int
  | 13 => .array .int
  | 14 => .array .int
  | _ => .array .int
theorem nmX7 : ∀ a, a < 16 → ∀ b, b < 16 → a ≠ b → (TX7 a).2.1 ≠ (TX7 b).2.1 := by decide +kernel
theorem tyX7_ok : ∀ k, k < 16 → parseFieldDescriptor (TX7 k).2.2.1 = some (tyX7 k) := by decide +kernel
def RX8 : String := "PureGroupsModel"
def TX8 : u_T := fun k => match k with
  | 0 => ("PureGroupsModel", "g", "[I", true)
  | 1 => ("PureGroupsModel", "kept", "[I", true)
  | 2 => ("PureGroupsModel", "isKept", "Z", false)
  | 3 => ("PureGroupsModel", "refused", "[I", true)
  | 4 => ("PureGroupsModel", "come", "[I", true)
  | 5 => ("PureGroupsModel", "comes", "I", false)
  | 6 => ("PureGroupsModel", "step", "[I", true)
  | 7 => ("PureGroupsModel", "steps", "I", false)
  | 8 => ("PureGroupsModel", "table", "[J", true)
  | 9 => ("PureGroupsModel", "power", "[J", true)
  | 10 => ("PureGroupsModel", "rowOf", "[I", true)
  | 11 => ("PureGroupsModel", "size", "[I", true)
  | 12 => ("PureGroupsModel", "cell", "[I", true)
  | 13 => ("PureGroupsModel", "told", "[I", true)
  | 14 => ("PureGroupsModel", "factor", "[I", true)
  | 15 => ("PureGroupsModel", "want", "[I", true)
  | 16 => ("PureGroupsModel", "row", "[J", true)
  | 17 => ("PureGroupsModel", "place", "I", false)
  | 18 => ("PureGroupsModel", "open", "I", false)
  | 19 => ("PureGroupsModel", "terms", "I", false)
  | 20 => ("PureGroupsModel", "comesTo", "[I", true)
  | 21 => ("PureGroupsModel", "side", "[I", true)
  | 22 => ("PureGroupsModel", "isWrong", "[Z", true)
  | 23 => ("PureGroupsModel", "at", "I", false)
  | 24 => ("PureGroupsModel", "stands", "I", false)
  | 25 => ("PureGroupsModel", "equals", "I", false)
  | _ => ("PureGroupsModel", "z", "I", false)
def tyX8 : Nat → FieldType := fun k => match k with
  | 0 => .array .int
  | 1 => .array .int
  | 2 => .boolean
  | 3 => .array .int
  | 4 => .array .int
  | 5 => .int
  | 6 => .array .int
  | 7 => .int
  | 8 => .array .long
  | 9 => .array .long
  | 10 => .array .int
  | 11 => .array .int
  | 12 => .array .int
  | 13 => .array .int
  | 14 => .array .int
  | 15 => .array .int
  | 16 => .array .long
  | 17 => .int
  | 18 => .int
  | 19 => .int
  | 20 => .array .int
  | 21 => .array .int
  | 22 => .array .boolean
  | 23 => .int
  | 24 => .int
  | 25 => .int
  | _ => .int
theorem nmX8 : ∀ a, a < 27 → ∀ b, b < 27 → a ≠ b → (TX8 a).2.1 ≠ (TX8 b).2.1 := by decide +kernel
theorem tyX8_ok : ∀ k, k < 27 → parseFieldDescriptor (TX8 k).2.2.1 = some (tyX8 k) := by decide +kernel
/-- the classes whose objects the world holds -/
def cl : List vw_C := [(RX0, TX0, 9), (RX1, TX1, 6), (RX2, TX2, 3), (RX3, TX3, 8), (RX4, TX4, 13), (RX5, TX5, 7), (RX6, TX6, 5), (RX7, TX7, 16), (RX8, TX8, 27)]
/-- how many fields; the kind of a field: 0 int, 1 long, 2 reference, 3 boolean -/
def nfL : List Nat := [9, 6, 3, 8, 13, 7, 5, 16, 27]
def ftL : List (List Nat) := [[2, 2, 2, 0, 0, 0, 0, 0, 1], [2, 2, 0, 0, 0, 1], [2, 0, 0], [0, 2, 2, 2, 2, 2, 0, 0], [2, 2, 0, 0, 0, 0, 0, 2, 2, 2, 2, 2, 2], [2, 2, 0, 0, 2, 2, 2], [0, 0, 2, 2, 2], [2, 2, 3, 2, 2, 2, 2, 2, 2, 0, 2, 2, 2, 2, 2, 2], [2, 2, 3, 2, 2, 0, 2, 0, 2, 2, 2, 2, 2, 2, 2, 2, 2, 0, 0, 0, 2, 2, 2, 0, 0, 0, 0]]
/-- the cells: ck 0 int[], 1 long[], 2 boolean[], 3 int[][], 4 long[][], 5 + n an object of the n-th class; al the length; rf what a reference leads to -/
def NC : Nat := 135
def ckL : List Nat := [12, 8, 0, 3, 0, 0, 0, 0, 0, 0, 0, 0, 0, 0, 0, 8, 0, 3, 0, 0, 0, 0, 0, 0, 0, 0, 0, 0, 0, 7, 3, 0, 0, 0, 0, 0, 0, 0, 0, 0, 0, 0, 0, 0, 0, 0, 0, 0, 0, 0, 0, 11, 3, 0, 0, 0, 0, 0, 0, 0, 0, 1, 6, 4, 1, 1, 1, 1, 1, 0, 5, 6, 4, 1, 1, 1, 1, 1, 0, 0, 10, 0, 1, 0, 1, 9, 0, 0, 3, 0, 0, 0, 0, 0, 0, 0, 3, 0, 0, 0, 0, 0, 0, 0, 0, 0, 0, 0, 3, 0, 0, 0, 0, 0, 0, 0, 0, 13, 0, 0, 0, 0, 0, 1, 1, 0, 0, 0, 0, 0, 0, 1, 0, 0, 2]
def alL : List Nat := [16, 8, 8, 8, 5, 5, 5, 5, 5, 5, 5, 5, 8, 8, 72, 8, 8, 8, 5, 5, 5, 5, 5, 5, 5, 5, 8, 8, 72, 3, 20, 4, 4, 4, 4, 4, 4, 4, 4, 4, 4, 4, 4, 4, 4, 4, 4, 4, 4, 4, 4, 5, 8, 5, 5, 5, 5, 5, 5, 5, 5, 8, 6, 5, 8, 8, 8, 8, 8, 8, 9, 6, 5, 8, 8, 8, 8, 8, 8, 8, 7, 8, 16, 3, 1024, 13, 72, 72, 7, 5, 5, 5, 5, 5, 5, 5, 7, 5, 5, 5, 5, 5, 5, 5, 5, 5, 5, 72, 3, 40, 40, 40, 3, 8, 8, 5, 7, 27, 139, 139, 7, 72, 100, 45, 8, 9, 3, 120, 8, 3, 5, 969, 200, 10, 72]
def rfL : List (List Nat) := [[1, 15, 0, 29, 51, 70, 80, 85, 107, 0, 108, 112, 113, 114, 115, 116], [0, 2, 3, 12, 13, 14, 0, 0], [], [], [], [], [], [], [], [], [], [], [], [], [], [0, 16, 17, 26, 27, 28, 0, 0], [], [], [], [], [], [], [], [], [], [], [], [], [], [30, 0, 0], [], [], [], [], [], [], [], [], [], [], [], [], [], [], [], [], [], [], [], [], [], [0, 0, 52, 61, 62], [], [], [], [], [], [], [], [], [], [], [63, 69, 0, 0, 0, 0], [], [], [], [], [], [], [], [51, 71, 79, 0, 0, 0, 0, 0, 0], [72, 78, 0, 0, 0, 0], [], [], [], [], [], [], [], [], [51, 81, 0, 0, 82, 83, 84], [], [], [], [], [51, 86, 0, 0, 0, 0, 0, 87, 88, 96, 104, 105, 106], [], [], [], [], [], [], [], [], [], [], [], [], [], [], [], [], [], [], [], [], [], [], [], [], [], [], [], [], [], [], [], [118, 119, 0, 120, 121, 0, 122, 0, 123, 124, 125, 126, 127, 128, 129, 130, 131, 0, 0, 0, 132, 133, 134, 0, 0, 0, 0]]
def ck (c : Nat) : Nat := ckL.getD c 99
def al (c : Nat) : Nat := alL.getD c 0
def nf (c : Nat) : Nat := nfL.getD c 0
def ft (c k : Nat) : Nat := (ftL.getD c []).getD k 0
def rf (c j : Nat) : Nat := bif (ck c == 3 || ck c == 4) then c + 1 + j else (rfL.getD c []).getD j 0
/-- static arrays that nobody writes: cells from 1000 on -/
def stL : List (String × List Int32) := [("UNDER", [-1, 0, 0, 1, 0, 2]), ("LESS_OF_UNIT_1", [0, 0, 1, 2, 0, 1]), ("LESS_OF_UNIT_2", [0, 1, 0, 1, 0, 0]), ("TIMES", [1, 1, 1, 1, 0, 2]), ("PRIMES", [2, 3, 5, 7, 11, 13, 17, 19, 23, 29, 31, 37, 41, 43, 47, 53, 59, 61, 67, 71, 73, 79, 83, 89, 97])]
def sq (c : Nat) : String × List Int32 := stL.getD (c - 1000) ("", [])
def sn (c : Nat) : Nat := (sq c).2.length
def sv (c j : Nat) : Int32 := (sq c).2.getD j 0
end
section
/-! ===== THE SMALL MACHINE: bytecode over a store of numbers; cells by their numbers, references are cells' numbers ===== -/
abbrev Sg : Type := (Nat → Nat → Int32) × (Nat → Nat → Int64)
abbrev LV : Type := List (Nat × Value)
/-- pc, instruction, length, three numbers that say what it links to, constants or targets -/
abbrev Ent : Type := Nat × Instr × Nat × Nat × Nat × Nat × List Int
abbrev PS : Type := Nat × LV × List Value × Sg
/-- an array that is only read: the law's script -/
abbrev RO : Type := Option (Nat × (Nat → Int32))
def si (σ : Sg) (c j : Nat) (x : Int32) : Sg := (fun c' => if c' = c then upd (σ.1 c) j x else σ.1 c', σ.2)
def sl (σ : Sg) (c j : Nat) (x : Int64) : Sg := (σ.1, fun c' => if c' = c then vp_updL (σ.2 c) j x else σ.2 c')
def scp (σ : Sg) (c0 c1 sp dp n : Nat) : Sg := (fun c' => if c' = c1 then va_cpy (σ.1 c0) (σ.1 c1) sp dp n else σ.1 c', σ.2)
def lget : LV → Nat → Option Value
  | [], _ => none
  | (i, v) :: r, k => bif i == k then some v else lget r k
def lset1 (lv : LV) (i : Nat) (v : Value) : LV := (i, v) :: lv.filter (fun q => !(q.1 == i) && !(q.1 + 1 == i && q.2.category == 2))
def lset2 (lv : LV) (i : Nat) (v : Value) : LV := (i, v) :: lv.filter (fun q => !(q.1 == i) && (!(q.1 == i + 1) && !(q.1 + 1 == i && q.2.category == 2)))
def conj : List Prop → Prop
  | [] => True
  | p :: l => p ∧ conj l
def nb (x : Int32) : Prop := x = 0 ∨ x = 1
def swt (x : Int32) (d : Nat) : Int → List Int → Nat
  | _, [] => d
  | k, t :: r => if x = Int32.ofInt k then t.toNat else swt x d (k + 1) r
abbrev Res : Type := Option (List Prop × PS)
def nx (pc : Nat) (lv : LV) (st : List Value) (σ : Sg) : Res := some ([], pc, lv, st, σ)
def cx (c : Prop) (pc : Nat) (lv : LV) (st : List Value) (σ : Sg) : Res := some ([c], pc, lv, st, σ)
def xld (v : Option Value) (pc : Nat) (lv : LV) (st : List Value) (σ : Sg) : Res := match v with
  | some w => nx pc lv (w :: st) σ
  | none => none
def isI : Option Value → Option Value
  | some (.int x) => some (.int x)
  | _ => none
def isJ : Option Value → Option Value
  | some (.long x) => some (.long x)
  | _ => none
def isR : Option Value → Option Value
  | some (.ref x) => some (.ref x)
  | _ => none
def xst (i : Nat) (pc : Nat) (lv : LV) (st : List Value) (σ : Sg) : Res := match st with
  | .int x :: r => nx pc (lset1 lv i (.int x)) r σ
  | _ => none
def xsta (i : Nat) (pc : Nat) (lv : LV) (st : List Value) (σ : Sg) : Res := match st with
  | .ref x :: r => nx pc (lset1 lv i (.ref x)) r σ
  | _ => none
def xstl (i : Nat) (pc : Nat) (lv : LV) (st : List Value) (σ : Sg) : Res := match st with
  | .long x :: r => nx pc (lset2 lv i (.long x)) r σ
  | _ => none
def x2i (f : Int32 → Int32 → Int32) (pc : Nat) (lv : LV) (st : List Value) (σ : Sg) : Res := match st with
  | .int y :: .int x :: r => nx pc lv (.int (f x y) :: r) σ
  | _ => none
def x2ic (f : Int32 → Int32 → Int32) (pc : Nat) (lv : LV) (st : List Value) (σ : Sg) : Res := match st with
  | .int y :: .int x :: r => cx (¬ y = 0) pc lv (.int (f x y) :: r) σ
  | _ => none
def x2l (f : Int64 → Int64 → Int64) (pc : Nat) (lv : LV) (st : List Value) (σ : Sg) : Res := match st with
  | .long y :: .long x :: r => nx pc lv (.long (f x y) :: r) σ
  | _ => none
def x2lc (f : Int64 → Int64 → Int64) (pc : Nat) (lv : LV) (st : List Value) (σ : Sg) : Res := match st with
  | .long y :: .long x :: r => cx (¬ y = 0) pc lv (.long (f x y) :: r) σ
  | _ => none
def xif (f : Int32 → Nat) (lv : LV) (st : List Value) (σ : Sg) : Res := match st with
  | .int x :: r => nx (f x) lv r σ
  | _ => none
def xif2 (f : Int32 → Int32 → Nat) (lv : LV) (st : List Value) (σ : Sg) : Res := match st with
  | .int y :: .int x :: r => nx (f x y) lv r σ
  | _ => none
def iush (x y : Int32) : Int32 := (x.toUInt32 >>> (y.toUInt32 &&& Int32.toUInt32 31)).toInt32
def lush (x : Int64) (y : Int32) : Int64 := (x.toUInt64 >>> (y.toInt64.toUInt64 &&& Int64.toUInt64 63)).toInt64
def irm (x y : Int32) : Int32 := x - x / y * y
def lrm (x y : Int64) : Int64 := x - x / y * y
def iabs (x : Int32) : Int32 := if 0 ≤ x then x else 0 - x
def labs (x : Int64) : Int64 := if 0 < x then x else -x
def imax (x y : Int32) : Int32 := if x < y then y else x
def imin (x y : Int32) : Int32 := if y < x then y else x
/-- what one instruction does, and on what conditions; none: nothing is said -/
def exec1 (X : RO) (e : Ent) (lv : LV) (st : List Value) (σ : Sg) : Res :=
  match e with
  | (pc, ins, len, a, b, d, zs) =>
  match ins with
  | .iload i => xld (isI (lget lv i)) (pc + len) lv st σ
  | .iload_n k => xld (isI (lget lv k.val)) (pc + len) lv st σ
  | .lload i => xld (isJ (lget lv i)) (pc + len) lv st σ
  | .lload_n k => xld (isJ (lget lv k.val)) (pc + len) lv st σ
  | .aload i => xld (isR (lget lv i)) (pc + len) lv st σ
  | .aload_n k => xld (isR (lget lv k.val)) (pc + len) lv st σ
  | .istore i => xst i (pc + len) lv st σ
  | .istore_n k => xst k.val (pc + len) lv st σ
  | .lstore i => xstl i (pc + len) lv st σ
  | .lstore_n k => xstl k.val (pc + len) lv st σ
  | .astore i => xsta i (pc + len) lv st σ
  | .astore_n k => xsta k.val (pc + len) lv st σ
  | .iinc i n => (match lget lv i with
    | some (.int x) => nx (pc + len) (lset1 lv i (.int (x + Int32.ofInt n))) st σ
    | _ => none)
  | .iconst n => nx (pc + len) lv (.int (Int32.ofInt n) :: st) σ
  | .bipush n => nx (pc + len) lv (.int (Int32.ofInt n) :: st) σ
  | .sipush n => nx (pc + len) lv (.int (Int32.ofInt n) :: st) σ
  | .ldc _ => (match zs with
    | z :: _ => nx (pc + len) lv (.int (Int32.ofInt z) :: st) σ
    | _ => none)
  | .ldc_w _ => (match zs with
    | z :: _ => nx (pc + len) lv (.int (Int32.ofInt z) :: st) σ
    | _ => none)
  | .ldc2_w _ => (match zs with
    | z :: _ => nx (pc + len) lv (.long (Int64.ofInt z) :: st) σ
    | _ => none)
  | .lconst n => nx (pc + len) lv (.long (Int64.ofNat n.val) :: st) σ
  | .iadd => x2i (fun x y => x + y) (pc + len) lv st σ
  | .isub => x2i (fun x y => x - y) (pc + len) lv st σ
  | .imul => x2i (fun x y => x * y) (pc + len) lv st σ
  | .iand => x2i (fun x y => x &&& y) (pc + len) lv st σ
  | .ior => x2i (fun x y => x ||| y) (pc + len) lv st σ
  | .ixor => x2i (fun x y => x ^^^ y) (pc + len) lv st σ
  | .ishl => x2i (fun x y => x <<< (y &&& 31)) (pc + len) lv st σ
  | .ishr => x2i (fun x y => x >>> (y &&& 31)) (pc + len) lv st σ
  | .iushr => x2i iush (pc + len) lv st σ
  | .idiv => x2ic (fun x y => x / y) (pc + len) lv st σ
  | .irem => x2ic irm (pc + len) lv st σ
  | .ineg => (match st with
    | .int x :: r => nx (pc + len) lv (.int (-x) :: r) σ
    | _ => none)
  | .ladd => x2l (fun x y => x + y) (pc + len) lv st σ
  | .lsub => x2l (fun x y => x - y) (pc + len) lv st σ
  | .lmul => x2l (fun x y => x * y) (pc + len) lv st σ
  | .ldiv => x2lc (fun x y => x / y) (pc + len) lv st σ
  | .lrem => x2lc lrm (pc + len) lv st σ
  | .lneg => (match st with
    | .long x :: r => nx (pc + len) lv (.long (-x) :: r) σ
    | _ => none)
  | .lushr => (match st with
    | .int y :: .long x :: r => nx (pc + len) lv (.long (lush x y) :: r) σ
    | _ => none)
  | .lcmp => (match st with
    | .long y :: .long x :: r => nx (pc + len) lv (.int (lg_cmp x y) :: r) σ
    | _ => none)
  | .i2l => (match st with
    | .int x :: r => nx (pc + len) lv (.long x.toInt64 :: r) σ
    | _ => none)
  | .l2i => (match st with
    | .long x :: r => nx (pc + len) lv (.int x.toInt32 :: r) σ
    | _ => none)
  | .ifCond .eq _ => xif (fun x => if x = 0 then a else pc + 3) lv st σ
  | .ifCond .ne _ => xif (fun x => if ¬ x = 0 then a else pc + 3) lv st σ
  | .ifCond .lt _ => xif (fun x => if x < 0 then a else pc + 3) lv st σ
  | .ifCond .ge _ => xif (fun x => if 0 ≤ x then a else pc + 3) lv st σ
  | .ifCond .gt _ => xif (fun x => if 0 < x then a else pc + 3) lv st σ
  | .ifCond .le _ => xif (fun x => if x ≤ 0 then a else pc + 3) lv st σ
  | .if_icmp .eq _ => xif2 (fun x y => if x = y then a else pc + 3) lv st σ
  | .if_icmp .ne _ => xif2 (fun x y => if ¬ x = y then a else pc + 3) lv st σ
  | .if_icmp .lt _ => xif2 (fun x y => if x < y then a else pc + 3) lv st σ
  | .if_icmp .ge _ => xif2 (fun x y => if y ≤ x then a else pc + 3) lv st σ
  | .if_icmp .gt _ => xif2 (fun x y => if y < x then a else pc + 3) lv st σ
  | .if_icmp .le _ => xif2 (fun x y => if x ≤ y then a else pc + 3) lv st σ
  | .goto _ => nx a lv st σ
  | .tableswitch _ lo _ _ => xif (fun x => swt x a lo zs) lv st σ
  | .dup => (match st with
    | v :: r => cx (v.category = 1) (pc + len) lv (v :: v :: r) σ
    | _ => none)
  | .dup2 => (match st with
    | v :: w :: r => cx (v.category = 1 ∧ w.category = 1) (pc + len) lv (v :: w :: v :: w :: r) σ
    | _ => none)
  | .iaload => (match st with
    | .int i :: .ref c :: r => bif d == 0 then cx (ck c = 0 ∧ vp_in i (al c)) (pc + len) lv (.int (σ.1 c i.toNatClampNeg) :: r) σ
        else bif d == 1 then cx ((1000 ≤ c ∧ c < 1005) ∧ vp_in i (sn c)) (pc + len) lv (.int (sv c i.toNatClampNeg) :: r) σ
        else (match X with
          | some x => cx (c = 2000 ∧ vp_in i x.1) (pc + len) lv (.int (x.2 i.toNatClampNeg) :: r) σ
          | none => none)
    | _ => none)
  | .laload => (match st with
    | .int i :: .ref c :: r => cx (ck c = 1 ∧ vp_in i (al c)) (pc + len) lv (.long (σ.2 c i.toNatClampNeg) :: r) σ
    | _ => none)
  | .baload => (match st with
    | .int i :: .ref c :: r => cx (ck c = 2 ∧ vp_in i (al c)) (pc + len) lv (.int (σ.1 c i.toNatClampNeg) :: r) σ
    | _ => none)
  | .aaload => (match st with
    | .int i :: .ref c :: r => cx ((ck c = 3 ∨ ck c = 4) ∧ vp_in i (al c)) (pc + len) lv (.ref (c + 1 + i.toNatClampNeg) :: r) σ
    | _ => none)
  | .iastore => (match st with
    | .int x :: .int i :: .ref c :: r => cx (ck c = 0 ∧ vp_in i (al c)) (pc + len) lv r (si σ c i.toNatClampNeg x)
    | _ => none)
  | .lastore => (match st with
    | .long x :: .int i :: .ref c :: r => cx (ck c = 1 ∧ vp_in i (al c)) (pc + len) lv r (sl σ c i.toNatClampNeg x)
    | _ => none)
  | .bastore => (match st with
    | .int x :: .int i :: .ref c :: r => cx (ck c = 2 ∧ vp_in i (al c)) (pc + len) lv r (si σ c i.toNatClampNeg (x &&& 1))
    | _ => none)
  | .arraylength => (match st with
    | .ref c :: r => bif d == 0 then cx (ck c < 5) (pc + len) lv (.int (Int32.ofNat (al c)) :: r) σ
        else bif d == 1 then cx (1000 ≤ c ∧ c < 1005) (pc + len) lv (.int (Int32.ofNat (sn c)) :: r) σ
        else (match X with
          | some x => cx (c = 2000) (pc + len) lv (.int (Int32.ofNat x.1) :: r) σ
          | none => none)
    | _ => none)
  | .getfield _ => (match st with
    | .ref c :: r => bif d == 1 then cx (ck c = 5 + a) (pc + len) lv (.long (σ.2 c b) :: r) σ
        else bif d == 2 then cx (ck c = 5 + a) (pc + len) lv (.ref (rf c b) :: r) σ
        else cx (ck c = 5 + a) (pc + len) lv (.int (σ.1 c b) :: r) σ
    | _ => none)
  | .putfield _ => (match st with
    | .int x :: .ref c :: r => bif d == 0 then cx (ck c = 5 + a) (pc + len) lv r (si σ c b x)
        else bif d == 3 then cx (ck c = 5 + a ∧ nb x) (pc + len) lv r (si σ c b x) else none
    | .long x :: .ref c :: r => bif d == 1 then cx (ck c = 5 + a) (pc + len) lv r (sl σ c b x) else none
    | _ => none)
  | .getstatic _ => nx (pc + len) lv (.ref a :: st) σ
  | .invokestatic _ => bif d == 7 then (match st with
      | .int n :: .int dp :: .ref c1 :: .int sp :: .ref c0 :: r => cx ((ck c0 = 0 ∧ ck c1 = 0 ∧ (r.map fun v => v.category).sum ≤ 8) ∧ (¬ sp < 0 ∧ ¬ dp < 0 ∧ ¬ n < 0) ∧ sp.toNatClampNeg + n.toNatClampNeg ≤ al c0 ∧ dp.toNatClampNeg + n.toNatClampNeg ≤ al c1) (pc + len) lv r (scp σ c0 c1 sp.toNatClampNeg dp.toNatClampNeg n.toNatClampNeg)
      | _ => none)
    else bif d == 8 then (match st with
      | .int x :: r => cx ((r.map fun v => v.category).sum ≤ 8) (pc + len) lv (.int (iabs x) :: r) σ
      | _ => none)
    else bif d == 9 then (match st with
      | .long x :: r => cx ((r.map fun v => v.category).sum ≤ 8) (pc + len) lv (.long (labs x) :: r) σ
      | _ => none)
    else bif d == 10 then (match st with
      | .int y :: .int x :: r => cx ((r.map fun v => v.category).sum ≤ 8) (pc + len) lv (.int (imax x y) :: r) σ
      | _ => none)
    else bif d == 11 then (match st with
      | .int y :: .int x :: r => cx ((r.map fun v => v.category).sum ≤ 8) (pc + len) lv (.int (imin x y) :: r) σ
      | _ => none)
    else none
  | _ => none
/-- a row of instructions, one behind the other -/
def blk (X : RO) : List Ent → PS → Res
  | [], s => some ([], s)
  | e :: l, (pc, lv, st, σ) => bif e.1 == pc then
      (match exec1 X e lv st σ with
      | none => none
      | some (c1, s1) => (match blk X l s1 with
        | none => none
        | some (c2, s2) => some (c1 ++ c2, s2)))
    else none
/-- what a return gives back, and on what condition (a = 1: a boolean) -/
def retv (e : Ent) (st : List Value) : Option (Prop × Option Value) :=
  match e with
  | (_, ins, _, a, _, _, _) =>
  match ins with
  | .ireturn => (match st with
    | [.int x] => bif a == 1 then some (nb x, some (.int x)) else some (True, some (.int x))
    | _ => none)
  | .lreturn => (match st with
    | [.long x] => some (True, some (.long x))
    | _ => none)
  | .areturn => (match st with
    | [.ref x] => some (True, some (.ref x))
    | _ => none)
  | .return_ => (match st with
    | [] => some (True, none)
    | _ => none)
  | _ => none
/-- the arguments of a call (the object first), what is left, on what condition: n values; k: the object's class, 0 for a static one -/
def popn : Nat → List Value → List Value → Option (List Value × List Value)
  | 0, acc, st => some (acc, st)
  | n + 1, acc, v :: st => popn n (v :: acc) st
  | _ + 1, _, [] => none
def icall (e : Ent) (st : List Value) : Option (Prop × List Value × List Value) :=
  match e with
  | (_, ins, _, _, b, d, _) =>
  match ins with
  | .invokestatic _ => bif Nat.blt 6 d then none else (match popn b [] st with
    | some (as, r) => some ((r.map fun v => v.category).sum ≤ 8, as, r)
    | none => none)
  | .invokevirtual _ => (match popn b [] st with
    | some (as, .ref c :: r) => some (ck c = 5 + d ∧ (r.map fun v => v.category).sum ≤ 8, .ref c :: as, r)
    | _ => none)
  | _ => none
abbrev Env1 : Type := Nat → List Value → Sg → (Option Value → Sg → Prop) → Prop
/-- from here the method returns, with Q; G: what its calls do; cs: its rows -/
def Rch (X : RO) (G : Env1) (cs : List (List Ent)) (Q : Option Value → Sg → Prop) : Nat → PS → Prop
  | 0, _ => False
  | n + 1, (pc, lv, st, σ) =>
    (∃ (k : Nat) (l : List Ent) (c : List Prop) (s2 : PS), cs[k]? = some l ∧ blk X l (pc, lv, st, σ) = some (c, s2) ∧ conj c ∧ Rch X G cs Q n s2) ∨
    (∃ (ks : List Nat) (lv2 : LV), lv_pick lv ks = lv2 ∧ Rch X G cs Q n (pc, lv2, st, σ)) ∨
    (∃ (k : Nat) (e : Ent) (c : Prop) (as r : List Value), cs[k]? = some [e] ∧ e.1 = pc ∧ icall e st = some (c, as, r) ∧ c ∧ G e.2.2.2.1 as σ (fun v σ2 => Rch X G cs Q n (pc + 3, lv, v.toList ++ r, σ2))) ∨
    (∃ (k : Nat) (e : Ent) (c : Prop) (v : Option Value), cs[k]? = some [e] ∧ e.1 = pc ∧ retv e st = some (c, v) ∧ c ∧ Q v σ)
theorem Rch.mono {X : RO} {G G2 : Env1} {cs : List (List Ent)} {Q Q2 : Option Value → Sg → Prop} (hQ : ∀ v σ, Q v σ → Q2 v σ) (hG : ∀ m as σ P P2, (∀ v σ, P v σ → P2 v σ) → G m as σ P → G2 m as σ P2) : ∀ (n : Nat) (s : PS), Rch X G cs Q n s → Rch X G2 cs Q2 n s := by
  intro n
  induction n with
  | zero => intro s h; exact h.elim
  | succ n ih =>
    intro s h
    obtain ⟨pc, lv, st, σ⟩ := s
    rcases h with ⟨k, l, c, s2, h1, h2, h3, h4⟩ | ⟨ks, lv2, h1, h2⟩ | ⟨k, e, c, as, r, h1, h2, h3, h4, h5⟩ | ⟨k, e, c, v, h1, h2, h3, h4, h5⟩
    · exact Or.inl ⟨k, l, c, s2, h1, h2, h3, ih _ h4⟩
    · exact Or.inr (Or.inl ⟨ks, lv2, h1, ih _ h2⟩)
    · exact Or.inr (Or.inr (Or.inl ⟨k, e, c, as, r, h1, h2, h3, h4, hG _ _ _ _ _ (fun v σ2 h => ih _ h) h5⟩))
    · exact Or.inr (Or.inr (Or.inr ⟨k, e, c, v, h1, h2, h3, h4, hQ _ _ h5⟩))
theorem Rch.up {X : RO} {G : Env1} {cs : List (List Ent)} {Q : Option Value → Sg → Prop} (hG : ∀ m as σ P P2, (∀ v σ, P v σ → P2 v σ) → G m as σ P → G m as σ P2) : ∀ (n : Nat) (s : PS), Rch X G cs Q n s → Rch X G cs Q (n + 1) s := by
  intro n
  induction n with
  | zero => intro s h; exact h.elim
  | succ n ih =>
    intro s h
    obtain ⟨pc, lv, st, σ⟩ := s
    rcases h with ⟨k, l, c, s2, h1, h2, h3, h4⟩ | ⟨ks, lv2, h1, h2⟩ | ⟨k, e, c, as, r, h1, h2, h3, h4, h5⟩ | ⟨k, e, c, v, h1, h2, h3, h4, h5⟩
    · exact Or.inl ⟨k, l, c, s2, h1, h2, h3, ih _ h4⟩
    · exact Or.inr (Or.inl ⟨ks, lv2, h1, ih _ h2⟩)
    · exact Or.inr (Or.inr (Or.inl ⟨k, e, c, as, r, h1, h2, h3, h4, hG _ _ _ _ _ (fun v σ2 h => ih _ h) h5⟩))
    · exact Or.inr (Or.inr (Or.inr ⟨k, e, c, v, h1, h2, h3, h4, h5⟩))
/-- somehow, in some number of steps -/
def Rc (X : RO) (G : Env1) (cs : List (List Ent)) (s : PS) (Q : Option Value → Sg → Prop) : Prop := ∃ n, Rch X G cs Q n s
theorem Rc.blk {X : RO} {G : Env1} {cs : List (List Ent)} {Q : Option Value → Sg → Prop} {pc : Nat} {lv : LV} {st : List Value} {σ : Sg} (k : Nat) {l : List Ent} {c : List Prop} {s2 : PS} (h1 : cs[k]? = some l) (h2 : blk X l (pc, lv, st, σ) = some (c, s2)) (h3 : conj c) (h4 : Rc X G cs s2 Q) : Rc X G cs (pc, lv, st, σ) Q := by
  obtain ⟨n, h⟩ := h4
  exact ⟨n + 1, Or.inl ⟨k, l, c, s2, h1, h2, h3, h⟩⟩
theorem Rc.pick {X : RO} {G : Env1} {cs : List (List Ent)} {Q : Option Value → Sg → Prop} {pc : Nat} {lv lv2 : LV} {st : List Value} {σ : Sg} (ks : List Nat) (h1 : lv_pick lv ks = lv2) (h2 : Rc X G cs (pc, lv2, st, σ) Q) : Rc X G cs (pc, lv, st, σ) Q := by
  obtain ⟨n, h⟩ := h2
  exact ⟨n + 1, Or.inr (Or.inl ⟨ks, lv2, h1, h⟩)⟩
theorem Rc.ret {X : RO} {G : Env1} {cs : List (List Ent)} {Q : Option Value → Sg → Prop} {pc : Nat} {lv : LV} {st : List Value} {σ : Sg} (k : Nat) {e : Ent} {c : Prop} {v : Option Value} (h1 : cs[k]? = some [e]) (h2 : e.1 = pc) (h3 : retv e st = some (c, v)) (h4 : c) (h5 : Q v σ) : Rc X G cs (pc, lv, st, σ) Q := ⟨1, Or.inr (Or.inr (Or.inr ⟨k, e, c, v, h1, h2, h3, h4, h5⟩))⟩
/-- a call whose answer is known -/
theorem Rc.call {X : RO} {G : Env1} {cs : List (List Ent)} {Q : Option Value → Sg → Prop} (hG : ∀ m as σ P P2, (∀ v σ, P v σ → P2 v σ) → G m as σ P → G m as σ P2) {pc : Nat} {lv : LV} {st : List Value} {σ : Sg} (k : Nat) {e : Ent} {c : Prop} {as r : List Value} {mi : Nat} {v : Option Value} {σ2 : Sg} (h1 : cs[k]? = some [e]) (h2 : e.1 = pc) (hm : e.2.2.2.1 = mi) (h3 : icall e st = some (c, as, r)) (h4 : c) (h5 : G mi as σ (fun v' σ' => v' = v ∧ σ' = σ2)) (h6 : Rc X G cs (pc + 3, lv, v.toList ++ r, σ2) Q) : Rc X G cs (pc, lv, st, σ) Q := by
  obtain ⟨n, h⟩ := h6
  subst hm
  exact ⟨n + 1, Or.inr (Or.inr (Or.inl ⟨k, e, c, as, r, h1, h2, h3, h4, hG _ _ _ _ _ (fun v' σ' hh => by obtain ⟨rfl, rfl⟩ := hh; exact h) h5⟩))⟩
end
section
/-! ===== the small machine's store as a world of cells ===== -/
def TB : List Cond := lw_tbl.filter goodWord
theorem tb_good {w : Cond} (h : w ∈ TB) : w ∈ lw_tbl ∧ goodWord w = true := by
  simpa [TB, List.mem_filter] using h
theorem tb_at (i : Nat) {w : Cond} (h : lw_tbl[i]? = some w) (g : goodWord w = true) : w ∈ TB := List.mem_filter.mpr ⟨List.mem_of_getElem? h, g⟩
theorem tb_p (i : Nat) {w : Cond} (h : (k2_sels lw_privs)[i]? = some w) (g : goodWord w = true) : w ∈ TB := List.mem_filter.mpr ⟨List.mem_append_left _ (List.mem_of_getElem? h), g⟩
theorem lw_1 (i : Nat) {w : Cond} (h : tables_1_1[i]? = some w) : w ∈ lw_tbl := List.mem_append_right _ (List.mem_append_left _ (List.mem_of_getElem? h))
theorem lw_2 (i : Nat) {w : Cond} (h : tables_1_2[i]? = some w) : w ∈ lw_tbl := List.mem_append_right _ (List.mem_append_right _ (List.mem_append_left _ (List.mem_of_getElem? h)))
theorem lw_3 (i : Nat) {w : Cond} (h : tables_1_3[i]? = some w) : w ∈ lw_tbl := List.mem_append_right _ (List.mem_append_right _ (List.mem_append_right _ (List.mem_append_left _ (List.mem_of_getElem? h))))
theorem lw_4 (i : Nat) {w : Cond} (h : tables_1_4[i]? = some w) : w ∈ lw_tbl := List.mem_append_right _ (List.mem_append_right _ (List.mem_append_right _ (List.mem_append_right _ (List.mem_append_left _ (List.mem_of_getElem? h)))))
theorem lw_5 (i : Nat) {w : Cond} (h : tables_1_5[i]? = some w) : w ∈ lw_tbl := List.mem_append_right _ (List.mem_append_right _ (List.mem_append_right _ (List.mem_append_right _ (List.mem_append_right _ (List.mem_append_left _ (List.mem_of_getElem? h))))))
theorem lw_6 (i : Nat) {w : Cond} (h : tables_1_6[i]? = some w) : w ∈ lw_tbl := List.mem_append_right _ (List.mem_append_right _ (List.mem_append_right _ (List.mem_append_right _ (List.mem_append_right _ (List.mem_append_right _ (List.mem_of_getElem? h))))))
theorem tb_1 (i : Nat) {w : Cond} (h : tables_1_1[i]? = some w) (g : goodWord w = true) : w ∈ TB := List.mem_filter.mpr ⟨lw_1 i h, g⟩
theorem tb_2 (i : Nat) {w : Cond} (h : tables_1_2[i]? = some w) (g : goodWord w = true) : w ∈ TB := List.mem_filter.mpr ⟨lw_2 i h, g⟩
theorem tb_3 (i : Nat) {w : Cond} (h : tables_1_3[i]? = some w) (g : goodWord w = true) : w ∈ TB := List.mem_filter.mpr ⟨lw_3 i h, g⟩
theorem tb_4 (i : Nat) {w : Cond} (h : tables_1_4[i]? = some w) (g : goodWord w = true) : w ∈ TB := List.mem_filter.mpr ⟨lw_4 i h, g⟩
theorem tb_5 (i : Nat) {w : Cond} (h : tables_1_5[i]? = some w) (g : goodWord w = true) : w ∈ TB := List.mem_filter.mpr ⟨lw_5 i h, g⟩
theorem tb_6 (i : Nat) {w : Cond} (h : tables_1_6[i]? = some w) (g : goodWord w = true) : w ∈ TB := List.mem_filter.mpr ⟨lw_6 i h, g⟩
theorem tb_goodIn {w : Cond} (h : w ∈ TB) : GoodIn TB (w :: TB) := by
  intro v hv
  rcases List.mem_cons.mp hv with rfl | hv
  · exact ⟨h, good_of_word (tb_good h).2⟩
  · exact ⟨hv, good_of_word (tb_good hv).2⟩
def enc (ad : Nat → Nat) : Value → Value
  | .ref k => .ref (ad k)
  | .int x => .int x
  | .long x => .long x
  | .float x => .float x
  | .double x => .double x
  | .null => .null
  | .retAddr x => .retAddr x
def elv (ad : Nat → Nat) (lv : LV) : LV := lv.map fun q => (q.1, enc ad q.2)
def est (ad : Nat → Nat) (st : List Value) : List Value := st.map (enc ad)
theorem enc_cat (ad : Nat → Nat) (v : Value) : (enc ad v).category = v.category := by cases v <;> rfl
theorem est_cat (ad : Nat → Nat) (st : List Value) : ((est ad st).map fun v => v.category).sum = (st.map fun v => v.category).sum := by
  simp [est, Function.comp_def, enc_cat]
theorem elv_lset1 (ad : Nat → Nat) (lv : LV) (i : Nat) (v : Value) : (i, enc ad v) :: (elv ad lv).filter (fun q => !(q.1 == i) && !(q.1 + 1 == i && q.2.category == 2)) = elv ad (lset1 lv i v) := by
  simp [elv, lset1, List.filter_map, Function.comp_def, enc_cat]
theorem elv_lset2 (ad : Nat → Nat) (lv : LV) (i : Nat) (v : Value) : (i, enc ad v) :: (elv ad lv).filter (fun q => !(q.1 == i) && (!(q.1 == i + 1) && !(q.1 + 1 == i && q.2.category == 2))) = elv ad (lset2 lv i v) := by
  simp [elv, lset2, List.filter_map, Function.comp_def, enc_cat]
theorem lget_mem : ∀ {lv : LV} {i : Nat} {v : Value}, lget lv i = some v → (i, v) ∈ lv
  | [], _, _, h => by cases h
  | (j, w) :: r, i, v, h => by
    unfold lget at h
    by_cases hj : j = i
    · subst hj
      simp at h
      rw [h]
      exact List.mem_cons_self
    · have hb : (j == i) = false := by simpa using hj
      rw [hb] at h
      exact List.mem_cons_of_mem _ (lget_mem h)
theorem lget_has {ad : Nat → Nat} {ls : Array Slot} {nL : Nat} {lv : LV} {i : Nat} {v : Value} (h : lv_has ls nL (elv ad lv)) (hg : lget lv i = some v) : ls[i]? = some (.val (enc ad v)) := h.2.2 (i, enc ad v) (List.mem_map.mpr ⟨(i, v), lget_mem hg, rfl⟩)
theorem elv_pick {ad : Nat → Nat} {ls : Array Slot} {nL : Nat} {lv : LV} (ks : List Nat) (h : lv_has ls nL (elv ad lv)) : lv_has ls nL (elv ad (lv_pick lv ks)) := by
  refine lv_sub h ks ?_
  induction ks with
  | nil => rfl
  | cons k ks ih =>
    unfold lv_pick at ih ⊢
    unfold elv at ih ⊢
    simp only [List.filterMap_cons, List.getElem?_map]
    cases lv[k]? with
    | none => simpa using ih
    | some q => simpa using ih
theorem elv_idx {ad : Nat → Nat} {lv : LV} {i : Nat} {v : Value} (h : lget lv i = some v) : ∃ k : Nat, (elv ad lv)[k]? = some (i, enc ad v) := by
  have h1 : (i, enc ad v) ∈ elv ad lv := List.mem_map.mpr ⟨(i, v), lget_mem h, rfl⟩
  obtain ⟨k, hk, e⟩ := List.getElem_of_mem h1
  exact ⟨k, by rw [List.getElem?_eq_getElem hk, e]⟩
/-! the world -/
def fvl (ad : Nat → Nat) (σ : Sg) (ci k j : Nat) : Value := match ft ci j with
  | 1 => .long (σ.2 k j)
  | 2 => .ref (ad (rf k j))
  | _ => .int (σ.1 k j)
def cel (tc : Nat → ClassId) (ad : Nat → Nat) (σ : Sg) (k : Nat) : va_E := match ck k with
  | 0 => .inl (tc 0, al k, .inl (σ.1 k))
  | 1 => .inl (tc 1, al k, .inr (.inl (σ.2 k)))
  | 2 => .inl (tc 2, al k, .inl (σ.1 k))
  | 3 => .inl (tc 3, al k, .inr (.inr (.inr (.inr fun j => some (ad (k + 1 + j))))))
  | 4 => .inl (tc 4, al k, .inr (.inr (.inr (.inr fun j => some (ad (k + 1 + j))))))
  | n + 5 => .inr (n, (List.range (nf n)).map (fvl ad σ n k))
def tys (tc : Nat → ClassId) : List (ClassId × FieldType) := [(tc 0, .int), (tc 1, .long), (tc 2, .boolean), (tc 3, .array .int), (tc 4, .array .long)]
def wld (tc : Nat → ClassId) (ad : Nat → Nat) (σ : Sg) : va_W := (List.range NC).map fun k => (ad k, cel tc ad σ k)
def inA (ad : Nat → Nat) (q : Nat) : Prop := ∃ k, k < NC ∧ q = ad k
theorem ck_lt {c n : Nat} (h : ck c = n) (hn : n ≠ 99) : c < NC := by
  have h1 : ckL.length = NC := by decide +kernel
  rw [← h1]
  rcases Nat.lt_or_ge c ckL.length with q | q
  · exact q
  · refine absurd ?_ hn
    rw [← h]
    unfold ck
    simp [List.getD, List.getElem?_eq_none q]
theorem wld_get {tc : Nat → ClassId} {ad : Nat → Nat} {σ : Sg} {k : Nat} (h : k < NC) : (wld tc ad σ)[k]? = some (ad k, cel tc ad σ k) := by
  unfold wld
  rw [List.getElem?_map, List.getElem?_range h]
  rfl
theorem wld_set {tc : Nat → ClassId} {ad : Nat → Nat} {σ σ2 : Sg} {k : Nat} (h : k < NC) (hs : ∀ j, j ≠ k → cel tc ad σ2 j = cel tc ad σ j) : (wld tc ad σ).set k (ad k, cel tc ad σ2 k) = wld tc ad σ2 := by
  refine List.ext_getElem? fun i => ?_
  rw [List.getElem?_set]
  by_cases hk : k = i
  · subst hk
    rw [if_pos rfl, wld_get h]
    simp [wld, h]
  · rw [if_neg hk]
    rcases Nat.lt_or_ge i NC with q | q
    · rw [wld_get q, wld_get q, hs i (fun z => hk z.symm)]
    · rw [List.getElem?_eq_none (by simp [wld]; exact q), List.getElem?_eq_none (by simp [wld]; exact q)]
theorem cel_si {tc : Nat → ClassId} {ad : Nat → Nat} {σ : Sg} {c j k : Nat} {x : Int32} (h : k ≠ c) : cel tc ad (si σ c j x) k = cel tc ad σ k := by
  have e : fvl ad (si σ c j x) = fun ci k' => if k' = k then fvl ad σ ci k' else fvl ad (si σ c j x) ci k' := by
    funext ci k' j'
    by_cases hk : k' = k
    · rw [if_pos hk]
      subst hk
      unfold fvl si
      simp [h]
    · rw [if_neg hk]
  unfold cel
  rw [e]
  simp [si, h]
theorem cel_sl {tc : Nat → ClassId} {ad : Nat → Nat} {σ : Sg} {c j k : Nat} {x : Int64} (h : k ≠ c) : cel tc ad (sl σ c j x) k = cel tc ad σ k := by
  have e : fvl ad (sl σ c j x) = fun ci k' => if k' = k then fvl ad σ ci k' else fvl ad (sl σ c j x) ci k' := by
    funext ci k' j'
    by_cases hk : k' = k
    · rw [if_pos hk]
      subst hk
      unfold fvl sl
      simp [h]
    · rw [if_neg hk]
  unfold cel
  rw [e]
  simp [sl, h]
theorem cel_scp {tc : Nat → ClassId} {ad : Nat → Nat} {σ : Sg} {c0 c sp dp n k : Nat} (h : k ≠ c) : cel tc ad (scp σ c0 c sp dp n) k = cel tc ad σ k := by
  have e : fvl ad (scp σ c0 c sp dp n) = fun ci k' => if k' = k then fvl ad σ ci k' else fvl ad (scp σ c0 c sp dp n) ci k' := by
    funext ci k' j'
    by_cases hk : k' = k
    · rw [if_pos hk]
      subst hk
      unfold fvl scp
      simp [h]
    · rw [if_neg hk]
  unfold cel
  rw [e]
  simp [scp, h]
theorem wld_D {tc : Nat → ClassId} {ad : Nat → Nat} {A : Nat → Prop} (hi : ∀ i j, i < NC → j < NC → ad i = ad j → i = j) (hA : ∀ q, inA ad q → A q) (σ : Sg) : va_D A (wld tc ad σ) := by
  have key : ∀ (i : Nat) (p : Nat × va_E), (wld tc ad σ)[i]? = some p → i < NC ∧ p.1 = ad i := by
    intro i p h
    have hl : i < NC := by
      have := (List.getElem?_eq_some_iff.mp h).1
      simpa [wld] using this
    rw [wld_get hl] at h
    cases h
    exact ⟨hl, rfl⟩
  refine ⟨fun i j p q hp hq e => ?_, fun k q hk => ?_⟩
  · obtain ⟨a1, a2⟩ := key i p hp
    obtain ⟨b1, b2⟩ := key j q hq
    exact hi i j a1 b1 (by rw [← a2, ← b2]; exact e)
  · obtain ⟨a1, a2⟩ := key k q hk
    exact hA _ ⟨k, a1, a2⟩
/-- the static arrays, as the Statement has them -/
def Stc (A : Nat → Prop) (ad : Nat → Nat) (U : State) (H : Heap) : Prop := ∀ i, i < 5 → va_Z "PureGroups" (sq (1000 + i)).1 "[I" (.ref (ad (1000 + i))) A U H ∧ va_T .int (ad (1000 + i)) (sn (1000 + i)) (fun j => .int (sv (1000 + i) j)) A U H
theorem Stc.moved {A : Nat → Prop} {ad : Nat → Nat} {u U : State} {H : Heap} (hvm : u.vm.Alike U.vm) (h : Stc A ad u H) : Stc A ad U H := fun i hi => ⟨(h i hi).1.moved hvm, (h i hi).2.moved hvm⟩
theorem Stc.narrow {A B : Nat → Prop} {ad : Nat → Nat} {U : State} {H : Heap} (h : Stc A ad U H) (hAB : ∀ q, B q → A q) : Stc B ad U H := fun i hi => ⟨(h i hi).1.narrow hAB, (h i hi).2.narrow hAB⟩
theorem Stc.kept {A : Nat → Prop} {ad : Nat → Nat} {U : State} {H H1 : Heap} (h : Stc A ad U H) (hq : ∀ a : Nat, a < H.size → ¬ A a → H1[a]? = H[a]?) : Stc A ad U H1 := fun i hi => ⟨(h i hi).1.kept hq, (h i hi).2.kept hq⟩
/-- links to nest mates: they are carried from state to state -/
def isNst : Cond → Bool
  | .fieldLinkNest _ _ _ _ _ _ => true
  | .methodLinkNest _ _ _ _ => true
  | _ => false
def Nst (U : State) : Prop := ∀ w, w ∈ lw_tbl → isNst w = true → va_Nw w U
theorem Nst.warm {s U : State} (hW : s.WarmedH U.vm) (h : Nst s) : Nst U := by
  intro w hw hn
  have h1 := h w hw hn
  cases w with
  | fieldLinkNest a b c d e f => exact va_Nw.warmF hW h1
  | methodLinkNest a b c d => exact va_Nw.warmM hW h1
  | _ => cases hn
theorem Nst.same {u U : State} (hvm : u.vm = U.vm) (h : Nst u) : Nst U := by
  intro w hw hn
  have h1 := h w hw hn
  cases w with
  | fieldLinkNest a b c d e f => exact va_Nw.same rfl hvm h1
  | methodLinkNest a b c d => exact va_Nw.same rfl hvm h1
  | _ => cases hn
/-! what the tables must say of an instruction -/
abbrev MI : Type := MethodName × ByteArray × Nat × Option FieldType
def ilen : Instr → Nat
  | .iload _ | .lload _ | .aload _ | .istore _ | .lstore _ | .astore _ | .bipush _ | .ldc _ => 2
  | .iinc _ _ | .sipush _ | .ldc_w _ | .ldc2_w _ | .ifCond _ _ | .if_icmp _ _ | .goto _ | .getfield _ | .putfield _ | .getstatic _ | .invokestatic _ | .invokevirtual _ => 3
  | _ => 1
def dty : Nat → FieldType
  | 0 => .int
  | 1 => .long
  | _ => .boolean
def FldOK (own : String) (idx ci k d : Nat) (put : Bool) : Prop := ∃ (C : String) (T : u_T) (N : Nat) (ty0 : Nat → FieldType), cl[ci]? = some (C, T, N) ∧ N = nf ci ∧ k < N ∧ ft ci k = d ∧ (∀ w ∈ u_ws C T N, w ∈ TB) ∧ Cond.fieldLink own idx (T k).1 (T k).2.1 (T k).2.2.1 ∈ TB ∧ (∀ k, k < N → parseFieldDescriptor (T k).2.2.1 = some (ty0 k)) ∧ (∀ a, a < N → ∀ b, b < N → a ≠ b → (T a).2.1 ≠ (T b).2.1) ∧ (put = true → (T k).2.2.2 = false ∧ ty0 k = dty d)
def StaOK (own : String) (idx a : Nat) : Prop := ∃ i, i < 5 ∧ a = 1000 + i ∧ (Cond.fieldLink own idx "PureGroups" (sq a).1 "[I" ∈ TB ∨ ∃ host, Cond.fieldLinkNest own idx "PureGroups" (sq a).1 "[I" host ∈ lw_tbl)
def CalOK (M : Nat → MI) (mid b : Nat) : Prop := (M mid).2.2.1 ≤ 45 ∧ Cond.code (M mid).1 (M mid).2.1 (M mid).2.2.1 (M mid).2.2.2 ∈ TB ∧ Cond.initialized (M mid).1.cls ∈ TB ∧ ((M mid).1.cls ≠ "java/lang/invoke/MethodHandle" ∧ (M mid).1.cls ≠ "java/lang/invoke/VarHandle") ∧ (parseMethodDescriptor (M mid).1.desc).map (fun d => d.parameters.length) = some b
def VirOK (M : Nat → MI) (own : String) (idx mid b d : Nat) : Prop := CalOK M mid b ∧ Cond.methodLink own idx (M mid).1 ∈ TB ∧ Cond.instanceMethod (M mid).1 ∈ TB ∧ Cond.selects (M mid).1.cls (M mid).1 (M mid).1 ∈ TB ∧ ∃ q : vw_C, cl[d]? = some q ∧ q.1 = (M mid).1.cls
def StmOK (M : Nat → MI) (own : String) (idx mid b : Nat) : Prop := CalOK M mid b ∧ (Cond.methodLink own idx (M mid).1 ∈ TB ∨ ∃ host, Cond.methodLinkNest own idx (M mid).1 host ∈ lw_tbl) ∧ Cond.static (M mid).1 ∈ TB
def ArcOK (own : String) (idx : Nat) : Prop := Cond.methodLink own idx arraycopyName ∈ TB ∧ Cond.native arraycopyName ∈ TB ∧ Cond.static arraycopyName ∈ TB ∧ Cond.initialized "java/lang/System" ∈ TB
def MabOK (own : String) (idx : Nat) : Prop := Cond.methodLink own idx Lib.Math.abs.name ∈ TB ∧ Cond.static Lib.Math.abs.name ∈ TB ∧ Cond.initialized "java/lang/Math" ∈ TB ∧ Cond.code Lib.Math.abs.name Lib.Math.abs.code 1 (some .int) ∈ TB
def MalOK (own : String) (idx : Nat) : Prop := Cond.methodLink own idx Lib.MathLoose.abs_long.x ∈ TB ∧ Cond.static Lib.MathLoose.abs_long.x ∈ TB ∧ Cond.initialized "java/lang/Math" ∈ TB ∧ Cond.code Lib.MathLoose.abs_long.x Lib.MathLoose.abs_long.code 2 (some .long) ∈ TB
def MaxOK (own : String) (idx : Nat) : Prop := Cond.methodLink own idx Lib.Math.max.name ∈ TB ∧ Cond.static Lib.Math.max.name ∈ TB ∧ Cond.initialized "java/lang/Math" ∈ TB ∧ Cond.code Lib.Math.max.name Lib.Math.max.code 2 (some .int) ∈ TB
def MinOK (own : String) (idx : Nat) : Prop := Cond.methodLink own idx Lib.Math.min.name ∈ TB ∧ Cond.static Lib.Math.min.name ∈ TB ∧ Cond.initialized "java/lang/Math" ∈ TB ∧ Cond.code Lib.Math.min.name Lib.Math.min.code 2 (some .int) ∈ TB
def SwOK (pc a : Nat) (df lo hi : Int) (offs : Array Int) (zs : List Int) : Prop := (pc : Int) + df = (a : Int) ∧ hi = lo + zs.length - 1 ∧ (-2147483648 ≤ lo ∧ hi ≤ 2147483647) ∧ ∀ i, i < zs.length → ∃ off, offs[i]? = some off ∧ (pc : Int) + off = ((zs.getD i 0).toNat : Int)
def EntOK (M : Nat → MI) (own : String) (cc : ByteArray) (nL : Nat) (e : Ent) : Prop :=
  decode cc e.1 = .ok (e.2.1, e.2.2.1) ∧ (match e with
  | (pc, ins, len, a, b, d, zs) => (match ins with
    | .istore i => i < nL
    | .istore_n k => k.val < nL
    | .astore i => i < nL
    | .astore_n k => k.val < nL
    | .lstore i => i + 1 < nL
    | .lstore_n k => k.val + 1 < nL
    | .iinc i _ => i < nL
    | .bipush n => (Int8.ofInt n).toInt32 = Int32.ofInt n
    | .sipush n => (Int16.ofInt n).toInt32 = Int32.ofInt n
    | .ldc idx => ∃ z r, zs = z :: r ∧ Cond.constant own idx (Int32.ofInt z) ∈ TB
    | .ldc_w idx => ∃ z r, zs = z :: r ∧ Cond.constant own idx (Int32.ofInt z) ∈ TB
    | .ldc2_w idx => ∃ z r, zs = z :: r ∧ Cond.constantLong own idx (Int64.ofInt z) ∈ TB
    | .ifCond _ off => (pc : Int) + off = (a : Int)
    | .if_icmp _ off => (pc : Int) + off = (a : Int)
    | .goto off => (pc : Int) + off = (a : Int)
    | .tableswitch df lo hi offs => SwOK pc a df lo hi offs zs
    | .getfield idx => FldOK own idx a b d false
    | .putfield idx => FldOK own idx a b d true
    | .getstatic idx => StaOK own idx a
    | .invokevirtual idx => VirOK M own idx a b d
    | .invokestatic idx => (d = 7 → ArcOK own idx) ∧ (¬ 6 < d → StmOK M own idx a b) ∧ (d = 8 → MabOK own idx) ∧ (d = 9 → MalOK own idx) ∧ (d = 10 → MaxOK own idx) ∧ (d = 11 → MinOK own idx)
    | _ => True)) ∧ ((∀ a b c d, e.2.1 ≠ .tableswitch a b c d) → e.2.2.1 = ilen e.2.1)
end
section
/-! ===== what the small machine does, the machine does ===== -/
theorem nx_inv {q : Nat} {lv : LV} {st : List Value} {σ : Sg} {cs : List Prop} {pc2 : Nat} {lv2 : LV} {st2 : List Value} {σ2 : Sg} (h : nx q lv st σ = some (cs, pc2, lv2, st2, σ2)) : pc2 = q ∧ lv2 = lv ∧ st2 = st ∧ σ2 = σ := by
  simp only [nx, Option.some.injEq, Prod.mk.injEq] at h
  exact ⟨h.2.1.symm, h.2.2.1.symm, h.2.2.2.1.symm, h.2.2.2.2.symm⟩
theorem cx_inv {c : Prop} {q : Nat} {lv : LV} {st : List Value} {σ : Sg} {cs : List Prop} {pc2 : Nat} {lv2 : LV} {st2 : List Value} {σ2 : Sg} (h : cx c q lv st σ = some (cs, pc2, lv2, st2, σ2)) (hc : conj cs) : c ∧ pc2 = q ∧ lv2 = lv ∧ st2 = st ∧ σ2 = σ := by
  simp only [cx, Option.some.injEq, Prod.mk.injEq] at h
  rw [← h.1] at hc
  exact ⟨hc.1, h.2.1.symm, h.2.2.1.symm, h.2.2.2.1.symm, h.2.2.2.2.symm⟩
section INV
variable {q : Nat} {lv : LV} {st : List Value} {σ : Sg} {cs : List Prop} {pc2 : Nat} {lv2 : LV} {st2 : List Value} {σ2 : Sg}
theorem xldI_inv {o : Option Value} (h : xld (isI o) q lv st σ = some (cs, pc2, lv2, st2, σ2)) : ∃ x, o = some (.int x) ∧ pc2 = q ∧ lv2 = lv ∧ st2 = .int x :: st ∧ σ2 = σ := by
  match o, h with
  | some (.int x), h => obtain ⟨h1, h2, h3, h4⟩ := nx_inv h; exact ⟨x, rfl, h1, h2, h3, h4⟩
theorem xldJ_inv {o : Option Value} (h : xld (isJ o) q lv st σ = some (cs, pc2, lv2, st2, σ2)) : ∃ x, o = some (.long x) ∧ pc2 = q ∧ lv2 = lv ∧ st2 = .long x :: st ∧ σ2 = σ := by
  match o, h with
  | some (.long x), h => obtain ⟨h1, h2, h3, h4⟩ := nx_inv h; exact ⟨x, rfl, h1, h2, h3, h4⟩
theorem xldR_inv {o : Option Value} (h : xld (isR o) q lv st σ = some (cs, pc2, lv2, st2, σ2)) : ∃ x, o = some (.ref x) ∧ pc2 = q ∧ lv2 = lv ∧ st2 = .ref x :: st ∧ σ2 = σ := by
  match o, h with
  | some (.ref x), h => obtain ⟨h1, h2, h3, h4⟩ := nx_inv h; exact ⟨x, rfl, h1, h2, h3, h4⟩
theorem xst_inv {i : Nat} (h : xst i q lv st σ = some (cs, pc2, lv2, st2, σ2)) : ∃ x r, st = .int x :: r ∧ pc2 = q ∧ lv2 = lset1 lv i (.int x) ∧ st2 = r ∧ σ2 = σ := by
  match st, h with
  | .int x :: r, h => obtain ⟨h1, h2, h3, h4⟩ := nx_inv h; exact ⟨x, r, rfl, h1, h2, h3, h4⟩
theorem xsta_inv {i : Nat} (h : xsta i q lv st σ = some (cs, pc2, lv2, st2, σ2)) : ∃ x r, st = .ref x :: r ∧ pc2 = q ∧ lv2 = lset1 lv i (.ref x) ∧ st2 = r ∧ σ2 = σ := by
  match st, h with
  | .ref x :: r, h => obtain ⟨h1, h2, h3, h4⟩ := nx_inv h; exact ⟨x, r, rfl, h1, h2, h3, h4⟩
theorem xstl_inv {i : Nat} (h : xstl i q lv st σ = some (cs, pc2, lv2, st2, σ2)) : ∃ x r, st = .long x :: r ∧ pc2 = q ∧ lv2 = lset2 lv i (.long x) ∧ st2 = r ∧ σ2 = σ := by
  match st, h with
  | .long x :: r, h => obtain ⟨h1, h2, h3, h4⟩ := nx_inv h; exact ⟨x, r, rfl, h1, h2, h3, h4⟩
theorem x2i_inv {f : Int32 → Int32 → Int32} (h : x2i f q lv st σ = some (cs, pc2, lv2, st2, σ2)) : ∃ x y r, st = .int y :: .int x :: r ∧ pc2 = q ∧ lv2 = lv ∧ st2 = .int (f x y) :: r ∧ σ2 = σ := by
  match st, h with
  | .int y :: .int x :: r, h => obtain ⟨h1, h2, h3, h4⟩ := nx_inv h; exact ⟨x, y, r, rfl, h1, h2, h3, h4⟩
theorem x2ic_inv {f : Int32 → Int32 → Int32} (h : x2ic f q lv st σ = some (cs, pc2, lv2, st2, σ2)) (hc : conj cs) : ∃ x y r, st = .int y :: .int x :: r ∧ ¬ y = 0 ∧ pc2 = q ∧ lv2 = lv ∧ st2 = .int (f x y) :: r ∧ σ2 = σ := by
  match st, h with
  | .int y :: .int x :: r, h => obtain ⟨h0, h1, h2, h3, h4⟩ := cx_inv h hc; exact ⟨x, y, r, rfl, h0, h1, h2, h3, h4⟩
theorem x2l_inv {f : Int64 → Int64 → Int64} (h : x2l f q lv st σ = some (cs, pc2, lv2, st2, σ2)) : ∃ x y r, st = .long y :: .long x :: r ∧ pc2 = q ∧ lv2 = lv ∧ st2 = .long (f x y) :: r ∧ σ2 = σ := by
  match st, h with
  | .long y :: .long x :: r, h => obtain ⟨h1, h2, h3, h4⟩ := nx_inv h; exact ⟨x, y, r, rfl, h1, h2, h3, h4⟩
theorem x2lc_inv {f : Int64 → Int64 → Int64} (h : x2lc f q lv st σ = some (cs, pc2, lv2, st2, σ2)) (hc : conj cs) : ∃ x y r, st = .long y :: .long x :: r ∧ ¬ y = 0 ∧ pc2 = q ∧ lv2 = lv ∧ st2 = .long (f x y) :: r ∧ σ2 = σ := by
  match st, h with
  | .long y :: .long x :: r, h => obtain ⟨h0, h1, h2, h3, h4⟩ := cx_inv h hc; exact ⟨x, y, r, rfl, h0, h1, h2, h3, h4⟩
theorem xif_inv {f : Int32 → Nat} (h : xif f lv st σ = some (cs, pc2, lv2, st2, σ2)) : ∃ x r, st = .int x :: r ∧ pc2 = f x ∧ lv2 = lv ∧ st2 = r ∧ σ2 = σ := by
  match st, h with
  | .int x :: r, h => obtain ⟨h1, h2, h3, h4⟩ := nx_inv h; exact ⟨x, r, rfl, h1, h2, h3, h4⟩
theorem xif2_inv {f : Int32 → Int32 → Nat} (h : xif2 f lv st σ = some (cs, pc2, lv2, st2, σ2)) : ∃ x y r, st = .int y :: .int x :: r ∧ pc2 = f x y ∧ lv2 = lv ∧ st2 = r ∧ σ2 = σ := by
  match st, h with
  | .int y :: .int x :: r, h => obtain ⟨h1, h2, h3, h4⟩ := nx_inv h; exact ⟨x, y, r, rfl, h1, h2, h3, h4⟩
end INV
theorem ofInt_eq_iff {x : Int32} {k : Int} (h1 : -2147483648 ≤ k) (h2 : k ≤ 2147483647) : x = Int32.ofInt k ↔ x.toInt = k := by
  constructor
  · intro h
    rw [h]
    exact Int32.toInt_ofInt_of_le h1 (by omega)
  · intro h
    apply Int32.toInt_inj.mp
    rw [h]
    exact (Int32.toInt_ofInt_of_le h1 (by omega)).symm
theorem swt_out {x : Int32} {d : Nat} : ∀ (zs : List Int) (lo : Int), -2147483648 ≤ lo → lo + zs.length - 1 ≤ 2147483647 → (x.toInt < lo ∨ lo + zs.length - 1 < x.toInt) → swt x d lo zs = d
  | [], lo, _, _, _ => rfl
  | t :: r, lo, h1, h2, h => by
    unfold swt
    simp only [List.length_cons] at h2 h
    rw [if_neg (by rw [ofInt_eq_iff h1 (by omega)]; omega)]
    exact swt_out r (lo + 1) (by omega) (by omega) (by omega)
theorem swt_in {x : Int32} {d : Nat} : ∀ (zs : List Int) (lo : Int), -2147483648 ≤ lo → lo + zs.length - 1 ≤ 2147483647 → ¬ x.toInt < lo → ¬ lo + zs.length - 1 < x.toInt → swt x d lo zs = (zs.getD (x.toInt - lo).toNat 0).toNat
  | [], lo, h1, h2, h3, h4 => by simp only [List.length_nil] at h4; omega
  | t :: r, lo, h1, h2, h3, h4 => by
    unfold swt
    simp only [List.length_cons] at h2 h4
    by_cases hx : x.toInt = lo
    · rw [if_pos ((ofInt_eq_iff h1 (by omega)).mpr hx), hx]
      simp
    · rw [if_neg (fun q => hx ((ofInt_eq_iff h1 (by omega)).mp q)), swt_in r (lo + 1) (by omega) (by omega) (by omega) (by omega)]
      have e : (x.toInt - lo).toNat = (x.toInt - (lo + 1)).toNat + 1 := by omega
      rw [e, List.getD_cons_succ]
theorem stc_at {A : Nat → Prop} {ad : Nat → Nat} {U : State} {H : Heap} (h : Stc A ad U H) {c : Nat} (g1 : 1000 ≤ c) (g2 : c < 1005) : va_T .int (ad c) (sn c) (fun j => .int (sv c j)) A U H := by
  have hz := (h (c - 1000) (by omega)).2
  rw [show 1000 + (c - 1000) = c by omega] at hz
  exact hz
theorem ck_nc {c : Nat} (h : ck c ≠ 99) : c < NC := by
  have h1 : ckL.length = NC := by decide +kernel
  rw [← h1]
  rcases Nat.lt_or_ge c ckL.length with q | q
  · exact q
  · refine absurd ?_ h
    unfold ck
    simp [List.getD, List.getElem?_eq_none q]
theorem map_set {f g : Nat → Value} {n b : Nat} {v : Value} (hb : b < n) (h : g b = v) (ho : ∀ j, j ≠ b → g j = f j) : (List.range n).map g = ((List.range n).map f).set b v := by
  refine List.ext_getElem? fun i => ?_
  rw [List.getElem?_set]
  by_cases hk : b = i
  · subst hk
    rw [if_pos rfl, List.getElem?_map, List.getElem?_range hb]
    simp [h, hb]
  · rw [if_neg hk, List.getElem?_map, List.getElem?_map]
    rcases Nat.lt_or_ge i n with q | q
    · rw [List.getElem?_range q]
      simp [ho i (fun z => hk z.symm)]
    · rw [List.getElem?_eq_none (by simpa using q)]
      rfl
theorem cel_obj {tc : Nat → ClassId} {ad : Nat → Nat} {σ : Sg} {c a : Nat} (h : ck c = 5 + a) : cel tc ad σ c = .inr (a, (List.range (nf a)).map (fvl ad σ a c)) := by
  unfold cel
  rw [show ck c = a + 5 by omega]
theorem fvl_si {ad : Nat → Nat} {σ : Sg} {a c b : Nat} {x : Int32} (hb : b < nf a) (h1 : ft a b ≠ 1) (h2 : ft a b ≠ 2) : (List.range (nf a)).map (fvl ad (si σ c b x) a c) = ((List.range (nf a)).map (fvl ad σ a c)).set b (.int x) := by
  refine map_set hb ?_ (fun j hj => ?_)
  · unfold fvl
    split
    · contradiction
    · contradiction
    · simp [si, upd]
  · unfold fvl
    simp [si, upd, hj]
theorem fvl_sl {ad : Nat → Nat} {σ : Sg} {a c b : Nat} {x : Int64} (hb : b < nf a) (h1 : ft a b = 1) : (List.range (nf a)).map (fvl ad (sl σ c b x) a c) = ((List.range (nf a)).map (fvl ad σ a c)).set b (.long x) := by
  refine map_set hb ?_ (fun j hj => ?_)
  · unfold fvl
    rw [h1]
    simp [sl, vp_updL]
  · unfold fvl
    simp [sl, vp_updL, hj]
theorem nb_fit {x : Int32} (h : nb x) : narrow .boolean (.int x) = .int x ∧ fits .boolean (.int x) = true := by
  rcases h with rfl | rfl <;> exact ⟨by decide, by decide⟩
section SND
variable {p : Program} {l : Launch} {e : Env} {R : Room} {s : State} {m : MethodId} {args : Array Value} {below : List Frame} {meth : Method} {c : Code} {cells slots : Nat} {Qs : State → Prop}
variable {D : va_G} {tc : Nat → ClassId} {ad : Nat → Nat} {A : Nat → Prop} {own : String} {cc : ByteArray} {nL : Nat} {X : RO} {M : Nat → MI}
/-- what stands while a method runs -/
def Fx (p : Program) (R : Room) (s : State) (m : MethodId) (args : Array Value) (c : Code) (D : va_G) (tc : Nat → ClassId) (ad : Nat → Nat) (A : Nat → Prop) (own : String) (cc : ByteArray) (nL : Nat) (X : RO) : Prop :=
  p.tables.exec = Jvm.exec ∧ c.code = cc ∧ c.maxLocals = nL ∧ s.vm.findClass own = some m.cls ∧ (∀ w ∈ TB, w.before args s = true) ∧ va_K D cl (tys tc) s ∧ (∀ i j, i < NC → j < NC → ad i = ad j → i = j) ∧ (∀ q, inA ad q → A q) ∧ (Stc A ad s s.heap ∧ Nst s) ∧ (1 ≤ R.frames ∧ 64 ≤ R.locals) ∧ (∀ x : Nat × (Nat → Int32), X = some x → x.1 < 2 ^ 31 ∧ va_X (ad 2000) x.1 x.2 s s.heap ∧ ad 2000 < s.heap.size ∧ ¬ A (ad 2000))
abbrev Wk (p : Program) (l : Launch) (e : Env) (R : Room) (s : State) (m : MethodId) (args : Array Value) (below : List Frame) (meth : Method) (c : Code) (cells slots : Nat) (Qs : State → Prop) (tc : Nat → ClassId) (ad : Nat → Nat) (A : Nat → Prop) (nL : Nat) (q : PS) : Prop :=
  ∀ (H : Heap) (locs : List Loc) (ls : Array Slot), lv_has ls nL (elv ad q.2.1) → va_P D cl (wld tc ad q.2.2.2) H → va_S A s.heap H locs → W p l e R s m args below meth c H locs cells slots Qs (F0 m q.1 ls (est ad q.2.2.1))
theorem exec1_ok (F : Fx p R s m args c D tc ad A own cc nL X) (hbud : cells ≤ R.cells ∧ slots ≤ R.slots) {en : Ent} (hok : EntOK M own cc nL en) {lv : LV} {st : List Value} {σ : Sg} {cs : List Prop} {pc2 : Nat} {lv2 : LV} {st2 : List Value} {σ2 : Sg} (h : exec1 X en lv st σ = some (cs, pc2, lv2, st2, σ2)) (hc : conj cs)
    (kk : Wk (D := D) p l e R s m args below meth c cells slots Qs tc ad A nL (pc2, lv2, st2, σ2)) : Wk (D := D) p l e R s m args below meth c cells slots Qs tc ad A nL (en.1, lv, st, σ) := by
  obtain ⟨hx, hb, hml, hown, hts, hK, hinj, hAd, ⟨hSt, hNs⟩, hRm, hX⟩ := F
  obtain ⟨pc, ins, len, a, b, d, zs⟩ := en
  obtain ⟨hdec, hok, hlen⟩ := hok
  intro H locs ls hl hP hS
  have hD : va_D A (wld tc ad σ) := wld_D hinj hAd σ
  dsimp only at hdec hlen hok hl hP hS ⊢
  cases ins with
  | iload i =>
    obtain rfl : len = 2 := hlen (fun _ _ _ _ h => by cases h)
    obtain ⟨x, h1, rfl, rfl, rfl, rfl⟩ := xldI_inv h
    exact lv_iload hx hb hdec (lget_has hl h1) (kk H locs ls hl hP hS)
  | iload_n k =>
    obtain rfl : len = 1 := hlen (fun _ _ _ _ h => by cases h)
    obtain ⟨x, h1, rfl, rfl, rfl, rfl⟩ := xldI_inv h
    exact lv_iload_n hx hb hdec rfl (lget_has hl h1) (kk H locs ls hl hP hS)
  | lload i =>
    obtain rfl : len = 2 := hlen (fun _ _ _ _ h => by cases h)
    obtain ⟨x, h1, rfl, rfl, rfl, rfl⟩ := xldJ_inv h
    exact lv_lload hx hb hdec (lget_has hl h1) (kk H locs ls hl hP hS)
  | lload_n k =>
    obtain rfl : len = 1 := hlen (fun _ _ _ _ h => by cases h)
    obtain ⟨x, h1, rfl, rfl, rfl, rfl⟩ := xldJ_inv h
    exact lv_lload_n hx hb hdec rfl (lget_has hl h1) (kk H locs ls hl hP hS)
  | aload i =>
    obtain rfl : len = 2 := hlen (fun _ _ _ _ h => by cases h)
    obtain ⟨x, h1, rfl, rfl, rfl, rfl⟩ := xldR_inv h
    exact lv_aload hx hb hdec (lget_has hl h1) (kk H locs ls hl hP hS)
  | aload_n k =>
    obtain rfl : len = 1 := hlen (fun _ _ _ _ h => by cases h)
    obtain ⟨x, h1, rfl, rfl, rfl, rfl⟩ := xldR_inv h
    exact lv_aload_n hx hb hdec rfl (lget_has hl h1) (kk H locs ls hl hP hS)
  | istore i =>
    obtain rfl : len = 2 := hlen (fun _ _ _ _ h => by cases h)
    obtain ⟨x, r, rfl, rfl, rfl, rfl, rfl⟩ := xst_inv h
    exact lv_istore hx hb hdec hl hok (elv_lset1 ad lv i (.int x)) (fun ls' hl' => kk H locs ls' hl' hP hS)
  | istore_n k =>
    obtain rfl : len = 1 := hlen (fun _ _ _ _ h => by cases h)
    obtain ⟨x, r, rfl, rfl, rfl, rfl, rfl⟩ := xst_inv h
    exact lv_istore_n hx hb hdec rfl hl hok (elv_lset1 ad lv k.val (.int x)) (fun ls' hl' => kk H locs ls' hl' hP hS)
  | astore i =>
    obtain rfl : len = 2 := hlen (fun _ _ _ _ h => by cases h)
    obtain ⟨x, r, rfl, rfl, rfl, rfl, rfl⟩ := xsta_inv h
    exact lv_astore hx hb hdec hl hok (elv_lset1 ad lv i (.ref x)) (fun ls' hl' => kk H locs ls' hl' hP hS)
  | astore_n k =>
    obtain rfl : len = 1 := hlen (fun _ _ _ _ h => by cases h)
    obtain ⟨x, r, rfl, rfl, rfl, rfl, rfl⟩ := xsta_inv h
    exact lv_astore_n hx hb hdec rfl hl hok (elv_lset1 ad lv k.val (.ref x)) (fun ls' hl' => kk H locs ls' hl' hP hS)
  | lstore i =>
    obtain rfl : len = 2 := hlen (fun _ _ _ _ h => by cases h)
    obtain ⟨x, r, rfl, rfl, rfl, rfl, rfl⟩ := xstl_inv h
    exact lv_lstore hx hb hdec hl hok (elv_lset2 ad lv i (.long x)) (fun ls' hl' => kk H locs ls' hl' hP hS)
  | lstore_n k =>
    obtain rfl : len = 1 := hlen (fun _ _ _ _ h => by cases h)
    obtain ⟨x, r, rfl, rfl, rfl, rfl, rfl⟩ := xstl_inv h
    exact lv_lstore_n hx hb hdec rfl hl hok (elv_lset2 ad lv k.val (.long x)) (fun ls' hl' => kk H locs ls' hl' hP hS)
  | iinc i n =>
    obtain rfl : len = 3 := hlen (fun _ _ _ _ h => by cases h)
    simp only [exec1] at h
    split at h
    · rename_i x hg
      obtain ⟨rfl, rfl, rfl, rfl⟩ := nx_inv h
      obtain ⟨k, hk⟩ := elv_idx (ad := ad) hg
      exact lv_iinc hx hb hdec hl hk rfl hok (elv_lset1 ad lv i (.int (x + Int32.ofInt n))) (fun ls' hl' => kk H locs ls' hl' hP hS)
    · cases h
  | iconst n =>
    obtain rfl : len = 1 := hlen (fun _ _ _ _ h => by cases h)
    obtain ⟨rfl, rfl, rfl, rfl⟩ := nx_inv h
    exact lv_iconst hx hb hdec rfl (kk H locs ls hl hP hS)
  | bipush n =>
    obtain rfl : len = 2 := hlen (fun _ _ _ _ h => by cases h)
    obtain ⟨rfl, rfl, rfl, rfl⟩ := nx_inv h
    exact lv_bipush hx hb hdec hok (kk H locs ls hl hP hS)
  | sipush n =>
    obtain rfl : len = 3 := hlen (fun _ _ _ _ h => by cases h)
    obtain ⟨rfl, rfl, rfl, rfl⟩ := nx_inv h
    exact lv_sipush hx hb hdec hok (kk H locs ls hl hP hS)
  | ldc idx =>
    obtain rfl : len = 2 := hlen (fun _ _ _ _ h => by cases h)
    obtain ⟨z, r, rfl, hw⟩ := hok
    obtain ⟨rfl, rfl, rfl, rfl⟩ := nx_inv h
    exact lv_ldc hx hb hown (hts _ hw) hdec (kk H locs ls hl hP hS)
  | ldc_w idx =>
    obtain rfl : len = 3 := hlen (fun _ _ _ _ h => by cases h)
    obtain ⟨z, r, rfl, hw⟩ := hok
    obtain ⟨rfl, rfl, rfl, rfl⟩ := nx_inv h
    exact lv_ldcw hx hb hown (hts _ hw) hdec (kk H locs ls hl hP hS)
  | ldc2_w idx =>
    obtain rfl : len = 3 := hlen (fun _ _ _ _ h => by cases h)
    obtain ⟨z, r, rfl, hw⟩ := hok
    obtain ⟨rfl, rfl, rfl, rfl⟩ := nx_inv h
    exact lv_ldc2 hx hb hown (hts _ hw) hdec (kk H locs ls hl hP hS)
  | lconst n =>
    obtain rfl : len = 1 := hlen (fun _ _ _ _ h => by cases h)
    obtain ⟨rfl, rfl, rfl, rfl⟩ := nx_inv h
    exact lv_lconst hx hb hdec rfl (kk H locs ls hl hP hS)
  | iadd =>
    obtain rfl : len = 1 := hlen (fun _ _ _ _ h => by cases h)
    obtain ⟨x, y, r, rfl, rfl, rfl, rfl, rfl⟩ := x2i_inv h
    exact lv_iadd hx hb hdec (kk H locs ls hl hP hS)
  | isub =>
    obtain rfl : len = 1 := hlen (fun _ _ _ _ h => by cases h)
    obtain ⟨x, y, r, rfl, rfl, rfl, rfl, rfl⟩ := x2i_inv h
    exact lv_isub hx hb hdec (kk H locs ls hl hP hS)
  | imul =>
    obtain rfl : len = 1 := hlen (fun _ _ _ _ h => by cases h)
    obtain ⟨x, y, r, rfl, rfl, rfl, rfl, rfl⟩ := x2i_inv h
    exact lv_imul hx hb hdec (kk H locs ls hl hP hS)
  | iand =>
    obtain rfl : len = 1 := hlen (fun _ _ _ _ h => by cases h)
    obtain ⟨x, y, r, rfl, rfl, rfl, rfl, rfl⟩ := x2i_inv h
    exact lv_iand hx hb hdec (kk H locs ls hl hP hS)
  | ior =>
    obtain rfl : len = 1 := hlen (fun _ _ _ _ h => by cases h)
    obtain ⟨x, y, r, rfl, rfl, rfl, rfl, rfl⟩ := x2i_inv h
    exact lv_ior hx hb hdec (kk H locs ls hl hP hS)
  | ixor =>
    obtain rfl : len = 1 := hlen (fun _ _ _ _ h => by cases h)
    obtain ⟨x, y, r, rfl, rfl, rfl, rfl, rfl⟩ := x2i_inv h
    exact lv_ixor hx hb hdec (kk H locs ls hl hP hS)
  | ishl =>
    obtain rfl : len = 1 := hlen (fun _ _ _ _ h => by cases h)
    obtain ⟨x, y, r, rfl, rfl, rfl, rfl, rfl⟩ := x2i_inv h
    exact lv_ishl hx hb hdec (kk H locs ls hl hP hS)
  | ishr =>
    obtain rfl : len = 1 := hlen (fun _ _ _ _ h => by cases h)
    obtain ⟨x, y, r, rfl, rfl, rfl, rfl, rfl⟩ := x2i_inv h
    exact lv_ishr hx hb hdec (kk H locs ls hl hP hS)
  | iushr =>
    obtain rfl : len = 1 := hlen (fun _ _ _ _ h => by cases h)
    obtain ⟨x, y, r, rfl, rfl, rfl, rfl, rfl⟩ := x2i_inv h
    exact lv_iushr hx hb hdec rfl (kk H locs ls hl hP hS)
  | idiv =>
    obtain rfl : len = 1 := hlen (fun _ _ _ _ h => by cases h)
    obtain ⟨x, y, r, rfl, h0, rfl, rfl, rfl, rfl⟩ := x2ic_inv h hc
    exact lv_idiv hx hb hdec h0 (kk H locs ls hl hP hS)
  | irem =>
    obtain rfl : len = 1 := hlen (fun _ _ _ _ h => by cases h)
    obtain ⟨x, y, r, rfl, h0, rfl, rfl, rfl, rfl⟩ := x2ic_inv h hc
    exact lv_irem hx hb hdec h0 (kk H locs ls hl hP hS)
  | ladd =>
    obtain rfl : len = 1 := hlen (fun _ _ _ _ h => by cases h)
    obtain ⟨x, y, r, rfl, rfl, rfl, rfl, rfl⟩ := x2l_inv h
    exact lv_ladd hx hb hdec (kk H locs ls hl hP hS)
  | lsub =>
    obtain rfl : len = 1 := hlen (fun _ _ _ _ h => by cases h)
    obtain ⟨x, y, r, rfl, rfl, rfl, rfl, rfl⟩ := x2l_inv h
    exact lv_lsub hx hb hdec (kk H locs ls hl hP hS)
  | lmul =>
    obtain rfl : len = 1 := hlen (fun _ _ _ _ h => by cases h)
    obtain ⟨x, y, r, rfl, rfl, rfl, rfl, rfl⟩ := x2l_inv h
    exact lv_lmul hx hb hdec (kk H locs ls hl hP hS)
  | ldiv =>
    obtain rfl : len = 1 := hlen (fun _ _ _ _ h => by cases h)
    obtain ⟨x, y, r, rfl, h0, rfl, rfl, rfl, rfl⟩ := x2lc_inv h hc
    exact lv_ldiv hx hb hdec h0 (kk H locs ls hl hP hS)
  | lrem =>
    obtain rfl : len = 1 := hlen (fun _ _ _ _ h => by cases h)
    obtain ⟨x, y, r, rfl, h0, rfl, rfl, rfl, rfl⟩ := x2lc_inv h hc
    exact lv_lrem hx hb hdec h0 (kk H locs ls hl hP hS)
  | ineg =>
    obtain rfl : len = 1 := hlen (fun _ _ _ _ h => by cases h)
    match st, h with
    | .int x :: r, h =>
      obtain ⟨rfl, rfl, rfl, rfl⟩ := nx_inv h
      exact lv_ineg hx hb hdec (kk H locs ls hl hP hS)
  | lneg =>
    obtain rfl : len = 1 := hlen (fun _ _ _ _ h => by cases h)
    match st, h with
    | .long x :: r, h =>
      obtain ⟨rfl, rfl, rfl, rfl⟩ := nx_inv h
      exact lv_lneg hx hb hdec (kk H locs ls hl hP hS)
  | lushr =>
    obtain rfl : len = 1 := hlen (fun _ _ _ _ h => by cases h)
    match st, h with
    | .int y :: .long x :: r, h =>
      obtain ⟨rfl, rfl, rfl, rfl⟩ := nx_inv h
      exact lv_lushr hx hb hdec rfl (kk H locs ls hl hP hS)
  | lcmp =>
    obtain rfl : len = 1 := hlen (fun _ _ _ _ h => by cases h)
    match st, h with
    | .long y :: .long x :: r, h =>
      obtain ⟨rfl, rfl, rfl, rfl⟩ := nx_inv h
      exact W.lcmp hx hb hdec (kk H locs ls hl hP hS)
  | i2l =>
    obtain rfl : len = 1 := hlen (fun _ _ _ _ h => by cases h)
    match st, h with
    | .int x :: r, h =>
      obtain ⟨rfl, rfl, rfl, rfl⟩ := nx_inv h
      exact lv_i2l hx hb hdec rfl (kk H locs ls hl hP hS)
  | l2i =>
    obtain rfl : len = 1 := hlen (fun _ _ _ _ h => by cases h)
    match st, h with
    | .long x :: r, h =>
      obtain ⟨rfl, rfl, rfl, rfl⟩ := nx_inv h
      exact lv_l2i hx hb hdec rfl (kk H locs ls hl hP hS)
  | ifCond cd off =>
    obtain rfl : len = 3 := hlen (fun _ _ _ _ h => by cases h)
    have kk' := kk H locs ls
    cases cd with
    | eq =>
      obtain ⟨x, r, rfl, rfl, rfl, rfl, rfl⟩ := xif_inv h
      exact lv_if_eq hx hb hdec hok (fun t => by have := kk' hl hP hS; dsimp only at this; rwa [if_pos t] at this) (fun t => by have := kk' hl hP hS; dsimp only at this; rwa [if_neg t] at this)
    | ne =>
      obtain ⟨x, r, rfl, rfl, rfl, rfl, rfl⟩ := xif_inv h
      exact lv_if_ne hx hb hdec hok (fun t => by have := kk' hl hP hS; dsimp only at this; rwa [if_pos t] at this) (fun t => by have := kk' hl hP hS; dsimp only at this; rwa [if_neg (fun q => q t)] at this)
    | lt =>
      obtain ⟨x, r, rfl, rfl, rfl, rfl, rfl⟩ := xif_inv h
      exact lv_if_lt hx hb hdec hok (fun t => by have := kk' hl hP hS; dsimp only at this; rwa [if_pos t] at this) (fun t => by have := kk' hl hP hS; dsimp only at this; rwa [if_neg t] at this)
    | ge =>
      obtain ⟨x, r, rfl, rfl, rfl, rfl, rfl⟩ := xif_inv h
      exact lv_if_ge hx hb hdec hok (fun t => by have := kk' hl hP hS; dsimp only at this; rwa [if_pos t] at this) (fun t => by have := kk' hl hP hS; dsimp only at this; rwa [if_neg t] at this)
    | gt =>
      obtain ⟨x, r, rfl, rfl, rfl, rfl, rfl⟩ := xif_inv h
      exact lv_if_gt hx hb hdec hok (fun t => by have := kk' hl hP hS; dsimp only at this; rwa [if_pos t] at this) (fun t => by have := kk' hl hP hS; dsimp only at this; rwa [if_neg t] at this)
    | le =>
      obtain ⟨x, r, rfl, rfl, rfl, rfl, rfl⟩ := xif_inv h
      exact lv_if_le hx hb hdec hok (fun t => by have := kk' hl hP hS; dsimp only at this; rwa [if_pos t] at this) (fun t => by have := kk' hl hP hS; dsimp only at this; rwa [if_neg t] at this)
  | if_icmp cd off =>
    obtain rfl : len = 3 := hlen (fun _ _ _ _ h => by cases h)
    have kk' := kk H locs ls
    cases cd with
    | eq =>
      obtain ⟨x, y, r, rfl, rfl, rfl, rfl, rfl⟩ := xif2_inv h
      exact lv_icmp_eq hx hb hdec hok (fun t => by have := kk' hl hP hS; dsimp only at this; rwa [if_pos t] at this) (fun t => by have := kk' hl hP hS; dsimp only at this; rwa [if_neg t] at this)
    | ne =>
      obtain ⟨x, y, r, rfl, rfl, rfl, rfl, rfl⟩ := xif2_inv h
      exact lv_icmp_ne hx hb hdec hok (fun t => by have := kk' hl hP hS; dsimp only at this; rwa [if_pos t] at this) (fun t => by have := kk' hl hP hS; dsimp only at this; rwa [if_neg (fun q => q t)] at this)
    | lt =>
      obtain ⟨x, y, r, rfl, rfl, rfl, rfl, rfl⟩ := xif2_inv h
      exact lv_icmp_lt hx hb hdec hok (fun t => by have := kk' hl hP hS; dsimp only at this; rwa [if_pos t] at this) (fun t => by have := kk' hl hP hS; dsimp only at this; rwa [if_neg t] at this)
    | ge =>
      obtain ⟨x, y, r, rfl, rfl, rfl, rfl, rfl⟩ := xif2_inv h
      exact lv_icmp_ge hx hb hdec hok (fun t => by have := kk' hl hP hS; dsimp only at this; rwa [if_pos t] at this) (fun t => by have := kk' hl hP hS; dsimp only at this; rwa [if_neg t] at this)
    | gt =>
      obtain ⟨x, y, r, rfl, rfl, rfl, rfl, rfl⟩ := xif2_inv h
      exact lv_icmp_gt hx hb hdec hok (fun t => by have := kk' hl hP hS; dsimp only at this; rwa [if_pos t] at this) (fun t => by have := kk' hl hP hS; dsimp only at this; rwa [if_neg t] at this)
    | le =>
      obtain ⟨x, y, r, rfl, rfl, rfl, rfl, rfl⟩ := xif2_inv h
      exact lv_icmp_le hx hb hdec hok (fun t => by have := kk' hl hP hS; dsimp only at this; rwa [if_pos t] at this) (fun t => by have := kk' hl hP hS; dsimp only at this; rwa [if_neg t] at this)
  | goto off =>
    obtain rfl : len = 3 := hlen (fun _ _ _ _ h => by cases h)
    obtain ⟨rfl, rfl, rfl, rfl⟩ := nx_inv h
    exact lv_goto hx hb hdec hok (kk H locs ls hl hP hS)
  | tableswitch df lo hi offs =>
    obtain ⟨x, r, rfl, rfl, rfl, rfl, rfl⟩ := xif_inv h
    obtain ⟨w1, w2, ⟨w3, w4⟩, w5⟩ := hok
    have k1 := kk H locs ls hl hP hS
    dsimp only at k1
    subst w2
    by_cases hz : x.toInt < lo ∨ lo + zs.length - 1 < x.toInt
    · rw [swt_out zs lo w3 w4 hz] at k1
      exact lv_tableOut hx hb hdec hz w1 k1
    · have z1 : ¬ x.toInt < lo := fun t => hz (Or.inl t)
      have z2 : ¬ lo + zs.length - 1 < x.toInt := fun t => hz (Or.inr t)
      rw [swt_in zs lo w3 w4 z1 z2] at k1
      obtain ⟨off, o1, o2⟩ := w5 (x.toInt - lo).toNat (by omega)
      exact lv_tableIn hx hb hdec z1 z2 o1 o2 k1
  | dup =>
    obtain rfl : len = 1 := hlen (fun _ _ _ _ h => by cases h)
    match st, h with
    | v :: r, h =>
      obtain ⟨h0, rfl, rfl, rfl, rfl⟩ := cx_inv h hc
      exact lv_dup hx hb hdec ((enc_cat ad v).trans h0) (kk H locs ls hl hP hS)
  | dup2 =>
    obtain rfl : len = 1 := hlen (fun _ _ _ _ h => by cases h)
    match st, h with
    | v :: w :: r, h =>
      obtain ⟨h0, rfl, rfl, rfl, rfl⟩ := cx_inv h hc
      exact lv_dup2_11 hx hb hdec ((enc_cat ad v).trans h0.1) ((enc_cat ad w).trans h0.2) (kk H locs ls hl hP hS)
  | iaload =>
    obtain rfl : len = 1 := hlen (fun _ _ _ _ h => by cases h)
    match st, h with
    | .int i :: .ref c9 :: r, h =>
      simp only [exec1] at h
      cases hd0 : (d == 0) with
      | true =>
        rw [hd0] at h
        obtain ⟨⟨h0, h1⟩, rfl, rfl, rfl, rfl⟩ := cx_inv h hc
        have hk : c9 < NC := ck_lt h0 (by decide)
        exact va_iald hx hb hK hP c9 0 (by rw [wld_get hk]; simp only [cel, h0]) rfl h1 hdec (kk H locs ls hl hP hS)
      | false =>
        rw [hd0] at h
        cases hd1 : (d == 1) with
        | true =>
          rw [hd1] at h
          obtain ⟨⟨⟨g1, g2⟩, h1⟩, rfl, rfl, rfl, rfl⟩ := cx_inv h hc
          have hz := stc_at hSt g1 g2
          exact va_ti hx hb hz hS h1 rfl hdec (kk H locs ls hl hP hS)
        | false =>
          rw [hd1] at h
          match X, hX, h with
          | some x, hX, h =>
            obtain ⟨⟨rfl, h1⟩, rfl, rfl, rfl, rfl⟩ := cx_inv h hc
            obtain ⟨g1, g2, g3, g4⟩ := hX x rfl
            exact va_sld hx hb g2 g3 g4 hS h1 hdec (kk H locs ls hl hP hS)
  | laload =>
    obtain rfl : len = 1 := hlen (fun _ _ _ _ h => by cases h)
    match st, h with
    | .int i :: .ref c9 :: r, h =>
      obtain ⟨⟨h0, h1⟩, rfl, rfl, rfl, rfl⟩ := cx_inv h hc
      have hk : c9 < NC := ck_lt h0 (by decide)
      exact va_lald hx hb hK hP c9 1 (by rw [wld_get hk]; simp only [cel, h0]) rfl h1 hdec (kk H locs ls hl hP hS)
  | baload =>
    obtain rfl : len = 1 := hlen (fun _ _ _ _ h => by cases h)
    match st, h with
    | .int i :: .ref c9 :: r, h =>
      obtain ⟨⟨h0, h1⟩, rfl, rfl, rfl, rfl⟩ := cx_inv h hc
      have hk : c9 < NC := ck_lt h0 (by decide)
      exact va_zald hx hb hK hP c9 2 (by rw [wld_get hk]; simp only [cel, h0]) rfl h1 hdec (kk H locs ls hl hP hS)
  | aaload =>
    obtain rfl : len = 1 := hlen (fun _ _ _ _ h => by cases h)
    match st, h with
    | .int i :: .ref c9 :: r, h =>
      obtain ⟨⟨h0, h1⟩, rfl, rfl, rfl, rfl⟩ := cx_inv h hc
      have hlt : i.toNatClampNeg < al c9 := Nat.not_le.mp fun q => h1 (Or.inr q)
      rcases h0 with h0 | h0
      · have hk : c9 < NC := ck_lt h0 (by decide)
        have hcell := hP c9 _ (wld_get hk)
        simp only [va_at, cel, h0] at hcell
        exact W.aald (v := .ref (ad (c9 + 1 + i.toNatClampNeg))) (ty := .array .int) hx hb hcell ((hK.2 3 _ rfl).1 (al c9) (fun j => va_rf (some (ad (c9 + 1 + j))))) rfl (fun q => by cases q) (by show ¬ (i < 0 ∨ (arrV _ _ _).slots.size ≤ _); rw [arrV_size]; exact h1) (by show (arrV _ _ _).slots[_]? = _; rw [arrV_read _ _ hlt]; rfl) rfl rfl hdec (kk H locs ls hl hP hS)
      · have hk : c9 < NC := ck_lt h0 (by decide)
        have hcell := hP c9 _ (wld_get hk)
        simp only [va_at, cel, h0] at hcell
        exact W.aald (v := .ref (ad (c9 + 1 + i.toNatClampNeg))) (ty := .array .long) hx hb hcell ((hK.2 4 _ rfl).1 (al c9) (fun j => va_rf (some (ad (c9 + 1 + j))))) rfl (fun q => by cases q) (by show ¬ (i < 0 ∨ (arrV _ _ _).slots.size ≤ _); rw [arrV_size]; exact h1) (by show (arrV _ _ _).slots[_]? = _; rw [arrV_read _ _ hlt]; rfl) rfl rfl hdec (kk H locs ls hl hP hS)
  | iastore =>
    obtain rfl : len = 1 := hlen (fun _ _ _ _ h => by cases h)
    match st, h with
    | .int x :: .int i :: .ref c9 :: r, h =>
      obtain ⟨⟨h0, h1⟩, rfl, rfl, rfl, rfl⟩ := cx_inv h hc
      have hk : c9 < NC := ck_lt h0 (by decide)
      refine va_iast (f := σ.1 c9) hx hb hK hP hD hS c9 0 (by rw [wld_get hk]; simp only [cel, h0]) rfl h1 hdec (fun H1 locs1 hP1 hD1 hS1 => kk H1 locs1 ls hl ?_ hS1)
      have e := wld_set (tc := tc) (ad := ad) (σ := σ) (σ2 := si σ c9 i.toNatClampNeg x) hk (fun j hj => cel_si hj)
      rw [show cel tc ad (si σ c9 i.toNatClampNeg x) c9 = .inl (tc 0, al c9, .inl (upd (σ.1 c9) i.toNatClampNeg x)) by simp only [cel, h0]; simp [si]] at e
      rw [← e]
      exact hP1
  | lastore =>
    obtain rfl : len = 1 := hlen (fun _ _ _ _ h => by cases h)
    match st, h with
    | .long x :: .int i :: .ref c9 :: r, h =>
      obtain ⟨⟨h0, h1⟩, rfl, rfl, rfl, rfl⟩ := cx_inv h hc
      have hk : c9 < NC := ck_lt h0 (by decide)
      refine va_last (f := σ.2 c9) hx hb hK hP hD hS c9 1 (by rw [wld_get hk]; simp only [cel, h0]) rfl h1 hdec (fun H1 locs1 hP1 hD1 hS1 => kk H1 locs1 ls hl ?_ hS1)
      have e := wld_set (tc := tc) (ad := ad) (σ := σ) (σ2 := sl σ c9 i.toNatClampNeg x) hk (fun j hj => cel_sl hj)
      rw [show cel tc ad (sl σ c9 i.toNatClampNeg x) c9 = .inl (tc 1, al c9, .inr (.inl (vp_updL (σ.2 c9) i.toNatClampNeg x))) by simp only [cel, h0]; simp [sl]] at e
      rw [← e]
      exact hP1
  | bastore =>
    obtain rfl : len = 1 := hlen (fun _ _ _ _ h => by cases h)
    match st, h with
    | .int x :: .int i :: .ref c9 :: r, h =>
      obtain ⟨⟨h0, h1⟩, rfl, rfl, rfl, rfl⟩ := cx_inv h hc
      have hk : c9 < NC := ck_lt h0 (by decide)
      refine va_zast (f := σ.1 c9) hx hb hK hP hD hS c9 2 (by rw [wld_get hk]; simp only [cel, h0]) rfl h1 hdec (fun H1 locs1 hP1 hD1 hS1 => kk H1 locs1 ls hl ?_ hS1)
      have e := wld_set (tc := tc) (ad := ad) (σ := σ) (σ2 := si σ c9 i.toNatClampNeg (x &&& 1)) hk (fun j hj => cel_si hj)
      rw [show cel tc ad (si σ c9 i.toNatClampNeg (x &&& 1)) c9 = .inl (tc 2, al c9, .inl (upd (σ.1 c9) i.toNatClampNeg (x &&& 1))) by simp only [cel, h0]; simp [si]] at e
      rw [← e]
      exact hP1
  | arraylength =>
    obtain rfl : len = 1 := hlen (fun _ _ _ _ h => by cases h)
    match st, h with
    | .ref c9 :: r, h =>
      simp only [exec1] at h
      cases hd0 : (d == 0) with
      | true =>
        rw [hd0] at h
        obtain ⟨h0, rfl, rfl, rfl, rfl⟩ := cx_inv h hc
        have hk : c9 < NC := ck_lt rfl (by omega)
        have k1 := kk H locs ls hl hP hS
        have h5 : ck c9 = 0 ∨ ck c9 = 1 ∨ ck c9 = 2 ∨ ck c9 = 3 ∨ ck c9 = 4 := by omega
        rcases h5 with h5 | h5 | h5 | h5 | h5
        · exact va_alen (x := (al c9, .inl (σ2.1 c9))) hx hb hK hP c9 0 (by rw [wld_get hk]; simp only [cel, h5]) rfl rfl hdec k1
        · exact va_alen (x := (al c9, .inr (.inl (σ2.2 c9)))) hx hb hK hP c9 1 (by rw [wld_get hk]; simp only [cel, h5]) rfl rfl hdec k1
        · exact va_alen (x := (al c9, .inl (σ2.1 c9))) hx hb hK hP c9 2 (by rw [wld_get hk]; simp only [cel, h5]) rfl rfl hdec k1
        · exact va_alen (x := (al c9, .inr (.inr (.inr (.inr fun j => some (ad (c9 + 1 + j))))))) hx hb hK hP c9 3 (by rw [wld_get hk]; simp only [cel, h5]) rfl rfl hdec k1
        · exact va_alen (x := (al c9, .inr (.inr (.inr (.inr fun j => some (ad (c9 + 1 + j))))))) hx hb hK hP c9 4 (by rw [wld_get hk]; simp only [cel, h5]) rfl rfl hdec k1
      | false =>
        rw [hd0] at h
        cases hd1 : (d == 1) with
        | true =>
          rw [hd1] at h
          obtain ⟨⟨g1, g2⟩, rfl, rfl, rfl, rfl⟩ := cx_inv h hc
          have hz := stc_at hSt g1 g2
          exact va_tlen hx hb hz hS rfl hdec (kk H locs ls hl hP hS)
        | false =>
          rw [hd1] at h
          match X, hX, h with
          | some x, hX, h =>
            obtain ⟨rfl, rfl, rfl, rfl, rfl⟩ := cx_inv h hc
            obtain ⟨g1, g2, g3, g4⟩ := hX x rfl
            exact va_slen hx hb g2 g3 g4 hS hdec (kk H locs ls hl hP hS)
  | getfield idx =>
    obtain rfl : len = 3 := hlen (fun _ _ _ _ h => by cases h)
    obtain ⟨C, T, N, ty0, w1, rfl, w3, w4, w5, w6, w7, w8, -⟩ := hok
    match st, h with
    | .ref c9 :: r, h =>
      simp only [exec1] at h
      have fin : ∀ v : Value, ck c9 = 5 + a → fvl ad σ a c9 b = v → W p l e R s m args below meth c H locs cells slots Qs (F0 m (pc + 3) ls (v :: est ad r)) → W p l e R s m args below meth c H locs cells slots Qs (F0 m pc ls (est ad (.ref c9 :: r))) := by
        intro v h0 hv k1
        have hk : c9 < NC := ck_nc (by have h1 : a < 9 := (List.getElem?_eq_some_iff.mp w1).1; omega)
        exact va_get hx hb hts w5 hown hK hP c9 (fs := (List.range (nf a)).map (fvl ad σ a c9)) (by rw [wld_get hk]; simp only [cel]; rw [show ck c9 = a + 5 by omega]) w1 b w3 (hts _ w6) (fun _ h9 => h9) (v := v) (by rw [List.getElem?_map, List.getElem?_range w3, ← hv]; rfl) hdec k1
      cases hd1 : (d == 1) with
      | true =>
        rw [hd1] at h
        obtain ⟨h0, rfl, rfl, rfl, rfl⟩ := cx_inv h hc
        have hd : d = 1 := by simpa using hd1
        exact fin (.long (σ2.2 c9 b)) h0 (by unfold fvl; rw [w4, hd]; rfl) (kk H locs ls hl hP hS)
      | false =>
        rw [hd1] at h
        cases hd2 : (d == 2) with
        | true =>
          rw [hd2] at h
          obtain ⟨h0, rfl, rfl, rfl, rfl⟩ := cx_inv h hc
          have hd : d = 2 := by simpa using hd2
          exact fin (.ref (ad (rf c9 b))) h0 (by unfold fvl; rw [w4, hd]; rfl) (kk H locs ls hl hP hS)
        | false =>
          rw [hd2] at h
          obtain ⟨h0, rfl, rfl, rfl, rfl⟩ := cx_inv h hc
          have n1 : d ≠ 1 := by simpa using hd1
          have n2 : d ≠ 2 := by simpa using hd2
          exact fin (.int (σ2.1 c9 b)) h0 (by unfold fvl; rw [w4]; split <;> first | rfl | (exfalso; omega)) (kk H locs ls hl hP hS)
  | putfield idx =>
    obtain rfl : len = 3 := hlen (fun _ _ _ _ h => by cases h)
    obtain ⟨C, T, N, ty0, w1, rfl, w3, w4, w5, w6, w7, w8, w9⟩ := hok
    obtain ⟨wf, wt⟩ := w9 rfl
    have fin : ∀ (v : Value) (c9 : Nat) (r : List Value) (σ3 : Sg), ck c9 = 5 + a → narrow (ty0 b) v = v → fits (ty0 b) v = true → (List.range (nf a)).map (fvl ad σ3 a c9) = ((List.range (nf a)).map (fvl ad σ a c9)).set b v → (∀ j, j ≠ c9 → cel tc ad σ3 j = cel tc ad σ j) →
        Wk (D := D) p l e R s m args below meth c cells slots Qs tc ad A nL (pc + 3, lv, r, σ3) → W p l e R s m args below meth c H locs cells slots Qs (F0 m pc ls (v :: .ref (ad c9) :: est ad r)) := by
      intro v c9 r σ3 h0 hn hf hs ho k1
      have hk : c9 < NC := ck_nc (by have h1 : a < 9 := (List.getElem?_eq_some_iff.mp w1).1; omega)
      refine va_put hx hb hts w5 ty0 w7 w8 hown hK hP hD hS c9 (fs := (List.range (nf a)).map (fvl ad σ a c9)) (by rw [wld_get hk, cel_obj h0]) w1 b w3 (hts _ w6) (fun _ h9 => h9) wf (w7 b w3) hn hf (by simpa using w3) hdec (fun H1 locs1 hP1 hD1 hS1 => k1 H1 locs1 ls hl ?_ hS1)
      have e := wld_set (tc := tc) (ad := ad) (σ := σ) (σ2 := σ3) hk ho
      rw [cel_obj h0, hs] at e
      rw [← e]
      exact hP1
    match st, h with
    | .int x :: .ref c9 :: r, h =>
      simp only [exec1] at h
      cases hd0 : (d == 0) with
      | true =>
        rw [hd0] at h
        obtain ⟨h0, rfl, rfl, rfl, rfl⟩ := cx_inv h hc
        obtain rfl : d = 0 := by simpa using hd0
        exact fin (.int x) c9 st2 _ h0 (by rw [wt]; rfl) (by rw [wt]; rfl) (fvl_si w3 (by omega) (by omega)) (fun j hj => cel_si hj) kk
      | false =>
        rw [hd0] at h
        cases hd3 : (d == 3) with
        | true =>
          rw [hd3] at h
          obtain ⟨⟨h0, h1⟩, rfl, rfl, rfl, rfl⟩ := cx_inv h hc
          obtain rfl : d = 3 := by simpa using hd3
          exact fin (.int x) c9 st2 _ h0 (by rw [wt]; exact (nb_fit h1).1) (by rw [wt]; exact (nb_fit h1).2) (fvl_si w3 (by omega) (by omega)) (fun j hj => cel_si hj) kk
        | false =>
          rw [hd3] at h
          cases h
    | .long x :: .ref c9 :: r, h =>
      simp only [exec1] at h
      cases hd1 : (d == 1) with
      | true =>
        rw [hd1] at h
        obtain ⟨h0, rfl, rfl, rfl, rfl⟩ := cx_inv h hc
        obtain rfl : d = 1 := by simpa using hd1
        exact fin (.long x) c9 st2 _ h0 (by rw [wt]; rfl) (by rw [wt]; rfl) (fvl_sl w3 w4) (fun j hj => cel_sl hj) kk
      | false =>
        rw [hd1] at h
        cases h
  | getstatic idx =>
    obtain rfl : len = 3 := hlen (fun _ _ _ _ h => by cases h)
    obtain ⟨i, h1, rfl, hw⟩ := hok
    obtain ⟨rfl, rfl, rfl, rfl⟩ := nx_inv h
    rcases hw with hw | ⟨host, hw⟩
    · exact va_gets hx hb (hSt i h1).1 hS hown (hts _ hw) (fun _ h9 => h9) hdec (kk H locs ls hl hP hS)
    · exact va_getsN hx hb (hSt i h1).1 hS hown (va_Nw.use rfl (hNs _ hw rfl)) (fun _ h9 => h9) hdec (kk H locs ls hl hP hS)
  | invokestatic idx =>
    obtain rfl : len = 3 := hlen (fun _ _ _ _ h => by cases h)
    simp only [exec1] at h
    cases hd7 : (d == 7) with
    | false =>
      rw [hd7] at h
      have hcatx : ∀ r : List Value, (r.map fun v => v.category).sum ≤ 8 → ((r.map (enc ad)).map fun v => v.category).sum + 13 ≤ R.locals := fun r h8 => by
        have h1 := est_cat ad r
        unfold est at h1
        rw [h1]
        have := hRm.2
        omega
      cases hd8 : (d == 8) with
      | true =>
        rw [hd8] at h
        obtain ⟨w1, w2, w3, w4⟩ := hok.2.2.1 (by simpa using hd8)
        match st, h with
        | .int x :: r, h =>
          obtain ⟨g, rfl, rfl, rfl, rfl⟩ := cx_inv h hc
          exact va_mabs hx hb (hml.trans hl.1.symm) hown (hts _ w1) (hts _ w2) (hts _ w3) (hts _ w4) hRm.1 (hcatx _ g) hbud.1 hbud.2 hdec (kk H locs ls hl hP hS)
      | false =>
        rw [hd8] at h
        cases hd9 : (d == 9) with
        | true =>
          rw [hd9] at h
          obtain ⟨w1, w2, w3, w4⟩ := hok.2.2.2.1 (by simpa using hd9)
          match st, h with
          | .long x :: r, h =>
            obtain ⟨g, rfl, rfl, rfl, rfl⟩ := cx_inv h hc
            exact va_mabs_long hx hb (hml.trans hl.1.symm) hown (hts _ w1) (hts _ w2) (hts _ w3) (hts _ w4) hRm.1 (hcatx _ g) hbud.1 hbud.2 hdec (kk H locs ls hl hP hS)
        | false =>
          rw [hd9] at h
          cases hd10 : (d == 10) with
          | true =>
            rw [hd10] at h
            obtain ⟨w1, w2, w3, w4⟩ := hok.2.2.2.2.1 (by simpa using hd10)
            match st, h with
            | .int y :: .int x :: r, h =>
              obtain ⟨g, rfl, rfl, rfl, rfl⟩ := cx_inv h hc
              exact va_mmax hx hb (hml.trans hl.1.symm) hown (hts _ w1) (hts _ w2) (hts _ w3) (hts _ w4) hRm.1 (hcatx _ g) hbud.1 hbud.2 hdec (kk H locs ls hl hP hS)
          | false =>
            rw [hd10] at h
            cases hd11 : (d == 11) with
            | true =>
              rw [hd11] at h
              obtain ⟨w1, w2, w3, w4⟩ := hok.2.2.2.2.2 (by simpa using hd11)
              match st, h with
              | .int y :: .int x :: r, h =>
                obtain ⟨g, rfl, rfl, rfl, rfl⟩ := cx_inv h hc
                exact va_mmin hx hb (hml.trans hl.1.symm) hown (hts _ w1) (hts _ w2) (hts _ w3) (hts _ w4) hRm.1 (hcatx _ g) hbud.1 hbud.2 hdec (kk H locs ls hl hP hS)
            | false =>
              rw [hd11] at h
              cases h
    | true =>
      rw [hd7] at h
      obtain rfl : d = 7 := by simpa using hd7
      obtain ⟨w1, w2, w3, w4⟩ := hok.1 rfl
      match st, h with
      | .int n :: .int dp :: .ref c1 :: .int sp :: .ref c0 :: r, h =>
        obtain ⟨⟨⟨g0, g1, g2⟩, ⟨g3, g4, g5⟩, g6, g7⟩, rfl, rfl, rfl, rfl⟩ := cx_inv h hc
        have hk0 : c0 < NC := ck_lt g0 (by decide)
        have hk1 : c1 < NC := ck_lt g1 (by decide)
        refine va_copyi (f := σ.1 c0) (g := σ.1 c1) (c1 := tc 0) (n1 := al c1) hx hb (hml.trans hl.1.symm) hown (hts _ w1) (hts _ w2) (hts _ w3) (hts _ w4) hK hP hD hS c0 c1 0 0 (by rw [wld_get hk0]; simp only [cel, g0]) (by rw [wld_get hk1]; simp only [cel, g1]) rfl rfl rfl g3 g4 g5 g6 g7 (fun _ _ => rfl) hRm.1 ?_ hdec (fun H1 locs1 hP1 hD1 hS1 => kk H1 locs1 ls hl ?_ hS1)
        · have hcat := est_cat ad st2
          unfold est at hcat
          rw [hcat]
          have : nativeFrameWords "java/lang/System" "arraycopy" 5 + 11 ≤ 56 := by decide +kernel
          have h64 := hRm.2
          omega
        · have e := wld_set (tc := tc) (ad := ad) (σ := σ) (σ2 := scp σ c0 c1 sp.toNatClampNeg dp.toNatClampNeg n.toNatClampNeg) hk1 (fun j hj => cel_scp hj)
          rw [show cel tc ad (scp σ c0 c1 sp.toNatClampNeg dp.toNatClampNeg n.toNatClampNeg) c1 = .inl (tc 0, al c1, .inl (va_cpy (σ.1 c0) (σ.1 c1) sp.toNatClampNeg dp.toNatClampNeg n.toNatClampNeg)) by simp only [cel, g1]; simp [scp]] at e
          rw [← e]
          exact hP1
  | _ => first | (simp [exec1] at h; done) | cases h
end SND
end
section
/-! ===== calls, returns, a method's contract out of the small machine ===== -/
def rmL (d : Nat) : Room := { frames := d, cells := 0, slots := 0, locals := 64 * d }
theorem conj_app : ∀ {a b : List Prop}, conj (a ++ b) → conj a ∧ conj b
  | [], _, h => ⟨trivial, h⟩
  | _ :: _, _, h => ⟨⟨h.1, (conj_app h.2).1⟩, (conj_app h.2).2⟩
theorem popn_spec : ∀ (n : Nat) (acc st as r : List Value), popn n acc st = some (as, r) → ∃ zs, zs.length = n ∧ st = zs ++ r ∧ as = zs.reverse ++ acc
  | 0, acc, st, as, r, h => by
    simp only [popn, Option.some.injEq, Prod.mk.injEq] at h
    obtain ⟨rfl, rfl⟩ := h
    exact ⟨[], rfl, rfl, rfl⟩
  | n + 1, acc, [], as, r, h => by cases h
  | n + 1, acc, v :: st, as, r, h => by
    obtain ⟨zs, h1, h2, h3⟩ := popn_spec n (v :: acc) st as r h
    exact ⟨v :: zs, by simp [h1], by rw [h2]; rfl, by rw [h3]; simp⟩
theorem popn_nil {n : Nat} {st as r : List Value} (h : popn n [] st = some (as, r)) : as.length = n ∧ st = as.reverse ++ r := by
  obtain ⟨zs, h1, h2, h3⟩ := popn_spec n [] st as r h
  simp only [List.append_nil] at h3
  subst h3
  exact ⟨by simpa using h1, by simpa using h2⟩
def PcM (D : va_G) (tc : Nat → ClassId) (ad : Nat → Nat) (as : List Value) (σ : Sg) : Array Value → State → Prop := va_Pc (est ad as) (fun U => va_P D cl (wld tc ad σ) U.heap ∧ va_K D cl (tys tc) U ∧ Stc (inA ad) ad U U.heap ∧ Nst U)
def QcM (D : va_G) (tc : Nat → ClassId) (ad : Nat → Nat) (P : Option Value → Sg → Prop) : Array Value → State → Outcome → State → Prop := fun _ st oc t => (∃ v σ2, oc = .returned (v.map (enc ad)) ∧ P v σ2 ∧ va_P D cl (wld tc ad σ2) t.heap) ∧ va_F (inA ad) st t
theorem PcM.blind (D : va_G) (tc : Nat → ClassId) (ad : Nat → Nat) (as : List Value) (σ : Sg) : FrameBlind (PcM D tc ad as σ) := fun a U g mk q => by
  obtain ⟨q0, q1, q2, q3, q4⟩ := q
  exact ⟨q0, q1, va_K.moved (u := U) (U := U.calling g mk a) (Vm.Alike.refl U.vm) q2, Stc.moved (u := U) (U := U.calling g mk a) (Vm.Alike.refl U.vm) q3, Nst.same (u := U) (U := U.calling g mk a) rfl q4⟩
def MetM (M : Nat → MI) (l : Launch) (D : va_G) (tc : Nat → ClassId) (ad : Nat → Nat) (d mid : Nat) (as : List Value) (σ : Sg) (P : Option Value → Sg → Prop) : Prop :=
  Met l (M mid).1 (Cond.code (M mid).1 (M mid).2.1 (M mid).2.2.1 (M mid).2.2.2 :: TB) (rmL d) (PcM D tc ad as σ) (QcM D tc ad P) 0 0 (inA ad)
section SND2
variable {p : Program} {l : Launch} {e : Env} {R : Room} {s : State} {m : MethodId} {args : Array Value} {below : List Frame} {meth : Method} {c : Code} {cells slots : Nat} {Qs : State → Prop}
variable {D : va_G} {tc : Nat → ClassId} {ad : Nat → Nat} {A : Nat → Prop} {own : String} {cc : ByteArray} {nL : Nat} {X : RO} {M : Nat → MI}
theorem blk_ok (F : Fx p R s m args c D tc ad A own cc nL X) (hbud : cells ≤ R.cells ∧ slots ≤ R.slots) : ∀ (L : List Ent), (∀ en ∈ L, EntOK M own cc nL en) → ∀ (q : PS) (cs : List Prop) (q2 : PS), blk X L q = some (cs, q2) → conj cs →
    Wk (D := D) p l e R s m args below meth c cells slots Qs tc ad A nL q2 → Wk (D := D) p l e R s m args below meth c cells slots Qs tc ad A nL q
  | [], _, q, cs, q2, h, _, kk => by
    simp only [blk, Option.some.injEq, Prod.mk.injEq] at h
    rw [h.2]
    exact kk
  | en :: L, hok, (pc, lv, st, σ), cs, q2, h, hc, kk => by
    simp only [blk] at h
    cases hb : (en.1 == pc) with
    | false => rw [hb] at h; cases h
    | true =>
      rw [hb] at h
      have hpc : en.1 = pc := by simpa using hb
      simp only [cond_true] at h
      split at h
      · cases h
      · rename_i c1 s1 h1
        split at h
        · cases h
        · rename_i c2 s2 h2
          simp only [Option.some.injEq, Prod.mk.injEq] at h
          obtain ⟨rfl, rfl⟩ := h
          obtain ⟨hc1, hc2⟩ := conj_app hc
          have k2 := blk_ok F hbud L (fun en hen => hok en (List.mem_cons_of_mem _ hen)) s1 c2 s2 h2 hc2 kk
          obtain ⟨pc1, lv1, st1, σ1⟩ := s1
          rw [← hpc]
          exact exec1_ok F hbud (hok en List.mem_cons_self) h1 hc1 k2
theorem run_ok {H : Heap} {locs : List Loc} {pc : Nat} {lv : LV} {ls : Array Slot} {st0 r : List Value} {P : Option Value → Sg → Prop} {a : Array Value} (hAd : ∀ q, inA ad q → A q) (hl : lv_has ls nL (elv ad lv)) (hr : va_Run p l e R s m args below meth c H locs cells slots 0 0 (F0 m pc ls st0) (est ad r) (QcM D tc ad P a) (inA ad)) (hS : va_S A s.heap H locs)
    (kk : ∀ v σ2, P v σ2 → Wk (D := D) p l e R s m args below meth c cells slots Qs tc ad A nL (pc + 3, lv, v.toList ++ r, σ2)) : W p l e R s m args below meth c H locs cells slots Qs (F0 m pc ls st0) := by
  intro T hT X
  obtain ⟨v, st₀, t, T', L, h0, X', hL, e1, e2, ⟨⟨v2, σ2, hv, hp, hP⟩, hz, hk⟩, st⟩ := hr T hT X
  cases hv
  rw [h0] at hz hk
  have k1 := kk v2 σ2 hp T'.heap (locs ++ L) ls hl (by rw [e1]; exact hP) ⟨Nat.le_trans hS.1 (by rw [e1]; exact hz), fun q h1 h2 => by rw [e1, hk q (Nat.lt_of_lt_of_le h1 hS.1) (fun z => h2 (hAd q z))]; exact hS.2.1 q h1 h2, fun q hq => by
      rcases List.mem_append.mp hq with h | h
      · exact hS.2.2 q h
      · exact hAd _ (hL q h)⟩
  obtain ⟨t2, a1, b1⟩ := k1 T' rfl X'
  refine ⟨t2, st t2 ?_, b1⟩
  have es : est ad (v2.toList ++ r) = (v2.map (enc ad)).toList ++ est ad r := by cases v2 <;> simp [est]
  dsimp only at a1
  rw [es] at a1
  exact a1
theorem call_ok (F : Fx p R s m args c D tc ad A own cc nL X) {en : Ent} (hok : EntOK M own cc nL en) {lv : LV} {st : List Value} {σ : Sg} {cp : Prop} {as r : List Value} {P : Option Value → Sg → Prop} {d0 : Nat} (h : icall en st = some (cp, as, r)) (hc : cp) (hM : MetM M l D tc ad d0 en.2.2.2.1 as σ P) (hd : d0 + 1 ≤ R.frames ∧ 64 * (d0 + 1) ≤ R.locals) (hbud : cells ≤ R.cells ∧ slots ≤ R.slots)
    (kk : ∀ v σ2, P v σ2 → Wk (D := D) p l e R s m args below meth c cells slots Qs tc ad A nL (en.1 + 3, lv, v.toList ++ r, σ2)) : Wk (D := D) p l e R s m args below meth c cells slots Qs tc ad A nL (en.1, lv, st, σ) := by
  obtain ⟨hx, hb, hml, hown, hts, hK, hinj, hAd, ⟨hSt, hNs⟩, hRm, hX⟩ := F
  obtain ⟨pc, ins, len, a, b, d, zs⟩ := en
  obtain ⟨hdec, hok, hlen⟩ := hok
  intro H locs ls hl hP hS
  dsimp only at hdec hlen hok hl hP hS hM kk ⊢
  have hpre : ∀ U : State, U.heap = H → s.WarmedH U.vm → va_P D cl (wld tc ad σ) U.heap ∧ va_K D cl (tys tc) U ∧ Stc (inA ad) ad U U.heap ∧ Nst U := fun U hU hW => ⟨by rw [hU]; exact hP, va_K.moved hW.alike hK, by
    rw [hU]
    exact Stc.narrow (Stc.moved hW.alike (hSt.kept (fun q h1 h2 => hS.2.1 q h1 h2))) hAd, Nst.warm hW hNs⟩
  have hlo : (M a).2.2.1 ≤ 45 → 8 + ((M a).2.2.1 + 11) + (rmL d0).locals ≤ R.locals := fun h => by
    show 8 + ((M a).2.2.1 + 11) + 64 * d0 ≤ R.locals
    omega
  cases ins with
  | invokevirtual idx =>
    obtain rfl : len = 3 := hlen (fun _ _ _ _ h => by cases h)
    obtain ⟨⟨w0, w1, w2, w3, w4⟩, w5, w6, w7, q, w8, w9⟩ := hok
    simp only [icall] at h
    split at h
    · rename_i as2 c9 r2 hp
      simp only [Option.some.injEq, Prod.mk.injEq] at h
      obtain ⟨rfl, rfl, rfl⟩ := h
      obtain ⟨h0, h1⟩ := hc
      obtain ⟨e1, rfl⟩ := popn_nil hp
      have hk : c9 < NC := ck_nc (by have h1 : d < 9 := (List.getElem?_eq_some_iff.mp w8).1; omega)
      have hrecv := va_recv hK hP (q0 := c9) (ci := d) w8 (by rw [wld_get hk, cel_obj h0])
      rw [w9] at hrecv
      refine run_ok hAd hl (va_runV (As := est ad as2) (rest := est ad r2) (n := b) ⟨hx, hb, hml, hown, hts⟩ hM ⟨callB_of b hts (tb_goodIn w1) rfl rfl rfl (hts _ w2) (hts _ w5) ⟨w3.1, w3.2, w4⟩ ⟨hd.1, hlo w0⟩, hts _ w6, hts _ w7⟩ ⟨PcM.blind _ _ _ _ _, hrecv, fun U hU hW => ⟨rfl, hpre U hU hW⟩⟩ rfl (by simpa [est] using e1) hl.1 ?_ (lv_room (by rw [est_cat]; exact h1)) hdec ⟨hbud.1, hbud.2⟩) hS kk
      simp [est, enc, F0]
    · cases h
  | invokestatic idx =>
    obtain rfl : len = 3 := hlen (fun _ _ _ _ h => by cases h)
    simp only [icall] at h
    cases hd7 : (Nat.blt 6 d) with
    | true => rw [hd7] at h; cases h
    | false =>
      rw [hd7] at h
      obtain ⟨⟨w0, w1, w2, w3, w4⟩, w5, w6⟩ := hok.2.1 (fun q => by rw [Nat.blt_eq.mpr q] at hd7; cases hd7)
      simp only [cond_false] at h
      split at h
      · rename_i as2 r2 hp
        simp only [Option.some.injEq, Prod.mk.injEq] at h
        obtain ⟨rfl, rfl, rfl⟩ := h
        obtain ⟨e1, rfl⟩ := popn_nil hp
        have hst0 : est ad (as2.reverse ++ r2) = (est ad as2).reverse ++ est ad r2 := by simp [est]
        rcases w5 with w5 | ⟨host, w5⟩
        · exact run_ok hAd hl (va_runS (As := est ad as2) (rest := est ad r2) (n := b) ⟨hx, hb, hml, hown, hts⟩ hM ⟨callB_of b hts (tb_goodIn w1) rfl rfl rfl (hts _ w2) (hts _ w5) ⟨w3.1, w3.2, w4⟩ ⟨hd.1, hlo w0⟩, hts _ w6⟩ ⟨PcM.blind _ _ _ _ _, fun U hU hW => ⟨rfl, hpre U hU hW⟩⟩ rfl (by simpa [est] using e1) hl.1 hst0 (lv_room (by rw [est_cat]; exact hc)) hdec ⟨hbud.1, hbud.2⟩) hS kk
        · exact run_ok hAd hl (va_runSN (As := est ad as2) (rest := est ad r2) (n := b) (host := host) ⟨hx, hb, hml, hown, hts⟩ hM ⟨va_cnB b hts (tb_goodIn w1) rfl rfl rfl (hNs _ w5 rfl) (hts _ w2) ⟨w3.1, w3.2, w4⟩ ⟨hd.1, hlo w0⟩, hts _ w6, trivial⟩ ⟨PcM.blind _ _ _ _ _, fun U hU hW => ⟨rfl, hpre U hU hW⟩⟩ rfl (by simpa [est] using e1) hl.1 hst0 (lv_room (by rw [est_cat]; exact hc)) hdec ⟨hbud.1, hbud.2⟩) hS kk
      · cases h
  | _ => first | (simp [icall] at h; done) | cases h
theorem Rch_ok (F : Fx p R s m args c D tc ad A own cc nL X) {cs : List (List Ent)} {G : Env1} {Q : Option Value → Sg → Prop} (hcs : ∀ (k : Nat) (L : List Ent), cs[k]? = some L → ∀ en ∈ L, EntOK M own cc nL en) (hG : ∀ mid as σ P, G mid as σ P → ∃ d0, (d0 + 1 ≤ R.frames ∧ 64 * (d0 + 1) ≤ R.locals) ∧ MetM M l D tc ad d0 mid as σ P) (hbud : cells ≤ R.cells ∧ slots ≤ R.slots)
    (hret : ∀ (k : Nat) (en : Ent) (cp : Prop) (v : Option Value) (lv : LV) (st : List Value) (σ : Sg), cs[k]? = some [en] → EntOK M own cc nL en → retv en st = some (cp, v) → cp → Q v σ → Wk (D := D) p l e R s m args below meth c cells slots Qs tc ad A nL (en.1, lv, st, σ)) :
    ∀ (n : Nat) (q : PS), Rch X G cs Q n q → Wk (D := D) p l e R s m args below meth c cells slots Qs tc ad A nL q := by
  intro n
  induction n with
  | zero => intro q h; exact h.elim
  | succ n ih =>
    intro q h
    obtain ⟨pc, lv, st, σ⟩ := q
    rcases h with ⟨k, L, cp, q2, h1, h2, h3, h4⟩ | ⟨ks, lv2, h1, h2⟩ | ⟨k, en, cp, as, r, h1, h2, h3, h4, h5⟩ | ⟨k, en, cp, v, h1, h2, h3, h4, h5⟩
    · exact blk_ok F hbud L (hcs k L h1) _ cp q2 h2 h3 (ih q2 h4)
    · intro H locs ls hl hP hS
      subst h1
      exact ih _ h2 H locs ls (elv_pick ks hl) hP hS
    · subst h2
      obtain ⟨d0, hd, hM⟩ := hG _ _ _ _ h5
      exact call_ok F (hcs k _ h1 en List.mem_cons_self) h3 h4 hM hd hbud (fun v σ2 hv => ih _ hv)
    · subst h2
      exact hret k en cp v lv st σ h1 (hcs k _ h1 en List.mem_cons_self) h3 h4 h5
end SND2
/-- what a method does, calls as deep as d -/
def Ev (M : Nat → MI) (C : Nat → List (List Ent)) : Nat → Env1
  | 0 => fun _ _ _ _ => False
  | d + 1 => fun mid as σ Q => (lg_sl as).length ≤ (M mid).2.2.1 ∧ Rc none (Ev M C d) (C mid) (0, lv_args 0 as, [], σ) Q
theorem Ev.mono {M : Nat → MI} {C : Nat → List (List Ent)} : ∀ (d : Nat) (mid : Nat) (as : List Value) (σ : Sg) (P P2 : Option Value → Sg → Prop), (∀ v σ, P v σ → P2 v σ) → Ev M C d mid as σ P → Ev M C d mid as σ P2
  | 0, _, _, _, _, _, _, h => h
  | d + 1, mid, as, σ, P, P2, hP, h => by
    obtain ⟨h1, n, h2⟩ := h
    exact ⟨h1, n, Rch.mono hP (fun m as σ P P2 hp h => Ev.mono d m as σ P P2 hp h) n _ h2⟩
theorem Ev.up {M : Nat → MI} {C : Nat → List (List Ent)} : ∀ (d : Nat) (mid : Nat) (as : List Value) (σ : Sg) (P : Option Value → Sg → Prop), Ev M C d mid as σ P → Ev M C (d + 1) mid as σ P
  | 0, _, _, _, _, h => h.elim
  | d + 1, mid, as, σ, P, h => by
    obtain ⟨h1, n, h2⟩ := h
    exact ⟨h1, n, Rch.mono (fun _ _ h => h) (fun m as σ P P2 hp h => Ev.up d m as σ P2 (Ev.mono d m as σ P P2 hp h)) n _ h2⟩
theorem Ev.le {M : Nat → MI} {C : Nat → List (List Ent)} {d d2 mid : Nat} {as : List Value} {σ : Sg} {P : Option Value → Sg → Prop} (hd : d ≤ d2) (h : Ev M C d mid as σ P) : Ev M C d2 mid as σ P := by
  induction hd with
  | refl => exact h
  | step _ ih => exact Ev.up _ _ _ _ _ ih
def RetOK (ret : Option FieldType) (en : Ent) : Prop := match en.2.1 with
  | .ireturn => (en.2.2.2.1 = 0 ∧ ret = some .int) ∨ (en.2.2.2.1 = 1 ∧ ret = some .boolean)
  | .lreturn => ret = some .long
  | .areturn => ret = some (.array .int)
  | .return_ => ret = none
  | _ => True
def MthOK (M : Nat → MI) (C : Nat → List (List Ent)) (mid : Nat) : Prop := plainName (M mid).1.cls = true ∧ Cond.code (M mid).1 (M mid).2.1 (M mid).2.2.1 (M mid).2.2.2 ∈ TB ∧ ∀ L ∈ C mid, ∀ en ∈ L, EntOK M (M mid).1.cls (M mid).2.1 (M mid).2.2.1 en ∧ RetOK (M mid).2.2.2 en
theorem lv_args_enc (ad : Nat → Nat) : ∀ (i : Nat) (as : List Value), lv_args i (est ad as) = elv ad (lv_args i as)
  | _, [] => rfl
  | i, v :: vs => by
    show (i, enc ad v) :: lv_args (if (enc ad v).category = 2 then i + 2 else i + 1) (est ad vs) = _
    rw [enc_cat, lv_args_enc ad]
    rfl
theorem lg_sl_enc (ad : Nat → Nat) (as : List Value) : (lg_sl (est ad as)).length = (lg_sl as).length := by
  unfold lg_sl est
  induction as with
  | nil => rfl
  | cons v vs ih =>
    simp only [List.map_cons, List.flatMap_cons, List.length_append, enc_cat]
    rw [ih]
    split <;> rfl
end
section
/-! ===== a method's contract, from what the small machine does ===== -/
theorem Rch.empty {X : RO} {G : Env1} {Q : Option Value → Sg → Prop} : ∀ (n : Nat) (q : PS), ¬ Rch X G [] Q n q := by
  intro n
  induction n with
  | zero => intro q h; exact h
  | succ n ih =>
    intro q h
    obtain ⟨pc, lv, st, σ⟩ := q
    rcases h with ⟨k, L, cp, q2, h1, h2, h3, h4⟩ | ⟨ks, lv2, h1, h2⟩ | ⟨k, en, cp, as, r, h1, h2, h3, h4, h5⟩ | ⟨k, en, cp, v, h1, h2, h3, h4, h5⟩
    · simp at h1
    · exact ih _ h2
    · simp at h1
    · simp at h1
theorem Ev_ok {M : Nat → MI} {C : Nat → List (List Ent)} (hall : ∀ mid, C mid ≠ [] → MthOK M C mid) (l : Launch) (D : va_G) (tc : Nat → ClassId) (ad : Nat → Nat) (hinj : ∀ i j, i < NC → j < NC → ad i = ad j → i = j) :
    ∀ (d : Nat) (mid : Nat) (as : List Value) (σ : Sg) (P : Option Value → Sg → Prop), Ev M C d mid as σ P → MetM M l D tc ad d mid as σ P := by
  intro d
  induction d with
  | zero => intro mid as σ P h; exact h.elim
  | succ d ih =>
    intro mid as σ P h
    obtain ⟨hlen, n, hr⟩ := h
    have hne : C mid ≠ [] := fun q => by
      rw [q] at hr
      exact Rch.empty n _ hr
    obtain ⟨hpl, hcode, hent⟩ := hall mid hne
    refine Met.ofW (cc := (M mid).2.1) (maxL := (M mid).2.2.1) (ret := (M mid).2.2.2) hpl rfl ?_
    intro p e s m args below meth c s₁ B hml hv
    obtain ⟨rfl, hP, hK, hSt, hNs⟩ := hv
    have hx := B.exec
    have hb := B.bytes
    have hrt := B.returns
    have hts := atoms_spec (ws := Cond.code (M mid).1 (M mid).2.1 (M mid).2.2.1 (M mid).2.2.2 :: TB) B.pre
    have hown : s.vm.findClass (M mid).1.cls = some m.cls := findClass_of_methodNamed B.named
    have hlocks := B.notSynchronized
    have F : Fx p (rmL (d + 1)) s m (est ad as).toArray c D tc ad (inA ad) (M mid).1.cls (M mid).2.1 (M mid).2.2.1 none := ⟨hx, hb, hml, hown, fun w hw => hts w (List.mem_cons_of_mem _ hw), hK, hinj, fun _ h => h, ⟨hSt, hNs⟩, ⟨by show 1 ≤ d + 1; omega, by show 64 ≤ 64 * (d + 1); omega⟩, fun x h => by cases h⟩
    have hl := lv_entry (est ad as) (n := (M mid).2.2.1) (by rw [lg_sl_enc]; exact hlen)
    rw [lg_entry_eq]
    rw [lv_args_enc] at hl
    refine Rch_ok F (cs := C mid) (G := Ev M C d) (Q := P) (fun k L hk en hen => (hent L (List.mem_of_getElem? hk) en hen).1) (fun mid as σ P h => ⟨d, ⟨Nat.le_refl _, Nat.le_refl _⟩, ih mid as σ P h⟩) ⟨Nat.le_refl _, Nat.le_refl _⟩ ?_ n (0, lv_args 0 as, [], σ) hr s.heap [] _ hl hP va_S.rf
    intro k en cp v lv st σ2 hk hok hrv hcp hQ H locs ls hl2 hP2 hS2
    obtain ⟨-, hro⟩ := hent _ (List.mem_of_getElem? hk) en List.mem_cons_self
    obtain ⟨pc, ins, len, a, b, d1, zs⟩ := en
    obtain ⟨hdec, -, hln⟩ := hok
    dsimp only at hdec hln hP2 ⊢
    have hq : ∀ (v : Option Value) (t : State), P v σ2 → t.heap = H → QcM D tc ad P (est ad as).toArray s (.returned (v.map (enc ad))) t := fun v t hp ht => ⟨⟨v, σ2, rfl, hp, by rw [ht]; exact hP2⟩, hS2.F ht⟩
    cases ins with
    | ireturn =>
      obtain rfl : len = 1 := hln (fun _ _ _ _ h => by cases h)
      match st, hrv with
      | [.int x], hrv =>
        simp only [retv] at hrv
        rcases hro with ⟨h1, h2⟩ | ⟨h1, h2⟩
        · dsimp only at h1
          subst h1
          simp only [Option.some.injEq, Prod.mk.injEq, Nat.reduceBEq, cond_false] at hrv
          obtain ⟨-, rfl⟩ := hrv
          exact W.iret hx hb (hrt.trans h2) (fun t ht hW => hq (some (.int x)) t hQ ht) hS2.2.2 hdec
        · dsimp only at h1
          subst h1
          simp only [Option.some.injEq, Prod.mk.injEq, Nat.reduceBEq, cond_true] at hrv
          obtain ⟨rfl, rfl⟩ := hrv
          exact W.zret hx hb (hrt.trans h2) (nb_fit hcp).1 (fun t ht hW => hq (some (.int x)) t hQ ht) hS2.2.2 hdec
    | lreturn =>
      obtain rfl : len = 1 := hln (fun _ _ _ _ h => by cases h)
      match st, hrv with
      | [.long x], hrv =>
        simp only [retv, Option.some.injEq, Prod.mk.injEq] at hrv
        obtain ⟨-, rfl⟩ := hrv
        exact W.lret hx hb (hrt.trans hro) (fun t ht hW => hq (some (.long x)) t hQ ht) hS2.2.2 hdec
    | areturn =>
      obtain rfl : len = 1 := hln (fun _ _ _ _ h => by cases h)
      match st, hrv with
      | [.ref x], hrv =>
        simp only [retv, Option.some.injEq, Prod.mk.injEq] at hrv
        obtain ⟨-, rfl⟩ := hrv
        exact W.aret hx hb (hrt.trans hro) (Or.inr ⟨_, rfl⟩) (Or.inr ⟨_, rfl⟩) (fun t ht hW => hq (some (.ref x)) t hQ ht) hS2.2.2 hdec
    | return_ =>
      obtain rfl : len = 1 := hln (fun _ _ _ _ h => by cases h)
      match st, hrv with
      | [], hrv =>
        simp only [retv, Option.some.injEq, Prod.mk.injEq] at hrv
        obtain ⟨-, rfl⟩ := hrv
        exact W.vret hx hb (hrt.trans hro) (fun t ht hW => hq none t hQ ht) hS2.2.2 hdec
    | _ => first | (simp [retv] at hrv; done) | cases hrv
end
section
/-! ===== what the instructions link to, out of the tables' words ===== -/
def RJ6 : String := "java/lang/Integer"
def RJ9 : String := "java/lang/Math"
def RJ7 : String := "java/util/Arrays"
def RL : String := "PureGroupsLaw"
theorem tb_in (ws : List Cond) (ps : List Nat) (hp : ws = ps.filterMap (fun i => lw_tbl[i]?)) (h : ws.all goodWord = true) : ∀ w ∈ ws, w ∈ TB := by
  intro w hw
  have h1 := List.all_eq_true.mp h w hw
  rw [hp] at hw
  obtain ⟨i, -, hi⟩ := List.mem_filterMap.mp hw
  exact List.mem_filter.mpr ⟨List.mem_of_getElem? hi, h1⟩
abbrev Lnk : Type := Nat × Nat × Nat × Nat × Nat × Int
def LnkOK (M : Nat → MI) (own : String) (q : Lnk) : Prop := match q with
  | (0, idx, a, b, d, _) => FldOK own idx a b d false
  | (1, idx, a, b, d, _) => FldOK own idx a b d true
  | (2, idx, a, _, _, _) => StaOK own idx a
  | (3, idx, a, b, d, _) => VirOK M own idx a b d
  | (4, idx, a, b, _, _) => StmOK M own idx a b
  | (8, idx, _, _, _, _) => ArcOK own idx
  | (9, idx, _, _, _, _) => MabOK own idx
  | (10, idx, _, _, _, _) => MalOK own idx
  | (11, idx, _, _, _, _) => MaxOK own idx
  | (12, idx, _, _, _, _) => MinOK own idx
  | (6, idx, _, _, _, z) => Cond.constant own idx (Int32.ofInt z) ∈ TB
  | (_, idx, _, _, _, z) => Cond.constantLong own idx (Int64.ofInt z) ∈ TB
def chkE (cc : ByteArray) (nL : Nat) (ret : Option FieldType) (lk : List Lnk) (e : Ent) : Bool :=
  decide (decode cc e.1 = .ok (e.2.1, e.2.2.1)) && (match e with
  | (pc, ins, len, a, b, d, zs) => (match ins with
    | .tableswitch df lo hi offs => decide ((pc : Int) + df = (a : Int)) && decide (hi = lo + zs.length - 1) && decide (-2147483648 ≤ lo) && decide (hi ≤ 2147483647) && (List.range zs.length).all (fun i => match offs[i]? with
      | some off => decide ((pc : Int) + off = ((zs.getD i 0).toNat : Int))
      | none => false)
    | _ => len == ilen ins) && (match ins with
    | .istore i => Nat.blt i nL
    | .istore_n k => Nat.blt k.val nL
    | .astore i => Nat.blt i nL
    | .astore_n k => Nat.blt k.val nL
    | .lstore i => Nat.blt (i + 1) nL
    | .lstore_n k => Nat.blt (k.val + 1) nL
    | .iinc i _ => Nat.blt i nL
    | .bipush n => decide ((Int8.ofInt n).toInt32 = Int32.ofInt n)
    | .sipush n => decide ((Int16.ofInt n).toInt32 = Int32.ofInt n)
    | .ldc idx => (match zs with | z :: _ => lk.contains (6, idx, 0, 0, 0, z) | [] => false)
    | .ldc_w idx => (match zs with | z :: _ => lk.contains (6, idx, 0, 0, 0, z) | [] => false)
    | .ldc2_w idx => (match zs with | z :: _ => lk.contains (7, idx, 0, 0, 0, z) | [] => false)
    | .ifCond _ off => decide ((pc : Int) + off = (a : Int))
    | .if_icmp _ off => decide ((pc : Int) + off = (a : Int))
    | .goto off => decide ((pc : Int) + off = (a : Int))
    | .getfield idx => lk.contains (0, idx, a, b, d, 0)
    | .putfield idx => lk.contains (1, idx, a, b, d, 0)
    | .getstatic idx => lk.contains (2, idx, a, 0, 0, 0)
    | .invokevirtual idx => lk.contains (3, idx, a, b, d, 0)
    | .invokestatic idx => bif Nat.blt 6 d then (Nat.ble d 11 && lk.contains (d + 1, idx, 0, 0, 0, 0)) else lk.contains (4, idx, a, b, 0, 0)
    | .ireturn => (a == 0 && decide (ret = some .int)) || (a == 1 && decide (ret = some .boolean))
    | .lreturn => decide (ret = some .long)
    | .areturn => decide (ret = some (.array .int))
    | .return_ => decide (ret = none)
    | _ => true))
theorem and_r {a b : Bool} (h : (a && b) = true) : b = true := (Bool.and_eq_true_iff.mp h).2
theorem chkE_ok {M : Nat → MI} {own : String} {cc : ByteArray} {nL : Nat} {ret : Option FieldType} {lk : List Lnk} (hlk : ∀ q ∈ lk, LnkOK M own q) {e : Ent} (h : chkE cc nL ret lk e = true) : EntOK M own cc nL e ∧ RetOK ret e := by
  obtain ⟨pc, ins, len, a, b, d, zs⟩ := e
  simp only [chkE, Bool.and_eq_true, decide_eq_true_eq] at h
  obtain ⟨h1, h2, h3⟩ := h
  have hc : ∀ q : Lnk, lk.contains q = true → LnkOK M own q := fun q hq => hlk q (by simpa using hq)
  cases ins with
  | tableswitch df lo hi offs =>
    simp only [Bool.and_eq_true, decide_eq_true_eq, List.all_eq_true] at h2
    obtain ⟨⟨⟨⟨g1, g2⟩, g3⟩, g4⟩, g5⟩ := h2
    refine ⟨⟨h1, ⟨g1, g2, ⟨g3, g4⟩, fun i hi => ?_⟩, fun h => absurd rfl (h df lo hi offs)⟩, trivial⟩
    have := g5 i (List.mem_range.mpr hi)
    split at this
    · rename_i off ho
      exact ⟨off, ho, by simpa using this⟩
    · cases this
  | istore i => exact ⟨⟨h1, by simpa using h3, fun _ => by simpa using h2⟩, trivial⟩
  | istore_n i => exact ⟨⟨h1, by simpa using h3, fun _ => by simpa using h2⟩, trivial⟩
  | astore i => exact ⟨⟨h1, by simpa using h3, fun _ => by simpa using h2⟩, trivial⟩
  | astore_n i => exact ⟨⟨h1, by simpa using h3, fun _ => by simpa using h2⟩, trivial⟩
  | lstore i => exact ⟨⟨h1, by simpa using h3, fun _ => by simpa using h2⟩, trivial⟩
  | lstore_n i => exact ⟨⟨h1, by simpa using h3, fun _ => by simpa using h2⟩, trivial⟩
  | iinc i n => exact ⟨⟨h1, by simpa using h3, fun _ => by simpa using h2⟩, trivial⟩
  | bipush n => exact ⟨⟨h1, by simpa using h3, fun _ => by simpa using h2⟩, trivial⟩
  | sipush n => exact ⟨⟨h1, by simpa using h3, fun _ => by simpa using h2⟩, trivial⟩
  | ldc idx =>
    match zs, h3 with
    | z :: r, h3 => exact ⟨⟨h1, ⟨z, r, rfl, hc _ h3⟩, fun _ => by simpa using h2⟩, trivial⟩
  | ldc_w idx =>
    match zs, h3 with
    | z :: r, h3 => exact ⟨⟨h1, ⟨z, r, rfl, hc _ h3⟩, fun _ => by simpa using h2⟩, trivial⟩
  | ldc2_w idx =>
    match zs, h3 with
    | z :: r, h3 => exact ⟨⟨h1, ⟨z, r, rfl, hc _ h3⟩, fun _ => by simpa using h2⟩, trivial⟩
  | ifCond cd off => exact ⟨⟨h1, by simpa using h3, fun _ => by simpa using h2⟩, trivial⟩
  | if_icmp cd off => exact ⟨⟨h1, by simpa using h3, fun _ => by simpa using h2⟩, trivial⟩
  | goto off => exact ⟨⟨h1, by simpa using h3, fun _ => by simpa using h2⟩, trivial⟩
  | getfield idx => exact ⟨⟨h1, hc _ h3, fun _ => by simpa using h2⟩, trivial⟩
  | putfield idx => exact ⟨⟨h1, hc _ h3, fun _ => by simpa using h2⟩, trivial⟩
  | getstatic idx => exact ⟨⟨h1, hc _ h3, fun _ => by simpa using h2⟩, trivial⟩
  | invokevirtual idx => exact ⟨⟨h1, hc _ h3, fun _ => by simpa using h2⟩, trivial⟩
  | invokestatic idx =>
    refine ⟨⟨h1, ⟨fun hd => ?_, fun hd => ?_, fun hd => ?_, fun hd => ?_, fun hd => ?_, fun hd => ?_⟩, fun _ => by simpa using h2⟩, trivial⟩
    · subst hd
      exact hc (8, idx, 0, 0, 0, 0) (and_r (a := Nat.ble 7 11) h3)
    · have hb : Nat.blt 6 d = false := by
        cases hz : Nat.blt 6 d with
        | false => rfl
        | true => exact absurd (Nat.blt_eq.mp hz) hd
      simp only [hb, cond_false] at h3
      exact hc _ h3
    · subst hd
      exact hc (9, idx, 0, 0, 0, 0) (and_r (a := Nat.ble 8 11) h3)
    · subst hd
      exact hc (10, idx, 0, 0, 0, 0) (and_r (a := Nat.ble 9 11) h3)
    · subst hd
      exact hc (11, idx, 0, 0, 0, 0) (and_r (a := Nat.ble 10 11) h3)
    · subst hd
      exact hc (12, idx, 0, 0, 0, 0) (and_r (a := Nat.ble 11 11) h3)
  | ireturn =>
    simp only [Bool.or_eq_true, Bool.and_eq_true, beq_iff_eq, decide_eq_true_eq] at h3
    exact ⟨⟨h1, trivial, fun _ => by simpa using h2⟩, h3⟩
  | lreturn => exact ⟨⟨h1, trivial, fun _ => by simpa using h2⟩, show ret = some .long by simpa using h3⟩
  | areturn => exact ⟨⟨h1, trivial, fun _ => by simpa using h2⟩, show ret = some (.array .int) by simpa using h3⟩
  | return_ => exact ⟨⟨h1, trivial, fun _ => by simpa using h2⟩, show ret = none by simpa using h3⟩
  | _ => exact ⟨⟨h1, trivial, fun _ => by simpa using h2⟩, trivial⟩
def chkM (cc : ByteArray) (nL : Nat) (ret : Option FieldType) (lk : List Lnk) (cs : List (List Ent)) : Bool := cs.all (fun L => L.all (chkE cc nL ret lk))
theorem chkM_ok {M : Nat → MI} {own : String} {cc : ByteArray} {nL : Nat} {ret : Option FieldType} {lk : List Lnk} (hlk : ∀ q ∈ lk, LnkOK M own q) {cs : List (List Ent)} (h : chkM cc nL ret lk cs = true) : ∀ L ∈ cs, ∀ en ∈ L, EntOK M own cc nL en ∧ RetOK ret en := fun L hL en hen => chkE_ok hlk (List.all_eq_true.mp (List.all_eq_true.mp h L hL) en hen)
end
