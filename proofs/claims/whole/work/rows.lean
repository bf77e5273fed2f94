section
-- ===== PART A: goes FIRST, ahead of the names: the tables' words, and 'selects' of the private methods out of them =====
/-- a private method of a class that the tables say can be made, by its rows of tables_1 -/
def lw_okq (q : MethodName × Nat) : Prop := (q.1.cls ≠ "java/lang/invoke/MethodHandle" ∧ q.1.cls ≠ "java/lang/invoke/VarHandle") ∧ Cond.instantiable q.1.cls q.2 ∈ tables_1 ∧ Cond.privateMethod q.1 ∈ tables_1 ∧ Cond.instanceMethod q.1 ∈ tables_1
theorem lw_p0 : lw_okq (⟨"PureGroups", "refused", "(I)I"⟩, 16) := ⟨⟨by decide +kernel, by decide +kernel⟩, List.mem_of_getElem? (i := 15) (by decide +kernel), List.mem_of_getElem? (i := 335) (by decide +kernel), List.mem_of_getElem? (i := 336) (by decide +kernel)⟩
theorem lw_p1 : lw_okq (⟨"PureGroups$Elimination", "bringUp", "(I)Z"⟩, 6) := ⟨⟨by decide +kernel, by decide +kernel⟩, List.mem_of_getElem? (i := 97) (by decide +kernel), List.mem_of_getElem? (i := 384) (by decide +kernel), List.mem_of_getElem? (i := 385) (by decide +kernel)⟩
theorem lw_p2 : lw_okq (⟨"PureGroups$Elimination", "clearOthers", "(I)V"⟩, 6) := ⟨⟨by decide +kernel, by decide +kernel⟩, List.mem_of_getElem? (i := 97) (by decide +kernel), List.mem_of_getElem? (i := 388) (by decide +kernel), List.mem_of_getElem? (i := 389) (by decide +kernel)⟩
theorem lw_p3 : lw_okq (⟨"PureGroups", "isQuantity", "(I)Z"⟩, 16) := ⟨⟨by decide +kernel, by decide +kernel⟩, List.mem_of_getElem? (i := 15) (by decide +kernel), List.mem_of_getElem? (i := 396) (by decide +kernel), List.mem_of_getElem? (i := 397) (by decide +kernel)⟩
theorem lw_p4 : lw_okq (⟨"PureGroups", "refusedFar", "(I)I"⟩, 16) := ⟨⟨by decide +kernel, by decide +kernel⟩, List.mem_of_getElem? (i := 15) (by decide +kernel), List.mem_of_getElem? (i := 403) (by decide +kernel), List.mem_of_getElem? (i := 404) (by decide +kernel)⟩
theorem lw_p5 : lw_okq (⟨"PureGroups", "isGroup", "(I)Z"⟩, 16) := ⟨⟨by decide +kernel, by decide +kernel⟩, List.mem_of_getElem? (i := 15) (by decide +kernel), List.mem_of_getElem? (i := 453) (by decide +kernel), List.mem_of_getElem? (i := 454) (by decide +kernel)⟩
theorem lw_p6 : lw_okq (⟨"PureGroups", "isMissing", "(I)Z"⟩, 16) := ⟨⟨by decide +kernel, by decide +kernel⟩, List.mem_of_getElem? (i := 15) (by decide +kernel), List.mem_of_getElem? (i := 482) (by decide +kernel), List.mem_of_getElem? (i := 483) (by decide +kernel)⟩
theorem lw_p7 : lw_okq (⟨"PureGroups", "takeNumbers", "(II[I)Z"⟩, 16) := ⟨⟨by decide +kernel, by decide +kernel⟩, List.mem_of_getElem? (i := 15) (by decide +kernel), List.mem_of_getElem? (i := 486) (by decide +kernel), List.mem_of_getElem? (i := 487) (by decide +kernel)⟩
theorem lw_p8 : lw_okq (⟨"PureGroups", "isPlace", "(II)Z"⟩, 16) := ⟨⟨by decide +kernel, by decide +kernel⟩, List.mem_of_getElem? (i := 15) (by decide +kernel), List.mem_of_getElem? (i := 490) (by decide +kernel), List.mem_of_getElem? (i := 491) (by decide +kernel)⟩
theorem lw_p9 : lw_okq (⟨"PureGroups", "refusedFarLong", "(I)J"⟩, 16) := ⟨⟨by decide +kernel, by decide +kernel⟩, List.mem_of_getElem? (i := 15) (by decide +kernel), List.mem_of_getElem? (i := 509) (by decide +kernel), List.mem_of_getElem? (i := 510) (by decide +kernel)⟩
theorem lw_p10 : lw_okq (⟨"PureGroups", "isSet", "(I)Z"⟩, 16) := ⟨⟨by decide +kernel, by decide +kernel⟩, List.mem_of_getElem? (i := 15) (by decide +kernel), List.mem_of_getElem? (i := 550) (by decide +kernel), List.mem_of_getElem? (i := 551) (by decide +kernel)⟩
theorem lw_p11 : lw_okq (⟨"PureGroups", "isOutside", "(II)Z"⟩, 16) := ⟨⟨by decide +kernel, by decide +kernel⟩, List.mem_of_getElem? (i := 15) (by decide +kernel), List.mem_of_getElem? (i := 569) (by decide +kernel), List.mem_of_getElem? (i := 570) (by decide +kernel)⟩
theorem lw_p12 : lw_okq (⟨"PureGroups$Choice", "lookAtOne", "(I)V"⟩, 9) := ⟨⟨by decide +kernel, by decide +kernel⟩, List.mem_of_getElem? (i := 158) (by decide +kernel), List.mem_of_getElem? (i := 582) (by decide +kernel), List.mem_of_getElem? (i := 583) (by decide +kernel)⟩
theorem lw_p13 : lw_okq (⟨"PureGroups", "isUnbalanced", "([I)Z"⟩, 16) := ⟨⟨by decide +kernel, by decide +kernel⟩, List.mem_of_getElem? (i := 15) (by decide +kernel), List.mem_of_getElem? (i := 630) (by decide +kernel), List.mem_of_getElem? (i := 631) (by decide +kernel)⟩
theorem lw_p14 : lw_okq (⟨"PureGroups$Search", "findRow", "([I)I"⟩, 7) := ⟨⟨by decide +kernel, by decide +kernel⟩, List.mem_of_getElem? (i := 199) (by decide +kernel), List.mem_of_getElem? (i := 667) (by decide +kernel), List.mem_of_getElem? (i := 668) (by decide +kernel)⟩
theorem lw_p15 : lw_okq (⟨"PureGroups$Reading", "readSum", "(I)V"⟩, 13) := ⟨⟨by decide +kernel, by decide +kernel⟩, List.mem_of_getElem? (i := 229) (by decide +kernel), List.mem_of_getElem? (i := 706) (by decide +kernel), List.mem_of_getElem? (i := 707) (by decide +kernel)⟩
def lw_privs_1 : List (MethodName × Nat) := [(⟨"PureGroups", "refused", "(I)I"⟩, 16), (⟨"PureGroups$Elimination", "bringUp", "(I)Z"⟩, 6), (⟨"PureGroups$Elimination", "clearOthers", "(I)V"⟩, 6), (⟨"PureGroups", "isQuantity", "(I)Z"⟩, 16), (⟨"PureGroups", "refusedFar", "(I)I"⟩, 16), (⟨"PureGroups", "isGroup", "(I)Z"⟩, 16), (⟨"PureGroups", "isMissing", "(I)Z"⟩, 16), (⟨"PureGroups", "takeNumbers", "(II[I)Z"⟩, 16), (⟨"PureGroups", "isPlace", "(II)Z"⟩, 16), (⟨"PureGroups", "refusedFarLong", "(I)J"⟩, 16), (⟨"PureGroups", "isSet", "(I)Z"⟩, 16), (⟨"PureGroups", "isOutside", "(II)Z"⟩, 16), (⟨"PureGroups$Choice", "lookAtOne", "(I)V"⟩, 9), (⟨"PureGroups", "isUnbalanced", "([I)Z"⟩, 16), (⟨"PureGroups$Search", "findRow", "([I)I"⟩, 7), (⟨"PureGroups$Reading", "readSum", "(I)V"⟩, 13)]
theorem lw_r1 : ∀ q ∈ lw_privs_1, lw_okq q := List.forall_mem_cons.mpr ⟨lw_p0, List.forall_mem_cons.mpr ⟨lw_p1, List.forall_mem_cons.mpr ⟨lw_p2, List.forall_mem_cons.mpr ⟨lw_p3, List.forall_mem_cons.mpr ⟨lw_p4, List.forall_mem_cons.mpr ⟨lw_p5, List.forall_mem_cons.mpr ⟨lw_p6, List.forall_mem_cons.mpr ⟨lw_p7, List.forall_mem_cons.mpr ⟨lw_p8, List.forall_mem_cons.mpr ⟨lw_p9, List.forall_mem_cons.mpr ⟨lw_p10, List.forall_mem_cons.mpr ⟨lw_p11, List.forall_mem_cons.mpr ⟨lw_p12, List.forall_mem_cons.mpr ⟨lw_p13, List.forall_mem_cons.mpr ⟨lw_p14, List.forall_mem_cons.mpr ⟨lw_p15, fun _ h => absurd h List.not_mem_nil⟩⟩⟩⟩⟩⟩⟩⟩⟩⟩⟩⟩⟩⟩⟩⟩
theorem lw_p16 : lw_okq (⟨"PureGroups$Reading", "readTerm", "(I)V"⟩, 13) := ⟨⟨by decide +kernel, by decide +kernel⟩, List.mem_of_getElem? (i := 229) (by decide +kernel), List.mem_of_getElem? (i := 710) (by decide +kernel), List.mem_of_getElem? (i := 711) (by decide +kernel)⟩
theorem lw_p17 : lw_okq (⟨"PureGroups$Reading", "readPart", "(II)V"⟩, 13) := ⟨⟨by decide +kernel, by decide +kernel⟩, List.mem_of_getElem? (i := 229) (by decide +kernel), List.mem_of_getElem? (i := 714) (by decide +kernel), List.mem_of_getElem? (i := 715) (by decide +kernel)⟩
theorem lw_p18 : lw_okq (⟨"PureGroups$Reading", "readAtom", "(I)[I"⟩, 13) := ⟨⟨by decide +kernel, by decide +kernel⟩, List.mem_of_getElem? (i := 229) (by decide +kernel), List.mem_of_getElem? (i := 718) (by decide +kernel), List.mem_of_getElem? (i := 719) (by decide +kernel)⟩
theorem lw_p19 : lw_okq (⟨"PureGroups$Reading", "next", "()I"⟩, 13) := ⟨⟨by decide +kernel, by decide +kernel⟩, List.mem_of_getElem? (i := 229) (by decide +kernel), List.mem_of_getElem? (i := 722) (by decide +kernel), List.mem_of_getElem? (i := 723) (by decide +kernel)⟩
theorem lw_p20 : lw_okq (⟨"PureGroups$Reading", "readNumber", "()V"⟩, 13) := ⟨⟨by decide +kernel, by decide +kernel⟩, List.mem_of_getElem? (i := 229) (by decide +kernel), List.mem_of_getElem? (i := 729) (by decide +kernel), List.mem_of_getElem? (i := 730) (by decide +kernel)⟩
theorem lw_p21 : lw_okq (⟨"PureGroups$Reading", "readInner", "(II)[I"⟩, 13) := ⟨⟨by decide +kernel, by decide +kernel⟩, List.mem_of_getElem? (i := 229) (by decide +kernel), List.mem_of_getElem? (i := 733) (by decide +kernel), List.mem_of_getElem? (i := 734) (by decide +kernel)⟩
theorem lw_p22 : lw_okq (⟨"PureGroups$Reading", "expect", "(I)V"⟩, 13) := ⟨⟨by decide +kernel, by decide +kernel⟩, List.mem_of_getElem? (i := 229) (by decide +kernel), List.mem_of_getElem? (i := 737) (by decide +kernel), List.mem_of_getElem? (i := 738) (by decide +kernel)⟩
theorem lw_p23 : lw_okq (⟨"PureGroups$Reading", "failHere", "()V"⟩, 13) := ⟨⟨by decide +kernel, by decide +kernel⟩, List.mem_of_getElem? (i := 229) (by decide +kernel), List.mem_of_getElem? (i := 741) (by decide +kernel), List.mem_of_getElem? (i := 742) (by decide +kernel)⟩
theorem lw_p24 : lw_okq (⟨"PureGroups$Reading", "markWrong", "(I)V"⟩, 13) := ⟨⟨by decide +kernel, by decide +kernel⟩, List.mem_of_getElem? (i := 229) (by decide +kernel), List.mem_of_getElem? (i := 746) (by decide +kernel), List.mem_of_getElem? (i := 747) (by decide +kernel)⟩
theorem lw_p25 : lw_okq (⟨"PureGroups$Reading", "readPower", "()I"⟩, 13) := ⟨⟨by decide +kernel, by decide +kernel⟩, List.mem_of_getElem? (i := 229) (by decide +kernel), List.mem_of_getElem? (i := 750) (by decide +kernel), List.mem_of_getElem? (i := 751) (by decide +kernel)⟩
theorem lw_p26 : lw_okq (⟨"PureGroups$Reading", "isNext", "(II)Z"⟩, 13) := ⟨⟨by decide +kernel, by decide +kernel⟩, List.mem_of_getElem? (i := 229) (by decide +kernel), List.mem_of_getElem? (i := 754) (by decide +kernel), List.mem_of_getElem? (i := 755) (by decide +kernel)⟩
theorem lw_p27 : lw_okq (⟨"PureGroupsModel", "refuse", "(I)I"⟩, 27) := ⟨⟨by decide +kernel, by decide +kernel⟩, List.mem_of_getElem? (i := 854) (by decide +kernel), List.mem_of_getElem? (i := 947) (by decide +kernel), List.mem_of_getElem? (i := 948) (by decide +kernel)⟩
theorem lw_p28 : lw_okq (⟨"PureGroupsModel", "isOne", "(I)Z"⟩, 27) := ⟨⟨by decide +kernel, by decide +kernel⟩, List.mem_of_getElem? (i := 854) (by decide +kernel), List.mem_of_getElem? (i := 963) (by decide +kernel), List.mem_of_getElem? (i := 964) (by decide +kernel)⟩
theorem lw_p29 : lw_okq (⟨"PureGroupsModel", "refuseFar", "(I)I"⟩, 27) := ⟨⟨by decide +kernel, by decide +kernel⟩, List.mem_of_getElem? (i := 854) (by decide +kernel), List.mem_of_getElem? (i := 971) (by decide +kernel), List.mem_of_getElem? (i := 972) (by decide +kernel)⟩
theorem lw_p30 : lw_okq (⟨"PureGroupsModel", "changes", "(II)V"⟩, 27) := ⟨⟨by decide +kernel, by decide +kernel⟩, List.mem_of_getElem? (i := 854) (by decide +kernel), List.mem_of_getElem? (i := 976) (by decide +kernel), List.mem_of_getElem? (i := 977) (by decide +kernel)⟩
theorem lw_p31 : lw_okq (⟨"PureGroupsModel", "firm", "()I"⟩, 27) := ⟨⟨by decide +kernel, by decide +kernel⟩, List.mem_of_getElem? (i := 854) (by decide +kernel), List.mem_of_getElem? (i := 988) (by decide +kernel), List.mem_of_getElem? (i := 989) (by decide +kernel)⟩
def lw_privs_2 : List (MethodName × Nat) := [(⟨"PureGroups$Reading", "readTerm", "(I)V"⟩, 13), (⟨"PureGroups$Reading", "readPart", "(II)V"⟩, 13), (⟨"PureGroups$Reading", "readAtom", "(I)[I"⟩, 13), (⟨"PureGroups$Reading", "next", "()I"⟩, 13), (⟨"PureGroups$Reading", "readNumber", "()V"⟩, 13), (⟨"PureGroups$Reading", "readInner", "(II)[I"⟩, 13), (⟨"PureGroups$Reading", "expect", "(I)V"⟩, 13), (⟨"PureGroups$Reading", "failHere", "()V"⟩, 13), (⟨"PureGroups$Reading", "markWrong", "(I)V"⟩, 13), (⟨"PureGroups$Reading", "readPower", "()I"⟩, 13), (⟨"PureGroups$Reading", "isNext", "(II)Z"⟩, 13), (⟨"PureGroupsModel", "refuse", "(I)I"⟩, 27), (⟨"PureGroupsModel", "isOne", "(I)Z"⟩, 27), (⟨"PureGroupsModel", "refuseFar", "(I)I"⟩, 27), (⟨"PureGroupsModel", "changes", "(II)V"⟩, 27), (⟨"PureGroupsModel", "firm", "()I"⟩, 27)]
theorem lw_r2 : ∀ q ∈ lw_privs_2, lw_okq q := List.forall_mem_cons.mpr ⟨lw_p16, List.forall_mem_cons.mpr ⟨lw_p17, List.forall_mem_cons.mpr ⟨lw_p18, List.forall_mem_cons.mpr ⟨lw_p19, List.forall_mem_cons.mpr ⟨lw_p20, List.forall_mem_cons.mpr ⟨lw_p21, List.forall_mem_cons.mpr ⟨lw_p22, List.forall_mem_cons.mpr ⟨lw_p23, List.forall_mem_cons.mpr ⟨lw_p24, List.forall_mem_cons.mpr ⟨lw_p25, List.forall_mem_cons.mpr ⟨lw_p26, List.forall_mem_cons.mpr ⟨lw_p27, List.forall_mem_cons.mpr ⟨lw_p28, List.forall_mem_cons.mpr ⟨lw_p29, List.forall_mem_cons.mpr ⟨lw_p30, List.forall_mem_cons.mpr ⟨lw_p31, fun _ h => absurd h List.not_mem_nil⟩⟩⟩⟩⟩⟩⟩⟩⟩⟩⟩⟩⟩⟩⟩⟩
theorem lw_p32 : lw_okq (⟨"PureGroupsModel", "isHad", "(II)Z"⟩, 27) := ⟨⟨by decide +kernel, by decide +kernel⟩, List.mem_of_getElem? (i := 854) (by decide +kernel), List.mem_of_getElem? (i := 992) (by decide +kernel), List.mem_of_getElem? (i := 993) (by decide +kernel)⟩
theorem lw_p33 : lw_okq (⟨"PureGroupsModel", "lays", "(II)I"⟩, 27) := ⟨⟨by decide +kernel, by decide +kernel⟩, List.mem_of_getElem? (i := 854) (by decide +kernel), List.mem_of_getElem? (i := 996) (by decide +kernel), List.mem_of_getElem? (i := 997) (by decide +kernel)⟩
theorem lw_p34 : lw_okq (⟨"PureGroupsModel", "powerOf", "(II)I"⟩, 27) := ⟨⟨by decide +kernel, by decide +kernel⟩, List.mem_of_getElem? (i := 854) (by decide +kernel), List.mem_of_getElem? (i := 1003) (by decide +kernel), List.mem_of_getElem? (i := 1004) (by decide +kernel)⟩
theorem lw_p35 : lw_okq (⟨"PureGroupsModel", "clears", "(II)J"⟩, 27) := ⟨⟨by decide +kernel, by decide +kernel⟩, List.mem_of_getElem? (i := 854) (by decide +kernel), List.mem_of_getElem? (i := 1007) (by decide +kernel), List.mem_of_getElem? (i := 1008) (by decide +kernel)⟩
theorem lw_p36 : lw_okq (⟨"PureGroupsModel", "swapRows", "(II)V"⟩, 27) := ⟨⟨by decide +kernel, by decide +kernel⟩, List.mem_of_getElem? (i := 854) (by decide +kernel), List.mem_of_getElem? (i := 1011) (by decide +kernel), List.mem_of_getElem? (i := 1012) (by decide +kernel)⟩
theorem lw_p37 : lw_okq (⟨"PureGroupsModel", "isPure", "(I)Z"⟩, 27) := ⟨⟨by decide +kernel, by decide +kernel⟩, List.mem_of_getElem? (i := 854) (by decide +kernel), List.mem_of_getElem? (i := 1018) (by decide +kernel), List.mem_of_getElem? (i := 1019) (by decide +kernel)⟩
theorem lw_p38 : lw_okq (⟨"PureGroupsModel", "twinOf", "(I)I"⟩, 27) := ⟨⟨by decide +kernel, by decide +kernel⟩, List.mem_of_getElem? (i := 854) (by decide +kernel), List.mem_of_getElem? (i := 1030) (by decide +kernel), List.mem_of_getElem? (i := 1031) (by decide +kernel)⟩
theorem lw_p39 : lw_okq (⟨"PureGroupsModel", "isLike", "(II)Z"⟩, 27) := ⟨⟨by decide +kernel, by decide +kernel⟩, List.mem_of_getElem? (i := 854) (by decide +kernel), List.mem_of_getElem? (i := 1034) (by decide +kernel), List.mem_of_getElem? (i := 1035) (by decide +kernel)⟩
theorem lw_p40 : lw_okq (⟨"PureGroupsModel", "loose", "()I"⟩, 27) := ⟨⟨by decide +kernel, by decide +kernel⟩, List.mem_of_getElem? (i := 854) (by decide +kernel), List.mem_of_getElem? (i := 1052) (by decide +kernel), List.mem_of_getElem? (i := 1053) (by decide +kernel)⟩
theorem lw_p41 : lw_okq (⟨"PureGroupsModel", "different", "()I"⟩, 27) := ⟨⟨by decide +kernel, by decide +kernel⟩, List.mem_of_getElem? (i := 854) (by decide +kernel), List.mem_of_getElem? (i := 1056) (by decide +kernel), List.mem_of_getElem? (i := 1057) (by decide +kernel)⟩
theorem lw_p42 : lw_okq (⟨"PureGroupsModel", "ownOf", "(I)I"⟩, 27) := ⟨⟨by decide +kernel, by decide +kernel⟩, List.mem_of_getElem? (i := 854) (by decide +kernel), List.mem_of_getElem? (i := 1064) (by decide +kernel), List.mem_of_getElem? (i := 1065) (by decide +kernel)⟩
theorem lw_p43 : lw_okq (⟨"PureGroupsModel", "groups", "(I)V"⟩, 27) := ⟨⟨by decide +kernel, by decide +kernel⟩, List.mem_of_getElem? (i := 854) (by decide +kernel), List.mem_of_getElem? (i := 1068) (by decide +kernel), List.mem_of_getElem? (i := 1069) (by decide +kernel)⟩
theorem lw_p44 : lw_okq (⟨"PureGroupsModel", "tells", "(II)Z"⟩, 27) := ⟨⟨by decide +kernel, by decide +kernel⟩, List.mem_of_getElem? (i := 854) (by decide +kernel), List.mem_of_getElem? (i := 1080) (by decide +kernel), List.mem_of_getElem? (i := 1081) (by decide +kernel)⟩
theorem lw_p45 : lw_okq (⟨"PureGroupsModel", "isToldPure", "()Z"⟩, 27) := ⟨⟨by decide +kernel, by decide +kernel⟩, List.mem_of_getElem? (i := 854) (by decide +kernel), List.mem_of_getElem? (i := 1086) (by decide +kernel), List.mem_of_getElem? (i := 1087) (by decide +kernel)⟩
theorem lw_p46 : lw_okq (⟨"PureGroupsModel", "refuseFarther", "(I)J"⟩, 27) := ⟨⟨by decide +kernel, by decide +kernel⟩, List.mem_of_getElem? (i := 854) (by decide +kernel), List.mem_of_getElem? (i := 1094) (by decide +kernel), List.mem_of_getElem? (i := 1095) (by decide +kernel)⟩
theorem lw_p47 : lw_okq (⟨"PureGroupsModel", "isLeast", "(II)Z"⟩, 27) := ⟨⟨by decide +kernel, by decide +kernel⟩, List.mem_of_getElem? (i := 854) (by decide +kernel), List.mem_of_getElem? (i := 1110) (by decide +kernel), List.mem_of_getElem? (i := 1111) (by decide +kernel)⟩
def lw_privs_3 : List (MethodName × Nat) := [(⟨"PureGroupsModel", "isHad", "(II)Z"⟩, 27), (⟨"PureGroupsModel", "lays", "(II)I"⟩, 27), (⟨"PureGroupsModel", "powerOf", "(II)I"⟩, 27), (⟨"PureGroupsModel", "clears", "(II)J"⟩, 27), (⟨"PureGroupsModel", "swapRows", "(II)V"⟩, 27), (⟨"PureGroupsModel", "isPure", "(I)Z"⟩, 27), (⟨"PureGroupsModel", "twinOf", "(I)I"⟩, 27), (⟨"PureGroupsModel", "isLike", "(II)Z"⟩, 27), (⟨"PureGroupsModel", "loose", "()I"⟩, 27), (⟨"PureGroupsModel", "different", "()I"⟩, 27), (⟨"PureGroupsModel", "ownOf", "(I)I"⟩, 27), (⟨"PureGroupsModel", "groups", "(I)V"⟩, 27), (⟨"PureGroupsModel", "tells", "(II)Z"⟩, 27), (⟨"PureGroupsModel", "isToldPure", "()Z"⟩, 27), (⟨"PureGroupsModel", "refuseFarther", "(I)J"⟩, 27), (⟨"PureGroupsModel", "isLeast", "(II)Z"⟩, 27)]
theorem lw_r3 : ∀ q ∈ lw_privs_3, lw_okq q := List.forall_mem_cons.mpr ⟨lw_p32, List.forall_mem_cons.mpr ⟨lw_p33, List.forall_mem_cons.mpr ⟨lw_p34, List.forall_mem_cons.mpr ⟨lw_p35, List.forall_mem_cons.mpr ⟨lw_p36, List.forall_mem_cons.mpr ⟨lw_p37, List.forall_mem_cons.mpr ⟨lw_p38, List.forall_mem_cons.mpr ⟨lw_p39, List.forall_mem_cons.mpr ⟨lw_p40, List.forall_mem_cons.mpr ⟨lw_p41, List.forall_mem_cons.mpr ⟨lw_p42, List.forall_mem_cons.mpr ⟨lw_p43, List.forall_mem_cons.mpr ⟨lw_p44, List.forall_mem_cons.mpr ⟨lw_p45, List.forall_mem_cons.mpr ⟨lw_p46, List.forall_mem_cons.mpr ⟨lw_p47, fun _ h => absurd h List.not_mem_nil⟩⟩⟩⟩⟩⟩⟩⟩⟩⟩⟩⟩⟩⟩⟩⟩
theorem lw_p48 : lw_okq (⟨"PureGroupsModel", "isSet", "(I)Z"⟩, 27) := ⟨⟨by decide +kernel, by decide +kernel⟩, List.mem_of_getElem? (i := 854) (by decide +kernel), List.mem_of_getElem? (i := 1118) (by decide +kernel), List.mem_of_getElem? (i := 1119) (by decide +kernel)⟩
theorem lw_p49 : lw_okq (⟨"PureGroupsModel", "isChosen", "(I)Z"⟩, 27) := ⟨⟨by decide +kernel, by decide +kernel⟩, List.mem_of_getElem? (i := 854) (by decide +kernel), List.mem_of_getElem? (i := 1122) (by decide +kernel), List.mem_of_getElem? (i := 1123) (by decide +kernel)⟩
theorem lw_p50 : lw_okq (⟨"PureGroupsModel", "isFree", "(I)Z"⟩, 27) := ⟨⟨by decide +kernel, by decide +kernel⟩, List.mem_of_getElem? (i := 854) (by decide +kernel), List.mem_of_getElem? (i := 1126) (by decide +kernel), List.mem_of_getElem? (i := 1127) (by decide +kernel)⟩
theorem lw_p51 : lw_okq (⟨"PureGroupsModel", "sizesOf", "(I)J"⟩, 27) := ⟨⟨by decide +kernel, by decide +kernel⟩, List.mem_of_getElem? (i := 854) (by decide +kernel), List.mem_of_getElem? (i := 1138) (by decide +kernel), List.mem_of_getElem? (i := 1139) (by decide +kernel)⟩
theorem lw_p52 : lw_okq (⟨"PureGroupsModel", "chosen", "()I"⟩, 27) := ⟨⟨by decide +kernel, by decide +kernel⟩, List.mem_of_getElem? (i := 854) (by decide +kernel), List.mem_of_getElem? (i := 1146) (by decide +kernel), List.mem_of_getElem? (i := 1147) (by decide +kernel)⟩
theorem lw_p53 : lw_okq (⟨"PureGroupsModel", "bestSet", "(Z)I"⟩, 27) := ⟨⟨by decide +kernel, by decide +kernel⟩, List.mem_of_getElem? (i := 854) (by decide +kernel), List.mem_of_getElem? (i := 1150) (by decide +kernel), List.mem_of_getElem? (i := 1151) (by decide +kernel)⟩
theorem lw_p54 : lw_okq (⟨"PureGroupsModel", "areScaled", "()Z"⟩, 27) := ⟨⟨by decide +kernel, by decide +kernel⟩, List.mem_of_getElem? (i := 854) (by decide +kernel), List.mem_of_getElem? (i := 1170) (by decide +kernel), List.mem_of_getElem? (i := 1171) (by decide +kernel)⟩
theorem lw_p55 : lw_okq (⟨"PureGroupsModel", "isAlike", "()Z"⟩, 27) := ⟨⟨by decide +kernel, by decide +kernel⟩, List.mem_of_getElem? (i := 854) (by decide +kernel), List.mem_of_getElem? (i := 1174) (by decide +kernel), List.mem_of_getElem? (i := 1175) (by decide +kernel)⟩
theorem lw_p56 : lw_okq (⟨"PureGroupsModel", "weighs", "(II)J"⟩, 27) := ⟨⟨by decide +kernel, by decide +kernel⟩, List.mem_of_getElem? (i := 854) (by decide +kernel), List.mem_of_getElem? (i := 1182) (by decide +kernel), List.mem_of_getElem? (i := 1183) (by decide +kernel)⟩
theorem lw_p57 : lw_okq (⟨"PureGroupsModel", "powerIn", "(II)I"⟩, 27) := ⟨⟨by decide +kernel, by decide +kernel⟩, List.mem_of_getElem? (i := 854) (by decide +kernel), List.mem_of_getElem? (i := 1186) (by decide +kernel), List.mem_of_getElem? (i := 1187) (by decide +kernel)⟩
theorem lw_p58 : lw_okq (⟨"PureGroupsModel", "wrongMust", "(II)I"⟩, 27) := ⟨⟨by decide +kernel, by decide +kernel⟩, List.mem_of_getElem? (i := 854) (by decide +kernel), List.mem_of_getElem? (i := 1197) (by decide +kernel), List.mem_of_getElem? (i := 1198) (by decide +kernel)⟩
theorem lw_p59 : lw_okq (⟨"PureGroupsModel", "isScaled", "(I)Z"⟩, 27) := ⟨⟨by decide +kernel, by decide +kernel⟩, List.mem_of_getElem? (i := 854) (by decide +kernel), List.mem_of_getElem? (i := 1201) (by decide +kernel), List.mem_of_getElem? (i := 1202) (by decide +kernel)⟩
theorem lw_p60 : lw_okq (⟨"PureGroupsModel", "fewestOf", "(I)I"⟩, 27) := ⟨⟨by decide +kernel, by decide +kernel⟩, List.mem_of_getElem? (i := 854) (by decide +kernel), List.mem_of_getElem? (i := 1217) (by decide +kernel), List.mem_of_getElem? (i := 1218) (by decide +kernel)⟩
theorem lw_p61 : lw_okq (⟨"PureGroupsModel", "fills", "(II)Z"⟩, 27) := ⟨⟨by decide +kernel, by decide +kernel⟩, List.mem_of_getElem? (i := 854) (by decide +kernel), List.mem_of_getElem? (i := 1221) (by decide +kernel), List.mem_of_getElem? (i := 1222) (by decide +kernel)⟩
theorem lw_p62 : lw_okq (⟨"PureGroupsModel", "isWanted", "(I)Z"⟩, 27) := ⟨⟨by decide +kernel, by decide +kernel⟩, List.mem_of_getElem? (i := 854) (by decide +kernel), List.mem_of_getElem? (i := 1225) (by decide +kernel), List.mem_of_getElem? (i := 1226) (by decide +kernel)⟩
theorem lw_p63 : lw_okq (⟨"PureGroupsModel", "powerBy", "(II)I"⟩, 27) := ⟨⟨by decide +kernel, by decide +kernel⟩, List.mem_of_getElem? (i := 854) (by decide +kernel), List.mem_of_getElem? (i := 1229) (by decide +kernel), List.mem_of_getElem? (i := 1230) (by decide +kernel)⟩
def lw_privs_4 : List (MethodName × Nat) := [(⟨"PureGroupsModel", "isSet", "(I)Z"⟩, 27), (⟨"PureGroupsModel", "isChosen", "(I)Z"⟩, 27), (⟨"PureGroupsModel", "isFree", "(I)Z"⟩, 27), (⟨"PureGroupsModel", "sizesOf", "(I)J"⟩, 27), (⟨"PureGroupsModel", "chosen", "()I"⟩, 27), (⟨"PureGroupsModel", "bestSet", "(Z)I"⟩, 27), (⟨"PureGroupsModel", "areScaled", "()Z"⟩, 27), (⟨"PureGroupsModel", "isAlike", "()Z"⟩, 27), (⟨"PureGroupsModel", "weighs", "(II)J"⟩, 27), (⟨"PureGroupsModel", "powerIn", "(II)I"⟩, 27), (⟨"PureGroupsModel", "wrongMust", "(II)I"⟩, 27), (⟨"PureGroupsModel", "isScaled", "(I)Z"⟩, 27), (⟨"PureGroupsModel", "fewestOf", "(I)I"⟩, 27), (⟨"PureGroupsModel", "fills", "(II)Z"⟩, 27), (⟨"PureGroupsModel", "isWanted", "(I)Z"⟩, 27), (⟨"PureGroupsModel", "powerBy", "(II)I"⟩, 27)]
theorem lw_r4 : ∀ q ∈ lw_privs_4, lw_okq q := List.forall_mem_cons.mpr ⟨lw_p48, List.forall_mem_cons.mpr ⟨lw_p49, List.forall_mem_cons.mpr ⟨lw_p50, List.forall_mem_cons.mpr ⟨lw_p51, List.forall_mem_cons.mpr ⟨lw_p52, List.forall_mem_cons.mpr ⟨lw_p53, List.forall_mem_cons.mpr ⟨lw_p54, List.forall_mem_cons.mpr ⟨lw_p55, List.forall_mem_cons.mpr ⟨lw_p56, List.forall_mem_cons.mpr ⟨lw_p57, List.forall_mem_cons.mpr ⟨lw_p58, List.forall_mem_cons.mpr ⟨lw_p59, List.forall_mem_cons.mpr ⟨lw_p60, List.forall_mem_cons.mpr ⟨lw_p61, List.forall_mem_cons.mpr ⟨lw_p62, List.forall_mem_cons.mpr ⟨lw_p63, fun _ h => absurd h List.not_mem_nil⟩⟩⟩⟩⟩⟩⟩⟩⟩⟩⟩⟩⟩⟩⟩⟩
theorem lw_p64 : lw_okq (⟨"PureGroupsModel", "adds", "(III)I"⟩, 27) := ⟨⟨by decide +kernel, by decide +kernel⟩, List.mem_of_getElem? (i := 854) (by decide +kernel), List.mem_of_getElem? (i := 1237) (by decide +kernel), List.mem_of_getElem? (i := 1238) (by decide +kernel)⟩
theorem lw_p65 : lw_okq (⟨"PureGroupsModel", "keyOf", "(I)J"⟩, 27) := ⟨⟨by decide +kernel, by decide +kernel⟩, List.mem_of_getElem? (i := 854) (by decide +kernel), List.mem_of_getElem? (i := 1241) (by decide +kernel), List.mem_of_getElem? (i := 1242) (by decide +kernel)⟩
theorem lw_p66 : lw_okq (⟨"PureGroupsModel", "differs", "(IJ)I"⟩, 27) := ⟨⟨by decide +kernel, by decide +kernel⟩, List.mem_of_getElem? (i := 854) (by decide +kernel), List.mem_of_getElem? (i := 1246) (by decide +kernel), List.mem_of_getElem? (i := 1247) (by decide +kernel)⟩
theorem lw_p67 : lw_okq (⟨"PureGroupsModel", "readsBoth", "()Z"⟩, 27) := ⟨⟨by decide +kernel, by decide +kernel⟩, List.mem_of_getElem? (i := 854) (by decide +kernel), List.mem_of_getElem? (i := 1254) (by decide +kernel), List.mem_of_getElem? (i := 1255) (by decide +kernel)⟩
theorem lw_p68 : lw_okq (⟨"PureGroupsModel", "readsSum", "()Z"⟩, 27) := ⟨⟨by decide +kernel, by decide +kernel⟩, List.mem_of_getElem? (i := 854) (by decide +kernel), List.mem_of_getElem? (i := 1258) (by decide +kernel), List.mem_of_getElem? (i := 1259) (by decide +kernel)⟩
theorem lw_p69 : lw_okq (⟨"PureGroupsModel", "readsTerm", "()Z"⟩, 27) := ⟨⟨by decide +kernel, by decide +kernel⟩, List.mem_of_getElem? (i := 854) (by decide +kernel), List.mem_of_getElem? (i := 1262) (by decide +kernel), List.mem_of_getElem? (i := 1263) (by decide +kernel)⟩
theorem lw_p70 : lw_okq (⟨"PureGroupsModel", "readsPart", "()Z"⟩, 27) := ⟨⟨by decide +kernel, by decide +kernel⟩, List.mem_of_getElem? (i := 854) (by decide +kernel), List.mem_of_getElem? (i := 1266) (by decide +kernel), List.mem_of_getElem? (i := 1267) (by decide +kernel)⟩
theorem lw_p71 : lw_okq (⟨"PureGroupsModel", "readsAtom", "()Z"⟩, 27) := ⟨⟨by decide +kernel, by decide +kernel⟩, List.mem_of_getElem? (i := 854) (by decide +kernel), List.mem_of_getElem? (i := 1270) (by decide +kernel), List.mem_of_getElem? (i := 1271) (by decide +kernel)⟩
theorem lw_p72 : lw_okq (⟨"PureGroupsModel", "here", "()I"⟩, 27) := ⟨⟨by decide +kernel, by decide +kernel⟩, List.mem_of_getElem? (i := 854) (by decide +kernel), List.mem_of_getElem? (i := 1274) (by decide +kernel), List.mem_of_getElem? (i := 1275) (by decide +kernel)⟩
theorem lw_p73 : lw_okq (⟨"PureGroupsModel", "isDigit", "()Z"⟩, 27) := ⟨⟨by decide +kernel, by decide +kernel⟩, List.mem_of_getElem? (i := 854) (by decide +kernel), List.mem_of_getElem? (i := 1279) (by decide +kernel), List.mem_of_getElem? (i := 1280) (by decide +kernel)⟩
theorem lw_p74 : lw_okq (⟨"PureGroupsModel", "readsClosed", "()Z"⟩, 27) := ⟨⟨by decide +kernel, by decide +kernel⟩, List.mem_of_getElem? (i := 854) (by decide +kernel), List.mem_of_getElem? (i := 1285) (by decide +kernel), List.mem_of_getElem? (i := 1286) (by decide +kernel)⟩
theorem lw_p75 : lw_okq (⟨"PureGroupsModel", "isSigned", "(II)Z"⟩, 27) := ⟨⟨by decide +kernel, by decide +kernel⟩, List.mem_of_getElem? (i := 854) (by decide +kernel), List.mem_of_getElem? (i := 1289) (by decide +kernel), List.mem_of_getElem? (i := 1290) (by decide +kernel)⟩
theorem lw_p76 : lw_okq (⟨"PureGroupsModel", "goesThrough", "()V"⟩, 27) := ⟨⟨by decide +kernel, by decide +kernel⟩, List.mem_of_getElem? (i := 854) (by decide +kernel), List.mem_of_getElem? (i := 1297) (by decide +kernel), List.mem_of_getElem? (i := 1298) (by decide +kernel)⟩
theorem lw_p77 : lw_okq (⟨"PureGroupsModel", "sum", "(I)V"⟩, 27) := ⟨⟨by decide +kernel, by decide +kernel⟩, List.mem_of_getElem? (i := 854) (by decide +kernel), List.mem_of_getElem? (i := 1301) (by decide +kernel), List.mem_of_getElem? (i := 1302) (by decide +kernel)⟩
theorem lw_p78 : lw_okq (⟨"PureGroupsModel", "term", "(I)V"⟩, 27) := ⟨⟨by decide +kernel, by decide +kernel⟩, List.mem_of_getElem? (i := 854) (by decide +kernel), List.mem_of_getElem? (i := 1305) (by decide +kernel), List.mem_of_getElem? (i := 1306) (by decide +kernel)⟩
theorem lw_p79 : lw_okq (⟨"PureGroupsModel", "part", "(I)V"⟩, 27) := ⟨⟨by decide +kernel, by decide +kernel⟩, List.mem_of_getElem? (i := 854) (by decide +kernel), List.mem_of_getElem? (i := 1309) (by decide +kernel), List.mem_of_getElem? (i := 1310) (by decide +kernel)⟩
def lw_privs_5 : List (MethodName × Nat) := [(⟨"PureGroupsModel", "adds", "(III)I"⟩, 27), (⟨"PureGroupsModel", "keyOf", "(I)J"⟩, 27), (⟨"PureGroupsModel", "differs", "(IJ)I"⟩, 27), (⟨"PureGroupsModel", "readsBoth", "()Z"⟩, 27), (⟨"PureGroupsModel", "readsSum", "()Z"⟩, 27), (⟨"PureGroupsModel", "readsTerm", "()Z"⟩, 27), (⟨"PureGroupsModel", "readsPart", "()Z"⟩, 27), (⟨"PureGroupsModel", "readsAtom", "()Z"⟩, 27), (⟨"PureGroupsModel", "here", "()I"⟩, 27), (⟨"PureGroupsModel", "isDigit", "()Z"⟩, 27), (⟨"PureGroupsModel", "readsClosed", "()Z"⟩, 27), (⟨"PureGroupsModel", "isSigned", "(II)Z"⟩, 27), (⟨"PureGroupsModel", "goesThrough", "()V"⟩, 27), (⟨"PureGroupsModel", "sum", "(I)V"⟩, 27), (⟨"PureGroupsModel", "term", "(I)V"⟩, 27), (⟨"PureGroupsModel", "part", "(I)V"⟩, 27)]
theorem lw_r5 : ∀ q ∈ lw_privs_5, lw_okq q := List.forall_mem_cons.mpr ⟨lw_p64, List.forall_mem_cons.mpr ⟨lw_p65, List.forall_mem_cons.mpr ⟨lw_p66, List.forall_mem_cons.mpr ⟨lw_p67, List.forall_mem_cons.mpr ⟨lw_p68, List.forall_mem_cons.mpr ⟨lw_p69, List.forall_mem_cons.mpr ⟨lw_p70, List.forall_mem_cons.mpr ⟨lw_p71, List.forall_mem_cons.mpr ⟨lw_p72, List.forall_mem_cons.mpr ⟨lw_p73, List.forall_mem_cons.mpr ⟨lw_p74, List.forall_mem_cons.mpr ⟨lw_p75, List.forall_mem_cons.mpr ⟨lw_p76, List.forall_mem_cons.mpr ⟨lw_p77, List.forall_mem_cons.mpr ⟨lw_p78, List.forall_mem_cons.mpr ⟨lw_p79, fun _ h => absurd h List.not_mem_nil⟩⟩⟩⟩⟩⟩⟩⟩⟩⟩⟩⟩⟩⟩⟩⟩
theorem lw_p80 : lw_okq (⟨"PureGroupsModel", "atom", "(I)V"⟩, 27) := ⟨⟨by decide +kernel, by decide +kernel⟩, List.mem_of_getElem? (i := 854) (by decide +kernel), List.mem_of_getElem? (i := 1313) (by decide +kernel), List.mem_of_getElem? (i := 1314) (by decide +kernel)⟩
theorem lw_p81 : lw_okq (⟨"PureGroupsModel", "sign", "()I"⟩, 27) := ⟨⟨by decide +kernel, by decide +kernel⟩, List.mem_of_getElem? (i := 854) (by decide +kernel), List.mem_of_getElem? (i := 1317) (by decide +kernel), List.mem_of_getElem? (i := 1318) (by decide +kernel)⟩
theorem lw_p82 : lw_okq (⟨"PureGroupsModel", "sets", "(II)V"⟩, 27) := ⟨⟨by decide +kernel, by decide +kernel⟩, List.mem_of_getElem? (i := 854) (by decide +kernel), List.mem_of_getElem? (i := 1321) (by decide +kernel), List.mem_of_getElem? (i := 1322) (by decide +kernel)⟩
theorem lw_p83 : lw_okq (⟨"PureGroupsModel", "isPureAt", "(I)Z"⟩, 27) := ⟨⟨by decide +kernel, by decide +kernel⟩, List.mem_of_getElem? (i := 854) (by decide +kernel), List.mem_of_getElem? (i := 1326) (by decide +kernel), List.mem_of_getElem? (i := 1327) (by decide +kernel)⟩
theorem lw_p84 : lw_okq (⟨"PureGroupsModel", "draws", "(I)I"⟩, 27) := ⟨⟨by decide +kernel, by decide +kernel⟩, List.mem_of_getElem? (i := 854) (by decide +kernel), List.mem_of_getElem? (i := 1342) (by decide +kernel), List.mem_of_getElem? (i := 1343) (by decide +kernel)⟩
theorem lw_p85 : lw_okq (⟨"PureGroupsModel", "wrongCell", "(II)I"⟩, 27) := ⟨⟨by decide +kernel, by decide +kernel⟩, List.mem_of_getElem? (i := 854) (by decide +kernel), List.mem_of_getElem? (i := 1357) (by decide +kernel), List.mem_of_getElem? (i := 1358) (by decide +kernel)⟩
theorem lw_p86 : lw_okq (⟨"PureGroupsModel", "isCell", "(II)Z"⟩, 27) := ⟨⟨by decide +kernel, by decide +kernel⟩, List.mem_of_getElem? (i := 854) (by decide +kernel), List.mem_of_getElem? (i := 1361) (by decide +kernel), List.mem_of_getElem? (i := 1362) (by decide +kernel)⟩
theorem lw_p87 : lw_okq (⟨"PureGroupsModel", "scales", "()I"⟩, 27) := ⟨⟨by decide +kernel, by decide +kernel⟩, List.mem_of_getElem? (i := 854) (by decide +kernel), List.mem_of_getElem? (i := 1393) (by decide +kernel), List.mem_of_getElem? (i := 1394) (by decide +kernel)⟩
def lw_privs_6 : List (MethodName × Nat) := [(⟨"PureGroupsModel", "atom", "(I)V"⟩, 27), (⟨"PureGroupsModel", "sign", "()I"⟩, 27), (⟨"PureGroupsModel", "sets", "(II)V"⟩, 27), (⟨"PureGroupsModel", "isPureAt", "(I)Z"⟩, 27), (⟨"PureGroupsModel", "draws", "(I)I"⟩, 27), (⟨"PureGroupsModel", "wrongCell", "(II)I"⟩, 27), (⟨"PureGroupsModel", "isCell", "(II)Z"⟩, 27), (⟨"PureGroupsModel", "scales", "()I"⟩, 27)]
theorem lw_r6 : ∀ q ∈ lw_privs_6, lw_okq q := List.forall_mem_cons.mpr ⟨lw_p80, List.forall_mem_cons.mpr ⟨lw_p81, List.forall_mem_cons.mpr ⟨lw_p82, List.forall_mem_cons.mpr ⟨lw_p83, List.forall_mem_cons.mpr ⟨lw_p84, List.forall_mem_cons.mpr ⟨lw_p85, List.forall_mem_cons.mpr ⟨lw_p86, List.forall_mem_cons.mpr ⟨lw_p87, fun _ h => absurd h List.not_mem_nil⟩⟩⟩⟩⟩⟩⟩⟩
def lw_privs : List (MethodName × Nat) := lw_privs_1 ++ (lw_privs_2 ++ (lw_privs_3 ++ (lw_privs_4 ++ (lw_privs_5 ++ (lw_privs_6)))))
def lw_tbl : List Cond := k2_sels lw_privs ++ tables_1
theorem lw_privs_ok : ∀ q ∈ lw_privs, lw_okq q := by
  show ∀ q ∈ lw_privs_1 ++ (lw_privs_2 ++ (lw_privs_3 ++ (lw_privs_4 ++ (lw_privs_5 ++ (lw_privs_6))))), lw_okq q
  exact List.forall_mem_append.mpr ⟨lw_r1, List.forall_mem_append.mpr ⟨lw_r2, List.forall_mem_append.mpr ⟨lw_r3, List.forall_mem_append.mpr ⟨lw_r4, List.forall_mem_append.mpr ⟨lw_r5, lw_r6⟩⟩⟩⟩⟩
end
section
def RX0 : String := "PureGroups$Choice"
def TX0 : u_T := fun k => match k with
  | 0 => ("PureGroups$Choice", "space", "LPureGroups$Space;", true)
  | 1 => ("PureGroups$Choice", "chosen", "LPureGroups$Elimination;", true)
  | 2 => ("PureGroups$Choice", "powers", "[I", true)
  | 3 => ("PureGroups$Choice", "lookedAt", "I", false)
  | 4 => ("PureGroups$Choice", "count", "I", false)
  | 5 => ("PureGroups$Choice", "tried", "I", false)
  | 6 => ("PureGroups$Choice", "first", "I", false)
  | 7 => ("PureGroups$Choice", "best", "I", false)
  | _ => ("PureGroups$Choice", "leastSizes", "J", false)
def tyX0 : Nat → FieldType := fun k => match k with
  | 0 => .object "PureGroups$Space"
  | 1 => .object "PureGroups$Elimination"
  | 2 => .array .int
  | 3 => .int
  | 4 => .int
  | 5 => .int
  | 6 => .int
  | 7 => .int
  | _ => .long
theorem nmX0 : ∀ a, a < 9 → ∀ b, b < 9 → a ≠ b → (TX0 a).2.1 ≠ (TX0 b).2.1 := by decide +kernel
theorem tyX0_ok : ∀ k, k < 9 → parseFieldDescriptor (TX0 k).2.2.1 = some (tyX0 k) := by decide +kernel
def RX1 : String := "PureGroups$Elimination"
def TX1 : u_T := fun k => match k with
  | 0 => ("PureGroups$Elimination", "cell", "[[J", true)
  | 1 => ("PureGroups$Elimination", "rowOf", "[I", true)
  | 2 => ("PureGroups$Elimination", "size", "I", false)
  | 3 => ("PureGroups$Elimination", "rank", "I", false)
  | 4 => ("PureGroups$Elimination", "pivots", "I", false)
  | _ => ("PureGroups$Elimination", "scale", "J", false)
def tyX1 : Nat → FieldType := fun k => match k with
  | 0 => .array (.array .long)
  | 1 => .array .int
  | 2 => .int
  | 3 => .int
  | 4 => .int
  | _ => .long
theorem nmX1 : ∀ a, a < 6 → ∀ b, b < 6 → a ≠ b → (TX1 a).2.1 ≠ (TX1 b).2.1 := by decide +kernel
theorem tyX1_ok : ∀ k, k < 6 → parseFieldDescriptor (TX1 k).2.2.1 = some (tyX1 k) := by decide +kernel
def RX2 : String := "PureGroups$History"
def TX2 : u_T := fun k => match k with
  | 0 => ("PureGroups$History", "rows", "[[I", true)
  | 1 => ("PureGroups$History", "next", "I", false)
  | _ => ("PureGroups$History", "size", "I", false)
def tyX2 : Nat → FieldType := fun k => match k with
  | 0 => .array (.array .int)
  | 1 => .int
  | _ => .int
theorem nmX2 : ∀ a, a < 3 → ∀ b, b < 3 → a ≠ b → (TX2 a).2.1 ≠ (TX2 b).2.1 := by decide +kernel
theorem tyX2_ok : ∀ k, k < 3 → parseFieldDescriptor (TX2 k).2.2.1 = some (tyX2 k) := by decide +kernel
def RX3 : String := "PureGroups$Model"
def TX3 : u_T := fun k => match k with
  | 0 => ("PureGroups$Model", "size", "I", false)
  | 1 => ("PureGroups$Model", "kind", "[I", true)
  | 2 => ("PureGroups$Model", "told", "[[I", true)
  | 3 => ("PureGroups$Model", "above", "[I", true)
  | 4 => ("PureGroups$Model", "below", "[I", true)
  | 5 => ("PureGroups$Model", "letters", "[I", true)
  | 6 => ("PureGroups$Model", "length", "I", false)
  | _ => ("PureGroups$Model", "terms", "I", false)
def tyX3 : Nat → FieldType := fun k => match k with
  | 0 => .int
  | 1 => .array .int
  | 2 => .array (.array .int)
  | 3 => .array .int
  | 4 => .array .int
  | 5 => .array .int
  | 6 => .int
  | _ => .int
theorem nmX3 : ∀ a, a < 8 → ∀ b, b < 8 → a ≠ b → (TX3 a).2.1 ≠ (TX3 b).2.1 := by decide +kernel
theorem tyX3_ok : ∀ k, k < 8 → parseFieldDescriptor (TX3 k).2.2.1 = some (tyX3 k) := by decide +kernel
def RX4 : String := "PureGroups$Reading"
def TX4 : u_T := fun k => match k with
  | 0 => ("PureGroups$Reading", "space", "LPureGroups$Space;", true)
  | 1 => ("PureGroups$Reading", "text", "[I", true)
  | 2 => ("PureGroups$Reading", "length", "I", false)
  | 3 => ("PureGroups$Reading", "place", "I", false)
  | 4 => ("PureGroups$Reading", "fault", "I", false)
  | 5 => ("PureGroups$Reading", "terms", "I", false)
  | 6 => ("PureGroups$Reading", "quantities", "I", false)
  | 7 => ("PureGroups$Reading", "wrongAt", "[I", true)
  | 8 => ("PureGroups$Reading", "sums", "[[I", true)
  | 9 => ("PureGroups$Reading", "products", "[[I", true)
  | 10 => ("PureGroups$Reading", "none", "[I", true)
  | 11 => ("PureGroups$Reading", "ahead", "[I", true)
  | _ => ("PureGroups$Reading", "behind", "[I", true)
def tyX4 : Nat → FieldType := fun k => match k with
  | 0 => .object "PureGroups$Space"
  | 1 => .array .int
  | 2 => .int
  | 3 => .int
  | 4 => .int
  | 5 => .int
  | 6 => .int
  | 7 => .array .int
  | 8 => .array (.array .int)
  | 9 => .array (.array .int)
  | 10 => .array .int
  | 11 => .array .int
  | _ => .array .int
theorem nmX4 : ∀ a, a < 13 → ∀ b, b < 13 → a ≠ b → (TX4 a).2.1 ≠ (TX4 b).2.1 := by decide +kernel
theorem tyX4_ok : ∀ k, k < 13 → parseFieldDescriptor (TX4 k).2.2.1 = some (tyX4 k) := by decide +kernel
def RX5 : String := "PureGroups$Search"
def TX5 : u_T := fun k => match k with
  | 0 => ("PureGroups$Search", "space", "LPureGroups$Space;", true)
  | 1 => ("PureGroups$Search", "leastPowers", "[I", true)
  | 2 => ("PureGroups$Search", "leastSize", "I", false)
  | 3 => ("PureGroups$Search", "leastOf", "I", false)
  | 4 => ("PureGroups$Search", "factorKeys", "[J", true)
  | 5 => ("PureGroups$Search", "row", "[I", true)
  | _ => ("PureGroups$Search", "seen", "[J", true)
def tyX5 : Nat → FieldType := fun k => match k with
  | 0 => .object "PureGroups$Space"
  | 1 => .array .int
  | 2 => .int
  | 3 => .int
  | 4 => .array .long
  | 5 => .array .int
  | _ => .array .long
theorem nmX5 : ∀ a, a < 7 → ∀ b, b < 7 → a ≠ b → (TX5 a).2.1 ≠ (TX5 b).2.1 := by decide +kernel
theorem tyX5_ok : ∀ k, k < 7 → parseFieldDescriptor (TX5 k).2.2.1 = some (tyX5 k) := by decide +kernel
def RX6 : String := "PureGroups$Space"
def TX6 : u_T := fun k => match k with
  | 0 => ("PureGroups$Space", "size", "I", false)
  | 1 => ("PureGroups$Space", "version", "I", false)
  | 2 => ("PureGroups$Space", "power", "[[I", true)
  | 3 => ("PureGroups$Space", "key", "[J", true)
  | _ => ("PureGroups$Space", "all", "LPureGroups$Elimination;", true)
def tyX6 : Nat → FieldType := fun k => match k with
  | 0 => .int
  | 1 => .int
  | 2 => .array (.array .int)
  | 3 => .array .long
  | _ => .object "PureGroups$Elimination"
theorem nmX6 : ∀ a, a < 5 → ∀ b, b < 5 → a ≠ b → (TX6 a).2.1 ≠ (TX6 b).2.1 := by decide +kernel
theorem tyX6_ok : ∀ k, k < 5 → parseFieldDescriptor (TX6 k).2.2.1 = some (tyX6 k) := by decide +kernel
def RX7 : String := "PureGroups"
def TX7 : u_T := fun k => match k with
  | 0 => ("PureGroups", "model", "LPureGroups$Model;", true)
  | 1 => ("PureGroups", "image", "LPureGroups$Model;", true)
  | 2 => ("PureGroups", "imageTaken", "Z", false)
  | 3 => ("PureGroups", "history", "LPureGroups$History;", true)
  | 4 => ("PureGroups", "space", "LPureGroups$Space;", true)
  | 5 => ("PureGroups", "choice", "LPureGroups$Choice;", true)
  | 6 => ("PureGroups", "search", "LPureGroups$Search;", true)
  | 7 => ("PureGroups", "reading", "LPureGroups$Reading;", true)
  | 8 => ("PureGroups", "letters", "[I", true)
  | 9 => ("PureGroups", "letterCount", "I", false)
  | 10 => ("PureGroups", "lists", "[[I", true)
  | 11 => ("PureGroups", "listSizes", "[I", true)
  | 12 => ("PureGroups", "powers", "[I", true)
  | 13 => ("PureGroups", "product", "[I", true)
  | 14 => ("PureGroups", "dimension", "[I", true)
  | _ => ("PureGroups", "refusals", "[I", true)
def tyX7 : Nat → FieldType := fun k => match k with
  | 0 => .object "PureGroups$Model"
  | 1 => .object "PureGroups$Model"
  | 2 => .boolean
  | 3 => .object "PureGroups$History"
  | 4 => .object "PureGroups$Space"
  | 5 => .object "PureGroups$Choice"
  | 6 => .object "PureGroups$Search"
  | 7 => .object "PureGroups$Reading"
  | 8 => .array .int
  | 9 => .int
  | 10 => .array (.array .int)
  | 11 => .array .int
  | 12 => .array .int
  | 13 => .array .int
  | 14 => .array .int
  | _ => .array .int
theorem nmX7 : ∀ a, a < 16 → ∀ b, b < 16 → a ≠ b → (TX7 a).2.1 ≠ (TX7 b).2.1 := by decide +kernel
theorem tyX7_ok : ∀ k, k < 16 → parseFieldDescriptor (TX7 k).2.2.1 = some (tyX7 k) := by decide +kernel
def RX8 : String := "PureGroupsModel"
def TX8 : u_T := fun k => match k with
  | 0 => ("PureGroupsModel", "g", "[I", true)
  | 1 => ("PureGroupsModel", "kept", "[I", true)
  | 2 => ("PureGroupsModel", "isKept", "Z", false)
  | 3 => ("PureGroupsModel", "refused", "[I", true)
  | 4 => ("PureGroupsModel", "come", "[I", true)
  | 5 => ("PureGroupsModel", "comes", "I", false)
  | 6 => ("PureGroupsModel", "step", "[I", true)
  | 7 => ("PureGroupsModel", "steps", "I", false)
  | 8 => ("PureGroupsModel", "table", "[J", true)
  | 9 => ("PureGroupsModel", "power", "[J", true)
  | 10 => ("PureGroupsModel", "rowOf", "[I", true)
  | 11 => ("PureGroupsModel", "size", "[I", true)
  | 12 => ("PureGroupsModel", "cell", "[I", true)
  | 13 => ("PureGroupsModel", "told", "[I", true)
  | 14 => ("PureGroupsModel", "factor", "[I", true)
  | 15 => ("PureGroupsModel", "want", "[I", true)
  | 16 => ("PureGroupsModel", "row", "[J", true)
  | 17 => ("PureGroupsModel", "place", "I", false)
  | 18 => ("PureGroupsModel", "open", "I", false)
  | 19 => ("PureGroupsModel", "terms", "I", false)
  | 20 => ("PureGroupsModel", "comesTo", "[I", true)
  | 21 => ("PureGroupsModel", "side", "[I", true)
  | 22 => ("PureGroupsModel", "isWrong", "[Z", true)
  | 23 => ("PureGroupsModel", "at", "I", false)
  | 24 => ("PureGroupsModel", "stands", "I", false)
  | 25 => ("PureGroupsModel", "equals", "I", false)
  | _ => ("PureGroupsModel", "z", "I", false)
def tyX8 : Nat → FieldType := fun k => match k with
  | 0 => .array .int
  | 1 => .array .int
  | 2 => .boolean
  | 3 => .array .int
  | 4 => .array .int
  | 5 => .int
  | 6 => .array .int
  | 7 => .int
  | 8 => .array .long
  | 9 => .array .long
  | 10 => .array .int
  | 11 => .array .int
  | 12 => .array .int
  | 13 => .array .int
  | 14 => .array .int
  | 15 => .array .int
  | 16 => .array .long
  | 17 => .int
  | 18 => .int
  | 19 => .int
  | 20 => .array .int
  | 21 => .array .int
  | 22 => .array .boolean
  | 23 => .int
  | 24 => .int
  | 25 => .int
  | _ => .int
theorem nmX8 : ∀ a, a < 27 → ∀ b, b < 27 → a ≠ b → (TX8 a).2.1 ≠ (TX8 b).2.1 := by decide +kernel
theorem tyX8_ok : ∀ k, k < 27 → parseFieldDescriptor (TX8 k).2.2.1 = some (tyX8 k) := by decide +kernel
/-- the classes whose objects the world holds -/
def cl : List vw_C := [(RX0, TX0, 9), (RX1, TX1, 6), (RX2, TX2, 3), (RX3, TX3, 8), (RX4, TX4, 13), (RX5, TX5, 7), (RX6, TX6, 5), (RX7, TX7, 16), (RX8, TX8, 27)]
/-- how many fields; the kind of a field: 0 int, 1 long, 2 reference, 3 boolean -/
def nfL : List Nat := [9, 6, 3, 8, 13, 7, 5, 16, 27]
def ftL : List (List Nat) := [[2, 2, 2, 0, 0, 0, 0, 0, 1], [2, 2, 0, 0, 0, 1], [2, 0, 0], [0, 2, 2, 2, 2, 2, 0, 0], [2, 2, 0, 0, 0, 0, 0, 2, 2, 2, 2, 2, 2], [2, 2, 0, 0, 2, 2, 2], [0, 0, 2, 2, 2], [2, 2, 3, 2, 2, 2, 2, 2, 2, 0, 2, 2, 2, 2, 2, 2], [2, 2, 3, 2, 2, 0, 2, 0, 2, 2, 2, 2, 2, 2, 2, 2, 2, 0, 0, 0, 2, 2, 2, 0, 0, 0, 0]]
/-- the cells: ck 0 int[], 1 long[], 2 boolean[], 3 int[][], 4 long[][], 5 + n an object of the n-th class; al the length; rf what a reference leads to -/
def NC : Nat := 135
def ckL : List Nat := [12, 8, 0, 3, 0, 0, 0, 0, 0, 0, 0, 0, 0, 0, 0, 8, 0, 3, 0, 0, 0, 0, 0, 0, 0, 0, 0, 0, 0, 7, 3, 0, 0, 0, 0, 0, 0, 0, 0, 0, 0, 0, 0, 0, 0, 0, 0, 0, 0, 0, 0, 11, 3, 0, 0, 0, 0, 0, 0, 0, 0, 1, 6, 4, 1, 1, 1, 1, 1, 0, 5, 6, 4, 1, 1, 1, 1, 1, 0, 0, 10, 0, 1, 0, 1, 9, 0, 0, 3, 0, 0, 0, 0, 0, 0, 0, 3, 0, 0, 0, 0, 0, 0, 0, 0, 0, 0, 0, 3, 0, 0, 0, 0, 0, 0, 0, 0, 13, 0, 0, 0, 0, 0, 1, 1, 0, 0, 0, 0, 0, 0, 1, 0, 0, 2]
def alL : List Nat := [16, 8, 8, 8, 5, 5, 5, 5, 5, 5, 5, 5, 8, 8, 72, 8, 8, 8, 5, 5, 5, 5, 5, 5, 5, 5, 8, 8, 72, 3, 20, 4, 4, 4, 4, 4, 4, 4, 4, 4, 4, 4, 4, 4, 4, 4, 4, 4, 4, 4, 4, 5, 8, 5, 5, 5, 5, 5, 5, 5, 5, 8, 6, 5, 8, 8, 8, 8, 8, 8, 9, 6, 5, 8, 8, 8, 8, 8, 8, 8, 7, 8, 16, 3, 1024, 13, 72, 72, 7, 5, 5, 5, 5, 5, 5, 5, 7, 5, 5, 5, 5, 5, 5, 5, 5, 5, 5, 72, 3, 40, 40, 40, 3, 8, 8, 5, 7, 27, 139, 139, 7, 72, 100, 45, 8, 9, 3, 120, 8, 3, 5, 969, 200, 10, 72]
def rfL : List (List Nat) := [[1, 15, 0, 29, 51, 70, 80, 85, 107, 0, 108, 112, 113, 114, 115, 116], [0, 2, 3, 12, 13, 14, 0, 0], [], [], [], [], [], [], [], [], [], [], [], [], [], [0, 16, 17, 26, 27, 28, 0, 0], [], [], [], [], [], [], [], [], [], [], [], [], [], [30, 0, 0], [], [], [], [], [], [], [], [], [], [], [], [], [], [], [], [], [], [], [], [], [], [0, 0, 52, 61, 62], [], [], [], [], [], [], [], [], [], [], [63, 69, 0, 0, 0, 0], [], [], [], [], [], [], [], [51, 71, 79, 0, 0, 0, 0, 0, 0], [72, 78, 0, 0, 0, 0], [], [], [], [], [], [], [], [], [51, 81, 0, 0, 82, 83, 84], [], [], [], [], [51, 86, 0, 0, 0, 0, 0, 87, 88, 96, 104, 105, 106], [], [], [], [], [], [], [], [], [], [], [], [], [], [], [], [], [], [], [], [], [], [], [], [], [], [], [], [], [], [], [], [118, 119, 0, 120, 121, 0, 122, 0, 123, 124, 125, 126, 127, 128, 129, 130, 131, 0, 0, 0, 132, 133, 134, 0, 0, 0, 0]]
def ck (c : Nat) : Nat := ckL.getD c 99
def al (c : Nat) : Nat := alL.getD c 0
def nf (c : Nat) : Nat := nfL.getD c 0
def ft (c k : Nat) : Nat := (ftL.getD c []).getD k 0
def rf (c j : Nat) : Nat := bif (ck c == 3 || ck c == 4) then c + 1 + j else (rfL.getD c []).getD j 0
/-- static arrays that nobody writes: cells from 1000 on -/
def stL : List (String × List Int32) := [("UNDER", [-1, 0, 0, 1, 0, 2]), ("LESS_OF_UNIT_1", [0, 0, 1, 2, 0, 1]), ("LESS_OF_UNIT_2", [0, 1, 0, 1, 0, 0]), ("TIMES", [1, 1, 1, 1, 0, 2]), ("PRIMES", [2, 3, 5, 7, 11, 13, 17, 19, 23, 29, 31, 37, 41, 43, 47, 53, 59, 61, 67, 71, 73, 79, 83, 89, 97])]
def sq (c : Nat) : String × List Int32 := stL.getD (c - 1000) ("", [])
def sn (c : Nat) : Nat := (sq c).2.length
def sv (c j : Nat) : Int32 := (sq c).2.getD j 0
end
section
/-! ===== THE SMALL MACHINE: bytecode over a store of numbers; cells by their numbers, references are cells' numbers ===== -/
abbrev Sg : Type := (Nat → Nat → Int32) × (Nat → Nat → Int64)
abbrev LV : Type := List (Nat × Value)
/-- pc, instruction, length, three numbers that say what it links to, constants or targets -/
abbrev Ent : Type := Nat × Instr × Nat × Nat × Nat × Nat × List Int
abbrev PS : Type := Nat × LV × List Value × Sg
/-- an array that is only read: the law's script -/
abbrev RO : Type := Option (Nat × (Nat → Int32))
def si (σ : Sg) (c j : Nat) (x : Int32) : Sg := (fun c' => if c' = c then upd (σ.1 c) j x else σ.1 c', σ.2)
def sl (σ : Sg) (c j : Nat) (x : Int64) : Sg := (σ.1, fun c' => if c' = c then vp_updL (σ.2 c) j x else σ.2 c')
def scp (σ : Sg) (c0 c1 sp dp n : Nat) : Sg := (fun c' => if c' = c1 then va_cpy (σ.1 c0) (σ.1 c1) sp dp n else σ.1 c', σ.2)
def lget : LV → Nat → Option Value
  | [], _ => none
  | (i, v) :: r, k => bif i == k then some v else lget r k
def lset1 (lv : LV) (i : Nat) (v : Value) : LV := (i, v) :: lv.filter (fun q => !(q.1 == i) && !(q.1 + 1 == i && q.2.category == 2))
def lset2 (lv : LV) (i : Nat) (v : Value) : LV := (i, v) :: lv.filter (fun q => !(q.1 == i) && (!(q.1 == i + 1) && !(q.1 + 1 == i && q.2.category == 2)))
def conj : List Prop → Prop
  | [] => True
  | p :: l => p ∧ conj l
def nb (x : Int32) : Prop := x = 0 ∨ x = 1
def swt (x : Int32) (d : Nat) : Int → List Int → Nat
  | _, [] => d
  | k, t :: r => if x = Int32.ofInt k then t.toNat else swt x d (k + 1) r
abbrev Res : Type := Option (List Prop × PS)
def nx (pc : Nat) (lv : LV) (st : List Value) (σ : Sg) : Res := some ([], pc, lv, st, σ)
def cx (c : Prop) (pc : Nat) (lv : LV) (st : List Value) (σ : Sg) : Res := some ([c], pc, lv, st, σ)
def xld (v : Option Value) (pc : Nat) (lv : LV) (st : List Value) (σ : Sg) : Res := match v with
  | some w => nx pc lv (w :: st) σ
  | none => none
def isI : Option Value → Option Value
  | some (.int x) => some (.int x)
  | _ => none
def isJ : Option Value → Option Value
  | some (.long x) => some (.long x)
  | _ => none
def isR : Option Value → Option Value
  | some (.ref x) => some (.ref x)
  | _ => none
def xst (i : Nat) (pc : Nat) (lv : LV) (st : List Value) (σ : Sg) : Res := match st with
  | .int x :: r => nx pc (lset1 lv i (.int x)) r σ
  | _ => none
def xsta (i : Nat) (pc : Nat) (lv : LV) (st : List Value) (σ : Sg) : Res := match st with
  | .ref x :: r => nx pc (lset1 lv i (.ref x)) r σ
  | _ => none
def xstl (i : Nat) (pc : Nat) (lv : LV) (st : List Value) (σ : Sg) : Res := match st with
  | .long x :: r => nx pc (lset2 lv i (.long x)) r σ
  | _ => none
def x2i (f : Int32 → Int32 → Int32) (pc : Nat) (lv : LV) (st : List Value) (σ : Sg) : Res := match st with
  | .int y :: .int x :: r => nx pc lv (.int (f x y) :: r) σ
  | _ => none
def x2ic (f : Int32 → Int32 → Int32) (pc : Nat) (lv : LV) (st : List Value) (σ : Sg) : Res := match st with
  | .int y :: .int x :: r => cx (¬ y = 0) pc lv (.int (f x y) :: r) σ
  | _ => none
def x2l (f : Int64 → Int64 → Int64) (pc : Nat) (lv : LV) (st : List Value) (σ : Sg) : Res := match st with
  | .long y :: .long x :: r => nx pc lv (.long (f x y) :: r) σ
  | _ => none
def x2lc (f : Int64 → Int64 → Int64) (pc : Nat) (lv : LV) (st : List Value) (σ : Sg) : Res := match st with
  | .long y :: .long x :: r => cx (¬ y = 0) pc lv (.long (f x y) :: r) σ
  | _ => none
def xif (f : Int32 → Nat) (lv : LV) (st : List Value) (σ : Sg) : Res := match st with
  | .int x :: r => nx (f x) lv r σ
  | _ => none
def xif2 (f : Int32 → Int32 → Nat) (lv : LV) (st : List Value) (σ : Sg) : Res := match st with
  | .int y :: .int x :: r => nx (f x y) lv r σ
  | _ => none
def iush (x y : Int32) : Int32 := (x.toUInt32 >>> (y.toUInt32 &&& Int32.toUInt32 31)).toInt32
def lush (x : Int64) (y : Int32) : Int64 := (x.toUInt64 >>> (y.toInt64.toUInt64 &&& Int64.toUInt64 63)).toInt64
def irm (x y : Int32) : Int32 := x - x / y * y
def lrm (x y : Int64) : Int64 := x - x / y * y
def iabs (x : Int32) : Int32 := if 0 ≤ x then x else 0 - x
def labs (x : Int64) : Int64 := if 0 < x then x else -x
def imax (x y : Int32) : Int32 := if x < y then y else x
def imin (x y : Int32) : Int32 := if y < x then y else x
/-- what one instruction does, and on what conditions; none: nothing is said -/
def exec1 (X : RO) (e : Ent) (lv : LV) (st : List Value) (σ : Sg) : Res :=
  match e with
  | (pc, ins, len, a, b, d, zs) =>
  match ins with
  | .iload i => xld (isI (lget lv i)) (pc + len) lv st σ
  | .iload_n k => xld (isI (lget lv k.val)) (pc + len) lv st σ
  | .lload i => xld (isJ (lget lv i)) (pc + len) lv st σ
  | .lload_n k => xld (isJ (lget lv k.val)) (pc + len) lv st σ
  | .aload i => xld (isR (lget lv i)) (pc + len) lv st σ
  | .aload_n k => xld (isR (lget lv k.val)) (pc + len) lv st σ
  | .istore i => xst i (pc + len) lv st σ
  | .istore_n k => xst k.val (pc + len) lv st σ
  | .lstore i => xstl i (pc + len) lv st σ
  | .lstore_n k => xstl k.val (pc + len) lv st σ
  | .astore i => xsta i (pc + len) lv st σ
  | .astore_n k => xsta k.val (pc + len) lv st σ
  | .iinc i n => (match lget lv i with
    | some (.int x) => nx (pc + len) (lset1 lv i (.int (x + Int32.ofInt n))) st σ
    | _ => none)
  | .iconst n => nx (pc + len) lv (.int (Int32.ofInt n) :: st) σ
  | .bipush n => nx (pc + len) lv (.int (Int32.ofInt n) :: st) σ
  | .sipush n => nx (pc + len) lv (.int (Int32.ofInt n) :: st) σ
  | .ldc _ => (match zs with
    | z :: _ => nx (pc + len) lv (.int (Int32.ofInt z) :: st) σ
    | _ => none)
  | .ldc_w _ => (match zs with
    | z :: _ => nx (pc + len) lv (.int (Int32.ofInt z) :: st) σ
    | _ => none)
  | .ldc2_w _ => (match zs with
    | z :: _ => nx (pc + len) lv (.long (Int64.ofInt z) :: st) σ
    | _ => none)
  | .lconst n => nx (pc + len) lv (.long (Int64.ofNat n.val) :: st) σ
  | .iadd => x2i (fun x y => x + y) (pc + len) lv st σ
  | .isub => x2i (fun x y => x - y) (pc + len) lv st σ
  | .imul => x2i (fun x y => x * y) (pc + len) lv st σ
  | .iand => x2i (fun x y => x &&& y) (pc + len) lv st σ
  | .ior => x2i (fun x y => x ||| y) (pc + len) lv st σ
  | .ixor => x2i (fun x y => x ^^^ y) (pc + len) lv st σ
  | .ishl => x2i (fun x y => x <<< (y &&& 31)) (pc + len) lv st σ
  | .ishr => x2i (fun x y => x >>> (y &&& 31)) (pc + len) lv st σ
  | .iushr => x2i iush (pc + len) lv st σ
  | .idiv => x2ic (fun x y => x / y) (pc + len) lv st σ
  | .irem => x2ic irm (pc + len) lv st σ
  | .ineg => (match st with
    | .int x :: r => nx (pc + len) lv (.int (-x) :: r) σ
    | _ => none)
  | .ladd => x2l (fun x y => x + y) (pc + len) lv st σ
  | .lsub => x2l (fun x y => x - y) (pc + len) lv st σ
  | .lmul => x2l (fun x y => x * y) (pc + len) lv st σ
  | .ldiv => x2lc (fun x y => x / y) (pc + len) lv st σ
  | .lrem => x2lc lrm (pc + len) lv st σ
  | .lneg => (match st with
    | .long x :: r => nx (pc + len) lv (.long (-x) :: r) σ
    | _ => none)
  | .lushr => (match st with
    | .int y :: .long x :: r => nx (pc + len) lv (.long (lush x y) :: r) σ
    | _ => none)
  | .lcmp => (match st with
    | .long y :: .long x :: r => nx (pc + len) lv (.int (lg_cmp x y) :: r) σ
    | _ => none)
  | .i2l => (match st with
    | .int x :: r => nx (pc + len) lv (.long x.toInt64 :: r) σ
    | _ => none)
  | .l2i => (match st with
    | .long x :: r => nx (pc + len) lv (.int x.toInt32 :: r) σ
    | _ => none)
  | .ifCond .eq _ => xif (fun x => if x = 0 then a else pc + 3) lv st σ
  | .ifCond .ne _ => xif (fun x => if ¬ x = 0 then a else pc + 3) lv st σ
  | .ifCond .lt _ => xif (fun x => if x < 0 then a else pc + 3) lv st σ
  | .ifCond .ge _ => xif (fun x => if 0 ≤ x then a else pc + 3) lv st σ
  | .ifCond .gt _ => xif (fun x => if 0 < x then a else pc + 3) lv st σ
  | .ifCond .le _ => xif (fun x => if x ≤ 0 then a else pc + 3) lv st σ
  | .if_icmp .eq _ => xif2 (fun x y => if x = y then a else pc + 3) lv st σ
  | .if_icmp .ne _ => xif2 (fun x y => if ¬ x = y then a else pc + 3) lv st σ
  | .if_icmp .lt _ => xif2 (fun x y => if x < y then a else pc + 3) lv st σ
  | .if_icmp .ge _ => xif2 (fun x y => if y ≤ x then a else pc + 3) lv st σ
  | .if_icmp .gt _ => xif2 (fun x y => if y < x then a else pc + 3) lv st σ
  | .if_icmp .le _ => xif2 (fun x y => if x ≤ y then a else pc + 3) lv st σ
  | .goto _ => nx a lv st σ
  | .tableswitch _ lo _ _ => xif (fun x => swt x a lo zs) lv st σ
  | .dup => (match st with
    | v :: r => cx (v.category = 1) (pc + len) lv (v :: v :: r) σ
    | _ => none)
  | .dup2 => (match st with
    | v :: w :: r => cx (v.category = 1 ∧ w.category = 1) (pc + len) lv (v :: w :: v :: w :: r) σ
    | _ => none)
  | .iaload => (match st with
    | .int i :: .ref c :: r => bif d == 0 then cx (ck c = 0 ∧ vp_in i (al c)) (pc + len) lv (.int (σ.1 c i.toNatClampNeg) :: r) σ
        else bif d == 1 then cx ((1000 ≤ c ∧ c < 1005) ∧ vp_in i (sn c)) (pc + len) lv (.int (sv c i.toNatClampNeg) :: r) σ
        else (match X with
          | some x => cx (c = 2000 ∧ vp_in i x.1) (pc + len) lv (.int (x.2 i.toNatClampNeg) :: r) σ
          | none => none)
    | _ => none)
  | .laload => (match st with
    | .int i :: .ref c :: r => cx (ck c = 1 ∧ vp_in i (al c)) (pc + len) lv (.long (σ.2 c i.toNatClampNeg) :: r) σ
    | _ => none)
  | .baload => (match st with
    | .int i :: .ref c :: r => cx (ck c = 2 ∧ vp_in i (al c)) (pc + len) lv (.int (σ.1 c i.toNatClampNeg) :: r) σ
    | _ => none)
  | .aaload => (match st with
    | .int i :: .ref c :: r => cx ((ck c = 3 ∨ ck c = 4) ∧ vp_in i (al c)) (pc + len) lv (.ref (c + 1 + i.toNatClampNeg) :: r) σ
    | _ => none)
  | .iastore => (match st with
    | .int x :: .int i :: .ref c :: r => cx (ck c = 0 ∧ vp_in i (al c)) (pc + len) lv r (si σ c i.toNatClampNeg x)
    | _ => none)
  | .lastore => (match st with
    | .long x :: .int i :: .ref c :: r => cx (ck c = 1 ∧ vp_in i (al c)) (pc + len) lv r (sl σ c i.toNatClampNeg x)
    | _ => none)
  | .bastore => (match st with
    | .int x :: .int i :: .ref c :: r => cx (ck c = 2 ∧ vp_in i (al c)) (pc + len) lv r (si σ c i.toNatClampNeg (x &&& 1))
    | _ => none)
  | .arraylength => (match st with
    | .ref c :: r => bif d == 0 then cx (ck c < 5) (pc + len) lv (.int (Int32.ofNat (al c)) :: r) σ
        else bif d == 1 then cx (1000 ≤ c ∧ c < 1005) (pc + len) lv (.int (Int32.ofNat (sn c)) :: r) σ
        else (match X with
          | some x => cx (c = 2000) (pc + len) lv (.int (Int32.ofNat x.1) :: r) σ
          | none => none)
    | _ => none)
  | .getfield _ => (match st with
    | .ref c :: r => bif d == 1 then cx (ck c = 5 + a) (pc + len) lv (.long (σ.2 c b) :: r) σ
        else bif d == 2 then cx (ck c = 5 + a) (pc + len) lv (.ref (rf c b) :: r) σ
        else cx (ck c = 5 + a) (pc + len) lv (.int (σ.1 c b) :: r) σ
    | _ => none)
  | .putfield _ => (match st with
    | .int x :: .ref c :: r => bif d == 0 then cx (ck c = 5 + a) (pc + len) lv r (si σ c b x)
        else bif d == 3 then cx (ck c = 5 + a ∧ nb x) (pc + len) lv r (si σ c b x) else none
    | .long x :: .ref c :: r => bif d == 1 then cx (ck c = 5 + a) (pc + len) lv r (sl σ c b x) else none
    | _ => none)
  | .getstatic _ => nx (pc + len) lv (.ref a :: st) σ
  | .invokestatic _ => bif d == 7 then (match st with
      | .int n :: .int dp :: .ref c1 :: .int sp :: .ref c0 :: r => cx ((ck c0 = 0 ∧ ck c1 = 0 ∧ (r.map fun v => v.category).sum ≤ 8) ∧ (¬ sp < 0 ∧ ¬ dp < 0 ∧ ¬ n < 0) ∧ sp.toNatClampNeg + n.toNatClampNeg ≤ al c0 ∧ dp.toNatClampNeg + n.toNatClampNeg ≤ al c1) (pc + len) lv r (scp σ c0 c1 sp.toNatClampNeg dp.toNatClampNeg n.toNatClampNeg)
      | _ => none)
    else bif d == 8 then (match st with
      | .int x :: r => cx ((r.map fun v => v.category).sum ≤ 8) (pc + len) lv (.int (iabs x) :: r) σ
      | _ => none)
    else bif d == 9 then (match st with
      | .long x :: r => cx ((r.map fun v => v.category).sum ≤ 8) (pc + len) lv (.long (labs x) :: r) σ
      | _ => none)
    else bif d == 10 then (match st with
      | .int y :: .int x :: r => cx ((r.map fun v => v.category).sum ≤ 8) (pc + len) lv (.int (imax x y) :: r) σ
      | _ => none)
    else bif d == 11 then (match st with
      | .int y :: .int x :: r => cx ((r.map fun v => v.category).sum ≤ 8) (pc + len) lv (.int (imin x y) :: r) σ
      | _ => none)
    else none
  | _ => none
/-- a row of instructions, one behind the other -/
def blk (X : RO) : List Ent → PS → Res
  | [], s => some ([], s)
  | e :: l, (pc, lv, st, σ) => bif e.1 == pc then
      (match exec1 X e lv st σ with
      | none => none
      | some (c1, s1) => (match blk X l s1 with
        | none => none
        | some (c2, s2) => some (c1 ++ c2, s2)))
    else none
/-- what a return gives back, and on what condition (a = 1: a boolean) -/
def retv (e : Ent) (st : List Value) : Option (Prop × Option Value) :=
  match e with
  | (_, ins, _, a, _, _, _) =>
  match ins with
  | .ireturn => (match st with
    | [.int x] => bif a == 1 then some (nb x, some (.int x)) else some (True, some (.int x))
    | _ => none)
  | .lreturn => (match st with
    | [.long x] => some (True, some (.long x))
    | _ => none)
  | .areturn => (match st with
    | [.ref x] => some (True, some (.ref x))
    | _ => none)
  | .return_ => (match st with
    | [] => some (True, none)
    | _ => none)
  | _ => none
/-- the arguments of a call (the object first), what is left, on what condition: n values; k: the object's class, 0 for a static one -/
def popn : Nat → List Value → List Value → Option (List Value × List Value)
  | 0, acc, st => some (acc, st)
  | n + 1, acc, v :: st => popn n (v :: acc) st
  | _ + 1, _, [] => none
def icall (e : Ent) (st : List Value) : Option (Prop × List Value × List Value) :=
  match e with
  | (_, ins, _, _, b, d, _) =>
  match ins with
  | .invokestatic _ => bif Nat.blt 6 d then none else (match popn b [] st with
    | some (as, r) => some ((r.map fun v => v.category).sum ≤ 8, as, r)
    | none => none)
  | .invokevirtual _ => (match popn b [] st with
    | some (as, .ref c :: r) => some (ck c = 5 + d ∧ (r.map fun v => v.category).sum ≤ 8, .ref c :: as, r)
    | _ => none)
  | _ => none
abbrev Env1 : Type := Nat → List Value → Sg → (Option Value → Sg → Prop) → Prop
/-- from here the method returns, with Q; G: what its calls do; cs: its rows -/
def Rch (X : RO) (G : Env1) (cs : List (List Ent)) (Q : Option Value → Sg → Prop) : Nat → PS → Prop
  | 0, _ => False
  | n + 1, (pc, lv, st, σ) =>
    (∃ (k : Nat) (l : List Ent) (c : List Prop) (s2 : PS), cs[k]? = some l ∧ blk X l (pc, lv, st, σ) = some (c, s2) ∧ conj c ∧ Rch X G cs Q n s2) ∨
    (∃ (ks : List Nat) (lv2 : LV), lv_pick lv ks = lv2 ∧ Rch X G cs Q n (pc, lv2, st, σ)) ∨
    (∃ (k : Nat) (e : Ent) (c : Prop) (as r : List Value), cs[k]? = some [e] ∧ e.1 = pc ∧ icall e st = some (c, as, r) ∧ c ∧ G e.2.2.2.1 as σ (fun v σ2 => Rch X G cs Q n (pc + 3, lv, v.toList ++ r, σ2))) ∨
    (∃ (k : Nat) (e : Ent) (c : Prop) (v : Option Value), cs[k]? = some [e] ∧ e.1 = pc ∧ retv e st = some (c, v) ∧ c ∧ Q v σ)
theorem Rch.mono {X : RO} {G G2 : Env1} {cs : List (List Ent)} {Q Q2 : Option Value → Sg → Prop} (hQ : ∀ v σ, Q v σ → Q2 v σ) (hG : ∀ m as σ P P2, (∀ v σ, P v σ → P2 v σ) → G m as σ P → G2 m as σ P2) : ∀ (n : Nat) (s : PS), Rch X G cs Q n s → Rch X G2 cs Q2 n s := by
  intro n
  induction n with
  | zero => intro s h; exact h.elim
  | succ n ih =>
    intro s h
    obtain ⟨pc, lv, st, σ⟩ := s
    rcases h with ⟨k, l, c, s2, h1, h2, h3, h4⟩ | ⟨ks, lv2, h1, h2⟩ | ⟨k, e, c, as, r, h1, h2, h3, h4, h5⟩ | ⟨k, e, c, v, h1, h2, h3, h4, h5⟩
    · exact Or.inl ⟨k, l, c, s2, h1, h2, h3, ih _ h4⟩
    · exact Or.inr (Or.inl ⟨ks, lv2, h1, ih _ h2⟩)
    · exact Or.inr (Or.inr (Or.inl ⟨k, e, c, as, r, h1, h2, h3, h4, hG _ _ _ _ _ (fun v σ2 h => ih _ h) h5⟩))
    · exact Or.inr (Or.inr (Or.inr ⟨k, e, c, v, h1, h2, h3, h4, hQ _ _ h5⟩))
theorem Rch.up {X : RO} {G : Env1} {cs : List (List Ent)} {Q : Option Value → Sg → Prop} (hG : ∀ m as σ P P2, (∀ v σ, P v σ → P2 v σ) → G m as σ P → G m as σ P2) : ∀ (n : Nat) (s : PS), Rch X G cs Q n s → Rch X G cs Q (n + 1) s := by
  intro n
  induction n with
  | zero => intro s h; exact h.elim
  | succ n ih =>
    intro s h
    obtain ⟨pc, lv, st, σ⟩ := s
    rcases h with ⟨k, l, c, s2, h1, h2, h3, h4⟩ | ⟨ks, lv2, h1, h2⟩ | ⟨k, e, c, as, r, h1, h2, h3, h4, h5⟩ | ⟨k, e, c, v, h1, h2, h3, h4, h5⟩
    · exact Or.inl ⟨k, l, c, s2, h1, h2, h3, ih _ h4⟩
    · exact Or.inr (Or.inl ⟨ks, lv2, h1, ih _ h2⟩)
    · exact Or.inr (Or.inr (Or.inl ⟨k, e, c, as, r, h1, h2, h3, h4, hG _ _ _ _ _ (fun v σ2 h => ih _ h) h5⟩))
    · exact Or.inr (Or.inr (Or.inr ⟨k, e, c, v, h1, h2, h3, h4, h5⟩))
/-- somehow, in some number of steps -/
def Rc (X : RO) (G : Env1) (cs : List (List Ent)) (s : PS) (Q : Option Value → Sg → Prop) : Prop := ∃ n, Rch X G cs Q n s
theorem Rc.blk {X : RO} {G : Env1} {cs : List (List Ent)} {Q : Option Value → Sg → Prop} {pc : Nat} {lv : LV} {st : List Value} {σ : Sg} (k : Nat) {l : List Ent} {c : List Prop} {s2 : PS} (h1 : cs[k]? = some l) (h2 : blk X l (pc, lv, st, σ) = some (c, s2)) (h3 : conj c) (h4 : Rc X G cs s2 Q) : Rc X G cs (pc, lv, st, σ) Q := by
  obtain ⟨n, h⟩ := h4
  exact ⟨n + 1, Or.inl ⟨k, l, c, s2, h1, h2, h3, h⟩⟩
theorem Rc.pick {X : RO} {G : Env1} {cs : List (List Ent)} {Q : Option Value → Sg → Prop} {pc : Nat} {lv lv2 : LV} {st : List Value} {σ : Sg} (ks : List Nat) (h1 : lv_pick lv ks = lv2) (h2 : Rc X G cs (pc, lv2, st, σ) Q) : Rc X G cs (pc, lv, st, σ) Q := by
  obtain ⟨n, h⟩ := h2
  exact ⟨n + 1, Or.inr (Or.inl ⟨ks, lv2, h1, h⟩)⟩
theorem Rc.ret {X : RO} {G : Env1} {cs : List (List Ent)} {Q : Option Value → Sg → Prop} {pc : Nat} {lv : LV} {st : List Value} {σ : Sg} (k : Nat) {e : Ent} {c : Prop} {v : Option Value} (h1 : cs[k]? = some [e]) (h2 : e.1 = pc) (h3 : retv e st = some (c, v)) (h4 : c) (h5 : Q v σ) : Rc X G cs (pc, lv, st, σ) Q := ⟨1, Or.inr (Or.inr (Or.inr ⟨k, e, c, v, h1, h2, h3, h4, h5⟩))⟩
/-- a call whose answer is known -/
theorem Rc.call {X : RO} {G : Env1} {cs : List (List Ent)} {Q : Option Value → Sg → Prop} (hG : ∀ m as σ P P2, (∀ v σ, P v σ → P2 v σ) → G m as σ P → G m as σ P2) {pc : Nat} {lv : LV} {st : List Value} {σ : Sg} (k : Nat) {e : Ent} {c : Prop} {as r : List Value} {mi : Nat} {v : Option Value} {σ2 : Sg} (h1 : cs[k]? = some [e]) (h2 : e.1 = pc) (hm : e.2.2.2.1 = mi) (h3 : icall e st = some (c, as, r)) (h4 : c) (h5 : G mi as σ (fun v' σ' => v' = v ∧ σ' = σ2)) (h6 : Rc X G cs (pc + 3, lv, v.toList ++ r, σ2) Q) : Rc X G cs (pc, lv, st, σ) Q := by
  obtain ⟨n, h⟩ := h6
  subst hm
  exact ⟨n + 1, Or.inr (Or.inr (Or.inl ⟨k, e, c, as, r, h1, h2, h3, h4, hG _ _ _ _ _ (fun v' σ' hh => by obtain ⟨rfl, rfl⟩ := hh; exact h) h5⟩))⟩
end
section
/-! ===== the small machine's store as a world of cells ===== -/
def TB : List Cond := lw_tbl.filter goodWord
theorem tb_good {w : Cond} (h : w ∈ TB) : w ∈ lw_tbl ∧ goodWord w = true := by
  simpa [TB, List.mem_filter] using h
theorem tb_at (i : Nat) {w : Cond} (h : lw_tbl[i]? = some w) (g : goodWord w = true) : w ∈ TB := List.mem_filter.mpr ⟨List.mem_of_getElem? h, g⟩
theorem tb_p (i : Nat) {w : Cond} (h : (k2_sels lw_privs)[i]? = some w) (g : goodWord w = true) : w ∈ TB := List.mem_filter.mpr ⟨List.mem_append_left _ (List.mem_of_getElem? h), g⟩
theorem lw_1 (i : Nat) {w : Cond} (h : tables_1_1[i]? = some w) : w ∈ lw_tbl := List.mem_append_right _ (List.mem_append_left _ (List.mem_of_getElem? h))
theorem lw_2 (i : Nat) {w : Cond} (h : tables_1_2[i]? = some w) : w ∈ lw_tbl := List.mem_append_right _ (List.mem_append_right _ (List.mem_append_left _ (List.mem_of_getElem? h)))
theorem lw_3 (i : Nat) {w : Cond} (h : tables_1_3[i]? = some w) : w ∈ lw_tbl := List.mem_append_right _ (List.mem_append_right _ (List.mem_append_right _ (List.mem_append_left _ (List.mem_of_getElem? h))))
theorem lw_4 (i : Nat) {w : Cond} (h : tables_1_4[i]? = some w) : w ∈ lw_tbl := List.mem_append_right _ (List.mem_append_right _ (List.mem_append_right _ (List.mem_append_right _ (List.mem_append_left _ (List.mem_of_getElem? h)))))
theorem lw_5 (i : Nat) {w : Cond} (h : tables_1_5[i]? = some w) : w ∈ lw_tbl := List.mem_append_right _ (List.mem_append_right _ (List.mem_append_right _ (List.mem_append_right _ (List.mem_append_right _ (List.mem_append_left _ (List.mem_of_getElem? h))))))
theorem lw_6 (i : Nat) {w : Cond} (h : tables_1_6[i]? = some w) : w ∈ lw_tbl := List.mem_append_right _ (List.mem_append_right _ (List.mem_append_right _ (List.mem_append_right _ (List.mem_append_right _ (List.mem_append_right _ (List.mem_of_getElem? h))))))
theorem tb_1 (i : Nat) {w : Cond} (h : tables_1_1[i]? = some w) (g : goodWord w = true) : w ∈ TB := List.mem_filter.mpr ⟨lw_1 i h, g⟩
theorem tb_2 (i : Nat) {w : Cond} (h : tables_1_2[i]? = some w) (g : goodWord w = true) : w ∈ TB := List.mem_filter.mpr ⟨lw_2 i h, g⟩
theorem tb_3 (i : Nat) {w : Cond} (h : tables_1_3[i]? = some w) (g : goodWord w = true) : w ∈ TB := List.mem_filter.mpr ⟨lw_3 i h, g⟩
theorem tb_4 (i : Nat) {w : Cond} (h : tables_1_4[i]? = some w) (g : goodWord w = true) : w ∈ TB := List.mem_filter.mpr ⟨lw_4 i h, g⟩
theorem tb_5 (i : Nat) {w : Cond} (h : tables_1_5[i]? = some w) (g : goodWord w = true) : w ∈ TB := List.mem_filter.mpr ⟨lw_5 i h, g⟩
theorem tb_6 (i : Nat) {w : Cond} (h : tables_1_6[i]? = some w) (g : goodWord w = true) : w ∈ TB := List.mem_filter.mpr ⟨lw_6 i h, g⟩
theorem tb_goodIn {w : Cond} (h : w ∈ TB) : GoodIn TB (w :: TB) := by
  intro v hv
  rcases List.mem_cons.mp hv with rfl | hv
  · exact ⟨h, good_of_word (tb_good h).2⟩
  · exact ⟨hv, good_of_word (tb_good hv).2⟩
def enc (ad : Nat → Nat) : Value → Value
  | .ref k => .ref (ad k)
  | .int x => .int x
  | .long x => .long x
  | .float x => .float x
  | .double x => .double x
  | .null => .null
  | .retAddr x => .retAddr x
def elv (ad : Nat → Nat) (lv : LV) : LV := lv.map fun q => (q.1, enc ad q.2)
def est (ad : Nat → Nat) (st : List Value) : List Value := st.map (enc ad)
theorem enc_cat (ad : Nat → Nat) (v : Value) : (enc ad v).category = v.category := by cases v <;> rfl
theorem est_cat (ad : Nat → Nat) (st : List Value) : ((est ad st).map fun v => v.category).sum = (st.map fun v => v.category).sum := by
  simp [est, Function.comp_def, enc_cat]
theorem elv_lset1 (ad : Nat → Nat) (lv : LV) (i : Nat) (v : Value) : (i, enc ad v) :: (elv ad lv).filter (fun q => !(q.1 == i) && !(q.1 + 1 == i && q.2.category == 2)) = elv ad (lset1 lv i v) := by
  simp [elv, lset1, List.filter_map, Function.comp_def, enc_cat]
theorem elv_lset2 (ad : Nat → Nat) (lv : LV) (i : Nat) (v : Value) : (i, enc ad v) :: (elv ad lv).filter (fun q => !(q.1 == i) && (!(q.1 == i + 1) && !(q.1 + 1 == i && q.2.category == 2))) = elv ad (lset2 lv i v) := by
  simp [elv, lset2, List.filter_map, Function.comp_def, enc_cat]
theorem lget_mem : ∀ {lv : LV} {i : Nat} {v : Value}, lget lv i = some v → (i, v) ∈ lv
  | [], _, _, h => by cases h
  | (j, w) :: r, i, v, h => by
    unfold lget at h
    by_cases hj : j = i
    · subst hj
      simp at h
      rw [h]
      exact List.mem_cons_self
    · have hb : (j == i) = false := by simpa using hj
      rw [hb] at h
      exact List.mem_cons_of_mem _ (lget_mem h)
theorem lget_has {ad : Nat → Nat} {ls : Array Slot} {nL : Nat} {lv : LV} {i : Nat} {v : Value} (h : lv_has ls nL (elv ad lv)) (hg : lget lv i = some v) : ls[i]? = some (.val (enc ad v)) := h.2.2 (i, enc ad v) (List.mem_map.mpr ⟨(i, v), lget_mem hg, rfl⟩)
theorem elv_pick {ad : Nat → Nat} {ls : Array Slot} {nL : Nat} {lv : LV} (ks : List Nat) (h : lv_has ls nL (elv ad lv)) : lv_has ls nL (elv ad (lv_pick lv ks)) := by
  refine lv_sub h ks ?_
  induction ks with
  | nil => rfl
  | cons k ks ih =>
    unfold lv_pick at ih ⊢
    unfold elv at ih ⊢
    simp only [List.filterMap_cons, List.getElem?_map]
    cases lv[k]? with
    | none => simpa using ih
    | some q => simpa using ih
theorem elv_idx {ad : Nat → Nat} {lv : LV} {i : Nat} {v : Value} (h : lget lv i = some v) : ∃ k : Nat, (elv ad lv)[k]? = some (i, enc ad v) := by
  have h1 : (i, enc ad v) ∈ elv ad lv := List.mem_map.mpr ⟨(i, v), lget_mem h, rfl⟩
  obtain ⟨k, hk, e⟩ := List.getElem_of_mem h1
  exact ⟨k, by rw [List.getElem?_eq_getElem hk, e]⟩
/-! the world -/
def fvl (ad : Nat → Nat) (σ : Sg) (ci k j : Nat) : Value := match ft ci j with
  | 1 => .long (σ.2 k j)
  | 2 => .ref (ad (rf k j))
  | _ => .int (σ.1 k j)
def cel (tc : Nat → ClassId) (ad : Nat → Nat) (σ : Sg) (k : Nat) : va_E := match ck k with
  | 0 => .inl (tc 0, al k, .inl (σ.1 k))
  | 1 => .inl (tc 1, al k, .inr (.inl (σ.2 k)))
  | 2 => .inl (tc 2, al k, .inl (σ.1 k))
  | 3 => .inl (tc 3, al k, .inr (.inr (.inr (.inr fun j => some (ad (k + 1 + j))))))
  | 4 => .inl (tc 4, al k, .inr (.inr (.inr (.inr fun j => some (ad (k + 1 + j))))))
  | n + 5 => .inr (n, (List.range (nf n)).map (fvl ad σ n k))
def tys (tc : Nat → ClassId) : List (ClassId × FieldType) := [(tc 0, .int), (tc 1, .long), (tc 2, .boolean), (tc 3, .array .int), (tc 4, .array .long)]
def wld (tc : Nat → ClassId) (ad : Nat → Nat) (σ : Sg) : va_W := (List.range NC).map fun k => (ad k, cel tc ad σ k)
def inA (ad : Nat → Nat) (q : Nat) : Prop := ∃ k, k < NC ∧ q = ad k
theorem ck_lt {c n : Nat} (h : ck c = n) (hn : n ≠ 99) : c < NC := by
  have h1 : ckL.length = NC := by decide +kernel
  rw [← h1]
  rcases Nat.lt_or_ge c ckL.length with q | q
  · exact q
  · refine absurd ?_ hn
    rw [← h]
    unfold ck
    simp [List.getD, List.getElem?_eq_none q]
theorem wld_get {tc : Nat → ClassId} {ad : Nat → Nat} {σ : Sg} {k : Nat} (h : k < NC) : (wld tc ad σ)[k]? = some (ad k, cel tc ad σ k) := by
  unfold wld
  rw [List.getElem?_map, List.getElem?_range h]
  rfl
theorem wld_set {tc : Nat → ClassId} {ad : Nat → Nat} {σ σ2 : Sg} {k : Nat} (h : k < NC) (hs : ∀ j, j ≠ k → cel tc ad σ2 j = cel tc ad σ j) : (wld tc ad σ).set k (ad k, cel tc ad σ2 k) = wld tc ad σ2 := by
  refine List.ext_getElem? fun i => ?_
  rw [List.getElem?_set]
  by_cases hk : k = i
  · subst hk
    rw [if_pos rfl, wld_get h]
    simp [wld, h]
  · rw [if_neg hk]
    rcases Nat.lt_or_ge i NC with q | q
    · rw [wld_get q, wld_get q, hs i (fun z => hk z.symm)]
    · rw [List.getElem?_eq_none (by simp [wld]; exact q), List.getElem?_eq_none (by simp [wld]; exact q)]
theorem cel_si {tc : Nat → ClassId} {ad : Nat → Nat} {σ : Sg} {c j k : Nat} {x : Int32} (h : k ≠ c) : cel tc ad (si σ c j x) k = cel tc ad σ k := by
  have e : fvl ad (si σ c j x) = fun ci k' => if k' = k then fvl ad σ ci k' else fvl ad (si σ c j x) ci k' := by
    funext ci k' j'
    by_cases hk : k' = k
    · rw [if_pos hk]
      subst hk
      unfold fvl si
      simp [h]
    · rw [if_neg hk]
  unfold cel
  rw [e]
  simp [si, h]
theorem cel_sl {tc : Nat → ClassId} {ad : Nat → Nat} {σ : Sg} {c j k : Nat} {x : Int64} (h : k ≠ c) : cel tc ad (sl σ c j x) k = cel tc ad σ k := by
  have e : fvl ad (sl σ c j x) = fun ci k' => if k' = k then fvl ad σ ci k' else fvl ad (sl σ c j x) ci k' := by
    funext ci k' j'
    by_cases hk : k' = k
    · rw [if_pos hk]
      subst hk
      unfold fvl sl
      simp [h]
    · rw [if_neg hk]
  unfold cel
  rw [e]
  simp [sl, h]
theorem cel_scp {tc : Nat → ClassId} {ad : Nat → Nat} {σ : Sg} {c0 c sp dp n k : Nat} (h : k ≠ c) : cel tc ad (scp σ c0 c sp dp n) k = cel tc ad σ k := by
  have e : fvl ad (scp σ c0 c sp dp n) = fun ci k' => if k' = k then fvl ad σ ci k' else fvl ad (scp σ c0 c sp dp n) ci k' := by
    funext ci k' j'
    by_cases hk : k' = k
    · rw [if_pos hk]
      subst hk
      unfold fvl scp
      simp [h]
    · rw [if_neg hk]
  unfold cel
  rw [e]
  simp [scp, h]
theorem wld_D {tc : Nat → ClassId} {ad : Nat → Nat} {A : Nat → Prop} (hi : ∀ i j, i < NC → j < NC → ad i = ad j → i = j) (hA : ∀ q, inA ad q → A q) (σ : Sg) : va_D A (wld tc ad σ) := by
  have key : ∀ (i : Nat) (p : Nat × va_E), (wld tc ad σ)[i]? = some p → i < NC ∧ p.1 = ad i := by
    intro i p h
    have hl : i < NC := by
      have := (List.getElem?_eq_some_iff.mp h).1
      simpa [wld] using this
    rw [wld_get hl] at h
    cases h
    exact ⟨hl, rfl⟩
  refine ⟨fun i j p q hp hq e => ?_, fun k q hk => ?_⟩
  · obtain ⟨a1, a2⟩ := key i p hp
    obtain ⟨b1, b2⟩ := key j q hq
    exact hi i j a1 b1 (by rw [← a2, ← b2]; exact e)
  · obtain ⟨a1, a2⟩ := key k q hk
    exact hA _ ⟨k, a1, a2⟩
/-- the static arrays, as the Statement has them -/
def Stc (A : Nat → Prop) (ad : Nat → Nat) (U : State) (H : Heap) : Prop := ∀ i, i < 5 → va_Z "PureGroups" (sq (1000 + i)).1 "[I" (.ref (ad (1000 + i))) A U H ∧ va_T .int (ad (1000 + i)) (sn (1000 + i)) (fun j => .int (sv (1000 + i) j)) A U H
theorem Stc.moved {A : Nat → Prop} {ad : Nat → Nat} {u U : State} {H : Heap} (hvm : u.vm.Alike U.vm) (h : Stc A ad u H) : Stc A ad U H := fun i hi => ⟨(h i hi).1.moved hvm, (h i hi).2.moved hvm⟩
theorem Stc.narrow {A B : Nat → Prop} {ad : Nat → Nat} {U : State} {H : Heap} (h : Stc A ad U H) (hAB : ∀ q, B q → A q) : Stc B ad U H := fun i hi => ⟨(h i hi).1.narrow hAB, (h i hi).2.narrow hAB⟩
theorem Stc.kept {A : Nat → Prop} {ad : Nat → Nat} {U : State} {H H1 : Heap} (h : Stc A ad U H) (hq : ∀ a : Nat, a < H.size → ¬ A a → H1[a]? = H[a]?) : Stc A ad U H1 := fun i hi => ⟨(h i hi).1.kept hq, (h i hi).2.kept hq⟩
/-- links to nest mates: they are carried from state to state -/
def isNst : Cond → Bool
  | .fieldLinkNest _ _ _ _ _ _ => true
  | .methodLinkNest _ _ _ _ => true
  | _ => false
def Nst (U : State) : Prop := ∀ w, w ∈ lw_tbl → isNst w = true → va_Nw w U
theorem Nst.warm {s U : State} (hW : s.WarmedH U.vm) (h : Nst s) : Nst U := by
  intro w hw hn
  have h1 := h w hw hn
  cases w with
  | fieldLinkNest a b c d e f => exact va_Nw.warmF hW h1
  | methodLinkNest a b c d => exact va_Nw.warmM hW h1
  | _ => cases hn
theorem Nst.same {u U : State} (hvm : u.vm = U.vm) (h : Nst u) : Nst U := by
  intro w hw hn
  have h1 := h w hw hn
  cases w with
  | fieldLinkNest a b c d e f => exact va_Nw.same rfl hvm h1
  | methodLinkNest a b c d => exact va_Nw.same rfl hvm h1
  | _ => cases hn
/-! what the tables must say of an instruction -/
abbrev MI : Type := MethodName × ByteArray × Nat × Option FieldType
def ilen : Instr → Nat
  | .iload _ | .lload _ | .aload _ | .istore _ | .lstore _ | .astore _ | .bipush _ | .ldc _ => 2
  | .iinc _ _ | .sipush _ | .ldc_w _ | .ldc2_w _ | .ifCond _ _ | .if_icmp _ _ | .goto _ | .getfield _ | .putfield _ | .getstatic _ | .invokestatic _ | .invokevirtual _ => 3
  | _ => 1
def dty : Nat → FieldType
  | 0 => .int
  | 1 => .long
  | _ => .boolean
def FldOK (own : String) (idx ci k d : Nat) (put : Bool) : Prop := ∃ (C : String) (T : u_T) (N : Nat) (ty0 : Nat → FieldType), cl[ci]? = some (C, T, N) ∧ N = nf ci ∧ k < N ∧ ft ci k = d ∧ (∀ w ∈ u_ws C T N, w ∈ TB) ∧ Cond.fieldLink own idx (T k).1 (T k).2.1 (T k).2.2.1 ∈ TB ∧ (∀ k, k < N → parseFieldDescriptor (T k).2.2.1 = some (ty0 k)) ∧ (∀ a, a < N → ∀ b, b < N → a ≠ b → (T a).2.1 ≠ (T b).2.1) ∧ (put = true → (T k).2.2.2 = false ∧ ty0 k = dty d)
def StaOK (own : String) (idx a : Nat) : Prop := ∃ i, i < 5 ∧ a = 1000 + i ∧ (Cond.fieldLink own idx "PureGroups" (sq a).1 "[I" ∈ TB ∨ ∃ host, Cond.fieldLinkNest own idx "PureGroups" (sq a).1 "[I" host ∈ lw_tbl)
def CalOK (M : Nat → MI) (mid b : Nat) : Prop := (M mid).2.2.1 ≤ 45 ∧ Cond.code (M mid).1 (M mid).2.1 (M mid).2.2.1 (M mid).2.2.2 ∈ TB ∧ Cond.initialized (M mid).1.cls ∈ TB ∧ ((M mid).1.cls ≠ "java/lang/invoke/MethodHandle" ∧ (M mid).1.cls ≠ "java/lang/invoke/VarHandle") ∧ (parseMethodDescriptor (M mid).1.desc).map (fun d => d.parameters.length) = some b
def VirOK (M : Nat → MI) (own : String) (idx mid b d : Nat) : Prop := CalOK M mid b ∧ Cond.methodLink own idx (M mid).1 ∈ TB ∧ Cond.instanceMethod (M mid).1 ∈ TB ∧ Cond.selects (M mid).1.cls (M mid).1 (M mid).1 ∈ TB ∧ ∃ q : vw_C, cl[d]? = some q ∧ q.1 = (M mid).1.cls
def StmOK (M : Nat → MI) (own : String) (idx mid b : Nat) : Prop := CalOK M mid b ∧ (Cond.methodLink own idx (M mid).1 ∈ TB ∨ ∃ host, Cond.methodLinkNest own idx (M mid).1 host ∈ lw_tbl) ∧ Cond.static (M mid).1 ∈ TB
def ArcOK (own : String) (idx : Nat) : Prop := Cond.methodLink own idx arraycopyName ∈ TB ∧ Cond.native arraycopyName ∈ TB ∧ Cond.static arraycopyName ∈ TB ∧ Cond.initialized "java/lang/System" ∈ TB
def MabOK (own : String) (idx : Nat) : Prop := Cond.methodLink own idx Lib.Math.abs.name ∈ TB ∧ Cond.static Lib.Math.abs.name ∈ TB ∧ Cond.initialized "java/lang/Math" ∈ TB ∧ Cond.code Lib.Math.abs.name Lib.Math.abs.code 1 (some .int) ∈ TB
def MalOK (own : String) (idx : Nat) : Prop := Cond.methodLink own idx Lib.MathLoose.abs_long.x ∈ TB ∧ Cond.static Lib.MathLoose.abs_long.x ∈ TB ∧ Cond.initialized "java/lang/Math" ∈ TB ∧ Cond.code Lib.MathLoose.abs_long.x Lib.MathLoose.abs_long.code 2 (some .long) ∈ TB
def MaxOK (own : String) (idx : Nat) : Prop := Cond.methodLink own idx Lib.Math.max.name ∈ TB ∧ Cond.static Lib.Math.max.name ∈ TB ∧ Cond.initialized "java/lang/Math" ∈ TB ∧ Cond.code Lib.Math.max.name Lib.Math.max.code 2 (some .int) ∈ TB
def MinOK (own : String) (idx : Nat) : Prop := Cond.methodLink own idx Lib.Math.min.name ∈ TB ∧ Cond.static Lib.Math.min.name ∈ TB ∧ Cond.initialized "java/lang/Math" ∈ TB ∧ Cond.code Lib.Math.min.name Lib.Math.min.code 2 (some .int) ∈ TB
def SwOK (pc a : Nat) (df lo hi : Int) (offs : Array Int) (zs : List Int) : Prop := (pc : Int) + df = (a : Int) ∧ hi = lo + zs.length - 1 ∧ (-2147483648 ≤ lo ∧ hi ≤ 2147483647) ∧ ∀ i, i < zs.length → ∃ off, offs[i]? = some off ∧ (pc : Int) + off = ((zs.getD i 0).toNat : Int)
def EntOK (M : Nat → MI) (own : String) (cc : ByteArray) (nL : Nat) (e : Ent) : Prop :=
  decode cc e.1 = .ok (e.2.1, e.2.2.1) ∧ (match e with
  | (pc, ins, len, a, b, d, zs) => (match ins with
    | .istore i => i < nL
    | .istore_n k => k.val < nL
    | .astore i => i < nL
    | .astore_n k => k.val < nL
    | .lstore i => i + 1 < nL
    | .lstore_n k => k.val + 1 < nL
    | .iinc i _ => i < nL
    | .bipush n => (Int8.ofInt n).toInt32 = Int32.ofInt n
    | .sipush n => (Int16.ofInt n).toInt32 = Int32.ofInt n
    | .ldc idx => ∃ z r, zs = z :: r ∧ Cond.constant own idx (Int32.ofInt z) ∈ TB
    | .ldc_w idx => ∃ z r, zs = z :: r ∧ Cond.constant own idx (Int32.ofInt z) ∈ TB
    | .ldc2_w idx => ∃ z r, zs = z :: r ∧ Cond.constantLong own idx (Int64.ofInt z) ∈ TB
    | .ifCond _ off => (pc : Int) + off = (a : Int)
    | .if_icmp _ off => (pc : Int) + off = (a : Int)
    | .goto off => (pc : Int) + off = (a : Int)
    | .tableswitch df lo hi offs => SwOK pc a df lo hi offs zs
    | .getfield idx => FldOK own idx a b d false
    | .putfield idx => FldOK own idx a b d true
    | .getstatic idx => StaOK own idx a
    | .invokevirtual idx => VirOK M own idx a b d
    | .invokestatic idx => (d = 7 → ArcOK own idx) ∧ (¬ 6 < d → StmOK M own idx a b) ∧ (d = 8 → MabOK own idx) ∧ (d = 9 → MalOK own idx) ∧ (d = 10 → MaxOK own idx) ∧ (d = 11 → MinOK own idx)
    | _ => True)) ∧ ((∀ a b c d, e.2.1 ≠ .tableswitch a b c d) → e.2.2.1 = ilen e.2.1)
end
section
/-! ===== what the small machine does, the machine does ===== -/
theorem nx_inv {q : Nat} {lv : LV} {st : List Value} {σ : Sg} {cs : List Prop} {pc2 : Nat} {lv2 : LV} {st2 : List Value} {σ2 : Sg} (h : nx q lv st σ = some (cs, pc2, lv2, st2, σ2)) : pc2 = q ∧ lv2 = lv ∧ st2 = st ∧ σ2 = σ := by
  simp only [nx, Option.some.injEq, Prod.mk.injEq] at h
  exact ⟨h.2.1.symm, h.2.2.1.symm, h.2.2.2.1.symm, h.2.2.2.2.symm⟩
theorem cx_inv {c : Prop} {q : Nat} {lv : LV} {st : List Value} {σ : Sg} {cs : List Prop} {pc2 : Nat} {lv2 : LV} {st2 : List Value} {σ2 : Sg} (h : cx c q lv st σ = some (cs, pc2, lv2, st2, σ2)) (hc : conj cs) : c ∧ pc2 = q ∧ lv2 = lv ∧ st2 = st ∧ σ2 = σ := by
  simp only [cx, Option.some.injEq, Prod.mk.injEq] at h
  rw [← h.1] at hc
  exact ⟨hc.1, h.2.1.symm, h.2.2.1.symm, h.2.2.2.1.symm, h.2.2.2.2.symm⟩
section INV
variable {q : Nat} {lv : LV} {st : List Value} {σ : Sg} {cs : List Prop} {pc2 : Nat} {lv2 : LV} {st2 : List Value} {σ2 : Sg}
theorem xldI_inv {o : Option Value} (h : xld (isI o) q lv st σ = some (cs, pc2, lv2, st2, σ2)) : ∃ x, o = some (.int x) ∧ pc2 = q ∧ lv2 = lv ∧ st2 = .int x :: st ∧ σ2 = σ := by
  match o, h with
  | some (.int x), h => obtain ⟨h1, h2, h3, h4⟩ := nx_inv h; exact ⟨x, rfl, h1, h2, h3, h4⟩
theorem xldJ_inv {o : Option Value} (h : xld (isJ o) q lv st σ = some (cs, pc2, lv2, st2, σ2)) : ∃ x, o = some (.long x) ∧ pc2 = q ∧ lv2 = lv ∧ st2 = .long x :: st ∧ σ2 = σ := by
  match o, h with
  | some (.long x), h => obtain ⟨h1, h2, h3, h4⟩ := nx_inv h; exact ⟨x, rfl, h1, h2, h3, h4⟩
theorem xldR_inv {o : Option Value} (h : xld (isR o) q lv st σ = some (cs, pc2, lv2, st2, σ2)) : ∃ x, o = some (.ref x) ∧ pc2 = q ∧ lv2 = lv ∧ st2 = .ref x :: st ∧ σ2 = σ := by
  match o, h with
  | some (.ref x), h => obtain ⟨h1, h2, h3, h4⟩ := nx_inv h; exact ⟨x, rfl, h1, h2, h3, h4⟩
theorem xst_inv {i : Nat} (h : xst i q lv st σ = some (cs, pc2, lv2, st2, σ2)) : ∃ x r, st = .int x :: r ∧ pc2 = q ∧ lv2 = lset1 lv i (.int x) ∧ st2 = r ∧ σ2 = σ := by
  match st, h with
  | .int x :: r, h => obtain ⟨h1, h2, h3, h4⟩ := nx_inv h; exact ⟨x, r, rfl, h1, h2, h3, h4⟩
theorem xsta_inv {i : Nat} (h : xsta i q lv st σ = some (cs, pc2, lv2, st2, σ2)) : ∃ x r, st = .ref x :: r ∧ pc2 = q ∧ lv2 = lset1 lv i (.ref x) ∧ st2 = r ∧ σ2 = σ := by
  match st, h with
  | .ref x :: r, h => obtain ⟨h1, h2, h3, h4⟩ := nx_inv h; exact ⟨x, r, rfl, h1, h2, h3, h4⟩
theorem xstl_inv {i : Nat} (h : xstl i q lv st σ = some (cs, pc2, lv2, st2, σ2)) : ∃ x r, st = .long x :: r ∧ pc2 = q ∧ lv2 = lset2 lv i (.long x) ∧ st2 = r ∧ σ2 = σ := by
  match st, h with
  | .long x :: r, h => obtain ⟨h1, h2, h3, h4⟩ := nx_inv h; exact ⟨x, r, rfl, h1, h2, h3, h4⟩
theorem x2i_inv {f : Int32 → Int32 → Int32} (h : x2i f q lv st σ = some (cs, pc2, lv2, st2, σ2)) : ∃ x y r, st = .int y :: .int x :: r ∧ pc2 = q ∧ lv2 = lv ∧ st2 = .int (f x y) :: r ∧ σ2 = σ := by
  match st, h with
  | .int y :: .int x :: r, h => obtain ⟨h1, h2, h3, h4⟩ := nx_inv h; exact ⟨x, y, r, rfl, h1, h2, h3, h4⟩
theorem x2ic_inv {f : Int32 → Int32 → Int32} (h : x2ic f q lv st σ = some (cs, pc2, lv2, st2, σ2)) (hc : conj cs) : ∃ x y r, st = .int y :: .int x :: r ∧ ¬ y = 0 ∧ pc2 = q ∧ lv2 = lv ∧ st2 = .int (f x y) :: r ∧ σ2 = σ := by
  match st, h with
  | .int y :: .int x :: r, h => obtain ⟨h0, h1, h2, h3, h4⟩ := cx_inv h hc; exact ⟨x, y, r, rfl, h0, h1, h2, h3, h4⟩
theorem x2l_inv {f : Int64 → Int64 → Int64} (h : x2l f q lv st σ = some (cs, pc2, lv2, st2, σ2)) : ∃ x y r, st = .long y :: .long x :: r ∧ pc2 = q ∧ lv2 = lv ∧ st2 = .long (f x y) :: r ∧ σ2 = σ := by
  match st, h with
  | .long y :: .long x :: r, h => obtain ⟨h1, h2, h3, h4⟩ := nx_inv h; exact ⟨x, y, r, rfl, h1, h2, h3, h4⟩
theorem x2lc_inv {f : Int64 → Int64 → Int64} (h : x2lc f q lv st σ = some (cs, pc2, lv2, st2, σ2)) (hc : conj cs) : ∃ x y r, st = .long y :: .long x :: r ∧ ¬ y = 0 ∧ pc2 = q ∧ lv2 = lv ∧ st2 = .long (f x y) :: r ∧ σ2 = σ := by
  match st, h with
  | .long y :: .long x :: r, h => obtain ⟨h0, h1, h2, h3, h4⟩ := cx_inv h hc; exact ⟨x, y, r, rfl, h0, h1, h2, h3, h4⟩
theorem xif_inv {f : Int32 → Nat} (h : xif f lv st σ = some (cs, pc2, lv2, st2, σ2)) : ∃ x r, st = .int x :: r ∧ pc2 = f x ∧ lv2 = lv ∧ st2 = r ∧ σ2 = σ := by
  match st, h with
  | .int x :: r, h => obtain ⟨h1, h2, h3, h4⟩ := nx_inv h; exact ⟨x, r, rfl, h1, h2, h3, h4⟩
theorem xif2_inv {f : Int32 → Int32 → Nat} (h : xif2 f lv st σ = some (cs, pc2, lv2, st2, σ2)) : ∃ x y r, st = .int y :: .int x :: r ∧ pc2 = f x y ∧ lv2 = lv ∧ st2 = r ∧ σ2 = σ := by
  match st, h with
  | .int y :: .int x :: r, h => obtain ⟨h1, h2, h3, h4⟩ := nx_inv h; exact ⟨x, y, r, rfl, h1, h2, h3, h4⟩
end INV
theorem ofInt_eq_iff {x : Int32} {k : Int} (h1 : -2147483648 ≤ k) (h2 : k ≤ 2147483647) : x = Int32.ofInt k ↔ x.toInt = k := by
  constructor
  · intro h
    rw [h]
    exact Int32.toInt_ofInt_of_le h1 (by omega)
  · intro h
    apply Int32.toInt_inj.mp
    rw [h]
    exact (Int32.toInt_ofInt_of_le h1 (by omega)).symm
theorem swt_out {x : Int32} {d : Nat} : ∀ (zs : List Int) (lo : Int), -2147483648 ≤ lo → lo + zs.length - 1 ≤ 2147483647 → (x.toInt < lo ∨ lo + zs.length - 1 < x.toInt) → swt x d lo zs = d
  | [], lo, _, _, _ => rfl
  | t :: r, lo, h1, h2, h => by
    unfold swt
    simp only [List.length_cons] at h2 h
    rw [if_neg (by rw [ofInt_eq_iff h1 (by omega)]; omega)]
    exact swt_out r (lo + 1) (by omega) (by omega) (by omega)
theorem swt_in {x : Int32} {d : Nat} : ∀ (zs : List Int) (lo : Int), -2147483648 ≤ lo → lo + zs.length - 1 ≤ 2147483647 → ¬ x.toInt < lo → ¬ lo + zs.length - 1 < x.toInt → swt x d lo zs = (zs.getD (x.toInt - lo).toNat 0).toNat
  | [], lo, h1, h2, h3, h4 => by simp only [List.length_nil] at h4; omega
  | t :: r, lo, h1, h2, h3, h4 => by
    unfold swt
    simp only [List.length_cons] at h2 h4
    by_cases hx : x.toInt = lo
    · rw [if_pos ((ofInt_eq_iff h1 (by omega)).mpr hx), hx]
      simp
    · rw [if_neg (fun q => hx ((ofInt_eq_iff h1 (by omega)).mp q)), swt_in r (lo + 1) (by omega) (by omega) (by omega) (by omega)]
      have e : (x.toInt - lo).toNat = (x.toInt - (lo + 1)).toNat + 1 := by omega
      rw [e, List.getD_cons_succ]
theorem stc_at {A : Nat → Prop} {ad : Nat → Nat} {U : State} {H : Heap} (h : Stc A ad U H) {c : Nat} (g1 : 1000 ≤ c) (g2 : c < 1005) : va_T .int (ad c) (sn c) (fun j => .int (sv c j)) A U H := by
  have hz := (h (c - 1000) (by omega)).2
  rw [show 1000 + (c - 1000) = c by omega] at hz
  exact hz
theorem ck_nc {c : Nat} (h : ck c ≠ 99) : c < NC := by
  have h1 : ckL.length = NC := by decide +kernel
  rw [← h1]
  rcases Nat.lt_or_ge c ckL.length with q | q
  · exact q
  · refine absurd ?_ h
    unfold ck
    simp [List.getD, List.getElem?_eq_none q]
theorem map_set {f g : Nat → Value} {n b : Nat} {v : Value} (hb : b < n) (h : g b = v) (ho : ∀ j, j ≠ b → g j = f j) : (List.range n).map g = ((List.range n).map f).set b v := by
  refine List.ext_getElem? fun i => ?_
  rw [List.getElem?_set]
  by_cases hk : b = i
  · subst hk
    rw [if_pos rfl, List.getElem?_map, List.getElem?_range hb]
    simp [h, hb]
  · rw [if_neg hk, List.getElem?_map, List.getElem?_map]
    rcases Nat.lt_or_ge i n with q | q
    · rw [List.getElem?_range q]
      simp [ho i (fun z => hk z.symm)]
    · rw [List.getElem?_eq_none (by simpa using q)]
      rfl
theorem cel_obj {tc : Nat → ClassId} {ad : Nat → Nat} {σ : Sg} {c a : Nat} (h : ck c = 5 + a) : cel tc ad σ c = .inr (a, (List.range (nf a)).map (fvl ad σ a c)) := by
  unfold cel
  rw [show ck c = a + 5 by omega]
theorem fvl_si {ad : Nat → Nat} {σ : Sg} {a c b : Nat} {x : Int32} (hb : b < nf a) (h1 : ft a b ≠ 1) (h2 : ft a b ≠ 2) : (List.range (nf a)).map (fvl ad (si σ c b x) a c) = ((List.range (nf a)).map (fvl ad σ a c)).set b (.int x) := by
  refine map_set hb ?_ (fun j hj => ?_)
  · unfold fvl
    split
    · contradiction
    · contradiction
    · simp [si, upd]
  · unfold fvl
    simp [si, upd, hj]
theorem fvl_sl {ad : Nat → Nat} {σ : Sg} {a c b : Nat} {x : Int64} (hb : b < nf a) (h1 : ft a b = 1) : (List.range (nf a)).map (fvl ad (sl σ c b x) a c) = ((List.range (nf a)).map (fvl ad σ a c)).set b (.long x) := by
  refine map_set hb ?_ (fun j hj => ?_)
  · unfold fvl
    rw [h1]
    simp [sl, vp_updL]
  · unfold fvl
    simp [sl, vp_updL, hj]
theorem nb_fit {x : Int32} (h : nb x) : narrow .boolean (.int x) = .int x ∧ fits .boolean (.int x) = true := by
  rcases h with rfl | rfl <;> exact ⟨by decide, by decide⟩
section SND
variable {p : Program} {l : Launch} {e : Env} {R : Room} {s : State} {m : MethodId} {args : Array Value} {below : List Frame} {meth : Method} {c : Code} {cells slots : Nat} {Qs : State → Prop}
variable {D : va_G} {tc : Nat → ClassId} {ad : Nat → Nat} {A : Nat → Prop} {own : String} {cc : ByteArray} {nL : Nat} {X : RO} {M : Nat → MI}
/-- what stands while a method runs -/
def Fx (p : Program) (R : Room) (s : State) (m : MethodId) (args : Array Value) (c : Code) (D : va_G) (tc : Nat → ClassId) (ad : Nat → Nat) (A : Nat → Prop) (own : String) (cc : ByteArray) (nL : Nat) (X : RO) : Prop :=
  p.tables.exec = Jvm.exec ∧ c.code = cc ∧ c.maxLocals = nL ∧ s.vm.findClass own = some m.cls ∧ (∀ w ∈ TB, w.before args s = true) ∧ va_K D cl (tys tc) s ∧ (∀ i j, i < NC → j < NC → ad i = ad j → i = j) ∧ (∀ q, inA ad q → A q) ∧ (Stc A ad s s.heap ∧ Nst s) ∧ (1 ≤ R.frames ∧ 64 ≤ R.locals) ∧ (∀ x : Nat × (Nat → Int32), X = some x → x.1 < 2 ^ 31 ∧ va_X (ad 2000) x.1 x.2 s s.heap ∧ ad 2000 < s.heap.size ∧ ¬ A (ad 2000))
abbrev Wk (p : Program) (l : Launch) (e : Env) (R : Room) (s : State) (m : MethodId) (args : Array Value) (below : List Frame) (meth : Method) (c : Code) (cells slots : Nat) (Qs : State → Prop) (tc : Nat → ClassId) (ad : Nat → Nat) (A : Nat → Prop) (nL : Nat) (q : PS) : Prop :=
  ∀ (H : Heap) (locs : List Loc) (ls : Array Slot), lv_has ls nL (elv ad q.2.1) → va_P D cl (wld tc ad q.2.2.2) H → va_S A s.heap H locs → W p l e R s m args below meth c H locs cells slots Qs (F0 m q.1 ls (est ad q.2.2.1))
theorem exec1_ok (F : Fx p R s m args c D tc ad A own cc nL X) (hbud : cells ≤ R.cells ∧ slots ≤ R.slots) {en : Ent} (hok : EntOK M own cc nL en) {lv : LV} {st : List Value} {σ : Sg} {cs : List Prop} {pc2 : Nat} {lv2 : LV} {st2 : List Value} {σ2 : Sg} (h : exec1 X en lv st σ = some (cs, pc2, lv2, st2, σ2)) (hc : conj cs)
    (kk : Wk (D := D) p l e R s m args below meth c cells slots Qs tc ad A nL (pc2, lv2, st2, σ2)) : Wk (D := D) p l e R s m args below meth c cells slots Qs tc ad A nL (en.1, lv, st, σ) := by
  obtain ⟨hx, hb, hml, hown, hts, hK, hinj, hAd, ⟨hSt, hNs⟩, hRm, hX⟩ := F
  obtain ⟨pc, ins, len, a, b, d, zs⟩ := en
  obtain ⟨hdec, hok, hlen⟩ := hok
  intro H locs ls hl hP hS
  have hD : va_D A (wld tc ad σ) := wld_D hinj hAd σ
  dsimp only at hdec hlen hok hl hP hS ⊢
  cases ins with
  | iload i =>
    obtain rfl : len = 2 := hlen (fun _ _ _ _ h => by cases h)
    obtain ⟨x, h1, rfl, rfl, rfl, rfl⟩ := xldI_inv h
    exact lv_iload hx hb hdec (lget_has hl h1) (kk H locs ls hl hP hS)
  | iload_n k =>
    obtain rfl : len = 1 := hlen (fun _ _ _ _ h => by cases h)
    obtain ⟨x, h1, rfl, rfl, rfl, rfl⟩ := xldI_inv h
    exact lv_iload_n hx hb hdec rfl (lget_has hl h1) (kk H locs ls hl hP hS)
  | lload i =>
    obtain rfl : len = 2 := hlen (fun _ _ _ _ h => by cases h)
    obtain ⟨x, h1, rfl, rfl, rfl, rfl⟩ := xldJ_inv h
    exact lv_lload hx hb hdec (lget_has hl h1) (kk H locs ls hl hP hS)
  | lload_n k =>
    obtain rfl : len = 1 := hlen (fun _ _ _ _ h => by cases h)
    obtain ⟨x, h1, rfl, rfl, rfl, rfl⟩ := xldJ_inv h
    exact lv_lload_n hx hb hdec rfl (lget_has hl h1) (kk H locs ls hl hP hS)
  | aload i =>
    obtain rfl : len = 2 := hlen (fun _ _ _ _ h => by cases h)
    obtain ⟨x, h1, rfl, rfl, rfl, rfl⟩ := xldR_inv h
    exact lv_aload hx hb hdec (lget_has hl h1) (kk H locs ls hl hP hS)
  | aload_n k =>
    obtain rfl : len = 1 := hlen (fun _ _ _ _ h => by cases h)
    obtain ⟨x, h1, rfl, rfl, rfl, rfl⟩ := xldR_inv h
    exact lv_aload_n hx hb hdec rfl (lget_has hl h1) (kk H locs ls hl hP hS)
  | istore i =>
    obtain rfl : len = 2 := hlen (fun _ _ _ _ h => by cases h)
    obtain ⟨x, r, rfl, rfl, rfl, rfl, rfl⟩ := xst_inv h
    exact lv_istore hx hb hdec hl hok (elv_lset1 ad lv i (.int x)) (fun ls' hl' => kk H locs ls' hl' hP hS)
  | istore_n k =>
    obtain rfl : len = 1 := hlen (fun _ _ _ _ h => by cases h)
    obtain ⟨x, r, rfl, rfl, rfl, rfl, rfl⟩ := xst_inv h
    exact lv_istore_n hx hb hdec rfl hl hok (elv_lset1 ad lv k.val (.int x)) (fun ls' hl' => kk H locs ls' hl' hP hS)
  | astore i =>
    obtain rfl : len = 2 := hlen (fun _ _ _ _ h => by cases h)
    obtain ⟨x, r, rfl, rfl, rfl, rfl, rfl⟩ := xsta_inv h
    exact lv_astore hx hb hdec hl hok (elv_lset1 ad lv i (.ref x)) (fun ls' hl' => kk H locs ls' hl' hP hS)
  | astore_n k =>
    obtain rfl : len = 1 := hlen (fun _ _ _ _ h => by cases h)
    obtain ⟨x, r, rfl, rfl, rfl, rfl, rfl⟩ := xsta_inv h
    exact lv_astore_n hx hb hdec rfl hl hok (elv_lset1 ad lv k.val (.ref x)) (fun ls' hl' => kk H locs ls' hl' hP hS)
  | lstore i =>
    obtain rfl : len = 2 := hlen (fun _ _ _ _ h => by cases h)
    obtain ⟨x, r, rfl, rfl, rfl, rfl, rfl⟩ := xstl_inv h
    exact lv_lstore hx hb hdec hl hok (elv_lset2 ad lv i (.long x)) (fun ls' hl' => kk H locs ls' hl' hP hS)
  | lstore_n k =>
    obtain rfl : len = 1 := hlen (fun _ _ _ _ h => by cases h)
    obtain ⟨x, r, rfl, rfl, rfl, rfl, rfl⟩ := xstl_inv h
    exact lv_lstore_n hx hb hdec rfl hl hok (elv_lset2 ad lv k.val (.long x)) (fun ls' hl' => kk H locs ls' hl' hP hS)
  | iinc i n =>
    obtain rfl : len = 3 := hlen (fun _ _ _ _ h => by cases h)
    simp only [exec1] at h
    split at h
    · rename_i x hg
      obtain ⟨rfl, rfl, rfl, rfl⟩ := nx_inv h
      obtain ⟨k, hk⟩ := elv_idx (ad := ad) hg
      exact lv_iinc hx hb hdec hl hk rfl hok (elv_lset1 ad lv i (.int (x + Int32.ofInt n))) (fun ls' hl' => kk H locs ls' hl' hP hS)
    · cases h
  | iconst n =>
    obtain rfl : len = 1 := hlen (fun _ _ _ _ h => by cases h)
    obtain ⟨rfl, rfl, rfl, rfl⟩ := nx_inv h
    exact lv_iconst hx hb hdec rfl (kk H locs ls hl hP hS)
  | bipush n =>
    obtain rfl : len = 2 := hlen (fun _ _ _ _ h => by cases h)
    obtain ⟨rfl, rfl, rfl, rfl⟩ := nx_inv h
    exact lv_bipush hx hb hdec hok (kk H locs ls hl hP hS)
  | sipush n =>
    obtain rfl : len = 3 := hlen (fun _ _ _ _ h => by cases h)
    obtain ⟨rfl, rfl, rfl, rfl⟩ := nx_inv h
    exact lv_sipush hx hb hdec hok (kk H locs ls hl hP hS)
  | ldc idx =>
    obtain rfl : len = 2 := hlen (fun _ _ _ _ h => by cases h)
    obtain ⟨z, r, rfl, hw⟩ := hok
    obtain ⟨rfl, rfl, rfl, rfl⟩ := nx_inv h
    exact lv_ldc hx hb hown (hts _ hw) hdec (kk H locs ls hl hP hS)
  | ldc_w idx =>
    obtain rfl : len = 3 := hlen (fun _ _ _ _ h => by cases h)
    obtain ⟨z, r, rfl, hw⟩ := hok
    obtain ⟨rfl, rfl, rfl, rfl⟩ := nx_inv h
    exact lv_ldcw hx hb hown (hts _ hw) hdec (kk H locs ls hl hP hS)
  | ldc2_w idx =>
    obtain rfl : len = 3 := hlen (fun _ _ _ _ h => by cases h)
    obtain ⟨z, r, rfl, hw⟩ := hok
    obtain ⟨rfl, rfl, rfl, rfl⟩ := nx_inv h
    exact lv_ldc2 hx hb hown (hts _ hw) hdec (kk H locs ls hl hP hS)
  | lconst n =>
    obtain rfl : len = 1 := hlen (fun _ _ _ _ h => by cases h)
    obtain ⟨rfl, rfl, rfl, rfl⟩ := nx_inv h
    exact lv_lconst hx hb hdec rfl (kk H locs ls hl hP hS)
  | iadd =>
    obtain rfl : len = 1 := hlen (fun _ _ _ _ h => by cases h)
    obtain ⟨x, y, r, rfl, rfl, rfl, rfl, rfl⟩ := x2i_inv h
    exact lv_iadd hx hb hdec (kk H locs ls hl hP hS)
  | isub =>
    obtain rfl : len = 1 := hlen (fun _ _ _ _ h => by cases h)
    obtain ⟨x, y, r, rfl, rfl, rfl, rfl, rfl⟩ := x2i_inv h
    exact lv_isub hx hb hdec (kk H locs ls hl hP hS)
  | imul =>
    obtain rfl : len = 1 := hlen (fun _ _ _ _ h => by cases h)
    obtain ⟨x, y, r, rfl, rfl, rfl, rfl, rfl⟩ := x2i_inv h
    exact lv_imul hx hb hdec (kk H locs ls hl hP hS)
  | iand =>
    obtain rfl : len = 1 := hlen (fun _ _ _ _ h => by cases h)
    obtain ⟨x, y, r, rfl, rfl, rfl, rfl, rfl⟩ := x2i_inv h
    exact lv_iand hx hb hdec (kk H locs ls hl hP hS)
  | ior =>
    obtain rfl : len = 1 := hlen (fun _ _ _ _ h => by cases h)
    obtain ⟨x, y, r, rfl, rfl, rfl, rfl, rfl⟩ := x2i_inv h
    exact lv_ior hx hb hdec (kk H locs ls hl hP hS)
  | ixor =>
    obtain rfl : len = 1 := hlen (fun _ _ _ _ h => by cases h)
    obtain ⟨x, y, r, rfl, rfl, rfl, rfl, rfl⟩ := x2i_inv h
    exact lv_ixor hx hb hdec (kk H locs ls hl hP hS)
  | ishl =>
    obtain rfl : len = 1 := hlen (fun _ _ _ _ h => by cases h)
    obtain ⟨x, y, r, rfl, rfl, rfl, rfl, rfl⟩ := x2i_inv h
    exact lv_ishl hx hb hdec (kk H locs ls hl hP hS)
  | ishr =>
    obtain rfl : len = 1 := hlen (fun _ _ _ _ h => by cases h)
    obtain ⟨x, y, r, rfl, rfl, rfl, rfl, rfl⟩ := x2i_inv h
    exact lv_ishr hx hb hdec (kk H locs ls hl hP hS)
  | iushr =>
    obtain rfl : len = 1 := hlen (fun _ _ _ _ h => by cases h)
    obtain ⟨x, y, r, rfl, rfl, rfl, rfl, rfl⟩ := x2i_inv h
    exact lv_iushr hx hb hdec rfl (kk H locs ls hl hP hS)
  | idiv =>
    obtain rfl : len = 1 := hlen (fun _ _ _ _ h => by cases h)
    obtain ⟨x, y, r, rfl, h0, rfl, rfl, rfl, rfl⟩ := x2ic_inv h hc
    exact lv_idiv hx hb hdec h0 (kk H locs ls hl hP hS)
  | irem =>
    obtain rfl : len = 1 := hlen (fun _ _ _ _ h => by cases h)
    obtain ⟨x, y, r, rfl, h0, rfl, rfl, rfl, rfl⟩ := x2ic_inv h hc
    exact lv_irem hx hb hdec h0 (kk H locs ls hl hP hS)
  | ladd =>
    obtain rfl : len = 1 := hlen (fun _ _ _ _ h => by cases h)
    obtain ⟨x, y, r, rfl, rfl, rfl, rfl, rfl⟩ := x2l_inv h
    exact lv_ladd hx hb hdec (kk H locs ls hl hP hS)
  | lsub =>
    obtain rfl : len = 1 := hlen (fun _ _ _ _ h => by cases h)
    obtain ⟨x, y, r, rfl, rfl, rfl, rfl, rfl⟩ := x2l_inv h
    exact lv_lsub hx hb hdec (kk H locs ls hl hP hS)
  | lmul =>
    obtain rfl : len = 1 := hlen (fun _ _ _ _ h => by cases h)
    obtain ⟨x, y, r, rfl, rfl, rfl, rfl, rfl⟩ := x2l_inv h
    exact lv_lmul hx hb hdec (kk H locs ls hl hP hS)
  | ldiv =>
    obtain rfl : len = 1 := hlen (fun _ _ _ _ h => by cases h)
    obtain ⟨x, y, r, rfl, h0, rfl, rfl, rfl, rfl⟩ := x2lc_inv h hc
    exact lv_ldiv hx hb hdec h0 (kk H locs ls hl hP hS)
  | lrem =>
    obtain rfl : len = 1 := hlen (fun _ _ _ _ h => by cases h)
    obtain ⟨x, y, r, rfl, h0, rfl, rfl, rfl, rfl⟩ := x2lc_inv h hc
    exact lv_lrem hx hb hdec h0 (kk H locs ls hl hP hS)
  | ineg =>
    obtain rfl : len = 1 := hlen (fun _ _ _ _ h => by cases h)
    match st, h with
    | .int x :: r, h =>
      obtain ⟨rfl, rfl, rfl, rfl⟩ := nx_inv h
      exact lv_ineg hx hb hdec (kk H locs ls hl hP hS)
  | lneg =>
    obtain rfl : len = 1 := hlen (fun _ _ _ _ h => by cases h)
    match st, h with
    | .long x :: r, h =>
      obtain ⟨rfl, rfl, rfl, rfl⟩ := nx_inv h
      exact lv_lneg hx hb hdec (kk H locs ls hl hP hS)
  | lushr =>
    obtain rfl : len = 1 := hlen (fun _ _ _ _ h => by cases h)
    match st, h with
    | .int y :: .long x :: r, h =>
      obtain ⟨rfl, rfl, rfl, rfl⟩ := nx_inv h
      exact lv_lushr hx hb hdec rfl (kk H locs ls hl hP hS)
  | lcmp =>
    obtain rfl : len = 1 := hlen (fun _ _ _ _ h => by cases h)
    match st, h with
    | .long y :: .long x :: r, h =>
      obtain ⟨rfl, rfl, rfl, rfl⟩ := nx_inv h
      exact W.lcmp hx hb hdec (kk H locs ls hl hP hS)
  | i2l =>
    obtain rfl : len = 1 := hlen (fun _ _ _ _ h => by cases h)
    match st, h with
    | .int x :: r, h =>
      obtain ⟨rfl, rfl, rfl, rfl⟩ := nx_inv h
      exact lv_i2l hx hb hdec rfl (kk H locs ls hl hP hS)
  | l2i =>
    obtain rfl : len = 1 := hlen (fun _ _ _ _ h => by cases h)
    match st, h with
    | .long x :: r, h =>
      obtain ⟨rfl, rfl, rfl, rfl⟩ := nx_inv h
      exact lv_l2i hx hb hdec rfl (kk H locs ls hl hP hS)
  | ifCond cd off =>
    obtain rfl : len = 3 := hlen (fun _ _ _ _ h => by cases h)
    have kk' := kk H locs ls
    cases cd with
    | eq =>
      obtain ⟨x, r, rfl, rfl, rfl, rfl, rfl⟩ := xif_inv h
      exact lv_if_eq hx hb hdec hok (fun t => by have := kk' hl hP hS; dsimp only at this; rwa [if_pos t] at this) (fun t => by have := kk' hl hP hS; dsimp only at this; rwa [if_neg t] at this)
    | ne =>
      obtain ⟨x, r, rfl, rfl, rfl, rfl, rfl⟩ := xif_inv h
      exact lv_if_ne hx hb hdec hok (fun t => by have := kk' hl hP hS; dsimp only at this; rwa [if_pos t] at this) (fun t => by have := kk' hl hP hS; dsimp only at this; rwa [if_neg (fun q => q t)] at this)
    | lt =>
      obtain ⟨x, r, rfl, rfl, rfl, rfl, rfl⟩ := xif_inv h
      exact lv_if_lt hx hb hdec hok (fun t => by have := kk' hl hP hS; dsimp only at this; rwa [if_pos t] at this) (fun t => by have := kk' hl hP hS; dsimp only at this; rwa [if_neg t] at this)
    | ge =>
      obtain ⟨x, r, rfl, rfl, rfl, rfl, rfl⟩ := xif_inv h
      exact lv_if_ge hx hb hdec hok (fun t => by have := kk' hl hP hS; dsimp only at this; rwa [if_pos t] at this) (fun t => by have := kk' hl hP hS; dsimp only at this; rwa [if_neg t] at this)
    | gt =>
      obtain ⟨x, r, rfl, rfl, rfl, rfl, rfl⟩ := xif_inv h
      exact lv_if_gt hx hb hdec hok (fun t => by have := kk' hl hP hS; dsimp only at this; rwa [if_pos t] at this) (fun t => by have := kk' hl hP hS; dsimp only at this; rwa [if_neg t] at this)
    | le =>
      obtain ⟨x, r, rfl, rfl, rfl, rfl, rfl⟩ := xif_inv h
      exact lv_if_le hx hb hdec hok (fun t => by have := kk' hl hP hS; dsimp only at this; rwa [if_pos t] at this) (fun t => by have := kk' hl hP hS; dsimp only at this; rwa [if_neg t] at this)
  | if_icmp cd off =>
    obtain rfl : len = 3 := hlen (fun _ _ _ _ h => by cases h)
    have kk' := kk H locs ls
    cases cd with
    | eq =>
      obtain ⟨x, y, r, rfl, rfl, rfl, rfl, rfl⟩ := xif2_inv h
      exact lv_icmp_eq hx hb hdec hok (fun t => by have := kk' hl hP hS; dsimp only at this; rwa [if_pos t] at this) (fun t => by have := kk' hl hP hS; dsimp only at this; rwa [if_neg t] at this)
    | ne =>
      obtain ⟨x, y, r, rfl, rfl, rfl, rfl, rfl⟩ := xif2_inv h
      exact lv_icmp_ne hx hb hdec hok (fun t => by have := kk' hl hP hS; dsimp only at this; rwa [if_pos t] at this) (fun t => by have := kk' hl hP hS; dsimp only at this; rwa [if_neg (fun q => q t)] at this)
    | lt =>
      obtain ⟨x, y, r, rfl, rfl, rfl, rfl, rfl⟩ := xif2_inv h
      exact lv_icmp_lt hx hb hdec hok (fun t => by have := kk' hl hP hS; dsimp only at this; rwa [if_pos t] at this) (fun t => by have := kk' hl hP hS; dsimp only at this; rwa [if_neg t] at this)
    | ge =>
      obtain ⟨x, y, r, rfl, rfl, rfl, rfl, rfl⟩ := xif2_inv h
      exact lv_icmp_ge hx hb hdec hok (fun t => by have := kk' hl hP hS; dsimp only at this; rwa [if_pos t] at this) (fun t => by have := kk' hl hP hS; dsimp only at this; rwa [if_neg t] at this)
    | gt =>
      obtain ⟨x, y, r, rfl, rfl, rfl, rfl, rfl⟩ := xif2_inv h
      exact lv_icmp_gt hx hb hdec hok (fun t => by have := kk' hl hP hS; dsimp only at this; rwa [if_pos t] at this) (fun t => by have := kk' hl hP hS; dsimp only at this; rwa [if_neg t] at this)
    | le =>
      obtain ⟨x, y, r, rfl, rfl, rfl, rfl, rfl⟩ := xif2_inv h
      exact lv_icmp_le hx hb hdec hok (fun t => by have := kk' hl hP hS; dsimp only at this; rwa [if_pos t] at this) (fun t => by have := kk' hl hP hS; dsimp only at this; rwa [if_neg t] at this)
  | goto off =>
    obtain rfl : len = 3 := hlen (fun _ _ _ _ h => by cases h)
    obtain ⟨rfl, rfl, rfl, rfl⟩ := nx_inv h
    exact lv_goto hx hb hdec hok (kk H locs ls hl hP hS)
  | tableswitch df lo hi offs =>
    obtain ⟨x, r, rfl, rfl, rfl, rfl, rfl⟩ := xif_inv h
    obtain ⟨w1, w2, ⟨w3, w4⟩, w5⟩ := hok
    have k1 := kk H locs ls hl hP hS
    dsimp only at k1
    subst w2
    by_cases hz : x.toInt < lo ∨ lo + zs.length - 1 < x.toInt
    · rw [swt_out zs lo w3 w4 hz] at k1
      exact lv_tableOut hx hb hdec hz w1 k1
    · have z1 : ¬ x.toInt < lo := fun t => hz (Or.inl t)
      have z2 : ¬ lo + zs.length - 1 < x.toInt := fun t => hz (Or.inr t)
      rw [swt_in zs lo w3 w4 z1 z2] at k1
      obtain ⟨off, o1, o2⟩ := w5 (x.toInt - lo).toNat (by omega)
      exact lv_tableIn hx hb hdec z1 z2 o1 o2 k1
  | dup =>
    obtain rfl : len = 1 := hlen (fun _ _ _ _ h => by cases h)
    match st, h with
    | v :: r, h =>
      obtain ⟨h0, rfl, rfl, rfl, rfl⟩ := cx_inv h hc
      exact lv_dup hx hb hdec ((enc_cat ad v).trans h0) (kk H locs ls hl hP hS)
  | dup2 =>
    obtain rfl : len = 1 := hlen (fun _ _ _ _ h => by cases h)
    match st, h with
    | v :: w :: r, h =>
      obtain ⟨h0, rfl, rfl, rfl, rfl⟩ := cx_inv h hc
      exact lv_dup2_11 hx hb hdec ((enc_cat ad v).trans h0.1) ((enc_cat ad w).trans h0.2) (kk H locs ls hl hP hS)
  | iaload =>
    obtain rfl : len = 1 := hlen (fun _ _ _ _ h => by cases h)
    match st, h with
    | .int i :: .ref c9 :: r, h =>
      simp only [exec1] at h
      cases hd0 : (d == 0) with
      | true =>
        rw [hd0] at h
        obtain ⟨⟨h0, h1⟩, rfl, rfl, rfl, rfl⟩ := cx_inv h hc
        have hk : c9 < NC := ck_lt h0 (by decide)
        exact va_iald hx hb hK hP c9 0 (by rw [wld_get hk]; simp only [cel, h0]) rfl h1 hdec (kk H locs ls hl hP hS)
      | false =>
        rw [hd0] at h
        cases hd1 : (d == 1) with
        | true =>
          rw [hd1] at h
          obtain ⟨⟨⟨g1, g2⟩, h1⟩, rfl, rfl, rfl, rfl⟩ := cx_inv h hc
          have hz := stc_at hSt g1 g2
          exact va_ti hx hb hz hS h1 rfl hdec (kk H locs ls hl hP hS)
        | false =>
          rw [hd1] at h
          match X, hX, h with
          | some x, hX, h =>
            obtain ⟨⟨rfl, h1⟩, rfl, rfl, rfl, rfl⟩ := cx_inv h hc
            obtain ⟨g1, g2, g3, g4⟩ := hX x rfl
            exact va_sld hx hb g2 g3 g4 hS h1 hdec (kk H locs ls hl hP hS)
  | laload =>
    obtain rfl : len = 1 := hlen (fun _ _ _ _ h => by cases h)
    match st, h with
    | .int i :: .ref c9 :: r, h =>
      obtain ⟨⟨h0, h1⟩, rfl, rfl, rfl, rfl⟩ := cx_inv h hc
      have hk : c9 < NC := ck_lt h0 (by decide)
      exact va_lald hx hb hK hP c9 1 (by rw [wld_get hk]; simp only [cel, h0]) rfl h1 hdec (kk H locs ls hl hP hS)
  | baload =>
    obtain rfl : len = 1 := hlen (fun _ _ _ _ h => by cases h)
    match st, h with
    | .int i :: .ref c9 :: r, h =>
      obtain ⟨⟨h0, h1⟩, rfl, rfl, rfl, rfl⟩ := cx_inv h hc
      have hk : c9 < NC := ck_lt h0 (by decide)
      exact va_zald hx hb hK hP c9 2 (by rw [wld_get hk]; simp only [cel, h0]) rfl h1 hdec (kk H locs ls hl hP hS)
  | aaload =>
    obtain rfl : len = 1 := hlen (fun _ _ _ _ h => by cases h)
    match st, h with
    | .int i :: .ref c9 :: r, h =>
      obtain ⟨⟨h0, h1⟩, rfl, rfl, rfl, rfl⟩ := cx_inv h hc
      have hlt : i.toNatClampNeg < al c9 := Nat.not_le.mp fun q => h1 (Or.inr q)
      rcases h0 with h0 | h0
      · have hk : c9 < NC := ck_lt h0 (by decide)
        have hcell := hP c9 _ (wld_get hk)
        simp only [va_at, cel, h0] at hcell
        exact W.aald (v := .ref (ad (c9 + 1 + i.toNatClampNeg))) (ty := .array .int) hx hb hcell ((hK.2 3 _ rfl).1 (al c9) (fun j => va_rf (some (ad (c9 + 1 + j))))) rfl (fun q => by cases q) (by show ¬ (i < 0 ∨ (arrV _ _ _).slots.size ≤ _); rw [arrV_size]; exact h1) (by show (arrV _ _ _).slots[_]? = _; rw [arrV_read _ _ hlt]; rfl) rfl rfl hdec (kk H locs ls hl hP hS)
      · have hk : c9 < NC := ck_lt h0 (by decide)
        have hcell := hP c9 _ (wld_get hk)
        simp only [va_at, cel, h0] at hcell
        exact W.aald (v := .ref (ad (c9 + 1 + i.toNatClampNeg))) (ty := .array .long) hx hb hcell ((hK.2 4 _ rfl).1 (al c9) (fun j => va_rf (some (ad (c9 + 1 + j))))) rfl (fun q => by cases q) (by show ¬ (i < 0 ∨ (arrV _ _ _).slots.size ≤ _); rw [arrV_size]; exact h1) (by show (arrV _ _ _).slots[_]? = _; rw [arrV_read _ _ hlt]; rfl) rfl rfl hdec (kk H locs ls hl hP hS)
  | iastore =>
    obtain rfl : len = 1 := hlen (fun _ _ _ _ h => by cases h)
    match st, h with
    | .int x :: .int i :: .ref c9 :: r, h =>
      obtain ⟨⟨h0, h1⟩, rfl, rfl, rfl, rfl⟩ := cx_inv h hc
      have hk : c9 < NC := ck_lt h0 (by decide)
      refine va_iast (f := σ.1 c9) hx hb hK hP hD hS c9 0 (by rw [wld_get hk]; simp only [cel, h0]) rfl h1 hdec (fun H1 locs1 hP1 hD1 hS1 => kk H1 locs1 ls hl ?_ hS1)
      have e := wld_set (tc := tc) (ad := ad) (σ := σ) (σ2 := si σ c9 i.toNatClampNeg x) hk (fun j hj => cel_si hj)
      rw [show cel tc ad (si σ c9 i.toNatClampNeg x) c9 = .inl (tc 0, al c9, .inl (upd (σ.1 c9) i.toNatClampNeg x)) by simp only [cel, h0]; simp [si]] at e
      rw [← e]
      exact hP1
  | lastore =>
    obtain rfl : len = 1 := hlen (fun _ _ _ _ h => by cases h)
    match st, h with
    | .long x :: .int i :: .ref c9 :: r, h =>
      obtain ⟨⟨h0, h1⟩, rfl, rfl, rfl, rfl⟩ := cx_inv h hc
      have hk : c9 < NC := ck_lt h0 (by decide)
      refine va_last (f := σ.2 c9) hx hb hK hP hD hS c9 1 (by rw [wld_get hk]; simp only [cel, h0]) rfl h1 hdec (fun H1 locs1 hP1 hD1 hS1 => kk H1 locs1 ls hl ?_ hS1)
      have e := wld_set (tc := tc) (ad := ad) (σ := σ) (σ2 := sl σ c9 i.toNatClampNeg x) hk (fun j hj => cel_sl hj)
      rw [show cel tc ad (sl σ c9 i.toNatClampNeg x) c9 = .inl (tc 1, al c9, .inr (.inl (vp_updL (σ.2 c9) i.toNatClampNeg x))) by simp only [cel, h0]; simp [sl]] at e
      rw [← e]
      exact hP1
  | bastore =>
    obtain rfl : len = 1 := hlen (fun _ _ _ _ h => by cases h)
    match st, h with
    | .int x :: .int i :: .ref c9 :: r, h =>
      obtain ⟨⟨h0, h1⟩, rfl, rfl, rfl, rfl⟩ := cx_inv h hc
      have hk : c9 < NC := ck_lt h0 (by decide)
      refine va_zast (f := σ.1 c9) hx hb hK hP hD hS c9 2 (by rw [wld_get hk]; simp only [cel, h0]) rfl h1 hdec (fun H1 locs1 hP1 hD1 hS1 => kk H1 locs1 ls hl ?_ hS1)
      have e := wld_set (tc := tc) (ad := ad) (σ := σ) (σ2 := si σ c9 i.toNatClampNeg (x &&& 1)) hk (fun j hj => cel_si hj)
      rw [show cel tc ad (si σ c9 i.toNatClampNeg (x &&& 1)) c9 = .inl (tc 2, al c9, .inl (upd (σ.1 c9) i.toNatClampNeg (x &&& 1))) by simp only [cel, h0]; simp [si]] at e
      rw [← e]
      exact hP1
  | arraylength =>
    obtain rfl : len = 1 := hlen (fun _ _ _ _ h => by cases h)
    match st, h with
    | .ref c9 :: r, h =>
      simp only [exec1] at h
      cases hd0 : (d == 0) with
      | true =>
        rw [hd0] at h
        obtain ⟨h0, rfl, rfl, rfl, rfl⟩ := cx_inv h hc
        have hk : c9 < NC := ck_lt rfl (by omega)
        have k1 := kk H locs ls hl hP hS
        have h5 : ck c9 = 0 ∨ ck c9 = 1 ∨ ck c9 = 2 ∨ ck c9 = 3 ∨ ck c9 = 4 := by omega
        rcases h5 with h5 | h5 | h5 | h5 | h5
        · exact va_alen (x := (al c9, .inl (σ2.1 c9))) hx hb hK hP c9 0 (by rw [wld_get hk]; simp only [cel, h5]) rfl rfl hdec k1
        · exact va_alen (x := (al c9, .inr (.inl (σ2.2 c9)))) hx hb hK hP c9 1 (by rw [wld_get hk]; simp only [cel, h5]) rfl rfl hdec k1
        · exact va_alen (x := (al c9, .inl (σ2.1 c9))) hx hb hK hP c9 2 (by rw [wld_get hk]; simp only [cel, h5]) rfl rfl hdec k1
        · exact va_alen (x := (al c9, .inr (.inr (.inr (.inr fun j => some (ad (c9 + 1 + j))))))) hx hb hK hP c9 3 (by rw [wld_get hk]; simp only [cel, h5]) rfl rfl hdec k1
        · exact va_alen (x := (al c9, .inr (.inr (.inr (.inr fun j => some (ad (c9 + 1 + j))))))) hx hb hK hP c9 4 (by rw [wld_get hk]; simp only [cel, h5]) rfl rfl hdec k1
      | false =>
        rw [hd0] at h
        cases hd1 : (d == 1) with
        | true =>
          rw [hd1] at h
          obtain ⟨⟨g1, g2⟩, rfl, rfl, rfl, rfl⟩ := cx_inv h hc
          have hz := stc_at hSt g1 g2
          exact va_tlen hx hb hz hS rfl hdec (kk H locs ls hl hP hS)
        | false =>
          rw [hd1] at h
          match X, hX, h with
          | some x, hX, h =>
            obtain ⟨rfl, rfl, rfl, rfl, rfl⟩ := cx_inv h hc
            obtain ⟨g1, g2, g3, g4⟩ := hX x rfl
            exact va_slen hx hb g2 g3 g4 hS hdec (kk H locs ls hl hP hS)
  | getfield idx =>
    obtain rfl : len = 3 := hlen (fun _ _ _ _ h => by cases h)
    obtain ⟨C, T, N, ty0, w1, rfl, w3, w4, w5, w6, w7, w8, -⟩ := hok
    match st, h with
    | .ref c9 :: r, h =>
      simp only [exec1] at h
      have fin : ∀ v : Value, ck c9 = 5 + a → fvl ad σ a c9 b = v → W p l e R s m args below meth c H locs cells slots Qs (F0 m (pc + 3) ls (v :: est ad r)) → W p l e R s m args below meth c H locs cells slots Qs (F0 m pc ls (est ad (.ref c9 :: r))) := by
        intro v h0 hv k1
        have hk : c9 < NC := ck_nc (by have h1 : a < 9 := (List.getElem?_eq_some_iff.mp w1).1; omega)
        exact va_get hx hb hts w5 hown hK hP c9 (fs := (List.range (nf a)).map (fvl ad σ a c9)) (by rw [wld_get hk]; simp only [cel]; rw [show ck c9 = a + 5 by omega]) w1 b w3 (hts _ w6) (fun _ h9 => h9) (v := v) (by rw [List.getElem?_map, List.getElem?_range w3, ← hv]; rfl) hdec k1
      cases hd1 : (d == 1) with
      | true =>
        rw [hd1] at h
        obtain ⟨h0, rfl, rfl, rfl, rfl⟩ := cx_inv h hc
        have hd : d = 1 := by simpa using hd1
        exact fin (.long (σ2.2 c9 b)) h0 (by unfold fvl; rw [w4, hd]; rfl) (kk H locs ls hl hP hS)
      | false =>
        rw [hd1] at h
        cases hd2 : (d == 2) with
        | true =>
          rw [hd2] at h
          obtain ⟨h0, rfl, rfl, rfl, rfl⟩ := cx_inv h hc
          have hd : d = 2 := by simpa using hd2
          exact fin (.ref (ad (rf c9 b))) h0 (by unfold fvl; rw [w4, hd]; rfl) (kk H locs ls hl hP hS)
        | false =>
          rw [hd2] at h
          obtain ⟨h0, rfl, rfl, rfl, rfl⟩ := cx_inv h hc
          have n1 : d ≠ 1 := by simpa using hd1
          have n2 : d ≠ 2 := by simpa using hd2
          exact fin (.int (σ2.1 c9 b)) h0 (by unfold fvl; rw [w4]; split <;> first | rfl | (exfalso; omega)) (kk H locs ls hl hP hS)
  | putfield idx =>
    obtain rfl : len = 3 := hlen (fun _ _ _ _ h => by cases h)
    obtain ⟨C, T, N, ty0, w1, rfl, w3, w4, w5, w6, w7, w8, w9⟩ := hok
    obtain ⟨wf, wt⟩ := w9 rfl
    have fin : ∀ (v : Value) (c9 : Nat) (r : List Value) (σ3 : Sg), ck c9 = 5 + a → narrow (ty0 b) v = v → fits (ty0 b) v = true → (List.range (nf a)).map (fvl ad σ3 a c9) = ((List.range (nf a)).map (fvl ad σ a c9)).set b v → (∀ j, j ≠ c9 → cel tc ad σ3 j = cel tc ad σ j) →
        Wk (D := D) p l e R s m args below meth c cells slots Qs tc ad A nL (pc + 3, lv, r, σ3) → W p l e R s m args below meth c H locs cells slots Qs (F0 m pc ls (v :: .ref (ad c9) :: est ad r)) := by
      intro v c9 r σ3 h0 hn hf hs ho k1
      have hk : c9 < NC := ck_nc (by have h1 : a < 9 := (List.getElem?_eq_some_iff.mp w1).1; omega)
      refine va_put hx hb hts w5 ty0 w7 w8 hown hK hP hD hS c9 (fs := (List.range (nf a)).map (fvl ad σ a c9)) (by rw [wld_get hk, cel_obj h0]) w1 b w3 (hts _ w6) (fun _ h9 => h9) wf (w7 b w3) hn hf (by simpa using w3) hdec (fun H1 locs1 hP1 hD1 hS1 => k1 H1 locs1 ls hl ?_ hS1)
      have e := wld_set (tc := tc) (ad := ad) (σ := σ) (σ2 := σ3) hk ho
      rw [cel_obj h0, hs] at e
      rw [← e]
      exact hP1
    match st, h with
    | .int x :: .ref c9 :: r, h =>
      simp only [exec1] at h
      cases hd0 : (d == 0) with
      | true =>
        rw [hd0] at h
        obtain ⟨h0, rfl, rfl, rfl, rfl⟩ := cx_inv h hc
        obtain rfl : d = 0 := by simpa using hd0
        exact fin (.int x) c9 st2 _ h0 (by rw [wt]; rfl) (by rw [wt]; rfl) (fvl_si w3 (by omega) (by omega)) (fun j hj => cel_si hj) kk
      | false =>
        rw [hd0] at h
        cases hd3 : (d == 3) with
        | true =>
          rw [hd3] at h
          obtain ⟨⟨h0, h1⟩, rfl, rfl, rfl, rfl⟩ := cx_inv h hc
          obtain rfl : d = 3 := by simpa using hd3
          exact fin (.int x) c9 st2 _ h0 (by rw [wt]; exact (nb_fit h1).1) (by rw [wt]; exact (nb_fit h1).2) (fvl_si w3 (by omega) (by omega)) (fun j hj => cel_si hj) kk
        | false =>
          rw [hd3] at h
          cases h
    | .long x :: .ref c9 :: r, h =>
      simp only [exec1] at h
      cases hd1 : (d == 1) with
      | true =>
        rw [hd1] at h
        obtain ⟨h0, rfl, rfl, rfl, rfl⟩ := cx_inv h hc
        obtain rfl : d = 1 := by simpa using hd1
        exact fin (.long x) c9 st2 _ h0 (by rw [wt]; rfl) (by rw [wt]; rfl) (fvl_sl w3 w4) (fun j hj => cel_sl hj) kk
      | false =>
        rw [hd1] at h
        cases h
  | getstatic idx =>
    obtain rfl : len = 3 := hlen (fun _ _ _ _ h => by cases h)
    obtain ⟨i, h1, rfl, hw⟩ := hok
    obtain ⟨rfl, rfl, rfl, rfl⟩ := nx_inv h
    rcases hw with hw | ⟨host, hw⟩
    · exact va_gets hx hb (hSt i h1).1 hS hown (hts _ hw) (fun _ h9 => h9) hdec (kk H locs ls hl hP hS)
    · exact va_getsN hx hb (hSt i h1).1 hS hown (va_Nw.use rfl (hNs _ hw rfl)) (fun _ h9 => h9) hdec (kk H locs ls hl hP hS)
  | invokestatic idx =>
    obtain rfl : len = 3 := hlen (fun _ _ _ _ h => by cases h)
    simp only [exec1] at h
    cases hd7 : (d == 7) with
    | false =>
      rw [hd7] at h
      have hcatx : ∀ r : List Value, (r.map fun v => v.category).sum ≤ 8 → ((r.map (enc ad)).map fun v => v.category).sum + 13 ≤ R.locals := fun r h8 => by
        have h1 := est_cat ad r
        unfold est at h1
        rw [h1]
        have := hRm.2
        omega
      cases hd8 : (d == 8) with
      | true =>
        rw [hd8] at h
        obtain ⟨w1, w2, w3, w4⟩ := hok.2.2.1 (by simpa using hd8)
        match st, h with
        | .int x :: r, h =>
          obtain ⟨g, rfl, rfl, rfl, rfl⟩ := cx_inv h hc
          exact va_mabs hx hb (hml.trans hl.1.symm) hown (hts _ w1) (hts _ w2) (hts _ w3) (hts _ w4) hRm.1 (hcatx _ g) hbud.1 hbud.2 hdec (kk H locs ls hl hP hS)
      | false =>
        rw [hd8] at h
        cases hd9 : (d == 9) with
        | true =>
          rw [hd9] at h
          obtain ⟨w1, w2, w3, w4⟩ := hok.2.2.2.1 (by simpa using hd9)
          match st, h with
          | .long x :: r, h =>
            obtain ⟨g, rfl, rfl, rfl, rfl⟩ := cx_inv h hc
            exact va_mabs_long hx hb (hml.trans hl.1.symm) hown (hts _ w1) (hts _ w2) (hts _ w3) (hts _ w4) hRm.1 (hcatx _ g) hbud.1 hbud.2 hdec (kk H locs ls hl hP hS)
        | false =>
          rw [hd9] at h
          cases hd10 : (d == 10) with
          | true =>
            rw [hd10] at h
            obtain ⟨w1, w2, w3, w4⟩ := hok.2.2.2.2.1 (by simpa using hd10)
            match st, h with
            | .int y :: .int x :: r, h =>
              obtain ⟨g, rfl, rfl, rfl, rfl⟩ := cx_inv h hc
              exact va_mmax hx hb (hml.trans hl.1.symm) hown (hts _ w1) (hts _ w2) (hts _ w3) (hts _ w4) hRm.1 (hcatx _ g) hbud.1 hbud.2 hdec (kk H locs ls hl hP hS)
          | false =>
            rw [hd10] at h
            cases hd11 : (d == 11) with
            | true =>
              rw [hd11] at h
              obtain ⟨w1, w2, w3, w4⟩ := hok.2.2.2.2.2 (by simpa using hd11)
              match st, h with
              | .int y :: .int x :: r, h =>
                obtain ⟨g, rfl, rfl, rfl, rfl⟩ := cx_inv h hc
                exact va_mmin hx hb (hml.trans hl.1.symm) hown (hts _ w1) (hts _ w2) (hts _ w3) (hts _ w4) hRm.1 (hcatx _ g) hbud.1 hbud.2 hdec (kk H locs ls hl hP hS)
            | false =>
              rw [hd11] at h
              cases h
    | true =>
      rw [hd7] at h
      obtain rfl : d = 7 := by simpa using hd7
      obtain ⟨w1, w2, w3, w4⟩ := hok.1 rfl
      match st, h with
      | .int n :: .int dp :: .ref c1 :: .int sp :: .ref c0 :: r, h =>
        obtain ⟨⟨⟨g0, g1, g2⟩, ⟨g3, g4, g5⟩, g6, g7⟩, rfl, rfl, rfl, rfl⟩ := cx_inv h hc
        have hk0 : c0 < NC := ck_lt g0 (by decide)
        have hk1 : c1 < NC := ck_lt g1 (by decide)
        refine va_copyi (f := σ.1 c0) (g := σ.1 c1) (c1 := tc 0) (n1 := al c1) hx hb (hml.trans hl.1.symm) hown (hts _ w1) (hts _ w2) (hts _ w3) (hts _ w4) hK hP hD hS c0 c1 0 0 (by rw [wld_get hk0]; simp only [cel, g0]) (by rw [wld_get hk1]; simp only [cel, g1]) rfl rfl rfl g3 g4 g5 g6 g7 (fun _ _ => rfl) hRm.1 ?_ hdec (fun H1 locs1 hP1 hD1 hS1 => kk H1 locs1 ls hl ?_ hS1)
        · have hcat := est_cat ad st2
          unfold est at hcat
          rw [hcat]
          have : nativeFrameWords "java/lang/System" "arraycopy" 5 + 11 ≤ 56 := by decide +kernel
          have h64 := hRm.2
          omega
        · have e := wld_set (tc := tc) (ad := ad) (σ := σ) (σ2 := scp σ c0 c1 sp.toNatClampNeg dp.toNatClampNeg n.toNatClampNeg) hk1 (fun j hj => cel_scp hj)
          rw [show cel tc ad (scp σ c0 c1 sp.toNatClampNeg dp.toNatClampNeg n.toNatClampNeg) c1 = .inl (tc 0, al c1, .inl (va_cpy (σ.1 c0) (σ.1 c1) sp.toNatClampNeg dp.toNatClampNeg n.toNatClampNeg)) by simp only [cel, g1]; simp [scp]] at e
          rw [← e]
          exact hP1
  | _ => first | (simp [exec1] at h; done) | cases h
end SND
end
section
/-! ===== calls, returns, a method's contract out of the small machine ===== -/
def rmL (d : Nat) : Room := { frames := d, cells := 0, slots := 0, locals := 64 * d }
theorem conj_app : ∀ {a b : List Prop}, conj (a ++ b) → conj a ∧ conj b
  | [], _, h => ⟨trivial, h⟩
  | _ :: _, _, h => ⟨⟨h.1, (conj_app h.2).1⟩, (conj_app h.2).2⟩
theorem popn_spec : ∀ (n : Nat) (acc st as r : List Value), popn n acc st = some (as, r) → ∃ zs, zs.length = n ∧ st = zs ++ r ∧ as = zs.reverse ++ acc
  | 0, acc, st, as, r, h => by
    simp only [popn, Option.some.injEq, Prod.mk.injEq] at h
    obtain ⟨rfl, rfl⟩ := h
    exact ⟨[], rfl, rfl, rfl⟩
  | n + 1, acc, [], as, r, h => by cases h
  | n + 1, acc, v :: st, as, r, h => by
    obtain ⟨zs, h1, h2, h3⟩ := popn_spec n (v :: acc) st as r h
    exact ⟨v :: zs, by simp [h1], by rw [h2]; rfl, by rw [h3]; simp⟩
theorem popn_nil {n : Nat} {st as r : List Value} (h : popn n [] st = some (as, r)) : as.length = n ∧ st = as.reverse ++ r := by
  obtain ⟨zs, h1, h2, h3⟩ := popn_spec n [] st as r h
  simp only [List.append_nil] at h3
  subst h3
  exact ⟨by simpa using h1, by simpa using h2⟩
def PcM (D : va_G) (tc : Nat → ClassId) (ad : Nat → Nat) (as : List Value) (σ : Sg) : Array Value → State → Prop := va_Pc (est ad as) (fun U => va_P D cl (wld tc ad σ) U.heap ∧ va_K D cl (tys tc) U ∧ Stc (inA ad) ad U U.heap ∧ Nst U)
def QcM (D : va_G) (tc : Nat → ClassId) (ad : Nat → Nat) (P : Option Value → Sg → Prop) : Array Value → State → Outcome → State → Prop := fun _ st oc t => (∃ v σ2, oc = .returned (v.map (enc ad)) ∧ P v σ2 ∧ va_P D cl (wld tc ad σ2) t.heap) ∧ va_F (inA ad) st t
theorem PcM.blind (D : va_G) (tc : Nat → ClassId) (ad : Nat → Nat) (as : List Value) (σ : Sg) : FrameBlind (PcM D tc ad as σ) := fun a U g mk q => by
  obtain ⟨q0, q1, q2, q3, q4⟩ := q
  exact ⟨q0, q1, va_K.moved (u := U) (U := U.calling g mk a) (Vm.Alike.refl U.vm) q2, Stc.moved (u := U) (U := U.calling g mk a) (Vm.Alike.refl U.vm) q3, Nst.same (u := U) (U := U.calling g mk a) rfl q4⟩
def MetM (M : Nat → MI) (l : Launch) (D : va_G) (tc : Nat → ClassId) (ad : Nat → Nat) (d mid : Nat) (as : List Value) (σ : Sg) (P : Option Value → Sg → Prop) : Prop :=
  Met l (M mid).1 (Cond.code (M mid).1 (M mid).2.1 (M mid).2.2.1 (M mid).2.2.2 :: TB) (rmL d) (PcM D tc ad as σ) (QcM D tc ad P) 0 0 (inA ad)
section SND2
variable {p : Program} {l : Launch} {e : Env} {R : Room} {s : State} {m : MethodId} {args : Array Value} {below : List Frame} {meth : Method} {c : Code} {cells slots : Nat} {Qs : State → Prop}
variable {D : va_G} {tc : Nat → ClassId} {ad : Nat → Nat} {A : Nat → Prop} {own : String} {cc : ByteArray} {nL : Nat} {X : RO} {M : Nat → MI}
theorem blk_ok (F : Fx p R s m args c D tc ad A own cc nL X) (hbud : cells ≤ R.cells ∧ slots ≤ R.slots) : ∀ (L : List Ent), (∀ en ∈ L, EntOK M own cc nL en) → ∀ (q : PS) (cs : List Prop) (q2 : PS), blk X L q = some (cs, q2) → conj cs →
    Wk (D := D) p l e R s m args below meth c cells slots Qs tc ad A nL q2 → Wk (D := D) p l e R s m args below meth c cells slots Qs tc ad A nL q
  | [], _, q, cs, q2, h, _, kk => by
    simp only [blk, Option.some.injEq, Prod.mk.injEq] at h
    rw [h.2]
    exact kk
  | en :: L, hok, (pc, lv, st, σ), cs, q2, h, hc, kk => by
    simp only [blk] at h
    cases hb : (en.1 == pc) with
    | false => rw [hb] at h; cases h
    | true =>
      rw [hb] at h
      have hpc : en.1 = pc := by simpa using hb
      simp only [cond_true] at h
      split at h
      · cases h
      · rename_i c1 s1 h1
        split at h
        · cases h
        · rename_i c2 s2 h2
          simp only [Option.some.injEq, Prod.mk.injEq] at h
          obtain ⟨rfl, rfl⟩ := h
          obtain ⟨hc1, hc2⟩ := conj_app hc
          have k2 := blk_ok F hbud L (fun en hen => hok en (List.mem_cons_of_mem _ hen)) s1 c2 s2 h2 hc2 kk
          obtain ⟨pc1, lv1, st1, σ1⟩ := s1
          rw [← hpc]
          exact exec1_ok F hbud (hok en List.mem_cons_self) h1 hc1 k2
theorem run_ok {H : Heap} {locs : List Loc} {pc : Nat} {lv : LV} {ls : Array Slot} {st0 r : List Value} {P : Option Value → Sg → Prop} {a : Array Value} (hAd : ∀ q, inA ad q → A q) (hl : lv_has ls nL (elv ad lv)) (hr : va_Run p l e R s m args below meth c H locs cells slots 0 0 (F0 m pc ls st0) (est ad r) (QcM D tc ad P a) (inA ad)) (hS : va_S A s.heap H locs)
    (kk : ∀ v σ2, P v σ2 → Wk (D := D) p l e R s m args below meth c cells slots Qs tc ad A nL (pc + 3, lv, v.toList ++ r, σ2)) : W p l e R s m args below meth c H locs cells slots Qs (F0 m pc ls st0) := by
  intro T hT X
  obtain ⟨v, st₀, t, T', L, h0, X', hL, e1, e2, ⟨⟨v2, σ2, hv, hp, hP⟩, hz, hk⟩, st⟩ := hr T hT X
  cases hv
  rw [h0] at hz hk
  have k1 := kk v2 σ2 hp T'.heap (locs ++ L) ls hl (by rw [e1]; exact hP) ⟨Nat.le_trans hS.1 (by rw [e1]; exact hz), fun q h1 h2 => by rw [e1, hk q (Nat.lt_of_lt_of_le h1 hS.1) (fun z => h2 (hAd q z))]; exact hS.2.1 q h1 h2, fun q hq => by
      rcases List.mem_append.mp hq with h | h
      · exact hS.2.2 q h
      · exact hAd _ (hL q h)⟩
  obtain ⟨t2, a1, b1⟩ := k1 T' rfl X'
  refine ⟨t2, st t2 ?_, b1⟩
  have es : est ad (v2.toList ++ r) = (v2.map (enc ad)).toList ++ est ad r := by cases v2 <;> simp [est]
  dsimp only at a1
  rw [es] at a1
  exact a1
theorem call_ok (F : Fx p R s m args c D tc ad A own cc nL X) {en : Ent} (hok : EntOK M own cc nL en) {lv : LV} {st : List Value} {σ : Sg} {cp : Prop} {as r : List Value} {P : Option Value → Sg → Prop} {d0 : Nat} (h : icall en st = some (cp, as, r)) (hc : cp) (hM : MetM M l D tc ad d0 en.2.2.2.1 as σ P) (hd : d0 + 1 ≤ R.frames ∧ 64 * (d0 + 1) ≤ R.locals) (hbud : cells ≤ R.cells ∧ slots ≤ R.slots)
    (kk : ∀ v σ2, P v σ2 → Wk (D := D) p l e R s m args below meth c cells slots Qs tc ad A nL (en.1 + 3, lv, v.toList ++ r, σ2)) : Wk (D := D) p l e R s m args below meth c cells slots Qs tc ad A nL (en.1, lv, st, σ) := by
  obtain ⟨hx, hb, hml, hown, hts, hK, hinj, hAd, ⟨hSt, hNs⟩, hRm, hX⟩ := F
  obtain ⟨pc, ins, len, a, b, d, zs⟩ := en
  obtain ⟨hdec, hok, hlen⟩ := hok
  intro H locs ls hl hP hS
  dsimp only at hdec hlen hok hl hP hS hM kk ⊢
  have hpre : ∀ U : State, U.heap = H → s.WarmedH U.vm → va_P D cl (wld tc ad σ) U.heap ∧ va_K D cl (tys tc) U ∧ Stc (inA ad) ad U U.heap ∧ Nst U := fun U hU hW => ⟨by rw [hU]; exact hP, va_K.moved hW.alike hK, by
    rw [hU]
    exact Stc.narrow (Stc.moved hW.alike (hSt.kept (fun q h1 h2 => hS.2.1 q h1 h2))) hAd, Nst.warm hW hNs⟩
  have hlo : (M a).2.2.1 ≤ 45 → 8 + ((M a).2.2.1 + 11) + (rmL d0).locals ≤ R.locals := fun h => by
    show 8 + ((M a).2.2.1 + 11) + 64 * d0 ≤ R.locals
    omega
  cases ins with
  | invokevirtual idx =>
    obtain rfl : len = 3 := hlen (fun _ _ _ _ h => by cases h)
    obtain ⟨⟨w0, w1, w2, w3, w4⟩, w5, w6, w7, q, w8, w9⟩ := hok
    simp only [icall] at h
    split at h
    · rename_i as2 c9 r2 hp
      simp only [Option.some.injEq, Prod.mk.injEq] at h
      obtain ⟨rfl, rfl, rfl⟩ := h
      obtain ⟨h0, h1⟩ := hc
      obtain ⟨e1, rfl⟩ := popn_nil hp
      have hk : c9 < NC := ck_nc (by have h1 : d < 9 := (List.getElem?_eq_some_iff.mp w8).1; omega)
      have hrecv := va_recv hK hP (q0 := c9) (ci := d) w8 (by rw [wld_get hk, cel_obj h0])
      rw [w9] at hrecv
      refine run_ok hAd hl (va_runV (As := est ad as2) (rest := est ad r2) (n := b) ⟨hx, hb, hml, hown, hts⟩ hM ⟨callB_of b hts (tb_goodIn w1) rfl rfl rfl (hts _ w2) (hts _ w5) ⟨w3.1, w3.2, w4⟩ ⟨hd.1, hlo w0⟩, hts _ w6, hts _ w7⟩ ⟨PcM.blind _ _ _ _ _, hrecv, fun U hU hW => ⟨rfl, hpre U hU hW⟩⟩ rfl (by simpa [est] using e1) hl.1 ?_ (lv_room (by rw [est_cat]; exact h1)) hdec ⟨hbud.1, hbud.2⟩) hS kk
      simp [est, enc, F0]
    · cases h
  | invokestatic idx =>
    obtain rfl : len = 3 := hlen (fun _ _ _ _ h => by cases h)
    simp only [icall] at h
    cases hd7 : (Nat.blt 6 d) with
    | true => rw [hd7] at h; cases h
    | false =>
      rw [hd7] at h
      obtain ⟨⟨w0, w1, w2, w3, w4⟩, w5, w6⟩ := hok.2.1 (fun q => by rw [Nat.blt_eq.mpr q] at hd7; cases hd7)
      simp only [cond_false] at h
      split at h
      · rename_i as2 r2 hp
        simp only [Option.some.injEq, Prod.mk.injEq] at h
        obtain ⟨rfl, rfl, rfl⟩ := h
        obtain ⟨e1, rfl⟩ := popn_nil hp
        have hst0 : est ad (as2.reverse ++ r2) = (est ad as2).reverse ++ est ad r2 := by simp [est]
        rcases w5 with w5 | ⟨host, w5⟩
        · exact run_ok hAd hl (va_runS (As := est ad as2) (rest := est ad r2) (n := b) ⟨hx, hb, hml, hown, hts⟩ hM ⟨callB_of b hts (tb_goodIn w1) rfl rfl rfl (hts _ w2) (hts _ w5) ⟨w3.1, w3.2, w4⟩ ⟨hd.1, hlo w0⟩, hts _ w6⟩ ⟨PcM.blind _ _ _ _ _, fun U hU hW => ⟨rfl, hpre U hU hW⟩⟩ rfl (by simpa [est] using e1) hl.1 hst0 (lv_room (by rw [est_cat]; exact hc)) hdec ⟨hbud.1, hbud.2⟩) hS kk
        · exact run_ok hAd hl (va_runSN (As := est ad as2) (rest := est ad r2) (n := b) (host := host) ⟨hx, hb, hml, hown, hts⟩ hM ⟨va_cnB b hts (tb_goodIn w1) rfl rfl rfl (hNs _ w5 rfl) (hts _ w2) ⟨w3.1, w3.2, w4⟩ ⟨hd.1, hlo w0⟩, hts _ w6, trivial⟩ ⟨PcM.blind _ _ _ _ _, fun U hU hW => ⟨rfl, hpre U hU hW⟩⟩ rfl (by simpa [est] using e1) hl.1 hst0 (lv_room (by rw [est_cat]; exact hc)) hdec ⟨hbud.1, hbud.2⟩) hS kk
      · cases h
  | _ => first | (simp [icall] at h; done) | cases h
theorem Rch_ok (F : Fx p R s m args c D tc ad A own cc nL X) {cs : List (List Ent)} {G : Env1} {Q : Option Value → Sg → Prop} (hcs : ∀ (k : Nat) (L : List Ent), cs[k]? = some L → ∀ en ∈ L, EntOK M own cc nL en) (hG : ∀ mid as σ P, G mid as σ P → ∃ d0, (d0 + 1 ≤ R.frames ∧ 64 * (d0 + 1) ≤ R.locals) ∧ MetM M l D tc ad d0 mid as σ P) (hbud : cells ≤ R.cells ∧ slots ≤ R.slots)
    (hret : ∀ (k : Nat) (en : Ent) (cp : Prop) (v : Option Value) (lv : LV) (st : List Value) (σ : Sg), cs[k]? = some [en] → EntOK M own cc nL en → retv en st = some (cp, v) → cp → Q v σ → Wk (D := D) p l e R s m args below meth c cells slots Qs tc ad A nL (en.1, lv, st, σ)) :
    ∀ (n : Nat) (q : PS), Rch X G cs Q n q → Wk (D := D) p l e R s m args below meth c cells slots Qs tc ad A nL q := by
  intro n
  induction n with
  | zero => intro q h; exact h.elim
  | succ n ih =>
    intro q h
    obtain ⟨pc, lv, st, σ⟩ := q
    rcases h with ⟨k, L, cp, q2, h1, h2, h3, h4⟩ | ⟨ks, lv2, h1, h2⟩ | ⟨k, en, cp, as, r, h1, h2, h3, h4, h5⟩ | ⟨k, en, cp, v, h1, h2, h3, h4, h5⟩
    · exact blk_ok F hbud L (hcs k L h1) _ cp q2 h2 h3 (ih q2 h4)
    · intro H locs ls hl hP hS
      subst h1
      exact ih _ h2 H locs ls (elv_pick ks hl) hP hS
    · subst h2
      obtain ⟨d0, hd, hM⟩ := hG _ _ _ _ h5
      exact call_ok F (hcs k _ h1 en List.mem_cons_self) h3 h4 hM hd hbud (fun v σ2 hv => ih _ hv)
    · subst h2
      exact hret k en cp v lv st σ h1 (hcs k _ h1 en List.mem_cons_self) h3 h4 h5
end SND2
/-- what a method does, calls as deep as d -/
def Ev (M : Nat → MI) (C : Nat → List (List Ent)) : Nat → Env1
  | 0 => fun _ _ _ _ => False
  | d + 1 => fun mid as σ Q => (lg_sl as).length ≤ (M mid).2.2.1 ∧ Rc none (Ev M C d) (C mid) (0, lv_args 0 as, [], σ) Q
theorem Ev.mono {M : Nat → MI} {C : Nat → List (List Ent)} : ∀ (d : Nat) (mid : Nat) (as : List Value) (σ : Sg) (P P2 : Option Value → Sg → Prop), (∀ v σ, P v σ → P2 v σ) → Ev M C d mid as σ P → Ev M C d mid as σ P2
  | 0, _, _, _, _, _, _, h => h
  | d + 1, mid, as, σ, P, P2, hP, h => by
    obtain ⟨h1, n, h2⟩ := h
    exact ⟨h1, n, Rch.mono hP (fun m as σ P P2 hp h => Ev.mono d m as σ P P2 hp h) n _ h2⟩
theorem Ev.up {M : Nat → MI} {C : Nat → List (List Ent)} : ∀ (d : Nat) (mid : Nat) (as : List Value) (σ : Sg) (P : Option Value → Sg → Prop), Ev M C d mid as σ P → Ev M C (d + 1) mid as σ P
  | 0, _, _, _, _, h => h.elim
  | d + 1, mid, as, σ, P, h => by
    obtain ⟨h1, n, h2⟩ := h
    exact ⟨h1, n, Rch.mono (fun _ _ h => h) (fun m as σ P P2 hp h => Ev.up d m as σ P2 (Ev.mono d m as σ P P2 hp h)) n _ h2⟩
theorem Ev.le {M : Nat → MI} {C : Nat → List (List Ent)} {d d2 mid : Nat} {as : List Value} {σ : Sg} {P : Option Value → Sg → Prop} (hd : d ≤ d2) (h : Ev M C d mid as σ P) : Ev M C d2 mid as σ P := by
  induction hd with
  | refl => exact h
  | step _ ih => exact Ev.up _ _ _ _ _ ih
def RetOK (ret : Option FieldType) (en : Ent) : Prop := match en.2.1 with
  | .ireturn => (en.2.2.2.1 = 0 ∧ ret = some .int) ∨ (en.2.2.2.1 = 1 ∧ ret = some .boolean)
  | .lreturn => ret = some .long
  | .areturn => ret = some (.array .int)
  | .return_ => ret = none
  | _ => True
def MthOK (M : Nat → MI) (C : Nat → List (List Ent)) (mid : Nat) : Prop := plainName (M mid).1.cls = true ∧ Cond.code (M mid).1 (M mid).2.1 (M mid).2.2.1 (M mid).2.2.2 ∈ TB ∧ ∀ L ∈ C mid, ∀ en ∈ L, EntOK M (M mid).1.cls (M mid).2.1 (M mid).2.2.1 en ∧ RetOK (M mid).2.2.2 en
theorem lv_args_enc (ad : Nat → Nat) : ∀ (i : Nat) (as : List Value), lv_args i (est ad as) = elv ad (lv_args i as)
  | _, [] => rfl
  | i, v :: vs => by
    show (i, enc ad v) :: lv_args (if (enc ad v).category = 2 then i + 2 else i + 1) (est ad vs) = _
    rw [enc_cat, lv_args_enc ad]
    rfl
theorem lg_sl_enc (ad : Nat → Nat) (as : List Value) : (lg_sl (est ad as)).length = (lg_sl as).length := by
  unfold lg_sl est
  induction as with
  | nil => rfl
  | cons v vs ih =>
    simp only [List.map_cons, List.flatMap_cons, List.length_append, enc_cat]
    rw [ih]
    split <;> rfl
end
section
/-! ===== a method's contract, from what the small machine does ===== -/
theorem Rch.empty {X : RO} {G : Env1} {Q : Option Value → Sg → Prop} : ∀ (n : Nat) (q : PS), ¬ Rch X G [] Q n q := by
  intro n
  induction n with
  | zero => intro q h; exact h
  | succ n ih =>
    intro q h
    obtain ⟨pc, lv, st, σ⟩ := q
    rcases h with ⟨k, L, cp, q2, h1, h2, h3, h4⟩ | ⟨ks, lv2, h1, h2⟩ | ⟨k, en, cp, as, r, h1, h2, h3, h4, h5⟩ | ⟨k, en, cp, v, h1, h2, h3, h4, h5⟩
    · simp at h1
    · exact ih _ h2
    · simp at h1
    · simp at h1
theorem Ev_ok {M : Nat → MI} {C : Nat → List (List Ent)} (hall : ∀ mid, C mid ≠ [] → MthOK M C mid) (l : Launch) (D : va_G) (tc : Nat → ClassId) (ad : Nat → Nat) (hinj : ∀ i j, i < NC → j < NC → ad i = ad j → i = j) :
    ∀ (d : Nat) (mid : Nat) (as : List Value) (σ : Sg) (P : Option Value → Sg → Prop), Ev M C d mid as σ P → MetM M l D tc ad d mid as σ P := by
  intro d
  induction d with
  | zero => intro mid as σ P h; exact h.elim
  | succ d ih =>
    intro mid as σ P h
    obtain ⟨hlen, n, hr⟩ := h
    have hne : C mid ≠ [] := fun q => by
      rw [q] at hr
      exact Rch.empty n _ hr
    obtain ⟨hpl, hcode, hent⟩ := hall mid hne
    refine Met.ofW (cc := (M mid).2.1) (maxL := (M mid).2.2.1) (ret := (M mid).2.2.2) hpl rfl ?_
    intro p e s m args below meth c s₁ B hml hv
    obtain ⟨rfl, hP, hK, hSt, hNs⟩ := hv
    have hx := B.exec
    have hb := B.bytes
    have hrt := B.returns
    have hts := atoms_spec (ws := Cond.code (M mid).1 (M mid).2.1 (M mid).2.2.1 (M mid).2.2.2 :: TB) B.pre
    have hown : s.vm.findClass (M mid).1.cls = some m.cls := findClass_of_methodNamed B.named
    have hlocks := B.notSynchronized
    have F : Fx p (rmL (d + 1)) s m (est ad as).toArray c D tc ad (inA ad) (M mid).1.cls (M mid).2.1 (M mid).2.2.1 none := ⟨hx, hb, hml, hown, fun w hw => hts w (List.mem_cons_of_mem _ hw), hK, hinj, fun _ h => h, ⟨hSt, hNs⟩, ⟨by show 1 ≤ d + 1; omega, by show 64 ≤ 64 * (d + 1); omega⟩, fun x h => by cases h⟩
    have hl := lv_entry (est ad as) (n := (M mid).2.2.1) (by rw [lg_sl_enc]; exact hlen)
    rw [lg_entry_eq]
    rw [lv_args_enc] at hl
    refine Rch_ok F (cs := C mid) (G := Ev M C d) (Q := P) (fun k L hk en hen => (hent L (List.mem_of_getElem? hk) en hen).1) (fun mid as σ P h => ⟨d, ⟨Nat.le_refl _, Nat.le_refl _⟩, ih mid as σ P h⟩) ⟨Nat.le_refl _, Nat.le_refl _⟩ ?_ n (0, lv_args 0 as, [], σ) hr s.heap [] _ hl hP va_S.rf
    intro k en cp v lv st σ2 hk hok hrv hcp hQ H locs ls hl2 hP2 hS2
    obtain ⟨-, hro⟩ := hent _ (List.mem_of_getElem? hk) en List.mem_cons_self
    obtain ⟨pc, ins, len, a, b, d1, zs⟩ := en
    obtain ⟨hdec, -, hln⟩ := hok
    dsimp only at hdec hln hP2 ⊢
    have hq : ∀ (v : Option Value) (t : State), P v σ2 → t.heap = H → QcM D tc ad P (est ad as).toArray s (.returned (v.map (enc ad))) t := fun v t hp ht => ⟨⟨v, σ2, rfl, hp, by rw [ht]; exact hP2⟩, hS2.F ht⟩
    cases ins with
    | ireturn =>
      obtain rfl : len = 1 := hln (fun _ _ _ _ h => by cases h)
      match st, hrv with
      | [.int x], hrv =>
        simp only [retv] at hrv
        rcases hro with ⟨h1, h2⟩ | ⟨h1, h2⟩
        · dsimp only at h1
          subst h1
          simp only [Option.some.injEq, Prod.mk.injEq, Nat.reduceBEq, cond_false] at hrv
          obtain ⟨-, rfl⟩ := hrv
          exact W.iret hx hb (hrt.trans h2) (fun t ht hW => hq (some (.int x)) t hQ ht) hS2.2.2 hdec
        · dsimp only at h1
          subst h1
          simp only [Option.some.injEq, Prod.mk.injEq, Nat.reduceBEq, cond_true] at hrv
          obtain ⟨rfl, rfl⟩ := hrv
          exact W.zret hx hb (hrt.trans h2) (nb_fit hcp).1 (fun t ht hW => hq (some (.int x)) t hQ ht) hS2.2.2 hdec
    | lreturn =>
      obtain rfl : len = 1 := hln (fun _ _ _ _ h => by cases h)
      match st, hrv with
      | [.long x], hrv =>
        simp only [retv, Option.some.injEq, Prod.mk.injEq] at hrv
        obtain ⟨-, rfl⟩ := hrv
        exact W.lret hx hb (hrt.trans hro) (fun t ht hW => hq (some (.long x)) t hQ ht) hS2.2.2 hdec
    | areturn =>
      obtain rfl : len = 1 := hln (fun _ _ _ _ h => by cases h)
      match st, hrv with
      | [.ref x], hrv =>
        simp only [retv, Option.some.injEq, Prod.mk.injEq] at hrv
        obtain ⟨-, rfl⟩ := hrv
        exact W.aret hx hb (hrt.trans hro) (Or.inr ⟨_, rfl⟩) (Or.inr ⟨_, rfl⟩) (fun t ht hW => hq (some (.ref x)) t hQ ht) hS2.2.2 hdec
    | return_ =>
      obtain rfl : len = 1 := hln (fun _ _ _ _ h => by cases h)
      match st, hrv with
      | [], hrv =>
        simp only [retv, Option.some.injEq, Prod.mk.injEq] at hrv
        obtain ⟨-, rfl⟩ := hrv
        exact W.vret hx hb (hrt.trans hro) (fun t ht hW => hq none t hQ ht) hS2.2.2 hdec
    | _ => first | (simp [retv] at hrv; done) | cases hrv
end
section
/-! ===== what the instructions link to, out of the tables' words ===== -/
def RJ6 : String := "java/lang/Integer"
def RJ9 : String := "java/lang/Math"
def RJ7 : String := "java/util/Arrays"
def RL : String := "PureGroupsLaw"
theorem tb_in (ws : List Cond) (ps : List Nat) (hp : ws = ps.filterMap (fun i => lw_tbl[i]?)) (h : ws.all goodWord = true) : ∀ w ∈ ws, w ∈ TB := by
  intro w hw
  have h1 := List.all_eq_true.mp h w hw
  rw [hp] at hw
  obtain ⟨i, -, hi⟩ := List.mem_filterMap.mp hw
  exact List.mem_filter.mpr ⟨List.mem_of_getElem? hi, h1⟩
abbrev Lnk : Type := Nat × Nat × Nat × Nat × Nat × Int
def LnkOK (M : Nat → MI) (own : String) (q : Lnk) : Prop := match q with
  | (0, idx, a, b, d, _) => FldOK own idx a b d false
  | (1, idx, a, b, d, _) => FldOK own idx a b d true
  | (2, idx, a, _, _, _) => StaOK own idx a
  | (3, idx, a, b, d, _) => VirOK M own idx a b d
  | (4, idx, a, b, _, _) => StmOK M own idx a b
  | (8, idx, _, _, _, _) => ArcOK own idx
  | (9, idx, _, _, _, _) => MabOK own idx
  | (10, idx, _, _, _, _) => MalOK own idx
  | (11, idx, _, _, _, _) => MaxOK own idx
  | (12, idx, _, _, _, _) => MinOK own idx
  | (6, idx, _, _, _, z) => Cond.constant own idx (Int32.ofInt z) ∈ TB
  | (_, idx, _, _, _, z) => Cond.constantLong own idx (Int64.ofInt z) ∈ TB
def chkE (cc : ByteArray) (nL : Nat) (ret : Option FieldType) (lk : List Lnk) (e : Ent) : Bool :=
  decide (decode cc e.1 = .ok (e.2.1, e.2.2.1)) && (match e with
  | (pc, ins, len, a, b, d, zs) => (match ins with
    | .tableswitch df lo hi offs => decide ((pc : Int) + df = (a : Int)) && decide (hi = lo + zs.length - 1) && decide (-2147483648 ≤ lo) && decide (hi ≤ 2147483647) && (List.range zs.length).all (fun i => match offs[i]? with
      | some off => decide ((pc : Int) + off = ((zs.getD i 0).toNat : Int))
      | none => false)
    | _ => len == ilen ins) && (match ins with
    | .istore i => Nat.blt i nL
    | .istore_n k => Nat.blt k.val nL
    | .astore i => Nat.blt i nL
    | .astore_n k => Nat.blt k.val nL
    | .lstore i => Nat.blt (i + 1) nL
    | .lstore_n k => Nat.blt (k.val + 1) nL
    | .iinc i _ => Nat.blt i nL
    | .bipush n => decide ((Int8.ofInt n).toInt32 = Int32.ofInt n)
    | .sipush n => decide ((Int16.ofInt n).toInt32 = Int32.ofInt n)
    | .ldc idx => (match zs with | z :: _ => lk.contains (6, idx, 0, 0, 0, z) | [] => false)
    | .ldc_w idx => (match zs with | z :: _ => lk.contains (6, idx, 0, 0, 0, z) | [] => false)
    | .ldc2_w idx => (match zs with | z :: _ => lk.contains (7, idx, 0, 0, 0, z) | [] => false)
    | .ifCond _ off => decide ((pc : Int) + off = (a : Int))
    | .if_icmp _ off => decide ((pc : Int) + off = (a : Int))
    | .goto off => decide ((pc : Int) + off = (a : Int))
    | .getfield idx => lk.contains (0, idx, a, b, d, 0)
    | .putfield idx => lk.contains (1, idx, a, b, d, 0)
    | .getstatic idx => lk.contains (2, idx, a, 0, 0, 0)
    | .invokevirtual idx => lk.contains (3, idx, a, b, d, 0)
    | .invokestatic idx => bif Nat.blt 6 d then (Nat.ble d 11 && lk.contains (d + 1, idx, 0, 0, 0, 0)) else lk.contains (4, idx, a, b, 0, 0)
    | .ireturn => (a == 0 && decide (ret = some .int)) || (a == 1 && decide (ret = some .boolean))
    | .lreturn => decide (ret = some .long)
    | .areturn => decide (ret = some (.array .int))
    | .return_ => decide (ret = none)
    | _ => true))
theorem and_r {a b : Bool} (h : (a && b) = true) : b = true := (Bool.and_eq_true_iff.mp h).2
theorem chkE_ok {M : Nat → MI} {own : String} {cc : ByteArray} {nL : Nat} {ret : Option FieldType} {lk : List Lnk} (hlk : ∀ q ∈ lk, LnkOK M own q) {e : Ent} (h : chkE cc nL ret lk e = true) : EntOK M own cc nL e ∧ RetOK ret e := by
  obtain ⟨pc, ins, len, a, b, d, zs⟩ := e
  simp only [chkE, Bool.and_eq_true, decide_eq_true_eq] at h
  obtain ⟨h1, h2, h3⟩ := h
  have hc : ∀ q : Lnk, lk.contains q = true → LnkOK M own q := fun q hq => hlk q (by simpa using hq)
  cases ins with
  | tableswitch df lo hi offs =>
    simp only [Bool.and_eq_true, decide_eq_true_eq, List.all_eq_true] at h2
    obtain ⟨⟨⟨⟨g1, g2⟩, g3⟩, g4⟩, g5⟩ := h2
    refine ⟨⟨h1, ⟨g1, g2, ⟨g3, g4⟩, fun i hi => ?_⟩, fun h => absurd rfl (h df lo hi offs)⟩, trivial⟩
    have := g5 i (List.mem_range.mpr hi)
    split at this
    · rename_i off ho
      exact ⟨off, ho, by simpa using this⟩
    · cases this
  | istore i => exact ⟨⟨h1, by simpa using h3, fun _ => by simpa using h2⟩, trivial⟩
  | istore_n i => exact ⟨⟨h1, by simpa using h3, fun _ => by simpa using h2⟩, trivial⟩
  | astore i => exact ⟨⟨h1, by simpa using h3, fun _ => by simpa using h2⟩, trivial⟩
  | astore_n i => exact ⟨⟨h1, by simpa using h3, fun _ => by simpa using h2⟩, trivial⟩
  | lstore i => exact ⟨⟨h1, by simpa using h3, fun _ => by simpa using h2⟩, trivial⟩
  | lstore_n i => exact ⟨⟨h1, by simpa using h3, fun _ => by simpa using h2⟩, trivial⟩
  | iinc i n => exact ⟨⟨h1, by simpa using h3, fun _ => by simpa using h2⟩, trivial⟩
  | bipush n => exact ⟨⟨h1, by simpa using h3, fun _ => by simpa using h2⟩, trivial⟩
  | sipush n => exact ⟨⟨h1, by simpa using h3, fun _ => by simpa using h2⟩, trivial⟩
  | ldc idx =>
    match zs, h3 with
    | z :: r, h3 => exact ⟨⟨h1, ⟨z, r, rfl, hc _ h3⟩, fun _ => by simpa using h2⟩, trivial⟩
  | ldc_w idx =>
    match zs, h3 with
    | z :: r, h3 => exact ⟨⟨h1, ⟨z, r, rfl, hc _ h3⟩, fun _ => by simpa using h2⟩, trivial⟩
  | ldc2_w idx =>
    match zs, h3 with
    | z :: r, h3 => exact ⟨⟨h1, ⟨z, r, rfl, hc _ h3⟩, fun _ => by simpa using h2⟩, trivial⟩
  | ifCond cd off => exact ⟨⟨h1, by simpa using h3, fun _ => by simpa using h2⟩, trivial⟩
  | if_icmp cd off => exact ⟨⟨h1, by simpa using h3, fun _ => by simpa using h2⟩, trivial⟩
  | goto off => exact ⟨⟨h1, by simpa using h3, fun _ => by simpa using h2⟩, trivial⟩
  | getfield idx => exact ⟨⟨h1, hc _ h3, fun _ => by simpa using h2⟩, trivial⟩
  | putfield idx => exact ⟨⟨h1, hc _ h3, fun _ => by simpa using h2⟩, trivial⟩
  | getstatic idx => exact ⟨⟨h1, hc _ h3, fun _ => by simpa using h2⟩, trivial⟩
  | invokevirtual idx => exact ⟨⟨h1, hc _ h3, fun _ => by simpa using h2⟩, trivial⟩
  | invokestatic idx =>
    refine ⟨⟨h1, ⟨fun hd => ?_, fun hd => ?_, fun hd => ?_, fun hd => ?_, fun hd => ?_, fun hd => ?_⟩, fun _ => by simpa using h2⟩, trivial⟩
    · subst hd
      exact hc (8, idx, 0, 0, 0, 0) (and_r (a := Nat.ble 7 11) h3)
    · have hb : Nat.blt 6 d = false := by
        cases hz : Nat.blt 6 d with
        | false => rfl
        | true => exact absurd (Nat.blt_eq.mp hz) hd
      simp only [hb, cond_false] at h3
      exact hc _ h3
    · subst hd
      exact hc (9, idx, 0, 0, 0, 0) (and_r (a := Nat.ble 8 11) h3)
    · subst hd
      exact hc (10, idx, 0, 0, 0, 0) (and_r (a := Nat.ble 9 11) h3)
    · subst hd
      exact hc (11, idx, 0, 0, 0, 0) (and_r (a := Nat.ble 10 11) h3)
    · subst hd
      exact hc (12, idx, 0, 0, 0, 0) (and_r (a := Nat.ble 11 11) h3)
  | ireturn =>
    simp only [Bool.or_eq_true, Bool.and_eq_true, beq_iff_eq, decide_eq_true_eq] at h3
    exact ⟨⟨h1, trivial, fun _ => by simpa using h2⟩, h3⟩
  | lreturn => exact ⟨⟨h1, trivial, fun _ => by simpa using h2⟩, show ret = some .long by simpa using h3⟩
  | areturn => exact ⟨⟨h1, trivial, fun _ => by simpa using h2⟩, show ret = some (.array .int) by simpa using h3⟩
  | return_ => exact ⟨⟨h1, trivial, fun _ => by simpa using h2⟩, show ret = none by simpa using h3⟩
  | _ => exact ⟨⟨h1, trivial, fun _ => by simpa using h2⟩, trivial⟩
def chkM (cc : ByteArray) (nL : Nat) (ret : Option FieldType) (lk : List Lnk) (cs : List (List Ent)) : Bool := cs.all (fun L => L.all (chkE cc nL ret lk))
theorem chkM_ok {M : Nat → MI} {own : String} {cc : ByteArray} {nL : Nat} {ret : Option FieldType} {lk : List Lnk} (hlk : ∀ q ∈ lk, LnkOK M own q) {cs : List (List Ent)} (h : chkM cc nL ret lk cs = true) : ∀ L ∈ cs, ∀ en ∈ L, EntOK M own cc nL en ∧ RetOK ret en := fun L hL en hen => chkE_ok hlk (List.all_eq_true.mp (List.all_eq_true.mp h L hL) en hen)
end
section
/-! the methods by numbers -/
def mi0 : MI := (⟨RX0, "choose", "(I)Z"⟩, prog_2_method_2_code, 2, some FieldType.boolean)
def mi1 : MI := (⟨RX0, "sizesOfRests", "()J"⟩, prog_2_method_3_code, 8, some FieldType.long)
def mi2 : MI := (⟨RX0, "lookAtAll", "()V"⟩, prog_2_method_4_code, 2, none)
def mi3 : MI := (⟨RX0, "lookAtOne", "(I)V"⟩, prog_2_method_5_code, 4, none)
def mi4 : MI := (⟨RX1, "run", "([[III)V"⟩, prog_3_method_2_code, 6, none)
def mi5 : MI := (⟨RX1, "bringUp", "(I)Z"⟩, prog_3_method_3_code, 6, some FieldType.boolean)
def mi6 : MI := (⟨RX1, "clearOthers", "(I)V"⟩, prog_3_method_4_code, 10, none)
def mi7 : MI := (⟨RX1, "relation", "(I[I)V"⟩, prog_3_method_5_code, 6, none)
def mi8 : MI := (⟨RX2, "note", "(IIII)V"⟩, prog_4_method_2_code, 6, none)
def mi9 : MI := (⟨RX2, "forget", "()V"⟩, prog_4_method_3_code, 1, none)
def mi10 : MI := (⟨RX2, "takeBack", "(LPureGroups$Model;)V"⟩, prog_4_method_4_code, 4, none)
def mi11 : MI := (⟨RX3, "copyFrom", "(LPureGroups$Model;)V"⟩, prog_5_method_2_code, 3, none)
def mi12 : MI := (⟨RX3, "add", "(I)V"⟩, prog_5_method_3_code, 2, none)
def mi13 : MI := (⟨RX3, "keepFormula", "([III)V"⟩, prog_5_method_4_code, 4, none)
def mi14 : MI := (⟨RX3, "hasFormula", "()Z"⟩, prog_5_method_5_code, 1, some FieldType.boolean)
def mi15 : MI := (⟨RX3, "hasScale", "(I)Z"⟩, prog_5_method_6_code, 2, some FieldType.boolean)
def mi16 : MI := (⟨RX3, "scaledSet", "()I"⟩, prog_5_method_7_code, 3, some FieldType.int)
def mi17 : MI := (⟨RX3, "haveScales", "(I)Z"⟩, prog_5_method_8_code, 2, some FieldType.boolean)
def mi18 : MI := (⟨RX3, "together", "([III)J"⟩, prog_5_method_9_code, 7, some FieldType.long)
def mi19 : MI := (⟨RX3, "times", "(II)I"⟩, prog_5_method_10_code, 5, some FieldType.int)
def mi20 : MI := (⟨RX4, "read", "([II)V"⟩, prog_6_method_2_code, 4, none)
def mi21 : MI := (⟨RX4, "readSum", "(I)V"⟩, prog_6_method_3_code, 4, none)
def mi22 : MI := (⟨RX4, "readTerm", "(I)V"⟩, prog_6_method_4_code, 4, none)
def mi23 : MI := (⟨RX4, "readPart", "(II)V"⟩, prog_6_method_5_code, 6, none)
def mi24 : MI := (⟨RX4, "readAtom", "(I)[I"⟩, prog_6_method_6_code, 4, some (FieldType.array FieldType.int))
def mi25 : MI := (⟨RX4, "readInner", "(II)[I"⟩, prog_6_method_7_code, 4, some (FieldType.array FieldType.int))
def mi26 : MI := (⟨RX4, "readNumber", "()V"⟩, prog_6_method_8_code, 2, none)
def mi27 : MI := (⟨RX4, "readPower", "()I"⟩, prog_6_method_9_code, 3, some FieldType.int)
def mi28 : MI := (⟨RX4, "next", "()I"⟩, prog_6_method_10_code, 1, some FieldType.int)
def mi29 : MI := (⟨RX4, "isNext", "(II)Z"⟩, prog_6_method_11_code, 4, some FieldType.boolean)
def mi30 : MI := (⟨RX4, "isDigit", "(I)Z"⟩, prog_6_method_12_code, 1, some FieldType.boolean)
def mi31 : MI := (⟨RX4, "expect", "(I)V"⟩, prog_6_method_13_code, 2, none)
def mi32 : MI := (⟨RX4, "failHere", "()V"⟩, prog_6_method_14_code, 1, none)
def mi33 : MI := (⟨RX4, "markWrong", "(I)V"⟩, prog_6_method_15_code, 2, none)
def mi34 : MI := (⟨RX4, "same", "([I[I)Z"⟩, prog_6_method_16_code, 3, some FieldType.boolean)
def mi35 : MI := (⟨RX4, "lacks", "(I)I"⟩, prog_6_method_17_code, 2, some FieldType.int)
def mi36 : MI := (⟨RX4, "firstWrong", "()I"⟩, prog_6_method_18_code, 2, some FieldType.int)
def mi37 : MI := (⟨RX4, "countWrong", "()I"⟩, prog_6_method_19_code, 6, some FieldType.int)
def mi38 : MI := (⟨RX5, "countBox", "()I"⟩, prog_7_method_2_code, 1, some FieldType.int)
def mi39 : MI := (⟨RX5, "pureInBox", "([JIIJ)I"⟩, prog_7_method_3_code, 5, some FieldType.int)
def mi40 : MI := (⟨RX5, "findLeast", "()V"⟩, prog_7_method_4_code, 2, none)
def mi41 : MI := (⟨RX5, "hasPure", "([JI[IIIJ)Z"⟩, prog_7_method_5_code, 9, some FieldType.boolean)
def mi42 : MI := (⟨RX5, "dimensionsHad", "(I)I"⟩, prog_7_method_6_code, 2, some FieldType.int)
def mi43 : MI := (⟨RX5, "gather", "([J[JIIIJ)I"⟩, prog_7_method_7_code, 9, some FieldType.int)
def mi44 : MI := (⟨RX5, "isNew", "([JJ)Z"⟩, prog_7_method_8_code, 5, some FieldType.boolean)
def mi45 : MI := (⟨RX5, "fewestAt", "([II)I"⟩, prog_7_method_9_code, 4, some FieldType.int)
def mi46 : MI := (⟨RX5, "findRow", "([I)I"⟩, prog_7_method_10_code, 6, some FieldType.int)
def mi47 : MI := (⟨RX5, "hasRow", "([JI[IIIJ)Z"⟩, prog_7_method_11_code, 8, some FieldType.boolean)
def mi48 : MI := (⟨RX6, "measure", "(LPureGroups$Model;)V"⟩, prog_8_method_2_code, 3, none)
def mi49 : MI := (⟨RX6, "setPowers", "(I[I[I)V"⟩, prog_8_method_3_code, 4, none)
def mi50 : MI := (⟨RX6, "keyOf", "([I)J"⟩, prog_8_method_4_code, 7, some FieldType.long)
def mi51 : MI := (⟨RX6, "looseSet", "()I"⟩, prog_8_method_5_code, 1, some FieldType.int)
def mi52 : MI := (⟨RX6, "looseAt", "(I)I"⟩, prog_8_method_6_code, 5, some FieldType.int)
def mi53 : MI := (⟨RX6, "differentDimensions", "()I"⟩, prog_8_method_7_code, 5, some FieldType.int)
def mi54 : MI := (⟨RX6, "isPureProduct", "([I)Z"⟩, prog_8_method_8_code, 2, some FieldType.boolean)
def mi55 : MI := (⟨RX6, "sizeOfDimension", "([I)I"⟩, prog_8_method_9_code, 6, some FieldType.int)
def mi56 : MI := (⟨RX7, "letter", "(I)I"⟩, prog_1_method_2_code, 2, some FieldType.int)
def mi57 : MI := (⟨RX7, "quantity", "(I)I"⟩, prog_1_method_3_code, 2, some FieldType.int)
def mi58 : MI := (⟨RX7, "tell", "(III)I"⟩, prog_1_method_4_code, 5, some FieldType.int)
def mi59 : MI := (⟨RX7, "turn", "(II)I"⟩, prog_1_method_5_code, 4, some FieldType.int)
def mi60 : MI := (⟨RX7, "of", "(II)I"⟩, prog_1_method_6_code, 3, some FieldType.int)
def mi61 : MI := (⟨RX7, "twin", "(I)I"⟩, prog_1_method_7_code, 3, some FieldType.int)
def mi62 : MI := (⟨RX7, "taken", "(II)I"⟩, prog_1_method_8_code, 5, some FieldType.int)
def mi63 : MI := (⟨RX7, "rank", "(I)I"⟩, prog_1_method_9_code, 2, some FieldType.int)
def mi64 : MI := (⟨RX7, "group", "(II)I"⟩, prog_1_method_10_code, 3, some FieldType.int)
def mi65 : MI := (⟨RX7, "pure", "(I)I"⟩, prog_1_method_11_code, 2, some FieldType.int)
def mi66 : MI := (⟨RX7, "cover", "(III)J"⟩, prog_1_method_12_code, 5, some FieldType.long)
def mi67 : MI := (⟨RX7, "box", "()I"⟩, prog_1_method_13_code, 1, some FieldType.int)
def mi68 : MI := (⟨RX7, "least", "(I)I"⟩, prog_1_method_14_code, 2, some FieldType.int)
def mi69 : MI := (⟨RX7, "may", "(I)I"⟩, prog_1_method_15_code, 2, some FieldType.int)
def mi70 : MI := (⟨RX7, "rest", "(III)I"⟩, prog_1_method_16_code, 4, some FieldType.int)
def mi71 : MI := (⟨RX7, "sets", "(I)I"⟩, prog_1_method_17_code, 2, some FieldType.int)
def mi72 : MI := (⟨RX7, "sizes", "(I)J"⟩, prog_1_method_18_code, 2, some FieldType.long)
def mi73 : MI := (⟨RX7, "odds", "(I)J"⟩, prog_1_method_19_code, 2, some FieldType.long)
def mi74 : MI := (⟨RX7, "scale", "(III)I"⟩, prog_1_method_20_code, 4, some FieldType.int)
def mi75 : MI := (⟨RX7, "scaled", "(II)I"⟩, prog_1_method_21_code, 3, some FieldType.int)
def mi76 : MI := (⟨RX7, "alike", "()I"⟩, prog_1_method_22_code, 3, some FieldType.int)
def mi77 : MI := (⟨RX7, "must", "(IIII)J"⟩, prog_1_method_23_code, 5, some FieldType.long)
def mi78 : MI := (⟨RX7, "whole", "(II)I"⟩, prog_1_method_24_code, 7, some FieldType.int)
def mi79 : MI := (⟨RX7, "off", "(I)I"⟩, prog_1_method_25_code, 4, some FieldType.int)
def mi80 : MI := (⟨RX7, "fewest", "(II)I"⟩, prog_1_method_26_code, 3, some FieldType.int)
def mi81 : MI := (⟨RX7, "had", "(I)I"⟩, prog_1_method_27_code, 2, some FieldType.int)
def mi82 : MI := (⟨RX7, "formula", "()I"⟩, prog_1_method_28_code, 2, some FieldType.int)
def mi83 : MI := (⟨RX7, "wrong", "(I)I"⟩, prog_1_method_29_code, 2, some FieldType.int)
def mi84 : MI := (⟨RX7, "sides", "(II)I"⟩, prog_1_method_30_code, 3, some FieldType.int)
def mi85 : MI := (⟨RX7, "mend", "(I)I"⟩, prog_1_method_31_code, 3, some FieldType.int)
def mi86 : MI := (⟨RX7, "lots", "(III)I"⟩, prog_1_method_32_code, 9, some FieldType.int)
def mi87 : MI := (⟨RX7, "list", "(II)I"⟩, prog_1_method_33_code, 3, some FieldType.int)
def mi88 : MI := (⟨RX7, "put", "(III)I"⟩, prog_1_method_34_code, 4, some FieldType.int)
def mi89 : MI := (⟨RX7, "look", "(II)I"⟩, prog_1_method_35_code, 3, some FieldType.int)
def mi90 : MI := (⟨RX7, "lays", "(III)I"⟩, prog_1_method_36_code, 4, some FieldType.int)
def mi91 : MI := (⟨RX7, "judge", "(I)I"⟩, prog_1_method_37_code, 4, some FieldType.int)
def mi92 : MI := (⟨RX7, "undo", "()I"⟩, prog_1_method_38_code, 1, some FieldType.int)
def mi93 : MI := (⟨RX7, "image", "()I"⟩, prog_1_method_39_code, 1, some FieldType.int)
def mi94 : MI := (⟨RX7, "on", "()I"⟩, prog_1_method_40_code, 1, some FieldType.int)
def mi95 : MI := (⟨RX7, "count", "(I)I"⟩, prog_1_method_41_code, 2, some FieldType.int)
def mi96 : MI := (⟨RX7, "refused", "(I)I"⟩, prog_1_method_42_code, 2, some FieldType.int)
def mi97 : MI := (⟨RX7, "refusedFar", "(I)I"⟩, prog_1_method_43_code, 2, some FieldType.int)
def mi98 : MI := (⟨RX7, "refusedFarLong", "(I)J"⟩, prog_1_method_44_code, 2, some FieldType.long)
def mi99 : MI := (⟨RX7, "isQuantity", "(I)Z"⟩, prog_1_method_45_code, 2, some FieldType.boolean)
def mi100 : MI := (⟨RX7, "isUnit", "(I)Z"⟩, prog_1_method_46_code, 1, some FieldType.boolean)
def mi101 : MI := (⟨RX7, "isKind", "(I)Z"⟩, prog_1_method_47_code, 1, some FieldType.boolean)
def mi102 : MI := (⟨RX7, "isPart", "(I)Z"⟩, prog_1_method_48_code, 1, some FieldType.boolean)
def mi103 : MI := (⟨RX7, "isPrime", "(I)Z"⟩, prog_1_method_49_code, 5, some FieldType.boolean)
def mi104 : MI := (⟨RX7, "isGroup", "(I)Z"⟩, prog_1_method_50_code, 2, some FieldType.boolean)
def mi105 : MI := (⟨RX7, "isSet", "(I)Z"⟩, prog_1_method_51_code, 2, some FieldType.boolean)
def mi106 : MI := (⟨RX7, "isOutside", "(II)Z"⟩, prog_1_method_52_code, 3, some FieldType.boolean)
def mi107 : MI := (⟨RX7, "isList", "(I)Z"⟩, prog_1_method_53_code, 1, some FieldType.boolean)
def mi108 : MI := (⟨RX7, "isMissing", "(I)Z"⟩, prog_1_method_54_code, 2, some FieldType.boolean)
def mi109 : MI := (⟨RX7, "isPlace", "(II)Z"⟩, prog_1_method_55_code, 3, some FieldType.boolean)
def mi110 : MI := (⟨RX7, "takeNumbers", "(II[I)Z"⟩, prog_1_method_56_code, 5, some FieldType.boolean)
def mi111 : MI := (⟨RX7, "isUnbalanced", "([I)Z"⟩, prog_1_method_57_code, 7, some FieldType.boolean)
def mi112 : MI := (⟨RX7, "bit", "(II)I"⟩, prog_1_method_58_code, 2, some FieldType.int)
def mi113 : MI := (⟨RX7, "setOf", "([I)I"⟩, prog_1_method_59_code, 3, some FieldType.int)
def mi114 : MI := (⟨RX7, "isPure", "([I)Z"⟩, prog_1_method_60_code, 5, some FieldType.boolean)
def mi115 : MI := (⟨RX7, "greatestDivisor", "(JJ)J"⟩, prog_1_method_61_code, 11, some FieldType.long)
def mi116 : MI := (⟨RX7, "partOf", "(JJI)J"⟩, prog_1_method_62_code, 7, some FieldType.long)
def mi117 : MI := (⟨RX8, "isIn", "(JJJ)Z"⟩, prog_10_method_2_code, 6, some FieldType.boolean)
def mi118 : MI := (⟨RX8, "has", "(II)Z"⟩, prog_10_method_3_code, 2, some FieldType.boolean)
def mi119 : MI := (⟨RX8, "bits", "(I)I"⟩, prog_10_method_4_code, 3, some FieldType.int)
def mi120 : MI := (⟨RX8, "refuse", "(I)I"⟩, prog_10_method_5_code, 2, some FieldType.int)
def mi121 : MI := (⟨RX8, "refuseFar", "(I)I"⟩, prog_10_method_6_code, 2, some FieldType.int)
def mi122 : MI := (⟨RX8, "refuseFarther", "(I)J"⟩, prog_10_method_7_code, 2, some FieldType.long)
def mi123 : MI := (⟨RX8, "common", "(JJ)J"⟩, prog_10_method_8_code, 10, some FieldType.long)
def mi124 : MI := (⟨RX8, "partOf", "(JJI)J"⟩, prog_10_method_9_code, 7, some FieldType.long)
def mi125 : MI := (⟨RX8, "isOne", "(I)Z"⟩, prog_10_method_10_code, 2, some FieldType.boolean)
def mi126 : MI := (⟨RX8, "isUnit", "(I)Z"⟩, prog_10_method_11_code, 1, some FieldType.boolean)
def mi127 : MI := (⟨RX8, "isList", "(I)Z"⟩, prog_10_method_12_code, 1, some FieldType.boolean)
def mi128 : MI := (⟨RX8, "isSet", "(I)Z"⟩, prog_10_method_13_code, 2, some FieldType.boolean)
def mi129 : MI := (⟨RX8, "letter", "(I)I"⟩, prog_10_method_14_code, 2, some FieldType.int)
def mi130 : MI := (⟨RX8, "quantity", "(I)I"⟩, prog_10_method_15_code, 4, some FieldType.int)
def mi131 : MI := (⟨RX8, "changes", "(II)V"⟩, prog_10_method_16_code, 4, none)
def mi132 : MI := (⟨RX8, "tell", "(III)I"⟩, prog_10_method_17_code, 6, some FieldType.int)
def mi133 : MI := (⟨RX8, "turn", "(II)I"⟩, prog_10_method_18_code, 4, some FieldType.int)
def mi134 : MI := (⟨RX8, "powerOf", "(II)I"⟩, prog_10_method_19_code, 4, some FieldType.int)
def mi135 : MI := (⟨RX8, "isPure", "(I)Z"⟩, prog_10_method_20_code, 4, some FieldType.boolean)
def mi136 : MI := (⟨RX8, "isLike", "(II)Z"⟩, prog_10_method_21_code, 5, some FieldType.boolean)
def mi137 : MI := (⟨RX8, "twinOf", "(I)I"⟩, prog_10_method_22_code, 3, some FieldType.int)
def mi138 : MI := (⟨RX8, "of", "(II)I"⟩, prog_10_method_23_code, 3, some FieldType.int)
def mi139 : MI := (⟨RX8, "twin", "(I)I"⟩, prog_10_method_24_code, 2, some FieldType.int)
def mi140 : MI := (⟨RX8, "isUnder", "(II)Z"⟩, prog_10_method_25_code, 2, some FieldType.boolean)
def mi141 : MI := (⟨RX8, "taken", "(II)I"⟩, prog_10_method_26_code, 3, some FieldType.int)
def mi142 : MI := (⟨RX8, "swapRows", "(II)V"⟩, prog_10_method_27_code, 6, none)
def mi143 : MI := (⟨RX8, "clears", "(II)J"⟩, prog_10_method_28_code, 13, some FieldType.long)
def mi144 : MI := (⟨RX8, "lays", "(II)I"⟩, prog_10_method_29_code, 6, some FieldType.int)
def mi145 : MI := (⟨RX8, "isFree", "(I)Z"⟩, prog_10_method_30_code, 2, some FieldType.boolean)
def mi146 : MI := (⟨RX8, "isHad", "(II)Z"⟩, prog_10_method_31_code, 10, some FieldType.boolean)
def mi147 : MI := (⟨RX8, "firm", "()I"⟩, prog_10_method_32_code, 3, some FieldType.int)
def mi148 : MI := (⟨RX8, "loose", "()I"⟩, prog_10_method_33_code, 1, some FieldType.int)
def mi149 : MI := (⟨RX8, "ownOf", "(I)I"⟩, prog_10_method_34_code, 5, some FieldType.int)
def mi150 : MI := (⟨RX8, "groups", "(I)V"⟩, prog_10_method_35_code, 3, none)
def mi151 : MI := (⟨RX8, "different", "()I"⟩, prog_10_method_36_code, 4, some FieldType.int)
def mi152 : MI := (⟨RX8, "rank", "(I)I"⟩, prog_10_method_37_code, 2, some FieldType.int)
def mi153 : MI := (⟨RX8, "group", "(II)I"⟩, prog_10_method_38_code, 4, some FieldType.int)
def mi154 : MI := (⟨RX8, "tells", "(II)Z"⟩, prog_10_method_39_code, 5, some FieldType.boolean)
def mi155 : MI := (⟨RX8, "isToldPure", "()Z"⟩, prog_10_method_40_code, 5, some FieldType.boolean)
def mi156 : MI := (⟨RX8, "pure", "(I)I"⟩, prog_10_method_41_code, 2, some FieldType.int)
def mi157 : MI := (⟨RX8, "cover", "(III)J"⟩, prog_10_method_42_code, 6, some FieldType.long)
def mi158 : MI := (⟨RX8, "box", "()I"⟩, prog_10_method_43_code, 4, some FieldType.int)
def mi159 : MI := (⟨RX8, "isLeast", "(II)Z"⟩, prog_10_method_44_code, 4, some FieldType.boolean)
def mi160 : MI := (⟨RX8, "least", "(I)I"⟩, prog_10_method_45_code, 3, some FieldType.int)
def mi161 : MI := (⟨RX8, "isChosen", "(I)Z"⟩, prog_10_method_46_code, 2, some FieldType.boolean)
def mi162 : MI := (⟨RX8, "may", "(I)I"⟩, prog_10_method_47_code, 2, some FieldType.int)
def mi163 : MI := (⟨RX8, "rest", "(III)I"⟩, prog_10_method_48_code, 5, some FieldType.int)
def mi164 : MI := (⟨RX8, "sizesOf", "(I)J"⟩, prog_10_method_49_code, 6, some FieldType.long)
def mi165 : MI := (⟨RX8, "sizes", "(I)J"⟩, prog_10_method_50_code, 2, some FieldType.long)
def mi166 : MI := (⟨RX8, "chosen", "()I"⟩, prog_10_method_51_code, 3, some FieldType.int)
def mi167 : MI := (⟨RX8, "bestSet", "(Z)I"⟩, prog_10_method_52_code, 8, some FieldType.int)
def mi168 : MI := (⟨RX8, "sets", "(I)I"⟩, prog_10_method_53_code, 2, some FieldType.int)
def mi169 : MI := (⟨RX8, "odds", "(I)J"⟩, prog_10_method_54_code, 5, some FieldType.long)
def mi170 : MI := (⟨RX8, "scale", "(III)I"⟩, prog_10_method_55_code, 4, some FieldType.int)
def mi171 : MI := (⟨RX8, "scaled", "(II)I"⟩, prog_10_method_56_code, 3, some FieldType.int)
def mi172 : MI := (⟨RX8, "isPrime", "(I)Z"⟩, prog_10_method_57_code, 2, some FieldType.boolean)
def mi173 : MI := (⟨RX8, "often", "(II)I"⟩, prog_10_method_58_code, 4, some FieldType.int)
def mi174 : MI := (⟨RX8, "powerIn", "(II)I"⟩, prog_10_method_59_code, 3, some FieldType.int)
def mi175 : MI := (⟨RX8, "weighs", "(II)J"⟩, prog_10_method_60_code, 6, some FieldType.long)
def mi176 : MI := (⟨RX8, "areScaled", "()Z"⟩, prog_10_method_61_code, 3, some FieldType.boolean)
def mi177 : MI := (⟨RX8, "isAlike", "()Z"⟩, prog_10_method_62_code, 3, some FieldType.boolean)
def mi178 : MI := (⟨RX8, "alike", "()I"⟩, prog_10_method_63_code, 3, some FieldType.int)
def mi179 : MI := (⟨RX8, "isScaled", "(I)Z"⟩, prog_10_method_64_code, 4, some FieldType.boolean)
def mi180 : MI := (⟨RX8, "wrongMust", "(II)I"⟩, prog_10_method_65_code, 3, some FieldType.int)
def mi181 : MI := (⟨RX8, "must", "(IIII)J"⟩, prog_10_method_66_code, 7, some FieldType.long)
def mi182 : MI := (⟨RX8, "whole", "(II)I"⟩, prog_10_method_67_code, 6, some FieldType.int)
def mi183 : MI := (⟨RX8, "off", "(I)I"⟩, prog_10_method_68_code, 4, some FieldType.int)
def mi184 : MI := (⟨RX8, "powerBy", "(II)I"⟩, prog_10_method_69_code, 6, some FieldType.int)
def mi185 : MI := (⟨RX8, "isWanted", "(I)Z"⟩, prog_10_method_70_code, 4, some FieldType.boolean)
def mi186 : MI := (⟨RX8, "fills", "(II)Z"⟩, prog_10_method_71_code, 4, some FieldType.boolean)
def mi187 : MI := (⟨RX8, "fewestOf", "(I)I"⟩, prog_10_method_72_code, 3, some FieldType.int)
def mi188 : MI := (⟨RX8, "fewest", "(II)I"⟩, prog_10_method_73_code, 4, some FieldType.int)
def mi189 : MI := (⟨RX8, "keyOf", "(I)J"⟩, prog_10_method_74_code, 5, some FieldType.long)
def mi190 : MI := (⟨RX8, "differs", "(IJ)I"⟩, prog_10_method_75_code, 5, some FieldType.int)
def mi191 : MI := (⟨RX8, "adds", "(III)I"⟩, prog_10_method_76_code, 6, some FieldType.int)
def mi192 : MI := (⟨RX8, "had", "(I)I"⟩, prog_10_method_77_code, 4, some FieldType.int)
def mi193 : MI := (⟨RX8, "here", "()I"⟩, prog_10_method_78_code, 1, some FieldType.int)
def mi194 : MI := (⟨RX8, "isSigned", "(II)Z"⟩, prog_10_method_79_code, 3, some FieldType.boolean)
def mi195 : MI := (⟨RX8, "isDigit", "()Z"⟩, prog_10_method_80_code, 1, some FieldType.boolean)
def mi196 : MI := (⟨RX8, "readsClosed", "()Z"⟩, prog_10_method_81_code, 1, some FieldType.boolean)
def mi197 : MI := (⟨RX8, "readsAtom", "()Z"⟩, prog_10_method_82_code, 2, some FieldType.boolean)
def mi198 : MI := (⟨RX8, "readsPart", "()Z"⟩, prog_10_method_83_code, 2, some FieldType.boolean)
def mi199 : MI := (⟨RX8, "readsTerm", "()Z"⟩, prog_10_method_84_code, 1, some FieldType.boolean)
def mi200 : MI := (⟨RX8, "readsSum", "()Z"⟩, prog_10_method_85_code, 1, some FieldType.boolean)
def mi201 : MI := (⟨RX8, "readsBoth", "()Z"⟩, prog_10_method_86_code, 1, some FieldType.boolean)
def mi202 : MI := (⟨RX8, "formula", "()I"⟩, prog_10_method_87_code, 3, some FieldType.int)
def mi203 : MI := (⟨RX8, "sign", "()I"⟩, prog_10_method_88_code, 1, some FieldType.int)
def mi204 : MI := (⟨RX8, "sets", "(II)V"⟩, prog_10_method_89_code, 4, none)
def mi205 : MI := (⟨RX8, "isPureAt", "(I)Z"⟩, prog_10_method_90_code, 4, some FieldType.boolean)
def mi206 : MI := (⟨RX8, "atom", "(I)V"⟩, prog_10_method_91_code, 5, none)
def mi207 : MI := (⟨RX8, "part", "(I)V"⟩, prog_10_method_92_code, 4, none)
def mi208 : MI := (⟨RX8, "term", "(I)V"⟩, prog_10_method_93_code, 4, none)
def mi209 : MI := (⟨RX8, "sum", "(I)V"⟩, prog_10_method_94_code, 4, none)
def mi210 : MI := (⟨RX8, "goesThrough", "()V"⟩, prog_10_method_95_code, 3, none)
def mi211 : MI := (⟨RX8, "wrong", "(I)I"⟩, prog_10_method_96_code, 5, some FieldType.int)
def mi212 : MI := (⟨RX8, "sides", "(II)I"⟩, prog_10_method_97_code, 3, some FieldType.int)
def mi213 : MI := (⟨RX8, "mend", "(I)I"⟩, prog_10_method_98_code, 3, some FieldType.int)
def mi214 : MI := (⟨RX8, "draws", "(I)I"⟩, prog_10_method_99_code, 2, some FieldType.int)
def mi215 : MI := (⟨RX8, "lots", "(III)I"⟩, prog_10_method_100_code, 10, some FieldType.int)
def mi216 : MI := (⟨RX8, "isCell", "(II)Z"⟩, prog_10_method_101_code, 3, some FieldType.boolean)
def mi217 : MI := (⟨RX8, "list", "(II)I"⟩, prog_10_method_102_code, 4, some FieldType.int)
def mi218 : MI := (⟨RX8, "wrongCell", "(II)I"⟩, prog_10_method_103_code, 3, some FieldType.int)
def mi219 : MI := (⟨RX8, "put", "(III)I"⟩, prog_10_method_104_code, 5, some FieldType.int)
def mi220 : MI := (⟨RX8, "look", "(II)I"⟩, prog_10_method_105_code, 4, some FieldType.int)
def mi221 : MI := (⟨RX8, "lays", "(III)I"⟩, prog_10_method_106_code, 6, some FieldType.int)
def mi222 : MI := (⟨RX8, "judge", "(I)I"⟩, prog_10_method_107_code, 3, some FieldType.int)
def mi223 : MI := (⟨RX8, "undo", "()I"⟩, prog_10_method_108_code, 2, some FieldType.int)
def mi224 : MI := (⟨RX8, "image", "()I"⟩, prog_10_method_109_code, 2, some FieldType.int)
def mi225 : MI := (⟨RX8, "on", "()I"⟩, prog_10_method_110_code, 2, some FieldType.int)
def mi226 : MI := (⟨RX8, "scales", "()I"⟩, prog_10_method_111_code, 3, some FieldType.int)
def mi227 : MI := (⟨RX8, "count", "(I)I"⟩, prog_10_method_112_code, 2, some FieldType.int)
def mi228 : MI := (⟨RJ6, "bitCount", "(I)I"⟩, prog_11_method_49_code, 1, some FieldType.int)
def mi229 : MI := (⟨RJ7, "fill", "([JJ)V"⟩, prog_14_method_101_code, 5, none)
def mi230 : MI := (⟨RJ7, "fill", "([II)V"⟩, prog_14_method_103_code, 4, none)
def miL : List MI := [mi0, mi1, mi2, mi3, mi4, mi5, mi6, mi7, mi8, mi9, mi10, mi11, mi12, mi13, mi14, mi15, mi16, mi17, mi18, mi19, mi20, mi21, mi22, mi23, mi24, mi25, mi26, mi27, mi28, mi29, mi30, mi31, mi32, mi33, mi34, mi35, mi36, mi37, mi38, mi39, mi40, mi41, mi42, mi43, mi44, mi45, mi46, mi47, mi48, mi49, mi50, mi51, mi52, mi53, mi54, mi55, mi56, mi57, mi58, mi59, mi60, mi61, mi62, mi63, mi64, mi65, mi66, mi67, mi68, mi69, mi70, mi71, mi72, mi73, mi74, mi75, mi76, mi77, mi78, mi79, mi80, mi81, mi82, mi83, mi84, mi85, mi86, mi87, mi88, mi89, mi90, mi91, mi92, mi93, mi94, mi95, mi96, mi97, mi98, mi99, mi100, mi101, mi102, mi103, mi104, mi105, mi106, mi107, mi108, mi109, mi110, mi111, mi112, mi113, mi114, mi115, mi116, mi117, mi118, mi119, mi120, mi121, mi122, mi123, mi124, mi125, mi126, mi127, mi128, mi129, mi130, mi131, mi132, mi133, mi134, mi135, mi136, mi137, mi138, mi139, mi140, mi141, mi142, mi143, mi144, mi145, mi146, mi147, mi148, mi149, mi150, mi151, mi152, mi153, mi154, mi155, mi156, mi157, mi158, mi159, mi160, mi161, mi162, mi163, mi164, mi165, mi166, mi167, mi168, mi169, mi170, mi171, mi172, mi173, mi174, mi175, mi176, mi177, mi178, mi179, mi180, mi181, mi182, mi183, mi184, mi185, mi186, mi187, mi188, mi189, mi190, mi191, mi192, mi193, mi194, mi195, mi196, mi197, mi198, mi199, mi200, mi201, mi202, mi203, mi204, mi205, mi206, mi207, mi208, mi209, mi210, mi211, mi212, mi213, mi214, mi215, mi216, mi217, mi218, mi219, mi220, mi221, mi222, mi223, mi224, mi225, mi226, mi227, mi228, mi229, mi230]
def MT (k : Nat) : MI := miL.getD k mi0
theorem uw0 : ∀ w ∈ u_ws RX0 TX0 9, w ∈ TB := tb_in _ [267, 269, 271, 273, 275, 277, 279, 281, 283] (by decide +kernel) (by decide +kernel)
theorem uw1 : ∀ w ∈ u_ws RX1 TX1 6, w ∈ TB := tb_in _ [202, 204, 206, 208, 210, 212] (by decide +kernel) (by decide +kernel)
theorem uw2 : ∀ w ∈ u_ws RX2 TX2 3, w ∈ TB := tb_in _ [170, 172, 174] (by decide +kernel) (by decide +kernel)
theorem uw3 : ∀ w ∈ u_ws RX3 TX3 8, w ∈ TB := tb_in _ [141, 143, 145, 147, 149, 151, 153, 155] (by decide +kernel) (by decide +kernel)
theorem uw4 : ∀ w ∈ u_ws RX4 TX4 13, w ∈ TB := tb_in _ [341, 343, 345, 347, 349, 351, 353, 355, 357, 359, 361, 363, 365] (by decide +kernel) (by decide +kernel)
theorem uw5 : ∀ w ∈ u_ws RX5 TX5 7, w ∈ TB := tb_in _ [301, 303, 305, 307, 309, 311, 313] (by decide +kernel) (by decide +kernel)
theorem uw6 : ∀ w ∈ u_ws RX6 TX6 5, w ∈ TB := tb_in _ [234, 236, 238, 240, 242] (by decide +kernel) (by decide +kernel)
theorem uw7 : ∀ w ∈ u_ws RX7 TX7 16, w ∈ TB := tb_in _ [385, 387, 389, 391, 393, 395, 397, 399, 401, 403, 405, 407, 409, 411, 413, 415] (by decide +kernel) (by decide +kernel)
theorem uw8 : ∀ w ∈ u_ws RX8 TX8 27, w ∈ TB := tb_in _ [974, 976, 978, 980, 982, 984, 986, 988, 990, 992, 994, 996, 998, 1000, 1002, 1004, 1006, 1008, 1010, 1012, 1014, 1016, 1018, 1020, 1022, 1024, 1026] (by decide +kernel) (by decide +kernel)
/-! what may be called -/
theorem cal0 : CalOK MT 0 1 := ⟨by decide +kernel, tb_3 76 (by decide +kernel) rfl, tb_1 6 (by decide +kernel) rfl, ⟨by decide +kernel, by decide +kernel⟩, by decide +kernel⟩
theorem cal1 : CalOK MT 1 0 := ⟨by decide +kernel, tb_3 108 (by decide +kernel) rfl, tb_1 6 (by decide +kernel) rfl, ⟨by decide +kernel, by decide +kernel⟩, by decide +kernel⟩
theorem cal2 : CalOK MT 2 0 := ⟨by decide +kernel, tb_3 99 (by decide +kernel) rfl, tb_1 6 (by decide +kernel) rfl, ⟨by decide +kernel, by decide +kernel⟩, by decide +kernel⟩
theorem cal3 : CalOK MT 3 1 := ⟨by decide +kernel, tb_3 104 (by decide +kernel) rfl, tb_1 6 (by decide +kernel) rfl, ⟨by decide +kernel, by decide +kernel⟩, by decide +kernel⟩
theorem cal4 : CalOK MT 4 3 := ⟨by decide +kernel, tb_2 139 (by decide +kernel) rfl, tb_1 5 (by decide +kernel) rfl, ⟨by decide +kernel, by decide +kernel⟩, by decide +kernel⟩
theorem cal5 : CalOK MT 5 1 := ⟨by decide +kernel, tb_2 146 (by decide +kernel) rfl, tb_1 5 (by decide +kernel) rfl, ⟨by decide +kernel, by decide +kernel⟩, by decide +kernel⟩
theorem cal6 : CalOK MT 6 1 := ⟨by decide +kernel, tb_2 150 (by decide +kernel) rfl, tb_1 5 (by decide +kernel) rfl, ⟨by decide +kernel, by decide +kernel⟩, by decide +kernel⟩
theorem cal7 : CalOK MT 7 2 := ⟨by decide +kernel, tb_2 225 (by decide +kernel) rfl, tb_1 5 (by decide +kernel) rfl, ⟨by decide +kernel, by decide +kernel⟩, by decide +kernel⟩
theorem cal8 : CalOK MT 8 4 := ⟨by decide +kernel, tb_2 170 (by decide +kernel) rfl, tb_1 3 (by decide +kernel) rfl, ⟨by decide +kernel, by decide +kernel⟩, by decide +kernel⟩
theorem cal9 : CalOK MT 9 0 := ⟨by decide +kernel, tb_2 115 (by decide +kernel) rfl, tb_1 3 (by decide +kernel) rfl, ⟨by decide +kernel, by decide +kernel⟩, by decide +kernel⟩
theorem cal10 : CalOK MT 10 1 := ⟨by decide +kernel, tb_4 111 (by decide +kernel) rfl, tb_1 3 (by decide +kernel) rfl, ⟨by decide +kernel, by decide +kernel⟩, by decide +kernel⟩
theorem cal11 : CalOK MT 11 1 := ⟨by decide +kernel, tb_4 122 (by decide +kernel) rfl, tb_1 2 (by decide +kernel) rfl, ⟨by decide +kernel, by decide +kernel⟩, by decide +kernel⟩
theorem cal12 : CalOK MT 12 1 := ⟨by decide +kernel, tb_2 108 (by decide +kernel) rfl, tb_1 2 (by decide +kernel) rfl, ⟨by decide +kernel, by decide +kernel⟩, by decide +kernel⟩
theorem cal13 : CalOK MT 13 3 := ⟨by decide +kernel, tb_4 43 (by decide +kernel) rfl, tb_1 2 (by decide +kernel) rfl, ⟨by decide +kernel, by decide +kernel⟩, by decide +kernel⟩
theorem cal14 : CalOK MT 14 0 := ⟨by decide +kernel, tb_4 53 (by decide +kernel) rfl, tb_1 2 (by decide +kernel) rfl, ⟨by decide +kernel, by decide +kernel⟩, by decide +kernel⟩
theorem cal15 : CalOK MT 15 1 := ⟨by decide +kernel, tb_3 132 (by decide +kernel) rfl, tb_1 2 (by decide +kernel) rfl, ⟨by decide +kernel, by decide +kernel⟩, by decide +kernel⟩
theorem cal16 : CalOK MT 16 0 := ⟨by decide +kernel, tb_3 147 (by decide +kernel) rfl, tb_1 2 (by decide +kernel) rfl, ⟨by decide +kernel, by decide +kernel⟩, by decide +kernel⟩
theorem cal17 : CalOK MT 17 1 := ⟨by decide +kernel, tb_3 143 (by decide +kernel) rfl, tb_1 2 (by decide +kernel) rfl, ⟨by decide +kernel, by decide +kernel⟩, by decide +kernel⟩
theorem cal18 : CalOK MT 18 3 := ⟨by decide +kernel, tb_3 158 (by decide +kernel) rfl, tb_1 2 (by decide +kernel) rfl, ⟨by decide +kernel, by decide +kernel⟩, by decide +kernel⟩
theorem cal19 : CalOK MT 19 2 := ⟨by decide +kernel, tb_3 162 (by decide +kernel) rfl, tb_1 2 (by decide +kernel) rfl, ⟨by decide +kernel, by decide +kernel⟩, by decide +kernel⟩
theorem cal20 : CalOK MT 20 2 := ⟨by decide +kernel, tb_3 221 (by decide +kernel) rfl, tb_1 8 (by decide +kernel) rfl, ⟨by decide +kernel, by decide +kernel⟩, by decide +kernel⟩
theorem cal21 : CalOK MT 21 1 := ⟨by decide +kernel, tb_3 228 (by decide +kernel) rfl, tb_1 8 (by decide +kernel) rfl, ⟨by decide +kernel, by decide +kernel⟩, by decide +kernel⟩
theorem cal22 : CalOK MT 22 1 := ⟨by decide +kernel, tb_3 232 (by decide +kernel) rfl, tb_1 8 (by decide +kernel) rfl, ⟨by decide +kernel, by decide +kernel⟩, by decide +kernel⟩
theorem cal23 : CalOK MT 23 2 := ⟨by decide +kernel, tb_3 236 (by decide +kernel) rfl, tb_1 8 (by decide +kernel) rfl, ⟨by decide +kernel, by decide +kernel⟩, by decide +kernel⟩
theorem cal24 : CalOK MT 24 1 := ⟨by decide +kernel, tb_4 0 (by decide +kernel) rfl, tb_1 8 (by decide +kernel) rfl, ⟨by decide +kernel, by decide +kernel⟩, by decide +kernel⟩
theorem cal25 : CalOK MT 25 2 := ⟨by decide +kernel, tb_4 15 (by decide +kernel) rfl, tb_1 8 (by decide +kernel) rfl, ⟨by decide +kernel, by decide +kernel⟩, by decide +kernel⟩
theorem cal26 : CalOK MT 26 0 := ⟨by decide +kernel, tb_4 11 (by decide +kernel) rfl, tb_1 8 (by decide +kernel) rfl, ⟨by decide +kernel, by decide +kernel⟩, by decide +kernel⟩
theorem cal27 : CalOK MT 27 0 := ⟨by decide +kernel, tb_4 32 (by decide +kernel) rfl, tb_1 8 (by decide +kernel) rfl, ⟨by decide +kernel, by decide +kernel⟩, by decide +kernel⟩
theorem cal28 : CalOK MT 28 0 := ⟨by decide +kernel, tb_4 4 (by decide +kernel) rfl, tb_1 8 (by decide +kernel) rfl, ⟨by decide +kernel, by decide +kernel⟩, by decide +kernel⟩
theorem cal29 : CalOK MT 29 2 := ⟨by decide +kernel, tb_4 36 (by decide +kernel) rfl, tb_1 8 (by decide +kernel) rfl, ⟨by decide +kernel, by decide +kernel⟩, by decide +kernel⟩
theorem cal30 : CalOK MT 30 1 := ⟨by decide +kernel, tb_4 7 (by decide +kernel) rfl, tb_1 8 (by decide +kernel) rfl, ⟨by decide +kernel, by decide +kernel⟩, by decide +kernel⟩
theorem cal31 : CalOK MT 31 1 := ⟨by decide +kernel, tb_4 19 (by decide +kernel) rfl, tb_1 8 (by decide +kernel) rfl, ⟨by decide +kernel, by decide +kernel⟩, by decide +kernel⟩
theorem cal32 : CalOK MT 32 0 := ⟨by decide +kernel, tb_4 23 (by decide +kernel) rfl, tb_1 8 (by decide +kernel) rfl, ⟨by decide +kernel, by decide +kernel⟩, by decide +kernel⟩
theorem cal33 : CalOK MT 33 1 := ⟨by decide +kernel, tb_4 28 (by decide +kernel) rfl, tb_1 8 (by decide +kernel) rfl, ⟨by decide +kernel, by decide +kernel⟩, by decide +kernel⟩
theorem cal34 : CalOK MT 34 2 := ⟨by decide +kernel, tb_4 39 (by decide +kernel) rfl, tb_1 8 (by decide +kernel) rfl, ⟨by decide +kernel, by decide +kernel⟩, by decide +kernel⟩
theorem cal35 : CalOK MT 35 1 := ⟨by decide +kernel, tb_4 69 (by decide +kernel) rfl, tb_1 8 (by decide +kernel) rfl, ⟨by decide +kernel, by decide +kernel⟩, by decide +kernel⟩
theorem cal36 : CalOK MT 36 0 := ⟨by decide +kernel, tb_4 57 (by decide +kernel) rfl, tb_1 8 (by decide +kernel) rfl, ⟨by decide +kernel, by decide +kernel⟩, by decide +kernel⟩
theorem cal37 : CalOK MT 37 0 := ⟨by decide +kernel, tb_4 61 (by decide +kernel) rfl, tb_1 8 (by decide +kernel) rfl, ⟨by decide +kernel, by decide +kernel⟩, by decide +kernel⟩
theorem cal38 : CalOK MT 38 0 := ⟨by decide +kernel, tb_3 47 (by decide +kernel) rfl, tb_1 7 (by decide +kernel) rfl, ⟨by decide +kernel, by decide +kernel⟩, by decide +kernel⟩
theorem cal39 : CalOK MT 39 4 := ⟨by decide +kernel, tb_3 50 (by decide +kernel) rfl, tb_1 7 (by decide +kernel) rfl, ⟨by decide +kernel, by decide +kernel⟩, by decide +kernel⟩
theorem cal40 : CalOK MT 40 0 := ⟨by decide +kernel, tb_3 58 (by decide +kernel) rfl, tb_1 7 (by decide +kernel) rfl, ⟨by decide +kernel, by decide +kernel⟩, by decide +kernel⟩
theorem cal41 : CalOK MT 41 6 := ⟨by decide +kernel, tb_3 63 (by decide +kernel) rfl, tb_1 7 (by decide +kernel) rfl, ⟨by decide +kernel, by decide +kernel⟩, by decide +kernel⟩
theorem cal42 : CalOK MT 42 1 := ⟨by decide +kernel, tb_3 201 (by decide +kernel) rfl, tb_1 7 (by decide +kernel) rfl, ⟨by decide +kernel, by decide +kernel⟩, by decide +kernel⟩
theorem cal43 : CalOK MT 43 6 := ⟨by decide +kernel, tb_3 208 (by decide +kernel) rfl, tb_1 7 (by decide +kernel) rfl, ⟨by decide +kernel, by decide +kernel⟩, by decide +kernel⟩
theorem cal44 : CalOK MT 44 2 := ⟨by decide +kernel, tb_3 211 (by decide +kernel) rfl, tb_1 7 (by decide +kernel) rfl, ⟨by decide +kernel, by decide +kernel⟩, by decide +kernel⟩
theorem cal45 : CalOK MT 45 2 := ⟨by decide +kernel, tb_3 185 (by decide +kernel) rfl, tb_1 7 (by decide +kernel) rfl, ⟨by decide +kernel, by decide +kernel⟩, by decide +kernel⟩
theorem cal46 : CalOK MT 46 1 := ⟨by decide +kernel, tb_3 189 (by decide +kernel) rfl, tb_1 7 (by decide +kernel) rfl, ⟨by decide +kernel, by decide +kernel⟩, by decide +kernel⟩
theorem cal47 : CalOK MT 47 6 := ⟨by decide +kernel, tb_3 193 (by decide +kernel) rfl, tb_1 7 (by decide +kernel) rfl, ⟨by decide +kernel, by decide +kernel⟩, by decide +kernel⟩
theorem cal48 : CalOK MT 48 1 := ⟨by decide +kernel, tb_2 119 (by decide +kernel) rfl, tb_1 4 (by decide +kernel) rfl, ⟨by decide +kernel, by decide +kernel⟩, by decide +kernel⟩
theorem cal49 : CalOK MT 49 3 := ⟨by decide +kernel, tb_2 122 (by decide +kernel) rfl, tb_1 4 (by decide +kernel) rfl, ⟨by decide +kernel, by decide +kernel⟩, by decide +kernel⟩
theorem cal50 : CalOK MT 50 1 := ⟨by decide +kernel, tb_2 134 (by decide +kernel) rfl, tb_1 4 (by decide +kernel) rfl, ⟨by decide +kernel, by decide +kernel⟩, by decide +kernel⟩
theorem cal51 : CalOK MT 51 0 := ⟨by decide +kernel, tb_2 185 (by decide +kernel) rfl, tb_1 4 (by decide +kernel) rfl, ⟨by decide +kernel, by decide +kernel⟩, by decide +kernel⟩
theorem cal52 : CalOK MT 52 1 := ⟨by decide +kernel, tb_2 219 (by decide +kernel) rfl, tb_1 4 (by decide +kernel) rfl, ⟨by decide +kernel, by decide +kernel⟩, by decide +kernel⟩
theorem cal53 : CalOK MT 53 0 := ⟨by decide +kernel, tb_2 207 (by decide +kernel) rfl, tb_1 4 (by decide +kernel) rfl, ⟨by decide +kernel, by decide +kernel⟩, by decide +kernel⟩
theorem cal54 : CalOK MT 54 1 := ⟨by decide +kernel, tb_3 16 (by decide +kernel) rfl, tb_1 4 (by decide +kernel) rfl, ⟨by decide +kernel, by decide +kernel⟩, by decide +kernel⟩
theorem cal55 : CalOK MT 55 1 := ⟨by decide +kernel, tb_3 20 (by decide +kernel) rfl, tb_1 4 (by decide +kernel) rfl, ⟨by decide +kernel, by decide +kernel⟩, by decide +kernel⟩
theorem cal56 : CalOK MT 56 1 := ⟨by decide +kernel, tb_2 93 (by decide +kernel) rfl, tb_1 1 (by decide +kernel) rfl, ⟨by decide +kernel, by decide +kernel⟩, by decide +kernel⟩
theorem cal57 : CalOK MT 57 1 := ⟨by decide +kernel, tb_2 101 (by decide +kernel) rfl, tb_1 1 (by decide +kernel) rfl, ⟨by decide +kernel, by decide +kernel⟩, by decide +kernel⟩
theorem cal58 : CalOK MT 58 3 := ⟨by decide +kernel, tb_2 154 (by decide +kernel) rfl, tb_1 1 (by decide +kernel) rfl, ⟨by decide +kernel, by decide +kernel⟩, by decide +kernel⟩
theorem cal59 : CalOK MT 59 2 := ⟨by decide +kernel, tb_2 177 (by decide +kernel) rfl, tb_1 1 (by decide +kernel) rfl, ⟨by decide +kernel, by decide +kernel⟩, by decide +kernel⟩
theorem cal60 : CalOK MT 60 2 := ⟨by decide +kernel, tb_2 181 (by decide +kernel) rfl, tb_1 1 (by decide +kernel) rfl, ⟨by decide +kernel, by decide +kernel⟩, by decide +kernel⟩
theorem cal61 : CalOK MT 61 1 := ⟨by decide +kernel, tb_2 193 (by decide +kernel) rfl, tb_1 1 (by decide +kernel) rfl, ⟨by decide +kernel, by decide +kernel⟩, by decide +kernel⟩
theorem cal62 : CalOK MT 62 2 := ⟨by decide +kernel, tb_2 197 (by decide +kernel) rfl, tb_1 1 (by decide +kernel) rfl, ⟨by decide +kernel, by decide +kernel⟩, by decide +kernel⟩
theorem cal63 : CalOK MT 63 1 := ⟨by decide +kernel, tb_2 203 (by decide +kernel) rfl, tb_1 1 (by decide +kernel) rfl, ⟨by decide +kernel, by decide +kernel⟩, by decide +kernel⟩
theorem cal64 : CalOK MT 64 2 := ⟨by decide +kernel, tb_2 211 (by decide +kernel) rfl, tb_1 1 (by decide +kernel) rfl, ⟨by decide +kernel, by decide +kernel⟩, by decide +kernel⟩
theorem cal65 : CalOK MT 65 1 := ⟨by decide +kernel, tb_2 237 (by decide +kernel) rfl, tb_1 1 (by decide +kernel) rfl, ⟨by decide +kernel, by decide +kernel⟩, by decide +kernel⟩
theorem cal66 : CalOK MT 66 3 := ⟨by decide +kernel, tb_3 27 (by decide +kernel) rfl, tb_1 1 (by decide +kernel) rfl, ⟨by decide +kernel, by decide +kernel⟩, by decide +kernel⟩
theorem cal67 : CalOK MT 67 0 := ⟨by decide +kernel, tb_3 43 (by decide +kernel) rfl, tb_1 1 (by decide +kernel) rfl, ⟨by decide +kernel, by decide +kernel⟩, by decide +kernel⟩
theorem cal68 : CalOK MT 68 1 := ⟨by decide +kernel, tb_3 54 (by decide +kernel) rfl, tb_1 1 (by decide +kernel) rfl, ⟨by decide +kernel, by decide +kernel⟩, by decide +kernel⟩
theorem cal69 : CalOK MT 69 1 := ⟨by decide +kernel, tb_3 68 (by decide +kernel) rfl, tb_1 1 (by decide +kernel) rfl, ⟨by decide +kernel, by decide +kernel⟩, by decide +kernel⟩
theorem cal70 : CalOK MT 70 3 := ⟨by decide +kernel, tb_3 87 (by decide +kernel) rfl, tb_1 1 (by decide +kernel) rfl, ⟨by decide +kernel, by decide +kernel⟩, by decide +kernel⟩
theorem cal71 : CalOK MT 71 1 := ⟨by decide +kernel, tb_3 95 (by decide +kernel) rfl, tb_1 1 (by decide +kernel) rfl, ⟨by decide +kernel, by decide +kernel⟩, by decide +kernel⟩
theorem cal72 : CalOK MT 72 1 := ⟨by decide +kernel, tb_3 115 (by decide +kernel) rfl, tb_1 1 (by decide +kernel) rfl, ⟨by decide +kernel, by decide +kernel⟩, by decide +kernel⟩
theorem cal73 : CalOK MT 73 1 := ⟨by decide +kernel, tb_3 120 (by decide +kernel) rfl, tb_1 1 (by decide +kernel) rfl, ⟨by decide +kernel, by decide +kernel⟩, by decide +kernel⟩
theorem cal74 : CalOK MT 74 3 := ⟨by decide +kernel, tb_3 124 (by decide +kernel) rfl, tb_1 1 (by decide +kernel) rfl, ⟨by decide +kernel, by decide +kernel⟩, by decide +kernel⟩
theorem cal75 : CalOK MT 75 2 := ⟨by decide +kernel, tb_3 128 (by decide +kernel) rfl, tb_1 1 (by decide +kernel) rfl, ⟨by decide +kernel, by decide +kernel⟩, by decide +kernel⟩
theorem cal76 : CalOK MT 76 0 := ⟨by decide +kernel, tb_3 136 (by decide +kernel) rfl, tb_1 1 (by decide +kernel) rfl, ⟨by decide +kernel, by decide +kernel⟩, by decide +kernel⟩
theorem cal77 : CalOK MT 77 4 := ⟨by decide +kernel, tb_3 166 (by decide +kernel) rfl, tb_1 1 (by decide +kernel) rfl, ⟨by decide +kernel, by decide +kernel⟩, by decide +kernel⟩
theorem cal78 : CalOK MT 78 2 := ⟨by decide +kernel, tb_3 173 (by decide +kernel) rfl, tb_1 1 (by decide +kernel) rfl, ⟨by decide +kernel, by decide +kernel⟩, by decide +kernel⟩
theorem cal79 : CalOK MT 79 1 := ⟨by decide +kernel, tb_3 177 (by decide +kernel) rfl, tb_1 1 (by decide +kernel) rfl, ⟨by decide +kernel, by decide +kernel⟩, by decide +kernel⟩
theorem cal80 : CalOK MT 80 2 := ⟨by decide +kernel, tb_3 181 (by decide +kernel) rfl, tb_1 1 (by decide +kernel) rfl, ⟨by decide +kernel, by decide +kernel⟩, by decide +kernel⟩
theorem cal81 : CalOK MT 81 1 := ⟨by decide +kernel, tb_3 197 (by decide +kernel) rfl, tb_1 1 (by decide +kernel) rfl, ⟨by decide +kernel, by decide +kernel⟩, by decide +kernel⟩
theorem cal82 : CalOK MT 82 0 := ⟨by decide +kernel, tb_3 217 (by decide +kernel) rfl, tb_1 1 (by decide +kernel) rfl, ⟨by decide +kernel, by decide +kernel⟩, by decide +kernel⟩
theorem cal83 : CalOK MT 83 1 := ⟨by decide +kernel, tb_4 49 (by decide +kernel) rfl, tb_1 1 (by decide +kernel) rfl, ⟨by decide +kernel, by decide +kernel⟩, by decide +kernel⟩
theorem cal84 : CalOK MT 84 2 := ⟨by decide +kernel, tb_4 65 (by decide +kernel) rfl, tb_1 1 (by decide +kernel) rfl, ⟨by decide +kernel, by decide +kernel⟩, by decide +kernel⟩
theorem cal85 : CalOK MT 85 1 := ⟨by decide +kernel, tb_4 73 (by decide +kernel) rfl, tb_1 1 (by decide +kernel) rfl, ⟨by decide +kernel, by decide +kernel⟩, by decide +kernel⟩
theorem cal86 : CalOK MT 86 3 := ⟨by decide +kernel, tb_4 77 (by decide +kernel) rfl, tb_1 1 (by decide +kernel) rfl, ⟨by decide +kernel, by decide +kernel⟩, by decide +kernel⟩
theorem cal87 : CalOK MT 87 2 := ⟨by decide +kernel, tb_4 85 (by decide +kernel) rfl, tb_1 1 (by decide +kernel) rfl, ⟨by decide +kernel, by decide +kernel⟩, by decide +kernel⟩
theorem cal88 : CalOK MT 88 3 := ⟨by decide +kernel, tb_4 90 (by decide +kernel) rfl, tb_1 1 (by decide +kernel) rfl, ⟨by decide +kernel, by decide +kernel⟩, by decide +kernel⟩
theorem cal89 : CalOK MT 89 2 := ⟨by decide +kernel, tb_4 94 (by decide +kernel) rfl, tb_1 1 (by decide +kernel) rfl, ⟨by decide +kernel, by decide +kernel⟩, by decide +kernel⟩
theorem cal90 : CalOK MT 90 3 := ⟨by decide +kernel, tb_4 98 (by decide +kernel) rfl, tb_1 1 (by decide +kernel) rfl, ⟨by decide +kernel, by decide +kernel⟩, by decide +kernel⟩
theorem cal91 : CalOK MT 91 1 := ⟨by decide +kernel, tb_4 103 (by decide +kernel) rfl, tb_1 1 (by decide +kernel) rfl, ⟨by decide +kernel, by decide +kernel⟩, by decide +kernel⟩
theorem cal92 : CalOK MT 92 0 := ⟨by decide +kernel, tb_4 107 (by decide +kernel) rfl, tb_1 1 (by decide +kernel) rfl, ⟨by decide +kernel, by decide +kernel⟩, by decide +kernel⟩
theorem cal93 : CalOK MT 93 0 := ⟨by decide +kernel, tb_4 118 (by decide +kernel) rfl, tb_1 1 (by decide +kernel) rfl, ⟨by decide +kernel, by decide +kernel⟩, by decide +kernel⟩
theorem cal94 : CalOK MT 94 0 := ⟨by decide +kernel, tb_4 127 (by decide +kernel) rfl, tb_1 1 (by decide +kernel) rfl, ⟨by decide +kernel, by decide +kernel⟩, by decide +kernel⟩
theorem cal95 : CalOK MT 95 1 := ⟨by decide +kernel, tb_4 131 (by decide +kernel) rfl, tb_1 1 (by decide +kernel) rfl, ⟨by decide +kernel, by decide +kernel⟩, by decide +kernel⟩
theorem cal96 : CalOK MT 96 1 := ⟨by decide +kernel, tb_2 97 (by decide +kernel) rfl, tb_1 1 (by decide +kernel) rfl, ⟨by decide +kernel, by decide +kernel⟩, by decide +kernel⟩
theorem cal97 : CalOK MT 97 1 := ⟨by decide +kernel, tb_2 165 (by decide +kernel) rfl, tb_1 1 (by decide +kernel) rfl, ⟨by decide +kernel, by decide +kernel⟩, by decide +kernel⟩
theorem cal98 : CalOK MT 98 1 := ⟨by decide +kernel, tb_3 31 (by decide +kernel) rfl, tb_1 1 (by decide +kernel) rfl, ⟨by decide +kernel, by decide +kernel⟩, by decide +kernel⟩
theorem cal99 : CalOK MT 99 1 := ⟨by decide +kernel, tb_2 158 (by decide +kernel) rfl, tb_1 1 (by decide +kernel) rfl, ⟨by decide +kernel, by decide +kernel⟩, by decide +kernel⟩
theorem cal100 : CalOK MT 100 1 := ⟨by decide +kernel, tb_2 161 (by decide +kernel) rfl, tb_1 1 (by decide +kernel) rfl, ⟨by decide +kernel, by decide +kernel⟩, by decide +kernel⟩
theorem cal101 : CalOK MT 101 1 := ⟨by decide +kernel, tb_2 104 (by decide +kernel) rfl, tb_1 1 (by decide +kernel) rfl, ⟨by decide +kernel, by decide +kernel⟩, by decide +kernel⟩
theorem cal102 : CalOK MT 102 1 := ⟨by decide +kernel, tb_3 35 (by decide +kernel) rfl, tb_1 1 (by decide +kernel) rfl, ⟨by decide +kernel, by decide +kernel⟩, by decide +kernel⟩
theorem cal103 : CalOK MT 103 1 := ⟨by decide +kernel, tb_3 169 (by decide +kernel) rfl, tb_1 1 (by decide +kernel) rfl, ⟨by decide +kernel, by decide +kernel⟩, by decide +kernel⟩
theorem cal104 : CalOK MT 104 1 := ⟨by decide +kernel, tb_2 215 (by decide +kernel) rfl, tb_1 1 (by decide +kernel) rfl, ⟨by decide +kernel, by decide +kernel⟩, by decide +kernel⟩
theorem cal105 : CalOK MT 105 1 := ⟨by decide +kernel, tb_3 72 (by decide +kernel) rfl, tb_1 1 (by decide +kernel) rfl, ⟨by decide +kernel, by decide +kernel⟩, by decide +kernel⟩
theorem cal106 : CalOK MT 106 2 := ⟨by decide +kernel, tb_3 91 (by decide +kernel) rfl, tb_1 1 (by decide +kernel) rfl, ⟨by decide +kernel, by decide +kernel⟩, by decide +kernel⟩
theorem cal107 : CalOK MT 107 1 := ⟨by decide +kernel, tb_3 0 (by decide +kernel) rfl, tb_1 1 (by decide +kernel) rfl, ⟨by decide +kernel, by decide +kernel⟩, by decide +kernel⟩
theorem cal108 : CalOK MT 108 1 := ⟨by decide +kernel, tb_3 4 (by decide +kernel) rfl, tb_1 1 (by decide +kernel) rfl, ⟨by decide +kernel, by decide +kernel⟩, by decide +kernel⟩
theorem cal109 : CalOK MT 109 2 := ⟨by decide +kernel, tb_3 12 (by decide +kernel) rfl, tb_1 1 (by decide +kernel) rfl, ⟨by decide +kernel, by decide +kernel⟩, by decide +kernel⟩
theorem cal110 : CalOK MT 110 3 := ⟨by decide +kernel, tb_3 8 (by decide +kernel) rfl, tb_1 1 (by decide +kernel) rfl, ⟨by decide +kernel, by decide +kernel⟩, by decide +kernel⟩
theorem cal111 : CalOK MT 111 1 := ⟨by decide +kernel, tb_3 152 (by decide +kernel) rfl, tb_1 1 (by decide +kernel) rfl, ⟨by decide +kernel, by decide +kernel⟩, by decide +kernel⟩
theorem cal112 : CalOK MT 112 2 := ⟨by decide +kernel, tb_2 142 (by decide +kernel) rfl, tb_1 1 (by decide +kernel) rfl, ⟨by decide +kernel, by decide +kernel⟩, by decide +kernel⟩
theorem cal113 : CalOK MT 113 1 := ⟨by decide +kernel, tb_3 139 (by decide +kernel) rfl, tb_1 1 (by decide +kernel) rfl, ⟨by decide +kernel, by decide +kernel⟩, by decide +kernel⟩
theorem cal114 : CalOK MT 114 1 := ⟨by decide +kernel, tb_2 189 (by decide +kernel) rfl, tb_1 1 (by decide +kernel) rfl, ⟨by decide +kernel, by decide +kernel⟩, by decide +kernel⟩
theorem cal115 : CalOK MT 115 2 := ⟨by decide +kernel, tb_2 229 (by decide +kernel) rfl, tb_1 1 (by decide +kernel) rfl, ⟨by decide +kernel, by decide +kernel⟩, by decide +kernel⟩
theorem cal116 : CalOK MT 116 3 := ⟨by decide +kernel, tb_3 38 (by decide +kernel) rfl, tb_1 1 (by decide +kernel) rfl, ⟨by decide +kernel, by decide +kernel⟩, by decide +kernel⟩
theorem cal117 : CalOK MT 117 3 := ⟨by decide +kernel, tb_4 237 (by decide +kernel) rfl, tb_1 9 (by decide +kernel) rfl, ⟨by decide +kernel, by decide +kernel⟩, by decide +kernel⟩
theorem cal118 : CalOK MT 118 2 := ⟨by decide +kernel, tb_5 41 (by decide +kernel) rfl, tb_1 9 (by decide +kernel) rfl, ⟨by decide +kernel, by decide +kernel⟩, by decide +kernel⟩
theorem cal119 : CalOK MT 119 1 := ⟨by decide +kernel, tb_5 90 (by decide +kernel) rfl, tb_1 9 (by decide +kernel) rfl, ⟨by decide +kernel, by decide +kernel⟩, by decide +kernel⟩
theorem cal120 : CalOK MT 120 1 := ⟨by decide +kernel, tb_4 229 (by decide +kernel) rfl, tb_1 9 (by decide +kernel) rfl, ⟨by decide +kernel, by decide +kernel⟩, by decide +kernel⟩
theorem cal121 : CalOK MT 121 1 := ⟨by decide +kernel, tb_5 13 (by decide +kernel) rfl, tb_1 9 (by decide +kernel) rfl, ⟨by decide +kernel, by decide +kernel⟩, by decide +kernel⟩
theorem cal122 : CalOK MT 122 1 := ⟨by decide +kernel, tb_5 136 (by decide +kernel) rfl, tb_1 9 (by decide +kernel) rfl, ⟨by decide +kernel, by decide +kernel⟩, by decide +kernel⟩
theorem cal123 : CalOK MT 123 2 := ⟨by decide +kernel, tb_5 56 (by decide +kernel) rfl, tb_1 9 (by decide +kernel) rfl, ⟨by decide +kernel, by decide +kernel⟩, by decide +kernel⟩
theorem cal124 : CalOK MT 124 3 := ⟨by decide +kernel, tb_5 140 (by decide +kernel) rfl, tb_1 9 (by decide +kernel) rfl, ⟨by decide +kernel, by decide +kernel⟩, by decide +kernel⟩
theorem cal125 : CalOK MT 125 1 := ⟨by decide +kernel, tb_5 5 (by decide +kernel) rfl, tb_1 9 (by decide +kernel) rfl, ⟨by decide +kernel, by decide +kernel⟩, by decide +kernel⟩
theorem cal126 : CalOK MT 126 1 := ⟨by decide +kernel, tb_5 8 (by decide +kernel) rfl, tb_1 9 (by decide +kernel) rfl, ⟨by decide +kernel, by decide +kernel⟩, by decide +kernel⟩
theorem cal127 : CalOK MT 127 1 := ⟨by decide +kernel, tb_5 117 (by decide +kernel) rfl, tb_1 9 (by decide +kernel) rfl, ⟨by decide +kernel, by decide +kernel⟩, by decide +kernel⟩
theorem cal128 : CalOK MT 128 1 := ⟨by decide +kernel, tb_5 160 (by decide +kernel) rfl, tb_1 9 (by decide +kernel) rfl, ⟨by decide +kernel, by decide +kernel⟩, by decide +kernel⟩
theorem cal129 : CalOK MT 129 1 := ⟨by decide +kernel, tb_4 225 (by decide +kernel) rfl, tb_1 9 (by decide +kernel) rfl, ⟨by decide +kernel, by decide +kernel⟩, by decide +kernel⟩
theorem cal130 : CalOK MT 130 1 := ⟨by decide +kernel, tb_4 233 (by decide +kernel) rfl, tb_1 9 (by decide +kernel) rfl, ⟨by decide +kernel, by decide +kernel⟩, by decide +kernel⟩
theorem cal131 : CalOK MT 131 2 := ⟨by decide +kernel, tb_5 18 (by decide +kernel) rfl, tb_1 9 (by decide +kernel) rfl, ⟨by decide +kernel, by decide +kernel⟩, by decide +kernel⟩
theorem cal132 : CalOK MT 132 3 := ⟨by decide +kernel, tb_5 1 (by decide +kernel) rfl, tb_1 9 (by decide +kernel) rfl, ⟨by decide +kernel, by decide +kernel⟩, by decide +kernel⟩
theorem cal133 : CalOK MT 133 2 := ⟨by decide +kernel, tb_5 22 (by decide +kernel) rfl, tb_1 9 (by decide +kernel) rfl, ⟨by decide +kernel, by decide +kernel⟩, by decide +kernel⟩
theorem cal134 : CalOK MT 134 2 := ⟨by decide +kernel, tb_5 45 (by decide +kernel) rfl, tb_1 9 (by decide +kernel) rfl, ⟨by decide +kernel, by decide +kernel⟩, by decide +kernel⟩
theorem cal135 : CalOK MT 135 1 := ⟨by decide +kernel, tb_5 60 (by decide +kernel) rfl, tb_1 9 (by decide +kernel) rfl, ⟨by decide +kernel, by decide +kernel⟩, by decide +kernel⟩
theorem cal136 : CalOK MT 136 2 := ⟨by decide +kernel, tb_5 76 (by decide +kernel) rfl, tb_1 9 (by decide +kernel) rfl, ⟨by decide +kernel, by decide +kernel⟩, by decide +kernel⟩
theorem cal137 : CalOK MT 137 1 := ⟨by decide +kernel, tb_5 72 (by decide +kernel) rfl, tb_1 9 (by decide +kernel) rfl, ⟨by decide +kernel, by decide +kernel⟩, by decide +kernel⟩
theorem cal138 : CalOK MT 138 2 := ⟨by decide +kernel, tb_5 26 (by decide +kernel) rfl, tb_1 9 (by decide +kernel) rfl, ⟨by decide +kernel, by decide +kernel⟩, by decide +kernel⟩
theorem cal139 : CalOK MT 139 1 := ⟨by decide +kernel, tb_5 68 (by decide +kernel) rfl, tb_1 9 (by decide +kernel) rfl, ⟨by decide +kernel, by decide +kernel⟩, by decide +kernel⟩
theorem cal140 : CalOK MT 140 2 := ⟨by decide +kernel, tb_5 83 (by decide +kernel) rfl, tb_1 9 (by decide +kernel) rfl, ⟨by decide +kernel, by decide +kernel⟩, by decide +kernel⟩
theorem cal141 : CalOK MT 141 2 := ⟨by decide +kernel, tb_5 80 (by decide +kernel) rfl, tb_1 9 (by decide +kernel) rfl, ⟨by decide +kernel, by decide +kernel⟩, by decide +kernel⟩
theorem cal142 : CalOK MT 142 2 := ⟨by decide +kernel, tb_5 53 (by decide +kernel) rfl, tb_1 9 (by decide +kernel) rfl, ⟨by decide +kernel, by decide +kernel⟩, by decide +kernel⟩
theorem cal143 : CalOK MT 143 2 := ⟨by decide +kernel, tb_5 49 (by decide +kernel) rfl, tb_1 9 (by decide +kernel) rfl, ⟨by decide +kernel, by decide +kernel⟩, by decide +kernel⟩
theorem cal144 : CalOK MT 144 2 := ⟨by decide +kernel, tb_5 38 (by decide +kernel) rfl, tb_1 9 (by decide +kernel) rfl, ⟨by decide +kernel, by decide +kernel⟩, by decide +kernel⟩
theorem cal145 : CalOK MT 145 1 := ⟨by decide +kernel, tb_5 168 (by decide +kernel) rfl, tb_1 9 (by decide +kernel) rfl, ⟨by decide +kernel, by decide +kernel⟩, by decide +kernel⟩
theorem cal146 : CalOK MT 146 2 := ⟨by decide +kernel, tb_5 34 (by decide +kernel) rfl, tb_1 9 (by decide +kernel) rfl, ⟨by decide +kernel, by decide +kernel⟩, by decide +kernel⟩
theorem cal147 : CalOK MT 147 0 := ⟨by decide +kernel, tb_5 30 (by decide +kernel) rfl, tb_1 9 (by decide +kernel) rfl, ⟨by decide +kernel, by decide +kernel⟩, by decide +kernel⟩
theorem cal148 : CalOK MT 148 0 := ⟨by decide +kernel, tb_5 94 (by decide +kernel) rfl, tb_1 9 (by decide +kernel) rfl, ⟨by decide +kernel, by decide +kernel⟩, by decide +kernel⟩
theorem cal149 : CalOK MT 149 1 := ⟨by decide +kernel, tb_5 106 (by decide +kernel) rfl, tb_1 9 (by decide +kernel) rfl, ⟨by decide +kernel, by decide +kernel⟩, by decide +kernel⟩
theorem cal150 : CalOK MT 150 1 := ⟨by decide +kernel, tb_5 110 (by decide +kernel) rfl, tb_1 9 (by decide +kernel) rfl, ⟨by decide +kernel, by decide +kernel⟩, by decide +kernel⟩
theorem cal151 : CalOK MT 151 0 := ⟨by decide +kernel, tb_5 98 (by decide +kernel) rfl, tb_1 9 (by decide +kernel) rfl, ⟨by decide +kernel, by decide +kernel⟩, by decide +kernel⟩
theorem cal152 : CalOK MT 152 1 := ⟨by decide +kernel, tb_5 87 (by decide +kernel) rfl, tb_1 9 (by decide +kernel) rfl, ⟨by decide +kernel, by decide +kernel⟩, by decide +kernel⟩
theorem cal153 : CalOK MT 153 2 := ⟨by decide +kernel, tb_5 102 (by decide +kernel) rfl, tb_1 9 (by decide +kernel) rfl, ⟨by decide +kernel, by decide +kernel⟩, by decide +kernel⟩
theorem cal154 : CalOK MT 154 2 := ⟨by decide +kernel, tb_5 122 (by decide +kernel) rfl, tb_1 9 (by decide +kernel) rfl, ⟨by decide +kernel, by decide +kernel⟩, by decide +kernel⟩
theorem cal155 : CalOK MT 155 0 := ⟨by decide +kernel, tb_5 128 (by decide +kernel) rfl, tb_1 9 (by decide +kernel) rfl, ⟨by decide +kernel, by decide +kernel⟩, by decide +kernel⟩
theorem cal156 : CalOK MT 156 1 := ⟨by decide +kernel, tb_5 114 (by decide +kernel) rfl, tb_1 9 (by decide +kernel) rfl, ⟨by decide +kernel, by decide +kernel⟩, by decide +kernel⟩
theorem cal157 : CalOK MT 157 3 := ⟨by decide +kernel, tb_5 132 (by decide +kernel) rfl, tb_1 9 (by decide +kernel) rfl, ⟨by decide +kernel, by decide +kernel⟩, by decide +kernel⟩
theorem cal158 : CalOK MT 158 0 := ⟨by decide +kernel, tb_5 144 (by decide +kernel) rfl, tb_1 9 (by decide +kernel) rfl, ⟨by decide +kernel, by decide +kernel⟩, by decide +kernel⟩
theorem cal159 : CalOK MT 159 2 := ⟨by decide +kernel, tb_5 152 (by decide +kernel) rfl, tb_1 9 (by decide +kernel) rfl, ⟨by decide +kernel, by decide +kernel⟩, by decide +kernel⟩
theorem cal160 : CalOK MT 160 1 := ⟨by decide +kernel, tb_5 148 (by decide +kernel) rfl, tb_1 9 (by decide +kernel) rfl, ⟨by decide +kernel, by decide +kernel⟩, by decide +kernel⟩
theorem cal161 : CalOK MT 161 1 := ⟨by decide +kernel, tb_5 164 (by decide +kernel) rfl, tb_1 9 (by decide +kernel) rfl, ⟨by decide +kernel, by decide +kernel⟩, by decide +kernel⟩
theorem cal162 : CalOK MT 162 1 := ⟨by decide +kernel, tb_5 156 (by decide +kernel) rfl, tb_1 9 (by decide +kernel) rfl, ⟨by decide +kernel, by decide +kernel⟩, by decide +kernel⟩
theorem cal163 : CalOK MT 163 3 := ⟨by decide +kernel, tb_5 172 (by decide +kernel) rfl, tb_1 9 (by decide +kernel) rfl, ⟨by decide +kernel, by decide +kernel⟩, by decide +kernel⟩
theorem cal164 : CalOK MT 164 1 := ⟨by decide +kernel, tb_5 180 (by decide +kernel) rfl, tb_1 9 (by decide +kernel) rfl, ⟨by decide +kernel, by decide +kernel⟩, by decide +kernel⟩
theorem cal165 : CalOK MT 165 1 := ⟨by decide +kernel, tb_5 176 (by decide +kernel) rfl, tb_1 9 (by decide +kernel) rfl, ⟨by decide +kernel, by decide +kernel⟩, by decide +kernel⟩
theorem cal166 : CalOK MT 166 0 := ⟨by decide +kernel, tb_5 188 (by decide +kernel) rfl, tb_1 9 (by decide +kernel) rfl, ⟨by decide +kernel, by decide +kernel⟩, by decide +kernel⟩
theorem cal167 : CalOK MT 167 1 := ⟨by decide +kernel, tb_5 192 (by decide +kernel) rfl, tb_1 9 (by decide +kernel) rfl, ⟨by decide +kernel, by decide +kernel⟩, by decide +kernel⟩
theorem cal168 : CalOK MT 168 1 := ⟨by decide +kernel, tb_5 184 (by decide +kernel) rfl, tb_1 9 (by decide +kernel) rfl, ⟨by decide +kernel, by decide +kernel⟩, by decide +kernel⟩
theorem cal169 : CalOK MT 169 1 := ⟨by decide +kernel, tb_5 196 (by decide +kernel) rfl, tb_1 9 (by decide +kernel) rfl, ⟨by decide +kernel, by decide +kernel⟩, by decide +kernel⟩
theorem cal170 : CalOK MT 170 3 := ⟨by decide +kernel, tb_5 200 (by decide +kernel) rfl, tb_1 9 (by decide +kernel) rfl, ⟨by decide +kernel, by decide +kernel⟩, by decide +kernel⟩
theorem cal171 : CalOK MT 171 2 := ⟨by decide +kernel, tb_5 204 (by decide +kernel) rfl, tb_1 9 (by decide +kernel) rfl, ⟨by decide +kernel, by decide +kernel⟩, by decide +kernel⟩
theorem cal172 : CalOK MT 172 1 := ⟨by decide +kernel, tb_5 219 (by decide +kernel) rfl, tb_1 9 (by decide +kernel) rfl, ⟨by decide +kernel, by decide +kernel⟩, by decide +kernel⟩
theorem cal173 : CalOK MT 173 2 := ⟨by decide +kernel, tb_5 231 (by decide +kernel) rfl, tb_1 9 (by decide +kernel) rfl, ⟨by decide +kernel, by decide +kernel⟩, by decide +kernel⟩
theorem cal174 : CalOK MT 174 2 := ⟨by decide +kernel, tb_5 228 (by decide +kernel) rfl, tb_1 9 (by decide +kernel) rfl, ⟨by decide +kernel, by decide +kernel⟩, by decide +kernel⟩
theorem cal175 : CalOK MT 175 2 := ⟨by decide +kernel, tb_5 224 (by decide +kernel) rfl, tb_1 9 (by decide +kernel) rfl, ⟨by decide +kernel, by decide +kernel⟩, by decide +kernel⟩
theorem cal176 : CalOK MT 176 0 := ⟨by decide +kernel, tb_5 212 (by decide +kernel) rfl, tb_1 9 (by decide +kernel) rfl, ⟨by decide +kernel, by decide +kernel⟩, by decide +kernel⟩
theorem cal177 : CalOK MT 177 0 := ⟨by decide +kernel, tb_5 216 (by decide +kernel) rfl, tb_1 9 (by decide +kernel) rfl, ⟨by decide +kernel, by decide +kernel⟩, by decide +kernel⟩
theorem cal178 : CalOK MT 178 0 := ⟨by decide +kernel, tb_5 208 (by decide +kernel) rfl, tb_1 9 (by decide +kernel) rfl, ⟨by decide +kernel, by decide +kernel⟩, by decide +kernel⟩
theorem cal179 : CalOK MT 179 1 := ⟨by decide +kernel, tb_6 3 (by decide +kernel) rfl, tb_1 9 (by decide +kernel) rfl, ⟨by decide +kernel, by decide +kernel⟩, by decide +kernel⟩
theorem cal180 : CalOK MT 180 2 := ⟨by decide +kernel, tb_5 239 (by decide +kernel) rfl, tb_1 9 (by decide +kernel) rfl, ⟨by decide +kernel, by decide +kernel⟩, by decide +kernel⟩
theorem cal181 : CalOK MT 181 4 := ⟨by decide +kernel, tb_5 235 (by decide +kernel) rfl, tb_1 9 (by decide +kernel) rfl, ⟨by decide +kernel, by decide +kernel⟩, by decide +kernel⟩
theorem cal182 : CalOK MT 182 2 := ⟨by decide +kernel, tb_6 7 (by decide +kernel) rfl, tb_1 9 (by decide +kernel) rfl, ⟨by decide +kernel, by decide +kernel⟩, by decide +kernel⟩
theorem cal183 : CalOK MT 183 1 := ⟨by decide +kernel, tb_6 11 (by decide +kernel) rfl, tb_1 9 (by decide +kernel) rfl, ⟨by decide +kernel, by decide +kernel⟩, by decide +kernel⟩
theorem cal184 : CalOK MT 184 2 := ⟨by decide +kernel, tb_6 31 (by decide +kernel) rfl, tb_1 9 (by decide +kernel) rfl, ⟨by decide +kernel, by decide +kernel⟩, by decide +kernel⟩
theorem cal185 : CalOK MT 185 1 := ⟨by decide +kernel, tb_6 27 (by decide +kernel) rfl, tb_1 9 (by decide +kernel) rfl, ⟨by decide +kernel, by decide +kernel⟩, by decide +kernel⟩
theorem cal186 : CalOK MT 186 2 := ⟨by decide +kernel, tb_6 23 (by decide +kernel) rfl, tb_1 9 (by decide +kernel) rfl, ⟨by decide +kernel, by decide +kernel⟩, by decide +kernel⟩
theorem cal187 : CalOK MT 187 1 := ⟨by decide +kernel, tb_6 19 (by decide +kernel) rfl, tb_1 9 (by decide +kernel) rfl, ⟨by decide +kernel, by decide +kernel⟩, by decide +kernel⟩
theorem cal188 : CalOK MT 188 2 := ⟨by decide +kernel, tb_6 15 (by decide +kernel) rfl, tb_1 9 (by decide +kernel) rfl, ⟨by decide +kernel, by decide +kernel⟩, by decide +kernel⟩
theorem cal189 : CalOK MT 189 1 := ⟨by decide +kernel, tb_6 43 (by decide +kernel) rfl, tb_1 9 (by decide +kernel) rfl, ⟨by decide +kernel, by decide +kernel⟩, by decide +kernel⟩
theorem cal190 : CalOK MT 190 2 := ⟨by decide +kernel, tb_6 48 (by decide +kernel) rfl, tb_1 9 (by decide +kernel) rfl, ⟨by decide +kernel, by decide +kernel⟩, by decide +kernel⟩
theorem cal191 : CalOK MT 191 3 := ⟨by decide +kernel, tb_6 39 (by decide +kernel) rfl, tb_1 9 (by decide +kernel) rfl, ⟨by decide +kernel, by decide +kernel⟩, by decide +kernel⟩
theorem cal192 : CalOK MT 192 1 := ⟨by decide +kernel, tb_6 35 (by decide +kernel) rfl, tb_1 9 (by decide +kernel) rfl, ⟨by decide +kernel, by decide +kernel⟩, by decide +kernel⟩
theorem cal193 : CalOK MT 193 0 := ⟨by decide +kernel, tb_6 76 (by decide +kernel) rfl, tb_1 9 (by decide +kernel) rfl, ⟨by decide +kernel, by decide +kernel⟩, by decide +kernel⟩
theorem cal194 : CalOK MT 194 2 := ⟨by decide +kernel, tb_6 91 (by decide +kernel) rfl, tb_1 9 (by decide +kernel) rfl, ⟨by decide +kernel, by decide +kernel⟩, by decide +kernel⟩
theorem cal195 : CalOK MT 195 0 := ⟨by decide +kernel, tb_6 81 (by decide +kernel) rfl, tb_1 9 (by decide +kernel) rfl, ⟨by decide +kernel, by decide +kernel⟩, by decide +kernel⟩
theorem cal196 : CalOK MT 196 0 := ⟨by decide +kernel, tb_6 87 (by decide +kernel) rfl, tb_1 9 (by decide +kernel) rfl, ⟨by decide +kernel, by decide +kernel⟩, by decide +kernel⟩
theorem cal197 : CalOK MT 197 0 := ⟨by decide +kernel, tb_6 72 (by decide +kernel) rfl, tb_1 9 (by decide +kernel) rfl, ⟨by decide +kernel, by decide +kernel⟩, by decide +kernel⟩
theorem cal198 : CalOK MT 198 0 := ⟨by decide +kernel, tb_6 68 (by decide +kernel) rfl, tb_1 9 (by decide +kernel) rfl, ⟨by decide +kernel, by decide +kernel⟩, by decide +kernel⟩
theorem cal199 : CalOK MT 199 0 := ⟨by decide +kernel, tb_6 64 (by decide +kernel) rfl, tb_1 9 (by decide +kernel) rfl, ⟨by decide +kernel, by decide +kernel⟩, by decide +kernel⟩
theorem cal200 : CalOK MT 200 0 := ⟨by decide +kernel, tb_6 60 (by decide +kernel) rfl, tb_1 9 (by decide +kernel) rfl, ⟨by decide +kernel, by decide +kernel⟩, by decide +kernel⟩
theorem cal201 : CalOK MT 201 0 := ⟨by decide +kernel, tb_6 56 (by decide +kernel) rfl, tb_1 9 (by decide +kernel) rfl, ⟨by decide +kernel, by decide +kernel⟩, by decide +kernel⟩
theorem cal202 : CalOK MT 202 0 := ⟨by decide +kernel, tb_6 52 (by decide +kernel) rfl, tb_1 9 (by decide +kernel) rfl, ⟨by decide +kernel, by decide +kernel⟩, by decide +kernel⟩
theorem cal203 : CalOK MT 203 0 := ⟨by decide +kernel, tb_6 119 (by decide +kernel) rfl, tb_1 9 (by decide +kernel) rfl, ⟨by decide +kernel, by decide +kernel⟩, by decide +kernel⟩
theorem cal204 : CalOK MT 204 2 := ⟨by decide +kernel, tb_6 123 (by decide +kernel) rfl, tb_1 9 (by decide +kernel) rfl, ⟨by decide +kernel, by decide +kernel⟩, by decide +kernel⟩
theorem cal205 : CalOK MT 205 1 := ⟨by decide +kernel, tb_6 128 (by decide +kernel) rfl, tb_1 9 (by decide +kernel) rfl, ⟨by decide +kernel, by decide +kernel⟩, by decide +kernel⟩
theorem cal206 : CalOK MT 206 1 := ⟨by decide +kernel, tb_6 115 (by decide +kernel) rfl, tb_1 9 (by decide +kernel) rfl, ⟨by decide +kernel, by decide +kernel⟩, by decide +kernel⟩
theorem cal207 : CalOK MT 207 1 := ⟨by decide +kernel, tb_6 111 (by decide +kernel) rfl, tb_1 9 (by decide +kernel) rfl, ⟨by decide +kernel, by decide +kernel⟩, by decide +kernel⟩
theorem cal208 : CalOK MT 208 1 := ⟨by decide +kernel, tb_6 107 (by decide +kernel) rfl, tb_1 9 (by decide +kernel) rfl, ⟨by decide +kernel, by decide +kernel⟩, by decide +kernel⟩
theorem cal209 : CalOK MT 209 1 := ⟨by decide +kernel, tb_6 103 (by decide +kernel) rfl, tb_1 9 (by decide +kernel) rfl, ⟨by decide +kernel, by decide +kernel⟩, by decide +kernel⟩
theorem cal210 : CalOK MT 210 0 := ⟨by decide +kernel, tb_6 99 (by decide +kernel) rfl, tb_1 9 (by decide +kernel) rfl, ⟨by decide +kernel, by decide +kernel⟩, by decide +kernel⟩
theorem cal211 : CalOK MT 211 1 := ⟨by decide +kernel, tb_6 95 (by decide +kernel) rfl, tb_1 9 (by decide +kernel) rfl, ⟨by decide +kernel, by decide +kernel⟩, by decide +kernel⟩
theorem cal212 : CalOK MT 212 2 := ⟨by decide +kernel, tb_6 132 (by decide +kernel) rfl, tb_1 9 (by decide +kernel) rfl, ⟨by decide +kernel, by decide +kernel⟩, by decide +kernel⟩
theorem cal213 : CalOK MT 213 1 := ⟨by decide +kernel, tb_6 136 (by decide +kernel) rfl, tb_1 9 (by decide +kernel) rfl, ⟨by decide +kernel, by decide +kernel⟩, by decide +kernel⟩
theorem cal214 : CalOK MT 214 1 := ⟨by decide +kernel, tb_6 144 (by decide +kernel) rfl, tb_1 9 (by decide +kernel) rfl, ⟨by decide +kernel, by decide +kernel⟩, by decide +kernel⟩
theorem cal215 : CalOK MT 215 3 := ⟨by decide +kernel, tb_6 140 (by decide +kernel) rfl, tb_1 9 (by decide +kernel) rfl, ⟨by decide +kernel, by decide +kernel⟩, by decide +kernel⟩
theorem cal216 : CalOK MT 216 2 := ⟨by decide +kernel, tb_6 163 (by decide +kernel) rfl, tb_1 9 (by decide +kernel) rfl, ⟨by decide +kernel, by decide +kernel⟩, by decide +kernel⟩
theorem cal217 : CalOK MT 217 2 := ⟨by decide +kernel, tb_6 151 (by decide +kernel) rfl, tb_1 9 (by decide +kernel) rfl, ⟨by decide +kernel, by decide +kernel⟩, by decide +kernel⟩
theorem cal218 : CalOK MT 218 2 := ⟨by decide +kernel, tb_6 159 (by decide +kernel) rfl, tb_1 9 (by decide +kernel) rfl, ⟨by decide +kernel, by decide +kernel⟩, by decide +kernel⟩
theorem cal219 : CalOK MT 219 3 := ⟨by decide +kernel, tb_6 155 (by decide +kernel) rfl, tb_1 9 (by decide +kernel) rfl, ⟨by decide +kernel, by decide +kernel⟩, by decide +kernel⟩
theorem cal220 : CalOK MT 220 2 := ⟨by decide +kernel, tb_6 167 (by decide +kernel) rfl, tb_1 9 (by decide +kernel) rfl, ⟨by decide +kernel, by decide +kernel⟩, by decide +kernel⟩
theorem cal221 : CalOK MT 221 3 := ⟨by decide +kernel, tb_6 171 (by decide +kernel) rfl, tb_1 9 (by decide +kernel) rfl, ⟨by decide +kernel, by decide +kernel⟩, by decide +kernel⟩
theorem cal222 : CalOK MT 222 1 := ⟨by decide +kernel, tb_6 175 (by decide +kernel) rfl, tb_1 9 (by decide +kernel) rfl, ⟨by decide +kernel, by decide +kernel⟩, by decide +kernel⟩
theorem cal223 : CalOK MT 223 0 := ⟨by decide +kernel, tb_6 179 (by decide +kernel) rfl, tb_1 9 (by decide +kernel) rfl, ⟨by decide +kernel, by decide +kernel⟩, by decide +kernel⟩
theorem cal224 : CalOK MT 224 0 := ⟨by decide +kernel, tb_6 183 (by decide +kernel) rfl, tb_1 9 (by decide +kernel) rfl, ⟨by decide +kernel, by decide +kernel⟩, by decide +kernel⟩
theorem cal225 : CalOK MT 225 0 := ⟨by decide +kernel, tb_6 187 (by decide +kernel) rfl, tb_1 9 (by decide +kernel) rfl, ⟨by decide +kernel, by decide +kernel⟩, by decide +kernel⟩
theorem cal226 : CalOK MT 226 0 := ⟨by decide +kernel, tb_6 195 (by decide +kernel) rfl, tb_1 9 (by decide +kernel) rfl, ⟨by decide +kernel, by decide +kernel⟩, by decide +kernel⟩
theorem cal227 : CalOK MT 227 1 := ⟨by decide +kernel, tb_6 191 (by decide +kernel) rfl, tb_1 9 (by decide +kernel) rfl, ⟨by decide +kernel, by decide +kernel⟩, by decide +kernel⟩
theorem cal228 : CalOK MT 228 1 := ⟨by decide +kernel, tb_3 79 (by decide +kernel) rfl, tb_1 13 (by decide +kernel) rfl, ⟨by decide +kernel, by decide +kernel⟩, by decide +kernel⟩
theorem cal229 : CalOK MT 229 2 := ⟨by decide +kernel, tb_3 205 (by decide +kernel) rfl, tb_1 10 (by decide +kernel) rfl, ⟨by decide +kernel, by decide +kernel⟩, by decide +kernel⟩
theorem cal230 : CalOK MT 230 2 := ⟨by decide +kernel, tb_2 111 (by decide +kernel) rfl, tb_1 10 (by decide +kernel) rfl, ⟨by decide +kernel, by decide +kernel⟩, by decide +kernel⟩
/-! links -/
theorem lkRX0_0 : LnkOK MT RX0 (4, 30, 228, 1, 0, 0) := ⟨cal228, Or.inl (tb_3 77 (by decide +kernel) rfl), tb_3 78 (by decide +kernel) rfl⟩
theorem lkRX0_1 : LnkOK MT RX0 (0, 26, 0, 0, 2, 0) := ⟨RX0, TX0, 9, tyX0, rfl, rfl, by decide +kernel, by decide +kernel, uw0, tb_1 165 (by decide +kernel) rfl, tyX0_ok, nmX0, fun h => by cases h⟩
theorem lkRX0_2 : LnkOK MT RX0 (0, 36, 6, 4, 2, 0) := ⟨RX6, TX6, 5, tyX6, rfl, rfl, by decide +kernel, by decide +kernel, uw6, tb_1 144 (by decide +kernel) rfl, tyX6_ok, nmX6, fun h => by cases h⟩
theorem lkRX0_3 : LnkOK MT RX0 (0, 41, 1, 3, 0, 0) := ⟨RX1, TX1, 6, tyX1, rfl, rfl, by decide +kernel, by decide +kernel, uw1, tb_1 108 (by decide +kernel) rfl, tyX1_ok, nmX1, fun h => by cases h⟩
theorem lkRX0_4 : LnkOK MT RX0 (0, 12, 0, 1, 2, 0) := ⟨RX0, TX0, 9, tyX0, rfl, rfl, by decide +kernel, by decide +kernel, uw0, tb_1 166 (by decide +kernel) rfl, tyX0_ok, nmX0, fun h => by cases h⟩
theorem lkRX0_5 : LnkOK MT RX0 (0, 44, 6, 2, 2, 0) := ⟨RX6, TX6, 5, tyX6, rfl, rfl, by decide +kernel, by decide +kernel, uw6, tb_1 137 (by decide +kernel) rfl, tyX6_ok, nmX6, fun h => by cases h⟩
theorem lkRX0_6 : LnkOK MT RX0 (0, 48, 6, 0, 0, 0) := ⟨RX6, TX6, 5, tyX6, rfl, rfl, by decide +kernel, by decide +kernel, uw6, tb_1 130 (by decide +kernel) rfl, tyX6_ok, nmX6, fun h => by cases h⟩
theorem lkRX0_7 : LnkOK MT RX0 (3, 51, 4, 3, 1, 0) := ⟨cal4, tb_3 83 (by decide +kernel) rfl, tb_2 137 (by decide +kernel) rfl, tb_2 138 (by decide +kernel) rfl, (RX1, TX1, 6), rfl, rfl⟩
theorem lkRX0_8 : LnkOK MT RX0 (0, 55, 1, 4, 0, 0) := ⟨RX1, TX1, 6, tyX1, rfl, rfl, by decide +kernel, by decide +kernel, uw1, tb_1 111 (by decide +kernel) rfl, tyX1_ok, nmX1, fun h => by cases h⟩
theorem lkRX0_9 : LnkOK MT RX0 (4, 58, 112, 2, 0, 0) := ⟨cal112, Or.inr ⟨"PureGroups", lw_3 109 (by decide +kernel)⟩, tb_2 141 (by decide +kernel) rfl⟩
theorem lkRX0_10 : LnkOK MT RX0 (0, 18, 0, 2, 2, 0) := ⟨RX0, TX0, 9, tyX0, rfl, rfl, by decide +kernel, by decide +kernel, uw0, tb_1 168 (by decide +kernel) rfl, tyX0_ok, nmX0, fun h => by cases h⟩
theorem lkRX0_11 : LnkOK MT RX0 (3, 62, 7, 2, 1, 0) := ⟨cal7, tb_3 110 (by decide +kernel) rfl, tb_2 223 (by decide +kernel) rfl, tb_2 224 (by decide +kernel) rfl, (RX1, TX1, 6), rfl, rfl⟩
theorem lkRX0_12 : LnkOK MT RX0 (9, 66, 0, 0, 0, 0) := ⟨tb_3 111 (by decide +kernel) rfl, tb_3 22 (by decide +kernel) rfl, tb_1 12 (by decide +kernel) rfl, tb_3 23 (by decide +kernel) rfl⟩
theorem lkRX0_13 : LnkOK MT RX0 (0, 22, 0, 3, 0, 0) := ⟨RX0, TX0, 9, tyX0, rfl, rfl, by decide +kernel, by decide +kernel, uw0, tb_1 169 (by decide +kernel) rfl, tyX0_ok, nmX0, fun h => by cases h⟩
theorem lkRX0_14 : LnkOK MT RX0 (0, 71, 6, 1, 0, 0) := ⟨RX6, TX6, 5, tyX6, rfl, rfl, by decide +kernel, by decide +kernel, uw6, tb_1 135 (by decide +kernel) rfl, tyX6_ok, nmX6, fun h => by cases h⟩
theorem lkRX0_15 : LnkOK MT RX0 (1, 22, 0, 3, 0, 0) := ⟨RX0, TX0, 9, tyX0, rfl, rfl, by decide +kernel, by decide +kernel, uw0, tb_1 169 (by decide +kernel) rfl, tyX0_ok, nmX0, fun _ => ⟨by decide +kernel, by decide +kernel⟩⟩
theorem lkRX0_16 : LnkOK MT RX0 (1, 74, 0, 4, 0, 0) := ⟨RX0, TX0, 9, tyX0, rfl, rfl, by decide +kernel, by decide +kernel, uw0, tb_1 170 (by decide +kernel) rfl, tyX0_ok, nmX0, fun _ => ⟨by decide +kernel, by decide +kernel⟩⟩
theorem lkRX0_17 : LnkOK MT RX0 (1, 77, 0, 5, 0, 0) := ⟨RX0, TX0, 9, tyX0, rfl, rfl, by decide +kernel, by decide +kernel, uw0, tb_1 172 (by decide +kernel) rfl, tyX0_ok, nmX0, fun _ => ⟨by decide +kernel, by decide +kernel⟩⟩
theorem lkRX0_18 : LnkOK MT RX0 (0, 77, 0, 5, 0, 0) := ⟨RX0, TX0, 9, tyX0, rfl, rfl, by decide +kernel, by decide +kernel, uw0, tb_1 172 (by decide +kernel) rfl, tyX0_ok, nmX0, fun h => by cases h⟩
theorem lkRX0_19 : LnkOK MT RX0 (3, 80, 0, 1, 0, 0) := ⟨cal0, tb_3 100 (by decide +kernel) rfl, tb_3 74 (by decide +kernel) rfl, tb_3 75 (by decide +kernel) rfl, (RX0, TX0, 9), rfl, rfl⟩
theorem lkRX0_20 : LnkOK MT RX0 (3, 84, 3, 1, 0, 0) := ⟨cal3, tb_3 101 (by decide +kernel) rfl, tb_3 103 (by decide +kernel) rfl, tb_p 12 (by decide +kernel) rfl, (RX0, TX0, 9), rfl, rfl⟩
theorem lkRX0_21 : LnkOK MT RX0 (3, 88, 1, 0, 0, 0) := ⟨cal1, tb_3 105 (by decide +kernel) rfl, tb_3 106 (by decide +kernel) rfl, tb_3 107 (by decide +kernel) rfl, (RX0, TX0, 9), rfl, rfl⟩
theorem lkRX0_22 : LnkOK MT RX0 (0, 74, 0, 4, 0, 0) := ⟨RX0, TX0, 9, tyX0, rfl, rfl, by decide +kernel, by decide +kernel, uw0, tb_1 170 (by decide +kernel) rfl, tyX0_ok, nmX0, fun h => by cases h⟩
theorem lkRX0_23 : LnkOK MT RX0 (1, 92, 0, 6, 0, 0) := ⟨RX0, TX0, 9, tyX0, rfl, rfl, by decide +kernel, by decide +kernel, uw0, tb_1 174 (by decide +kernel) rfl, tyX0_ok, nmX0, fun _ => ⟨by decide +kernel, by decide +kernel⟩⟩
theorem lkRX0_24 : LnkOK MT RX0 (0, 95, 0, 8, 1, 0) := ⟨RX0, TX0, 9, tyX0, rfl, rfl, by decide +kernel, by decide +kernel, uw0, tb_1 178 (by decide +kernel) rfl, tyX0_ok, nmX0, fun h => by cases h⟩
theorem lkRX0_25 : LnkOK MT RX0 (1, 99, 0, 7, 0, 0) := ⟨RX0, TX0, 9, tyX0, rfl, rfl, by decide +kernel, by decide +kernel, uw0, tb_1 176 (by decide +kernel) rfl, tyX0_ok, nmX0, fun _ => ⟨by decide +kernel, by decide +kernel⟩⟩
theorem lkRX0_26 : LnkOK MT RX0 (1, 95, 0, 8, 1, 0) := ⟨RX0, TX0, 9, tyX0, rfl, rfl, by decide +kernel, by decide +kernel, uw0, tb_1 178 (by decide +kernel) rfl, tyX0_ok, nmX0, fun _ => ⟨by decide +kernel, by decide +kernel⟩⟩
def lkRX0 : List Lnk := [(4, 30, 228, 1, 0, 0), (0, 26, 0, 0, 2, 0), (0, 36, 6, 4, 2, 0), (0, 41, 1, 3, 0, 0), (0, 12, 0, 1, 2, 0), (0, 44, 6, 2, 2, 0), (0, 48, 6, 0, 0, 0), (3, 51, 4, 3, 1, 0), (0, 55, 1, 4, 0, 0), (4, 58, 112, 2, 0, 0), (0, 18, 0, 2, 2, 0), (3, 62, 7, 2, 1, 0), (9, 66, 0, 0, 0, 0), (0, 22, 0, 3, 0, 0), (0, 71, 6, 1, 0, 0), (1, 22, 0, 3, 0, 0), (1, 74, 0, 4, 0, 0), (1, 77, 0, 5, 0, 0), (0, 77, 0, 5, 0, 0), (3, 80, 0, 1, 0, 0), (3, 84, 3, 1, 0, 0), (3, 88, 1, 0, 0, 0), (0, 74, 0, 4, 0, 0), (1, 92, 0, 6, 0, 0), (0, 95, 0, 8, 1, 0), (1, 99, 0, 7, 0, 0), (1, 95, 0, 8, 1, 0)]
theorem lkRX0_ok : ∀ q ∈ lkRX0, LnkOK MT RX0 q := List.forall_mem_cons.mpr ⟨lkRX0_0, List.forall_mem_cons.mpr ⟨lkRX0_1, List.forall_mem_cons.mpr ⟨lkRX0_2, List.forall_mem_cons.mpr ⟨lkRX0_3, List.forall_mem_cons.mpr ⟨lkRX0_4, List.forall_mem_cons.mpr ⟨lkRX0_5, List.forall_mem_cons.mpr ⟨lkRX0_6, List.forall_mem_cons.mpr ⟨lkRX0_7, List.forall_mem_cons.mpr ⟨lkRX0_8, List.forall_mem_cons.mpr ⟨lkRX0_9, List.forall_mem_cons.mpr ⟨lkRX0_10, List.forall_mem_cons.mpr ⟨lkRX0_11, List.forall_mem_cons.mpr ⟨lkRX0_12, List.forall_mem_cons.mpr ⟨lkRX0_13, List.forall_mem_cons.mpr ⟨lkRX0_14, List.forall_mem_cons.mpr ⟨lkRX0_15, List.forall_mem_cons.mpr ⟨lkRX0_16, List.forall_mem_cons.mpr ⟨lkRX0_17, List.forall_mem_cons.mpr ⟨lkRX0_18, List.forall_mem_cons.mpr ⟨lkRX0_19, List.forall_mem_cons.mpr ⟨lkRX0_20, List.forall_mem_cons.mpr ⟨lkRX0_21, List.forall_mem_cons.mpr ⟨lkRX0_22, List.forall_mem_cons.mpr ⟨lkRX0_23, List.forall_mem_cons.mpr ⟨lkRX0_24, List.forall_mem_cons.mpr ⟨lkRX0_25, List.forall_mem_cons.mpr ⟨lkRX0_26, fun _ h => absurd h List.not_mem_nil⟩⟩⟩⟩⟩⟩⟩⟩⟩⟩⟩⟩⟩⟩⟩⟩⟩⟩⟩⟩⟩⟩⟩⟩⟩⟩⟩
theorem lkRX1_0 : LnkOK MT RX1 (1, 24, 1, 2, 0, 0) := ⟨RX1, TX1, 6, tyX1, rfl, rfl, by decide +kernel, by decide +kernel, uw1, tb_1 106 (by decide +kernel) rfl, tyX1_ok, nmX1, fun _ => ⟨by decide +kernel, by decide +kernel⟩⟩
theorem lkRX1_1 : LnkOK MT RX1 (1, 28, 1, 3, 0, 0) := ⟨RX1, TX1, 6, tyX1, rfl, rfl, by decide +kernel, by decide +kernel, uw1, tb_1 107 (by decide +kernel) rfl, tyX1_ok, nmX1, fun _ => ⟨by decide +kernel, by decide +kernel⟩⟩
theorem lkRX1_2 : LnkOK MT RX1 (1, 31, 1, 4, 0, 0) := ⟨RX1, TX1, 6, tyX1, rfl, rfl, by decide +kernel, by decide +kernel, uw1, tb_1 110 (by decide +kernel) rfl, tyX1_ok, nmX1, fun _ => ⟨by decide +kernel, by decide +kernel⟩⟩
theorem lkRX1_3 : LnkOK MT RX1 (1, 20, 1, 5, 1, 0) := ⟨RX1, TX1, 6, tyX1, rfl, rfl, by decide +kernel, by decide +kernel, uw1, tb_1 113 (by decide +kernel) rfl, tyX1_ok, nmX1, fun _ => ⟨by decide +kernel, by decide +kernel⟩⟩
theorem lkRX1_4 : LnkOK MT RX1 (0, 24, 1, 2, 0, 0) := ⟨RX1, TX1, 6, tyX1, rfl, rfl, by decide +kernel, by decide +kernel, uw1, tb_1 106 (by decide +kernel) rfl, tyX1_ok, nmX1, fun h => by cases h⟩
theorem lkRX1_5 : LnkOK MT RX1 (0, 11, 1, 0, 2, 0) := ⟨RX1, TX1, 6, tyX1, rfl, rfl, by decide +kernel, by decide +kernel, uw1, tb_1 104 (by decide +kernel) rfl, tyX1_ok, nmX1, fun h => by cases h⟩
theorem lkRX1_6 : LnkOK MT RX1 (4, 34, 112, 2, 0, 0) := ⟨cal112, Or.inr ⟨"PureGroups", lw_2 140 (by decide +kernel)⟩, tb_2 141 (by decide +kernel) rfl⟩
theorem lkRX1_7 : LnkOK MT RX1 (3, 38, 5, 1, 1, 0) := ⟨cal5, tb_2 143 (by decide +kernel) rfl, tb_2 145 (by decide +kernel) rfl, tb_p 1 (by decide +kernel) rfl, (RX1, TX1, 6), rfl, rfl⟩
theorem lkRX1_8 : LnkOK MT RX1 (3, 42, 6, 1, 1, 0) := ⟨cal6, tb_2 147 (by decide +kernel) rfl, tb_2 149 (by decide +kernel) rfl, tb_p 2 (by decide +kernel) rfl, (RX1, TX1, 6), rfl, rfl⟩
theorem lkRX1_9 : LnkOK MT RX1 (0, 16, 1, 1, 2, 0) := ⟨RX1, TX1, 6, tyX1, rfl, rfl, by decide +kernel, by decide +kernel, uw1, tb_1 105 (by decide +kernel) rfl, tyX1_ok, nmX1, fun h => by cases h⟩
theorem lkRX1_10 : LnkOK MT RX1 (0, 28, 1, 3, 0, 0) := ⟨RX1, TX1, 6, tyX1, rfl, rfl, by decide +kernel, by decide +kernel, uw1, tb_1 107 (by decide +kernel) rfl, tyX1_ok, nmX1, fun h => by cases h⟩
theorem lkRX1_11 : LnkOK MT RX1 (0, 31, 1, 4, 0, 0) := ⟨RX1, TX1, 6, tyX1, rfl, rfl, by decide +kernel, by decide +kernel, uw1, tb_1 110 (by decide +kernel) rfl, tyX1_ok, nmX1, fun h => by cases h⟩
theorem lkRX1_12 : LnkOK MT RX1 (0, 20, 1, 5, 1, 0) := ⟨RX1, TX1, 6, tyX1, rfl, rfl, by decide +kernel, by decide +kernel, uw1, tb_1 113 (by decide +kernel) rfl, tyX1_ok, nmX1, fun h => by cases h⟩
theorem lkRX1_13 : LnkOK MT RX1 (4, 46, 230, 2, 0, 0) := ⟨cal230, Or.inl (tb_2 226 (by decide +kernel) rfl), tb_2 110 (by decide +kernel) rfl⟩
theorem lkRX1_14 : LnkOK MT RX1 (4, 52, 115, 2, 0, 0) := ⟨cal115, Or.inr ⟨"PureGroups", lw_2 227 (by decide +kernel)⟩, tb_2 228 (by decide +kernel) rfl⟩
theorem lkRX1_15 : LnkOK MT RX1 (10, 56, 0, 0, 0, 0) := ⟨tb_2 233 (by decide +kernel) rfl, tb_2 231 (by decide +kernel) rfl, tb_1 12 (by decide +kernel) rfl, tb_2 232 (by decide +kernel) rfl⟩
def lkRX1 : List Lnk := [(1, 24, 1, 2, 0, 0), (1, 28, 1, 3, 0, 0), (1, 31, 1, 4, 0, 0), (1, 20, 1, 5, 1, 0), (0, 24, 1, 2, 0, 0), (0, 11, 1, 0, 2, 0), (4, 34, 112, 2, 0, 0), (3, 38, 5, 1, 1, 0), (3, 42, 6, 1, 1, 0), (0, 16, 1, 1, 2, 0), (0, 28, 1, 3, 0, 0), (0, 31, 1, 4, 0, 0), (0, 20, 1, 5, 1, 0), (4, 46, 230, 2, 0, 0), (4, 52, 115, 2, 0, 0), (10, 56, 0, 0, 0, 0)]
theorem lkRX1_ok : ∀ q ∈ lkRX1, LnkOK MT RX1 q := List.forall_mem_cons.mpr ⟨lkRX1_0, List.forall_mem_cons.mpr ⟨lkRX1_1, List.forall_mem_cons.mpr ⟨lkRX1_2, List.forall_mem_cons.mpr ⟨lkRX1_3, List.forall_mem_cons.mpr ⟨lkRX1_4, List.forall_mem_cons.mpr ⟨lkRX1_5, List.forall_mem_cons.mpr ⟨lkRX1_6, List.forall_mem_cons.mpr ⟨lkRX1_7, List.forall_mem_cons.mpr ⟨lkRX1_8, List.forall_mem_cons.mpr ⟨lkRX1_9, List.forall_mem_cons.mpr ⟨lkRX1_10, List.forall_mem_cons.mpr ⟨lkRX1_11, List.forall_mem_cons.mpr ⟨lkRX1_12, List.forall_mem_cons.mpr ⟨lkRX1_13, List.forall_mem_cons.mpr ⟨lkRX1_14, List.forall_mem_cons.mpr ⟨lkRX1_15, fun _ h => absurd h List.not_mem_nil⟩⟩⟩⟩⟩⟩⟩⟩⟩⟩⟩⟩⟩⟩⟩⟩
theorem lkRX2_0 : LnkOK MT RX2 (0, 11, 2, 0, 2, 0) := ⟨RX2, TX2, 3, tyX2, rfl, rfl, by decide +kernel, by decide +kernel, uw2, tb_1 78 (by decide +kernel) rfl, tyX2_ok, nmX2, fun h => by cases h⟩
theorem lkRX2_1 : LnkOK MT RX2 (0, 16, 2, 1, 0, 0) := ⟨RX2, TX2, 3, tyX2, rfl, rfl, by decide +kernel, by decide +kernel, uw2, tb_1 79 (by decide +kernel) rfl, tyX2_ok, nmX2, fun h => by cases h⟩
theorem lkRX2_2 : LnkOK MT RX2 (1, 16, 2, 1, 0, 0) := ⟨RX2, TX2, 3, tyX2, rfl, rfl, by decide +kernel, by decide +kernel, uw2, tb_1 79 (by decide +kernel) rfl, tyX2_ok, nmX2, fun _ => ⟨by decide +kernel, by decide +kernel⟩⟩
theorem lkRX2_3 : LnkOK MT RX2 (0, 20, 2, 2, 0, 0) := ⟨RX2, TX2, 3, tyX2, rfl, rfl, by decide +kernel, by decide +kernel, uw2, tb_1 80 (by decide +kernel) rfl, tyX2_ok, nmX2, fun h => by cases h⟩
theorem lkRX2_4 : LnkOK MT RX2 (12, 23, 0, 0, 0, 0) := ⟨tb_2 171 (by decide +kernel) rfl, tb_2 172 (by decide +kernel) rfl, tb_1 12 (by decide +kernel) rfl, tb_2 173 (by decide +kernel) rfl⟩
theorem lkRX2_5 : LnkOK MT RX2 (1, 20, 2, 2, 0, 0) := ⟨RX2, TX2, 3, tyX2, rfl, rfl, by decide +kernel, by decide +kernel, uw2, tb_1 80 (by decide +kernel) rfl, tyX2_ok, nmX2, fun _ => ⟨by decide +kernel, by decide +kernel⟩⟩
theorem lkRX2_6 : LnkOK MT RX2 (11, 29, 0, 0, 0, 0) := ⟨tb_4 112 (by decide +kernel) rfl, tb_4 113 (by decide +kernel) rfl, tb_1 12 (by decide +kernel) rfl, tb_4 114 (by decide +kernel) rfl⟩
theorem lkRX2_7 : LnkOK MT RX2 (0, 32, 3, 2, 2, 0) := ⟨RX3, TX3, 8, tyX3, rfl, rfl, by decide +kernel, by decide +kernel, uw3, tb_1 40 (by decide +kernel) rfl, tyX3_ok, nmX3, fun h => by cases h⟩
theorem lkRX2_8 : LnkOK MT RX2 (0, 37, 3, 1, 2, 0) := ⟨RX3, TX3, 8, tyX3, rfl, rfl, by decide +kernel, by decide +kernel, uw3, tb_1 35 (by decide +kernel) rfl, tyX3_ok, nmX3, fun h => by cases h⟩
theorem lkRX2_9 : LnkOK MT RX2 (0, 41, 3, 3, 2, 0) := ⟨RX3, TX3, 8, tyX3, rfl, rfl, by decide +kernel, by decide +kernel, uw3, tb_1 42 (by decide +kernel) rfl, tyX3_ok, nmX3, fun h => by cases h⟩
theorem lkRX2_10 : LnkOK MT RX2 (0, 44, 3, 4, 2, 0) := ⟨RX3, TX3, 8, tyX3, rfl, rfl, by decide +kernel, by decide +kernel, uw3, tb_1 45 (by decide +kernel) rfl, tyX3_ok, nmX3, fun h => by cases h⟩
def lkRX2 : List Lnk := [(0, 11, 2, 0, 2, 0), (0, 16, 2, 1, 0, 0), (1, 16, 2, 1, 0, 0), (0, 20, 2, 2, 0, 0), (12, 23, 0, 0, 0, 0), (1, 20, 2, 2, 0, 0), (11, 29, 0, 0, 0, 0), (0, 32, 3, 2, 2, 0), (0, 37, 3, 1, 2, 0), (0, 41, 3, 3, 2, 0), (0, 44, 3, 4, 2, 0)]
theorem lkRX2_ok : ∀ q ∈ lkRX2, LnkOK MT RX2 q := List.forall_mem_cons.mpr ⟨lkRX2_0, List.forall_mem_cons.mpr ⟨lkRX2_1, List.forall_mem_cons.mpr ⟨lkRX2_2, List.forall_mem_cons.mpr ⟨lkRX2_3, List.forall_mem_cons.mpr ⟨lkRX2_4, List.forall_mem_cons.mpr ⟨lkRX2_5, List.forall_mem_cons.mpr ⟨lkRX2_6, List.forall_mem_cons.mpr ⟨lkRX2_7, List.forall_mem_cons.mpr ⟨lkRX2_8, List.forall_mem_cons.mpr ⟨lkRX2_9, List.forall_mem_cons.mpr ⟨lkRX2_10, fun _ h => absurd h List.not_mem_nil⟩⟩⟩⟩⟩⟩⟩⟩⟩⟩⟩
theorem lkRX3_0 : LnkOK MT RX3 (0, 33, 3, 0, 0, 0) := ⟨RX3, TX3, 8, tyX3, rfl, rfl, by decide +kernel, by decide +kernel, uw3, tb_1 31 (by decide +kernel) rfl, tyX3_ok, nmX3, fun h => by cases h⟩
theorem lkRX3_1 : LnkOK MT RX3 (1, 33, 3, 0, 0, 0) := ⟨RX3, TX3, 8, tyX3, rfl, rfl, by decide +kernel, by decide +kernel, uw3, tb_1 31 (by decide +kernel) rfl, tyX3_ok, nmX3, fun _ => ⟨by decide +kernel, by decide +kernel⟩⟩
theorem lkRX3_2 : LnkOK MT RX3 (0, 9, 3, 1, 2, 0) := ⟨RX3, TX3, 8, tyX3, rfl, rfl, by decide +kernel, by decide +kernel, uw3, tb_1 33 (by decide +kernel) rfl, tyX3_ok, nmX3, fun h => by cases h⟩
theorem lkRX3_3 : LnkOK MT RX3 (0, 20, 3, 3, 2, 0) := ⟨RX3, TX3, 8, tyX3, rfl, rfl, by decide +kernel, by decide +kernel, uw3, tb_1 41 (by decide +kernel) rfl, tyX3_ok, nmX3, fun h => by cases h⟩
theorem lkRX3_4 : LnkOK MT RX3 (0, 23, 3, 4, 2, 0) := ⟨RX3, TX3, 8, tyX3, rfl, rfl, by decide +kernel, by decide +kernel, uw3, tb_1 44 (by decide +kernel) rfl, tyX3_ok, nmX3, fun h => by cases h⟩
theorem lkRX3_5 : LnkOK MT RX3 (0, 17, 3, 2, 2, 0) := ⟨RX3, TX3, 8, tyX3, rfl, rfl, by decide +kernel, by decide +kernel, uw3, tb_1 37 (by decide +kernel) rfl, tyX3_ok, nmX3, fun h => by cases h⟩
theorem lkRX3_6 : LnkOK MT RX3 (8, 36, 0, 0, 0, 0) := ⟨tb_4 45 (by decide +kernel) rfl, tb_2 125 (by decide +kernel) rfl, tb_2 124 (by decide +kernel) rfl, tb_1 11 (by decide +kernel) rfl⟩
theorem lkRX3_7 : LnkOK MT RX3 (0, 26, 3, 5, 2, 0) := ⟨RX3, TX3, 8, tyX3, rfl, rfl, by decide +kernel, by decide +kernel, uw3, tb_1 47 (by decide +kernel) rfl, tyX3_ok, nmX3, fun h => by cases h⟩
theorem lkRX3_8 : LnkOK MT RX3 (0, 42, 3, 6, 0, 0) := ⟨RX3, TX3, 8, tyX3, rfl, rfl, by decide +kernel, by decide +kernel, uw3, tb_1 49 (by decide +kernel) rfl, tyX3_ok, nmX3, fun h => by cases h⟩
theorem lkRX3_9 : LnkOK MT RX3 (0, 29, 3, 7, 0, 0) := ⟨RX3, TX3, 8, tyX3, rfl, rfl, by decide +kernel, by decide +kernel, uw3, tb_1 51 (by decide +kernel) rfl, tyX3_ok, nmX3, fun h => by cases h⟩
theorem lkRX3_10 : LnkOK MT RX3 (3, 45, 13, 3, 3, 0) := ⟨cal13, tb_4 123 (by decide +kernel) rfl, tb_4 41 (by decide +kernel) rfl, tb_4 42 (by decide +kernel) rfl, (RX3, TX3, 8), rfl, rfl⟩
theorem lkRX3_11 : LnkOK MT RX3 (4, 49, 230, 2, 0, 0) := ⟨cal230, Or.inl (tb_2 109 (by decide +kernel) rfl), tb_2 110 (by decide +kernel) rfl⟩
theorem lkRX3_12 : LnkOK MT RX3 (12, 55, 0, 0, 0, 0) := ⟨tb_4 44 (by decide +kernel) rfl, tb_2 172 (by decide +kernel) rfl, tb_1 12 (by decide +kernel) rfl, tb_2 173 (by decide +kernel) rfl⟩
theorem lkRX3_13 : LnkOK MT RX3 (1, 42, 3, 6, 0, 0) := ⟨RX3, TX3, 8, tyX3, rfl, rfl, by decide +kernel, by decide +kernel, uw3, tb_1 49 (by decide +kernel) rfl, tyX3_ok, nmX3, fun _ => ⟨by decide +kernel, by decide +kernel⟩⟩
theorem lkRX3_14 : LnkOK MT RX3 (1, 29, 3, 7, 0, 0) := ⟨RX3, TX3, 8, tyX3, rfl, rfl, by decide +kernel, by decide +kernel, uw3, tb_1 51 (by decide +kernel) rfl, tyX3_ok, nmX3, fun _ => ⟨by decide +kernel, by decide +kernel⟩⟩
theorem lkRX3_15 : LnkOK MT RX3 (3, 61, 15, 1, 3, 0) := ⟨cal15, tb_3 148 (by decide +kernel) rfl, tb_3 130 (by decide +kernel) rfl, tb_3 131 (by decide +kernel) rfl, (RX3, TX3, 8), rfl, rfl⟩
theorem lkRX3_16 : LnkOK MT RX3 (3, 65, 16, 0, 3, 0) := ⟨cal16, tb_3 144 (by decide +kernel) rfl, tb_3 145 (by decide +kernel) rfl, tb_3 146 (by decide +kernel) rfl, (RX3, TX3, 8), rfl, rfl⟩
theorem lkRX3_17 : LnkOK MT RX3 (4, 69, 112, 2, 0, 0) := ⟨cal112, Or.inr ⟨"PureGroups", lw_3 159 (by decide +kernel)⟩, tb_2 141 (by decide +kernel) rfl⟩
theorem lkRX3_18 : LnkOK MT RX3 (4, 72, 19, 2, 0, 0) := ⟨cal19, Or.inl (tb_3 160 (by decide +kernel) rfl), tb_3 161 (by decide +kernel) rfl⟩
def lkRX3 : List Lnk := [(0, 33, 3, 0, 0, 0), (1, 33, 3, 0, 0, 0), (0, 9, 3, 1, 2, 0), (0, 20, 3, 3, 2, 0), (0, 23, 3, 4, 2, 0), (0, 17, 3, 2, 2, 0), (8, 36, 0, 0, 0, 0), (0, 26, 3, 5, 2, 0), (0, 42, 3, 6, 0, 0), (0, 29, 3, 7, 0, 0), (3, 45, 13, 3, 3, 0), (4, 49, 230, 2, 0, 0), (12, 55, 0, 0, 0, 0), (1, 42, 3, 6, 0, 0), (1, 29, 3, 7, 0, 0), (3, 61, 15, 1, 3, 0), (3, 65, 16, 0, 3, 0), (4, 69, 112, 2, 0, 0), (4, 72, 19, 2, 0, 0)]
theorem lkRX3_ok : ∀ q ∈ lkRX3, LnkOK MT RX3 q := List.forall_mem_cons.mpr ⟨lkRX3_0, List.forall_mem_cons.mpr ⟨lkRX3_1, List.forall_mem_cons.mpr ⟨lkRX3_2, List.forall_mem_cons.mpr ⟨lkRX3_3, List.forall_mem_cons.mpr ⟨lkRX3_4, List.forall_mem_cons.mpr ⟨lkRX3_5, List.forall_mem_cons.mpr ⟨lkRX3_6, List.forall_mem_cons.mpr ⟨lkRX3_7, List.forall_mem_cons.mpr ⟨lkRX3_8, List.forall_mem_cons.mpr ⟨lkRX3_9, List.forall_mem_cons.mpr ⟨lkRX3_10, List.forall_mem_cons.mpr ⟨lkRX3_11, List.forall_mem_cons.mpr ⟨lkRX3_12, List.forall_mem_cons.mpr ⟨lkRX3_13, List.forall_mem_cons.mpr ⟨lkRX3_14, List.forall_mem_cons.mpr ⟨lkRX3_15, List.forall_mem_cons.mpr ⟨lkRX3_16, List.forall_mem_cons.mpr ⟨lkRX3_17, List.forall_mem_cons.mpr ⟨lkRX3_18, fun _ h => absurd h List.not_mem_nil⟩⟩⟩⟩⟩⟩⟩⟩⟩⟩⟩⟩⟩⟩⟩⟩⟩⟩⟩
theorem lkRX4_0 : LnkOK MT RX4 (12, 43, 0, 0, 0, 0) := ⟨tb_3 222 (by decide +kernel) rfl, tb_2 172 (by decide +kernel) rfl, tb_1 12 (by decide +kernel) rfl, tb_2 173 (by decide +kernel) rfl⟩
theorem lkRX4_1 : LnkOK MT RX4 (1, 49, 4, 2, 0, 0) := ⟨RX4, TX4, 13, tyX4, rfl, rfl, by decide +kernel, by decide +kernel, uw4, tb_1 237 (by decide +kernel) rfl, tyX4_ok, nmX4, fun _ => ⟨by decide +kernel, by decide +kernel⟩⟩
theorem lkRX4_2 : LnkOK MT RX4 (0, 9, 4, 1, 2, 0) := ⟨RX4, TX4, 13, tyX4, rfl, rfl, by decide +kernel, by decide +kernel, uw4, tb_1 236 (by decide +kernel) rfl, tyX4_ok, nmX4, fun h => by cases h⟩
theorem lkRX4_3 : LnkOK MT RX4 (0, 49, 4, 2, 0, 0) := ⟨RX4, TX4, 13, tyX4, rfl, rfl, by decide +kernel, by decide +kernel, uw4, tb_1 237 (by decide +kernel) rfl, tyX4_ok, nmX4, fun h => by cases h⟩
theorem lkRX4_4 : LnkOK MT RX4 (8, 52, 0, 0, 0, 0) := ⟨tb_3 223 (by decide +kernel) rfl, tb_2 125 (by decide +kernel) rfl, tb_2 124 (by decide +kernel) rfl, tb_1 11 (by decide +kernel) rfl⟩
theorem lkRX4_5 : LnkOK MT RX4 (1, 58, 4, 3, 0, 0) := ⟨RX4, TX4, 13, tyX4, rfl, rfl, by decide +kernel, by decide +kernel, uw4, tb_1 238 (by decide +kernel) rfl, tyX4_ok, nmX4, fun _ => ⟨by decide +kernel, by decide +kernel⟩⟩
theorem lkRX4_6 : LnkOK MT RX4 (1, 15, 4, 4, 0, 0) := ⟨RX4, TX4, 13, tyX4, rfl, rfl, by decide +kernel, by decide +kernel, uw4, tb_1 239 (by decide +kernel) rfl, tyX4_ok, nmX4, fun _ => ⟨by decide +kernel, by decide +kernel⟩⟩
theorem lkRX4_7 : LnkOK MT RX4 (1, 61, 4, 5, 0, 0) := ⟨RX4, TX4, 13, tyX4, rfl, rfl, by decide +kernel, by decide +kernel, uw4, tb_2 1 (by decide +kernel) rfl, tyX4_ok, nmX4, fun _ => ⟨by decide +kernel, by decide +kernel⟩⟩
theorem lkRX4_8 : LnkOK MT RX4 (1, 64, 4, 6, 0, 0) := ⟨RX4, TX4, 13, tyX4, rfl, rfl, by decide +kernel, by decide +kernel, uw4, tb_2 3 (by decide +kernel) rfl, tyX4_ok, nmX4, fun _ => ⟨by decide +kernel, by decide +kernel⟩⟩
theorem lkRX4_9 : LnkOK MT RX4 (0, 19, 4, 7, 2, 0) := ⟨RX4, TX4, 13, tyX4, rfl, rfl, by decide +kernel, by decide +kernel, uw4, tb_2 5 (by decide +kernel) rfl, tyX4_ok, nmX4, fun h => by cases h⟩
theorem lkRX4_10 : LnkOK MT RX4 (4, 67, 230, 2, 0, 0) := ⟨cal230, Or.inl (tb_3 224 (by decide +kernel) rfl), tb_2 110 (by decide +kernel) rfl⟩
theorem lkRX4_11 : LnkOK MT RX4 (3, 73, 21, 1, 4, 0) := ⟨cal21, tb_3 225 (by decide +kernel) rfl, tb_3 227 (by decide +kernel) rfl, tb_p 15 (by decide +kernel) rfl, (RX4, TX4, 13), rfl, rfl⟩
theorem lkRX4_12 : LnkOK MT RX4 (0, 24, 4, 8, 2, 0) := ⟨RX4, TX4, 13, tyX4, rfl, rfl, by decide +kernel, by decide +kernel, uw4, tb_2 6 (by decide +kernel) rfl, tyX4_ok, nmX4, fun h => by cases h⟩
theorem lkRX4_13 : LnkOK MT RX4 (0, 33, 4, 11, 2, 0) := ⟨RX4, TX4, 13, tyX4, rfl, rfl, by decide +kernel, by decide +kernel, uw4, tb_2 9 (by decide +kernel) rfl, tyX4_ok, nmX4, fun h => by cases h⟩
theorem lkRX4_14 : LnkOK MT RX4 (0, 58, 4, 3, 0, 0) := ⟨RX4, TX4, 13, tyX4, rfl, rfl, by decide +kernel, by decide +kernel, uw4, tb_1 238 (by decide +kernel) rfl, tyX4_ok, nmX4, fun h => by cases h⟩
theorem lkRX4_15 : LnkOK MT RX4 (3, 77, 31, 1, 4, 0) := ⟨cal31, tb_4 16 (by decide +kernel) rfl, tb_4 18 (by decide +kernel) rfl, tb_p 22 (by decide +kernel) rfl, (RX4, TX4, 13), rfl, rfl⟩
theorem lkRX4_16 : LnkOK MT RX4 (0, 36, 4, 12, 2, 0) := ⟨RX4, TX4, 13, tyX4, rfl, rfl, by decide +kernel, by decide +kernel, uw4, tb_2 11 (by decide +kernel) rfl, tyX4_ok, nmX4, fun h => by cases h⟩
theorem lkRX4_17 : LnkOK MT RX4 (4, 80, 34, 2, 0, 0) := ⟨cal34, Or.inl (tb_4 37 (by decide +kernel) rfl), tb_4 38 (by decide +kernel) rfl⟩
theorem lkRX4_18 : LnkOK MT RX4 (3, 84, 33, 1, 4, 0) := ⟨cal33, tb_4 25 (by decide +kernel) rfl, tb_4 27 (by decide +kernel) rfl, tb_p 24 (by decide +kernel) rfl, (RX4, TX4, 13), rfl, rfl⟩
theorem lkRX4_19 : LnkOK MT RX4 (3, 87, 22, 1, 4, 0) := ⟨cal22, tb_3 229 (by decide +kernel) rfl, tb_3 231 (by decide +kernel) rfl, tb_p 16 (by decide +kernel) rfl, (RX4, TX4, 13), rfl, rfl⟩
theorem lkRX4_20 : LnkOK MT RX4 (0, 27, 4, 9, 2, 0) := ⟨RX4, TX4, 13, tyX4, rfl, rfl, by decide +kernel, by decide +kernel, uw4, tb_2 7 (by decide +kernel) rfl, tyX4_ok, nmX4, fun h => by cases h⟩
theorem lkRX4_21 : LnkOK MT RX4 (3, 90, 29, 2, 4, 0) := ⟨cal29, tb_4 33 (by decide +kernel) rfl, tb_4 35 (by decide +kernel) rfl, tb_p 26 (by decide +kernel) rfl, (RX4, TX4, 13), rfl, rfl⟩
theorem lkRX4_22 : LnkOK MT RX4 (0, 61, 4, 5, 0, 0) := ⟨RX4, TX4, 13, tyX4, rfl, rfl, by decide +kernel, by decide +kernel, uw4, tb_2 1 (by decide +kernel) rfl, tyX4_ok, nmX4, fun h => by cases h⟩
theorem lkRX4_23 : LnkOK MT RX4 (3, 94, 23, 2, 4, 0) := ⟨cal23, tb_3 233 (by decide +kernel) rfl, tb_3 235 (by decide +kernel) rfl, tb_p 17 (by decide +kernel) rfl, (RX4, TX4, 13), rfl, rfl⟩
theorem lkRX4_24 : LnkOK MT RX4 (3, 98, 28, 0, 4, 0) := ⟨cal28, tb_4 1 (by decide +kernel) rfl, tb_4 3 (by decide +kernel) rfl, tb_p 19 (by decide +kernel) rfl, (RX4, TX4, 13), rfl, rfl⟩
theorem lkRX4_25 : LnkOK MT RX4 (3, 102, 24, 1, 4, 0) := ⟨cal24, tb_3 237 (by decide +kernel) rfl, tb_3 239 (by decide +kernel) rfl, tb_p 18 (by decide +kernel) rfl, (RX4, TX4, 13), rfl, rfl⟩
theorem lkRX4_26 : LnkOK MT RX4 (3, 106, 27, 0, 4, 0) := ⟨cal27, tb_4 29 (by decide +kernel) rfl, tb_4 31 (by decide +kernel) rfl, tb_p 25 (by decide +kernel) rfl, (RX4, TX4, 13), rfl, rfl⟩
theorem lkRX4_27 : LnkOK MT RX4 (0, 39, 4, 0, 2, 0) := ⟨RX4, TX4, 13, tyX4, rfl, rfl, by decide +kernel, by decide +kernel, uw4, tb_1 235 (by decide +kernel) rfl, tyX4_ok, nmX4, fun h => by cases h⟩
theorem lkRX4_28 : LnkOK MT RX4 (0, 109, 6, 0, 0, 0) := ⟨RX6, TX6, 5, tyX6, rfl, rfl, by decide +kernel, by decide +kernel, uw6, tb_1 131 (by decide +kernel) rfl, tyX6_ok, nmX6, fun h => by cases h⟩
theorem lkRX4_29 : LnkOK MT RX4 (0, 64, 4, 6, 0, 0) := ⟨RX4, TX4, 13, tyX4, rfl, rfl, by decide +kernel, by decide +kernel, uw4, tb_2 3 (by decide +kernel) rfl, tyX4_ok, nmX4, fun h => by cases h⟩
theorem lkRX4_30 : LnkOK MT RX4 (0, 114, 6, 2, 2, 0) := ⟨RX6, TX6, 5, tyX6, rfl, rfl, by decide +kernel, by decide +kernel, uw6, tb_1 138 (by decide +kernel) rfl, tyX6_ok, nmX6, fun h => by cases h⟩
theorem lkRX4_31 : LnkOK MT RX4 (4, 117, 30, 1, 0, 0) := ⟨cal30, Or.inl (tb_4 5 (by decide +kernel) rfl), tb_4 6 (by decide +kernel) rfl⟩
theorem lkRX4_32 : LnkOK MT RX4 (3, 121, 26, 0, 4, 0) := ⟨cal26, tb_4 8 (by decide +kernel) rfl, tb_4 10 (by decide +kernel) rfl, tb_p 20 (by decide +kernel) rfl, (RX4, TX4, 13), rfl, rfl⟩
theorem lkRX4_33 : LnkOK MT RX4 (0, 30, 4, 10, 2, 0) := ⟨RX4, TX4, 13, tyX4, rfl, rfl, by decide +kernel, by decide +kernel, uw4, tb_2 8 (by decide +kernel) rfl, tyX4_ok, nmX4, fun h => by cases h⟩
theorem lkRX4_34 : LnkOK MT RX4 (3, 124, 25, 2, 4, 0) := ⟨cal25, tb_4 12 (by decide +kernel) rfl, tb_4 14 (by decide +kernel) rfl, tb_p 21 (by decide +kernel) rfl, (RX4, TX4, 13), rfl, rfl⟩
theorem lkRX4_35 : LnkOK MT RX4 (3, 128, 32, 0, 4, 0) := ⟨cal32, tb_4 20 (by decide +kernel) rfl, tb_4 22 (by decide +kernel) rfl, tb_p 23 (by decide +kernel) rfl, (RX4, TX4, 13), rfl, rfl⟩
theorem lkRX4_36 : LnkOK MT RX4 (4, 131, 114, 1, 0, 0) := ⟨cal114, Or.inr ⟨"PureGroups", lw_4 24 (by decide +kernel)⟩, tb_2 188 (by decide +kernel) rfl⟩
theorem lkRX4_37 : LnkOK MT RX4 (0, 15, 4, 4, 0, 0) := ⟨RX4, TX4, 13, tyX4, rfl, rfl, by decide +kernel, by decide +kernel, uw4, tb_1 239 (by decide +kernel) rfl, tyX4_ok, nmX4, fun h => by cases h⟩
def lkRX4 : List Lnk := [(12, 43, 0, 0, 0, 0), (1, 49, 4, 2, 0, 0), (0, 9, 4, 1, 2, 0), (0, 49, 4, 2, 0, 0), (8, 52, 0, 0, 0, 0), (1, 58, 4, 3, 0, 0), (1, 15, 4, 4, 0, 0), (1, 61, 4, 5, 0, 0), (1, 64, 4, 6, 0, 0), (0, 19, 4, 7, 2, 0), (4, 67, 230, 2, 0, 0), (3, 73, 21, 1, 4, 0), (0, 24, 4, 8, 2, 0), (0, 33, 4, 11, 2, 0), (0, 58, 4, 3, 0, 0), (3, 77, 31, 1, 4, 0), (0, 36, 4, 12, 2, 0), (4, 80, 34, 2, 0, 0), (3, 84, 33, 1, 4, 0), (3, 87, 22, 1, 4, 0), (0, 27, 4, 9, 2, 0), (3, 90, 29, 2, 4, 0), (0, 61, 4, 5, 0, 0), (3, 94, 23, 2, 4, 0), (3, 98, 28, 0, 4, 0), (3, 102, 24, 1, 4, 0), (3, 106, 27, 0, 4, 0), (0, 39, 4, 0, 2, 0), (0, 109, 6, 0, 0, 0), (0, 64, 4, 6, 0, 0), (0, 114, 6, 2, 2, 0), (4, 117, 30, 1, 0, 0), (3, 121, 26, 0, 4, 0), (0, 30, 4, 10, 2, 0), (3, 124, 25, 2, 4, 0), (3, 128, 32, 0, 4, 0), (4, 131, 114, 1, 0, 0), (0, 15, 4, 4, 0, 0)]
theorem lkRX4_ok : ∀ q ∈ lkRX4, LnkOK MT RX4 q := List.forall_mem_cons.mpr ⟨lkRX4_0, List.forall_mem_cons.mpr ⟨lkRX4_1, List.forall_mem_cons.mpr ⟨lkRX4_2, List.forall_mem_cons.mpr ⟨lkRX4_3, List.forall_mem_cons.mpr ⟨lkRX4_4, List.forall_mem_cons.mpr ⟨lkRX4_5, List.forall_mem_cons.mpr ⟨lkRX4_6, List.forall_mem_cons.mpr ⟨lkRX4_7, List.forall_mem_cons.mpr ⟨lkRX4_8, List.forall_mem_cons.mpr ⟨lkRX4_9, List.forall_mem_cons.mpr ⟨lkRX4_10, List.forall_mem_cons.mpr ⟨lkRX4_11, List.forall_mem_cons.mpr ⟨lkRX4_12, List.forall_mem_cons.mpr ⟨lkRX4_13, List.forall_mem_cons.mpr ⟨lkRX4_14, List.forall_mem_cons.mpr ⟨lkRX4_15, List.forall_mem_cons.mpr ⟨lkRX4_16, List.forall_mem_cons.mpr ⟨lkRX4_17, List.forall_mem_cons.mpr ⟨lkRX4_18, List.forall_mem_cons.mpr ⟨lkRX4_19, List.forall_mem_cons.mpr ⟨lkRX4_20, List.forall_mem_cons.mpr ⟨lkRX4_21, List.forall_mem_cons.mpr ⟨lkRX4_22, List.forall_mem_cons.mpr ⟨lkRX4_23, List.forall_mem_cons.mpr ⟨lkRX4_24, List.forall_mem_cons.mpr ⟨lkRX4_25, List.forall_mem_cons.mpr ⟨lkRX4_26, List.forall_mem_cons.mpr ⟨lkRX4_27, List.forall_mem_cons.mpr ⟨lkRX4_28, List.forall_mem_cons.mpr ⟨lkRX4_29, List.forall_mem_cons.mpr ⟨lkRX4_30, List.forall_mem_cons.mpr ⟨lkRX4_31, List.forall_mem_cons.mpr ⟨lkRX4_32, List.forall_mem_cons.mpr ⟨lkRX4_33, List.forall_mem_cons.mpr ⟨lkRX4_34, List.forall_mem_cons.mpr ⟨lkRX4_35, List.forall_mem_cons.mpr ⟨lkRX4_36, List.forall_mem_cons.mpr ⟨lkRX4_37, fun _ h => absurd h List.not_mem_nil⟩⟩⟩⟩⟩⟩⟩⟩⟩⟩⟩⟩⟩⟩⟩⟩⟩⟩⟩⟩⟩⟩⟩⟩⟩⟩⟩⟩⟩⟩⟩⟩⟩⟩⟩⟩⟩⟩
theorem lkRX5_0 : LnkOK MT RX5 (0, 31, 5, 0, 2, 0) := ⟨RX5, TX5, 7, tyX5, rfl, rfl, by decide +kernel, by decide +kernel, uw5, tb_1 204 (by decide +kernel) rfl, tyX5_ok, nmX5, fun h => by cases h⟩
theorem lkRX5_1 : LnkOK MT RX5 (0, 35, 6, 3, 2, 0) := ⟨RX6, TX6, 5, tyX6, rfl, rfl, by decide +kernel, by decide +kernel, uw6, tb_1 141 (by decide +kernel) rfl, tyX6_ok, nmX6, fun h => by cases h⟩
theorem lkRX5_2 : LnkOK MT RX5 (0, 40, 6, 0, 0, 0) := ⟨RX6, TX6, 5, tyX6, rfl, rfl, by decide +kernel, by decide +kernel, uw6, tb_1 129 (by decide +kernel) rfl, tyX6_ok, nmX6, fun h => by cases h⟩
theorem lkRX5_3 : LnkOK MT RX5 (4, 43, 39, 4, 0, 0) := ⟨cal39, Or.inl (tb_3 48 (by decide +kernel) rfl), tb_3 49 (by decide +kernel) rfl⟩
theorem lkRX5_4 : LnkOK MT RX5 (0, 17, 5, 3, 0, 0) := ⟨RX5, TX5, 7, tyX5, rfl, rfl, by decide +kernel, by decide +kernel, uw5, tb_1 209 (by decide +kernel) rfl, tyX5_ok, nmX5, fun h => by cases h⟩
theorem lkRX5_5 : LnkOK MT RX5 (0, 47, 6, 1, 0, 0) := ⟨RX6, TX6, 5, tyX6, rfl, rfl, by decide +kernel, by decide +kernel, uw6, tb_1 134 (by decide +kernel) rfl, tyX6_ok, nmX6, fun h => by cases h⟩
theorem lkRX5_6 : LnkOK MT RX5 (1, 17, 5, 3, 0, 0) := ⟨RX5, TX5, 7, tyX5, rfl, rfl, by decide +kernel, by decide +kernel, uw5, tb_1 209 (by decide +kernel) rfl, tyX5_ok, nmX5, fun _ => ⟨by decide +kernel, by decide +kernel⟩⟩
theorem lkRX5_7 : LnkOK MT RX5 (1, 50, 5, 2, 0, 0) := ⟨RX5, TX5, 7, tyX5, rfl, rfl, by decide +kernel, by decide +kernel, uw5, tb_1 207 (by decide +kernel) rfl, tyX5_ok, nmX5, fun _ => ⟨by decide +kernel, by decide +kernel⟩⟩
theorem lkRX5_8 : LnkOK MT RX5 (0, 11, 5, 1, 2, 0) := ⟨RX5, TX5, 7, tyX5, rfl, rfl, by decide +kernel, by decide +kernel, uw5, tb_1 205 (by decide +kernel) rfl, tyX5_ok, nmX5, fun h => by cases h⟩
theorem lkRX5_9 : LnkOK MT RX5 (4, 53, 230, 2, 0, 0) := ⟨cal230, Or.inl (tb_3 59 (by decide +kernel) rfl), tb_2 110 (by decide +kernel) rfl⟩
theorem lkRX5_10 : LnkOK MT RX5 (0, 50, 5, 2, 0, 0) := ⟨RX5, TX5, 7, tyX5, rfl, rfl, by decide +kernel, by decide +kernel, uw5, tb_1 207 (by decide +kernel) rfl, tyX5_ok, nmX5, fun h => by cases h⟩
theorem lkRX5_11 : LnkOK MT RX5 (3, 59, 51, 0, 6, 0) := ⟨cal51, tb_3 60 (by decide +kernel) rfl, tb_2 183 (by decide +kernel) rfl, tb_2 184 (by decide +kernel) rfl, (RX6, TX6, 5), rfl, rfl⟩
theorem lkRX5_12 : LnkOK MT RX5 (4, 63, 41, 6, 0, 0) := ⟨cal41, Or.inl (tb_3 61 (by decide +kernel) rfl), tb_3 62 (by decide +kernel) rfl⟩
theorem lkRX5_13 : LnkOK MT RX5 (9, 67, 0, 0, 0, 0) := ⟨tb_3 64 (by decide +kernel) rfl, tb_3 22 (by decide +kernel) rfl, tb_1 12 (by decide +kernel) rfl, tb_3 23 (by decide +kernel) rfl⟩
theorem lkRX5_14 : LnkOK MT RX5 (0, 28, 5, 6, 2, 0) := ⟨RX5, TX5, 7, tyX5, rfl, rfl, by decide +kernel, by decide +kernel, uw5, tb_1 212 (by decide +kernel) rfl, tyX5_ok, nmX5, fun h => by cases h⟩
theorem lkRX5_15 : LnkOK MT RX5 (7, 73, 0, 0, 0, -9223372036854775808) := tb_3 202 (by decide +kernel) rfl
theorem lkRX5_16 : LnkOK MT RX5 (4, 75, 229, 2, 0, 0) := ⟨cal229, Or.inl (tb_3 203 (by decide +kernel) rfl), tb_3 204 (by decide +kernel) rfl⟩
theorem lkRX5_17 : LnkOK MT RX5 (4, 78, 43, 6, 0, 0) := ⟨cal43, Or.inl (tb_3 206 (by decide +kernel) rfl), tb_3 207 (by decide +kernel) rfl⟩
theorem lkRX5_18 : LnkOK MT RX5 (4, 82, 44, 2, 0, 0) := ⟨cal44, Or.inl (tb_3 209 (by decide +kernel) rfl), tb_3 210 (by decide +kernel) rfl⟩
theorem lkRX5_19 : LnkOK MT RX5 (7, 86, 0, 0, 0, -7046029254386353131) := tb_3 212 (by decide +kernel) rfl
theorem lkRX5_20 : LnkOK MT RX5 (7, 88, 0, 0, 0, 1024) := tb_3 213 (by decide +kernel) rfl
theorem lkRX5_21 : LnkOK MT RX5 (3, 90, 46, 1, 5, 0) := ⟨cal46, tb_3 186 (by decide +kernel) rfl, tb_3 188 (by decide +kernel) rfl, tb_p 14 (by decide +kernel) rfl, (RX5, TX5, 7), rfl, rfl⟩
theorem lkRX5_22 : LnkOK MT RX5 (0, 25, 5, 5, 2, 0) := ⟨RX5, TX5, 7, tyX5, rfl, rfl, by decide +kernel, by decide +kernel, uw5, tb_1 211 (by decide +kernel) rfl, tyX5_ok, nmX5, fun h => by cases h⟩
theorem lkRX5_23 : LnkOK MT RX5 (0, 21, 5, 4, 2, 0) := ⟨RX5, TX5, 7, tyX5, rfl, rfl, by decide +kernel, by decide +kernel, uw5, tb_1 210 (by decide +kernel) rfl, tyX5_ok, nmX5, fun h => by cases h⟩
theorem lkRX5_24 : LnkOK MT RX5 (4, 94, 50, 1, 0, 0) := ⟨cal50, Or.inl (tb_3 190 (by decide +kernel) rfl), tb_2 133 (by decide +kernel) rfl⟩
theorem lkRX5_25 : LnkOK MT RX5 (4, 98, 47, 6, 0, 0) := ⟨cal47, Or.inl (tb_3 191 (by decide +kernel) rfl), tb_3 192 (by decide +kernel) rfl⟩
def lkRX5 : List Lnk := [(0, 31, 5, 0, 2, 0), (0, 35, 6, 3, 2, 0), (0, 40, 6, 0, 0, 0), (4, 43, 39, 4, 0, 0), (0, 17, 5, 3, 0, 0), (0, 47, 6, 1, 0, 0), (1, 17, 5, 3, 0, 0), (1, 50, 5, 2, 0, 0), (0, 11, 5, 1, 2, 0), (4, 53, 230, 2, 0, 0), (0, 50, 5, 2, 0, 0), (3, 59, 51, 0, 6, 0), (4, 63, 41, 6, 0, 0), (9, 67, 0, 0, 0, 0), (0, 28, 5, 6, 2, 0), (7, 73, 0, 0, 0, -9223372036854775808), (4, 75, 229, 2, 0, 0), (4, 78, 43, 6, 0, 0), (4, 82, 44, 2, 0, 0), (7, 86, 0, 0, 0, -7046029254386353131), (7, 88, 0, 0, 0, 1024), (3, 90, 46, 1, 5, 0), (0, 25, 5, 5, 2, 0), (0, 21, 5, 4, 2, 0), (4, 94, 50, 1, 0, 0), (4, 98, 47, 6, 0, 0)]
theorem lkRX5_ok : ∀ q ∈ lkRX5, LnkOK MT RX5 q := List.forall_mem_cons.mpr ⟨lkRX5_0, List.forall_mem_cons.mpr ⟨lkRX5_1, List.forall_mem_cons.mpr ⟨lkRX5_2, List.forall_mem_cons.mpr ⟨lkRX5_3, List.forall_mem_cons.mpr ⟨lkRX5_4, List.forall_mem_cons.mpr ⟨lkRX5_5, List.forall_mem_cons.mpr ⟨lkRX5_6, List.forall_mem_cons.mpr ⟨lkRX5_7, List.forall_mem_cons.mpr ⟨lkRX5_8, List.forall_mem_cons.mpr ⟨lkRX5_9, List.forall_mem_cons.mpr ⟨lkRX5_10, List.forall_mem_cons.mpr ⟨lkRX5_11, List.forall_mem_cons.mpr ⟨lkRX5_12, List.forall_mem_cons.mpr ⟨lkRX5_13, List.forall_mem_cons.mpr ⟨lkRX5_14, List.forall_mem_cons.mpr ⟨lkRX5_15, List.forall_mem_cons.mpr ⟨lkRX5_16, List.forall_mem_cons.mpr ⟨lkRX5_17, List.forall_mem_cons.mpr ⟨lkRX5_18, List.forall_mem_cons.mpr ⟨lkRX5_19, List.forall_mem_cons.mpr ⟨lkRX5_20, List.forall_mem_cons.mpr ⟨lkRX5_21, List.forall_mem_cons.mpr ⟨lkRX5_22, List.forall_mem_cons.mpr ⟨lkRX5_23, List.forall_mem_cons.mpr ⟨lkRX5_24, List.forall_mem_cons.mpr ⟨lkRX5_25, fun _ h => absurd h List.not_mem_nil⟩⟩⟩⟩⟩⟩⟩⟩⟩⟩⟩⟩⟩⟩⟩⟩⟩⟩⟩⟩⟩⟩⟩⟩⟩⟩
theorem lkRX6_0 : LnkOK MT RX6 (0, 27, 3, 0, 0, 0) := ⟨RX3, TX3, 8, tyX3, rfl, rfl, by decide +kernel, by decide +kernel, uw3, tb_1 30 (by decide +kernel) rfl, tyX3_ok, nmX3, fun h => by cases h⟩
theorem lkRX6_1 : LnkOK MT RX6 (1, 33, 6, 0, 0, 0) := ⟨RX6, TX6, 5, tyX6, rfl, rfl, by decide +kernel, by decide +kernel, uw6, tb_1 128 (by decide +kernel) rfl, tyX6_ok, nmX6, fun _ => ⟨by decide +kernel, by decide +kernel⟩⟩
theorem lkRX6_2 : LnkOK MT RX6 (0, 34, 6, 1, 0, 0) := ⟨RX6, TX6, 5, tyX6, rfl, rfl, by decide +kernel, by decide +kernel, uw6, tb_1 133 (by decide +kernel) rfl, tyX6_ok, nmX6, fun h => by cases h⟩
theorem lkRX6_3 : LnkOK MT RX6 (1, 34, 6, 1, 0, 0) := ⟨RX6, TX6, 5, tyX6, rfl, rfl, by decide +kernel, by decide +kernel, uw6, tb_1 133 (by decide +kernel) rfl, tyX6_ok, nmX6, fun _ => ⟨by decide +kernel, by decide +kernel⟩⟩
theorem lkRX6_4 : LnkOK MT RX6 (0, 33, 6, 0, 0, 0) := ⟨RX6, TX6, 5, tyX6, rfl, rfl, by decide +kernel, by decide +kernel, uw6, tb_1 128 (by decide +kernel) rfl, tyX6_ok, nmX6, fun h => by cases h⟩
theorem lkRX6_5 : LnkOK MT RX6 (0, 37, 3, 1, 2, 0) := ⟨RX3, TX3, 8, tyX3, rfl, rfl, by decide +kernel, by decide +kernel, uw3, tb_1 34 (by decide +kernel) rfl, tyX3_ok, nmX3, fun h => by cases h⟩
theorem lkRX6_6 : LnkOK MT RX6 (0, 41, 3, 2, 2, 0) := ⟨RX3, TX3, 8, tyX3, rfl, rfl, by decide +kernel, by decide +kernel, uw3, tb_1 38 (by decide +kernel) rfl, tyX3_ok, nmX3, fun h => by cases h⟩
theorem lkRX6_7 : LnkOK MT RX6 (0, 11, 6, 2, 2, 0) := ⟨RX6, TX6, 5, tyX6, rfl, rfl, by decide +kernel, by decide +kernel, uw6, tb_1 136 (by decide +kernel) rfl, tyX6_ok, nmX6, fun h => by cases h⟩
theorem lkRX6_8 : LnkOK MT RX6 (4, 44, 49, 3, 0, 0) := ⟨cal49, Or.inl (tb_2 120 (by decide +kernel) rfl), tb_2 121 (by decide +kernel) rfl⟩
theorem lkRX6_9 : LnkOK MT RX6 (0, 16, 6, 3, 2, 0) := ⟨RX6, TX6, 5, tyX6, rfl, rfl, by decide +kernel, by decide +kernel, uw6, tb_1 140 (by decide +kernel) rfl, tyX6_ok, nmX6, fun h => by cases h⟩
theorem lkRX6_10 : LnkOK MT RX6 (4, 48, 50, 1, 0, 0) := ⟨cal50, Or.inl (tb_2 132 (by decide +kernel) rfl), tb_2 133 (by decide +kernel) rfl⟩
theorem lkRX6_11 : LnkOK MT RX6 (0, 23, 6, 4, 2, 0) := ⟨RX6, TX6, 5, tyX6, rfl, rfl, by decide +kernel, by decide +kernel, uw6, tb_1 143 (by decide +kernel) rfl, tyX6_ok, nmX6, fun h => by cases h⟩
theorem lkRX6_12 : LnkOK MT RX6 (3, 52, 4, 3, 1, 0) := ⟨cal4, tb_2 136 (by decide +kernel) rfl, tb_2 137 (by decide +kernel) rfl, tb_2 138 (by decide +kernel) rfl, (RX1, TX1, 6), rfl, rfl⟩
theorem lkRX6_13 : LnkOK MT RX6 (8, 56, 0, 0, 0, 0) := ⟨tb_2 123 (by decide +kernel) rfl, tb_2 125 (by decide +kernel) rfl, tb_2 124 (by decide +kernel) rfl, tb_1 11 (by decide +kernel) rfl⟩
theorem lkRX6_14 : LnkOK MT RX6 (2, 62, 1001, 0, 0, 0) := ⟨1, by decide, rfl, Or.inr ⟨"PureGroups", lw_2 126 (by decide +kernel)⟩⟩
theorem lkRX6_15 : LnkOK MT RX6 (2, 65, 1002, 0, 0, 0) := ⟨2, by decide, rfl, Or.inr ⟨"PureGroups", lw_2 128 (by decide +kernel)⟩⟩
theorem lkRX6_16 : LnkOK MT RX6 (2, 68, 1003, 0, 0, 0) := ⟨3, by decide, rfl, Or.inr ⟨"PureGroups", lw_2 130 (by decide +kernel)⟩⟩
theorem lkRX6_17 : LnkOK MT RX6 (7, 71, 0, 0, 0, 4096) := tb_2 135 (by decide +kernel) rfl
theorem lkRX6_18 : LnkOK MT RX6 (0, 73, 1, 4, 0, 0) := ⟨RX1, TX1, 6, tyX1, rfl, rfl, by decide +kernel, by decide +kernel, uw1, tb_1 112 (by decide +kernel) rfl, tyX1_ok, nmX1, fun h => by cases h⟩
theorem lkRX6_19 : LnkOK MT RX6 (3, 76, 51, 0, 6, 0) := ⟨cal51, tb_2 220 (by decide +kernel) rfl, tb_2 183 (by decide +kernel) rfl, tb_2 184 (by decide +kernel) rfl, (RX6, TX6, 5), rfl, rfl⟩
theorem lkRX6_20 : LnkOK MT RX6 (4, 80, 112, 2, 0, 0) := ⟨cal112, Or.inr ⟨"PureGroups", lw_2 221 (by decide +kernel)⟩, tb_2 141 (by decide +kernel) rfl⟩
theorem lkRX6_21 : LnkOK MT RX6 (3, 84, 55, 1, 6, 0) := ⟨cal55, tb_3 17 (by decide +kernel) rfl, tb_3 18 (by decide +kernel) rfl, tb_3 19 (by decide +kernel) rfl, (RX6, TX6, 5), rfl, rfl⟩
theorem lkRX6_22 : LnkOK MT RX6 (9, 88, 0, 0, 0, 0) := ⟨tb_3 21 (by decide +kernel) rfl, tb_3 22 (by decide +kernel) rfl, tb_1 12 (by decide +kernel) rfl, tb_3 23 (by decide +kernel) rfl⟩
def lkRX6 : List Lnk := [(0, 27, 3, 0, 0, 0), (1, 33, 6, 0, 0, 0), (0, 34, 6, 1, 0, 0), (1, 34, 6, 1, 0, 0), (0, 33, 6, 0, 0, 0), (0, 37, 3, 1, 2, 0), (0, 41, 3, 2, 2, 0), (0, 11, 6, 2, 2, 0), (4, 44, 49, 3, 0, 0), (0, 16, 6, 3, 2, 0), (4, 48, 50, 1, 0, 0), (0, 23, 6, 4, 2, 0), (3, 52, 4, 3, 1, 0), (8, 56, 0, 0, 0, 0), (2, 62, 1001, 0, 0, 0), (2, 65, 1002, 0, 0, 0), (2, 68, 1003, 0, 0, 0), (7, 71, 0, 0, 0, 4096), (0, 73, 1, 4, 0, 0), (3, 76, 51, 0, 6, 0), (4, 80, 112, 2, 0, 0), (3, 84, 55, 1, 6, 0), (9, 88, 0, 0, 0, 0)]
theorem lkRX6_ok : ∀ q ∈ lkRX6, LnkOK MT RX6 q := List.forall_mem_cons.mpr ⟨lkRX6_0, List.forall_mem_cons.mpr ⟨lkRX6_1, List.forall_mem_cons.mpr ⟨lkRX6_2, List.forall_mem_cons.mpr ⟨lkRX6_3, List.forall_mem_cons.mpr ⟨lkRX6_4, List.forall_mem_cons.mpr ⟨lkRX6_5, List.forall_mem_cons.mpr ⟨lkRX6_6, List.forall_mem_cons.mpr ⟨lkRX6_7, List.forall_mem_cons.mpr ⟨lkRX6_8, List.forall_mem_cons.mpr ⟨lkRX6_9, List.forall_mem_cons.mpr ⟨lkRX6_10, List.forall_mem_cons.mpr ⟨lkRX6_11, List.forall_mem_cons.mpr ⟨lkRX6_12, List.forall_mem_cons.mpr ⟨lkRX6_13, List.forall_mem_cons.mpr ⟨lkRX6_14, List.forall_mem_cons.mpr ⟨lkRX6_15, List.forall_mem_cons.mpr ⟨lkRX6_16, List.forall_mem_cons.mpr ⟨lkRX6_17, List.forall_mem_cons.mpr ⟨lkRX6_18, List.forall_mem_cons.mpr ⟨lkRX6_19, List.forall_mem_cons.mpr ⟨lkRX6_20, List.forall_mem_cons.mpr ⟨lkRX6_21, List.forall_mem_cons.mpr ⟨lkRX6_22, fun _ h => absurd h List.not_mem_nil⟩⟩⟩⟩⟩⟩⟩⟩⟩⟩⟩⟩⟩⟩⟩⟩⟩⟩⟩⟩⟩⟩⟩
theorem lkRX7_0 : LnkOK MT RX7 (3, 80, 96, 1, 7, 0) := ⟨cal96, tb_2 94 (by decide +kernel) rfl, tb_2 96 (by decide +kernel) rfl, tb_p 0 (by decide +kernel) rfl, (RX7, TX7, 16), rfl, rfl⟩
theorem lkRX7_1 : LnkOK MT RX7 (0, 84, 7, 9, 0, 0) := ⟨RX7, TX7, 16, tyX7, rfl, rfl, by decide +kernel, by decide +kernel, uw7, tb_2 50 (by decide +kernel) rfl, tyX7_ok, nmX7, fun h => by cases h⟩
theorem lkRX7_2 : LnkOK MT RX7 (0, 56, 7, 8, 2, 0) := ⟨RX7, TX7, 16, tyX7, rfl, rfl, by decide +kernel, by decide +kernel, uw7, tb_2 49 (by decide +kernel) rfl, tyX7_ok, nmX7, fun h => by cases h⟩
theorem lkRX7_3 : LnkOK MT RX7 (1, 84, 7, 9, 0, 0) := ⟨RX7, TX7, 16, tyX7, rfl, rfl, by decide +kernel, by decide +kernel, uw7, tb_2 50 (by decide +kernel) rfl, tyX7_ok, nmX7, fun _ => ⟨by decide +kernel, by decide +kernel⟩⟩
theorem lkRX7_4 : LnkOK MT RX7 (4, 88, 101, 1, 0, 0) := ⟨cal101, Or.inl (tb_2 102 (by decide +kernel) rfl), tb_2 103 (by decide +kernel) rfl⟩
theorem lkRX7_5 : LnkOK MT RX7 (0, 10, 7, 0, 2, 0) := ⟨RX7, TX7, 16, tyX7, rfl, rfl, by decide +kernel, by decide +kernel, uw7, tb_2 41 (by decide +kernel) rfl, tyX7_ok, nmX7, fun h => by cases h⟩
theorem lkRX7_6 : LnkOK MT RX7 (0, 92, 3, 0, 0, 0) := ⟨RX3, TX3, 8, tyX3, rfl, rfl, by decide +kernel, by decide +kernel, uw3, tb_1 32 (by decide +kernel) rfl, tyX3_ok, nmX3, fun h => by cases h⟩
theorem lkRX7_7 : LnkOK MT RX7 (3, 95, 12, 1, 3, 0) := ⟨cal12, tb_2 105 (by decide +kernel) rfl, tb_2 106 (by decide +kernel) rfl, tb_2 107 (by decide +kernel) rfl, (RX3, TX3, 8), rfl, rfl⟩
theorem lkRX7_8 : LnkOK MT RX7 (0, 22, 7, 3, 2, 0) := ⟨RX7, TX7, 16, tyX7, rfl, rfl, by decide +kernel, by decide +kernel, uw7, tb_2 44 (by decide +kernel) rfl, tyX7_ok, nmX7, fun h => by cases h⟩
theorem lkRX7_9 : LnkOK MT RX7 (3, 99, 9, 0, 2, 0) := ⟨cal9, tb_2 112 (by decide +kernel) rfl, tb_2 113 (by decide +kernel) rfl, tb_2 114 (by decide +kernel) rfl, (RX2, TX2, 3), rfl, rfl⟩
theorem lkRX7_10 : LnkOK MT RX7 (0, 29, 7, 4, 2, 0) := ⟨RX7, TX7, 16, tyX7, rfl, rfl, by decide +kernel, by decide +kernel, uw7, tb_2 45 (by decide +kernel) rfl, tyX7_ok, nmX7, fun h => by cases h⟩
theorem lkRX7_11 : LnkOK MT RX7 (3, 102, 48, 1, 6, 0) := ⟨cal48, tb_2 116 (by decide +kernel) rfl, tb_2 117 (by decide +kernel) rfl, tb_2 118 (by decide +kernel) rfl, (RX6, TX6, 5), rfl, rfl⟩
theorem lkRX7_12 : LnkOK MT RX7 (3, 106, 99, 1, 7, 0) := ⟨cal99, tb_2 155 (by decide +kernel) rfl, tb_2 157 (by decide +kernel) rfl, tb_p 3 (by decide +kernel) rfl, (RX7, TX7, 16), rfl, rfl⟩
theorem lkRX7_13 : LnkOK MT RX7 (4, 109, 100, 1, 0, 0) := ⟨cal100, Or.inl (tb_2 159 (by decide +kernel) rfl), tb_2 160 (by decide +kernel) rfl⟩
theorem lkRX7_14 : LnkOK MT RX7 (3, 112, 97, 1, 7, 0) := ⟨cal97, tb_2 162 (by decide +kernel) rfl, tb_2 164 (by decide +kernel) rfl, tb_p 4 (by decide +kernel) rfl, (RX7, TX7, 16), rfl, rfl⟩
theorem lkRX7_15 : LnkOK MT RX7 (0, 115, 3, 2, 2, 0) := ⟨RX3, TX3, 8, tyX3, rfl, rfl, by decide +kernel, by decide +kernel, uw3, tb_1 39 (by decide +kernel) rfl, tyX3_ok, nmX3, fun h => by cases h⟩
theorem lkRX7_16 : LnkOK MT RX7 (3, 118, 8, 4, 2, 0) := ⟨cal8, tb_2 167 (by decide +kernel) rfl, tb_2 168 (by decide +kernel) rfl, tb_2 169 (by decide +kernel) rfl, (RX2, TX2, 3), rfl, rfl⟩
theorem lkRX7_17 : LnkOK MT RX7 (0, 122, 3, 1, 2, 0) := ⟨RX3, TX3, 8, tyX3, rfl, rfl, by decide +kernel, by decide +kernel, uw3, tb_1 36 (by decide +kernel) rfl, tyX3_ok, nmX3, fun h => by cases h⟩
theorem lkRX7_18 : LnkOK MT RX7 (3, 125, 51, 0, 6, 0) := ⟨cal51, tb_2 182 (by decide +kernel) rfl, tb_2 183 (by decide +kernel) rfl, tb_2 184 (by decide +kernel) rfl, (RX6, TX6, 5), rfl, rfl⟩
theorem lkRX7_19 : LnkOK MT RX7 (4, 129, 112, 2, 0, 0) := ⟨cal112, Or.inl (tb_2 186 (by decide +kernel) rfl), tb_2 141 (by decide +kernel) rfl⟩
theorem lkRX7_20 : LnkOK MT RX7 (0, 133, 6, 2, 2, 0) := ⟨RX6, TX6, 5, tyX6, rfl, rfl, by decide +kernel, by decide +kernel, uw6, tb_1 139 (by decide +kernel) rfl, tyX6_ok, nmX6, fun h => by cases h⟩
theorem lkRX7_21 : LnkOK MT RX7 (4, 136, 114, 1, 0, 0) := ⟨cal114, Or.inl (tb_2 187 (by decide +kernel) rfl), tb_2 188 (by decide +kernel) rfl⟩
theorem lkRX7_22 : LnkOK MT RX7 (0, 140, 6, 0, 0, 0) := ⟨RX6, TX6, 5, tyX6, rfl, rfl, by decide +kernel, by decide +kernel, uw6, tb_1 132 (by decide +kernel) rfl, tyX6_ok, nmX6, fun h => by cases h⟩
theorem lkRX7_23 : LnkOK MT RX7 (0, 141, 6, 3, 2, 0) := ⟨RX6, TX6, 5, tyX6, rfl, rfl, by decide +kernel, by decide +kernel, uw6, tb_1 142 (by decide +kernel) rfl, tyX6_ok, nmX6, fun h => by cases h⟩
theorem lkRX7_24 : LnkOK MT RX7 (2, 145, 1000, 0, 0, 0) := ⟨0, by decide, rfl, Or.inl (tb_2 198 (by decide +kernel) rfl)⟩
theorem lkRX7_25 : LnkOK MT RX7 (0, 148, 6, 4, 2, 0) := ⟨RX6, TX6, 5, tyX6, rfl, rfl, by decide +kernel, by decide +kernel, uw6, tb_1 145 (by decide +kernel) rfl, tyX6_ok, nmX6, fun h => by cases h⟩
theorem lkRX7_26 : LnkOK MT RX7 (0, 152, 1, 3, 0, 0) := ⟨RX1, TX1, 6, tyX1, rfl, rfl, by decide +kernel, by decide +kernel, uw1, tb_1 109 (by decide +kernel) rfl, tyX1_ok, nmX1, fun h => by cases h⟩
theorem lkRX7_27 : LnkOK MT RX7 (3, 157, 53, 0, 6, 0) := ⟨cal53, tb_2 204 (by decide +kernel) rfl, tb_2 205 (by decide +kernel) rfl, tb_2 206 (by decide +kernel) rfl, (RX6, TX6, 5), rfl, rfl⟩
theorem lkRX7_28 : LnkOK MT RX7 (3, 160, 104, 1, 7, 0) := ⟨cal104, tb_2 212 (by decide +kernel) rfl, tb_2 214 (by decide +kernel) rfl, tb_p 5 (by decide +kernel) rfl, (RX7, TX7, 16), rfl, rfl⟩
theorem lkRX7_29 : LnkOK MT RX7 (3, 163, 52, 1, 6, 0) := ⟨cal52, tb_2 216 (by decide +kernel) rfl, tb_2 217 (by decide +kernel) rfl, tb_2 218 (by decide +kernel) rfl, (RX6, TX6, 5), rfl, rfl⟩
theorem lkRX7_30 : LnkOK MT RX7 (0, 68, 7, 12, 2, 0) := ⟨RX7, TX7, 16, tyX7, rfl, rfl, by decide +kernel, by decide +kernel, uw7, tb_2 53 (by decide +kernel) rfl, tyX7_ok, nmX7, fun h => by cases h⟩
theorem lkRX7_31 : LnkOK MT RX7 (3, 166, 7, 2, 1, 0) := ⟨cal7, tb_2 222 (by decide +kernel) rfl, tb_2 223 (by decide +kernel) rfl, tb_2 224 (by decide +kernel) rfl, (RX1, TX1, 6), rfl, rfl⟩
theorem lkRX7_32 : LnkOK MT RX7 (4, 170, 107, 1, 0, 0) := ⟨cal107, Or.inl (tb_2 238 (by decide +kernel) rfl), tb_2 239 (by decide +kernel) rfl⟩
theorem lkRX7_33 : LnkOK MT RX7 (3, 173, 108, 1, 7, 0) := ⟨cal108, tb_3 1 (by decide +kernel) rfl, tb_3 3 (by decide +kernel) rfl, tb_p 6 (by decide +kernel) rfl, (RX7, TX7, 16), rfl, rfl⟩
theorem lkRX7_34 : LnkOK MT RX7 (0, 71, 7, 13, 2, 0) := ⟨RX7, TX7, 16, tyX7, rfl, rfl, by decide +kernel, by decide +kernel, uw7, tb_2 54 (by decide +kernel) rfl, tyX7_ok, nmX7, fun h => by cases h⟩
theorem lkRX7_35 : LnkOK MT RX7 (3, 176, 110, 3, 7, 0) := ⟨cal110, tb_3 5 (by decide +kernel) rfl, tb_3 7 (by decide +kernel) rfl, tb_p 7 (by decide +kernel) rfl, (RX7, TX7, 16), rfl, rfl⟩
theorem lkRX7_36 : LnkOK MT RX7 (3, 180, 54, 1, 6, 0) := ⟨cal54, tb_3 13 (by decide +kernel) rfl, tb_3 14 (by decide +kernel) rfl, tb_3 15 (by decide +kernel) rfl, (RX6, TX6, 5), rfl, rfl⟩
theorem lkRX7_37 : LnkOK MT RX7 (3, 183, 98, 1, 7, 0) := ⟨cal98, tb_3 28 (by decide +kernel) rfl, tb_3 30 (by decide +kernel) rfl, tb_p 9 (by decide +kernel) rfl, (RX7, TX7, 16), rfl, rfl⟩
theorem lkRX7_38 : LnkOK MT RX7 (4, 187, 102, 1, 0, 0) := ⟨cal102, Or.inl (tb_3 33 (by decide +kernel) rfl), tb_3 34 (by decide +kernel) rfl⟩
theorem lkRX7_39 : LnkOK MT RX7 (4, 190, 116, 3, 0, 0) := ⟨cal116, Or.inl (tb_3 36 (by decide +kernel) rfl), tb_3 37 (by decide +kernel) rfl⟩
theorem lkRX7_40 : LnkOK MT RX7 (0, 45, 7, 6, 2, 0) := ⟨RX7, TX7, 16, tyX7, rfl, rfl, by decide +kernel, by decide +kernel, uw7, tb_2 47 (by decide +kernel) rfl, tyX7_ok, nmX7, fun h => by cases h⟩
theorem lkRX7_41 : LnkOK MT RX7 (3, 194, 38, 0, 5, 0) := ⟨cal38, tb_3 44 (by decide +kernel) rfl, tb_3 45 (by decide +kernel) rfl, tb_3 46 (by decide +kernel) rfl, (RX5, TX5, 7), rfl, rfl⟩
theorem lkRX7_42 : LnkOK MT RX7 (3, 197, 40, 0, 5, 0) := ⟨cal40, tb_3 55 (by decide +kernel) rfl, tb_3 56 (by decide +kernel) rfl, tb_3 57 (by decide +kernel) rfl, (RX5, TX5, 7), rfl, rfl⟩
theorem lkRX7_43 : LnkOK MT RX7 (0, 200, 5, 2, 0, 0) := ⟨RX5, TX5, 7, tyX5, rfl, rfl, by decide +kernel, by decide +kernel, uw5, tb_1 208 (by decide +kernel) rfl, tyX5_ok, nmX5, fun h => by cases h⟩
theorem lkRX7_44 : LnkOK MT RX7 (0, 203, 5, 1, 2, 0) := ⟨RX5, TX5, 7, tyX5, rfl, rfl, by decide +kernel, by decide +kernel, uw5, tb_1 206 (by decide +kernel) rfl, tyX5_ok, nmX5, fun h => by cases h⟩
theorem lkRX7_45 : LnkOK MT RX7 (3, 206, 105, 1, 7, 0) := ⟨cal105, tb_3 69 (by decide +kernel) rfl, tb_3 71 (by decide +kernel) rfl, tb_p 10 (by decide +kernel) rfl, (RX7, TX7, 16), rfl, rfl⟩
theorem lkRX7_46 : LnkOK MT RX7 (0, 38, 7, 5, 2, 0) := ⟨RX7, TX7, 16, tyX7, rfl, rfl, by decide +kernel, by decide +kernel, uw7, tb_2 46 (by decide +kernel) rfl, tyX7_ok, nmX7, fun h => by cases h⟩
theorem lkRX7_47 : LnkOK MT RX7 (3, 209, 0, 1, 0, 0) := ⟨cal0, tb_3 73 (by decide +kernel) rfl, tb_3 74 (by decide +kernel) rfl, tb_3 75 (by decide +kernel) rfl, (RX0, TX0, 9), rfl, rfl⟩
theorem lkRX7_48 : LnkOK MT RX7 (3, 212, 106, 2, 7, 0) := ⟨cal106, tb_3 88 (by decide +kernel) rfl, tb_3 90 (by decide +kernel) rfl, tb_p 11 (by decide +kernel) rfl, (RX7, TX7, 16), rfl, rfl⟩
theorem lkRX7_49 : LnkOK MT RX7 (0, 216, 0, 1, 2, 0) := ⟨RX0, TX0, 9, tyX0, rfl, rfl, by decide +kernel, by decide +kernel, uw0, tb_1 167 (by decide +kernel) rfl, tyX0_ok, nmX0, fun h => by cases h⟩
theorem lkRX7_50 : LnkOK MT RX7 (3, 219, 2, 0, 0, 0) := ⟨cal2, tb_3 96 (by decide +kernel) rfl, tb_3 97 (by decide +kernel) rfl, tb_3 98 (by decide +kernel) rfl, (RX0, TX0, 9), rfl, rfl⟩
theorem lkRX7_51 : LnkOK MT RX7 (0, 222, 0, 4, 0, 0) := ⟨RX0, TX0, 9, tyX0, rfl, rfl, by decide +kernel, by decide +kernel, uw0, tb_1 171 (by decide +kernel) rfl, tyX0_ok, nmX0, fun h => by cases h⟩
theorem lkRX7_52 : LnkOK MT RX7 (0, 225, 0, 6, 0, 0) := ⟨RX0, TX0, 9, tyX0, rfl, rfl, by decide +kernel, by decide +kernel, uw0, tb_1 175 (by decide +kernel) rfl, tyX0_ok, nmX0, fun h => by cases h⟩
theorem lkRX7_53 : LnkOK MT RX7 (0, 228, 0, 7, 0, 0) := ⟨RX0, TX0, 9, tyX0, rfl, rfl, by decide +kernel, by decide +kernel, uw0, tb_1 177 (by decide +kernel) rfl, tyX0_ok, nmX0, fun h => by cases h⟩
theorem lkRX7_54 : LnkOK MT RX7 (3, 231, 1, 0, 0, 0) := ⟨cal1, tb_3 116 (by decide +kernel) rfl, tb_3 106 (by decide +kernel) rfl, tb_3 107 (by decide +kernel) rfl, (RX0, TX0, 9), rfl, rfl⟩
theorem lkRX7_55 : LnkOK MT RX7 (0, 235, 0, 5, 0, 0) := ⟨RX0, TX0, 9, tyX0, rfl, rfl, by decide +kernel, by decide +kernel, uw0, tb_1 173 (by decide +kernel) rfl, tyX0_ok, nmX0, fun h => by cases h⟩
theorem lkRX7_56 : LnkOK MT RX7 (0, 238, 3, 3, 2, 0) := ⟨RX3, TX3, 8, tyX3, rfl, rfl, by decide +kernel, by decide +kernel, uw3, tb_1 43 (by decide +kernel) rfl, tyX3_ok, nmX3, fun h => by cases h⟩
theorem lkRX7_57 : LnkOK MT RX7 (0, 241, 3, 4, 2, 0) := ⟨RX3, TX3, 8, tyX3, rfl, rfl, by decide +kernel, by decide +kernel, uw3, tb_1 46 (by decide +kernel) rfl, tyX3_ok, nmX3, fun h => by cases h⟩
theorem lkRX7_58 : LnkOK MT RX7 (3, 244, 15, 1, 3, 0) := ⟨cal15, tb_3 129 (by decide +kernel) rfl, tb_3 130 (by decide +kernel) rfl, tb_3 131 (by decide +kernel) rfl, (RX3, TX3, 8), rfl, rfl⟩
theorem lkRX7_59 : LnkOK MT RX7 (4, 247, 113, 1, 0, 0) := ⟨cal113, Or.inl (tb_3 137 (by decide +kernel) rfl), tb_3 138 (by decide +kernel) rfl⟩
theorem lkRX7_60 : LnkOK MT RX7 (3, 251, 17, 1, 3, 0) := ⟨cal17, tb_3 140 (by decide +kernel) rfl, tb_3 141 (by decide +kernel) rfl, tb_3 142 (by decide +kernel) rfl, (RX3, TX3, 8), rfl, rfl⟩
theorem lkRX7_61 : LnkOK MT RX7 (3, 254, 111, 1, 7, 0) := ⟨cal111, tb_3 149 (by decide +kernel) rfl, tb_3 151 (by decide +kernel) rfl, tb_p 13 (by decide +kernel) rfl, (RX7, TX7, 16), rfl, rfl⟩
theorem lkRX7_62 : LnkOK MT RX7 (4, 257, 103, 1, 0, 0) := ⟨cal103, Or.inl (tb_3 167 (by decide +kernel) rfl), tb_3 168 (by decide +kernel) rfl⟩
theorem lkRX7_63 : LnkOK MT RX7 (3, 260, 18, 3, 3, 0) := ⟨cal18, tb_3 155 (by decide +kernel) rfl, tb_3 156 (by decide +kernel) rfl, tb_3 157 (by decide +kernel) rfl, (RX3, TX3, 8), rfl, rfl⟩
theorem lkRX7_64 : LnkOK MT RX7 (2, 264, 1004, 0, 0, 0) := ⟨4, by decide, rfl, Or.inl (tb_3 153 (by decide +kernel) rfl)⟩
theorem lkRX7_65 : LnkOK MT RX7 (0, 74, 7, 14, 2, 0) := ⟨RX7, TX7, 16, tyX7, rfl, rfl, by decide +kernel, by decide +kernel, uw7, tb_2 55 (by decide +kernel) rfl, tyX7_ok, nmX7, fun h => by cases h⟩
theorem lkRX7_66 : LnkOK MT RX7 (3, 267, 45, 2, 5, 0) := ⟨cal45, tb_3 182 (by decide +kernel) rfl, tb_3 183 (by decide +kernel) rfl, tb_3 184 (by decide +kernel) rfl, (RX5, TX5, 7), rfl, rfl⟩
theorem lkRX7_67 : LnkOK MT RX7 (3, 271, 42, 1, 5, 0) := ⟨cal42, tb_3 198 (by decide +kernel) rfl, tb_3 199 (by decide +kernel) rfl, tb_3 200 (by decide +kernel) rfl, (RX5, TX5, 7), rfl, rfl⟩
theorem lkRX7_68 : LnkOK MT RX7 (0, 52, 7, 7, 2, 0) := ⟨RX7, TX7, 16, tyX7, rfl, rfl, by decide +kernel, by decide +kernel, uw7, tb_2 48 (by decide +kernel) rfl, tyX7_ok, nmX7, fun h => by cases h⟩
theorem lkRX7_69 : LnkOK MT RX7 (3, 274, 20, 2, 4, 0) := ⟨cal20, tb_3 218 (by decide +kernel) rfl, tb_3 219 (by decide +kernel) rfl, tb_3 220 (by decide +kernel) rfl, (RX4, TX4, 13), rfl, rfl⟩
theorem lkRX7_70 : LnkOK MT RX7 (0, 278, 4, 4, 0, 0) := ⟨RX4, TX4, 13, tyX4, rfl, rfl, by decide +kernel, by decide +kernel, uw4, tb_2 0 (by decide +kernel) rfl, tyX4_ok, nmX4, fun h => by cases h⟩
theorem lkRX7_71 : LnkOK MT RX7 (0, 281, 4, 5, 0, 0) := ⟨RX4, TX4, 13, tyX4, rfl, rfl, by decide +kernel, by decide +kernel, uw4, tb_2 2 (by decide +kernel) rfl, tyX4_ok, nmX4, fun h => by cases h⟩
theorem lkRX7_72 : LnkOK MT RX7 (3, 284, 13, 3, 3, 0) := ⟨cal13, tb_4 40 (by decide +kernel) rfl, tb_4 41 (by decide +kernel) rfl, tb_4 42 (by decide +kernel) rfl, (RX3, TX3, 8), rfl, rfl⟩
theorem lkRX7_73 : LnkOK MT RX7 (3, 288, 14, 0, 3, 0) := ⟨cal14, tb_4 50 (by decide +kernel) rfl, tb_4 51 (by decide +kernel) rfl, tb_4 52 (by decide +kernel) rfl, (RX3, TX3, 8), rfl, rfl⟩
theorem lkRX7_74 : LnkOK MT RX7 (0, 292, 3, 5, 2, 0) := ⟨RX3, TX3, 8, tyX3, rfl, rfl, by decide +kernel, by decide +kernel, uw3, tb_1 48 (by decide +kernel) rfl, tyX3_ok, nmX3, fun h => by cases h⟩
theorem lkRX7_75 : LnkOK MT RX7 (0, 293, 3, 6, 0, 0) := ⟨RX3, TX3, 8, tyX3, rfl, rfl, by decide +kernel, by decide +kernel, uw3, tb_1 50 (by decide +kernel) rfl, tyX3_ok, nmX3, fun h => by cases h⟩
theorem lkRX7_76 : LnkOK MT RX7 (3, 296, 36, 0, 4, 0) := ⟨cal36, tb_4 54 (by decide +kernel) rfl, tb_4 55 (by decide +kernel) rfl, tb_4 56 (by decide +kernel) rfl, (RX4, TX4, 13), rfl, rfl⟩
theorem lkRX7_77 : LnkOK MT RX7 (3, 299, 37, 0, 4, 0) := ⟨cal37, tb_4 58 (by decide +kernel) rfl, tb_4 59 (by decide +kernel) rfl, tb_4 60 (by decide +kernel) rfl, (RX4, TX4, 13), rfl, rfl⟩
theorem lkRX7_78 : LnkOK MT RX7 (0, 302, 4, 6, 0, 0) := ⟨RX4, TX4, 13, tyX4, rfl, rfl, by decide +kernel, by decide +kernel, uw4, tb_2 4 (by decide +kernel) rfl, tyX4_ok, nmX4, fun h => by cases h⟩
theorem lkRX7_79 : LnkOK MT RX7 (0, 305, 4, 11, 2, 0) := ⟨RX4, TX4, 13, tyX4, rfl, rfl, by decide +kernel, by decide +kernel, uw4, tb_2 10 (by decide +kernel) rfl, tyX4_ok, nmX4, fun h => by cases h⟩
theorem lkRX7_80 : LnkOK MT RX7 (0, 308, 4, 12, 2, 0) := ⟨RX4, TX4, 13, tyX4, rfl, rfl, by decide +kernel, by decide +kernel, uw4, tb_2 12 (by decide +kernel) rfl, tyX4_ok, nmX4, fun h => by cases h⟩
theorem lkRX7_81 : LnkOK MT RX7 (3, 311, 35, 1, 4, 0) := ⟨cal35, tb_4 66 (by decide +kernel) rfl, tb_4 67 (by decide +kernel) rfl, tb_4 68 (by decide +kernel) rfl, (RX4, TX4, 13), rfl, rfl⟩
theorem lkRX7_82 : LnkOK MT RX7 (6, 314, 0, 0, 0, 1664525) := tb_4 78 (by decide +kernel) rfl
theorem lkRX7_83 : LnkOK MT RX7 (6, 315, 0, 0, 0, 1013904223) := tb_4 79 (by decide +kernel) rfl
theorem lkRX7_84 : LnkOK MT RX7 (6, 316, 0, 0, 0, 2147483647) := tb_4 80 (by decide +kernel) rfl
theorem lkRX7_85 : LnkOK MT RX7 (3, 317, 55, 1, 6, 0) := ⟨cal55, tb_4 81 (by decide +kernel) rfl, tb_3 18 (by decide +kernel) rfl, tb_3 19 (by decide +kernel) rfl, (RX6, TX6, 5), rfl, rfl⟩
theorem lkRX7_86 : LnkOK MT RX7 (0, 62, 7, 10, 2, 0) := ⟨RX7, TX7, 16, tyX7, rfl, rfl, by decide +kernel, by decide +kernel, uw7, tb_2 51 (by decide +kernel) rfl, tyX7_ok, nmX7, fun h => by cases h⟩
theorem lkRX7_87 : LnkOK MT RX7 (4, 320, 230, 2, 0, 0) := ⟨cal230, Or.inl (tb_4 86 (by decide +kernel) rfl), tb_2 110 (by decide +kernel) rfl⟩
theorem lkRX7_88 : LnkOK MT RX7 (0, 65, 7, 11, 2, 0) := ⟨RX7, TX7, 16, tyX7, rfl, rfl, by decide +kernel, by decide +kernel, uw7, tb_2 52 (by decide +kernel) rfl, tyX7_ok, nmX7, fun h => by cases h⟩
theorem lkRX7_89 : LnkOK MT RX7 (3, 325, 109, 2, 7, 0) := ⟨cal109, tb_3 9 (by decide +kernel) rfl, tb_3 11 (by decide +kernel) rfl, tb_p 8 (by decide +kernel) rfl, (RX7, TX7, 16), rfl, rfl⟩
theorem lkRX7_90 : LnkOK MT RX7 (8, 328, 0, 0, 0, 0) := ⟨tb_4 99 (by decide +kernel) rfl, tb_2 125 (by decide +kernel) rfl, tb_2 124 (by decide +kernel) rfl, tb_1 11 (by decide +kernel) rfl⟩
theorem lkRX7_91 : LnkOK MT RX7 (0, 334, 2, 2, 0, 0) := ⟨RX2, TX2, 3, tyX2, rfl, rfl, by decide +kernel, by decide +kernel, uw2, tb_1 81 (by decide +kernel) rfl, tyX2_ok, nmX2, fun h => by cases h⟩
theorem lkRX7_92 : LnkOK MT RX7 (3, 335, 10, 1, 2, 0) := ⟨cal10, tb_4 108 (by decide +kernel) rfl, tb_4 109 (by decide +kernel) rfl, tb_4 110 (by decide +kernel) rfl, (RX2, TX2, 3), rfl, rfl⟩
theorem lkRX7_93 : LnkOK MT RX7 (0, 16, 7, 1, 2, 0) := ⟨RX7, TX7, 16, tyX7, rfl, rfl, by decide +kernel, by decide +kernel, uw7, tb_2 42 (by decide +kernel) rfl, tyX7_ok, nmX7, fun h => by cases h⟩
theorem lkRX7_94 : LnkOK MT RX7 (3, 338, 11, 1, 3, 0) := ⟨cal11, tb_4 119 (by decide +kernel) rfl, tb_4 120 (by decide +kernel) rfl, tb_4 121 (by decide +kernel) rfl, (RX3, TX3, 8), rfl, rfl⟩
theorem lkRX7_95 : LnkOK MT RX7 (1, 341, 7, 2, 3, 0) := ⟨RX7, TX7, 16, tyX7, rfl, rfl, by decide +kernel, by decide +kernel, uw7, tb_2 43 (by decide +kernel) rfl, tyX7_ok, nmX7, fun _ => ⟨by decide +kernel, by decide +kernel⟩⟩
theorem lkRX7_96 : LnkOK MT RX7 (0, 341, 7, 2, 3, 0) := ⟨RX7, TX7, 16, tyX7, rfl, rfl, by decide +kernel, by decide +kernel, uw7, tb_2 43 (by decide +kernel) rfl, tyX7_ok, nmX7, fun h => by cases h⟩
theorem lkRX7_97 : LnkOK MT RX7 (3, 345, 16, 0, 3, 0) := ⟨cal16, tb_4 132 (by decide +kernel) rfl, tb_3 145 (by decide +kernel) rfl, tb_3 146 (by decide +kernel) rfl, (RX3, TX3, 8), rfl, rfl⟩
theorem lkRX7_98 : LnkOK MT RX7 (0, 348, 3, 7, 0, 0) := ⟨RX3, TX3, 8, tyX3, rfl, rfl, by decide +kernel, by decide +kernel, uw3, tb_1 52 (by decide +kernel) rfl, tyX3_ok, nmX3, fun h => by cases h⟩
theorem lkRX7_99 : LnkOK MT RX7 (0, 77, 7, 15, 2, 0) := ⟨RX7, TX7, 16, tyX7, rfl, rfl, by decide +kernel, by decide +kernel, uw7, tb_2 56 (by decide +kernel) rfl, tyX7_ok, nmX7, fun h => by cases h⟩
theorem lkRX7_100 : LnkOK MT RX7 (6, 349, 0, 0, 0, 1000000000) := tb_2 166 (by decide +kernel) rfl
theorem lkRX7_101 : LnkOK MT RX7 (7, 350, 0, 0, 0, 4000000000000000000) := tb_3 32 (by decide +kernel) rfl
theorem lkRX7_102 : LnkOK MT RX7 (10, 352, 0, 0, 0, 0) := ⟨tb_2 230 (by decide +kernel) rfl, tb_2 231 (by decide +kernel) rfl, tb_1 12 (by decide +kernel) rfl, tb_2 232 (by decide +kernel) rfl⟩
theorem lkRX7_103 : LnkOK MT RX7 (4, 358, 115, 2, 0, 0) := ⟨cal115, Or.inl (tb_3 39 (by decide +kernel) rfl), tb_2 228 (by decide +kernel) rfl⟩
def lkRX7 : List Lnk := [(3, 80, 96, 1, 7, 0), (0, 84, 7, 9, 0, 0), (0, 56, 7, 8, 2, 0), (1, 84, 7, 9, 0, 0), (4, 88, 101, 1, 0, 0), (0, 10, 7, 0, 2, 0), (0, 92, 3, 0, 0, 0), (3, 95, 12, 1, 3, 0), (0, 22, 7, 3, 2, 0), (3, 99, 9, 0, 2, 0), (0, 29, 7, 4, 2, 0), (3, 102, 48, 1, 6, 0), (3, 106, 99, 1, 7, 0), (4, 109, 100, 1, 0, 0), (3, 112, 97, 1, 7, 0), (0, 115, 3, 2, 2, 0), (3, 118, 8, 4, 2, 0), (0, 122, 3, 1, 2, 0), (3, 125, 51, 0, 6, 0), (4, 129, 112, 2, 0, 0), (0, 133, 6, 2, 2, 0), (4, 136, 114, 1, 0, 0), (0, 140, 6, 0, 0, 0), (0, 141, 6, 3, 2, 0), (2, 145, 1000, 0, 0, 0), (0, 148, 6, 4, 2, 0), (0, 152, 1, 3, 0, 0), (3, 157, 53, 0, 6, 0), (3, 160, 104, 1, 7, 0), (3, 163, 52, 1, 6, 0), (0, 68, 7, 12, 2, 0), (3, 166, 7, 2, 1, 0), (4, 170, 107, 1, 0, 0), (3, 173, 108, 1, 7, 0), (0, 71, 7, 13, 2, 0), (3, 176, 110, 3, 7, 0), (3, 180, 54, 1, 6, 0), (3, 183, 98, 1, 7, 0), (4, 187, 102, 1, 0, 0), (4, 190, 116, 3, 0, 0), (0, 45, 7, 6, 2, 0), (3, 194, 38, 0, 5, 0), (3, 197, 40, 0, 5, 0), (0, 200, 5, 2, 0, 0), (0, 203, 5, 1, 2, 0), (3, 206, 105, 1, 7, 0), (0, 38, 7, 5, 2, 0), (3, 209, 0, 1, 0, 0), (3, 212, 106, 2, 7, 0), (0, 216, 0, 1, 2, 0), (3, 219, 2, 0, 0, 0), (0, 222, 0, 4, 0, 0), (0, 225, 0, 6, 0, 0), (0, 228, 0, 7, 0, 0), (3, 231, 1, 0, 0, 0), (0, 235, 0, 5, 0, 0), (0, 238, 3, 3, 2, 0), (0, 241, 3, 4, 2, 0), (3, 244, 15, 1, 3, 0), (4, 247, 113, 1, 0, 0), (3, 251, 17, 1, 3, 0), (3, 254, 111, 1, 7, 0), (4, 257, 103, 1, 0, 0), (3, 260, 18, 3, 3, 0), (2, 264, 1004, 0, 0, 0), (0, 74, 7, 14, 2, 0), (3, 267, 45, 2, 5, 0), (3, 271, 42, 1, 5, 0), (0, 52, 7, 7, 2, 0), (3, 274, 20, 2, 4, 0), (0, 278, 4, 4, 0, 0), (0, 281, 4, 5, 0, 0), (3, 284, 13, 3, 3, 0), (3, 288, 14, 0, 3, 0), (0, 292, 3, 5, 2, 0), (0, 293, 3, 6, 0, 0), (3, 296, 36, 0, 4, 0), (3, 299, 37, 0, 4, 0), (0, 302, 4, 6, 0, 0), (0, 305, 4, 11, 2, 0), (0, 308, 4, 12, 2, 0), (3, 311, 35, 1, 4, 0), (6, 314, 0, 0, 0, 1664525), (6, 315, 0, 0, 0, 1013904223), (6, 316, 0, 0, 0, 2147483647), (3, 317, 55, 1, 6, 0), (0, 62, 7, 10, 2, 0), (4, 320, 230, 2, 0, 0), (0, 65, 7, 11, 2, 0), (3, 325, 109, 2, 7, 0), (8, 328, 0, 0, 0, 0), (0, 334, 2, 2, 0, 0), (3, 335, 10, 1, 2, 0), (0, 16, 7, 1, 2, 0), (3, 338, 11, 1, 3, 0), (1, 341, 7, 2, 3, 0), (0, 341, 7, 2, 3, 0), (3, 345, 16, 0, 3, 0), (0, 348, 3, 7, 0, 0), (0, 77, 7, 15, 2, 0), (6, 349, 0, 0, 0, 1000000000), (7, 350, 0, 0, 0, 4000000000000000000), (10, 352, 0, 0, 0, 0), (4, 358, 115, 2, 0, 0)]
theorem lkRX7_ok : ∀ q ∈ lkRX7, LnkOK MT RX7 q := List.forall_mem_cons.mpr ⟨lkRX7_0, List.forall_mem_cons.mpr ⟨lkRX7_1, List.forall_mem_cons.mpr ⟨lkRX7_2, List.forall_mem_cons.mpr ⟨lkRX7_3, List.forall_mem_cons.mpr ⟨lkRX7_4, List.forall_mem_cons.mpr ⟨lkRX7_5, List.forall_mem_cons.mpr ⟨lkRX7_6, List.forall_mem_cons.mpr ⟨lkRX7_7, List.forall_mem_cons.mpr ⟨lkRX7_8, List.forall_mem_cons.mpr ⟨lkRX7_9, List.forall_mem_cons.mpr ⟨lkRX7_10, List.forall_mem_cons.mpr ⟨lkRX7_11, List.forall_mem_cons.mpr ⟨lkRX7_12, List.forall_mem_cons.mpr ⟨lkRX7_13, List.forall_mem_cons.mpr ⟨lkRX7_14, List.forall_mem_cons.mpr ⟨lkRX7_15, List.forall_mem_cons.mpr ⟨lkRX7_16, List.forall_mem_cons.mpr ⟨lkRX7_17, List.forall_mem_cons.mpr ⟨lkRX7_18, List.forall_mem_cons.mpr ⟨lkRX7_19, List.forall_mem_cons.mpr ⟨lkRX7_20, List.forall_mem_cons.mpr ⟨lkRX7_21, List.forall_mem_cons.mpr ⟨lkRX7_22, List.forall_mem_cons.mpr ⟨lkRX7_23, List.forall_mem_cons.mpr ⟨lkRX7_24, List.forall_mem_cons.mpr ⟨lkRX7_25, List.forall_mem_cons.mpr ⟨lkRX7_26, List.forall_mem_cons.mpr ⟨lkRX7_27, List.forall_mem_cons.mpr ⟨lkRX7_28, List.forall_mem_cons.mpr ⟨lkRX7_29, List.forall_mem_cons.mpr ⟨lkRX7_30, List.forall_mem_cons.mpr ⟨lkRX7_31, List.forall_mem_cons.mpr ⟨lkRX7_32, List.forall_mem_cons.mpr ⟨lkRX7_33, List.forall_mem_cons.mpr ⟨lkRX7_34, List.forall_mem_cons.mpr ⟨lkRX7_35, List.forall_mem_cons.mpr ⟨lkRX7_36, List.forall_mem_cons.mpr ⟨lkRX7_37, List.forall_mem_cons.mpr ⟨lkRX7_38, List.forall_mem_cons.mpr ⟨lkRX7_39, List.forall_mem_cons.mpr ⟨lkRX7_40, List.forall_mem_cons.mpr ⟨lkRX7_41, List.forall_mem_cons.mpr ⟨lkRX7_42, List.forall_mem_cons.mpr ⟨lkRX7_43, List.forall_mem_cons.mpr ⟨lkRX7_44, List.forall_mem_cons.mpr ⟨lkRX7_45, List.forall_mem_cons.mpr ⟨lkRX7_46, List.forall_mem_cons.mpr ⟨lkRX7_47, List.forall_mem_cons.mpr ⟨lkRX7_48, List.forall_mem_cons.mpr ⟨lkRX7_49, List.forall_mem_cons.mpr ⟨lkRX7_50, List.forall_mem_cons.mpr ⟨lkRX7_51, List.forall_mem_cons.mpr ⟨lkRX7_52, List.forall_mem_cons.mpr ⟨lkRX7_53, List.forall_mem_cons.mpr ⟨lkRX7_54, List.forall_mem_cons.mpr ⟨lkRX7_55, List.forall_mem_cons.mpr ⟨lkRX7_56, List.forall_mem_cons.mpr ⟨lkRX7_57, List.forall_mem_cons.mpr ⟨lkRX7_58, List.forall_mem_cons.mpr ⟨lkRX7_59, List.forall_mem_cons.mpr ⟨lkRX7_60, List.forall_mem_cons.mpr ⟨lkRX7_61, List.forall_mem_cons.mpr ⟨lkRX7_62, List.forall_mem_cons.mpr ⟨lkRX7_63, List.forall_mem_cons.mpr ⟨lkRX7_64, List.forall_mem_cons.mpr ⟨lkRX7_65, List.forall_mem_cons.mpr ⟨lkRX7_66, List.forall_mem_cons.mpr ⟨lkRX7_67, List.forall_mem_cons.mpr ⟨lkRX7_68, List.forall_mem_cons.mpr ⟨lkRX7_69, List.forall_mem_cons.mpr ⟨lkRX7_70, List.forall_mem_cons.mpr ⟨lkRX7_71, List.forall_mem_cons.mpr ⟨lkRX7_72, List.forall_mem_cons.mpr ⟨lkRX7_73, List.forall_mem_cons.mpr ⟨lkRX7_74, List.forall_mem_cons.mpr ⟨lkRX7_75, List.forall_mem_cons.mpr ⟨lkRX7_76, List.forall_mem_cons.mpr ⟨lkRX7_77, List.forall_mem_cons.mpr ⟨lkRX7_78, List.forall_mem_cons.mpr ⟨lkRX7_79, List.forall_mem_cons.mpr ⟨lkRX7_80, List.forall_mem_cons.mpr ⟨lkRX7_81, List.forall_mem_cons.mpr ⟨lkRX7_82, List.forall_mem_cons.mpr ⟨lkRX7_83, List.forall_mem_cons.mpr ⟨lkRX7_84, List.forall_mem_cons.mpr ⟨lkRX7_85, List.forall_mem_cons.mpr ⟨lkRX7_86, List.forall_mem_cons.mpr ⟨lkRX7_87, List.forall_mem_cons.mpr ⟨lkRX7_88, List.forall_mem_cons.mpr ⟨lkRX7_89, List.forall_mem_cons.mpr ⟨lkRX7_90, List.forall_mem_cons.mpr ⟨lkRX7_91, List.forall_mem_cons.mpr ⟨lkRX7_92, List.forall_mem_cons.mpr ⟨lkRX7_93, List.forall_mem_cons.mpr ⟨lkRX7_94, List.forall_mem_cons.mpr ⟨lkRX7_95, List.forall_mem_cons.mpr ⟨lkRX7_96, List.forall_mem_cons.mpr ⟨lkRX7_97, List.forall_mem_cons.mpr ⟨lkRX7_98, List.forall_mem_cons.mpr ⟨lkRX7_99, List.forall_mem_cons.mpr ⟨lkRX7_100, List.forall_mem_cons.mpr ⟨lkRX7_101, List.forall_mem_cons.mpr ⟨lkRX7_102, List.forall_mem_cons.mpr ⟨lkRX7_103, fun _ h => absurd h List.not_mem_nil⟩⟩⟩⟩⟩⟩⟩⟩⟩⟩⟩⟩⟩⟩⟩⟩⟩⟩⟩⟩⟩⟩⟩⟩⟩⟩⟩⟩⟩⟩⟩⟩⟩⟩⟩⟩⟩⟩⟩⟩⟩⟩⟩⟩⟩⟩⟩⟩⟩⟩⟩⟩⟩⟩⟩⟩⟩⟩⟩⟩⟩⟩⟩⟩⟩⟩⟩⟩⟩⟩⟩⟩⟩⟩⟩⟩⟩⟩⟩⟩⟩⟩⟩⟩⟩⟩⟩⟩⟩⟩⟩⟩⟩⟩⟩⟩⟩⟩⟩⟩⟩⟩⟩⟩
theorem lkRX8_0 : LnkOK MT RX8 (0, 16, 8, 3, 2, 0) := ⟨RX8, TX8, 27, tyX8, rfl, rfl, by decide +kernel, by decide +kernel, uw8, tb_4 142 (by decide +kernel) rfl, tyX8_ok, nmX8, fun h => by cases h⟩
theorem lkRX8_1 : LnkOK MT RX8 (6, 63, 0, 0, 0, 1000000000) := tb_5 14 (by decide +kernel) rfl
theorem lkRX8_2 : LnkOK MT RX8 (3, 64, 120, 1, 8, 0) := ⟨cal120, tb_4 226 (by decide +kernel) rfl, tb_4 228 (by decide +kernel) rfl, tb_p 27 (by decide +kernel) rfl, (RX8, TX8, 27), rfl, rfl⟩
theorem lkRX8_3 : LnkOK MT RX8 (7, 68, 0, 0, 0, 4000000000000000000) := tb_5 137 (by decide +kernel) rfl
theorem lkRX8_4 : LnkOK MT RX8 (4, 70, 123, 2, 0, 0) := ⟨cal123, Or.inl (tb_5 54 (by decide +kernel) rfl), tb_5 55 (by decide +kernel) rfl⟩
theorem lkRX8_5 : LnkOK MT RX8 (0, 9, 8, 0, 2, 0) := ⟨RX8, TX8, 27, tyX8, rfl, rfl, by decide +kernel, by decide +kernel, uw8, tb_4 139 (by decide +kernel) rfl, tyX8_ok, nmX8, fun h => by cases h⟩
theorem lkRX8_6 : LnkOK MT RX8 (4, 74, 117, 3, 0, 0) := ⟨cal117, Or.inl (tb_4 235 (by decide +kernel) rfl), tb_4 236 (by decide +kernel) rfl⟩
theorem lkRX8_7 : LnkOK MT RX8 (7, 78, 0, 0, 0, 4) := tb_5 9 (by decide +kernel) rfl
theorem lkRX8_8 : LnkOK MT RX8 (7, 80, 0, 0, 0, 2) := tb_5 118 (by decide +kernel) rfl
theorem lkRX8_9 : LnkOK MT RX8 (0, 82, 8, 5, 0, 0) := ⟨RX8, TX8, 27, tyX8, rfl, rfl, by decide +kernel, by decide +kernel, uw8, tb_4 144 (by decide +kernel) rfl, tyX8_ok, nmX8, fun h => by cases h⟩
theorem lkRX8_10 : LnkOK MT RX8 (0, 19, 8, 4, 2, 0) := ⟨RX8, TX8, 27, tyX8, rfl, rfl, by decide +kernel, by decide +kernel, uw8, tb_4 143 (by decide +kernel) rfl, tyX8_ok, nmX8, fun h => by cases h⟩
theorem lkRX8_11 : LnkOK MT RX8 (1, 82, 8, 5, 0, 0) := ⟨RX8, TX8, 27, tyX8, rfl, rfl, by decide +kernel, by decide +kernel, uw8, tb_4 144 (by decide +kernel) rfl, tyX8_ok, nmX8, fun _ => ⟨by decide +kernel, by decide +kernel⟩⟩
theorem lkRX8_12 : LnkOK MT RX8 (7, 86, 0, 0, 0, 5) := tb_4 234 (by decide +kernel) rfl
theorem lkRX8_13 : LnkOK MT RX8 (1, 88, 8, 7, 0, 0) := ⟨RX8, TX8, 27, tyX8, rfl, rfl, by decide +kernel, by decide +kernel, uw8, tb_4 146 (by decide +kernel) rfl, tyX8_ok, nmX8, fun _ => ⟨by decide +kernel, by decide +kernel⟩⟩
theorem lkRX8_14 : LnkOK MT RX8 (0, 88, 8, 7, 0, 0) := ⟨RX8, TX8, 27, tyX8, rfl, rfl, by decide +kernel, by decide +kernel, uw8, tb_4 146 (by decide +kernel) rfl, tyX8_ok, nmX8, fun h => by cases h⟩
theorem lkRX8_15 : LnkOK MT RX8 (0, 22, 8, 6, 2, 0) := ⟨RX8, TX8, 27, tyX8, rfl, rfl, by decide +kernel, by decide +kernel, uw8, tb_4 145 (by decide +kernel) rfl, tyX8_ok, nmX8, fun h => by cases h⟩
theorem lkRX8_16 : LnkOK MT RX8 (3, 91, 125, 1, 8, 0) := ⟨cal125, tb_5 2 (by decide +kernel) rfl, tb_5 4 (by decide +kernel) rfl, tb_p 28 (by decide +kernel) rfl, (RX8, TX8, 27), rfl, rfl⟩
theorem lkRX8_17 : LnkOK MT RX8 (4, 95, 126, 1, 0, 0) := ⟨cal126, Or.inl (tb_5 6 (by decide +kernel) rfl), tb_5 7 (by decide +kernel) rfl⟩
theorem lkRX8_18 : LnkOK MT RX8 (3, 98, 121, 1, 8, 0) := ⟨cal121, tb_5 10 (by decide +kernel) rfl, tb_5 12 (by decide +kernel) rfl, tb_p 29 (by decide +kernel) rfl, (RX8, TX8, 27), rfl, rfl⟩
theorem lkRX8_19 : LnkOK MT RX8 (3, 101, 131, 2, 8, 0) := ⟨cal131, tb_5 15 (by decide +kernel) rfl, tb_5 17 (by decide +kernel) rfl, tb_p 30 (by decide +kernel) rfl, (RX8, TX8, 27), rfl, rfl⟩
theorem lkRX8_20 : LnkOK MT RX8 (3, 105, 134, 2, 8, 0) := ⟨cal134, tb_5 42 (by decide +kernel) rfl, tb_5 44 (by decide +kernel) rfl, tb_p 34 (by decide +kernel) rfl, (RX8, TX8, 27), rfl, rfl⟩
theorem lkRX8_21 : LnkOK MT RX8 (3, 109, 136, 2, 8, 0) := ⟨cal136, tb_5 73 (by decide +kernel) rfl, tb_5 75 (by decide +kernel) rfl, tb_p 39 (by decide +kernel) rfl, (RX8, TX8, 27), rfl, rfl⟩
theorem lkRX8_22 : LnkOK MT RX8 (3, 113, 147, 0, 8, 0) := ⟨cal147, tb_5 27 (by decide +kernel) rfl, tb_5 29 (by decide +kernel) rfl, tb_p 31 (by decide +kernel) rfl, (RX8, TX8, 27), rfl, rfl⟩
theorem lkRX8_23 : LnkOK MT RX8 (4, 117, 118, 2, 0, 0) := ⟨cal118, Or.inl (tb_5 39 (by decide +kernel) rfl), tb_5 40 (by decide +kernel) rfl⟩
theorem lkRX8_24 : LnkOK MT RX8 (3, 120, 135, 1, 8, 0) := ⟨cal135, tb_5 57 (by decide +kernel) rfl, tb_5 59 (by decide +kernel) rfl, tb_p 37 (by decide +kernel) rfl, (RX8, TX8, 27), rfl, rfl⟩
theorem lkRX8_25 : LnkOK MT RX8 (7, 123, 0, 0, 0, 10) := tb_5 61 (by decide +kernel) rfl
theorem lkRX8_26 : LnkOK MT RX8 (7, 125, 0, 0, 0, 14) := tb_5 62 (by decide +kernel) rfl
theorem lkRX8_27 : LnkOK MT RX8 (7, 127, 0, 0, 0, 20) := tb_5 63 (by decide +kernel) rfl
theorem lkRX8_28 : LnkOK MT RX8 (7, 129, 0, 0, 0, 24) := tb_5 64 (by decide +kernel) rfl
theorem lkRX8_29 : LnkOK MT RX8 (3, 131, 137, 1, 8, 0) := ⟨cal137, tb_5 69 (by decide +kernel) rfl, tb_5 71 (by decide +kernel) rfl, tb_p 38 (by decide +kernel) rfl, (RX8, TX8, 27), rfl, rfl⟩
theorem lkRX8_30 : LnkOK MT RX8 (4, 134, 140, 2, 0, 0) := ⟨cal140, Or.inl (tb_5 81 (by decide +kernel) rfl), tb_5 82 (by decide +kernel) rfl⟩
theorem lkRX8_31 : LnkOK MT RX8 (0, 25, 8, 8, 2, 0) := ⟨RX8, TX8, 27, tyX8, rfl, rfl, by decide +kernel, by decide +kernel, uw8, tb_4 147 (by decide +kernel) rfl, tyX8_ok, nmX8, fun h => by cases h⟩
theorem lkRX8_32 : LnkOK MT RX8 (3, 137, 142, 2, 8, 0) := ⟨cal142, tb_5 50 (by decide +kernel) rfl, tb_5 52 (by decide +kernel) rfl, tb_p 36 (by decide +kernel) rfl, (RX8, TX8, 27), rfl, rfl⟩
theorem lkRX8_33 : LnkOK MT RX8 (4, 140, 119, 1, 0, 0) := ⟨cal119, Or.inl (tb_5 88 (by decide +kernel) rfl), tb_5 89 (by decide +kernel) rfl⟩
theorem lkRX8_34 : LnkOK MT RX8 (3, 143, 144, 2, 8, 0) := ⟨cal144, tb_5 35 (by decide +kernel) rfl, tb_5 37 (by decide +kernel) rfl, tb_p 33 (by decide +kernel) rfl, (RX8, TX8, 27), rfl, rfl⟩
theorem lkRX8_35 : LnkOK MT RX8 (3, 146, 143, 2, 8, 0) := ⟨cal143, tb_5 46 (by decide +kernel) rfl, tb_5 48 (by decide +kernel) rfl, tb_p 35 (by decide +kernel) rfl, (RX8, TX8, 27), rfl, rfl⟩
theorem lkRX8_36 : LnkOK MT RX8 (0, 29, 8, 9, 2, 0) := ⟨RX8, TX8, 27, tyX8, rfl, rfl, by decide +kernel, by decide +kernel, uw8, tb_4 148 (by decide +kernel) rfl, tyX8_ok, nmX8, fun h => by cases h⟩
theorem lkRX8_37 : LnkOK MT RX8 (3, 150, 146, 2, 8, 0) := ⟨cal146, tb_5 31 (by decide +kernel) rfl, tb_5 33 (by decide +kernel) rfl, tb_p 32 (by decide +kernel) rfl, (RX8, TX8, 27), rfl, rfl⟩
theorem lkRX8_38 : LnkOK MT RX8 (3, 153, 148, 0, 8, 0) := ⟨cal148, tb_5 91 (by decide +kernel) rfl, tb_5 93 (by decide +kernel) rfl, tb_p 40 (by decide +kernel) rfl, (RX8, TX8, 27), rfl, rfl⟩
theorem lkRX8_39 : LnkOK MT RX8 (3, 156, 151, 0, 8, 0) := ⟨cal151, tb_5 95 (by decide +kernel) rfl, tb_5 97 (by decide +kernel) rfl, tb_p 41 (by decide +kernel) rfl, (RX8, TX8, 27), rfl, rfl⟩
theorem lkRX8_40 : LnkOK MT RX8 (3, 159, 149, 1, 8, 0) := ⟨cal149, tb_5 103 (by decide +kernel) rfl, tb_5 105 (by decide +kernel) rfl, tb_p 42 (by decide +kernel) rfl, (RX8, TX8, 27), rfl, rfl⟩
theorem lkRX8_41 : LnkOK MT RX8 (3, 162, 150, 1, 8, 0) := ⟨cal150, tb_5 107 (by decide +kernel) rfl, tb_5 109 (by decide +kernel) rfl, tb_p 43 (by decide +kernel) rfl, (RX8, TX8, 27), rfl, rfl⟩
theorem lkRX8_42 : LnkOK MT RX8 (0, 41, 8, 13, 2, 0) := ⟨RX8, TX8, 27, tyX8, rfl, rfl, by decide +kernel, by decide +kernel, uw8, tb_4 152 (by decide +kernel) rfl, tyX8_ok, nmX8, fun h => by cases h⟩
theorem lkRX8_43 : LnkOK MT RX8 (0, 35, 8, 11, 2, 0) := ⟨RX8, TX8, 27, tyX8, rfl, rfl, by decide +kernel, by decide +kernel, uw8, tb_4 150 (by decide +kernel) rfl, tyX8_ok, nmX8, fun h => by cases h⟩
theorem lkRX8_44 : LnkOK MT RX8 (0, 38, 8, 12, 2, 0) := ⟨RX8, TX8, 27, tyX8, rfl, rfl, by decide +kernel, by decide +kernel, uw8, tb_4 151 (by decide +kernel) rfl, tyX8_ok, nmX8, fun h => by cases h⟩
theorem lkRX8_45 : LnkOK MT RX8 (7, 166, 0, 0, 0, -99) := tb_5 123 (by decide +kernel) rfl
theorem lkRX8_46 : LnkOK MT RX8 (7, 168, 0, 0, 0, 99) := tb_5 124 (by decide +kernel) rfl
theorem lkRX8_47 : LnkOK MT RX8 (4, 170, 127, 1, 0, 0) := ⟨cal127, Or.inl (tb_5 115 (by decide +kernel) rfl), tb_5 116 (by decide +kernel) rfl⟩
theorem lkRX8_48 : LnkOK MT RX8 (3, 173, 154, 2, 8, 0) := ⟨cal154, tb_5 119 (by decide +kernel) rfl, tb_5 121 (by decide +kernel) rfl, tb_p 44 (by decide +kernel) rfl, (RX8, TX8, 27), rfl, rfl⟩
theorem lkRX8_49 : LnkOK MT RX8 (3, 176, 155, 0, 8, 0) := ⟨cal155, tb_5 125 (by decide +kernel) rfl, tb_5 127 (by decide +kernel) rfl, tb_p 45 (by decide +kernel) rfl, (RX8, TX8, 27), rfl, rfl⟩
theorem lkRX8_50 : LnkOK MT RX8 (3, 180, 122, 1, 8, 0) := ⟨cal122, tb_5 133 (by decide +kernel) rfl, tb_5 135 (by decide +kernel) rfl, tb_p 46 (by decide +kernel) rfl, (RX8, TX8, 27), rfl, rfl⟩
theorem lkRX8_51 : LnkOK MT RX8 (4, 184, 124, 3, 0, 0) := ⟨cal124, Or.inl (tb_5 138 (by decide +kernel) rfl), tb_5 139 (by decide +kernel) rfl⟩
theorem lkRX8_52 : LnkOK MT RX8 (3, 188, 159, 2, 8, 0) := ⟨cal159, tb_5 149 (by decide +kernel) rfl, tb_5 151 (by decide +kernel) rfl, tb_p 47 (by decide +kernel) rfl, (RX8, TX8, 27), rfl, rfl⟩
theorem lkRX8_53 : LnkOK MT RX8 (3, 191, 145, 1, 8, 0) := ⟨cal145, tb_5 165 (by decide +kernel) rfl, tb_5 167 (by decide +kernel) rfl, tb_p 50 (by decide +kernel) rfl, (RX8, TX8, 27), rfl, rfl⟩
theorem lkRX8_54 : LnkOK MT RX8 (3, 194, 128, 1, 8, 0) := ⟨cal128, tb_5 157 (by decide +kernel) rfl, tb_5 159 (by decide +kernel) rfl, tb_p 48 (by decide +kernel) rfl, (RX8, TX8, 27), rfl, rfl⟩
theorem lkRX8_55 : LnkOK MT RX8 (3, 197, 161, 1, 8, 0) := ⟨cal161, tb_5 161 (by decide +kernel) rfl, tb_5 163 (by decide +kernel) rfl, tb_p 49 (by decide +kernel) rfl, (RX8, TX8, 27), rfl, rfl⟩
theorem lkRX8_56 : LnkOK MT RX8 (3, 200, 164, 1, 8, 0) := ⟨cal164, tb_5 177 (by decide +kernel) rfl, tb_5 179 (by decide +kernel) rfl, tb_p 51 (by decide +kernel) rfl, (RX8, TX8, 27), rfl, rfl⟩
theorem lkRX8_57 : LnkOK MT RX8 (3, 203, 166, 0, 8, 0) := ⟨cal166, tb_5 185 (by decide +kernel) rfl, tb_5 187 (by decide +kernel) rfl, tb_p 52 (by decide +kernel) rfl, (RX8, TX8, 27), rfl, rfl⟩
theorem lkRX8_58 : LnkOK MT RX8 (3, 206, 167, 1, 8, 0) := ⟨cal167, tb_5 189 (by decide +kernel) rfl, tb_5 191 (by decide +kernel) rfl, tb_p 53 (by decide +kernel) rfl, (RX8, TX8, 27), rfl, rfl⟩
theorem lkRX8_59 : LnkOK MT RX8 (7, 210, 0, 0, 0, 97) := tb_5 220 (by decide +kernel) rfl
theorem lkRX8_60 : LnkOK MT RX8 (4, 212, 173, 2, 0, 0) := ⟨cal173, Or.inl (tb_5 229 (by decide +kernel) rfl), tb_5 230 (by decide +kernel) rfl⟩
theorem lkRX8_61 : LnkOK MT RX8 (3, 215, 174, 2, 8, 0) := ⟨cal174, tb_5 225 (by decide +kernel) rfl, tb_5 227 (by decide +kernel) rfl, tb_p 57 (by decide +kernel) rfl, (RX8, TX8, 27), rfl, rfl⟩
theorem lkRX8_62 : LnkOK MT RX8 (4, 218, 172, 1, 0, 0) := ⟨cal172, Or.inl (tb_5 217 (by decide +kernel) rfl), tb_5 218 (by decide +kernel) rfl⟩
theorem lkRX8_63 : LnkOK MT RX8 (3, 221, 175, 2, 8, 0) := ⟨cal175, tb_5 221 (by decide +kernel) rfl, tb_5 223 (by decide +kernel) rfl, tb_p 56 (by decide +kernel) rfl, (RX8, TX8, 27), rfl, rfl⟩
theorem lkRX8_64 : LnkOK MT RX8 (3, 224, 176, 0, 8, 0) := ⟨cal176, tb_5 209 (by decide +kernel) rfl, tb_5 211 (by decide +kernel) rfl, tb_p 54 (by decide +kernel) rfl, (RX8, TX8, 27), rfl, rfl⟩
theorem lkRX8_65 : LnkOK MT RX8 (3, 227, 177, 0, 8, 0) := ⟨cal177, tb_5 213 (by decide +kernel) rfl, tb_5 215 (by decide +kernel) rfl, tb_p 55 (by decide +kernel) rfl, (RX8, TX8, 27), rfl, rfl⟩
theorem lkRX8_66 : LnkOK MT RX8 (3, 230, 180, 2, 8, 0) := ⟨cal180, tb_5 236 (by decide +kernel) rfl, tb_5 238 (by decide +kernel) rfl, tb_p 58 (by decide +kernel) rfl, (RX8, TX8, 27), rfl, rfl⟩
theorem lkRX8_67 : LnkOK MT RX8 (3, 233, 179, 1, 8, 0) := ⟨cal179, tb_6 0 (by decide +kernel) rfl, tb_6 2 (by decide +kernel) rfl, tb_p 59 (by decide +kernel) rfl, (RX8, TX8, 27), rfl, rfl⟩
theorem lkRX8_68 : LnkOK MT RX8 (0, 44, 8, 14, 2, 0) := ⟨RX8, TX8, 27, tyX8, rfl, rfl, by decide +kernel, by decide +kernel, uw8, tb_4 153 (by decide +kernel) rfl, tyX8_ok, nmX8, fun h => by cases h⟩
theorem lkRX8_69 : LnkOK MT RX8 (3, 236, 184, 2, 8, 0) := ⟨cal184, tb_6 28 (by decide +kernel) rfl, tb_6 30 (by decide +kernel) rfl, tb_p 63 (by decide +kernel) rfl, (RX8, TX8, 27), rfl, rfl⟩
theorem lkRX8_70 : LnkOK MT RX8 (0, 47, 8, 15, 2, 0) := ⟨RX8, TX8, 27, tyX8, rfl, rfl, by decide +kernel, by decide +kernel, uw8, tb_4 154 (by decide +kernel) rfl, tyX8_ok, nmX8, fun h => by cases h⟩
theorem lkRX8_71 : LnkOK MT RX8 (3, 239, 185, 1, 8, 0) := ⟨cal185, tb_6 24 (by decide +kernel) rfl, tb_6 26 (by decide +kernel) rfl, tb_p 62 (by decide +kernel) rfl, (RX8, TX8, 27), rfl, rfl⟩
theorem lkRX8_72 : LnkOK MT RX8 (3, 242, 186, 2, 8, 0) := ⟨cal186, tb_6 20 (by decide +kernel) rfl, tb_6 22 (by decide +kernel) rfl, tb_p 61 (by decide +kernel) rfl, (RX8, TX8, 27), rfl, rfl⟩
theorem lkRX8_73 : LnkOK MT RX8 (3, 245, 187, 1, 8, 0) := ⟨cal187, tb_6 16 (by decide +kernel) rfl, tb_6 18 (by decide +kernel) rfl, tb_p 60 (by decide +kernel) rfl, (RX8, TX8, 27), rfl, rfl⟩
theorem lkRX8_74 : LnkOK MT RX8 (7, 248, 0, 0, 0, 1000) := tb_6 44 (by decide +kernel) rfl
theorem lkRX8_75 : LnkOK MT RX8 (0, 50, 8, 16, 2, 0) := ⟨RX8, TX8, 27, tyX8, rfl, rfl, by decide +kernel, by decide +kernel, uw8, tb_4 155 (by decide +kernel) rfl, tyX8_ok, nmX8, fun h => by cases h⟩
theorem lkRX8_76 : LnkOK MT RX8 (3, 250, 189, 1, 8, 0) := ⟨cal189, tb_6 40 (by decide +kernel) rfl, tb_6 42 (by decide +kernel) rfl, tb_p 65 (by decide +kernel) rfl, (RX8, TX8, 27), rfl, rfl⟩
theorem lkRX8_77 : LnkOK MT RX8 (3, 253, 190, 2, 8, 0) := ⟨cal190, tb_6 45 (by decide +kernel) rfl, tb_6 47 (by decide +kernel) rfl, tb_p 66 (by decide +kernel) rfl, (RX8, TX8, 27), rfl, rfl⟩
theorem lkRX8_78 : LnkOK MT RX8 (3, 257, 191, 3, 8, 0) := ⟨cal191, tb_6 36 (by decide +kernel) rfl, tb_6 38 (by decide +kernel) rfl, tb_p 64 (by decide +kernel) rfl, (RX8, TX8, 27), rfl, rfl⟩
theorem lkRX8_79 : LnkOK MT RX8 (0, 261, 8, 17, 0, 0) := ⟨RX8, TX8, 27, tyX8, rfl, rfl, by decide +kernel, by decide +kernel, uw8, tb_4 156 (by decide +kernel) rfl, tyX8_ok, nmX8, fun h => by cases h⟩
theorem lkRX8_80 : LnkOK MT RX8 (3, 264, 193, 0, 8, 0) := ⟨cal193, tb_6 73 (by decide +kernel) rfl, tb_6 75 (by decide +kernel) rfl, tb_p 72 (by decide +kernel) rfl, (RX8, TX8, 27), rfl, rfl⟩
theorem lkRX8_81 : LnkOK MT RX8 (7, 267, 0, 0, 0, 48) := tb_6 82 (by decide +kernel) rfl
theorem lkRX8_82 : LnkOK MT RX8 (7, 269, 0, 0, 0, 57) := tb_6 83 (by decide +kernel) rfl
theorem lkRX8_83 : LnkOK MT RX8 (0, 271, 8, 18, 0, 0) := ⟨RX8, TX8, 27, tyX8, rfl, rfl, by decide +kernel, by decide +kernel, uw8, tb_4 157 (by decide +kernel) rfl, tyX8_ok, nmX8, fun h => by cases h⟩
theorem lkRX8_84 : LnkOK MT RX8 (1, 271, 8, 18, 0, 0) := ⟨RX8, TX8, 27, tyX8, rfl, rfl, by decide +kernel, by decide +kernel, uw8, tb_4 157 (by decide +kernel) rfl, tyX8_ok, nmX8, fun _ => ⟨by decide +kernel, by decide +kernel⟩⟩
theorem lkRX8_85 : LnkOK MT RX8 (1, 261, 8, 17, 0, 0) := ⟨RX8, TX8, 27, tyX8, rfl, rfl, by decide +kernel, by decide +kernel, uw8, tb_4 156 (by decide +kernel) rfl, tyX8_ok, nmX8, fun _ => ⟨by decide +kernel, by decide +kernel⟩⟩
theorem lkRX8_86 : LnkOK MT RX8 (3, 274, 200, 0, 8, 0) := ⟨cal200, tb_6 57 (by decide +kernel) rfl, tb_6 59 (by decide +kernel) rfl, tb_p 68 (by decide +kernel) rfl, (RX8, TX8, 27), rfl, rfl⟩
theorem lkRX8_87 : LnkOK MT RX8 (7, 277, 0, 0, 0, 65) := tb_6 77 (by decide +kernel) rfl
theorem lkRX8_88 : LnkOK MT RX8 (3, 279, 195, 0, 8, 0) := ⟨cal195, tb_6 78 (by decide +kernel) rfl, tb_6 80 (by decide +kernel) rfl, tb_p 73 (by decide +kernel) rfl, (RX8, TX8, 27), rfl, rfl⟩
theorem lkRX8_89 : LnkOK MT RX8 (3, 282, 196, 0, 8, 0) := ⟨cal196, tb_6 84 (by decide +kernel) rfl, tb_6 86 (by decide +kernel) rfl, tb_p 74 (by decide +kernel) rfl, (RX8, TX8, 27), rfl, rfl⟩
theorem lkRX8_90 : LnkOK MT RX8 (3, 285, 197, 0, 8, 0) := ⟨cal197, tb_6 69 (by decide +kernel) rfl, tb_6 71 (by decide +kernel) rfl, tb_p 71 (by decide +kernel) rfl, (RX8, TX8, 27), rfl, rfl⟩
theorem lkRX8_91 : LnkOK MT RX8 (0, 288, 8, 19, 0, 0) := ⟨RX8, TX8, 27, tyX8, rfl, rfl, by decide +kernel, by decide +kernel, uw8, tb_4 158 (by decide +kernel) rfl, tyX8_ok, nmX8, fun h => by cases h⟩
theorem lkRX8_92 : LnkOK MT RX8 (1, 288, 8, 19, 0, 0) := ⟨RX8, TX8, 27, tyX8, rfl, rfl, by decide +kernel, by decide +kernel, uw8, tb_4 158 (by decide +kernel) rfl, tyX8_ok, nmX8, fun _ => ⟨by decide +kernel, by decide +kernel⟩⟩
theorem lkRX8_93 : LnkOK MT RX8 (3, 291, 198, 0, 8, 0) := ⟨cal198, tb_6 65 (by decide +kernel) rfl, tb_6 67 (by decide +kernel) rfl, tb_p 70 (by decide +kernel) rfl, (RX8, TX8, 27), rfl, rfl⟩
theorem lkRX8_94 : LnkOK MT RX8 (3, 294, 194, 2, 8, 0) := ⟨cal194, tb_6 88 (by decide +kernel) rfl, tb_6 90 (by decide +kernel) rfl, tb_p 75 (by decide +kernel) rfl, (RX8, TX8, 27), rfl, rfl⟩
theorem lkRX8_95 : LnkOK MT RX8 (3, 297, 199, 0, 8, 0) := ⟨cal199, tb_6 61 (by decide +kernel) rfl, tb_6 63 (by decide +kernel) rfl, tb_p 69 (by decide +kernel) rfl, (RX8, TX8, 27), rfl, rfl⟩
theorem lkRX8_96 : LnkOK MT RX8 (3, 300, 201, 0, 8, 0) := ⟨cal201, tb_6 53 (by decide +kernel) rfl, tb_6 55 (by decide +kernel) rfl, tb_p 67 (by decide +kernel) rfl, (RX8, TX8, 27), rfl, rfl⟩
theorem lkRX8_97 : LnkOK MT RX8 (0, 303, 8, 23, 0, 0) := ⟨RX8, TX8, 27, tyX8, rfl, rfl, by decide +kernel, by decide +kernel, uw8, tb_4 162 (by decide +kernel) rfl, tyX8_ok, nmX8, fun h => by cases h⟩
theorem lkRX8_98 : LnkOK MT RX8 (0, 53, 8, 20, 2, 0) := ⟨RX8, TX8, 27, tyX8, rfl, rfl, by decide +kernel, by decide +kernel, uw8, tb_4 159 (by decide +kernel) rfl, tyX8_ok, nmX8, fun h => by cases h⟩
theorem lkRX8_99 : LnkOK MT RX8 (3, 306, 203, 0, 8, 0) := ⟨cal203, tb_6 116 (by decide +kernel) rfl, tb_6 118 (by decide +kernel) rfl, tb_p 81 (by decide +kernel) rfl, (RX8, TX8, 27), rfl, rfl⟩
theorem lkRX8_100 : LnkOK MT RX8 (1, 303, 8, 23, 0, 0) := ⟨RX8, TX8, 27, tyX8, rfl, rfl, by decide +kernel, by decide +kernel, uw8, tb_4 162 (by decide +kernel) rfl, tyX8_ok, nmX8, fun _ => ⟨by decide +kernel, by decide +kernel⟩⟩
theorem lkRX8_101 : LnkOK MT RX8 (3, 309, 204, 2, 8, 0) := ⟨cal204, tb_6 120 (by decide +kernel) rfl, tb_6 122 (by decide +kernel) rfl, tb_p 82 (by decide +kernel) rfl, (RX8, TX8, 27), rfl, rfl⟩
theorem lkRX8_102 : LnkOK MT RX8 (7, 312, 0, 0, 0, 90) := tb_6 124 (by decide +kernel) rfl
theorem lkRX8_103 : LnkOK MT RX8 (0, 314, 8, 24, 0, 0) := ⟨RX8, TX8, 27, tyX8, rfl, rfl, by decide +kernel, by decide +kernel, uw8, tb_4 163 (by decide +kernel) rfl, tyX8_ok, nmX8, fun h => by cases h⟩
theorem lkRX8_104 : LnkOK MT RX8 (1, 314, 8, 24, 0, 0) := ⟨RX8, TX8, 27, tyX8, rfl, rfl, by decide +kernel, by decide +kernel, uw8, tb_4 163 (by decide +kernel) rfl, tyX8_ok, nmX8, fun _ => ⟨by decide +kernel, by decide +kernel⟩⟩
theorem lkRX8_105 : LnkOK MT RX8 (3, 317, 209, 1, 8, 0) := ⟨cal209, tb_6 100 (by decide +kernel) rfl, tb_6 102 (by decide +kernel) rfl, tb_p 77 (by decide +kernel) rfl, (RX8, TX8, 27), rfl, rfl⟩
theorem lkRX8_106 : LnkOK MT RX8 (0, 59, 8, 22, 2, 0) := ⟨RX8, TX8, 27, tyX8, rfl, rfl, by decide +kernel, by decide +kernel, uw8, tb_4 161 (by decide +kernel) rfl, tyX8_ok, nmX8, fun h => by cases h⟩
theorem lkRX8_107 : LnkOK MT RX8 (3, 320, 205, 1, 8, 0) := ⟨cal205, tb_6 125 (by decide +kernel) rfl, tb_6 127 (by decide +kernel) rfl, tb_p 83 (by decide +kernel) rfl, (RX8, TX8, 27), rfl, rfl⟩
theorem lkRX8_108 : LnkOK MT RX8 (3, 323, 206, 1, 8, 0) := ⟨cal206, tb_6 112 (by decide +kernel) rfl, tb_6 114 (by decide +kernel) rfl, tb_p 80 (by decide +kernel) rfl, (RX8, TX8, 27), rfl, rfl⟩
theorem lkRX8_109 : LnkOK MT RX8 (3, 326, 207, 1, 8, 0) := ⟨cal207, tb_6 108 (by decide +kernel) rfl, tb_6 110 (by decide +kernel) rfl, tb_p 79 (by decide +kernel) rfl, (RX8, TX8, 27), rfl, rfl⟩
theorem lkRX8_110 : LnkOK MT RX8 (3, 329, 208, 1, 8, 0) := ⟨cal208, tb_6 104 (by decide +kernel) rfl, tb_6 106 (by decide +kernel) rfl, tb_p 78 (by decide +kernel) rfl, (RX8, TX8, 27), rfl, rfl⟩
theorem lkRX8_111 : LnkOK MT RX8 (0, 56, 8, 21, 2, 0) := ⟨RX8, TX8, 27, tyX8, rfl, rfl, by decide +kernel, by decide +kernel, uw8, tb_4 160 (by decide +kernel) rfl, tyX8_ok, nmX8, fun h => by cases h⟩
theorem lkRX8_112 : LnkOK MT RX8 (1, 332, 8, 25, 0, 0) := ⟨RX8, TX8, 27, tyX8, rfl, rfl, by decide +kernel, by decide +kernel, uw8, tb_4 164 (by decide +kernel) rfl, tyX8_ok, nmX8, fun _ => ⟨by decide +kernel, by decide +kernel⟩⟩
theorem lkRX8_113 : LnkOK MT RX8 (0, 332, 8, 25, 0, 0) := ⟨RX8, TX8, 27, tyX8, rfl, rfl, by decide +kernel, by decide +kernel, uw8, tb_4 164 (by decide +kernel) rfl, tyX8_ok, nmX8, fun h => by cases h⟩
theorem lkRX8_114 : LnkOK MT RX8 (3, 335, 210, 0, 8, 0) := ⟨cal210, tb_6 96 (by decide +kernel) rfl, tb_6 98 (by decide +kernel) rfl, tb_p 76 (by decide +kernel) rfl, (RX8, TX8, 27), rfl, rfl⟩
theorem lkRX8_115 : LnkOK MT RX8 (0, 338, 8, 26, 0, 0) := ⟨RX8, TX8, 27, tyX8, rfl, rfl, by decide +kernel, by decide +kernel, uw8, tb_4 165 (by decide +kernel) rfl, tyX8_ok, nmX8, fun h => by cases h⟩
theorem lkRX8_116 : LnkOK MT RX8 (6, 341, 0, 0, 0, 1664525) := tb_6 145 (by decide +kernel) rfl
theorem lkRX8_117 : LnkOK MT RX8 (6, 342, 0, 0, 0, 1013904223) := tb_6 146 (by decide +kernel) rfl
theorem lkRX8_118 : LnkOK MT RX8 (1, 338, 8, 26, 0, 0) := ⟨RX8, TX8, 27, tyX8, rfl, rfl, by decide +kernel, by decide +kernel, uw8, tb_4 165 (by decide +kernel) rfl, tyX8_ok, nmX8, fun _ => ⟨by decide +kernel, by decide +kernel⟩⟩
theorem lkRX8_119 : LnkOK MT RX8 (6, 345, 0, 0, 0, 2147483647) := tb_6 147 (by decide +kernel) rfl
theorem lkRX8_120 : LnkOK MT RX8 (3, 346, 214, 1, 8, 0) := ⟨cal214, tb_6 141 (by decide +kernel) rfl, tb_6 143 (by decide +kernel) rfl, tb_p 84 (by decide +kernel) rfl, (RX8, TX8, 27), rfl, rfl⟩
theorem lkRX8_121 : LnkOK MT RX8 (3, 349, 216, 2, 8, 0) := ⟨cal216, tb_6 160 (by decide +kernel) rfl, tb_6 162 (by decide +kernel) rfl, tb_p 86 (by decide +kernel) rfl, (RX8, TX8, 27), rfl, rfl⟩
theorem lkRX8_122 : LnkOK MT RX8 (3, 352, 218, 2, 8, 0) := ⟨cal218, tb_6 156 (by decide +kernel) rfl, tb_6 158 (by decide +kernel) rfl, tb_p 85 (by decide +kernel) rfl, (RX8, TX8, 27), rfl, rfl⟩
theorem lkRX8_123 : LnkOK MT RX8 (0, 13, 8, 1, 2, 0) := ⟨RX8, TX8, 27, tyX8, rfl, rfl, by decide +kernel, by decide +kernel, uw8, tb_4 140 (by decide +kernel) rfl, tyX8_ok, nmX8, fun h => by cases h⟩
theorem lkRX8_124 : LnkOK MT RX8 (1, 355, 8, 2, 3, 0) := ⟨RX8, TX8, 27, tyX8, rfl, rfl, by decide +kernel, by decide +kernel, uw8, tb_4 141 (by decide +kernel) rfl, tyX8_ok, nmX8, fun _ => ⟨by decide +kernel, by decide +kernel⟩⟩
theorem lkRX8_125 : LnkOK MT RX8 (0, 355, 8, 2, 3, 0) := ⟨RX8, TX8, 27, tyX8, rfl, rfl, by decide +kernel, by decide +kernel, uw8, tb_4 141 (by decide +kernel) rfl, tyX8_ok, nmX8, fun h => by cases h⟩
theorem lkRX8_126 : LnkOK MT RX8 (3, 359, 226, 0, 8, 0) := ⟨cal226, tb_6 192 (by decide +kernel) rfl, tb_6 194 (by decide +kernel) rfl, tb_p 87 (by decide +kernel) rfl, (RX8, TX8, 27), rfl, rfl⟩
theorem lkRX8_127 : LnkOK MT RX8 (7, 362, 0, 0, 0, 11) := tb_6 196 (by decide +kernel) rfl
theorem lkRX8_128 : LnkOK MT RX8 (7, 364, 0, 0, 0, 16) := tb_6 197 (by decide +kernel) rfl
def lkRX8 : List Lnk := [(0, 16, 8, 3, 2, 0), (6, 63, 0, 0, 0, 1000000000), (3, 64, 120, 1, 8, 0), (7, 68, 0, 0, 0, 4000000000000000000), (4, 70, 123, 2, 0, 0), (0, 9, 8, 0, 2, 0), (4, 74, 117, 3, 0, 0), (7, 78, 0, 0, 0, 4), (7, 80, 0, 0, 0, 2), (0, 82, 8, 5, 0, 0), (0, 19, 8, 4, 2, 0), (1, 82, 8, 5, 0, 0), (7, 86, 0, 0, 0, 5), (1, 88, 8, 7, 0, 0), (0, 88, 8, 7, 0, 0), (0, 22, 8, 6, 2, 0), (3, 91, 125, 1, 8, 0), (4, 95, 126, 1, 0, 0), (3, 98, 121, 1, 8, 0), (3, 101, 131, 2, 8, 0), (3, 105, 134, 2, 8, 0), (3, 109, 136, 2, 8, 0), (3, 113, 147, 0, 8, 0), (4, 117, 118, 2, 0, 0), (3, 120, 135, 1, 8, 0), (7, 123, 0, 0, 0, 10), (7, 125, 0, 0, 0, 14), (7, 127, 0, 0, 0, 20), (7, 129, 0, 0, 0, 24), (3, 131, 137, 1, 8, 0), (4, 134, 140, 2, 0, 0), (0, 25, 8, 8, 2, 0), (3, 137, 142, 2, 8, 0), (4, 140, 119, 1, 0, 0), (3, 143, 144, 2, 8, 0), (3, 146, 143, 2, 8, 0), (0, 29, 8, 9, 2, 0), (3, 150, 146, 2, 8, 0), (3, 153, 148, 0, 8, 0), (3, 156, 151, 0, 8, 0), (3, 159, 149, 1, 8, 0), (3, 162, 150, 1, 8, 0), (0, 41, 8, 13, 2, 0), (0, 35, 8, 11, 2, 0), (0, 38, 8, 12, 2, 0), (7, 166, 0, 0, 0, -99), (7, 168, 0, 0, 0, 99), (4, 170, 127, 1, 0, 0), (3, 173, 154, 2, 8, 0), (3, 176, 155, 0, 8, 0), (3, 180, 122, 1, 8, 0), (4, 184, 124, 3, 0, 0), (3, 188, 159, 2, 8, 0), (3, 191, 145, 1, 8, 0), (3, 194, 128, 1, 8, 0), (3, 197, 161, 1, 8, 0), (3, 200, 164, 1, 8, 0), (3, 203, 166, 0, 8, 0), (3, 206, 167, 1, 8, 0), (7, 210, 0, 0, 0, 97), (4, 212, 173, 2, 0, 0), (3, 215, 174, 2, 8, 0), (4, 218, 172, 1, 0, 0), (3, 221, 175, 2, 8, 0), (3, 224, 176, 0, 8, 0), (3, 227, 177, 0, 8, 0), (3, 230, 180, 2, 8, 0), (3, 233, 179, 1, 8, 0), (0, 44, 8, 14, 2, 0), (3, 236, 184, 2, 8, 0), (0, 47, 8, 15, 2, 0), (3, 239, 185, 1, 8, 0), (3, 242, 186, 2, 8, 0), (3, 245, 187, 1, 8, 0), (7, 248, 0, 0, 0, 1000), (0, 50, 8, 16, 2, 0), (3, 250, 189, 1, 8, 0), (3, 253, 190, 2, 8, 0), (3, 257, 191, 3, 8, 0), (0, 261, 8, 17, 0, 0), (3, 264, 193, 0, 8, 0), (7, 267, 0, 0, 0, 48), (7, 269, 0, 0, 0, 57), (0, 271, 8, 18, 0, 0), (1, 271, 8, 18, 0, 0), (1, 261, 8, 17, 0, 0), (3, 274, 200, 0, 8, 0), (7, 277, 0, 0, 0, 65), (3, 279, 195, 0, 8, 0), (3, 282, 196, 0, 8, 0), (3, 285, 197, 0, 8, 0), (0, 288, 8, 19, 0, 0), (1, 288, 8, 19, 0, 0), (3, 291, 198, 0, 8, 0), (3, 294, 194, 2, 8, 0), (3, 297, 199, 0, 8, 0), (3, 300, 201, 0, 8, 0), (0, 303, 8, 23, 0, 0), (0, 53, 8, 20, 2, 0), (3, 306, 203, 0, 8, 0), (1, 303, 8, 23, 0, 0), (3, 309, 204, 2, 8, 0), (7, 312, 0, 0, 0, 90), (0, 314, 8, 24, 0, 0), (1, 314, 8, 24, 0, 0), (3, 317, 209, 1, 8, 0), (0, 59, 8, 22, 2, 0), (3, 320, 205, 1, 8, 0), (3, 323, 206, 1, 8, 0), (3, 326, 207, 1, 8, 0), (3, 329, 208, 1, 8, 0), (0, 56, 8, 21, 2, 0), (1, 332, 8, 25, 0, 0), (0, 332, 8, 25, 0, 0), (3, 335, 210, 0, 8, 0), (0, 338, 8, 26, 0, 0), (6, 341, 0, 0, 0, 1664525), (6, 342, 0, 0, 0, 1013904223), (1, 338, 8, 26, 0, 0), (6, 345, 0, 0, 0, 2147483647), (3, 346, 214, 1, 8, 0), (3, 349, 216, 2, 8, 0), (3, 352, 218, 2, 8, 0), (0, 13, 8, 1, 2, 0), (1, 355, 8, 2, 3, 0), (0, 355, 8, 2, 3, 0), (3, 359, 226, 0, 8, 0), (7, 362, 0, 0, 0, 11), (7, 364, 0, 0, 0, 16)]
theorem lkRX8_ok : ∀ q ∈ lkRX8, LnkOK MT RX8 q := List.forall_mem_cons.mpr ⟨lkRX8_0, List.forall_mem_cons.mpr ⟨lkRX8_1, List.forall_mem_cons.mpr ⟨lkRX8_2, List.forall_mem_cons.mpr ⟨lkRX8_3, List.forall_mem_cons.mpr ⟨lkRX8_4, List.forall_mem_cons.mpr ⟨lkRX8_5, List.forall_mem_cons.mpr ⟨lkRX8_6, List.forall_mem_cons.mpr ⟨lkRX8_7, List.forall_mem_cons.mpr ⟨lkRX8_8, List.forall_mem_cons.mpr ⟨lkRX8_9, List.forall_mem_cons.mpr ⟨lkRX8_10, List.forall_mem_cons.mpr ⟨lkRX8_11, List.forall_mem_cons.mpr ⟨lkRX8_12, List.forall_mem_cons.mpr ⟨lkRX8_13, List.forall_mem_cons.mpr ⟨lkRX8_14, List.forall_mem_cons.mpr ⟨lkRX8_15, List.forall_mem_cons.mpr ⟨lkRX8_16, List.forall_mem_cons.mpr ⟨lkRX8_17, List.forall_mem_cons.mpr ⟨lkRX8_18, List.forall_mem_cons.mpr ⟨lkRX8_19, List.forall_mem_cons.mpr ⟨lkRX8_20, List.forall_mem_cons.mpr ⟨lkRX8_21, List.forall_mem_cons.mpr ⟨lkRX8_22, List.forall_mem_cons.mpr ⟨lkRX8_23, List.forall_mem_cons.mpr ⟨lkRX8_24, List.forall_mem_cons.mpr ⟨lkRX8_25, List.forall_mem_cons.mpr ⟨lkRX8_26, List.forall_mem_cons.mpr ⟨lkRX8_27, List.forall_mem_cons.mpr ⟨lkRX8_28, List.forall_mem_cons.mpr ⟨lkRX8_29, List.forall_mem_cons.mpr ⟨lkRX8_30, List.forall_mem_cons.mpr ⟨lkRX8_31, List.forall_mem_cons.mpr ⟨lkRX8_32, List.forall_mem_cons.mpr ⟨lkRX8_33, List.forall_mem_cons.mpr ⟨lkRX8_34, List.forall_mem_cons.mpr ⟨lkRX8_35, List.forall_mem_cons.mpr ⟨lkRX8_36, List.forall_mem_cons.mpr ⟨lkRX8_37, List.forall_mem_cons.mpr ⟨lkRX8_38, List.forall_mem_cons.mpr ⟨lkRX8_39, List.forall_mem_cons.mpr ⟨lkRX8_40, List.forall_mem_cons.mpr ⟨lkRX8_41, List.forall_mem_cons.mpr ⟨lkRX8_42, List.forall_mem_cons.mpr ⟨lkRX8_43, List.forall_mem_cons.mpr ⟨lkRX8_44, List.forall_mem_cons.mpr ⟨lkRX8_45, List.forall_mem_cons.mpr ⟨lkRX8_46, List.forall_mem_cons.mpr ⟨lkRX8_47, List.forall_mem_cons.mpr ⟨lkRX8_48, List.forall_mem_cons.mpr ⟨lkRX8_49, List.forall_mem_cons.mpr ⟨lkRX8_50, List.forall_mem_cons.mpr ⟨lkRX8_51, List.forall_mem_cons.mpr ⟨lkRX8_52, List.forall_mem_cons.mpr ⟨lkRX8_53, List.forall_mem_cons.mpr ⟨lkRX8_54, List.forall_mem_cons.mpr ⟨lkRX8_55, List.forall_mem_cons.mpr ⟨lkRX8_56, List.forall_mem_cons.mpr ⟨lkRX8_57, List.forall_mem_cons.mpr ⟨lkRX8_58, List.forall_mem_cons.mpr ⟨lkRX8_59, List.forall_mem_cons.mpr ⟨lkRX8_60, List.forall_mem_cons.mpr ⟨lkRX8_61, List.forall_mem_cons.mpr ⟨lkRX8_62, List.forall_mem_cons.mpr ⟨lkRX8_63, List.forall_mem_cons.mpr ⟨lkRX8_64, List.forall_mem_cons.mpr ⟨lkRX8_65, List.forall_mem_cons.mpr ⟨lkRX8_66, List.forall_mem_cons.mpr ⟨lkRX8_67, List.forall_mem_cons.mpr ⟨lkRX8_68, List.forall_mem_cons.mpr ⟨lkRX8_69, List.forall_mem_cons.mpr ⟨lkRX8_70, List.forall_mem_cons.mpr ⟨lkRX8_71, List.forall_mem_cons.mpr ⟨lkRX8_72, List.forall_mem_cons.mpr ⟨lkRX8_73, List.forall_mem_cons.mpr ⟨lkRX8_74, List.forall_mem_cons.mpr ⟨lkRX8_75, List.forall_mem_cons.mpr ⟨lkRX8_76, List.forall_mem_cons.mpr ⟨lkRX8_77, List.forall_mem_cons.mpr ⟨lkRX8_78, List.forall_mem_cons.mpr ⟨lkRX8_79, List.forall_mem_cons.mpr ⟨lkRX8_80, List.forall_mem_cons.mpr ⟨lkRX8_81, List.forall_mem_cons.mpr ⟨lkRX8_82, List.forall_mem_cons.mpr ⟨lkRX8_83, List.forall_mem_cons.mpr ⟨lkRX8_84, List.forall_mem_cons.mpr ⟨lkRX8_85, List.forall_mem_cons.mpr ⟨lkRX8_86, List.forall_mem_cons.mpr ⟨lkRX8_87, List.forall_mem_cons.mpr ⟨lkRX8_88, List.forall_mem_cons.mpr ⟨lkRX8_89, List.forall_mem_cons.mpr ⟨lkRX8_90, List.forall_mem_cons.mpr ⟨lkRX8_91, List.forall_mem_cons.mpr ⟨lkRX8_92, List.forall_mem_cons.mpr ⟨lkRX8_93, List.forall_mem_cons.mpr ⟨lkRX8_94, List.forall_mem_cons.mpr ⟨lkRX8_95, List.forall_mem_cons.mpr ⟨lkRX8_96, List.forall_mem_cons.mpr ⟨lkRX8_97, List.forall_mem_cons.mpr ⟨lkRX8_98, List.forall_mem_cons.mpr ⟨lkRX8_99, List.forall_mem_cons.mpr ⟨lkRX8_100, List.forall_mem_cons.mpr ⟨lkRX8_101, List.forall_mem_cons.mpr ⟨lkRX8_102, List.forall_mem_cons.mpr ⟨lkRX8_103, List.forall_mem_cons.mpr ⟨lkRX8_104, List.forall_mem_cons.mpr ⟨lkRX8_105, List.forall_mem_cons.mpr ⟨lkRX8_106, List.forall_mem_cons.mpr ⟨lkRX8_107, List.forall_mem_cons.mpr ⟨lkRX8_108, List.forall_mem_cons.mpr ⟨lkRX8_109, List.forall_mem_cons.mpr ⟨lkRX8_110, List.forall_mem_cons.mpr ⟨lkRX8_111, List.forall_mem_cons.mpr ⟨lkRX8_112, List.forall_mem_cons.mpr ⟨lkRX8_113, List.forall_mem_cons.mpr ⟨lkRX8_114, List.forall_mem_cons.mpr ⟨lkRX8_115, List.forall_mem_cons.mpr ⟨lkRX8_116, List.forall_mem_cons.mpr ⟨lkRX8_117, List.forall_mem_cons.mpr ⟨lkRX8_118, List.forall_mem_cons.mpr ⟨lkRX8_119, List.forall_mem_cons.mpr ⟨lkRX8_120, List.forall_mem_cons.mpr ⟨lkRX8_121, List.forall_mem_cons.mpr ⟨lkRX8_122, List.forall_mem_cons.mpr ⟨lkRX8_123, List.forall_mem_cons.mpr ⟨lkRX8_124, List.forall_mem_cons.mpr ⟨lkRX8_125, List.forall_mem_cons.mpr ⟨lkRX8_126, List.forall_mem_cons.mpr ⟨lkRX8_127, List.forall_mem_cons.mpr ⟨lkRX8_128, fun _ h => absurd h List.not_mem_nil⟩⟩⟩⟩⟩⟩⟩⟩⟩⟩⟩⟩⟩⟩⟩⟩⟩⟩⟩⟩⟩⟩⟩⟩⟩⟩⟩⟩⟩⟩⟩⟩⟩⟩⟩⟩⟩⟩⟩⟩⟩⟩⟩⟩⟩⟩⟩⟩⟩⟩⟩⟩⟩⟩⟩⟩⟩⟩⟩⟩⟩⟩⟩⟩⟩⟩⟩⟩⟩⟩⟩⟩⟩⟩⟩⟩⟩⟩⟩⟩⟩⟩⟩⟩⟩⟩⟩⟩⟩⟩⟩⟩⟩⟩⟩⟩⟩⟩⟩⟩⟩⟩⟩⟩⟩⟩⟩⟩⟩⟩⟩⟩⟩⟩⟩⟩⟩⟩⟩⟩⟩⟩⟩⟩⟩⟩⟩⟩⟩
theorem lkRJ6_0 : LnkOK MT RJ6 (6, 265, 0, 0, 0, 1431655765) := tb_3 80 (by decide +kernel) rfl
theorem lkRJ6_1 : LnkOK MT RJ6 (6, 266, 0, 0, 0, 858993459) := tb_3 81 (by decide +kernel) rfl
theorem lkRJ6_2 : LnkOK MT RJ6 (6, 267, 0, 0, 0, 252645135) := tb_3 82 (by decide +kernel) rfl
def lkRJ6 : List Lnk := [(6, 265, 0, 0, 0, 1431655765), (6, 266, 0, 0, 0, 858993459), (6, 267, 0, 0, 0, 252645135)]
theorem lkRJ6_ok : ∀ q ∈ lkRJ6, LnkOK MT RJ6 q := List.forall_mem_cons.mpr ⟨lkRJ6_0, List.forall_mem_cons.mpr ⟨lkRJ6_1, List.forall_mem_cons.mpr ⟨lkRJ6_2, fun _ h => absurd h List.not_mem_nil⟩⟩⟩
theorem lkRL_0 : LnkOK MT RL (3, 13, 56, 1, 7, 0) := ⟨cal56, tb_2 90 (by decide +kernel) rfl, tb_2 91 (by decide +kernel) rfl, tb_2 92 (by decide +kernel) rfl, (RX7, TX7, 16), rfl, rfl⟩
theorem lkRL_1 : LnkOK MT RL (3, 17, 129, 1, 8, 0) := ⟨cal129, tb_4 222 (by decide +kernel) rfl, tb_4 223 (by decide +kernel) rfl, tb_4 224 (by decide +kernel) rfl, (RX8, TX8, 27), rfl, rfl⟩
theorem lkRL_2 : LnkOK MT RL (3, 18, 57, 1, 7, 0) := ⟨cal57, tb_2 98 (by decide +kernel) rfl, tb_2 99 (by decide +kernel) rfl, tb_2 100 (by decide +kernel) rfl, (RX7, TX7, 16), rfl, rfl⟩
theorem lkRL_3 : LnkOK MT RL (3, 21, 130, 1, 8, 0) := ⟨cal130, tb_4 230 (by decide +kernel) rfl, tb_4 231 (by decide +kernel) rfl, tb_4 232 (by decide +kernel) rfl, (RX8, TX8, 27), rfl, rfl⟩
theorem lkRL_4 : LnkOK MT RL (3, 22, 58, 3, 7, 0) := ⟨cal58, tb_2 151 (by decide +kernel) rfl, tb_2 152 (by decide +kernel) rfl, tb_2 153 (by decide +kernel) rfl, (RX7, TX7, 16), rfl, rfl⟩
theorem lkRL_5 : LnkOK MT RL (3, 26, 132, 3, 8, 0) := ⟨cal132, tb_4 238 (by decide +kernel) rfl, tb_4 239 (by decide +kernel) rfl, tb_5 0 (by decide +kernel) rfl, (RX8, TX8, 27), rfl, rfl⟩
theorem lkRL_6 : LnkOK MT RL (3, 27, 59, 2, 7, 0) := ⟨cal59, tb_2 174 (by decide +kernel) rfl, tb_2 175 (by decide +kernel) rfl, tb_2 176 (by decide +kernel) rfl, (RX7, TX7, 16), rfl, rfl⟩
theorem lkRL_7 : LnkOK MT RL (3, 31, 133, 2, 8, 0) := ⟨cal133, tb_5 19 (by decide +kernel) rfl, tb_5 20 (by decide +kernel) rfl, tb_5 21 (by decide +kernel) rfl, (RX8, TX8, 27), rfl, rfl⟩
theorem lkRL_8 : LnkOK MT RL (3, 32, 60, 2, 7, 0) := ⟨cal60, tb_2 178 (by decide +kernel) rfl, tb_2 179 (by decide +kernel) rfl, tb_2 180 (by decide +kernel) rfl, (RX7, TX7, 16), rfl, rfl⟩
theorem lkRL_9 : LnkOK MT RL (3, 35, 138, 2, 8, 0) := ⟨cal138, tb_5 23 (by decide +kernel) rfl, tb_5 24 (by decide +kernel) rfl, tb_5 25 (by decide +kernel) rfl, (RX8, TX8, 27), rfl, rfl⟩
theorem lkRL_10 : LnkOK MT RL (3, 36, 61, 1, 7, 0) := ⟨cal61, tb_2 190 (by decide +kernel) rfl, tb_2 191 (by decide +kernel) rfl, tb_2 192 (by decide +kernel) rfl, (RX7, TX7, 16), rfl, rfl⟩
theorem lkRL_11 : LnkOK MT RL (3, 39, 139, 1, 8, 0) := ⟨cal139, tb_5 65 (by decide +kernel) rfl, tb_5 66 (by decide +kernel) rfl, tb_5 67 (by decide +kernel) rfl, (RX8, TX8, 27), rfl, rfl⟩
theorem lkRL_12 : LnkOK MT RL (3, 40, 62, 2, 7, 0) := ⟨cal62, tb_2 194 (by decide +kernel) rfl, tb_2 195 (by decide +kernel) rfl, tb_2 196 (by decide +kernel) rfl, (RX7, TX7, 16), rfl, rfl⟩
theorem lkRL_13 : LnkOK MT RL (3, 43, 141, 2, 8, 0) := ⟨cal141, tb_5 77 (by decide +kernel) rfl, tb_5 78 (by decide +kernel) rfl, tb_5 79 (by decide +kernel) rfl, (RX8, TX8, 27), rfl, rfl⟩
theorem lkRL_14 : LnkOK MT RL (3, 44, 63, 1, 7, 0) := ⟨cal63, tb_2 200 (by decide +kernel) rfl, tb_2 201 (by decide +kernel) rfl, tb_2 202 (by decide +kernel) rfl, (RX7, TX7, 16), rfl, rfl⟩
theorem lkRL_15 : LnkOK MT RL (3, 47, 152, 1, 8, 0) := ⟨cal152, tb_5 84 (by decide +kernel) rfl, tb_5 85 (by decide +kernel) rfl, tb_5 86 (by decide +kernel) rfl, (RX8, TX8, 27), rfl, rfl⟩
theorem lkRL_16 : LnkOK MT RL (3, 48, 64, 2, 7, 0) := ⟨cal64, tb_2 208 (by decide +kernel) rfl, tb_2 209 (by decide +kernel) rfl, tb_2 210 (by decide +kernel) rfl, (RX7, TX7, 16), rfl, rfl⟩
theorem lkRL_17 : LnkOK MT RL (3, 51, 153, 2, 8, 0) := ⟨cal153, tb_5 99 (by decide +kernel) rfl, tb_5 100 (by decide +kernel) rfl, tb_5 101 (by decide +kernel) rfl, (RX8, TX8, 27), rfl, rfl⟩
theorem lkRL_18 : LnkOK MT RL (3, 52, 65, 1, 7, 0) := ⟨cal65, tb_2 234 (by decide +kernel) rfl, tb_2 235 (by decide +kernel) rfl, tb_2 236 (by decide +kernel) rfl, (RX7, TX7, 16), rfl, rfl⟩
theorem lkRL_19 : LnkOK MT RL (3, 55, 156, 1, 8, 0) := ⟨cal156, tb_5 111 (by decide +kernel) rfl, tb_5 112 (by decide +kernel) rfl, tb_5 113 (by decide +kernel) rfl, (RX8, TX8, 27), rfl, rfl⟩
theorem lkRL_20 : LnkOK MT RL (3, 56, 66, 3, 7, 0) := ⟨cal66, tb_3 24 (by decide +kernel) rfl, tb_3 25 (by decide +kernel) rfl, tb_3 26 (by decide +kernel) rfl, (RX7, TX7, 16), rfl, rfl⟩
theorem lkRL_21 : LnkOK MT RL (3, 60, 157, 3, 8, 0) := ⟨cal157, tb_5 129 (by decide +kernel) rfl, tb_5 130 (by decide +kernel) rfl, tb_5 131 (by decide +kernel) rfl, (RX8, TX8, 27), rfl, rfl⟩
theorem lkRL_22 : LnkOK MT RL (3, 61, 67, 0, 7, 0) := ⟨cal67, tb_3 40 (by decide +kernel) rfl, tb_3 41 (by decide +kernel) rfl, tb_3 42 (by decide +kernel) rfl, (RX7, TX7, 16), rfl, rfl⟩
theorem lkRL_23 : LnkOK MT RL (3, 65, 158, 0, 8, 0) := ⟨cal158, tb_5 141 (by decide +kernel) rfl, tb_5 142 (by decide +kernel) rfl, tb_5 143 (by decide +kernel) rfl, (RX8, TX8, 27), rfl, rfl⟩
theorem lkRL_24 : LnkOK MT RL (3, 66, 68, 1, 7, 0) := ⟨cal68, tb_3 51 (by decide +kernel) rfl, tb_3 52 (by decide +kernel) rfl, tb_3 53 (by decide +kernel) rfl, (RX7, TX7, 16), rfl, rfl⟩
theorem lkRL_25 : LnkOK MT RL (3, 69, 160, 1, 8, 0) := ⟨cal160, tb_5 145 (by decide +kernel) rfl, tb_5 146 (by decide +kernel) rfl, tb_5 147 (by decide +kernel) rfl, (RX8, TX8, 27), rfl, rfl⟩
theorem lkRL_26 : LnkOK MT RL (3, 70, 69, 1, 7, 0) := ⟨cal69, tb_3 65 (by decide +kernel) rfl, tb_3 66 (by decide +kernel) rfl, tb_3 67 (by decide +kernel) rfl, (RX7, TX7, 16), rfl, rfl⟩
theorem lkRL_27 : LnkOK MT RL (3, 73, 162, 1, 8, 0) := ⟨cal162, tb_5 153 (by decide +kernel) rfl, tb_5 154 (by decide +kernel) rfl, tb_5 155 (by decide +kernel) rfl, (RX8, TX8, 27), rfl, rfl⟩
theorem lkRL_28 : LnkOK MT RL (3, 74, 70, 3, 7, 0) := ⟨cal70, tb_3 84 (by decide +kernel) rfl, tb_3 85 (by decide +kernel) rfl, tb_3 86 (by decide +kernel) rfl, (RX7, TX7, 16), rfl, rfl⟩
theorem lkRL_29 : LnkOK MT RL (3, 77, 163, 3, 8, 0) := ⟨cal163, tb_5 169 (by decide +kernel) rfl, tb_5 170 (by decide +kernel) rfl, tb_5 171 (by decide +kernel) rfl, (RX8, TX8, 27), rfl, rfl⟩
theorem lkRL_30 : LnkOK MT RL (3, 78, 71, 1, 7, 0) := ⟨cal71, tb_3 92 (by decide +kernel) rfl, tb_3 93 (by decide +kernel) rfl, tb_3 94 (by decide +kernel) rfl, (RX7, TX7, 16), rfl, rfl⟩
theorem lkRL_31 : LnkOK MT RL (3, 81, 168, 1, 8, 0) := ⟨cal168, tb_5 181 (by decide +kernel) rfl, tb_5 182 (by decide +kernel) rfl, tb_5 183 (by decide +kernel) rfl, (RX8, TX8, 27), rfl, rfl⟩
theorem lkRL_32 : LnkOK MT RL (3, 82, 72, 1, 7, 0) := ⟨cal72, tb_3 112 (by decide +kernel) rfl, tb_3 113 (by decide +kernel) rfl, tb_3 114 (by decide +kernel) rfl, (RX7, TX7, 16), rfl, rfl⟩
theorem lkRL_33 : LnkOK MT RL (3, 86, 165, 1, 8, 0) := ⟨cal165, tb_5 173 (by decide +kernel) rfl, tb_5 174 (by decide +kernel) rfl, tb_5 175 (by decide +kernel) rfl, (RX8, TX8, 27), rfl, rfl⟩
theorem lkRL_34 : LnkOK MT RL (3, 87, 73, 1, 7, 0) := ⟨cal73, tb_3 117 (by decide +kernel) rfl, tb_3 118 (by decide +kernel) rfl, tb_3 119 (by decide +kernel) rfl, (RX7, TX7, 16), rfl, rfl⟩
theorem lkRL_35 : LnkOK MT RL (3, 90, 169, 1, 8, 0) := ⟨cal169, tb_5 193 (by decide +kernel) rfl, tb_5 194 (by decide +kernel) rfl, tb_5 195 (by decide +kernel) rfl, (RX8, TX8, 27), rfl, rfl⟩
theorem lkRL_36 : LnkOK MT RL (3, 91, 74, 3, 7, 0) := ⟨cal74, tb_3 121 (by decide +kernel) rfl, tb_3 122 (by decide +kernel) rfl, tb_3 123 (by decide +kernel) rfl, (RX7, TX7, 16), rfl, rfl⟩
theorem lkRL_37 : LnkOK MT RL (3, 94, 170, 3, 8, 0) := ⟨cal170, tb_5 197 (by decide +kernel) rfl, tb_5 198 (by decide +kernel) rfl, tb_5 199 (by decide +kernel) rfl, (RX8, TX8, 27), rfl, rfl⟩
theorem lkRL_38 : LnkOK MT RL (3, 95, 75, 2, 7, 0) := ⟨cal75, tb_3 125 (by decide +kernel) rfl, tb_3 126 (by decide +kernel) rfl, tb_3 127 (by decide +kernel) rfl, (RX7, TX7, 16), rfl, rfl⟩
theorem lkRL_39 : LnkOK MT RL (3, 98, 171, 2, 8, 0) := ⟨cal171, tb_5 201 (by decide +kernel) rfl, tb_5 202 (by decide +kernel) rfl, tb_5 203 (by decide +kernel) rfl, (RX8, TX8, 27), rfl, rfl⟩
theorem lkRL_40 : LnkOK MT RL (3, 99, 76, 0, 7, 0) := ⟨cal76, tb_3 133 (by decide +kernel) rfl, tb_3 134 (by decide +kernel) rfl, tb_3 135 (by decide +kernel) rfl, (RX7, TX7, 16), rfl, rfl⟩
theorem lkRL_41 : LnkOK MT RL (3, 102, 178, 0, 8, 0) := ⟨cal178, tb_5 205 (by decide +kernel) rfl, tb_5 206 (by decide +kernel) rfl, tb_5 207 (by decide +kernel) rfl, (RX8, TX8, 27), rfl, rfl⟩
theorem lkRL_42 : LnkOK MT RL (3, 103, 77, 4, 7, 0) := ⟨cal77, tb_3 163 (by decide +kernel) rfl, tb_3 164 (by decide +kernel) rfl, tb_3 165 (by decide +kernel) rfl, (RX7, TX7, 16), rfl, rfl⟩
theorem lkRL_43 : LnkOK MT RL (3, 107, 181, 4, 8, 0) := ⟨cal181, tb_5 232 (by decide +kernel) rfl, tb_5 233 (by decide +kernel) rfl, tb_5 234 (by decide +kernel) rfl, (RX8, TX8, 27), rfl, rfl⟩
theorem lkRL_44 : LnkOK MT RL (3, 108, 78, 2, 7, 0) := ⟨cal78, tb_3 170 (by decide +kernel) rfl, tb_3 171 (by decide +kernel) rfl, tb_3 172 (by decide +kernel) rfl, (RX7, TX7, 16), rfl, rfl⟩
theorem lkRL_45 : LnkOK MT RL (3, 111, 182, 2, 8, 0) := ⟨cal182, tb_6 4 (by decide +kernel) rfl, tb_6 5 (by decide +kernel) rfl, tb_6 6 (by decide +kernel) rfl, (RX8, TX8, 27), rfl, rfl⟩
theorem lkRL_46 : LnkOK MT RL (3, 112, 79, 1, 7, 0) := ⟨cal79, tb_3 174 (by decide +kernel) rfl, tb_3 175 (by decide +kernel) rfl, tb_3 176 (by decide +kernel) rfl, (RX7, TX7, 16), rfl, rfl⟩
theorem lkRL_47 : LnkOK MT RL (3, 115, 183, 1, 8, 0) := ⟨cal183, tb_6 8 (by decide +kernel) rfl, tb_6 9 (by decide +kernel) rfl, tb_6 10 (by decide +kernel) rfl, (RX8, TX8, 27), rfl, rfl⟩
theorem lkRL_48 : LnkOK MT RL (3, 116, 80, 2, 7, 0) := ⟨cal80, tb_3 178 (by decide +kernel) rfl, tb_3 179 (by decide +kernel) rfl, tb_3 180 (by decide +kernel) rfl, (RX7, TX7, 16), rfl, rfl⟩
theorem lkRL_49 : LnkOK MT RL (3, 119, 188, 2, 8, 0) := ⟨cal188, tb_6 12 (by decide +kernel) rfl, tb_6 13 (by decide +kernel) rfl, tb_6 14 (by decide +kernel) rfl, (RX8, TX8, 27), rfl, rfl⟩
theorem lkRL_50 : LnkOK MT RL (3, 120, 81, 1, 7, 0) := ⟨cal81, tb_3 194 (by decide +kernel) rfl, tb_3 195 (by decide +kernel) rfl, tb_3 196 (by decide +kernel) rfl, (RX7, TX7, 16), rfl, rfl⟩
theorem lkRL_51 : LnkOK MT RL (3, 123, 192, 1, 8, 0) := ⟨cal192, tb_6 32 (by decide +kernel) rfl, tb_6 33 (by decide +kernel) rfl, tb_6 34 (by decide +kernel) rfl, (RX8, TX8, 27), rfl, rfl⟩
theorem lkRL_52 : LnkOK MT RL (3, 124, 82, 0, 7, 0) := ⟨cal82, tb_3 214 (by decide +kernel) rfl, tb_3 215 (by decide +kernel) rfl, tb_3 216 (by decide +kernel) rfl, (RX7, TX7, 16), rfl, rfl⟩
theorem lkRL_53 : LnkOK MT RL (3, 127, 202, 0, 8, 0) := ⟨cal202, tb_6 49 (by decide +kernel) rfl, tb_6 50 (by decide +kernel) rfl, tb_6 51 (by decide +kernel) rfl, (RX8, TX8, 27), rfl, rfl⟩
theorem lkRL_54 : LnkOK MT RL (3, 128, 83, 1, 7, 0) := ⟨cal83, tb_4 46 (by decide +kernel) rfl, tb_4 47 (by decide +kernel) rfl, tb_4 48 (by decide +kernel) rfl, (RX7, TX7, 16), rfl, rfl⟩
theorem lkRL_55 : LnkOK MT RL (3, 131, 211, 1, 8, 0) := ⟨cal211, tb_6 92 (by decide +kernel) rfl, tb_6 93 (by decide +kernel) rfl, tb_6 94 (by decide +kernel) rfl, (RX8, TX8, 27), rfl, rfl⟩
theorem lkRL_56 : LnkOK MT RL (3, 132, 84, 2, 7, 0) := ⟨cal84, tb_4 62 (by decide +kernel) rfl, tb_4 63 (by decide +kernel) rfl, tb_4 64 (by decide +kernel) rfl, (RX7, TX7, 16), rfl, rfl⟩
theorem lkRL_57 : LnkOK MT RL (3, 135, 212, 2, 8, 0) := ⟨cal212, tb_6 129 (by decide +kernel) rfl, tb_6 130 (by decide +kernel) rfl, tb_6 131 (by decide +kernel) rfl, (RX8, TX8, 27), rfl, rfl⟩
theorem lkRL_58 : LnkOK MT RL (3, 136, 85, 1, 7, 0) := ⟨cal85, tb_4 70 (by decide +kernel) rfl, tb_4 71 (by decide +kernel) rfl, tb_4 72 (by decide +kernel) rfl, (RX7, TX7, 16), rfl, rfl⟩
theorem lkRL_59 : LnkOK MT RL (3, 139, 213, 1, 8, 0) := ⟨cal213, tb_6 133 (by decide +kernel) rfl, tb_6 134 (by decide +kernel) rfl, tb_6 135 (by decide +kernel) rfl, (RX8, TX8, 27), rfl, rfl⟩
theorem lkRL_60 : LnkOK MT RL (3, 140, 86, 3, 7, 0) := ⟨cal86, tb_4 74 (by decide +kernel) rfl, tb_4 75 (by decide +kernel) rfl, tb_4 76 (by decide +kernel) rfl, (RX7, TX7, 16), rfl, rfl⟩
theorem lkRL_61 : LnkOK MT RL (3, 143, 215, 3, 8, 0) := ⟨cal215, tb_6 137 (by decide +kernel) rfl, tb_6 138 (by decide +kernel) rfl, tb_6 139 (by decide +kernel) rfl, (RX8, TX8, 27), rfl, rfl⟩
theorem lkRL_62 : LnkOK MT RL (3, 144, 87, 2, 7, 0) := ⟨cal87, tb_4 82 (by decide +kernel) rfl, tb_4 83 (by decide +kernel) rfl, tb_4 84 (by decide +kernel) rfl, (RX7, TX7, 16), rfl, rfl⟩
theorem lkRL_63 : LnkOK MT RL (3, 147, 217, 2, 8, 0) := ⟨cal217, tb_6 148 (by decide +kernel) rfl, tb_6 149 (by decide +kernel) rfl, tb_6 150 (by decide +kernel) rfl, (RX8, TX8, 27), rfl, rfl⟩
theorem lkRL_64 : LnkOK MT RL (3, 148, 88, 3, 7, 0) := ⟨cal88, tb_4 87 (by decide +kernel) rfl, tb_4 88 (by decide +kernel) rfl, tb_4 89 (by decide +kernel) rfl, (RX7, TX7, 16), rfl, rfl⟩
theorem lkRL_65 : LnkOK MT RL (3, 151, 219, 3, 8, 0) := ⟨cal219, tb_6 152 (by decide +kernel) rfl, tb_6 153 (by decide +kernel) rfl, tb_6 154 (by decide +kernel) rfl, (RX8, TX8, 27), rfl, rfl⟩
theorem lkRL_66 : LnkOK MT RL (3, 152, 89, 2, 7, 0) := ⟨cal89, tb_4 91 (by decide +kernel) rfl, tb_4 92 (by decide +kernel) rfl, tb_4 93 (by decide +kernel) rfl, (RX7, TX7, 16), rfl, rfl⟩
theorem lkRL_67 : LnkOK MT RL (3, 155, 220, 2, 8, 0) := ⟨cal220, tb_6 164 (by decide +kernel) rfl, tb_6 165 (by decide +kernel) rfl, tb_6 166 (by decide +kernel) rfl, (RX8, TX8, 27), rfl, rfl⟩
theorem lkRL_68 : LnkOK MT RL (3, 156, 90, 3, 7, 0) := ⟨cal90, tb_4 95 (by decide +kernel) rfl, tb_4 96 (by decide +kernel) rfl, tb_4 97 (by decide +kernel) rfl, (RX7, TX7, 16), rfl, rfl⟩
theorem lkRL_69 : LnkOK MT RL (3, 159, 221, 3, 8, 0) := ⟨cal221, tb_6 168 (by decide +kernel) rfl, tb_6 169 (by decide +kernel) rfl, tb_6 170 (by decide +kernel) rfl, (RX8, TX8, 27), rfl, rfl⟩
theorem lkRL_70 : LnkOK MT RL (3, 160, 91, 1, 7, 0) := ⟨cal91, tb_4 100 (by decide +kernel) rfl, tb_4 101 (by decide +kernel) rfl, tb_4 102 (by decide +kernel) rfl, (RX7, TX7, 16), rfl, rfl⟩
theorem lkRL_71 : LnkOK MT RL (3, 163, 222, 1, 8, 0) := ⟨cal222, tb_6 172 (by decide +kernel) rfl, tb_6 173 (by decide +kernel) rfl, tb_6 174 (by decide +kernel) rfl, (RX8, TX8, 27), rfl, rfl⟩
theorem lkRL_72 : LnkOK MT RL (3, 164, 92, 0, 7, 0) := ⟨cal92, tb_4 104 (by decide +kernel) rfl, tb_4 105 (by decide +kernel) rfl, tb_4 106 (by decide +kernel) rfl, (RX7, TX7, 16), rfl, rfl⟩
theorem lkRL_73 : LnkOK MT RL (3, 167, 223, 0, 8, 0) := ⟨cal223, tb_6 176 (by decide +kernel) rfl, tb_6 177 (by decide +kernel) rfl, tb_6 178 (by decide +kernel) rfl, (RX8, TX8, 27), rfl, rfl⟩
theorem lkRL_74 : LnkOK MT RL (3, 168, 93, 0, 7, 0) := ⟨cal93, tb_4 115 (by decide +kernel) rfl, tb_4 116 (by decide +kernel) rfl, tb_4 117 (by decide +kernel) rfl, (RX7, TX7, 16), rfl, rfl⟩
theorem lkRL_75 : LnkOK MT RL (3, 171, 224, 0, 8, 0) := ⟨cal224, tb_6 180 (by decide +kernel) rfl, tb_6 181 (by decide +kernel) rfl, tb_6 182 (by decide +kernel) rfl, (RX8, TX8, 27), rfl, rfl⟩
theorem lkRL_76 : LnkOK MT RL (3, 172, 94, 0, 7, 0) := ⟨cal94, tb_4 124 (by decide +kernel) rfl, tb_4 125 (by decide +kernel) rfl, tb_4 126 (by decide +kernel) rfl, (RX7, TX7, 16), rfl, rfl⟩
theorem lkRL_77 : LnkOK MT RL (3, 175, 225, 0, 8, 0) := ⟨cal225, tb_6 184 (by decide +kernel) rfl, tb_6 185 (by decide +kernel) rfl, tb_6 186 (by decide +kernel) rfl, (RX8, TX8, 27), rfl, rfl⟩
theorem lkRL_78 : LnkOK MT RL (3, 176, 95, 1, 7, 0) := ⟨cal95, tb_4 128 (by decide +kernel) rfl, tb_4 129 (by decide +kernel) rfl, tb_4 130 (by decide +kernel) rfl, (RX7, TX7, 16), rfl, rfl⟩
theorem lkRL_79 : LnkOK MT RL (3, 179, 227, 1, 8, 0) := ⟨cal227, tb_6 188 (by decide +kernel) rfl, tb_6 189 (by decide +kernel) rfl, tb_6 190 (by decide +kernel) rfl, (RX8, TX8, 27), rfl, rfl⟩
def lkRL : List Lnk := [(3, 13, 56, 1, 7, 0), (3, 17, 129, 1, 8, 0), (3, 18, 57, 1, 7, 0), (3, 21, 130, 1, 8, 0), (3, 22, 58, 3, 7, 0), (3, 26, 132, 3, 8, 0), (3, 27, 59, 2, 7, 0), (3, 31, 133, 2, 8, 0), (3, 32, 60, 2, 7, 0), (3, 35, 138, 2, 8, 0), (3, 36, 61, 1, 7, 0), (3, 39, 139, 1, 8, 0), (3, 40, 62, 2, 7, 0), (3, 43, 141, 2, 8, 0), (3, 44, 63, 1, 7, 0), (3, 47, 152, 1, 8, 0), (3, 48, 64, 2, 7, 0), (3, 51, 153, 2, 8, 0), (3, 52, 65, 1, 7, 0), (3, 55, 156, 1, 8, 0), (3, 56, 66, 3, 7, 0), (3, 60, 157, 3, 8, 0), (3, 61, 67, 0, 7, 0), (3, 65, 158, 0, 8, 0), (3, 66, 68, 1, 7, 0), (3, 69, 160, 1, 8, 0), (3, 70, 69, 1, 7, 0), (3, 73, 162, 1, 8, 0), (3, 74, 70, 3, 7, 0), (3, 77, 163, 3, 8, 0), (3, 78, 71, 1, 7, 0), (3, 81, 168, 1, 8, 0), (3, 82, 72, 1, 7, 0), (3, 86, 165, 1, 8, 0), (3, 87, 73, 1, 7, 0), (3, 90, 169, 1, 8, 0), (3, 91, 74, 3, 7, 0), (3, 94, 170, 3, 8, 0), (3, 95, 75, 2, 7, 0), (3, 98, 171, 2, 8, 0), (3, 99, 76, 0, 7, 0), (3, 102, 178, 0, 8, 0), (3, 103, 77, 4, 7, 0), (3, 107, 181, 4, 8, 0), (3, 108, 78, 2, 7, 0), (3, 111, 182, 2, 8, 0), (3, 112, 79, 1, 7, 0), (3, 115, 183, 1, 8, 0), (3, 116, 80, 2, 7, 0), (3, 119, 188, 2, 8, 0), (3, 120, 81, 1, 7, 0), (3, 123, 192, 1, 8, 0), (3, 124, 82, 0, 7, 0), (3, 127, 202, 0, 8, 0), (3, 128, 83, 1, 7, 0), (3, 131, 211, 1, 8, 0), (3, 132, 84, 2, 7, 0), (3, 135, 212, 2, 8, 0), (3, 136, 85, 1, 7, 0), (3, 139, 213, 1, 8, 0), (3, 140, 86, 3, 7, 0), (3, 143, 215, 3, 8, 0), (3, 144, 87, 2, 7, 0), (3, 147, 217, 2, 8, 0), (3, 148, 88, 3, 7, 0), (3, 151, 219, 3, 8, 0), (3, 152, 89, 2, 7, 0), (3, 155, 220, 2, 8, 0), (3, 156, 90, 3, 7, 0), (3, 159, 221, 3, 8, 0), (3, 160, 91, 1, 7, 0), (3, 163, 222, 1, 8, 0), (3, 164, 92, 0, 7, 0), (3, 167, 223, 0, 8, 0), (3, 168, 93, 0, 7, 0), (3, 171, 224, 0, 8, 0), (3, 172, 94, 0, 7, 0), (3, 175, 225, 0, 8, 0), (3, 176, 95, 1, 7, 0), (3, 179, 227, 1, 8, 0)]
theorem lkRL_ok : ∀ q ∈ lkRL, LnkOK MT RL q := List.forall_mem_cons.mpr ⟨lkRL_0, List.forall_mem_cons.mpr ⟨lkRL_1, List.forall_mem_cons.mpr ⟨lkRL_2, List.forall_mem_cons.mpr ⟨lkRL_3, List.forall_mem_cons.mpr ⟨lkRL_4, List.forall_mem_cons.mpr ⟨lkRL_5, List.forall_mem_cons.mpr ⟨lkRL_6, List.forall_mem_cons.mpr ⟨lkRL_7, List.forall_mem_cons.mpr ⟨lkRL_8, List.forall_mem_cons.mpr ⟨lkRL_9, List.forall_mem_cons.mpr ⟨lkRL_10, List.forall_mem_cons.mpr ⟨lkRL_11, List.forall_mem_cons.mpr ⟨lkRL_12, List.forall_mem_cons.mpr ⟨lkRL_13, List.forall_mem_cons.mpr ⟨lkRL_14, List.forall_mem_cons.mpr ⟨lkRL_15, List.forall_mem_cons.mpr ⟨lkRL_16, List.forall_mem_cons.mpr ⟨lkRL_17, List.forall_mem_cons.mpr ⟨lkRL_18, List.forall_mem_cons.mpr ⟨lkRL_19, List.forall_mem_cons.mpr ⟨lkRL_20, List.forall_mem_cons.mpr ⟨lkRL_21, List.forall_mem_cons.mpr ⟨lkRL_22, List.forall_mem_cons.mpr ⟨lkRL_23, List.forall_mem_cons.mpr ⟨lkRL_24, List.forall_mem_cons.mpr ⟨lkRL_25, List.forall_mem_cons.mpr ⟨lkRL_26, List.forall_mem_cons.mpr ⟨lkRL_27, List.forall_mem_cons.mpr ⟨lkRL_28, List.forall_mem_cons.mpr ⟨lkRL_29, List.forall_mem_cons.mpr ⟨lkRL_30, List.forall_mem_cons.mpr ⟨lkRL_31, List.forall_mem_cons.mpr ⟨lkRL_32, List.forall_mem_cons.mpr ⟨lkRL_33, List.forall_mem_cons.mpr ⟨lkRL_34, List.forall_mem_cons.mpr ⟨lkRL_35, List.forall_mem_cons.mpr ⟨lkRL_36, List.forall_mem_cons.mpr ⟨lkRL_37, List.forall_mem_cons.mpr ⟨lkRL_38, List.forall_mem_cons.mpr ⟨lkRL_39, List.forall_mem_cons.mpr ⟨lkRL_40, List.forall_mem_cons.mpr ⟨lkRL_41, List.forall_mem_cons.mpr ⟨lkRL_42, List.forall_mem_cons.mpr ⟨lkRL_43, List.forall_mem_cons.mpr ⟨lkRL_44, List.forall_mem_cons.mpr ⟨lkRL_45, List.forall_mem_cons.mpr ⟨lkRL_46, List.forall_mem_cons.mpr ⟨lkRL_47, List.forall_mem_cons.mpr ⟨lkRL_48, List.forall_mem_cons.mpr ⟨lkRL_49, List.forall_mem_cons.mpr ⟨lkRL_50, List.forall_mem_cons.mpr ⟨lkRL_51, List.forall_mem_cons.mpr ⟨lkRL_52, List.forall_mem_cons.mpr ⟨lkRL_53, List.forall_mem_cons.mpr ⟨lkRL_54, List.forall_mem_cons.mpr ⟨lkRL_55, List.forall_mem_cons.mpr ⟨lkRL_56, List.forall_mem_cons.mpr ⟨lkRL_57, List.forall_mem_cons.mpr ⟨lkRL_58, List.forall_mem_cons.mpr ⟨lkRL_59, List.forall_mem_cons.mpr ⟨lkRL_60, List.forall_mem_cons.mpr ⟨lkRL_61, List.forall_mem_cons.mpr ⟨lkRL_62, List.forall_mem_cons.mpr ⟨lkRL_63, List.forall_mem_cons.mpr ⟨lkRL_64, List.forall_mem_cons.mpr ⟨lkRL_65, List.forall_mem_cons.mpr ⟨lkRL_66, List.forall_mem_cons.mpr ⟨lkRL_67, List.forall_mem_cons.mpr ⟨lkRL_68, List.forall_mem_cons.mpr ⟨lkRL_69, List.forall_mem_cons.mpr ⟨lkRL_70, List.forall_mem_cons.mpr ⟨lkRL_71, List.forall_mem_cons.mpr ⟨lkRL_72, List.forall_mem_cons.mpr ⟨lkRL_73, List.forall_mem_cons.mpr ⟨lkRL_74, List.forall_mem_cons.mpr ⟨lkRL_75, List.forall_mem_cons.mpr ⟨lkRL_76, List.forall_mem_cons.mpr ⟨lkRL_77, List.forall_mem_cons.mpr ⟨lkRL_78, List.forall_mem_cons.mpr ⟨lkRL_79, fun _ h => absurd h List.not_mem_nil⟩⟩⟩⟩⟩⟩⟩⟩⟩⟩⟩⟩⟩⟩⟩⟩⟩⟩⟩⟩⟩⟩⟩⟩⟩⟩⟩⟩⟩⟩⟩⟩⟩⟩⟩⟩⟩⟩⟩⟩⟩⟩⟩⟩⟩⟩⟩⟩⟩⟩⟩⟩⟩⟩⟩⟩⟩⟩⟩⟩⟩⟩⟩⟩⟩⟩⟩⟩⟩⟩⟩⟩⟩⟩⟩⟩⟩⟩⟩⟩
def lkRJ9 : List Lnk := []
theorem lkRJ9_ok : ∀ q ∈ lkRJ9, LnkOK MT RJ9 q := fun _ h => absurd h List.not_mem_nil
def lkRJ7 : List Lnk := []
theorem lkRJ7_ok : ∀ q ∈ lkRJ7, LnkOK MT RJ7 q := fun _ h => absurd h List.not_mem_nil
end
section
def s0_0 : List Ent := [(0, .iload_n 1, 1, 0, 0, 0, [])]
def s0_1 : List Ent := [(1, .invokestatic 30, 3, 228, 1, 0, [])]
def s0_2 : List Ent := [(4, .aload_n 0, 1, 0, 0, 0, []), (5, .getfield 26, 3, 0, 0, 2, []), (8, .getfield 36, 3, 6, 4, 2, []), (11, .getfield 41, 3, 1, 3, 0, []), (14, .if_icmp .eq 5, 3, 19, 0, 0, [])]
def s0_3 : List Ent := [(17, .iconst 0, 1, 0, 0, 0, [])]
def s0_4 : List Ent := [(18, .ireturn, 1, 1, 0, 0, [])]
def s0_5 : List Ent := [(19, .aload_n 0, 1, 0, 0, 0, []), (20, .getfield 12, 3, 0, 1, 2, []), (23, .aload_n 0, 1, 0, 0, 0, []), (24, .getfield 26, 3, 0, 0, 2, []), (27, .getfield 44, 3, 6, 2, 2, []), (30, .aload_n 0, 1, 0, 0, 0, []), (31, .getfield 26, 3, 0, 0, 2, []), (34, .getfield 48, 3, 6, 0, 0, []), (37, .iload_n 1, 1, 0, 0, 0, [])]
def s0_6 : List Ent := [(38, .invokevirtual 51, 3, 4, 3, 1, [])]
def s0_7 : List Ent := [(41, .aload_n 0, 1, 0, 0, 0, []), (42, .getfield 12, 3, 0, 1, 2, []), (45, .getfield 55, 3, 1, 4, 0, []), (48, .iload_n 1, 1, 0, 0, 0, []), (49, .if_icmp .ne 7, 3, 56, 0, 0, [])]
def s0_8 : List Ent := [(52, .iconst 1, 1, 0, 0, 0, []), (53, .goto 4, 3, 57, 0, 0, [])]
def s0_9 : List Ent := [(56, .iconst 0, 1, 0, 0, 0, [])]
def s0_10 : List Ent := [(57, .ireturn, 1, 1, 0, 0, [])]
def sg0 : List (List Ent) := [s0_0, s0_1, s0_2, s0_3, s0_4, s0_5, s0_6, s0_7, s0_8, s0_9, s0_10]
theorem ch0 : chkM mi0.2.1 mi0.2.2.1 mi0.2.2.2 lkRX0 sg0 = true := by decide +kernel
def s1_0 : List Ent := [(0, .lconst 0, 1, 0, 0, 0, []), (1, .lstore_n 1, 1, 0, 0, 0, []), (2, .iconst 0, 1, 0, 0, 0, []), (3, .istore_n 3, 1, 0, 0, 0, [])]
def s1_1 : List Ent := [(4, .iload_n 3, 1, 0, 0, 0, []), (5, .aload_n 0, 1, 0, 0, 0, []), (6, .getfield 26, 3, 0, 0, 2, []), (9, .getfield 48, 3, 6, 0, 0, []), (12, .if_icmp .ge 78, 3, 90, 0, 0, [])]
def s1_2 : List Ent := [(15, .aload_n 0, 1, 0, 0, 0, []), (16, .getfield 12, 3, 0, 1, 2, []), (19, .getfield 55, 3, 1, 4, 0, []), (22, .iload_n 3, 1, 0, 0, 0, [])]
def s1_3 : List Ent := [(23, .invokestatic 58, 3, 112, 2, 0, [])]
def s1_4 : List Ent := [(26, .ifCond .ne 58, 3, 84, 0, 0, [])]
def s1_5 : List Ent := [(29, .aload_n 0, 1, 0, 0, 0, []), (30, .getfield 12, 3, 0, 1, 2, []), (33, .iload_n 3, 1, 0, 0, 0, []), (34, .aload_n 0, 1, 0, 0, 0, []), (35, .getfield 18, 3, 0, 2, 2, [])]
def s1_6 : List Ent := [(38, .invokevirtual 62, 3, 7, 2, 1, [])]
def s1_7 : List Ent := [(41, .aload_n 0, 1, 0, 0, 0, []), (42, .getfield 18, 3, 0, 2, 2, []), (45, .astore 4, 2, 0, 0, 0, []), (47, .aload 4, 2, 0, 0, 0, []), (49, .arraylength, 1, 0, 0, 0, []), (50, .istore 5, 2, 0, 0, 0, []), (52, .iconst 0, 1, 0, 0, 0, []), (53, .istore 6, 2, 0, 0, 0, [])]
def s1_8 : List Ent := [(55, .iload 6, 2, 0, 0, 0, []), (57, .iload 5, 2, 0, 0, 0, []), (59, .if_icmp .ge 25, 3, 84, 0, 0, [])]
def s1_9 : List Ent := [(62, .aload 4, 2, 0, 0, 0, []), (64, .iload 6, 2, 0, 0, 0, []), (66, .iaload, 1, 0, 0, 0, []), (67, .istore 7, 2, 0, 0, 0, []), (69, .lload_n 1, 1, 0, 0, 0, []), (70, .iload 7, 2, 0, 0, 0, []), (72, .invokestatic 66, 3, 0, 0, 8, []), (75, .i2l, 1, 0, 0, 0, []), (76, .ladd, 1, 0, 0, 0, []), (77, .lstore_n 1, 1, 0, 0, 0, []), (78, .iinc 6 1, 3, 0, 0, 0, []), (81, .goto (-26), 3, 55, 0, 0, [])]
def s1_10 : List Ent := [(84, .iinc 3 1, 3, 0, 0, 0, []), (87, .goto (-83), 3, 4, 0, 0, [])]
def s1_11 : List Ent := [(90, .lload_n 1, 1, 0, 0, 0, [])]
def s1_12 : List Ent := [(91, .lreturn, 1, 0, 0, 0, [])]
def sg1 : List (List Ent) := [s1_0, s1_1, s1_2, s1_3, s1_4, s1_5, s1_6, s1_7, s1_8, s1_9, s1_10, s1_11, s1_12]
theorem ch1 : chkM mi1.2.1 mi1.2.2.1 mi1.2.2.2 lkRX0 sg1 = true := by decide +kernel
def s2_0 : List Ent := [(0, .aload_n 0, 1, 0, 0, 0, []), (1, .getfield 22, 3, 0, 3, 0, []), (4, .aload_n 0, 1, 0, 0, 0, []), (5, .getfield 26, 3, 0, 0, 2, []), (8, .getfield 71, 3, 6, 1, 0, []), (11, .if_icmp .ne 4, 3, 15, 0, 0, [])]
def s2_1 : List Ent := [(14, .return_, 1, 0, 0, 0, [])]
def s2_2 : List Ent := [(15, .aload_n 0, 1, 0, 0, 0, []), (16, .aload_n 0, 1, 0, 0, 0, []), (17, .getfield 26, 3, 0, 0, 2, []), (20, .getfield 71, 3, 6, 1, 0, []), (23, .putfield 22, 3, 0, 3, 0, []), (26, .aload_n 0, 1, 0, 0, 0, []), (27, .iconst 0, 1, 0, 0, 0, []), (28, .putfield 74, 3, 0, 4, 0, []), (31, .aload_n 0, 1, 0, 0, 0, []), (32, .iconst 0, 1, 0, 0, 0, []), (33, .putfield 77, 3, 0, 5, 0, []), (36, .iconst 0, 1, 0, 0, 0, []), (37, .istore_n 1, 1, 0, 0, 0, [])]
def s2_3 : List Ent := [(38, .iload_n 1, 1, 0, 0, 0, []), (39, .iconst 1, 1, 0, 0, 0, []), (40, .aload_n 0, 1, 0, 0, 0, []), (41, .getfield 26, 3, 0, 0, 2, []), (44, .getfield 48, 3, 6, 0, 0, []), (47, .ishl, 1, 0, 0, 0, []), (48, .if_icmp .ge 49, 3, 97, 0, 0, [])]
def s2_4 : List Ent := [(51, .iload_n 1, 1, 0, 0, 0, [])]
def s2_5 : List Ent := [(52, .invokestatic 30, 3, 228, 1, 0, [])]
def s2_6 : List Ent := [(55, .aload_n 0, 1, 0, 0, 0, []), (56, .getfield 26, 3, 0, 0, 2, []), (59, .getfield 36, 3, 6, 4, 2, []), (62, .getfield 41, 3, 1, 3, 0, []), (65, .if_icmp .ne 26, 3, 91, 0, 0, [])]
def s2_7 : List Ent := [(68, .aload_n 0, 1, 0, 0, 0, []), (69, .dup, 1, 0, 0, 0, []), (70, .getfield 77, 3, 0, 5, 0, []), (73, .iconst 1, 1, 0, 0, 0, []), (74, .iadd, 1, 0, 0, 0, []), (75, .putfield 77, 3, 0, 5, 0, []), (78, .aload_n 0, 1, 0, 0, 0, []), (79, .iload_n 1, 1, 0, 0, 0, [])]
def s2_8 : List Ent := [(80, .invokevirtual 80, 3, 0, 1, 0, [])]
def s2_9 : List Ent := [(83, .ifCond .eq 8, 3, 91, 0, 0, [])]
def s2_10 : List Ent := [(86, .aload_n 0, 1, 0, 0, 0, []), (87, .iload_n 1, 1, 0, 0, 0, [])]
def s2_11 : List Ent := [(88, .invokevirtual 84, 3, 3, 1, 0, [])]
def s2_12 : List Ent := [(91, .iinc 1 1, 3, 0, 0, 0, []), (94, .goto (-56), 3, 38, 0, 0, [])]
def s2_13 : List Ent := [(97, .return_, 1, 0, 0, 0, [])]
def sg2 : List (List Ent) := [s2_0, s2_1, s2_2, s2_3, s2_4, s2_5, s2_6, s2_7, s2_8, s2_9, s2_10, s2_11, s2_12, s2_13]
theorem ch2 : chkM mi2.2.1 mi2.2.2.1 mi2.2.2.2 lkRX0 sg2 = true := by decide +kernel
def s3_0 : List Ent := [(0, .aload_n 0, 1, 0, 0, 0, [])]
def s3_1 : List Ent := [(1, .invokevirtual 88, 3, 1, 0, 0, [])]
def s3_2 : List Ent := [(4, .lstore_n 2, 1, 0, 0, 0, []), (5, .aload_n 0, 1, 0, 0, 0, []), (6, .getfield 74, 3, 0, 4, 0, []), (9, .ifCond .ne 8, 3, 17, 0, 0, [])]
def s3_3 : List Ent := [(12, .aload_n 0, 1, 0, 0, 0, []), (13, .iload_n 1, 1, 0, 0, 0, []), (14, .putfield 92, 3, 0, 6, 0, [])]
def s3_4 : List Ent := [(17, .aload_n 0, 1, 0, 0, 0, []), (18, .getfield 74, 3, 0, 4, 0, []), (21, .ifCond .eq 12, 3, 33, 0, 0, [])]
def s3_5 : List Ent := [(24, .lload_n 2, 1, 0, 0, 0, []), (25, .aload_n 0, 1, 0, 0, 0, []), (26, .getfield 95, 3, 0, 8, 1, []), (29, .lcmp, 1, 0, 0, 0, []), (30, .ifCond .ge 13, 3, 43, 0, 0, [])]
def s3_6 : List Ent := [(33, .aload_n 0, 1, 0, 0, 0, []), (34, .iload_n 1, 1, 0, 0, 0, []), (35, .putfield 99, 3, 0, 7, 0, []), (38, .aload_n 0, 1, 0, 0, 0, []), (39, .lload_n 2, 1, 0, 0, 0, []), (40, .putfield 95, 3, 0, 8, 1, [])]
def s3_7 : List Ent := [(43, .aload_n 0, 1, 0, 0, 0, []), (44, .dup, 1, 0, 0, 0, []), (45, .getfield 74, 3, 0, 4, 0, []), (48, .iconst 1, 1, 0, 0, 0, []), (49, .iadd, 1, 0, 0, 0, []), (50, .putfield 74, 3, 0, 4, 0, [])]
def s3_8 : List Ent := [(53, .return_, 1, 0, 0, 0, [])]
def sg3 : List (List Ent) := [s3_0, s3_1, s3_2, s3_3, s3_4, s3_5, s3_6, s3_7, s3_8]
theorem ch3 : chkM mi3.2.1 mi3.2.2.1 mi3.2.2.2 lkRX0 sg3 = true := by decide +kernel
def s4_0 : List Ent := [(0, .aload_n 0, 1, 0, 0, 0, []), (1, .iload_n 2, 1, 0, 0, 0, []), (2, .putfield 24, 3, 1, 2, 0, []), (5, .aload_n 0, 1, 0, 0, 0, []), (6, .iconst 0, 1, 0, 0, 0, []), (7, .putfield 28, 3, 1, 3, 0, []), (10, .aload_n 0, 1, 0, 0, 0, []), (11, .iconst 0, 1, 0, 0, 0, []), (12, .putfield 31, 3, 1, 4, 0, []), (15, .aload_n 0, 1, 0, 0, 0, []), (16, .lconst 1, 1, 0, 0, 0, []), (17, .putfield 20, 3, 1, 5, 1, []), (20, .iconst 0, 1, 0, 0, 0, []), (21, .istore 4, 2, 0, 0, 0, [])]
def s4_1 : List Ent := [(23, .iload 4, 2, 0, 0, 0, []), (25, .iconst 5, 1, 0, 0, 0, []), (26, .if_icmp .ge 45, 3, 71, 0, 0, [])]
def s4_2 : List Ent := [(29, .iconst 0, 1, 0, 0, 0, []), (30, .istore 5, 2, 0, 0, 0, [])]
def s4_3 : List Ent := [(32, .iload 5, 2, 0, 0, 0, []), (34, .aload_n 0, 1, 0, 0, 0, []), (35, .getfield 24, 3, 1, 2, 0, []), (38, .if_icmp .ge 27, 3, 65, 0, 0, [])]
def s4_4 : List Ent := [(41, .aload_n 0, 1, 0, 0, 0, []), (42, .getfield 11, 3, 1, 0, 2, []), (45, .iload 4, 2, 0, 0, 0, []), (47, .aaload, 1, 0, 0, 0, []), (48, .iload 5, 2, 0, 0, 0, []), (50, .aload_n 1, 1, 0, 0, 0, []), (51, .iload 5, 2, 0, 0, 0, []), (53, .aaload, 1, 0, 0, 0, []), (54, .iload 4, 2, 0, 0, 0, []), (56, .iaload, 1, 0, 0, 0, []), (57, .i2l, 1, 0, 0, 0, []), (58, .lastore, 1, 0, 0, 0, []), (59, .iinc 5 1, 3, 0, 0, 0, []), (62, .goto (-30), 3, 32, 0, 0, [])]
def s4_5 : List Ent := [(65, .iinc 4 1, 3, 0, 0, 0, []), (68, .goto (-45), 3, 23, 0, 0, [])]
def s4_6 : List Ent := [(71, .iconst 0, 1, 0, 0, 0, []), (72, .istore 4, 2, 0, 0, 0, [])]
def s4_7 : List Ent := [(74, .iload 4, 2, 0, 0, 0, []), (76, .aload_n 0, 1, 0, 0, 0, []), (77, .getfield 24, 3, 1, 2, 0, []), (80, .if_icmp .ge 68, 3, 148, 0, 0, [])]
def s4_8 : List Ent := [(83, .iload_n 3, 1, 0, 0, 0, []), (84, .iload 4, 2, 0, 0, 0, [])]
def s4_9 : List Ent := [(86, .invokestatic 34, 3, 112, 2, 0, [])]
def s4_10 : List Ent := [(89, .iconst 1, 1, 0, 0, 0, []), (90, .if_icmp .ne 52, 3, 142, 0, 0, [])]
def s4_11 : List Ent := [(93, .aload_n 0, 1, 0, 0, 0, []), (94, .iload 4, 2, 0, 0, 0, [])]
def s4_12 : List Ent := [(96, .invokevirtual 38, 3, 5, 1, 1, [])]
def s4_13 : List Ent := [(99, .ifCond .eq 43, 3, 142, 0, 0, [])]
def s4_14 : List Ent := [(102, .aload_n 0, 1, 0, 0, 0, []), (103, .iload 4, 2, 0, 0, 0, [])]
def s4_15 : List Ent := [(105, .invokevirtual 42, 3, 6, 1, 1, [])]
def s4_16 : List Ent := [(108, .aload_n 0, 1, 0, 0, 0, []), (109, .getfield 16, 3, 1, 1, 2, []), (112, .iload 4, 2, 0, 0, 0, []), (114, .aload_n 0, 1, 0, 0, 0, []), (115, .getfield 28, 3, 1, 3, 0, []), (118, .iastore, 1, 0, 0, 0, []), (119, .aload_n 0, 1, 0, 0, 0, []), (120, .dup, 1, 0, 0, 0, []), (121, .getfield 31, 3, 1, 4, 0, []), (124, .iconst 1, 1, 0, 0, 0, []), (125, .iload 4, 2, 0, 0, 0, []), (127, .ishl, 1, 0, 0, 0, []), (128, .ior, 1, 0, 0, 0, []), (129, .putfield 31, 3, 1, 4, 0, []), (132, .aload_n 0, 1, 0, 0, 0, []), (133, .dup, 1, 0, 0, 0, []), (134, .getfield 28, 3, 1, 3, 0, []), (137, .iconst 1, 1, 0, 0, 0, []), (138, .iadd, 1, 0, 0, 0, []), (139, .putfield 28, 3, 1, 3, 0, [])]
def s4_17 : List Ent := [(142, .iinc 4 1, 3, 0, 0, 0, []), (145, .goto (-71), 3, 74, 0, 0, [])]
def s4_18 : List Ent := [(148, .return_, 1, 0, 0, 0, [])]
def sg4 : List (List Ent) := [s4_0, s4_1, s4_2, s4_3, s4_4, s4_5, s4_6, s4_7, s4_8, s4_9, s4_10, s4_11, s4_12, s4_13, s4_14, s4_15, s4_16, s4_17, s4_18]
theorem ch4 : chkM mi4.2.1 mi4.2.2.1 mi4.2.2.2 lkRX1 sg4 = true := by decide +kernel
def s5_0 : List Ent := [(0, .aload_n 0, 1, 0, 0, 0, []), (1, .getfield 28, 3, 1, 3, 0, []), (4, .istore_n 2, 1, 0, 0, 0, [])]
def s5_1 : List Ent := [(5, .iload_n 2, 1, 0, 0, 0, []), (6, .iconst 5, 1, 0, 0, 0, []), (7, .if_icmp .ge 82, 3, 89, 0, 0, [])]
def s5_2 : List Ent := [(10, .aload_n 0, 1, 0, 0, 0, []), (11, .getfield 11, 3, 1, 0, 2, []), (14, .iload_n 2, 1, 0, 0, 0, []), (15, .aaload, 1, 0, 0, 0, []), (16, .iload_n 1, 1, 0, 0, 0, []), (17, .laload, 1, 0, 0, 0, []), (18, .lconst 0, 1, 0, 0, 0, []), (19, .lcmp, 1, 0, 0, 0, []), (20, .ifCond .eq 63, 3, 83, 0, 0, [])]
def s5_3 : List Ent := [(23, .iconst 0, 1, 0, 0, 0, []), (24, .istore_n 3, 1, 0, 0, 0, [])]
def s5_4 : List Ent := [(25, .iload_n 3, 1, 0, 0, 0, []), (26, .aload_n 0, 1, 0, 0, 0, []), (27, .getfield 24, 3, 1, 2, 0, []), (30, .if_icmp .ge 51, 3, 81, 0, 0, [])]
def s5_5 : List Ent := [(33, .aload_n 0, 1, 0, 0, 0, []), (34, .getfield 11, 3, 1, 0, 2, []), (37, .iload_n 2, 1, 0, 0, 0, []), (38, .aaload, 1, 0, 0, 0, []), (39, .iload_n 3, 1, 0, 0, 0, []), (40, .laload, 1, 0, 0, 0, []), (41, .lstore 4, 2, 0, 0, 0, []), (43, .aload_n 0, 1, 0, 0, 0, []), (44, .getfield 11, 3, 1, 0, 2, []), (47, .iload_n 2, 1, 0, 0, 0, []), (48, .aaload, 1, 0, 0, 0, []), (49, .iload_n 3, 1, 0, 0, 0, []), (50, .aload_n 0, 1, 0, 0, 0, []), (51, .getfield 11, 3, 1, 0, 2, []), (54, .aload_n 0, 1, 0, 0, 0, []), (55, .getfield 28, 3, 1, 3, 0, []), (58, .aaload, 1, 0, 0, 0, []), (59, .iload_n 3, 1, 0, 0, 0, []), (60, .laload, 1, 0, 0, 0, []), (61, .lastore, 1, 0, 0, 0, []), (62, .aload_n 0, 1, 0, 0, 0, []), (63, .getfield 11, 3, 1, 0, 2, []), (66, .aload_n 0, 1, 0, 0, 0, []), (67, .getfield 28, 3, 1, 3, 0, []), (70, .aaload, 1, 0, 0, 0, []), (71, .iload_n 3, 1, 0, 0, 0, []), (72, .lload 4, 2, 0, 0, 0, []), (74, .lastore, 1, 0, 0, 0, []), (75, .iinc 3 1, 3, 0, 0, 0, []), (78, .goto (-53), 3, 25, 0, 0, [])]
def s5_6 : List Ent := [(81, .iconst 1, 1, 0, 0, 0, [])]
def s5_7 : List Ent := [(82, .ireturn, 1, 1, 0, 0, [])]
def s5_8 : List Ent := [(83, .iinc 2 1, 3, 0, 0, 0, []), (86, .goto (-81), 3, 5, 0, 0, [])]
def s5_9 : List Ent := [(89, .iconst 0, 1, 0, 0, 0, [])]
def s5_10 : List Ent := [(90, .ireturn, 1, 1, 0, 0, [])]
def sg5 : List (List Ent) := [s5_0, s5_1, s5_2, s5_3, s5_4, s5_5, s5_6, s5_7, s5_8, s5_9, s5_10]
theorem ch5 : chkM mi5.2.1 mi5.2.2.1 mi5.2.2.2 lkRX1 sg5 = true := by decide +kernel
def s6_0 : List Ent := [(0, .aload_n 0, 1, 0, 0, 0, []), (1, .getfield 11, 3, 1, 0, 2, []), (4, .aload_n 0, 1, 0, 0, 0, []), (5, .getfield 28, 3, 1, 3, 0, []), (8, .aaload, 1, 0, 0, 0, []), (9, .iload_n 1, 1, 0, 0, 0, []), (10, .laload, 1, 0, 0, 0, []), (11, .lstore_n 2, 1, 0, 0, 0, []), (12, .iconst 0, 1, 0, 0, 0, []), (13, .istore 4, 2, 0, 0, 0, [])]
def s6_1 : List Ent := [(15, .iload 4, 2, 0, 0, 0, []), (17, .iconst 5, 1, 0, 0, 0, []), (18, .if_icmp .ge 103, 3, 121, 0, 0, [])]
def s6_2 : List Ent := [(21, .aload_n 0, 1, 0, 0, 0, []), (22, .getfield 11, 3, 1, 0, 2, []), (25, .iload 4, 2, 0, 0, 0, []), (27, .aaload, 1, 0, 0, 0, []), (28, .iload_n 1, 1, 0, 0, 0, []), (29, .laload, 1, 0, 0, 0, []), (30, .lstore 5, 2, 0, 0, 0, []), (32, .iconst 0, 1, 0, 0, 0, []), (33, .istore 7, 2, 0, 0, 0, [])]
def s6_3 : List Ent := [(35, .iload 7, 2, 0, 0, 0, []), (37, .aload_n 0, 1, 0, 0, 0, []), (38, .getfield 24, 3, 1, 2, 0, []), (41, .if_icmp .ge 74, 3, 115, 0, 0, [])]
def s6_4 : List Ent := [(44, .iload 4, 2, 0, 0, 0, []), (46, .aload_n 0, 1, 0, 0, 0, []), (47, .getfield 28, 3, 1, 3, 0, []), (50, .if_icmp .eq 65, 3, 115, 0, 0, [])]
def s6_5 : List Ent := [(53, .aload_n 0, 1, 0, 0, 0, []), (54, .getfield 20, 3, 1, 5, 1, []), (57, .lconst 0, 1, 0, 0, 0, []), (58, .lcmp, 1, 0, 0, 0, []), (59, .ifCond .eq 56, 3, 115, 0, 0, [])]
def s6_6 : List Ent := [(62, .aload_n 0, 1, 0, 0, 0, []), (63, .getfield 11, 3, 1, 0, 2, []), (66, .iload 4, 2, 0, 0, 0, []), (68, .aaload, 1, 0, 0, 0, []), (69, .iload 7, 2, 0, 0, 0, []), (71, .laload, 1, 0, 0, 0, []), (72, .lload_n 2, 1, 0, 0, 0, []), (73, .lmul, 1, 0, 0, 0, []), (74, .lstore 8, 2, 0, 0, 0, []), (76, .aload_n 0, 1, 0, 0, 0, []), (77, .getfield 11, 3, 1, 0, 2, []), (80, .iload 4, 2, 0, 0, 0, []), (82, .aaload, 1, 0, 0, 0, []), (83, .iload 7, 2, 0, 0, 0, []), (85, .lload 8, 2, 0, 0, 0, []), (87, .lload 5, 2, 0, 0, 0, []), (89, .aload_n 0, 1, 0, 0, 0, []), (90, .getfield 11, 3, 1, 0, 2, []), (93, .aload_n 0, 1, 0, 0, 0, []), (94, .getfield 28, 3, 1, 3, 0, []), (97, .aaload, 1, 0, 0, 0, []), (98, .iload 7, 2, 0, 0, 0, []), (100, .laload, 1, 0, 0, 0, []), (101, .lmul, 1, 0, 0, 0, []), (102, .lsub, 1, 0, 0, 0, []), (103, .aload_n 0, 1, 0, 0, 0, []), (104, .getfield 20, 3, 1, 5, 1, []), (107, .ldiv, 1, 0, 0, 0, []), (108, .lastore, 1, 0, 0, 0, []), (109, .iinc 7 1, 3, 0, 0, 0, []), (112, .goto (-77), 3, 35, 0, 0, [])]
def s6_7 : List Ent := [(115, .iinc 4 1, 3, 0, 0, 0, []), (118, .goto (-103), 3, 15, 0, 0, [])]
def s6_8 : List Ent := [(121, .aload_n 0, 1, 0, 0, 0, []), (122, .lload_n 2, 1, 0, 0, 0, []), (123, .putfield 20, 3, 1, 5, 1, [])]
def s6_9 : List Ent := [(126, .return_, 1, 0, 0, 0, [])]
def sg6 : List (List Ent) := [s6_0, s6_1, s6_2, s6_3, s6_4, s6_5, s6_6, s6_7, s6_8, s6_9]
theorem ch6 : chkM mi6.2.1 mi6.2.2.1 mi6.2.2.2 lkRX1 sg6 = true := by decide +kernel
def s7_0 : List Ent := [(0, .aload_n 2, 1, 0, 0, 0, []), (1, .iconst 0, 1, 0, 0, 0, [])]
def s7_1 : List Ent := [(2, .invokestatic 46, 3, 230, 2, 0, [])]
def s7_2 : List Ent := [(5, .aload_n 0, 1, 0, 0, 0, []), (6, .getfield 20, 3, 1, 5, 1, []), (9, .lstore_n 3, 1, 0, 0, 0, []), (10, .iconst 0, 1, 0, 0, 0, []), (11, .istore 5, 2, 0, 0, 0, [])]
def s7_3 : List Ent := [(13, .iload 5, 2, 0, 0, 0, []), (15, .aload_n 0, 1, 0, 0, 0, []), (16, .getfield 24, 3, 1, 2, 0, []), (19, .if_icmp .ge 41, 3, 60, 0, 0, [])]
def s7_4 : List Ent := [(22, .aload_n 0, 1, 0, 0, 0, []), (23, .getfield 31, 3, 1, 4, 0, []), (26, .iload 5, 2, 0, 0, 0, [])]
def s7_5 : List Ent := [(28, .invokestatic 34, 3, 112, 2, 0, [])]
def s7_6 : List Ent := [(31, .iconst 1, 1, 0, 0, 0, []), (32, .if_icmp .ne 22, 3, 54, 0, 0, [])]
def s7_7 : List Ent := [(35, .lload_n 3, 1, 0, 0, 0, []), (36, .aload_n 0, 1, 0, 0, 0, []), (37, .getfield 11, 3, 1, 0, 2, []), (40, .aload_n 0, 1, 0, 0, 0, []), (41, .getfield 16, 3, 1, 1, 2, []), (44, .iload 5, 2, 0, 0, 0, []), (46, .iaload, 1, 0, 0, 0, []), (47, .aaload, 1, 0, 0, 0, []), (48, .iload_n 1, 1, 0, 0, 0, []), (49, .laload, 1, 0, 0, 0, [])]
def s7_8 : List Ent := [(50, .invokestatic 52, 3, 115, 2, 0, [])]
def s7_9 : List Ent := [(53, .lstore_n 3, 1, 0, 0, 0, [])]
def s7_10 : List Ent := [(54, .iinc 5 1, 3, 0, 0, 0, []), (57, .goto (-44), 3, 13, 0, 0, [])]
def s7_11 : List Ent := [(60, .lload_n 3, 1, 0, 0, 0, []), (61, .lconst 0, 1, 0, 0, 0, []), (62, .lcmp, 1, 0, 0, 0, []), (63, .ifCond .ne 4, 3, 67, 0, 0, [])]
def s7_12 : List Ent := [(66, .return_, 1, 0, 0, 0, [])]
def s7_13 : List Ent := [(67, .aload_n 0, 1, 0, 0, 0, []), (68, .getfield 20, 3, 1, 5, 1, []), (71, .lconst 0, 1, 0, 0, 0, []), (72, .lcmp, 1, 0, 0, 0, []), (73, .ifCond .ge 11, 3, 84, 0, 0, [])]
def s7_14 : List Ent := [(76, .lload_n 3, 1, 0, 0, 0, []), (77, .invokestatic 56, 3, 0, 0, 9, []), (80, .lneg, 1, 0, 0, 0, []), (81, .goto 7, 3, 88, 0, 0, [])]
def s7_15 : List Ent := [(84, .lload_n 3, 1, 0, 0, 0, []), (85, .invokestatic 56, 3, 0, 0, 9, [])]
def s7_16 : List Ent := [(88, .lstore_n 3, 1, 0, 0, 0, []), (89, .aload_n 2, 1, 0, 0, 0, []), (90, .iload_n 1, 1, 0, 0, 0, []), (91, .aload_n 0, 1, 0, 0, 0, []), (92, .getfield 20, 3, 1, 5, 1, []), (95, .lload_n 3, 1, 0, 0, 0, []), (96, .ldiv, 1, 0, 0, 0, []), (97, .l2i, 1, 0, 0, 0, []), (98, .iastore, 1, 0, 0, 0, []), (99, .iconst 0, 1, 0, 0, 0, []), (100, .istore 5, 2, 0, 0, 0, [])]
def s7_17 : List Ent := [(102, .iload 5, 2, 0, 0, 0, []), (104, .aload_n 0, 1, 0, 0, 0, []), (105, .getfield 24, 3, 1, 2, 0, []), (108, .if_icmp .ge 44, 3, 152, 0, 0, [])]
def s7_18 : List Ent := [(111, .aload_n 0, 1, 0, 0, 0, []), (112, .getfield 31, 3, 1, 4, 0, []), (115, .iload 5, 2, 0, 0, 0, [])]
def s7_19 : List Ent := [(117, .invokestatic 34, 3, 112, 2, 0, [])]
def s7_20 : List Ent := [(120, .iconst 1, 1, 0, 0, 0, []), (121, .if_icmp .ne 25, 3, 146, 0, 0, [])]
def s7_21 : List Ent := [(124, .aload_n 2, 1, 0, 0, 0, []), (125, .iload 5, 2, 0, 0, 0, []), (127, .aload_n 0, 1, 0, 0, 0, []), (128, .getfield 11, 3, 1, 0, 2, []), (131, .aload_n 0, 1, 0, 0, 0, []), (132, .getfield 16, 3, 1, 1, 2, []), (135, .iload 5, 2, 0, 0, 0, []), (137, .iaload, 1, 0, 0, 0, []), (138, .aaload, 1, 0, 0, 0, []), (139, .iload_n 1, 1, 0, 0, 0, []), (140, .laload, 1, 0, 0, 0, []), (141, .lneg, 1, 0, 0, 0, []), (142, .lload_n 3, 1, 0, 0, 0, []), (143, .ldiv, 1, 0, 0, 0, []), (144, .l2i, 1, 0, 0, 0, []), (145, .iastore, 1, 0, 0, 0, [])]
def s7_22 : List Ent := [(146, .iinc 5 1, 3, 0, 0, 0, []), (149, .goto (-47), 3, 102, 0, 0, [])]
def s7_23 : List Ent := [(152, .return_, 1, 0, 0, 0, [])]
def sg7 : List (List Ent) := [s7_0, s7_1, s7_2, s7_3, s7_4, s7_5, s7_6, s7_7, s7_8, s7_9, s7_10, s7_11, s7_12, s7_13, s7_14, s7_15, s7_16, s7_17, s7_18, s7_19, s7_20, s7_21, s7_22, s7_23]
theorem ch7 : chkM mi7.2.1 mi7.2.2.1 mi7.2.2.2 lkRX1 sg7 = true := by decide +kernel
def s8_0 : List Ent := [(0, .aload_n 0, 1, 0, 0, 0, []), (1, .getfield 11, 3, 2, 0, 2, []), (4, .aload_n 0, 1, 0, 0, 0, []), (5, .getfield 16, 3, 2, 1, 0, []), (8, .aaload, 1, 0, 0, 0, []), (9, .astore 5, 2, 0, 0, 0, []), (11, .aload 5, 2, 0, 0, 0, []), (13, .iconst 0, 1, 0, 0, 0, []), (14, .iload_n 1, 1, 0, 0, 0, []), (15, .iastore, 1, 0, 0, 0, []), (16, .aload 5, 2, 0, 0, 0, []), (18, .iconst 1, 1, 0, 0, 0, []), (19, .iload_n 2, 1, 0, 0, 0, []), (20, .iastore, 1, 0, 0, 0, []), (21, .aload 5, 2, 0, 0, 0, []), (23, .iconst 2, 1, 0, 0, 0, []), (24, .iload_n 3, 1, 0, 0, 0, []), (25, .iastore, 1, 0, 0, 0, []), (26, .aload 5, 2, 0, 0, 0, []), (28, .iconst 3, 1, 0, 0, 0, []), (29, .iload 4, 2, 0, 0, 0, []), (31, .iastore, 1, 0, 0, 0, []), (32, .aload_n 0, 1, 0, 0, 0, []), (33, .aload_n 0, 1, 0, 0, 0, []), (34, .getfield 16, 3, 2, 1, 0, []), (37, .iconst 1, 1, 0, 0, 0, []), (38, .iadd, 1, 0, 0, 0, []), (39, .bipush 20, 2, 0, 0, 0, []), (41, .irem, 1, 0, 0, 0, []), (42, .putfield 16, 3, 2, 1, 0, []), (45, .aload_n 0, 1, 0, 0, 0, []), (46, .aload_n 0, 1, 0, 0, 0, []), (47, .getfield 20, 3, 2, 2, 0, []), (50, .iconst 1, 1, 0, 0, 0, []), (51, .iadd, 1, 0, 0, 0, []), (52, .bipush 20, 2, 0, 0, 0, []), (54, .invokestatic 23, 3, 0, 0, 11, []), (57, .putfield 20, 3, 2, 2, 0, [])]
def s8_1 : List Ent := [(60, .return_, 1, 0, 0, 0, [])]
def sg8 : List (List Ent) := [s8_0, s8_1]
theorem ch8 : chkM mi8.2.1 mi8.2.2.1 mi8.2.2.2 lkRX2 sg8 = true := by decide +kernel
def s9_0 : List Ent := [(0, .aload_n 0, 1, 0, 0, 0, []), (1, .iconst 0, 1, 0, 0, 0, []), (2, .putfield 20, 3, 2, 2, 0, [])]
def s9_1 : List Ent := [(5, .return_, 1, 0, 0, 0, [])]
def sg9 : List (List Ent) := [s9_0, s9_1]
theorem ch9 : chkM mi9.2.1 mi9.2.2.1 mi9.2.2.2 lkRX2 sg9 = true := by decide +kernel
def s10_0 : List Ent := [(0, .aload_n 0, 1, 0, 0, 0, []), (1, .aload_n 0, 1, 0, 0, 0, []), (2, .getfield 16, 3, 2, 1, 0, []), (5, .bipush 20, 2, 0, 0, 0, []), (7, .iadd, 1, 0, 0, 0, []), (8, .iconst 1, 1, 0, 0, 0, []), (9, .isub, 1, 0, 0, 0, []), (10, .bipush 20, 2, 0, 0, 0, []), (12, .irem, 1, 0, 0, 0, []), (13, .putfield 16, 3, 2, 1, 0, []), (16, .aload_n 0, 1, 0, 0, 0, []), (17, .aload_n 0, 1, 0, 0, 0, []), (18, .getfield 20, 3, 2, 2, 0, []), (21, .iconst 1, 1, 0, 0, 0, []), (22, .isub, 1, 0, 0, 0, []), (23, .iconst 0, 1, 0, 0, 0, []), (24, .invokestatic 29, 3, 0, 0, 10, []), (27, .putfield 20, 3, 2, 2, 0, []), (30, .aload_n 0, 1, 0, 0, 0, []), (31, .getfield 11, 3, 2, 0, 2, []), (34, .aload_n 0, 1, 0, 0, 0, []), (35, .getfield 16, 3, 2, 1, 0, []), (38, .aaload, 1, 0, 0, 0, []), (39, .astore_n 2, 1, 0, 0, 0, []), (40, .aload_n 2, 1, 0, 0, 0, []), (41, .iconst 1, 1, 0, 0, 0, []), (42, .iaload, 1, 0, 0, 0, []), (43, .istore_n 3, 1, 0, 0, 0, []), (44, .aload_n 2, 1, 0, 0, 0, []), (45, .iconst 0, 1, 0, 0, 0, []), (46, .iaload, 1, 0, 0, 0, []), (47, .ifCond .ne 19, 3, 66, 0, 0, [])]
def s10_1 : List Ent := [(50, .aload_n 1, 1, 0, 0, 0, []), (51, .getfield 32, 3, 3, 2, 2, []), (54, .iload_n 3, 1, 0, 0, 0, []), (55, .aaload, 1, 0, 0, 0, []), (56, .aload_n 2, 1, 0, 0, 0, []), (57, .iconst 2, 1, 0, 0, 0, []), (58, .iaload, 1, 0, 0, 0, []), (59, .aload_n 2, 1, 0, 0, 0, []), (60, .iconst 3, 1, 0, 0, 0, []), (61, .iaload, 1, 0, 0, 0, []), (62, .iastore, 1, 0, 0, 0, []), (63, .goto 40, 3, 103, 0, 0, [])]
def s10_2 : List Ent := [(66, .aload_n 2, 1, 0, 0, 0, []), (67, .iconst 0, 1, 0, 0, 0, []), (68, .iaload, 1, 0, 0, 0, []), (69, .iconst 1, 1, 0, 0, 0, []), (70, .if_icmp .ne 15, 3, 85, 0, 0, [])]
def s10_3 : List Ent := [(73, .aload_n 1, 1, 0, 0, 0, []), (74, .getfield 37, 3, 3, 1, 2, []), (77, .iload_n 3, 1, 0, 0, 0, []), (78, .aload_n 2, 1, 0, 0, 0, []), (79, .iconst 2, 1, 0, 0, 0, []), (80, .iaload, 1, 0, 0, 0, []), (81, .iastore, 1, 0, 0, 0, []), (82, .goto 21, 3, 103, 0, 0, [])]
def s10_4 : List Ent := [(85, .aload_n 1, 1, 0, 0, 0, []), (86, .getfield 41, 3, 3, 3, 2, []), (89, .iload_n 3, 1, 0, 0, 0, []), (90, .aload_n 2, 1, 0, 0, 0, []), (91, .iconst 2, 1, 0, 0, 0, []), (92, .iaload, 1, 0, 0, 0, []), (93, .iastore, 1, 0, 0, 0, []), (94, .aload_n 1, 1, 0, 0, 0, []), (95, .getfield 44, 3, 3, 4, 2, []), (98, .iload_n 3, 1, 0, 0, 0, []), (99, .aload_n 2, 1, 0, 0, 0, []), (100, .iconst 3, 1, 0, 0, 0, []), (101, .iaload, 1, 0, 0, 0, []), (102, .iastore, 1, 0, 0, 0, [])]
def s10_5 : List Ent := [(103, .return_, 1, 0, 0, 0, [])]
def sg10 : List (List Ent) := [s10_0, s10_1, s10_2, s10_3, s10_4, s10_5]
theorem ch10 : chkM mi10.2.1 mi10.2.2.1 mi10.2.2.2 lkRX2 sg10 = true := by decide +kernel
def s11_0 : List Ent := [(0, .aload_n 0, 1, 0, 0, 0, []), (1, .aload_n 1, 1, 0, 0, 0, []), (2, .getfield 33, 3, 3, 0, 0, []), (5, .putfield 33, 3, 3, 0, 0, []), (8, .iconst 0, 1, 0, 0, 0, []), (9, .istore_n 2, 1, 0, 0, 0, [])]
def s11_1 : List Ent := [(10, .iload_n 2, 1, 0, 0, 0, []), (11, .aload_n 0, 1, 0, 0, 0, []), (12, .getfield 33, 3, 3, 0, 0, []), (15, .if_icmp .ge 63, 3, 78, 0, 0, [])]
def s11_2 : List Ent := [(18, .aload_n 0, 1, 0, 0, 0, []), (19, .getfield 9, 3, 3, 1, 2, []), (22, .iload_n 2, 1, 0, 0, 0, []), (23, .aload_n 1, 1, 0, 0, 0, []), (24, .getfield 9, 3, 3, 1, 2, []), (27, .iload_n 2, 1, 0, 0, 0, []), (28, .iaload, 1, 0, 0, 0, []), (29, .iastore, 1, 0, 0, 0, []), (30, .aload_n 0, 1, 0, 0, 0, []), (31, .getfield 20, 3, 3, 3, 2, []), (34, .iload_n 2, 1, 0, 0, 0, []), (35, .aload_n 1, 1, 0, 0, 0, []), (36, .getfield 20, 3, 3, 3, 2, []), (39, .iload_n 2, 1, 0, 0, 0, []), (40, .iaload, 1, 0, 0, 0, []), (41, .iastore, 1, 0, 0, 0, []), (42, .aload_n 0, 1, 0, 0, 0, []), (43, .getfield 23, 3, 3, 4, 2, []), (46, .iload_n 2, 1, 0, 0, 0, []), (47, .aload_n 1, 1, 0, 0, 0, []), (48, .getfield 23, 3, 3, 4, 2, []), (51, .iload_n 2, 1, 0, 0, 0, []), (52, .iaload, 1, 0, 0, 0, []), (53, .iastore, 1, 0, 0, 0, []), (54, .aload_n 1, 1, 0, 0, 0, []), (55, .getfield 17, 3, 3, 2, 2, []), (58, .iload_n 2, 1, 0, 0, 0, []), (59, .aaload, 1, 0, 0, 0, []), (60, .iconst 0, 1, 0, 0, 0, []), (61, .aload_n 0, 1, 0, 0, 0, []), (62, .getfield 17, 3, 3, 2, 2, []), (65, .iload_n 2, 1, 0, 0, 0, []), (66, .aaload, 1, 0, 0, 0, []), (67, .iconst 0, 1, 0, 0, 0, []), (68, .iconst 5, 1, 0, 0, 0, []), (69, .invokestatic 36, 3, 0, 0, 7, []), (72, .iinc 2 1, 3, 0, 0, 0, []), (75, .goto (-65), 3, 10, 0, 0, [])]
def s11_3 : List Ent := [(78, .aload_n 0, 1, 0, 0, 0, []), (79, .aload_n 1, 1, 0, 0, 0, []), (80, .getfield 26, 3, 3, 5, 2, []), (83, .aload_n 1, 1, 0, 0, 0, []), (84, .getfield 42, 3, 3, 6, 0, []), (87, .aload_n 1, 1, 0, 0, 0, []), (88, .getfield 29, 3, 3, 7, 0, [])]
def s11_4 : List Ent := [(91, .invokevirtual 45, 3, 13, 3, 3, [])]
def s11_5 : List Ent := [(94, .return_, 1, 0, 0, 0, [])]
def sg11 : List (List Ent) := [s11_0, s11_1, s11_2, s11_3, s11_4, s11_5]
theorem ch11 : chkM mi11.2.1 mi11.2.2.1 mi11.2.2.2 lkRX3 sg11 = true := by decide +kernel
def s12_0 : List Ent := [(0, .aload_n 0, 1, 0, 0, 0, []), (1, .getfield 33, 3, 3, 0, 0, []), (4, .bipush 8, 2, 0, 0, 0, []), (6, .if_icmp .ge 56, 3, 62, 0, 0, [])]
def s12_1 : List Ent := [(9, .aload_n 0, 1, 0, 0, 0, []), (10, .getfield 9, 3, 3, 1, 2, []), (13, .aload_n 0, 1, 0, 0, 0, []), (14, .getfield 33, 3, 3, 0, 0, []), (17, .iload_n 1, 1, 0, 0, 0, []), (18, .iastore, 1, 0, 0, 0, []), (19, .aload_n 0, 1, 0, 0, 0, []), (20, .getfield 20, 3, 3, 3, 2, []), (23, .aload_n 0, 1, 0, 0, 0, []), (24, .getfield 33, 3, 3, 0, 0, []), (27, .iconst 0, 1, 0, 0, 0, []), (28, .iastore, 1, 0, 0, 0, []), (29, .aload_n 0, 1, 0, 0, 0, []), (30, .getfield 23, 3, 3, 4, 2, []), (33, .aload_n 0, 1, 0, 0, 0, []), (34, .getfield 33, 3, 3, 0, 0, []), (37, .iconst 1, 1, 0, 0, 0, []), (38, .iastore, 1, 0, 0, 0, []), (39, .aload_n 0, 1, 0, 0, 0, []), (40, .getfield 17, 3, 3, 2, 2, []), (43, .aload_n 0, 1, 0, 0, 0, []), (44, .getfield 33, 3, 3, 0, 0, []), (47, .aaload, 1, 0, 0, 0, []), (48, .iconst 0, 1, 0, 0, 0, [])]
def s12_2 : List Ent := [(49, .invokestatic 49, 3, 230, 2, 0, [])]
def s12_3 : List Ent := [(52, .aload_n 0, 1, 0, 0, 0, []), (53, .dup, 1, 0, 0, 0, []), (54, .getfield 33, 3, 3, 0, 0, []), (57, .iconst 1, 1, 0, 0, 0, []), (58, .iadd, 1, 0, 0, 0, []), (59, .putfield 33, 3, 3, 0, 0, [])]
def s12_4 : List Ent := [(62, .return_, 1, 0, 0, 0, [])]
def sg12 : List (List Ent) := [s12_0, s12_1, s12_2, s12_3, s12_4]
theorem ch12 : chkM mi12.2.1 mi12.2.2.1 mi12.2.2.2 lkRX3 sg12 = true := by decide +kernel
def s13_0 : List Ent := [(0, .aload_n 0, 1, 0, 0, 0, []), (1, .iload_n 2, 1, 0, 0, 0, []), (2, .bipush 72, 2, 0, 0, 0, []), (4, .invokestatic 55, 3, 0, 0, 11, []), (7, .putfield 42, 3, 3, 6, 0, []), (10, .aload_n 1, 1, 0, 0, 0, []), (11, .iconst 0, 1, 0, 0, 0, []), (12, .aload_n 0, 1, 0, 0, 0, []), (13, .getfield 26, 3, 3, 5, 2, []), (16, .iconst 0, 1, 0, 0, 0, []), (17, .aload_n 0, 1, 0, 0, 0, []), (18, .getfield 42, 3, 3, 6, 0, []), (21, .invokestatic 36, 3, 0, 0, 7, []), (24, .aload_n 0, 1, 0, 0, 0, []), (25, .iload_n 3, 1, 0, 0, 0, []), (26, .putfield 29, 3, 3, 7, 0, [])]
def s13_1 : List Ent := [(29, .return_, 1, 0, 0, 0, [])]
def sg13 : List (List Ent) := [s13_0, s13_1]
theorem ch13 : chkM mi13.2.1 mi13.2.2.1 mi13.2.2.2 lkRX3 sg13 = true := by decide +kernel
def s14_0 : List Ent := [(0, .aload_n 0, 1, 0, 0, 0, []), (1, .getfield 29, 3, 3, 7, 0, []), (4, .bipush (-9), 2, 0, 0, 0, []), (6, .if_icmp .eq 7, 3, 13, 0, 0, [])]
def s14_1 : List Ent := [(9, .iconst 1, 1, 0, 0, 0, []), (10, .goto 4, 3, 14, 0, 0, [])]
def s14_2 : List Ent := [(13, .iconst 0, 1, 0, 0, 0, [])]
def s14_3 : List Ent := [(14, .ireturn, 1, 1, 0, 0, [])]
def sg14 : List (List Ent) := [s14_0, s14_1, s14_2, s14_3]
theorem ch14 : chkM mi14.2.1 mi14.2.2.1 mi14.2.2.2 lkRX3 sg14 = true := by decide +kernel
def s15_0 : List Ent := [(0, .aload_n 0, 1, 0, 0, 0, []), (1, .getfield 20, 3, 3, 3, 2, []), (4, .iload_n 1, 1, 0, 0, 0, []), (5, .iaload, 1, 0, 0, 0, []), (6, .ifCond .eq 7, 3, 13, 0, 0, [])]
def s15_1 : List Ent := [(9, .iconst 1, 1, 0, 0, 0, []), (10, .goto 4, 3, 14, 0, 0, [])]
def s15_2 : List Ent := [(13, .iconst 0, 1, 0, 0, 0, [])]
def s15_3 : List Ent := [(14, .ireturn, 1, 1, 0, 0, [])]
def sg15 : List (List Ent) := [s15_0, s15_1, s15_2, s15_3]
theorem ch15 : chkM mi15.2.1 mi15.2.2.1 mi15.2.2.2 lkRX3 sg15 = true := by decide +kernel
def s16_0 : List Ent := [(0, .iconst 0, 1, 0, 0, 0, []), (1, .istore_n 1, 1, 0, 0, 0, []), (2, .iconst 0, 1, 0, 0, 0, []), (3, .istore_n 2, 1, 0, 0, 0, [])]
def s16_1 : List Ent := [(4, .iload_n 2, 1, 0, 0, 0, []), (5, .aload_n 0, 1, 0, 0, 0, []), (6, .getfield 33, 3, 3, 0, 0, []), (9, .if_icmp .ge 27, 3, 36, 0, 0, [])]
def s16_2 : List Ent := [(12, .iload_n 1, 1, 0, 0, 0, []), (13, .aload_n 0, 1, 0, 0, 0, []), (14, .iload_n 2, 1, 0, 0, 0, [])]
def s16_3 : List Ent := [(15, .invokevirtual 61, 3, 15, 1, 3, [])]
def s16_4 : List Ent := [(18, .ifCond .eq 9, 3, 27, 0, 0, [])]
def s16_5 : List Ent := [(21, .iconst 1, 1, 0, 0, 0, []), (22, .iload_n 2, 1, 0, 0, 0, []), (23, .ishl, 1, 0, 0, 0, []), (24, .goto 4, 3, 28, 0, 0, [])]
def s16_6 : List Ent := [(27, .iconst 0, 1, 0, 0, 0, [])]
def s16_7 : List Ent := [(28, .ior, 1, 0, 0, 0, []), (29, .istore_n 1, 1, 0, 0, 0, []), (30, .iinc 2 1, 3, 0, 0, 0, []), (33, .goto (-29), 3, 4, 0, 0, [])]
def s16_8 : List Ent := [(36, .iload_n 1, 1, 0, 0, 0, [])]
def s16_9 : List Ent := [(37, .ireturn, 1, 0, 0, 0, [])]
def sg16 : List (List Ent) := [s16_0, s16_1, s16_2, s16_3, s16_4, s16_5, s16_6, s16_7, s16_8, s16_9]
theorem ch16 : chkM mi16.2.1 mi16.2.2.1 mi16.2.2.2 lkRX3 sg16 = true := by decide +kernel
def s17_0 : List Ent := [(0, .iload_n 1, 1, 0, 0, 0, []), (1, .aload_n 0, 1, 0, 0, 0, [])]
def s17_1 : List Ent := [(2, .invokevirtual 65, 3, 16, 0, 3, [])]
def s17_2 : List Ent := [(5, .iconst (-1), 1, 0, 0, 0, []), (6, .ixor, 1, 0, 0, 0, []), (7, .iand, 1, 0, 0, 0, []), (8, .ifCond .ne 7, 3, 15, 0, 0, [])]
def s17_3 : List Ent := [(11, .iconst 1, 1, 0, 0, 0, []), (12, .goto 4, 3, 16, 0, 0, [])]
def s17_4 : List Ent := [(15, .iconst 0, 1, 0, 0, 0, [])]
def s17_5 : List Ent := [(16, .ireturn, 1, 1, 0, 0, [])]
def sg17 : List (List Ent) := [s17_0, s17_1, s17_2, s17_3, s17_4, s17_5]
theorem ch17 : chkM mi17.2.1 mi17.2.2.1 mi17.2.2.2 lkRX3 sg17 = true := by decide +kernel
def s18_0 : List Ent := [(0, .lconst 0, 1, 0, 0, 0, []), (1, .lstore 4, 2, 0, 0, 0, []), (3, .iconst 0, 1, 0, 0, 0, []), (4, .istore 6, 2, 0, 0, 0, [])]
def s18_1 : List Ent := [(6, .iload 6, 2, 0, 0, 0, []), (8, .aload_n 0, 1, 0, 0, 0, []), (9, .getfield 33, 3, 3, 0, 0, []), (12, .if_icmp .ge 61, 3, 73, 0, 0, [])]
def s18_2 : List Ent := [(15, .iload_n 2, 1, 0, 0, 0, []), (16, .iload 6, 2, 0, 0, 0, [])]
def s18_3 : List Ent := [(18, .invokestatic 69, 3, 112, 2, 0, [])]
def s18_4 : List Ent := [(21, .iconst 1, 1, 0, 0, 0, []), (22, .if_icmp .ne 45, 3, 67, 0, 0, [])]
def s18_5 : List Ent := [(25, .aload_n 1, 1, 0, 0, 0, []), (26, .iload 6, 2, 0, 0, 0, []), (28, .iaload, 1, 0, 0, 0, []), (29, .ifCond .eq 38, 3, 67, 0, 0, [])]
def s18_6 : List Ent := [(32, .lload 4, 2, 0, 0, 0, []), (34, .aload_n 1, 1, 0, 0, 0, []), (35, .iload 6, 2, 0, 0, 0, []), (37, .iaload, 1, 0, 0, 0, []), (38, .i2l, 1, 0, 0, 0, []), (39, .iload_n 3, 1, 0, 0, 0, []), (40, .aload_n 0, 1, 0, 0, 0, []), (41, .getfield 20, 3, 3, 3, 2, []), (44, .iload 6, 2, 0, 0, 0, []), (46, .iaload, 1, 0, 0, 0, [])]
def s18_7 : List Ent := [(47, .invokestatic 72, 3, 19, 2, 0, [])]
def s18_8 : List Ent := [(50, .iload_n 3, 1, 0, 0, 0, []), (51, .aload_n 0, 1, 0, 0, 0, []), (52, .getfield 23, 3, 3, 4, 2, []), (55, .iload 6, 2, 0, 0, 0, []), (57, .iaload, 1, 0, 0, 0, [])]
def s18_9 : List Ent := [(58, .invokestatic 72, 3, 19, 2, 0, [])]
def s18_10 : List Ent := [(61, .isub, 1, 0, 0, 0, []), (62, .i2l, 1, 0, 0, 0, []), (63, .lmul, 1, 0, 0, 0, []), (64, .ladd, 1, 0, 0, 0, []), (65, .lstore 4, 2, 0, 0, 0, [])]
def s18_11 : List Ent := [(67, .iinc 6 1, 3, 0, 0, 0, []), (70, .goto (-64), 3, 6, 0, 0, [])]
def s18_12 : List Ent := [(73, .lload 4, 2, 0, 0, 0, [])]
def s18_13 : List Ent := [(75, .lreturn, 1, 0, 0, 0, [])]
def sg18 : List (List Ent) := [s18_0, s18_1, s18_2, s18_3, s18_4, s18_5, s18_6, s18_7, s18_8, s18_9, s18_10, s18_11, s18_12, s18_13]
theorem ch18 : chkM mi18.2.1 mi18.2.2.1 mi18.2.2.2 lkRX3 sg18 = true := by decide +kernel
def s19_0 : List Ent := [(0, .iconst 0, 1, 0, 0, 0, []), (1, .istore_n 2, 1, 0, 0, 0, []), (2, .iload_n 1, 1, 0, 0, 0, []), (3, .istore_n 3, 1, 0, 0, 0, []), (4, .iconst 0, 1, 0, 0, 0, []), (5, .istore 4, 2, 0, 0, 0, [])]
def s19_1 : List Ent := [(7, .iload 4, 2, 0, 0, 0, []), (9, .bipush 99, 2, 0, 0, 0, []), (11, .if_icmp .ge 31, 3, 42, 0, 0, [])]
def s19_2 : List Ent := [(14, .iload_n 3, 1, 0, 0, 0, []), (15, .ifCond .le 27, 3, 42, 0, 0, [])]
def s19_3 : List Ent := [(18, .iload_n 0, 1, 0, 0, 0, []), (19, .iconst 1, 1, 0, 0, 0, []), (20, .if_icmp .le 22, 3, 42, 0, 0, [])]
def s19_4 : List Ent := [(23, .iload_n 3, 1, 0, 0, 0, []), (24, .iload_n 0, 1, 0, 0, 0, []), (25, .irem, 1, 0, 0, 0, []), (26, .ifCond .ne 16, 3, 42, 0, 0, [])]
def s19_5 : List Ent := [(29, .iload_n 3, 1, 0, 0, 0, []), (30, .iload_n 0, 1, 0, 0, 0, []), (31, .idiv, 1, 0, 0, 0, []), (32, .istore_n 3, 1, 0, 0, 0, []), (33, .iinc 2 1, 3, 0, 0, 0, []), (36, .iinc 4 1, 3, 0, 0, 0, []), (39, .goto (-32), 3, 7, 0, 0, [])]
def s19_6 : List Ent := [(42, .iload_n 2, 1, 0, 0, 0, [])]
def s19_7 : List Ent := [(43, .ireturn, 1, 0, 0, 0, [])]
def sg19 : List (List Ent) := [s19_0, s19_1, s19_2, s19_3, s19_4, s19_5, s19_6, s19_7]
theorem ch19 : chkM mi19.2.1 mi19.2.2.1 mi19.2.2.2 lkRX3 sg19 = true := by decide +kernel
def s20_0 : List Ent := [(0, .aload_n 0, 1, 0, 0, 0, []), (1, .iload_n 2, 1, 0, 0, 0, []), (2, .bipush 72, 2, 0, 0, 0, []), (4, .invokestatic 43, 3, 0, 0, 11, []), (7, .putfield 49, 3, 4, 2, 0, []), (10, .aload_n 1, 1, 0, 0, 0, []), (11, .iconst 0, 1, 0, 0, 0, []), (12, .aload_n 0, 1, 0, 0, 0, []), (13, .getfield 9, 3, 4, 1, 2, []), (16, .iconst 0, 1, 0, 0, 0, []), (17, .aload_n 0, 1, 0, 0, 0, []), (18, .getfield 49, 3, 4, 2, 0, []), (21, .invokestatic 52, 3, 0, 0, 7, []), (24, .aload_n 0, 1, 0, 0, 0, []), (25, .iconst 0, 1, 0, 0, 0, []), (26, .putfield 58, 3, 4, 3, 0, []), (29, .aload_n 0, 1, 0, 0, 0, []), (30, .bipush (-9), 2, 0, 0, 0, []), (32, .putfield 15, 3, 4, 4, 0, []), (35, .aload_n 0, 1, 0, 0, 0, []), (36, .iconst 0, 1, 0, 0, 0, []), (37, .putfield 61, 3, 4, 5, 0, []), (40, .aload_n 0, 1, 0, 0, 0, []), (41, .iconst 0, 1, 0, 0, 0, []), (42, .putfield 64, 3, 4, 6, 0, []), (45, .aload_n 0, 1, 0, 0, 0, []), (46, .getfield 19, 3, 4, 7, 2, []), (49, .iconst 0, 1, 0, 0, 0, [])]
def s20_1 : List Ent := [(50, .invokestatic 67, 3, 230, 2, 0, [])]
def s20_2 : List Ent := [(53, .aload_n 0, 1, 0, 0, 0, []), (54, .iconst 0, 1, 0, 0, 0, [])]
def s20_3 : List Ent := [(55, .invokevirtual 73, 3, 21, 1, 4, [])]
def s20_4 : List Ent := [(58, .aload_n 0, 1, 0, 0, 0, []), (59, .getfield 24, 3, 4, 8, 2, []), (62, .iconst 0, 1, 0, 0, 0, []), (63, .aaload, 1, 0, 0, 0, []), (64, .iconst 0, 1, 0, 0, 0, []), (65, .aload_n 0, 1, 0, 0, 0, []), (66, .getfield 33, 3, 4, 11, 2, []), (69, .iconst 0, 1, 0, 0, 0, []), (70, .iconst 5, 1, 0, 0, 0, []), (71, .invokestatic 52, 3, 0, 0, 7, []), (74, .aload_n 0, 1, 0, 0, 0, []), (75, .getfield 58, 3, 4, 3, 0, []), (78, .istore_n 3, 1, 0, 0, 0, []), (79, .aload_n 0, 1, 0, 0, 0, []), (80, .bipush 61, 2, 0, 0, 0, [])]
def s20_5 : List Ent := [(82, .invokevirtual 77, 3, 31, 1, 4, [])]
def s20_6 : List Ent := [(85, .aload_n 0, 1, 0, 0, 0, []), (86, .iconst 0, 1, 0, 0, 0, [])]
def s20_7 : List Ent := [(87, .invokevirtual 73, 3, 21, 1, 4, [])]
def s20_8 : List Ent := [(90, .aload_n 0, 1, 0, 0, 0, []), (91, .getfield 24, 3, 4, 8, 2, []), (94, .iconst 0, 1, 0, 0, 0, []), (95, .aaload, 1, 0, 0, 0, []), (96, .iconst 0, 1, 0, 0, 0, []), (97, .aload_n 0, 1, 0, 0, 0, []), (98, .getfield 36, 3, 4, 12, 2, []), (101, .iconst 0, 1, 0, 0, 0, []), (102, .iconst 5, 1, 0, 0, 0, []), (103, .invokestatic 52, 3, 0, 0, 7, []), (106, .aload_n 0, 1, 0, 0, 0, []), (107, .iconst (-1), 1, 0, 0, 0, [])]
def s20_9 : List Ent := [(108, .invokevirtual 77, 3, 31, 1, 4, [])]
def s20_10 : List Ent := [(111, .aload_n 0, 1, 0, 0, 0, []), (112, .getfield 33, 3, 4, 11, 2, []), (115, .aload_n 0, 1, 0, 0, 0, []), (116, .getfield 36, 3, 4, 12, 2, [])]
def s20_11 : List Ent := [(119, .invokestatic 80, 3, 34, 2, 0, [])]
def s20_12 : List Ent := [(122, .ifCond .ne 8, 3, 130, 0, 0, [])]
def s20_13 : List Ent := [(125, .aload_n 0, 1, 0, 0, 0, []), (126, .iload_n 3, 1, 0, 0, 0, [])]
def s20_14 : List Ent := [(127, .invokevirtual 84, 3, 33, 1, 4, [])]
def s20_15 : List Ent := [(130, .return_, 1, 0, 0, 0, [])]
def sg20 : List (List Ent) := [s20_0, s20_1, s20_2, s20_3, s20_4, s20_5, s20_6, s20_7, s20_8, s20_9, s20_10, s20_11, s20_12, s20_13, s20_14, s20_15]
theorem ch20 : chkM mi20.2.1 mi20.2.2.1 mi20.2.2.2 lkRX4 sg20 = true := by decide +kernel
def s21_0 : List Ent := [(0, .aload_n 0, 1, 0, 0, 0, []), (1, .iload_n 1, 1, 0, 0, 0, [])]
def s21_1 : List Ent := [(2, .invokevirtual 87, 3, 22, 1, 4, [])]
def s21_2 : List Ent := [(5, .aload_n 0, 1, 0, 0, 0, []), (6, .getfield 27, 3, 4, 9, 2, []), (9, .iload_n 1, 1, 0, 0, 0, []), (10, .aaload, 1, 0, 0, 0, []), (11, .iconst 0, 1, 0, 0, 0, []), (12, .aload_n 0, 1, 0, 0, 0, []), (13, .getfield 24, 3, 4, 8, 2, []), (16, .iload_n 1, 1, 0, 0, 0, []), (17, .aaload, 1, 0, 0, 0, []), (18, .iconst 0, 1, 0, 0, 0, []), (19, .iconst 5, 1, 0, 0, 0, []), (20, .invokestatic 52, 3, 0, 0, 7, []), (23, .iconst 0, 1, 0, 0, 0, []), (24, .istore_n 2, 1, 0, 0, 0, [])]
def s21_3 : List Ent := [(25, .iload_n 2, 1, 0, 0, 0, []), (26, .bipush 72, 2, 0, 0, 0, []), (28, .if_icmp .ge 63, 3, 91, 0, 0, [])]
def s21_4 : List Ent := [(31, .aload_n 0, 1, 0, 0, 0, []), (32, .bipush 43, 2, 0, 0, 0, []), (34, .bipush 45, 2, 0, 0, 0, [])]
def s21_5 : List Ent := [(36, .invokevirtual 90, 3, 29, 2, 4, [])]
def s21_6 : List Ent := [(39, .ifCond .eq 52, 3, 91, 0, 0, [])]
def s21_7 : List Ent := [(42, .aload_n 0, 1, 0, 0, 0, []), (43, .dup, 1, 0, 0, 0, []), (44, .getfield 58, 3, 4, 3, 0, []), (47, .iconst 1, 1, 0, 0, 0, []), (48, .iadd, 1, 0, 0, 0, []), (49, .putfield 58, 3, 4, 3, 0, []), (52, .aload_n 0, 1, 0, 0, 0, []), (53, .getfield 58, 3, 4, 3, 0, []), (56, .istore_n 3, 1, 0, 0, 0, []), (57, .aload_n 0, 1, 0, 0, 0, []), (58, .iload_n 1, 1, 0, 0, 0, [])]
def s21_8 : List Ent := [(59, .invokevirtual 87, 3, 22, 1, 4, [])]
def s21_9 : List Ent := [(62, .aload_n 0, 1, 0, 0, 0, []), (63, .getfield 27, 3, 4, 9, 2, []), (66, .iload_n 1, 1, 0, 0, 0, []), (67, .aaload, 1, 0, 0, 0, []), (68, .aload_n 0, 1, 0, 0, 0, []), (69, .getfield 24, 3, 4, 8, 2, []), (72, .iload_n 1, 1, 0, 0, 0, []), (73, .aaload, 1, 0, 0, 0, [])]
def s21_10 : List Ent := [(74, .invokestatic 80, 3, 34, 2, 0, [])]
def s21_11 : List Ent := [(77, .ifCond .ne 8, 3, 85, 0, 0, [])]
def s21_12 : List Ent := [(80, .aload_n 0, 1, 0, 0, 0, []), (81, .iload_n 3, 1, 0, 0, 0, [])]
def s21_13 : List Ent := [(82, .invokevirtual 84, 3, 33, 1, 4, [])]
def s21_14 : List Ent := [(85, .iinc 2 1, 3, 0, 0, 0, []), (88, .goto (-63), 3, 25, 0, 0, [])]
def s21_15 : List Ent := [(91, .return_, 1, 0, 0, 0, [])]
def sg21 : List (List Ent) := [s21_0, s21_1, s21_2, s21_3, s21_4, s21_5, s21_6, s21_7, s21_8, s21_9, s21_10, s21_11, s21_12, s21_13, s21_14, s21_15]
theorem ch21 : chkM mi21.2.1 mi21.2.2.1 mi21.2.2.2 lkRX4 sg21 = true := by decide +kernel
def s22_0 : List Ent := [(0, .aload_n 0, 1, 0, 0, 0, []), (1, .dup, 1, 0, 0, 0, []), (2, .getfield 61, 3, 4, 5, 0, []), (5, .iconst 1, 1, 0, 0, 0, []), (6, .iadd, 1, 0, 0, 0, []), (7, .putfield 61, 3, 4, 5, 0, []), (10, .aload_n 0, 1, 0, 0, 0, []), (11, .getfield 27, 3, 4, 9, 2, []), (14, .iload_n 1, 1, 0, 0, 0, []), (15, .aaload, 1, 0, 0, 0, []), (16, .iconst 0, 1, 0, 0, 0, [])]
def s22_1 : List Ent := [(17, .invokestatic 67, 3, 230, 2, 0, [])]
def s22_2 : List Ent := [(20, .aload_n 0, 1, 0, 0, 0, []), (21, .iload_n 1, 1, 0, 0, 0, []), (22, .iconst 1, 1, 0, 0, 0, [])]
def s22_3 : List Ent := [(23, .invokevirtual 94, 3, 23, 2, 4, [])]
def s22_4 : List Ent := [(26, .iconst 0, 1, 0, 0, 0, []), (27, .istore_n 2, 1, 0, 0, 0, [])]
def s22_5 : List Ent := [(28, .iload_n 2, 1, 0, 0, 0, []), (29, .bipush 72, 2, 0, 0, 0, []), (31, .if_icmp .ge 51, 3, 82, 0, 0, [])]
def s22_6 : List Ent := [(34, .aload_n 0, 1, 0, 0, 0, []), (35, .bipush 42, 2, 0, 0, 0, []), (37, .bipush 47, 2, 0, 0, 0, [])]
def s22_7 : List Ent := [(39, .invokevirtual 90, 3, 29, 2, 4, [])]
def s22_8 : List Ent := [(42, .ifCond .eq 40, 3, 82, 0, 0, [])]
def s22_9 : List Ent := [(45, .aload_n 0, 1, 0, 0, 0, [])]
def s22_10 : List Ent := [(46, .invokevirtual 98, 3, 28, 0, 4, [])]
def s22_11 : List Ent := [(49, .bipush 42, 2, 0, 0, 0, []), (51, .if_icmp .ne 7, 3, 58, 0, 0, [])]
def s22_12 : List Ent := [(54, .iconst 1, 1, 0, 0, 0, []), (55, .goto 4, 3, 59, 0, 0, [])]
def s22_13 : List Ent := [(58, .iconst (-1), 1, 0, 0, 0, [])]
def s22_14 : List Ent := [(59, .istore_n 3, 1, 0, 0, 0, []), (60, .aload_n 0, 1, 0, 0, 0, []), (61, .dup, 1, 0, 0, 0, []), (62, .getfield 58, 3, 4, 3, 0, []), (65, .iconst 1, 1, 0, 0, 0, []), (66, .iadd, 1, 0, 0, 0, []), (67, .putfield 58, 3, 4, 3, 0, []), (70, .aload_n 0, 1, 0, 0, 0, []), (71, .iload_n 1, 1, 0, 0, 0, []), (72, .iload_n 3, 1, 0, 0, 0, [])]
def s22_15 : List Ent := [(73, .invokevirtual 94, 3, 23, 2, 4, [])]
def s22_16 : List Ent := [(76, .iinc 2 1, 3, 0, 0, 0, []), (79, .goto (-51), 3, 28, 0, 0, [])]
def s22_17 : List Ent := [(82, .return_, 1, 0, 0, 0, [])]
def sg22 : List (List Ent) := [s22_0, s22_1, s22_2, s22_3, s22_4, s22_5, s22_6, s22_7, s22_8, s22_9, s22_10, s22_11, s22_12, s22_13, s22_14, s22_15, s22_16, s22_17]
theorem ch22 : chkM mi22.2.1 mi22.2.2.1 mi22.2.2.2 lkRX4 sg22 = true := by decide +kernel
def s23_0 : List Ent := [(0, .aload_n 0, 1, 0, 0, 0, []), (1, .iload_n 1, 1, 0, 0, 0, [])]
def s23_1 : List Ent := [(2, .invokevirtual 102, 3, 24, 1, 4, [])]
def s23_2 : List Ent := [(5, .astore_n 3, 1, 0, 0, 0, []), (6, .iload_n 2, 1, 0, 0, 0, []), (7, .aload_n 0, 1, 0, 0, 0, [])]
def s23_3 : List Ent := [(8, .invokevirtual 106, 3, 27, 0, 4, [])]
def s23_4 : List Ent := [(11, .imul, 1, 0, 0, 0, []), (12, .istore 4, 2, 0, 0, 0, []), (14, .iconst 0, 1, 0, 0, 0, []), (15, .istore 5, 2, 0, 0, 0, [])]
def s23_5 : List Ent := [(17, .iload 5, 2, 0, 0, 0, []), (19, .iconst 5, 1, 0, 0, 0, []), (20, .if_icmp .ge 28, 3, 48, 0, 0, [])]
def s23_6 : List Ent := [(23, .aload_n 0, 1, 0, 0, 0, []), (24, .getfield 27, 3, 4, 9, 2, []), (27, .iload_n 1, 1, 0, 0, 0, []), (28, .aaload, 1, 0, 0, 0, []), (29, .iload 5, 2, 0, 0, 0, []), (31, .dup2, 1, 0, 0, 0, []), (32, .iaload, 1, 0, 0, 0, []), (33, .iload 4, 2, 0, 0, 0, []), (35, .aload_n 3, 1, 0, 0, 0, []), (36, .iload 5, 2, 0, 0, 0, []), (38, .iaload, 1, 0, 0, 0, []), (39, .imul, 1, 0, 0, 0, []), (40, .iadd, 1, 0, 0, 0, []), (41, .iastore, 1, 0, 0, 0, []), (42, .iinc 5 1, 3, 0, 0, 0, []), (45, .goto (-28), 3, 17, 0, 0, [])]
def s23_7 : List Ent := [(48, .return_, 1, 0, 0, 0, [])]
def sg23 : List (List Ent) := [s23_0, s23_1, s23_2, s23_3, s23_4, s23_5, s23_6, s23_7]
theorem ch23 : chkM mi23.2.1 mi23.2.2.1 mi23.2.2.2 lkRX4 sg23 = true := by decide +kernel
def s24_0 : List Ent := [(0, .aload_n 0, 1, 0, 0, 0, [])]
def s24_1 : List Ent := [(1, .invokevirtual 98, 3, 28, 0, 4, [])]
def s24_2 : List Ent := [(4, .istore_n 2, 1, 0, 0, 0, []), (5, .iload_n 2, 1, 0, 0, 0, []), (6, .bipush 65, 2, 0, 0, 0, []), (8, .isub, 1, 0, 0, 0, []), (9, .istore_n 3, 1, 0, 0, 0, []), (10, .iload_n 3, 1, 0, 0, 0, []), (11, .ifCond .lt 46, 3, 57, 0, 0, [])]
def s24_3 : List Ent := [(14, .iload_n 3, 1, 0, 0, 0, []), (15, .aload_n 0, 1, 0, 0, 0, []), (16, .getfield 39, 3, 4, 0, 2, []), (19, .getfield 109, 3, 6, 0, 0, []), (22, .if_icmp .ge 35, 3, 57, 0, 0, [])]
def s24_4 : List Ent := [(25, .aload_n 0, 1, 0, 0, 0, []), (26, .dup, 1, 0, 0, 0, []), (27, .getfield 58, 3, 4, 3, 0, []), (30, .iconst 1, 1, 0, 0, 0, []), (31, .iadd, 1, 0, 0, 0, []), (32, .putfield 58, 3, 4, 3, 0, []), (35, .aload_n 0, 1, 0, 0, 0, []), (36, .dup, 1, 0, 0, 0, []), (37, .getfield 64, 3, 4, 6, 0, []), (40, .iconst 1, 1, 0, 0, 0, []), (41, .iload_n 3, 1, 0, 0, 0, []), (42, .ishl, 1, 0, 0, 0, []), (43, .ior, 1, 0, 0, 0, []), (44, .putfield 64, 3, 4, 6, 0, []), (47, .aload_n 0, 1, 0, 0, 0, []), (48, .getfield 39, 3, 4, 0, 2, []), (51, .getfield 114, 3, 6, 2, 2, []), (54, .iload_n 3, 1, 0, 0, 0, []), (55, .aaload, 1, 0, 0, 0, [])]
def s24_5 : List Ent := [(56, .areturn, 1, 0, 0, 0, [])]
def s24_6 : List Ent := [(57, .iload_n 2, 1, 0, 0, 0, [])]
def s24_7 : List Ent := [(58, .invokestatic 117, 3, 30, 1, 0, [])]
def s24_8 : List Ent := [(61, .ifCond .eq 12, 3, 73, 0, 0, [])]
def s24_9 : List Ent := [(64, .aload_n 0, 1, 0, 0, 0, [])]
def s24_10 : List Ent := [(65, .invokevirtual 121, 3, 26, 0, 4, [])]
def s24_11 : List Ent := [(68, .aload_n 0, 1, 0, 0, 0, []), (69, .getfield 30, 3, 4, 10, 2, [])]
def s24_12 : List Ent := [(72, .areturn, 1, 0, 0, 0, [])]
def s24_13 : List Ent := [(73, .iload_n 2, 1, 0, 0, 0, []), (74, .bipush 40, 2, 0, 0, 0, []), (76, .if_icmp .eq 9, 3, 85, 0, 0, [])]
def s24_14 : List Ent := [(79, .iload_n 2, 1, 0, 0, 0, []), (80, .bipush 115, 2, 0, 0, 0, []), (82, .if_icmp .ne 16, 3, 98, 0, 0, [])]
def s24_15 : List Ent := [(85, .iload_n 1, 1, 0, 0, 0, []), (86, .bipush 6, 2, 0, 0, 0, []), (88, .if_icmp .ge 10, 3, 98, 0, 0, [])]
def s24_16 : List Ent := [(91, .aload_n 0, 1, 0, 0, 0, []), (92, .iload_n 1, 1, 0, 0, 0, []), (93, .iload_n 2, 1, 0, 0, 0, [])]
def s24_17 : List Ent := [(94, .invokevirtual 124, 3, 25, 2, 4, [])]
def s24_18 : List Ent := [(97, .areturn, 1, 0, 0, 0, [])]
def s24_19 : List Ent := [(98, .aload_n 0, 1, 0, 0, 0, [])]
def s24_20 : List Ent := [(99, .invokevirtual 128, 3, 32, 0, 4, [])]
def s24_21 : List Ent := [(102, .aload_n 0, 1, 0, 0, 0, []), (103, .getfield 30, 3, 4, 10, 2, [])]
def s24_22 : List Ent := [(106, .areturn, 1, 0, 0, 0, [])]
def sg24 : List (List Ent) := [s24_0, s24_1, s24_2, s24_3, s24_4, s24_5, s24_6, s24_7, s24_8, s24_9, s24_10, s24_11, s24_12, s24_13, s24_14, s24_15, s24_16, s24_17, s24_18, s24_19, s24_20, s24_21, s24_22]
theorem ch24 : chkM mi24.2.1 mi24.2.2.1 mi24.2.2.2 lkRX4 sg24 = true := by decide +kernel
def s25_0 : List Ent := [(0, .aload_n 0, 1, 0, 0, 0, []), (1, .getfield 58, 3, 4, 3, 0, []), (4, .istore_n 3, 1, 0, 0, 0, []), (5, .aload_n 0, 1, 0, 0, 0, []), (6, .dup, 1, 0, 0, 0, []), (7, .getfield 58, 3, 4, 3, 0, []), (10, .iconst 1, 1, 0, 0, 0, []), (11, .iadd, 1, 0, 0, 0, []), (12, .putfield 58, 3, 4, 3, 0, []), (15, .iload_n 2, 1, 0, 0, 0, []), (16, .bipush 115, 2, 0, 0, 0, []), (18, .if_icmp .ne 9, 3, 27, 0, 0, [])]
def s25_1 : List Ent := [(21, .aload_n 0, 1, 0, 0, 0, []), (22, .bipush 40, 2, 0, 0, 0, [])]
def s25_2 : List Ent := [(24, .invokevirtual 77, 3, 31, 1, 4, [])]
def s25_3 : List Ent := [(27, .aload_n 0, 1, 0, 0, 0, []), (28, .iload_n 1, 1, 0, 0, 0, []), (29, .iconst 1, 1, 0, 0, 0, []), (30, .iadd, 1, 0, 0, 0, [])]
def s25_4 : List Ent := [(31, .invokevirtual 73, 3, 21, 1, 4, [])]
def s25_5 : List Ent := [(34, .aload_n 0, 1, 0, 0, 0, []), (35, .bipush 41, 2, 0, 0, 0, [])]
def s25_6 : List Ent := [(37, .invokevirtual 77, 3, 31, 1, 4, [])]
def s25_7 : List Ent := [(40, .iload_n 2, 1, 0, 0, 0, []), (41, .bipush 40, 2, 0, 0, 0, []), (43, .if_icmp .ne 12, 3, 55, 0, 0, [])]
def s25_8 : List Ent := [(46, .aload_n 0, 1, 0, 0, 0, []), (47, .getfield 24, 3, 4, 8, 2, []), (50, .iload_n 1, 1, 0, 0, 0, []), (51, .iconst 1, 1, 0, 0, 0, []), (52, .iadd, 1, 0, 0, 0, []), (53, .aaload, 1, 0, 0, 0, [])]
def s25_9 : List Ent := [(54, .areturn, 1, 0, 0, 0, [])]
def s25_10 : List Ent := [(55, .aload_n 0, 1, 0, 0, 0, []), (56, .getfield 24, 3, 4, 8, 2, []), (59, .iload_n 1, 1, 0, 0, 0, []), (60, .iconst 1, 1, 0, 0, 0, []), (61, .iadd, 1, 0, 0, 0, []), (62, .aaload, 1, 0, 0, 0, [])]
def s25_11 : List Ent := [(63, .invokestatic 131, 3, 114, 1, 0, [])]
def s25_12 : List Ent := [(66, .ifCond .ne 8, 3, 74, 0, 0, [])]
def s25_13 : List Ent := [(69, .aload_n 0, 1, 0, 0, 0, []), (70, .iload_n 3, 1, 0, 0, 0, [])]
def s25_14 : List Ent := [(71, .invokevirtual 84, 3, 33, 1, 4, [])]
def s25_15 : List Ent := [(74, .aload_n 0, 1, 0, 0, 0, []), (75, .getfield 30, 3, 4, 10, 2, [])]
def s25_16 : List Ent := [(78, .areturn, 1, 0, 0, 0, [])]
def sg25 : List (List Ent) := [s25_0, s25_1, s25_2, s25_3, s25_4, s25_5, s25_6, s25_7, s25_8, s25_9, s25_10, s25_11, s25_12, s25_13, s25_14, s25_15, s25_16]
theorem ch25 : chkM mi25.2.1 mi25.2.2.1 mi25.2.2.2 lkRX4 sg25 = true := by decide +kernel
def s26_0 : List Ent := [(0, .iconst 0, 1, 0, 0, 0, []), (1, .istore_n 1, 1, 0, 0, 0, [])]
def s26_1 : List Ent := [(2, .iload_n 1, 1, 0, 0, 0, []), (3, .iconst 3, 1, 0, 0, 0, []), (4, .if_icmp .ge 29, 3, 33, 0, 0, [])]
def s26_2 : List Ent := [(7, .aload_n 0, 1, 0, 0, 0, [])]
def s26_3 : List Ent := [(8, .invokevirtual 98, 3, 28, 0, 4, [])]
def s26_4 : List Ent := [(11, .invokestatic 117, 3, 30, 1, 0, [])]
def s26_5 : List Ent := [(14, .ifCond .eq 19, 3, 33, 0, 0, [])]
def s26_6 : List Ent := [(17, .aload_n 0, 1, 0, 0, 0, []), (18, .dup, 1, 0, 0, 0, []), (19, .getfield 58, 3, 4, 3, 0, []), (22, .iconst 1, 1, 0, 0, 0, []), (23, .iadd, 1, 0, 0, 0, []), (24, .putfield 58, 3, 4, 3, 0, []), (27, .iinc 1 1, 3, 0, 0, 0, []), (30, .goto (-28), 3, 2, 0, 0, [])]
def s26_7 : List Ent := [(33, .return_, 1, 0, 0, 0, [])]
def sg26 : List (List Ent) := [s26_0, s26_1, s26_2, s26_3, s26_4, s26_5, s26_6, s26_7]
theorem ch26 : chkM mi26.2.1 mi26.2.2.1 mi26.2.2.2 lkRX4 sg26 = true := by decide +kernel
def s27_0 : List Ent := [(0, .aload_n 0, 1, 0, 0, 0, [])]
def s27_1 : List Ent := [(1, .invokevirtual 98, 3, 28, 0, 4, [])]
def s27_2 : List Ent := [(4, .bipush 94, 2, 0, 0, 0, []), (6, .if_icmp .eq 5, 3, 11, 0, 0, [])]
def s27_3 : List Ent := [(9, .iconst 1, 1, 0, 0, 0, [])]
def s27_4 : List Ent := [(10, .ireturn, 1, 0, 0, 0, [])]
def s27_5 : List Ent := [(11, .aload_n 0, 1, 0, 0, 0, []), (12, .dup, 1, 0, 0, 0, []), (13, .getfield 58, 3, 4, 3, 0, []), (16, .iconst 1, 1, 0, 0, 0, []), (17, .iadd, 1, 0, 0, 0, []), (18, .putfield 58, 3, 4, 3, 0, []), (21, .iconst 1, 1, 0, 0, 0, []), (22, .istore_n 1, 1, 0, 0, 0, []), (23, .aload_n 0, 1, 0, 0, 0, [])]
def s27_6 : List Ent := [(24, .invokevirtual 98, 3, 28, 0, 4, [])]
def s27_7 : List Ent := [(27, .bipush 45, 2, 0, 0, 0, []), (29, .if_icmp .ne 15, 3, 44, 0, 0, [])]
def s27_8 : List Ent := [(32, .iconst (-1), 1, 0, 0, 0, []), (33, .istore_n 1, 1, 0, 0, 0, []), (34, .aload_n 0, 1, 0, 0, 0, []), (35, .dup, 1, 0, 0, 0, []), (36, .getfield 58, 3, 4, 3, 0, []), (39, .iconst 1, 1, 0, 0, 0, []), (40, .iadd, 1, 0, 0, 0, []), (41, .putfield 58, 3, 4, 3, 0, [])]
def s27_9 : List Ent := [(44, .aload_n 0, 1, 0, 0, 0, [])]
def s27_10 : List Ent := [(45, .invokevirtual 98, 3, 28, 0, 4, [])]
def s27_11 : List Ent := [(48, .istore_n 2, 1, 0, 0, 0, []), (49, .iload_n 2, 1, 0, 0, 0, [])]
def s27_12 : List Ent := [(50, .invokestatic 117, 3, 30, 1, 0, [])]
def s27_13 : List Ent := [(53, .ifCond .ne 9, 3, 62, 0, 0, [])]
def s27_14 : List Ent := [(56, .aload_n 0, 1, 0, 0, 0, [])]
def s27_15 : List Ent := [(57, .invokevirtual 128, 3, 32, 0, 4, [])]
def s27_16 : List Ent := [(60, .iconst 1, 1, 0, 0, 0, [])]
def s27_17 : List Ent := [(61, .ireturn, 1, 0, 0, 0, [])]
def s27_18 : List Ent := [(62, .aload_n 0, 1, 0, 0, 0, []), (63, .dup, 1, 0, 0, 0, []), (64, .getfield 58, 3, 4, 3, 0, []), (67, .iconst 1, 1, 0, 0, 0, []), (68, .iadd, 1, 0, 0, 0, []), (69, .putfield 58, 3, 4, 3, 0, []), (72, .iload_n 1, 1, 0, 0, 0, []), (73, .iload_n 2, 1, 0, 0, 0, []), (74, .bipush 48, 2, 0, 0, 0, []), (76, .isub, 1, 0, 0, 0, []), (77, .imul, 1, 0, 0, 0, [])]
def s27_19 : List Ent := [(78, .ireturn, 1, 0, 0, 0, [])]
def sg27 : List (List Ent) := [s27_0, s27_1, s27_2, s27_3, s27_4, s27_5, s27_6, s27_7, s27_8, s27_9, s27_10, s27_11, s27_12, s27_13, s27_14, s27_15, s27_16, s27_17, s27_18, s27_19]
theorem ch27 : chkM mi27.2.1 mi27.2.2.1 mi27.2.2.2 lkRX4 sg27 = true := by decide +kernel
def s28_0 : List Ent := [(0, .aload_n 0, 1, 0, 0, 0, []), (1, .getfield 15, 3, 4, 4, 0, []), (4, .bipush (-9), 2, 0, 0, 0, []), (6, .if_icmp .ne 26, 3, 32, 0, 0, [])]
def s28_1 : List Ent := [(9, .aload_n 0, 1, 0, 0, 0, []), (10, .getfield 58, 3, 4, 3, 0, []), (13, .aload_n 0, 1, 0, 0, 0, []), (14, .getfield 49, 3, 4, 2, 0, []), (17, .if_icmp .ge 15, 3, 32, 0, 0, [])]
def s28_2 : List Ent := [(20, .aload_n 0, 1, 0, 0, 0, []), (21, .getfield 9, 3, 4, 1, 2, []), (24, .aload_n 0, 1, 0, 0, 0, []), (25, .getfield 58, 3, 4, 3, 0, []), (28, .iaload, 1, 0, 0, 0, []), (29, .goto 4, 3, 33, 0, 0, [])]
def s28_3 : List Ent := [(32, .iconst (-1), 1, 0, 0, 0, [])]
def s28_4 : List Ent := [(33, .ireturn, 1, 0, 0, 0, [])]
def sg28 : List (List Ent) := [s28_0, s28_1, s28_2, s28_3, s28_4]
theorem ch28 : chkM mi28.2.1 mi28.2.2.1 mi28.2.2.2 lkRX4 sg28 = true := by decide +kernel
def s29_0 : List Ent := [(0, .aload_n 0, 1, 0, 0, 0, [])]
def s29_1 : List Ent := [(1, .invokevirtual 98, 3, 28, 0, 4, [])]
def s29_2 : List Ent := [(4, .istore_n 3, 1, 0, 0, 0, []), (5, .iload_n 3, 1, 0, 0, 0, []), (6, .iload_n 1, 1, 0, 0, 0, []), (7, .if_icmp .eq 8, 3, 15, 0, 0, [])]
def s29_3 : List Ent := [(10, .iload_n 3, 1, 0, 0, 0, []), (11, .iload_n 2, 1, 0, 0, 0, []), (12, .if_icmp .ne 7, 3, 19, 0, 0, [])]
def s29_4 : List Ent := [(15, .iconst 1, 1, 0, 0, 0, []), (16, .goto 4, 3, 20, 0, 0, [])]
def s29_5 : List Ent := [(19, .iconst 0, 1, 0, 0, 0, [])]
def s29_6 : List Ent := [(20, .ireturn, 1, 1, 0, 0, [])]
def sg29 : List (List Ent) := [s29_0, s29_1, s29_2, s29_3, s29_4, s29_5, s29_6]
theorem ch29 : chkM mi29.2.1 mi29.2.2.1 mi29.2.2.2 lkRX4 sg29 = true := by decide +kernel
def s30_0 : List Ent := [(0, .iload_n 0, 1, 0, 0, 0, []), (1, .bipush 48, 2, 0, 0, 0, []), (3, .if_icmp .lt 13, 3, 16, 0, 0, [])]
def s30_1 : List Ent := [(6, .iload_n 0, 1, 0, 0, 0, []), (7, .bipush 57, 2, 0, 0, 0, []), (9, .if_icmp .gt 7, 3, 16, 0, 0, [])]
def s30_2 : List Ent := [(12, .iconst 1, 1, 0, 0, 0, []), (13, .goto 4, 3, 17, 0, 0, [])]
def s30_3 : List Ent := [(16, .iconst 0, 1, 0, 0, 0, [])]
def s30_4 : List Ent := [(17, .ireturn, 1, 1, 0, 0, [])]
def sg30 : List (List Ent) := [s30_0, s30_1, s30_2, s30_3, s30_4]
theorem ch30 : chkM mi30.2.1 mi30.2.2.1 mi30.2.2.2 lkRX4 sg30 = true := by decide +kernel
def s31_0 : List Ent := [(0, .aload_n 0, 1, 0, 0, 0, [])]
def s31_1 : List Ent := [(1, .invokevirtual 98, 3, 28, 0, 4, [])]
def s31_2 : List Ent := [(4, .iload_n 1, 1, 0, 0, 0, []), (5, .if_icmp .eq 10, 3, 15, 0, 0, [])]
def s31_3 : List Ent := [(8, .aload_n 0, 1, 0, 0, 0, [])]
def s31_4 : List Ent := [(9, .invokevirtual 128, 3, 32, 0, 4, [])]
def s31_5 : List Ent := [(12, .goto 13, 3, 25, 0, 0, [])]
def s31_6 : List Ent := [(15, .aload_n 0, 1, 0, 0, 0, []), (16, .dup, 1, 0, 0, 0, []), (17, .getfield 58, 3, 4, 3, 0, []), (20, .iconst 1, 1, 0, 0, 0, []), (21, .iadd, 1, 0, 0, 0, []), (22, .putfield 58, 3, 4, 3, 0, [])]
def s31_7 : List Ent := [(25, .return_, 1, 0, 0, 0, [])]
def sg31 : List (List Ent) := [s31_0, s31_1, s31_2, s31_3, s31_4, s31_5, s31_6, s31_7]
theorem ch31 : chkM mi31.2.1 mi31.2.2.1 mi31.2.2.2 lkRX4 sg31 = true := by decide +kernel
def s32_0 : List Ent := [(0, .aload_n 0, 1, 0, 0, 0, []), (1, .getfield 15, 3, 4, 4, 0, []), (4, .bipush (-9), 2, 0, 0, 0, []), (6, .if_icmp .ne 11, 3, 17, 0, 0, [])]
def s32_1 : List Ent := [(9, .aload_n 0, 1, 0, 0, 0, []), (10, .aload_n 0, 1, 0, 0, 0, []), (11, .getfield 58, 3, 4, 3, 0, []), (14, .putfield 15, 3, 4, 4, 0, [])]
def s32_2 : List Ent := [(17, .return_, 1, 0, 0, 0, [])]
def sg32 : List (List Ent) := [s32_0, s32_1, s32_2]
theorem ch32 : chkM mi32.2.1 mi32.2.2.1 mi32.2.2.2 lkRX4 sg32 = true := by decide +kernel
def s33_0 : List Ent := [(0, .iload_n 1, 1, 0, 0, 0, []), (1, .ifCond .lt 16, 3, 17, 0, 0, [])]
def s33_1 : List Ent := [(4, .iload_n 1, 1, 0, 0, 0, []), (5, .bipush 72, 2, 0, 0, 0, []), (7, .if_icmp .ge 10, 3, 17, 0, 0, [])]
def s33_2 : List Ent := [(10, .aload_n 0, 1, 0, 0, 0, []), (11, .getfield 19, 3, 4, 7, 2, []), (14, .iload_n 1, 1, 0, 0, 0, []), (15, .iconst 1, 1, 0, 0, 0, []), (16, .iastore, 1, 0, 0, 0, [])]
def s33_3 : List Ent := [(17, .return_, 1, 0, 0, 0, [])]
def sg33 : List (List Ent) := [s33_0, s33_1, s33_2, s33_3]
theorem ch33 : chkM mi33.2.1 mi33.2.2.1 mi33.2.2.2 lkRX4 sg33 = true := by decide +kernel
def s34_0 : List Ent := [(0, .iconst 0, 1, 0, 0, 0, []), (1, .istore_n 2, 1, 0, 0, 0, [])]
def s34_1 : List Ent := [(2, .iload_n 2, 1, 0, 0, 0, []), (3, .iconst 5, 1, 0, 0, 0, []), (4, .if_icmp .ge 20, 3, 24, 0, 0, [])]
def s34_2 : List Ent := [(7, .aload_n 0, 1, 0, 0, 0, []), (8, .iload_n 2, 1, 0, 0, 0, []), (9, .iaload, 1, 0, 0, 0, []), (10, .aload_n 1, 1, 0, 0, 0, []), (11, .iload_n 2, 1, 0, 0, 0, []), (12, .iaload, 1, 0, 0, 0, []), (13, .if_icmp .eq 5, 3, 18, 0, 0, [])]
def s34_3 : List Ent := [(16, .iconst 0, 1, 0, 0, 0, [])]
def s34_4 : List Ent := [(17, .ireturn, 1, 1, 0, 0, [])]
def s34_5 : List Ent := [(18, .iinc 2 1, 3, 0, 0, 0, []), (21, .goto (-19), 3, 2, 0, 0, [])]
def s34_6 : List Ent := [(24, .iconst 1, 1, 0, 0, 0, [])]
def s34_7 : List Ent := [(25, .ireturn, 1, 1, 0, 0, [])]
def sg34 : List (List Ent) := [s34_0, s34_1, s34_2, s34_3, s34_4, s34_5, s34_6, s34_7]
theorem ch34 : chkM mi34.2.1 mi34.2.2.1 mi34.2.2.2 lkRX4 sg34 = true := by decide +kernel
def s35_0 : List Ent := [(0, .aload_n 0, 1, 0, 0, 0, []), (1, .getfield 33, 3, 4, 11, 2, []), (4, .iload_n 1, 1, 0, 0, 0, []), (5, .iaload, 1, 0, 0, 0, []), (6, .aload_n 0, 1, 0, 0, 0, []), (7, .getfield 36, 3, 4, 12, 2, []), (10, .iload_n 1, 1, 0, 0, 0, []), (11, .iaload, 1, 0, 0, 0, []), (12, .isub, 1, 0, 0, 0, [])]
def s35_1 : List Ent := [(13, .ireturn, 1, 0, 0, 0, [])]
def sg35 : List (List Ent) := [s35_0, s35_1]
theorem ch35 : chkM mi35.2.1 mi35.2.2.1 mi35.2.2.2 lkRX4 sg35 = true := by decide +kernel
def s36_0 : List Ent := [(0, .iconst 0, 1, 0, 0, 0, []), (1, .istore_n 1, 1, 0, 0, 0, [])]
def s36_1 : List Ent := [(2, .iload_n 1, 1, 0, 0, 0, []), (3, .aload_n 0, 1, 0, 0, 0, []), (4, .getfield 49, 3, 4, 2, 0, []), (7, .if_icmp .ge 21, 3, 28, 0, 0, [])]
def s36_2 : List Ent := [(10, .aload_n 0, 1, 0, 0, 0, []), (11, .getfield 19, 3, 4, 7, 2, []), (14, .iload_n 1, 1, 0, 0, 0, []), (15, .iaload, 1, 0, 0, 0, []), (16, .iconst 1, 1, 0, 0, 0, []), (17, .if_icmp .ne 5, 3, 22, 0, 0, [])]
def s36_3 : List Ent := [(20, .iload_n 1, 1, 0, 0, 0, [])]
def s36_4 : List Ent := [(21, .ireturn, 1, 0, 0, 0, [])]
def s36_5 : List Ent := [(22, .iinc 1 1, 3, 0, 0, 0, []), (25, .goto (-23), 3, 2, 0, 0, [])]
def s36_6 : List Ent := [(28, .bipush (-9), 2, 0, 0, 0, [])]
def s36_7 : List Ent := [(30, .ireturn, 1, 0, 0, 0, [])]
def sg36 : List (List Ent) := [s36_0, s36_1, s36_2, s36_3, s36_4, s36_5, s36_6, s36_7]
theorem ch36 : chkM mi36.2.1 mi36.2.2.1 mi36.2.2.2 lkRX4 sg36 = true := by decide +kernel
def s37_0 : List Ent := [(0, .iconst 0, 1, 0, 0, 0, []), (1, .istore_n 1, 1, 0, 0, 0, []), (2, .aload_n 0, 1, 0, 0, 0, []), (3, .getfield 19, 3, 4, 7, 2, []), (6, .astore_n 2, 1, 0, 0, 0, []), (7, .aload_n 2, 1, 0, 0, 0, []), (8, .arraylength, 1, 0, 0, 0, []), (9, .istore_n 3, 1, 0, 0, 0, []), (10, .iconst 0, 1, 0, 0, 0, []), (11, .istore 4, 2, 0, 0, 0, [])]
def s37_1 : List Ent := [(13, .iload 4, 2, 0, 0, 0, []), (15, .iload_n 3, 1, 0, 0, 0, []), (16, .if_icmp .ge 20, 3, 36, 0, 0, [])]
def s37_2 : List Ent := [(19, .aload_n 2, 1, 0, 0, 0, []), (20, .iload 4, 2, 0, 0, 0, []), (22, .iaload, 1, 0, 0, 0, []), (23, .istore 5, 2, 0, 0, 0, []), (25, .iload_n 1, 1, 0, 0, 0, []), (26, .iload 5, 2, 0, 0, 0, []), (28, .iadd, 1, 0, 0, 0, []), (29, .istore_n 1, 1, 0, 0, 0, []), (30, .iinc 4 1, 3, 0, 0, 0, []), (33, .goto (-20), 3, 13, 0, 0, [])]
def s37_3 : List Ent := [(36, .iload_n 1, 1, 0, 0, 0, [])]
def s37_4 : List Ent := [(37, .ireturn, 1, 0, 0, 0, [])]
def sg37 : List (List Ent) := [s37_0, s37_1, s37_2, s37_3, s37_4]
theorem ch37 : chkM mi37.2.1 mi37.2.2.1 mi37.2.2.2 lkRX4 sg37 = true := by decide +kernel
def s38_0 : List Ent := [(0, .aload_n 0, 1, 0, 0, 0, []), (1, .getfield 31, 3, 5, 0, 2, []), (4, .getfield 35, 3, 6, 3, 2, []), (7, .aload_n 0, 1, 0, 0, 0, []), (8, .getfield 31, 3, 5, 0, 2, []), (11, .getfield 40, 3, 6, 0, 0, []), (14, .iconst 0, 1, 0, 0, 0, []), (15, .lconst 0, 1, 0, 0, 0, [])]
def s38_1 : List Ent := [(16, .invokestatic 43, 3, 39, 4, 0, [])]
def s38_2 : List Ent := [(19, .ireturn, 1, 0, 0, 0, [])]
def sg38 : List (List Ent) := [s38_0, s38_1, s38_2]
theorem ch38 : chkM mi38.2.1 mi38.2.2.1 mi38.2.2.2 lkRX5 sg38 = true := by decide +kernel
def s39_0 : List Ent := [(0, .iload_n 2, 1, 0, 0, 0, []), (1, .iload_n 1, 1, 0, 0, 0, []), (2, .if_icmp .lt 15, 3, 17, 0, 0, [])]
def s39_1 : List Ent := [(5, .lload_n 3, 1, 0, 0, 0, []), (6, .lconst 0, 1, 0, 0, 0, []), (7, .lcmp, 1, 0, 0, 0, []), (8, .ifCond .ne 7, 3, 15, 0, 0, [])]
def s39_2 : List Ent := [(11, .iconst 1, 1, 0, 0, 0, []), (12, .goto 4, 3, 16, 0, 0, [])]
def s39_3 : List Ent := [(15, .iconst 0, 1, 0, 0, 0, [])]
def s39_4 : List Ent := [(16, .ireturn, 1, 0, 0, 0, [])]
def s39_5 : List Ent := [(17, .aload_n 0, 1, 0, 0, 0, []), (18, .iload_n 1, 1, 0, 0, 0, []), (19, .iload_n 2, 1, 0, 0, 0, []), (20, .iconst 1, 1, 0, 0, 0, []), (21, .iadd, 1, 0, 0, 0, []), (22, .lload_n 3, 1, 0, 0, 0, []), (23, .aload_n 0, 1, 0, 0, 0, []), (24, .iload_n 2, 1, 0, 0, 0, []), (25, .laload, 1, 0, 0, 0, []), (26, .lsub, 1, 0, 0, 0, [])]
def s39_6 : List Ent := [(27, .invokestatic 43, 3, 39, 4, 0, [])]
def s39_7 : List Ent := [(30, .aload_n 0, 1, 0, 0, 0, []), (31, .iload_n 1, 1, 0, 0, 0, []), (32, .iload_n 2, 1, 0, 0, 0, []), (33, .iconst 1, 1, 0, 0, 0, []), (34, .iadd, 1, 0, 0, 0, []), (35, .lload_n 3, 1, 0, 0, 0, [])]
def s39_8 : List Ent := [(36, .invokestatic 43, 3, 39, 4, 0, [])]
def s39_9 : List Ent := [(39, .iadd, 1, 0, 0, 0, []), (40, .aload_n 0, 1, 0, 0, 0, []), (41, .iload_n 1, 1, 0, 0, 0, []), (42, .iload_n 2, 1, 0, 0, 0, []), (43, .iconst 1, 1, 0, 0, 0, []), (44, .iadd, 1, 0, 0, 0, []), (45, .lload_n 3, 1, 0, 0, 0, []), (46, .aload_n 0, 1, 0, 0, 0, []), (47, .iload_n 2, 1, 0, 0, 0, []), (48, .laload, 1, 0, 0, 0, []), (49, .ladd, 1, 0, 0, 0, [])]
def s39_10 : List Ent := [(50, .invokestatic 43, 3, 39, 4, 0, [])]
def s39_11 : List Ent := [(53, .iadd, 1, 0, 0, 0, [])]
def s39_12 : List Ent := [(54, .ireturn, 1, 0, 0, 0, [])]
def sg39 : List (List Ent) := [s39_0, s39_1, s39_2, s39_3, s39_4, s39_5, s39_6, s39_7, s39_8, s39_9, s39_10, s39_11, s39_12]
theorem ch39 : chkM mi39.2.1 mi39.2.2.1 mi39.2.2.2 lkRX5 sg39 = true := by decide +kernel
def s40_0 : List Ent := [(0, .aload_n 0, 1, 0, 0, 0, []), (1, .getfield 17, 3, 5, 3, 0, []), (4, .aload_n 0, 1, 0, 0, 0, []), (5, .getfield 31, 3, 5, 0, 2, []), (8, .getfield 47, 3, 6, 1, 0, []), (11, .if_icmp .ne 4, 3, 15, 0, 0, [])]
def s40_1 : List Ent := [(14, .return_, 1, 0, 0, 0, [])]
def s40_2 : List Ent := [(15, .aload_n 0, 1, 0, 0, 0, []), (16, .aload_n 0, 1, 0, 0, 0, []), (17, .getfield 31, 3, 5, 0, 2, []), (20, .getfield 47, 3, 6, 1, 0, []), (23, .putfield 17, 3, 5, 3, 0, []), (26, .aload_n 0, 1, 0, 0, 0, []), (27, .iconst 0, 1, 0, 0, 0, []), (28, .putfield 50, 3, 5, 2, 0, []), (31, .aload_n 0, 1, 0, 0, 0, []), (32, .getfield 11, 3, 5, 1, 2, []), (35, .iconst 0, 1, 0, 0, 0, [])]
def s40_3 : List Ent := [(36, .invokestatic 53, 3, 230, 2, 0, [])]
def s40_4 : List Ent := [(39, .iconst 1, 1, 0, 0, 0, []), (40, .istore_n 1, 1, 0, 0, 0, [])]
def s40_5 : List Ent := [(41, .iload_n 1, 1, 0, 0, 0, []), (42, .bipush 6, 2, 0, 0, 0, []), (44, .if_icmp .gt 58, 3, 102, 0, 0, [])]
def s40_6 : List Ent := [(47, .aload_n 0, 1, 0, 0, 0, []), (48, .getfield 50, 3, 5, 2, 0, []), (51, .ifCond .ne 51, 3, 102, 0, 0, [])]
def s40_7 : List Ent := [(54, .aload_n 0, 1, 0, 0, 0, []), (55, .getfield 31, 3, 5, 0, 2, [])]
def s40_8 : List Ent := [(58, .invokevirtual 59, 3, 51, 0, 6, [])]
def s40_9 : List Ent := [(61, .ifCond .eq 41, 3, 102, 0, 0, [])]
def s40_10 : List Ent := [(64, .aload_n 0, 1, 0, 0, 0, []), (65, .getfield 31, 3, 5, 0, 2, []), (68, .getfield 35, 3, 6, 3, 2, []), (71, .aload_n 0, 1, 0, 0, 0, []), (72, .getfield 31, 3, 5, 0, 2, []), (75, .getfield 40, 3, 6, 0, 0, []), (78, .aload_n 0, 1, 0, 0, 0, []), (79, .getfield 11, 3, 5, 1, 2, []), (82, .iconst 0, 1, 0, 0, 0, []), (83, .iload_n 1, 1, 0, 0, 0, []), (84, .lconst 0, 1, 0, 0, 0, [])]
def s40_11 : List Ent := [(85, .invokestatic 63, 3, 41, 6, 0, [])]
def s40_12 : List Ent := [(88, .ifCond .eq 8, 3, 96, 0, 0, [])]
def s40_13 : List Ent := [(91, .aload_n 0, 1, 0, 0, 0, []), (92, .iload_n 1, 1, 0, 0, 0, []), (93, .putfield 50, 3, 5, 2, 0, [])]
def s40_14 : List Ent := [(96, .iinc 1 1, 3, 0, 0, 0, []), (99, .goto (-58), 3, 41, 0, 0, [])]
def s40_15 : List Ent := [(102, .return_, 1, 0, 0, 0, [])]
def sg40 : List (List Ent) := [s40_0, s40_1, s40_2, s40_3, s40_4, s40_5, s40_6, s40_7, s40_8, s40_9, s40_10, s40_11, s40_12, s40_13, s40_14, s40_15]
theorem ch40 : chkM mi40.2.1 mi40.2.2.1 mi40.2.2.2 lkRX5 sg40 = true := by decide +kernel
def s41_0 : List Ent := [(0, .iload_n 3, 1, 0, 0, 0, []), (1, .iload_n 1, 1, 0, 0, 0, []), (2, .if_icmp .lt 21, 3, 23, 0, 0, [])]
def s41_1 : List Ent := [(5, .iload 4, 2, 0, 0, 0, []), (7, .ifCond .ne 14, 3, 21, 0, 0, [])]
def s41_2 : List Ent := [(10, .lload 5, 2, 0, 0, 0, []), (12, .lconst 0, 1, 0, 0, 0, []), (13, .lcmp, 1, 0, 0, 0, []), (14, .ifCond .ne 7, 3, 21, 0, 0, [])]
def s41_3 : List Ent := [(17, .iconst 1, 1, 0, 0, 0, []), (18, .goto 4, 3, 22, 0, 0, [])]
def s41_4 : List Ent := [(21, .iconst 0, 1, 0, 0, 0, [])]
def s41_5 : List Ent := [(22, .ireturn, 1, 1, 0, 0, [])]
def s41_6 : List Ent := [(23, .iload_n 3, 1, 0, 0, 0, []), (24, .iload_n 1, 1, 0, 0, 0, []), (25, .iconst 1, 1, 0, 0, 0, []), (26, .isub, 1, 0, 0, 0, []), (27, .if_icmp .ne 15, 3, 42, 0, 0, [])]
def s41_7 : List Ent := [(30, .iload 4, 2, 0, 0, 0, []), (32, .ifCond .le 10, 3, 42, 0, 0, [])]
def s41_8 : List Ent := [(35, .iconst 2, 1, 0, 0, 0, []), (36, .iload 4, 2, 0, 0, 0, []), (38, .imul, 1, 0, 0, 0, []), (39, .goto 4, 3, 43, 0, 0, [])]
def s41_9 : List Ent := [(42, .iconst 1, 1, 0, 0, 0, [])]
def s41_10 : List Ent := [(43, .istore 7, 2, 0, 0, 0, []), (45, .iload 4, 2, 0, 0, 0, []), (47, .ineg, 1, 0, 0, 0, []), (48, .istore 8, 2, 0, 0, 0, [])]
def s41_11 : List Ent := [(50, .iload 8, 2, 0, 0, 0, []), (52, .iload 4, 2, 0, 0, 0, []), (54, .if_icmp .gt 50, 3, 104, 0, 0, [])]
def s41_12 : List Ent := [(57, .aload_n 2, 1, 0, 0, 0, []), (58, .iload_n 3, 1, 0, 0, 0, []), (59, .iload 8, 2, 0, 0, 0, []), (61, .iastore, 1, 0, 0, 0, []), (62, .aload_n 0, 1, 0, 0, 0, []), (63, .iload_n 1, 1, 0, 0, 0, []), (64, .aload_n 2, 1, 0, 0, 0, []), (65, .iload_n 3, 1, 0, 0, 0, []), (66, .iconst 1, 1, 0, 0, 0, []), (67, .iadd, 1, 0, 0, 0, []), (68, .iload 4, 2, 0, 0, 0, []), (70, .iload 8, 2, 0, 0, 0, []), (72, .invokestatic 67, 3, 0, 0, 8, []), (75, .isub, 1, 0, 0, 0, []), (76, .lload 5, 2, 0, 0, 0, []), (78, .iload 8, 2, 0, 0, 0, []), (80, .i2l, 1, 0, 0, 0, []), (81, .aload_n 0, 1, 0, 0, 0, []), (82, .iload_n 3, 1, 0, 0, 0, []), (83, .laload, 1, 0, 0, 0, []), (84, .lmul, 1, 0, 0, 0, []), (85, .ladd, 1, 0, 0, 0, [])]
def s41_13 : List Ent := [(86, .invokestatic 63, 3, 41, 6, 0, [])]
def s41_14 : List Ent := [(89, .ifCond .eq 5, 3, 94, 0, 0, [])]
def s41_15 : List Ent := [(92, .iconst 1, 1, 0, 0, 0, [])]
def s41_16 : List Ent := [(93, .ireturn, 1, 1, 0, 0, [])]
def s41_17 : List Ent := [(94, .iload 8, 2, 0, 0, 0, []), (96, .iload 7, 2, 0, 0, 0, []), (98, .iadd, 1, 0, 0, 0, []), (99, .istore 8, 2, 0, 0, 0, []), (101, .goto (-51), 3, 50, 0, 0, [])]
def s41_18 : List Ent := [(104, .aload_n 2, 1, 0, 0, 0, []), (105, .iload_n 3, 1, 0, 0, 0, []), (106, .iconst 0, 1, 0, 0, 0, []), (107, .iastore, 1, 0, 0, 0, []), (108, .iconst 0, 1, 0, 0, 0, [])]
def s41_19 : List Ent := [(109, .ireturn, 1, 1, 0, 0, [])]
def sg41 : List (List Ent) := [s41_0, s41_1, s41_2, s41_3, s41_4, s41_5, s41_6, s41_7, s41_8, s41_9, s41_10, s41_11, s41_12, s41_13, s41_14, s41_15, s41_16, s41_17, s41_18, s41_19]
theorem ch41 : chkM mi41.2.1 mi41.2.2.1 mi41.2.2.2 lkRX5 sg41 = true := by decide +kernel
def s42_0 : List Ent := [(0, .aload_n 0, 1, 0, 0, 0, []), (1, .getfield 28, 3, 5, 6, 2, []), (4, .ldc2_w 73, 3, 0, 0, 0, [-9223372036854775808])]
def s42_1 : List Ent := [(7, .invokestatic 75, 3, 229, 2, 0, [])]
def s42_2 : List Ent := [(10, .aload_n 0, 1, 0, 0, 0, []), (11, .getfield 28, 3, 5, 6, 2, []), (14, .aload_n 0, 1, 0, 0, 0, []), (15, .getfield 31, 3, 5, 0, 2, []), (18, .getfield 35, 3, 6, 3, 2, []), (21, .aload_n 0, 1, 0, 0, 0, []), (22, .getfield 31, 3, 5, 0, 2, []), (25, .getfield 40, 3, 6, 0, 0, []), (28, .iconst 0, 1, 0, 0, 0, []), (29, .iload_n 1, 1, 0, 0, 0, []), (30, .lconst 0, 1, 0, 0, 0, [])]
def s42_3 : List Ent := [(31, .invokestatic 78, 3, 43, 6, 0, [])]
def s42_4 : List Ent := [(34, .ireturn, 1, 0, 0, 0, [])]
def sg42 : List (List Ent) := [s42_0, s42_1, s42_2, s42_3, s42_4]
theorem ch42 : chkM mi42.2.1 mi42.2.2.1 mi42.2.2.2 lkRX5 sg42 = true := by decide +kernel
def s43_0 : List Ent := [(0, .iload_n 3, 1, 0, 0, 0, []), (1, .iload_n 2, 1, 0, 0, 0, []), (2, .if_icmp .lt 18, 3, 20, 0, 0, [])]
def s43_1 : List Ent := [(5, .aload_n 0, 1, 0, 0, 0, []), (6, .lload 5, 2, 0, 0, 0, [])]
def s43_2 : List Ent := [(8, .invokestatic 82, 3, 44, 2, 0, [])]
def s43_3 : List Ent := [(11, .ifCond .eq 7, 3, 18, 0, 0, [])]
def s43_4 : List Ent := [(14, .iconst 1, 1, 0, 0, 0, []), (15, .goto 4, 3, 19, 0, 0, [])]
def s43_5 : List Ent := [(18, .iconst 0, 1, 0, 0, 0, [])]
def s43_6 : List Ent := [(19, .ireturn, 1, 0, 0, 0, [])]
def s43_7 : List Ent := [(20, .iconst 0, 1, 0, 0, 0, []), (21, .istore 7, 2, 0, 0, 0, []), (23, .iload 4, 2, 0, 0, 0, []), (25, .ineg, 1, 0, 0, 0, []), (26, .istore 8, 2, 0, 0, 0, [])]
def s43_8 : List Ent := [(28, .iload 8, 2, 0, 0, 0, []), (30, .iload 4, 2, 0, 0, 0, []), (32, .if_icmp .gt 41, 3, 73, 0, 0, [])]
def s43_9 : List Ent := [(35, .iload 7, 2, 0, 0, 0, []), (37, .aload_n 0, 1, 0, 0, 0, []), (38, .aload_n 1, 1, 0, 0, 0, []), (39, .iload_n 2, 1, 0, 0, 0, []), (40, .iload_n 3, 1, 0, 0, 0, []), (41, .iconst 1, 1, 0, 0, 0, []), (42, .iadd, 1, 0, 0, 0, []), (43, .iload 4, 2, 0, 0, 0, []), (45, .iload 8, 2, 0, 0, 0, []), (47, .invokestatic 67, 3, 0, 0, 8, []), (50, .isub, 1, 0, 0, 0, []), (51, .lload 5, 2, 0, 0, 0, []), (53, .iload 8, 2, 0, 0, 0, []), (55, .i2l, 1, 0, 0, 0, []), (56, .aload_n 1, 1, 0, 0, 0, []), (57, .iload_n 3, 1, 0, 0, 0, []), (58, .laload, 1, 0, 0, 0, []), (59, .lmul, 1, 0, 0, 0, []), (60, .ladd, 1, 0, 0, 0, [])]
def s43_10 : List Ent := [(61, .invokestatic 78, 3, 43, 6, 0, [])]
def s43_11 : List Ent := [(64, .iadd, 1, 0, 0, 0, []), (65, .istore 7, 2, 0, 0, 0, []), (67, .iinc 8 1, 3, 0, 0, 0, []), (70, .goto (-42), 3, 28, 0, 0, [])]
def s43_12 : List Ent := [(73, .iload 7, 2, 0, 0, 0, [])]
def s43_13 : List Ent := [(75, .ireturn, 1, 0, 0, 0, [])]
def sg43 : List (List Ent) := [s43_0, s43_1, s43_2, s43_3, s43_4, s43_5, s43_6, s43_7, s43_8, s43_9, s43_10, s43_11, s43_12, s43_13]
theorem ch43 : chkM mi43.2.1 mi43.2.2.1 mi43.2.2.2 lkRX5 sg43 = true := by decide +kernel
def s44_0 : List Ent := [(0, .lload_n 1, 1, 0, 0, 0, []), (1, .ldc2_w 86, 3, 0, 0, 0, [-7046029254386353131]), (4, .lmul, 1, 0, 0, 0, []), (5, .bipush 40, 2, 0, 0, 0, []), (7, .lushr, 1, 0, 0, 0, []), (8, .ldc2_w 88, 3, 0, 0, 0, [1024]), (11, .lrem, 1, 0, 0, 0, []), (12, .l2i, 1, 0, 0, 0, []), (13, .istore_n 3, 1, 0, 0, 0, []), (14, .iconst 0, 1, 0, 0, 0, []), (15, .istore 4, 2, 0, 0, 0, [])]
def s44_1 : List Ent := [(17, .iload 4, 2, 0, 0, 0, []), (19, .sipush 1024, 3, 0, 0, 0, []), (22, .if_icmp .ge 43, 3, 65, 0, 0, [])]
def s44_2 : List Ent := [(25, .aload_n 0, 1, 0, 0, 0, []), (26, .iload_n 3, 1, 0, 0, 0, []), (27, .laload, 1, 0, 0, 0, []), (28, .lload_n 1, 1, 0, 0, 0, []), (29, .lcmp, 1, 0, 0, 0, []), (30, .ifCond .ne 5, 3, 35, 0, 0, [])]
def s44_3 : List Ent := [(33, .iconst 0, 1, 0, 0, 0, [])]
def s44_4 : List Ent := [(34, .ireturn, 1, 1, 0, 0, [])]
def s44_5 : List Ent := [(35, .aload_n 0, 1, 0, 0, 0, []), (36, .iload_n 3, 1, 0, 0, 0, []), (37, .laload, 1, 0, 0, 0, []), (38, .ldc2_w 73, 3, 0, 0, 0, [-9223372036854775808]), (41, .lcmp, 1, 0, 0, 0, []), (42, .ifCond .ne 9, 3, 51, 0, 0, [])]
def s44_6 : List Ent := [(45, .aload_n 0, 1, 0, 0, 0, []), (46, .iload_n 3, 1, 0, 0, 0, []), (47, .lload_n 1, 1, 0, 0, 0, []), (48, .lastore, 1, 0, 0, 0, []), (49, .iconst 1, 1, 0, 0, 0, [])]
def s44_7 : List Ent := [(50, .ireturn, 1, 1, 0, 0, [])]
def s44_8 : List Ent := [(51, .iload_n 3, 1, 0, 0, 0, []), (52, .iconst 1, 1, 0, 0, 0, []), (53, .iadd, 1, 0, 0, 0, []), (54, .sipush 1024, 3, 0, 0, 0, []), (57, .irem, 1, 0, 0, 0, []), (58, .istore_n 3, 1, 0, 0, 0, []), (59, .iinc 4 1, 3, 0, 0, 0, []), (62, .goto (-45), 3, 17, 0, 0, [])]
def s44_9 : List Ent := [(65, .iconst 0, 1, 0, 0, 0, [])]
def s44_10 : List Ent := [(66, .ireturn, 1, 1, 0, 0, [])]
def sg44 : List (List Ent) := [s44_0, s44_1, s44_2, s44_3, s44_4, s44_5, s44_6, s44_7, s44_8, s44_9, s44_10]
theorem ch44 : chkM mi44.2.1 mi44.2.2.1 mi44.2.2.2 lkRX5 sg44 = true := by decide +kernel
def s45_0 : List Ent := [(0, .aload_n 0, 1, 0, 0, 0, []), (1, .aload_n 1, 1, 0, 0, 0, [])]
def s45_1 : List Ent := [(2, .invokevirtual 90, 3, 46, 1, 5, [])]
def s45_2 : List Ent := [(5, .istore_n 3, 1, 0, 0, 0, []), (6, .iload_n 2, 1, 0, 0, 0, []), (7, .iconst (-1), 1, 0, 0, 0, []), (8, .if_icmp .eq 9, 3, 17, 0, 0, [])]
def s45_3 : List Ent := [(11, .iload_n 3, 1, 0, 0, 0, []), (12, .bipush (-9), 2, 0, 0, 0, []), (14, .if_icmp .ne 5, 3, 19, 0, 0, [])]
def s45_4 : List Ent := [(17, .iload_n 3, 1, 0, 0, 0, [])]
def s45_5 : List Ent := [(18, .ireturn, 1, 0, 0, 0, [])]
def s45_6 : List Ent := [(19, .iload_n 2, 1, 0, 0, 0, []), (20, .ifCond .lt 17, 3, 37, 0, 0, [])]
def s45_7 : List Ent := [(23, .iload_n 2, 1, 0, 0, 0, []), (24, .iload_n 3, 1, 0, 0, 0, []), (25, .if_icmp .ge 12, 3, 37, 0, 0, [])]
def s45_8 : List Ent := [(28, .aload_n 0, 1, 0, 0, 0, []), (29, .getfield 25, 3, 5, 5, 2, []), (32, .iload_n 2, 1, 0, 0, 0, []), (33, .iaload, 1, 0, 0, 0, []), (34, .goto 5, 3, 39, 0, 0, [])]
def s45_9 : List Ent := [(37, .bipush (-9), 2, 0, 0, 0, [])]
def s45_10 : List Ent := [(39, .ireturn, 1, 0, 0, 0, [])]
def sg45 : List (List Ent) := [s45_0, s45_1, s45_2, s45_3, s45_4, s45_5, s45_6, s45_7, s45_8, s45_9, s45_10]
theorem ch45 : chkM mi45.2.1 mi45.2.2.1 mi45.2.2.2 lkRX5 sg45 = true := by decide +kernel
def s46_0 : List Ent := [(0, .aload_n 1, 1, 0, 0, 0, []), (1, .astore_n 2, 1, 0, 0, 0, []), (2, .aload_n 2, 1, 0, 0, 0, []), (3, .arraylength, 1, 0, 0, 0, []), (4, .istore_n 3, 1, 0, 0, 0, []), (5, .iconst 0, 1, 0, 0, 0, []), (6, .istore 4, 2, 0, 0, 0, [])]
def s46_1 : List Ent := [(8, .iload 4, 2, 0, 0, 0, []), (10, .iload_n 3, 1, 0, 0, 0, []), (11, .if_icmp .ge 32, 3, 43, 0, 0, [])]
def s46_2 : List Ent := [(14, .aload_n 2, 1, 0, 0, 0, []), (15, .iload 4, 2, 0, 0, 0, []), (17, .iaload, 1, 0, 0, 0, []), (18, .istore 5, 2, 0, 0, 0, []), (20, .iload 5, 2, 0, 0, 0, []), (22, .bipush (-99), 2, 0, 0, 0, []), (24, .if_icmp .lt 10, 3, 34, 0, 0, [])]
def s46_3 : List Ent := [(27, .iload 5, 2, 0, 0, 0, []), (29, .bipush 99, 2, 0, 0, 0, []), (31, .if_icmp .le 6, 3, 37, 0, 0, [])]
def s46_4 : List Ent := [(34, .bipush (-9), 2, 0, 0, 0, [])]
def s46_5 : List Ent := [(36, .ireturn, 1, 0, 0, 0, [])]
def s46_6 : List Ent := [(37, .iinc 4 1, 3, 0, 0, 0, []), (40, .goto (-32), 3, 8, 0, 0, [])]
def s46_7 : List Ent := [(43, .iconst 0, 1, 0, 0, 0, []), (44, .istore_n 2, 1, 0, 0, 0, [])]
def s46_8 : List Ent := [(45, .iload_n 2, 1, 0, 0, 0, []), (46, .aload_n 0, 1, 0, 0, 0, []), (47, .getfield 31, 3, 5, 0, 2, []), (50, .getfield 40, 3, 6, 0, 0, []), (53, .if_icmp .ge 46, 3, 99, 0, 0, [])]
def s46_9 : List Ent := [(56, .aload_n 0, 1, 0, 0, 0, []), (57, .getfield 21, 3, 5, 4, 2, []), (60, .iconst 2, 1, 0, 0, 0, []), (61, .iload_n 2, 1, 0, 0, 0, []), (62, .imul, 1, 0, 0, 0, []), (63, .aload_n 0, 1, 0, 0, 0, []), (64, .getfield 31, 3, 5, 0, 2, []), (67, .getfield 35, 3, 6, 3, 2, []), (70, .iload_n 2, 1, 0, 0, 0, []), (71, .laload, 1, 0, 0, 0, []), (72, .lastore, 1, 0, 0, 0, []), (73, .aload_n 0, 1, 0, 0, 0, []), (74, .getfield 21, 3, 5, 4, 2, []), (77, .iconst 2, 1, 0, 0, 0, []), (78, .iload_n 2, 1, 0, 0, 0, []), (79, .imul, 1, 0, 0, 0, []), (80, .iconst 1, 1, 0, 0, 0, []), (81, .iadd, 1, 0, 0, 0, []), (82, .aload_n 0, 1, 0, 0, 0, []), (83, .getfield 31, 3, 5, 0, 2, []), (86, .getfield 35, 3, 6, 3, 2, []), (89, .iload_n 2, 1, 0, 0, 0, []), (90, .laload, 1, 0, 0, 0, []), (91, .lneg, 1, 0, 0, 0, []), (92, .lastore, 1, 0, 0, 0, []), (93, .iinc 2 1, 3, 0, 0, 0, []), (96, .goto (-51), 3, 45, 0, 0, [])]
def s46_10 : List Ent := [(99, .aload_n 1, 1, 0, 0, 0, [])]
def s46_11 : List Ent := [(100, .invokestatic 94, 3, 50, 1, 0, [])]
def s46_12 : List Ent := [(103, .lstore_n 2, 1, 0, 0, 0, []), (104, .iconst 0, 1, 0, 0, 0, []), (105, .istore 4, 2, 0, 0, 0, [])]
def s46_13 : List Ent := [(107, .iload 4, 2, 0, 0, 0, []), (109, .iconst 3, 1, 0, 0, 0, []), (110, .if_icmp .gt 39, 3, 149, 0, 0, [])]
def s46_14 : List Ent := [(113, .aload_n 0, 1, 0, 0, 0, []), (114, .getfield 21, 3, 5, 4, 2, []), (117, .iconst 2, 1, 0, 0, 0, []), (118, .aload_n 0, 1, 0, 0, 0, []), (119, .getfield 31, 3, 5, 0, 2, []), (122, .getfield 40, 3, 6, 0, 0, []), (125, .imul, 1, 0, 0, 0, []), (126, .aload_n 0, 1, 0, 0, 0, []), (127, .getfield 25, 3, 5, 5, 2, []), (130, .iconst 0, 1, 0, 0, 0, []), (131, .iload 4, 2, 0, 0, 0, []), (133, .lload_n 2, 1, 0, 0, 0, [])]
def s46_15 : List Ent := [(134, .invokestatic 98, 3, 47, 6, 0, [])]
def s46_16 : List Ent := [(137, .ifCond .eq 6, 3, 143, 0, 0, [])]
def s46_17 : List Ent := [(140, .iload 4, 2, 0, 0, 0, [])]
def s46_18 : List Ent := [(142, .ireturn, 1, 0, 0, 0, [])]
def s46_19 : List Ent := [(143, .iinc 4 1, 3, 0, 0, 0, []), (146, .goto (-39), 3, 107, 0, 0, [])]
def s46_20 : List Ent := [(149, .bipush (-9), 2, 0, 0, 0, [])]
def s46_21 : List Ent := [(151, .ireturn, 1, 0, 0, 0, [])]
def sg46 : List (List Ent) := [s46_0, s46_1, s46_2, s46_3, s46_4, s46_5, s46_6, s46_7, s46_8, s46_9, s46_10, s46_11, s46_12, s46_13, s46_14, s46_15, s46_16, s46_17, s46_18, s46_19, s46_20, s46_21]
theorem ch46 : chkM mi46.2.1 mi46.2.2.1 mi46.2.2.2 lkRX5 sg46 = true := by decide +kernel
def s47_0 : List Ent := [(0, .iload_n 3, 1, 0, 0, 0, []), (1, .iload 4, 2, 0, 0, 0, []), (3, .if_icmp .lt 16, 3, 19, 0, 0, [])]
def s47_1 : List Ent := [(6, .lload 5, 2, 0, 0, 0, []), (8, .lconst 0, 1, 0, 0, 0, []), (9, .lcmp, 1, 0, 0, 0, []), (10, .ifCond .ne 7, 3, 17, 0, 0, [])]
def s47_2 : List Ent := [(13, .iconst 1, 1, 0, 0, 0, []), (14, .goto 4, 3, 18, 0, 0, [])]
def s47_3 : List Ent := [(17, .iconst 0, 1, 0, 0, 0, [])]
def s47_4 : List Ent := [(18, .ireturn, 1, 1, 0, 0, [])]
def s47_5 : List Ent := [(19, .iconst 0, 1, 0, 0, 0, []), (20, .istore 7, 2, 0, 0, 0, [])]
def s47_6 : List Ent := [(22, .iload 7, 2, 0, 0, 0, []), (24, .iload_n 1, 1, 0, 0, 0, []), (25, .if_icmp .ge 37, 3, 62, 0, 0, [])]
def s47_7 : List Ent := [(28, .aload_n 2, 1, 0, 0, 0, []), (29, .iload_n 3, 1, 0, 0, 0, []), (30, .iload 7, 2, 0, 0, 0, []), (32, .iastore, 1, 0, 0, 0, []), (33, .aload_n 0, 1, 0, 0, 0, []), (34, .iload_n 1, 1, 0, 0, 0, []), (35, .aload_n 2, 1, 0, 0, 0, []), (36, .iload_n 3, 1, 0, 0, 0, []), (37, .iconst 1, 1, 0, 0, 0, []), (38, .iadd, 1, 0, 0, 0, []), (39, .iload 4, 2, 0, 0, 0, []), (41, .lload 5, 2, 0, 0, 0, []), (43, .aload_n 0, 1, 0, 0, 0, []), (44, .iload 7, 2, 0, 0, 0, []), (46, .laload, 1, 0, 0, 0, []), (47, .lsub, 1, 0, 0, 0, [])]
def s47_8 : List Ent := [(48, .invokestatic 98, 3, 47, 6, 0, [])]
def s47_9 : List Ent := [(51, .ifCond .eq 5, 3, 56, 0, 0, [])]
def s47_10 : List Ent := [(54, .iconst 1, 1, 0, 0, 0, [])]
def s47_11 : List Ent := [(55, .ireturn, 1, 1, 0, 0, [])]
def s47_12 : List Ent := [(56, .iinc 7 1, 3, 0, 0, 0, []), (59, .goto (-37), 3, 22, 0, 0, [])]
def s47_13 : List Ent := [(62, .iconst 0, 1, 0, 0, 0, [])]
def s47_14 : List Ent := [(63, .ireturn, 1, 1, 0, 0, [])]
def sg47 : List (List Ent) := [s47_0, s47_1, s47_2, s47_3, s47_4, s47_5, s47_6, s47_7, s47_8, s47_9, s47_10, s47_11, s47_12, s47_13, s47_14]
theorem ch47 : chkM mi47.2.1 mi47.2.2.1 mi47.2.2.2 lkRX5 sg47 = true := by decide +kernel
def s48_0 : List Ent := [(0, .aload_n 0, 1, 0, 0, 0, []), (1, .aload_n 1, 1, 0, 0, 0, []), (2, .getfield 27, 3, 3, 0, 0, []), (5, .putfield 33, 3, 6, 0, 0, []), (8, .aload_n 0, 1, 0, 0, 0, []), (9, .dup, 1, 0, 0, 0, []), (10, .getfield 34, 3, 6, 1, 0, []), (13, .iconst 1, 1, 0, 0, 0, []), (14, .iadd, 1, 0, 0, 0, []), (15, .putfield 34, 3, 6, 1, 0, []), (18, .iconst 0, 1, 0, 0, 0, []), (19, .istore_n 2, 1, 0, 0, 0, [])]
def s48_1 : List Ent := [(20, .iload_n 2, 1, 0, 0, 0, []), (21, .aload_n 0, 1, 0, 0, 0, []), (22, .getfield 33, 3, 6, 0, 0, []), (25, .if_icmp .ge 45, 3, 70, 0, 0, [])]
def s48_2 : List Ent := [(28, .aload_n 1, 1, 0, 0, 0, []), (29, .getfield 37, 3, 3, 1, 2, []), (32, .iload_n 2, 1, 0, 0, 0, []), (33, .iaload, 1, 0, 0, 0, []), (34, .aload_n 1, 1, 0, 0, 0, []), (35, .getfield 41, 3, 3, 2, 2, []), (38, .iload_n 2, 1, 0, 0, 0, []), (39, .aaload, 1, 0, 0, 0, []), (40, .aload_n 0, 1, 0, 0, 0, []), (41, .getfield 11, 3, 6, 2, 2, []), (44, .iload_n 2, 1, 0, 0, 0, []), (45, .aaload, 1, 0, 0, 0, [])]
def s48_3 : List Ent := [(46, .invokestatic 44, 3, 49, 3, 0, [])]
def s48_4 : List Ent := [(49, .aload_n 0, 1, 0, 0, 0, []), (50, .getfield 16, 3, 6, 3, 2, []), (53, .iload_n 2, 1, 0, 0, 0, []), (54, .aload_n 0, 1, 0, 0, 0, []), (55, .getfield 11, 3, 6, 2, 2, []), (58, .iload_n 2, 1, 0, 0, 0, []), (59, .aaload, 1, 0, 0, 0, [])]
def s48_5 : List Ent := [(60, .invokestatic 48, 3, 50, 1, 0, [])]
def s48_6 : List Ent := [(63, .lastore, 1, 0, 0, 0, []), (64, .iinc 2 1, 3, 0, 0, 0, []), (67, .goto (-47), 3, 20, 0, 0, [])]
def s48_7 : List Ent := [(70, .aload_n 0, 1, 0, 0, 0, []), (71, .getfield 23, 3, 6, 4, 2, []), (74, .aload_n 0, 1, 0, 0, 0, []), (75, .getfield 11, 3, 6, 2, 2, []), (78, .aload_n 0, 1, 0, 0, 0, []), (79, .getfield 33, 3, 6, 0, 0, []), (82, .iconst 1, 1, 0, 0, 0, []), (83, .aload_n 0, 1, 0, 0, 0, []), (84, .getfield 33, 3, 6, 0, 0, []), (87, .ishl, 1, 0, 0, 0, []), (88, .iconst 1, 1, 0, 0, 0, []), (89, .isub, 1, 0, 0, 0, [])]
def s48_8 : List Ent := [(90, .invokevirtual 52, 3, 4, 3, 1, [])]
def s48_9 : List Ent := [(93, .return_, 1, 0, 0, 0, [])]
def sg48 : List (List Ent) := [s48_0, s48_1, s48_2, s48_3, s48_4, s48_5, s48_6, s48_7, s48_8, s48_9]
theorem ch48 : chkM mi48.2.1 mi48.2.2.1 mi48.2.2.2 lkRX6 sg48 = true := by decide +kernel
def s49_0 : List Ent := [(0, .aload_n 1, 1, 0, 0, 0, []), (1, .iconst 0, 1, 0, 0, 0, []), (2, .aload_n 2, 1, 0, 0, 0, []), (3, .iconst 0, 1, 0, 0, 0, []), (4, .iconst 5, 1, 0, 0, 0, []), (5, .invokestatic 56, 3, 0, 0, 7, []), (8, .aload_n 2, 1, 0, 0, 0, []), (9, .iconst 1, 1, 0, 0, 0, []), (10, .dup2, 1, 0, 0, 0, []), (11, .iaload, 1, 0, 0, 0, []), (12, .getstatic 62, 3, 1001, 0, 0, []), (15, .iload_n 0, 1, 0, 0, 0, []), (16, .iaload, 1, 0, 0, 1, []), (17, .isub, 1, 0, 0, 0, []), (18, .iastore, 1, 0, 0, 0, []), (19, .aload_n 2, 1, 0, 0, 0, []), (20, .iconst 2, 1, 0, 0, 0, []), (21, .dup2, 1, 0, 0, 0, []), (22, .iaload, 1, 0, 0, 0, []), (23, .getstatic 65, 3, 1002, 0, 0, []), (26, .iload_n 0, 1, 0, 0, 0, []), (27, .iaload, 1, 0, 0, 1, []), (28, .isub, 1, 0, 0, 0, []), (29, .iastore, 1, 0, 0, 0, []), (30, .iconst 0, 1, 0, 0, 0, []), (31, .istore_n 3, 1, 0, 0, 0, [])]
def s49_1 : List Ent := [(32, .iload_n 3, 1, 0, 0, 0, []), (33, .iconst 5, 1, 0, 0, 0, []), (34, .if_icmp .ge 20, 3, 54, 0, 0, [])]
def s49_2 : List Ent := [(37, .aload_n 2, 1, 0, 0, 0, []), (38, .iload_n 3, 1, 0, 0, 0, []), (39, .dup2, 1, 0, 0, 0, []), (40, .iaload, 1, 0, 0, 0, []), (41, .getstatic 68, 3, 1003, 0, 0, []), (44, .iload_n 0, 1, 0, 0, 0, []), (45, .iaload, 1, 0, 0, 1, []), (46, .imul, 1, 0, 0, 0, []), (47, .iastore, 1, 0, 0, 0, []), (48, .iinc 3 1, 3, 0, 0, 0, []), (51, .goto (-19), 3, 32, 0, 0, [])]
def s49_3 : List Ent := [(54, .return_, 1, 0, 0, 0, [])]
def sg49 : List (List Ent) := [s49_0, s49_1, s49_2, s49_3]
theorem ch49 : chkM mi49.2.1 mi49.2.2.1 mi49.2.2.2 lkRX6 sg49 = true := by decide +kernel
def s50_0 : List Ent := [(0, .lconst 0, 1, 0, 0, 0, []), (1, .lstore_n 1, 1, 0, 0, 0, []), (2, .aload_n 0, 1, 0, 0, 0, []), (3, .astore_n 3, 1, 0, 0, 0, []), (4, .aload_n 3, 1, 0, 0, 0, []), (5, .arraylength, 1, 0, 0, 0, []), (6, .istore 4, 2, 0, 0, 0, []), (8, .iconst 0, 1, 0, 0, 0, []), (9, .istore 5, 2, 0, 0, 0, [])]
def s50_1 : List Ent := [(11, .iload 5, 2, 0, 0, 0, []), (13, .iload 4, 2, 0, 0, 0, []), (15, .if_icmp .ge 25, 3, 40, 0, 0, [])]
def s50_2 : List Ent := [(18, .aload_n 3, 1, 0, 0, 0, []), (19, .iload 5, 2, 0, 0, 0, []), (21, .iaload, 1, 0, 0, 0, []), (22, .istore 6, 2, 0, 0, 0, []), (24, .lload_n 1, 1, 0, 0, 0, []), (25, .ldc2_w 71, 3, 0, 0, 0, [4096]), (28, .lmul, 1, 0, 0, 0, []), (29, .iload 6, 2, 0, 0, 0, []), (31, .i2l, 1, 0, 0, 0, []), (32, .ladd, 1, 0, 0, 0, []), (33, .lstore_n 1, 1, 0, 0, 0, []), (34, .iinc 5 1, 3, 0, 0, 0, []), (37, .goto (-26), 3, 11, 0, 0, [])]
def s50_3 : List Ent := [(40, .lload_n 1, 1, 0, 0, 0, [])]
def s50_4 : List Ent := [(41, .lreturn, 1, 0, 0, 0, [])]
def sg50 : List (List Ent) := [s50_0, s50_1, s50_2, s50_3, s50_4]
theorem ch50 : chkM mi50.2.1 mi50.2.2.1 mi50.2.2.2 lkRX6 sg50 = true := by decide +kernel
def s51_0 : List Ent := [(0, .iconst 1, 1, 0, 0, 0, []), (1, .aload_n 0, 1, 0, 0, 0, []), (2, .getfield 33, 3, 6, 0, 0, []), (5, .ishl, 1, 0, 0, 0, []), (6, .iconst 1, 1, 0, 0, 0, []), (7, .isub, 1, 0, 0, 0, []), (8, .aload_n 0, 1, 0, 0, 0, []), (9, .getfield 23, 3, 6, 4, 2, []), (12, .getfield 73, 3, 1, 4, 0, []), (15, .iconst (-1), 1, 0, 0, 0, []), (16, .ixor, 1, 0, 0, 0, []), (17, .iand, 1, 0, 0, 0, [])]
def s51_1 : List Ent := [(18, .ireturn, 1, 0, 0, 0, [])]
def sg51 : List (List Ent) := [s51_0, s51_1]
theorem ch51 : chkM mi51.2.1 mi51.2.2.1 mi51.2.2.2 lkRX6 sg51 = true := by decide +kernel
def s52_0 : List Ent := [(0, .aload_n 0, 1, 0, 0, 0, [])]
def s52_1 : List Ent := [(1, .invokevirtual 76, 3, 51, 0, 6, [])]
def s52_2 : List Ent := [(4, .istore_n 2, 1, 0, 0, 0, []), (5, .iload_n 1, 1, 0, 0, 0, []), (6, .istore_n 3, 1, 0, 0, 0, []), (7, .iconst 0, 1, 0, 0, 0, []), (8, .istore 4, 2, 0, 0, 0, [])]
def s52_3 : List Ent := [(10, .iload 4, 2, 0, 0, 0, []), (12, .aload_n 0, 1, 0, 0, 0, []), (13, .getfield 33, 3, 6, 0, 0, []), (16, .if_icmp .ge 29, 3, 45, 0, 0, [])]
def s52_4 : List Ent := [(19, .iload_n 2, 1, 0, 0, 0, []), (20, .iload 4, 2, 0, 0, 0, [])]
def s52_5 : List Ent := [(22, .invokestatic 80, 3, 112, 2, 0, [])]
def s52_6 : List Ent := [(25, .iconst 1, 1, 0, 0, 0, []), (26, .if_icmp .ne 13, 3, 39, 0, 0, [])]
def s52_7 : List Ent := [(29, .iload_n 3, 1, 0, 0, 0, []), (30, .ifCond .ne 6, 3, 36, 0, 0, [])]
def s52_8 : List Ent := [(33, .iload 4, 2, 0, 0, 0, [])]
def s52_9 : List Ent := [(35, .ireturn, 1, 0, 0, 0, [])]
def s52_10 : List Ent := [(36, .iinc 3 (-1), 3, 0, 0, 0, [])]
def s52_11 : List Ent := [(39, .iinc 4 1, 3, 0, 0, 0, []), (42, .goto (-32), 3, 10, 0, 0, [])]
def s52_12 : List Ent := [(45, .iconst 0, 1, 0, 0, 0, [])]
def s52_13 : List Ent := [(46, .ireturn, 1, 0, 0, 0, [])]
def sg52 : List (List Ent) := [s52_0, s52_1, s52_2, s52_3, s52_4, s52_5, s52_6, s52_7, s52_8, s52_9, s52_10, s52_11, s52_12, s52_13]
theorem ch52 : chkM mi52.2.1 mi52.2.2.1 mi52.2.2.2 lkRX6 sg52 = true := by decide +kernel
def s53_0 : List Ent := [(0, .iconst 0, 1, 0, 0, 0, []), (1, .istore_n 1, 1, 0, 0, 0, []), (2, .iconst 0, 1, 0, 0, 0, []), (3, .istore_n 2, 1, 0, 0, 0, [])]
def s53_1 : List Ent := [(4, .iload_n 2, 1, 0, 0, 0, []), (5, .aload_n 0, 1, 0, 0, 0, []), (6, .getfield 33, 3, 6, 0, 0, []), (9, .if_icmp .ge 63, 3, 72, 0, 0, [])]
def s53_2 : List Ent := [(12, .iconst 0, 1, 0, 0, 0, []), (13, .istore_n 3, 1, 0, 0, 0, []), (14, .iconst 0, 1, 0, 0, 0, []), (15, .istore 4, 2, 0, 0, 0, [])]
def s53_3 : List Ent := [(17, .iload 4, 2, 0, 0, 0, []), (19, .iload_n 2, 1, 0, 0, 0, []), (20, .if_icmp .ge 34, 3, 54, 0, 0, [])]
def s53_4 : List Ent := [(23, .iload_n 3, 1, 0, 0, 0, []), (24, .aload_n 0, 1, 0, 0, 0, []), (25, .getfield 16, 3, 6, 3, 2, []), (28, .iload 4, 2, 0, 0, 0, []), (30, .laload, 1, 0, 0, 0, []), (31, .aload_n 0, 1, 0, 0, 0, []), (32, .getfield 16, 3, 6, 3, 2, []), (35, .iload_n 2, 1, 0, 0, 0, []), (36, .laload, 1, 0, 0, 0, []), (37, .lcmp, 1, 0, 0, 0, []), (38, .ifCond .ne 7, 3, 45, 0, 0, [])]
def s53_5 : List Ent := [(41, .iconst 1, 1, 0, 0, 0, []), (42, .goto 4, 3, 46, 0, 0, [])]
def s53_6 : List Ent := [(45, .iconst 0, 1, 0, 0, 0, [])]
def s53_7 : List Ent := [(46, .iadd, 1, 0, 0, 0, []), (47, .istore_n 3, 1, 0, 0, 0, []), (48, .iinc 4 1, 3, 0, 0, 0, []), (51, .goto (-34), 3, 17, 0, 0, [])]
def s53_8 : List Ent := [(54, .iload_n 1, 1, 0, 0, 0, []), (55, .iload_n 3, 1, 0, 0, 0, []), (56, .ifCond .ne 7, 3, 63, 0, 0, [])]
def s53_9 : List Ent := [(59, .iconst 1, 1, 0, 0, 0, []), (60, .goto 4, 3, 64, 0, 0, [])]
def s53_10 : List Ent := [(63, .iconst 0, 1, 0, 0, 0, [])]
def s53_11 : List Ent := [(64, .iadd, 1, 0, 0, 0, []), (65, .istore_n 1, 1, 0, 0, 0, []), (66, .iinc 2 1, 3, 0, 0, 0, []), (69, .goto (-65), 3, 4, 0, 0, [])]
def s53_12 : List Ent := [(72, .iload_n 1, 1, 0, 0, 0, [])]
def s53_13 : List Ent := [(73, .ireturn, 1, 0, 0, 0, [])]
def sg53 : List (List Ent) := [s53_0, s53_1, s53_2, s53_3, s53_4, s53_5, s53_6, s53_7, s53_8, s53_9, s53_10, s53_11, s53_12, s53_13]
theorem ch53 : chkM mi53.2.1 mi53.2.2.1 mi53.2.2.2 lkRX6 sg53 = true := by decide +kernel
def s54_0 : List Ent := [(0, .aload_n 0, 1, 0, 0, 0, []), (1, .aload_n 1, 1, 0, 0, 0, [])]
def s54_1 : List Ent := [(2, .invokevirtual 84, 3, 55, 1, 6, [])]
def s54_2 : List Ent := [(5, .ifCond .ne 7, 3, 12, 0, 0, [])]
def s54_3 : List Ent := [(8, .iconst 1, 1, 0, 0, 0, []), (9, .goto 4, 3, 13, 0, 0, [])]
def s54_4 : List Ent := [(12, .iconst 0, 1, 0, 0, 0, [])]
def s54_5 : List Ent := [(13, .ireturn, 1, 1, 0, 0, [])]
def sg54 : List (List Ent) := [s54_0, s54_1, s54_2, s54_3, s54_4, s54_5]
theorem ch54 : chkM mi54.2.1 mi54.2.2.1 mi54.2.2.2 lkRX6 sg54 = true := by decide +kernel
def s55_0 : List Ent := [(0, .iconst 0, 1, 0, 0, 0, []), (1, .istore_n 2, 1, 0, 0, 0, []), (2, .iconst 0, 1, 0, 0, 0, []), (3, .istore_n 3, 1, 0, 0, 0, [])]
def s55_1 : List Ent := [(4, .iload_n 3, 1, 0, 0, 0, []), (5, .iconst 5, 1, 0, 0, 0, []), (6, .if_icmp .ge 57, 3, 63, 0, 0, [])]
def s55_2 : List Ent := [(9, .iconst 0, 1, 0, 0, 0, []), (10, .istore 4, 2, 0, 0, 0, []), (12, .iconst 0, 1, 0, 0, 0, []), (13, .istore 5, 2, 0, 0, 0, [])]
def s55_3 : List Ent := [(15, .iload 5, 2, 0, 0, 0, []), (17, .aload_n 0, 1, 0, 0, 0, []), (18, .getfield 33, 3, 6, 0, 0, []), (21, .if_icmp .ge 28, 3, 49, 0, 0, [])]
def s55_4 : List Ent := [(24, .iload 4, 2, 0, 0, 0, []), (26, .aload_n 1, 1, 0, 0, 0, []), (27, .iload 5, 2, 0, 0, 0, []), (29, .iaload, 1, 0, 0, 0, []), (30, .aload_n 0, 1, 0, 0, 0, []), (31, .getfield 11, 3, 6, 2, 2, []), (34, .iload 5, 2, 0, 0, 0, []), (36, .aaload, 1, 0, 0, 0, []), (37, .iload_n 3, 1, 0, 0, 0, []), (38, .iaload, 1, 0, 0, 0, []), (39, .imul, 1, 0, 0, 0, []), (40, .iadd, 1, 0, 0, 0, []), (41, .istore 4, 2, 0, 0, 0, []), (43, .iinc 5 1, 3, 0, 0, 0, []), (46, .goto (-31), 3, 15, 0, 0, [])]
def s55_5 : List Ent := [(49, .iload_n 2, 1, 0, 0, 0, []), (50, .iload 4, 2, 0, 0, 0, []), (52, .invokestatic 88, 3, 0, 0, 8, []), (55, .iadd, 1, 0, 0, 0, []), (56, .istore_n 2, 1, 0, 0, 0, []), (57, .iinc 3 1, 3, 0, 0, 0, []), (60, .goto (-56), 3, 4, 0, 0, [])]
def s55_6 : List Ent := [(63, .iload_n 2, 1, 0, 0, 0, [])]
def s55_7 : List Ent := [(64, .ireturn, 1, 0, 0, 0, [])]
def sg55 : List (List Ent) := [s55_0, s55_1, s55_2, s55_3, s55_4, s55_5, s55_6, s55_7]
theorem ch55 : chkM mi55.2.1 mi55.2.2.1 mi55.2.2.2 lkRX6 sg55 = true := by decide +kernel
def s56_0 : List Ent := [(0, .iload_n 1, 1, 0, 0, 0, []), (1, .ifCond .ge 10, 3, 11, 0, 0, [])]
def s56_1 : List Ent := [(4, .aload_n 0, 1, 0, 0, 0, []), (5, .bipush (-4), 2, 0, 0, 0, [])]
def s56_2 : List Ent := [(7, .invokevirtual 80, 3, 96, 1, 7, [])]
def s56_3 : List Ent := [(10, .ireturn, 1, 0, 0, 0, [])]
def s56_4 : List Ent := [(11, .iload_n 1, 1, 0, 0, 0, []), (12, .sipush 255, 3, 0, 0, 0, []), (15, .if_icmp .gt 12, 3, 27, 0, 0, [])]
def s56_5 : List Ent := [(18, .aload_n 0, 1, 0, 0, 0, []), (19, .getfield 84, 3, 7, 9, 0, []), (22, .bipush 72, 2, 0, 0, 0, []), (24, .if_icmp .lt 10, 3, 34, 0, 0, [])]
def s56_6 : List Ent := [(27, .aload_n 0, 1, 0, 0, 0, []), (28, .bipush (-6), 2, 0, 0, 0, [])]
def s56_7 : List Ent := [(30, .invokevirtual 80, 3, 96, 1, 7, [])]
def s56_8 : List Ent := [(33, .ireturn, 1, 0, 0, 0, [])]
def s56_9 : List Ent := [(34, .aload_n 0, 1, 0, 0, 0, []), (35, .getfield 56, 3, 7, 8, 2, []), (38, .aload_n 0, 1, 0, 0, 0, []), (39, .getfield 84, 3, 7, 9, 0, []), (42, .iload_n 1, 1, 0, 0, 0, []), (43, .iastore, 1, 0, 0, 0, []), (44, .aload_n 0, 1, 0, 0, 0, []), (45, .dup, 1, 0, 0, 0, []), (46, .getfield 84, 3, 7, 9, 0, []), (49, .iconst 1, 1, 0, 0, 0, []), (50, .iadd, 1, 0, 0, 0, []), (51, .putfield 84, 3, 7, 9, 0, []), (54, .aload_n 0, 1, 0, 0, 0, []), (55, .getfield 84, 3, 7, 9, 0, [])]
def s56_10 : List Ent := [(58, .ireturn, 1, 0, 0, 0, [])]
def sg56 : List (List Ent) := [s56_0, s56_1, s56_2, s56_3, s56_4, s56_5, s56_6, s56_7, s56_8, s56_9, s56_10]
theorem ch56 : chkM mi56.2.1 mi56.2.2.1 mi56.2.2.2 lkRX7 sg56 = true := by decide +kernel
def s57_0 : List Ent := [(0, .iload_n 1, 1, 0, 0, 0, [])]
def s57_1 : List Ent := [(1, .invokestatic 88, 3, 101, 1, 0, [])]
def s57_2 : List Ent := [(4, .ifCond .ne 10, 3, 14, 0, 0, [])]
def s57_3 : List Ent := [(7, .aload_n 0, 1, 0, 0, 0, []), (8, .bipush (-2), 2, 0, 0, 0, [])]
def s57_4 : List Ent := [(10, .invokevirtual 80, 3, 96, 1, 7, [])]
def s57_5 : List Ent := [(13, .ireturn, 1, 0, 0, 0, [])]
def s57_6 : List Ent := [(14, .aload_n 0, 1, 0, 0, 0, []), (15, .getfield 10, 3, 7, 0, 2, []), (18, .getfield 92, 3, 3, 0, 0, []), (21, .bipush 8, 2, 0, 0, 0, []), (23, .if_icmp .lt 10, 3, 33, 0, 0, [])]
def s57_7 : List Ent := [(26, .aload_n 0, 1, 0, 0, 0, []), (27, .bipush (-6), 2, 0, 0, 0, [])]
def s57_8 : List Ent := [(29, .invokevirtual 80, 3, 96, 1, 7, [])]
def s57_9 : List Ent := [(32, .ireturn, 1, 0, 0, 0, [])]
def s57_10 : List Ent := [(33, .aload_n 0, 1, 0, 0, 0, []), (34, .getfield 10, 3, 7, 0, 2, []), (37, .iload_n 1, 1, 0, 0, 0, [])]
def s57_11 : List Ent := [(38, .invokevirtual 95, 3, 12, 1, 3, [])]
def s57_12 : List Ent := [(41, .aload_n 0, 1, 0, 0, 0, []), (42, .getfield 22, 3, 7, 3, 2, [])]
def s57_13 : List Ent := [(45, .invokevirtual 99, 3, 9, 0, 2, [])]
def s57_14 : List Ent := [(48, .aload_n 0, 1, 0, 0, 0, []), (49, .getfield 29, 3, 7, 4, 2, []), (52, .aload_n 0, 1, 0, 0, 0, []), (53, .getfield 10, 3, 7, 0, 2, [])]
def s57_15 : List Ent := [(56, .invokevirtual 102, 3, 48, 1, 6, [])]
def s57_16 : List Ent := [(59, .aload_n 0, 1, 0, 0, 0, []), (60, .getfield 10, 3, 7, 0, 2, []), (63, .getfield 92, 3, 3, 0, 0, []), (66, .iconst 1, 1, 0, 0, 0, []), (67, .isub, 1, 0, 0, 0, [])]
def s57_17 : List Ent := [(68, .ireturn, 1, 0, 0, 0, [])]
def sg57 : List (List Ent) := [s57_0, s57_1, s57_2, s57_3, s57_4, s57_5, s57_6, s57_7, s57_8, s57_9, s57_10, s57_11, s57_12, s57_13, s57_14, s57_15, s57_16, s57_17]
theorem ch57 : chkM mi57.2.1 mi57.2.2.1 mi57.2.2.2 lkRX7 sg57 = true := by decide +kernel
def s58_0 : List Ent := [(0, .aload_n 0, 1, 0, 0, 0, []), (1, .iload_n 1, 1, 0, 0, 0, [])]
def s58_1 : List Ent := [(2, .invokevirtual 106, 3, 99, 1, 7, [])]
def s58_2 : List Ent := [(5, .ifCond .eq 10, 3, 15, 0, 0, [])]
def s58_3 : List Ent := [(8, .iload_n 2, 1, 0, 0, 0, [])]
def s58_4 : List Ent := [(9, .invokestatic 109, 3, 100, 1, 0, [])]
def s58_5 : List Ent := [(12, .ifCond .ne 9, 3, 21, 0, 0, [])]
def s58_6 : List Ent := [(15, .aload_n 0, 1, 0, 0, 0, []), (16, .iconst (-1), 1, 0, 0, 0, [])]
def s58_7 : List Ent := [(17, .invokevirtual 112, 3, 97, 1, 7, [])]
def s58_8 : List Ent := [(20, .ireturn, 1, 0, 0, 0, [])]
def s58_9 : List Ent := [(21, .iload_n 3, 1, 0, 0, 0, []), (22, .bipush (-9), 2, 0, 0, 0, []), (24, .if_icmp .ge 10, 3, 34, 0, 0, [])]
def s58_10 : List Ent := [(27, .aload_n 0, 1, 0, 0, 0, []), (28, .bipush (-4), 2, 0, 0, 0, [])]
def s58_11 : List Ent := [(30, .invokevirtual 112, 3, 97, 1, 7, [])]
def s58_12 : List Ent := [(33, .ireturn, 1, 0, 0, 0, [])]
def s58_13 : List Ent := [(34, .iload_n 3, 1, 0, 0, 0, []), (35, .bipush 9, 2, 0, 0, 0, []), (37, .if_icmp .le 10, 3, 47, 0, 0, [])]
def s58_14 : List Ent := [(40, .aload_n 0, 1, 0, 0, 0, []), (41, .bipush (-6), 2, 0, 0, 0, [])]
def s58_15 : List Ent := [(43, .invokevirtual 112, 3, 97, 1, 7, [])]
def s58_16 : List Ent := [(46, .ireturn, 1, 0, 0, 0, [])]
def s58_17 : List Ent := [(47, .aload_n 0, 1, 0, 0, 0, []), (48, .getfield 10, 3, 7, 0, 2, []), (51, .getfield 115, 3, 3, 2, 2, []), (54, .iload_n 1, 1, 0, 0, 0, []), (55, .aaload, 1, 0, 0, 0, []), (56, .iload_n 2, 1, 0, 0, 0, []), (57, .iaload, 1, 0, 0, 0, []), (58, .istore 4, 2, 0, 0, 0, []), (60, .aload_n 0, 1, 0, 0, 0, []), (61, .getfield 22, 3, 7, 3, 2, []), (64, .iconst 0, 1, 0, 0, 0, []), (65, .iload_n 1, 1, 0, 0, 0, []), (66, .iload_n 2, 1, 0, 0, 0, []), (67, .iload 4, 2, 0, 0, 0, [])]
def s58_18 : List Ent := [(69, .invokevirtual 118, 3, 8, 4, 2, [])]
def s58_19 : List Ent := [(72, .aload_n 0, 1, 0, 0, 0, []), (73, .getfield 10, 3, 7, 0, 2, []), (76, .getfield 115, 3, 3, 2, 2, []), (79, .iload_n 1, 1, 0, 0, 0, []), (80, .aaload, 1, 0, 0, 0, []), (81, .iload_n 2, 1, 0, 0, 0, []), (82, .iload_n 3, 1, 0, 0, 0, []), (83, .iastore, 1, 0, 0, 0, []), (84, .aload_n 0, 1, 0, 0, 0, []), (85, .getfield 29, 3, 7, 4, 2, []), (88, .aload_n 0, 1, 0, 0, 0, []), (89, .getfield 10, 3, 7, 0, 2, [])]
def s58_20 : List Ent := [(92, .invokevirtual 102, 3, 48, 1, 6, [])]
def s58_21 : List Ent := [(95, .iload 4, 2, 0, 0, 0, [])]
def s58_22 : List Ent := [(97, .ireturn, 1, 0, 0, 0, [])]
def sg58 : List (List Ent) := [s58_0, s58_1, s58_2, s58_3, s58_4, s58_5, s58_6, s58_7, s58_8, s58_9, s58_10, s58_11, s58_12, s58_13, s58_14, s58_15, s58_16, s58_17, s58_18, s58_19, s58_20, s58_21, s58_22]
theorem ch58 : chkM mi58.2.1 mi58.2.2.1 mi58.2.2.2 lkRX7 sg58 = true := by decide +kernel
def s59_0 : List Ent := [(0, .aload_n 0, 1, 0, 0, 0, []), (1, .iload_n 1, 1, 0, 0, 0, [])]
def s59_1 : List Ent := [(2, .invokevirtual 106, 3, 99, 1, 7, [])]
def s59_2 : List Ent := [(5, .ifCond .ne 9, 3, 14, 0, 0, [])]
def s59_3 : List Ent := [(8, .aload_n 0, 1, 0, 0, 0, []), (9, .iconst (-1), 1, 0, 0, 0, [])]
def s59_4 : List Ent := [(10, .invokevirtual 80, 3, 96, 1, 7, [])]
def s59_5 : List Ent := [(13, .ireturn, 1, 0, 0, 0, [])]
def s59_6 : List Ent := [(14, .iload_n 2, 1, 0, 0, 0, [])]
def s59_7 : List Ent := [(15, .invokestatic 88, 3, 101, 1, 0, [])]
def s59_8 : List Ent := [(18, .ifCond .ne 10, 3, 28, 0, 0, [])]
def s59_9 : List Ent := [(21, .aload_n 0, 1, 0, 0, 0, []), (22, .bipush (-2), 2, 0, 0, 0, [])]
def s59_10 : List Ent := [(24, .invokevirtual 80, 3, 96, 1, 7, [])]
def s59_11 : List Ent := [(27, .ireturn, 1, 0, 0, 0, [])]
def s59_12 : List Ent := [(28, .aload_n 0, 1, 0, 0, 0, []), (29, .getfield 10, 3, 7, 0, 2, []), (32, .getfield 122, 3, 3, 1, 2, []), (35, .iload_n 1, 1, 0, 0, 0, []), (36, .iaload, 1, 0, 0, 0, []), (37, .istore_n 3, 1, 0, 0, 0, []), (38, .aload_n 0, 1, 0, 0, 0, []), (39, .getfield 22, 3, 7, 3, 2, []), (42, .iconst 1, 1, 0, 0, 0, []), (43, .iload_n 1, 1, 0, 0, 0, []), (44, .iload_n 3, 1, 0, 0, 0, []), (45, .iconst 0, 1, 0, 0, 0, [])]
def s59_13 : List Ent := [(46, .invokevirtual 118, 3, 8, 4, 2, [])]
def s59_14 : List Ent := [(49, .aload_n 0, 1, 0, 0, 0, []), (50, .getfield 10, 3, 7, 0, 2, []), (53, .getfield 122, 3, 3, 1, 2, []), (56, .iload_n 1, 1, 0, 0, 0, []), (57, .iload_n 2, 1, 0, 0, 0, []), (58, .iastore, 1, 0, 0, 0, []), (59, .aload_n 0, 1, 0, 0, 0, []), (60, .getfield 29, 3, 7, 4, 2, []), (63, .aload_n 0, 1, 0, 0, 0, []), (64, .getfield 10, 3, 7, 0, 2, [])]
def s59_15 : List Ent := [(67, .invokevirtual 102, 3, 48, 1, 6, [])]
def s59_16 : List Ent := [(70, .iload_n 3, 1, 0, 0, 0, [])]
def s59_17 : List Ent := [(71, .ireturn, 1, 0, 0, 0, [])]
def sg59 : List (List Ent) := [s59_0, s59_1, s59_2, s59_3, s59_4, s59_5, s59_6, s59_7, s59_8, s59_9, s59_10, s59_11, s59_12, s59_13, s59_14, s59_15, s59_16, s59_17]
theorem ch59 : chkM mi59.2.1 mi59.2.2.1 mi59.2.2.2 lkRX7 sg59 = true := by decide +kernel
end
section
def s60_0 : List Ent := [(0, .aload_n 0, 1, 0, 0, 0, []), (1, .iload_n 1, 1, 0, 0, 0, [])]
def s60_1 : List Ent := [(2, .invokevirtual 106, 3, 99, 1, 7, [])]
def s60_2 : List Ent := [(5, .ifCond .ne 9, 3, 14, 0, 0, [])]
def s60_3 : List Ent := [(8, .aload_n 0, 1, 0, 0, 0, []), (9, .iconst (-1), 1, 0, 0, 0, [])]
def s60_4 : List Ent := [(10, .invokevirtual 112, 3, 97, 1, 7, [])]
def s60_5 : List Ent := [(13, .ireturn, 1, 0, 0, 0, [])]
def s60_6 : List Ent := [(14, .iload_n 2, 1, 0, 0, 0, []), (15, .ifCond .ne 13, 3, 28, 0, 0, [])]
def s60_7 : List Ent := [(18, .aload_n 0, 1, 0, 0, 0, []), (19, .getfield 10, 3, 7, 0, 2, []), (22, .getfield 122, 3, 3, 1, 2, []), (25, .iload_n 1, 1, 0, 0, 0, []), (26, .iaload, 1, 0, 0, 0, [])]
def s60_8 : List Ent := [(27, .ireturn, 1, 0, 0, 0, [])]
def s60_9 : List Ent := [(28, .iload_n 2, 1, 0, 0, 0, []), (29, .iconst 1, 1, 0, 0, 0, []), (30, .if_icmp .ne 15, 3, 45, 0, 0, [])]
def s60_10 : List Ent := [(33, .aload_n 0, 1, 0, 0, 0, []), (34, .getfield 29, 3, 7, 4, 2, [])]
def s60_11 : List Ent := [(37, .invokevirtual 125, 3, 51, 0, 6, [])]
def s60_12 : List Ent := [(40, .iload_n 1, 1, 0, 0, 0, [])]
def s60_13 : List Ent := [(41, .invokestatic 129, 3, 112, 2, 0, [])]
def s60_14 : List Ent := [(44, .ireturn, 1, 0, 0, 0, [])]
def s60_15 : List Ent := [(45, .iload_n 2, 1, 0, 0, 0, []), (46, .iconst 2, 1, 0, 0, 0, []), (47, .if_icmp .ne 24, 3, 71, 0, 0, [])]
def s60_16 : List Ent := [(50, .aload_n 0, 1, 0, 0, 0, []), (51, .getfield 29, 3, 7, 4, 2, []), (54, .getfield 133, 3, 6, 2, 2, []), (57, .iload_n 1, 1, 0, 0, 0, []), (58, .aaload, 1, 0, 0, 0, [])]
def s60_17 : List Ent := [(59, .invokestatic 136, 3, 114, 1, 0, [])]
def s60_18 : List Ent := [(62, .ifCond .eq 7, 3, 69, 0, 0, [])]
def s60_19 : List Ent := [(65, .iconst 1, 1, 0, 0, 0, []), (66, .goto 4, 3, 70, 0, 0, [])]
def s60_20 : List Ent := [(69, .iconst 0, 1, 0, 0, 0, [])]
def s60_21 : List Ent := [(70, .ireturn, 1, 0, 0, 0, [])]
def s60_22 : List Ent := [(71, .iload_n 2, 1, 0, 0, 0, []), (72, .bipush 10, 2, 0, 0, 0, []), (74, .if_icmp .lt 28, 3, 102, 0, 0, [])]
def s60_23 : List Ent := [(77, .iload_n 2, 1, 0, 0, 0, []), (78, .bipush 10, 2, 0, 0, 0, []), (80, .isub, 1, 0, 0, 0, [])]
def s60_24 : List Ent := [(81, .invokestatic 109, 3, 100, 1, 0, [])]
def s60_25 : List Ent := [(84, .ifCond .eq 18, 3, 102, 0, 0, [])]
def s60_26 : List Ent := [(87, .aload_n 0, 1, 0, 0, 0, []), (88, .getfield 10, 3, 7, 0, 2, []), (91, .getfield 115, 3, 3, 2, 2, []), (94, .iload_n 1, 1, 0, 0, 0, []), (95, .aaload, 1, 0, 0, 0, []), (96, .iload_n 2, 1, 0, 0, 0, []), (97, .bipush 10, 2, 0, 0, 0, []), (99, .isub, 1, 0, 0, 0, []), (100, .iaload, 1, 0, 0, 0, [])]
def s60_27 : List Ent := [(101, .ireturn, 1, 0, 0, 0, [])]
def s60_28 : List Ent := [(102, .iload_n 2, 1, 0, 0, 0, []), (103, .bipush 20, 2, 0, 0, 0, []), (105, .if_icmp .lt 28, 3, 133, 0, 0, [])]
def s60_29 : List Ent := [(108, .iload_n 2, 1, 0, 0, 0, []), (109, .bipush 20, 2, 0, 0, 0, []), (111, .isub, 1, 0, 0, 0, [])]
def s60_30 : List Ent := [(112, .invokestatic 109, 3, 100, 1, 0, [])]
def s60_31 : List Ent := [(115, .ifCond .eq 18, 3, 133, 0, 0, [])]
def s60_32 : List Ent := [(118, .aload_n 0, 1, 0, 0, 0, []), (119, .getfield 29, 3, 7, 4, 2, []), (122, .getfield 133, 3, 6, 2, 2, []), (125, .iload_n 1, 1, 0, 0, 0, []), (126, .aaload, 1, 0, 0, 0, []), (127, .iload_n 2, 1, 0, 0, 0, []), (128, .bipush 20, 2, 0, 0, 0, []), (130, .isub, 1, 0, 0, 0, []), (131, .iaload, 1, 0, 0, 0, [])]
def s60_33 : List Ent := [(132, .ireturn, 1, 0, 0, 0, [])]
def s60_34 : List Ent := [(133, .aload_n 0, 1, 0, 0, 0, []), (134, .bipush (-2), 2, 0, 0, 0, [])]
def s60_35 : List Ent := [(136, .invokevirtual 112, 3, 97, 1, 7, [])]
def s60_36 : List Ent := [(139, .ireturn, 1, 0, 0, 0, [])]
def sg60 : List (List Ent) := [s60_0, s60_1, s60_2, s60_3, s60_4, s60_5, s60_6, s60_7, s60_8, s60_9, s60_10, s60_11, s60_12, s60_13, s60_14, s60_15, s60_16, s60_17, s60_18, s60_19, s60_20, s60_21, s60_22, s60_23, s60_24, s60_25, s60_26, s60_27, s60_28, s60_29, s60_30, s60_31, s60_32, s60_33, s60_34, s60_35, s60_36]
theorem ch60 : chkM mi60.2.1 mi60.2.2.1 mi60.2.2.2 lkRX7 sg60 = true := by decide +kernel
def s61_0 : List Ent := [(0, .aload_n 0, 1, 0, 0, 0, []), (1, .iload_n 1, 1, 0, 0, 0, [])]
def s61_1 : List Ent := [(2, .invokevirtual 106, 3, 99, 1, 7, [])]
def s61_2 : List Ent := [(5, .ifCond .ne 9, 3, 14, 0, 0, [])]
def s61_3 : List Ent := [(8, .aload_n 0, 1, 0, 0, 0, []), (9, .iconst (-1), 1, 0, 0, 0, [])]
def s61_4 : List Ent := [(10, .invokevirtual 80, 3, 96, 1, 7, [])]
def s61_5 : List Ent := [(13, .ireturn, 1, 0, 0, 0, [])]
def s61_6 : List Ent := [(14, .iconst 0, 1, 0, 0, 0, []), (15, .istore_n 2, 1, 0, 0, 0, [])]
def s61_7 : List Ent := [(16, .iload_n 2, 1, 0, 0, 0, []), (17, .aload_n 0, 1, 0, 0, 0, []), (18, .getfield 29, 3, 7, 4, 2, []), (21, .getfield 140, 3, 6, 0, 0, []), (24, .if_icmp .ge 38, 3, 62, 0, 0, [])]
def s61_8 : List Ent := [(27, .iload_n 2, 1, 0, 0, 0, []), (28, .iload_n 1, 1, 0, 0, 0, []), (29, .if_icmp .eq 27, 3, 56, 0, 0, [])]
def s61_9 : List Ent := [(32, .aload_n 0, 1, 0, 0, 0, []), (33, .getfield 29, 3, 7, 4, 2, []), (36, .getfield 141, 3, 6, 3, 2, []), (39, .iload_n 2, 1, 0, 0, 0, []), (40, .laload, 1, 0, 0, 0, []), (41, .aload_n 0, 1, 0, 0, 0, []), (42, .getfield 29, 3, 7, 4, 2, []), (45, .getfield 141, 3, 6, 3, 2, []), (48, .iload_n 1, 1, 0, 0, 0, []), (49, .laload, 1, 0, 0, 0, []), (50, .lcmp, 1, 0, 0, 0, []), (51, .ifCond .ne 5, 3, 56, 0, 0, [])]
def s61_10 : List Ent := [(54, .iload_n 2, 1, 0, 0, 0, [])]
def s61_11 : List Ent := [(55, .ireturn, 1, 0, 0, 0, [])]
def s61_12 : List Ent := [(56, .iinc 2 1, 3, 0, 0, 0, []), (59, .goto (-43), 3, 16, 0, 0, [])]
def s61_13 : List Ent := [(62, .bipush (-9), 2, 0, 0, 0, [])]
def s61_14 : List Ent := [(64, .ireturn, 1, 0, 0, 0, [])]
def sg61 : List (List Ent) := [s61_0, s61_1, s61_2, s61_3, s61_4, s61_5, s61_6, s61_7, s61_8, s61_9, s61_10, s61_11, s61_12, s61_13, s61_14]
theorem ch61 : chkM mi61.2.1 mi61.2.2.1 mi61.2.2.2 lkRX7 sg61 = true := by decide +kernel
def s62_0 : List Ent := [(0, .aload_n 0, 1, 0, 0, 0, []), (1, .iload_n 1, 1, 0, 0, 0, [])]
def s62_1 : List Ent := [(2, .invokevirtual 106, 3, 99, 1, 7, [])]
def s62_2 : List Ent := [(5, .ifCond .ne 9, 3, 14, 0, 0, [])]
def s62_3 : List Ent := [(8, .aload_n 0, 1, 0, 0, 0, []), (9, .iconst (-1), 1, 0, 0, 0, [])]
def s62_4 : List Ent := [(10, .invokevirtual 80, 3, 96, 1, 7, [])]
def s62_5 : List Ent := [(13, .ireturn, 1, 0, 0, 0, [])]
def s62_6 : List Ent := [(14, .iload_n 2, 1, 0, 0, 0, [])]
def s62_7 : List Ent := [(15, .invokestatic 88, 3, 101, 1, 0, [])]
def s62_8 : List Ent := [(18, .ifCond .ne 10, 3, 28, 0, 0, [])]
def s62_9 : List Ent := [(21, .aload_n 0, 1, 0, 0, 0, []), (22, .bipush (-2), 2, 0, 0, 0, [])]
def s62_10 : List Ent := [(24, .invokevirtual 80, 3, 96, 1, 7, [])]
def s62_11 : List Ent := [(27, .ireturn, 1, 0, 0, 0, [])]
def s62_12 : List Ent := [(28, .aload_n 0, 1, 0, 0, 0, []), (29, .getfield 10, 3, 7, 0, 2, []), (32, .getfield 122, 3, 3, 1, 2, []), (35, .iload_n 1, 1, 0, 0, 0, []), (36, .iaload, 1, 0, 0, 0, []), (37, .istore_n 3, 1, 0, 0, 0, []), (38, .iconst 0, 1, 0, 0, 0, []), (39, .istore 4, 2, 0, 0, 0, [])]
def s62_13 : List Ent := [(41, .iload 4, 2, 0, 0, 0, []), (43, .bipush 6, 2, 0, 0, 0, []), (45, .if_icmp .ge 37, 3, 82, 0, 0, [])]
def s62_14 : List Ent := [(48, .iload_n 3, 1, 0, 0, 0, [])]
def s62_15 : List Ent := [(49, .invokestatic 88, 3, 101, 1, 0, [])]
def s62_16 : List Ent := [(52, .ifCond .eq 30, 3, 82, 0, 0, [])]
def s62_17 : List Ent := [(55, .iload_n 3, 1, 0, 0, 0, []), (56, .iload_n 2, 1, 0, 0, 0, []), (57, .if_icmp .ne 13, 3, 70, 0, 0, [])]
def s62_18 : List Ent := [(60, .aload_n 0, 1, 0, 0, 0, []), (61, .getfield 10, 3, 7, 0, 2, []), (64, .getfield 122, 3, 3, 1, 2, []), (67, .iload_n 1, 1, 0, 0, 0, []), (68, .iaload, 1, 0, 0, 0, [])]
def s62_19 : List Ent := [(69, .ireturn, 1, 0, 0, 0, [])]
def s62_20 : List Ent := [(70, .getstatic 145, 3, 1000, 0, 0, []), (73, .iload_n 3, 1, 0, 0, 0, []), (74, .iaload, 1, 0, 0, 1, []), (75, .istore_n 3, 1, 0, 0, 0, []), (76, .iinc 4 1, 3, 0, 0, 0, []), (79, .goto (-38), 3, 41, 0, 0, [])]
def s62_21 : List Ent := [(82, .bipush (-16), 2, 0, 0, 0, [])]
def s62_22 : List Ent := [(84, .ireturn, 1, 0, 0, 0, [])]
def sg62 : List (List Ent) := [s62_0, s62_1, s62_2, s62_3, s62_4, s62_5, s62_6, s62_7, s62_8, s62_9, s62_10, s62_11, s62_12, s62_13, s62_14, s62_15, s62_16, s62_17, s62_18, s62_19, s62_20, s62_21, s62_22]
theorem ch62 : chkM mi62.2.1 mi62.2.2.1 mi62.2.2.2 lkRX7 sg62 = true := by decide +kernel
def s63_0 : List Ent := [(0, .iload_n 1, 1, 0, 0, 0, []), (1, .ifCond .ne 14, 3, 15, 0, 0, [])]
def s63_1 : List Ent := [(4, .aload_n 0, 1, 0, 0, 0, []), (5, .getfield 29, 3, 7, 4, 2, []), (8, .getfield 148, 3, 6, 4, 2, []), (11, .getfield 152, 3, 1, 3, 0, [])]
def s63_2 : List Ent := [(14, .ireturn, 1, 0, 0, 0, [])]
def s63_3 : List Ent := [(15, .iload_n 1, 1, 0, 0, 0, []), (16, .iconst 1, 1, 0, 0, 0, []), (17, .if_icmp .ne 22, 3, 39, 0, 0, [])]
def s63_4 : List Ent := [(20, .aload_n 0, 1, 0, 0, 0, []), (21, .getfield 29, 3, 7, 4, 2, []), (24, .getfield 140, 3, 6, 0, 0, []), (27, .aload_n 0, 1, 0, 0, 0, []), (28, .getfield 29, 3, 7, 4, 2, []), (31, .getfield 148, 3, 6, 4, 2, []), (34, .getfield 152, 3, 1, 3, 0, []), (37, .isub, 1, 0, 0, 0, [])]
def s63_5 : List Ent := [(38, .ireturn, 1, 0, 0, 0, [])]
def s63_6 : List Ent := [(39, .iload_n 1, 1, 0, 0, 0, []), (40, .iconst 2, 1, 0, 0, 0, []), (41, .if_icmp .ne 11, 3, 52, 0, 0, [])]
def s63_7 : List Ent := [(44, .aload_n 0, 1, 0, 0, 0, []), (45, .getfield 29, 3, 7, 4, 2, [])]
def s63_8 : List Ent := [(48, .invokevirtual 125, 3, 51, 0, 6, [])]
def s63_9 : List Ent := [(51, .ireturn, 1, 0, 0, 0, [])]
def s63_10 : List Ent := [(52, .iload_n 1, 1, 0, 0, 0, []), (53, .iconst 3, 1, 0, 0, 0, []), (54, .if_icmp .ne 13, 3, 67, 0, 0, [])]
def s63_11 : List Ent := [(57, .aload_n 0, 1, 0, 0, 0, []), (58, .getfield 29, 3, 7, 4, 2, [])]
def s63_12 : List Ent := [(61, .invokevirtual 157, 3, 53, 0, 6, [])]
def s63_13 : List Ent := [(64, .goto 9, 3, 73, 0, 0, [])]
def s63_14 : List Ent := [(67, .aload_n 0, 1, 0, 0, 0, []), (68, .bipush (-2), 2, 0, 0, 0, [])]
def s63_15 : List Ent := [(70, .invokevirtual 80, 3, 96, 1, 7, [])]
def s63_16 : List Ent := [(73, .ireturn, 1, 0, 0, 0, [])]
def sg63 : List (List Ent) := [s63_0, s63_1, s63_2, s63_3, s63_4, s63_5, s63_6, s63_7, s63_8, s63_9, s63_10, s63_11, s63_12, s63_13, s63_14, s63_15, s63_16]
theorem ch63 : chkM mi63.2.1 mi63.2.2.1 mi63.2.2.2 lkRX7 sg63 = true := by decide +kernel
def s64_0 : List Ent := [(0, .aload_n 0, 1, 0, 0, 0, []), (1, .iload_n 1, 1, 0, 0, 0, [])]
def s64_1 : List Ent := [(2, .invokevirtual 160, 3, 104, 1, 7, [])]
def s64_2 : List Ent := [(5, .ifCond .eq 11, 3, 16, 0, 0, [])]
def s64_3 : List Ent := [(8, .aload_n 0, 1, 0, 0, 0, []), (9, .iload_n 2, 1, 0, 0, 0, [])]
def s64_4 : List Ent := [(10, .invokevirtual 106, 3, 99, 1, 7, [])]
def s64_5 : List Ent := [(13, .ifCond .ne 9, 3, 22, 0, 0, [])]
def s64_6 : List Ent := [(16, .aload_n 0, 1, 0, 0, 0, []), (17, .iconst (-1), 1, 0, 0, 0, [])]
def s64_7 : List Ent := [(18, .invokevirtual 112, 3, 97, 1, 7, [])]
def s64_8 : List Ent := [(21, .ireturn, 1, 0, 0, 0, [])]
def s64_9 : List Ent := [(22, .aload_n 0, 1, 0, 0, 0, []), (23, .getfield 29, 3, 7, 4, 2, []), (26, .getfield 148, 3, 6, 4, 2, []), (29, .aload_n 0, 1, 0, 0, 0, []), (30, .getfield 29, 3, 7, 4, 2, []), (33, .iload_n 1, 1, 0, 0, 0, [])]
def s64_10 : List Ent := [(34, .invokevirtual 163, 3, 52, 1, 6, [])]
def s64_11 : List Ent := [(37, .aload_n 0, 1, 0, 0, 0, []), (38, .getfield 68, 3, 7, 12, 2, [])]
def s64_12 : List Ent := [(41, .invokevirtual 166, 3, 7, 2, 1, [])]
def s64_13 : List Ent := [(44, .aload_n 0, 1, 0, 0, 0, []), (45, .getfield 68, 3, 7, 12, 2, []), (48, .iload_n 2, 1, 0, 0, 0, []), (49, .iaload, 1, 0, 0, 0, [])]
def s64_14 : List Ent := [(50, .ireturn, 1, 0, 0, 0, [])]
def sg64 : List (List Ent) := [s64_0, s64_1, s64_2, s64_3, s64_4, s64_5, s64_6, s64_7, s64_8, s64_9, s64_10, s64_11, s64_12, s64_13, s64_14]
theorem ch64 : chkM mi64.2.1 mi64.2.2.1 mi64.2.2.2 lkRX7 sg64 = true := by decide +kernel
def s65_0 : List Ent := [(0, .iload_n 1, 1, 0, 0, 0, [])]
def s65_1 : List Ent := [(1, .invokestatic 170, 3, 107, 1, 0, [])]
def s65_2 : List Ent := [(4, .ifCond .ne 9, 3, 13, 0, 0, [])]
def s65_3 : List Ent := [(7, .aload_n 0, 1, 0, 0, 0, []), (8, .iconst (-1), 1, 0, 0, 0, [])]
def s65_4 : List Ent := [(9, .invokevirtual 80, 3, 96, 1, 7, [])]
def s65_5 : List Ent := [(12, .ireturn, 1, 0, 0, 0, [])]
def s65_6 : List Ent := [(13, .aload_n 0, 1, 0, 0, 0, []), (14, .iload_n 1, 1, 0, 0, 0, [])]
def s65_7 : List Ent := [(15, .invokevirtual 173, 3, 108, 1, 7, [])]
def s65_8 : List Ent := [(18, .ifCond .eq 6, 3, 24, 0, 0, [])]
def s65_9 : List Ent := [(21, .bipush (-11), 2, 0, 0, 0, [])]
def s65_10 : List Ent := [(23, .ireturn, 1, 0, 0, 0, [])]
def s65_11 : List Ent := [(24, .aload_n 0, 1, 0, 0, 0, []), (25, .iload_n 1, 1, 0, 0, 0, []), (26, .aload_n 0, 1, 0, 0, 0, []), (27, .getfield 10, 3, 7, 0, 2, []), (30, .getfield 92, 3, 3, 0, 0, []), (33, .aload_n 0, 1, 0, 0, 0, []), (34, .getfield 71, 3, 7, 13, 2, [])]
def s65_12 : List Ent := [(37, .invokevirtual 176, 3, 110, 3, 7, [])]
def s65_13 : List Ent := [(40, .ifCond .ne 10, 3, 50, 0, 0, [])]
def s65_14 : List Ent := [(43, .aload_n 0, 1, 0, 0, 0, []), (44, .bipush (-3), 2, 0, 0, 0, [])]
def s65_15 : List Ent := [(46, .invokevirtual 80, 3, 96, 1, 7, [])]
def s65_16 : List Ent := [(49, .ireturn, 1, 0, 0, 0, [])]
def s65_17 : List Ent := [(50, .aload_n 0, 1, 0, 0, 0, []), (51, .getfield 29, 3, 7, 4, 2, []), (54, .aload_n 0, 1, 0, 0, 0, []), (55, .getfield 71, 3, 7, 13, 2, [])]
def s65_18 : List Ent := [(58, .invokevirtual 180, 3, 54, 1, 6, [])]
def s65_19 : List Ent := [(61, .ifCond .eq 7, 3, 68, 0, 0, [])]
def s65_20 : List Ent := [(64, .iconst 1, 1, 0, 0, 0, []), (65, .goto 4, 3, 69, 0, 0, [])]
def s65_21 : List Ent := [(68, .iconst 0, 1, 0, 0, 0, [])]
def s65_22 : List Ent := [(69, .ireturn, 1, 0, 0, 0, [])]
def sg65 : List (List Ent) := [s65_0, s65_1, s65_2, s65_3, s65_4, s65_5, s65_6, s65_7, s65_8, s65_9, s65_10, s65_11, s65_12, s65_13, s65_14, s65_15, s65_16, s65_17, s65_18, s65_19, s65_20, s65_21, s65_22]
theorem ch65 : chkM mi65.2.1 mi65.2.2.1 mi65.2.2.2 lkRX7 sg65 = true := by decide +kernel
def s66_0 : List Ent := [(0, .iload_n 1, 1, 0, 0, 0, [])]
def s66_1 : List Ent := [(1, .invokestatic 170, 3, 107, 1, 0, [])]
def s66_2 : List Ent := [(4, .ifCond .eq 11, 3, 15, 0, 0, [])]
def s66_3 : List Ent := [(7, .aload_n 0, 1, 0, 0, 0, []), (8, .iload_n 2, 1, 0, 0, 0, [])]
def s66_4 : List Ent := [(9, .invokevirtual 160, 3, 104, 1, 7, [])]
def s66_5 : List Ent := [(12, .ifCond .ne 9, 3, 21, 0, 0, [])]
def s66_6 : List Ent := [(15, .aload_n 0, 1, 0, 0, 0, []), (16, .iconst (-1), 1, 0, 0, 0, [])]
def s66_7 : List Ent := [(17, .invokevirtual 183, 3, 98, 1, 7, [])]
def s66_8 : List Ent := [(20, .lreturn, 1, 0, 0, 0, [])]
def s66_9 : List Ent := [(21, .iload_n 3, 1, 0, 0, 0, [])]
def s66_10 : List Ent := [(22, .invokestatic 187, 3, 102, 1, 0, [])]
def s66_11 : List Ent := [(25, .ifCond .ne 10, 3, 35, 0, 0, [])]
def s66_12 : List Ent := [(28, .aload_n 0, 1, 0, 0, 0, []), (29, .bipush (-2), 2, 0, 0, 0, [])]
def s66_13 : List Ent := [(31, .invokevirtual 183, 3, 98, 1, 7, [])]
def s66_14 : List Ent := [(34, .lreturn, 1, 0, 0, 0, [])]
def s66_15 : List Ent := [(35, .aload_n 0, 1, 0, 0, 0, []), (36, .iload_n 1, 1, 0, 0, 0, [])]
def s66_16 : List Ent := [(37, .invokevirtual 173, 3, 108, 1, 7, [])]
def s66_17 : List Ent := [(40, .ifCond .eq 10, 3, 50, 0, 0, [])]
def s66_18 : List Ent := [(43, .aload_n 0, 1, 0, 0, 0, []), (44, .bipush (-11), 2, 0, 0, 0, [])]
def s66_19 : List Ent := [(46, .invokevirtual 183, 3, 98, 1, 7, [])]
def s66_20 : List Ent := [(49, .lreturn, 1, 0, 0, 0, [])]
def s66_21 : List Ent := [(50, .aload_n 0, 1, 0, 0, 0, []), (51, .iload_n 1, 1, 0, 0, 0, []), (52, .aload_n 0, 1, 0, 0, 0, []), (53, .getfield 10, 3, 7, 0, 2, []), (56, .getfield 92, 3, 3, 0, 0, []), (59, .aload_n 0, 1, 0, 0, 0, []), (60, .getfield 71, 3, 7, 13, 2, [])]
def s66_22 : List Ent := [(63, .invokevirtual 176, 3, 110, 3, 7, [])]
def s66_23 : List Ent := [(66, .ifCond .eq 17, 3, 83, 0, 0, [])]
def s66_24 : List Ent := [(69, .aload_n 0, 1, 0, 0, 0, []), (70, .getfield 29, 3, 7, 4, 2, []), (73, .aload_n 0, 1, 0, 0, 0, []), (74, .getfield 71, 3, 7, 13, 2, [])]
def s66_25 : List Ent := [(77, .invokevirtual 180, 3, 54, 1, 6, [])]
def s66_26 : List Ent := [(80, .ifCond .ne 10, 3, 90, 0, 0, [])]
def s66_27 : List Ent := [(83, .aload_n 0, 1, 0, 0, 0, []), (84, .bipush (-3), 2, 0, 0, 0, [])]
def s66_28 : List Ent := [(86, .invokevirtual 183, 3, 98, 1, 7, [])]
def s66_29 : List Ent := [(89, .lreturn, 1, 0, 0, 0, [])]
def s66_30 : List Ent := [(90, .aload_n 0, 1, 0, 0, 0, []), (91, .getfield 29, 3, 7, 4, 2, []), (94, .iload_n 2, 1, 0, 0, 0, [])]
def s66_31 : List Ent := [(95, .invokevirtual 163, 3, 52, 1, 6, [])]
def s66_32 : List Ent := [(98, .istore 4, 2, 0, 0, 0, []), (100, .aload_n 0, 1, 0, 0, 0, []), (101, .getfield 29, 3, 7, 4, 2, []), (104, .getfield 148, 3, 6, 4, 2, []), (107, .iload 4, 2, 0, 0, 0, []), (109, .aload_n 0, 1, 0, 0, 0, []), (110, .getfield 68, 3, 7, 12, 2, [])]
def s66_33 : List Ent := [(113, .invokevirtual 166, 3, 7, 2, 1, [])]
def s66_34 : List Ent := [(116, .aload_n 0, 1, 0, 0, 0, []), (117, .getfield 71, 3, 7, 13, 2, []), (120, .iload 4, 2, 0, 0, 0, []), (122, .iaload, 1, 0, 0, 0, []), (123, .i2l, 1, 0, 0, 0, []), (124, .aload_n 0, 1, 0, 0, 0, []), (125, .getfield 68, 3, 7, 12, 2, []), (128, .iload 4, 2, 0, 0, 0, []), (130, .iaload, 1, 0, 0, 0, []), (131, .i2l, 1, 0, 0, 0, []), (132, .iload_n 3, 1, 0, 0, 0, [])]
def s66_35 : List Ent := [(133, .invokestatic 190, 3, 116, 3, 0, [])]
def s66_36 : List Ent := [(136, .lreturn, 1, 0, 0, 0, [])]
def sg66 : List (List Ent) := [s66_0, s66_1, s66_2, s66_3, s66_4, s66_5, s66_6, s66_7, s66_8, s66_9, s66_10, s66_11, s66_12, s66_13, s66_14, s66_15, s66_16, s66_17, s66_18, s66_19, s66_20, s66_21, s66_22, s66_23, s66_24, s66_25, s66_26, s66_27, s66_28, s66_29, s66_30, s66_31, s66_32, s66_33, s66_34, s66_35, s66_36]
theorem ch66 : chkM mi66.2.1 mi66.2.2.1 mi66.2.2.2 lkRX7 sg66 = true := by decide +kernel
def s67_0 : List Ent := [(0, .aload_n 0, 1, 0, 0, 0, []), (1, .getfield 45, 3, 7, 6, 2, [])]
def s67_1 : List Ent := [(4, .invokevirtual 194, 3, 38, 0, 5, [])]
def s67_2 : List Ent := [(7, .ireturn, 1, 0, 0, 0, [])]
def sg67 : List (List Ent) := [s67_0, s67_1, s67_2]
theorem ch67 : chkM mi67.2.1 mi67.2.2.1 mi67.2.2.2 lkRX7 sg67 = true := by decide +kernel
def s68_0 : List Ent := [(0, .iload_n 1, 1, 0, 0, 0, []), (1, .iconst (-1), 1, 0, 0, 0, []), (2, .if_icmp .eq 17, 3, 19, 0, 0, [])]
def s68_1 : List Ent := [(5, .aload_n 0, 1, 0, 0, 0, []), (6, .iload_n 1, 1, 0, 0, 0, [])]
def s68_2 : List Ent := [(7, .invokevirtual 106, 3, 99, 1, 7, [])]
def s68_3 : List Ent := [(10, .ifCond .ne 9, 3, 19, 0, 0, [])]
def s68_4 : List Ent := [(13, .aload_n 0, 1, 0, 0, 0, []), (14, .iconst (-1), 1, 0, 0, 0, [])]
def s68_5 : List Ent := [(15, .invokevirtual 112, 3, 97, 1, 7, [])]
def s68_6 : List Ent := [(18, .ireturn, 1, 0, 0, 0, [])]
def s68_7 : List Ent := [(19, .aload_n 0, 1, 0, 0, 0, []), (20, .getfield 45, 3, 7, 6, 2, [])]
def s68_8 : List Ent := [(23, .invokevirtual 197, 3, 40, 0, 5, [])]
def s68_9 : List Ent := [(26, .iload_n 1, 1, 0, 0, 0, []), (27, .iconst (-1), 1, 0, 0, 0, []), (28, .if_icmp .ne 13, 3, 41, 0, 0, [])]
def s68_10 : List Ent := [(31, .aload_n 0, 1, 0, 0, 0, []), (32, .getfield 45, 3, 7, 6, 2, []), (35, .getfield 200, 3, 5, 2, 0, []), (38, .goto 12, 3, 50, 0, 0, [])]
def s68_11 : List Ent := [(41, .aload_n 0, 1, 0, 0, 0, []), (42, .getfield 45, 3, 7, 6, 2, []), (45, .getfield 203, 3, 5, 1, 2, []), (48, .iload_n 1, 1, 0, 0, 0, []), (49, .iaload, 1, 0, 0, 0, [])]
def s68_12 : List Ent := [(50, .ireturn, 1, 0, 0, 0, [])]
def sg68 : List (List Ent) := [s68_0, s68_1, s68_2, s68_3, s68_4, s68_5, s68_6, s68_7, s68_8, s68_9, s68_10, s68_11, s68_12]
theorem ch68 : chkM mi68.2.1 mi68.2.2.1 mi68.2.2.2 lkRX7 sg68 = true := by decide +kernel
def s69_0 : List Ent := [(0, .aload_n 0, 1, 0, 0, 0, []), (1, .iload_n 1, 1, 0, 0, 0, [])]
def s69_1 : List Ent := [(2, .invokevirtual 206, 3, 105, 1, 7, [])]
def s69_2 : List Ent := [(5, .ifCond .ne 9, 3, 14, 0, 0, [])]
def s69_3 : List Ent := [(8, .aload_n 0, 1, 0, 0, 0, []), (9, .iconst (-1), 1, 0, 0, 0, [])]
def s69_4 : List Ent := [(10, .invokevirtual 80, 3, 96, 1, 7, [])]
def s69_5 : List Ent := [(13, .ireturn, 1, 0, 0, 0, [])]
def s69_6 : List Ent := [(14, .aload_n 0, 1, 0, 0, 0, []), (15, .getfield 38, 3, 7, 5, 2, []), (18, .iload_n 1, 1, 0, 0, 0, [])]
def s69_7 : List Ent := [(19, .invokevirtual 209, 3, 0, 1, 0, [])]
def s69_8 : List Ent := [(22, .ifCond .eq 7, 3, 29, 0, 0, [])]
def s69_9 : List Ent := [(25, .iconst 1, 1, 0, 0, 0, []), (26, .goto 4, 3, 30, 0, 0, [])]
def s69_10 : List Ent := [(29, .iconst 0, 1, 0, 0, 0, [])]
def s69_11 : List Ent := [(30, .ireturn, 1, 0, 0, 0, [])]
def sg69 : List (List Ent) := [s69_0, s69_1, s69_2, s69_3, s69_4, s69_5, s69_6, s69_7, s69_8, s69_9, s69_10, s69_11]
theorem ch69 : chkM mi69.2.1 mi69.2.2.1 mi69.2.2.2 lkRX7 sg69 = true := by decide +kernel
def s70_0 : List Ent := [(0, .aload_n 0, 1, 0, 0, 0, []), (1, .iload_n 1, 1, 0, 0, 0, []), (2, .iload_n 2, 1, 0, 0, 0, [])]
def s70_1 : List Ent := [(3, .invokevirtual 212, 3, 106, 2, 7, [])]
def s70_2 : List Ent := [(6, .ifCond .eq 11, 3, 17, 0, 0, [])]
def s70_3 : List Ent := [(9, .aload_n 0, 1, 0, 0, 0, []), (10, .iload_n 3, 1, 0, 0, 0, [])]
def s70_4 : List Ent := [(11, .invokevirtual 106, 3, 99, 1, 7, [])]
def s70_5 : List Ent := [(14, .ifCond .ne 9, 3, 23, 0, 0, [])]
def s70_6 : List Ent := [(17, .aload_n 0, 1, 0, 0, 0, []), (18, .iconst (-1), 1, 0, 0, 0, [])]
def s70_7 : List Ent := [(19, .invokevirtual 112, 3, 97, 1, 7, [])]
def s70_8 : List Ent := [(22, .ireturn, 1, 0, 0, 0, [])]
def s70_9 : List Ent := [(23, .aload_n 0, 1, 0, 0, 0, []), (24, .getfield 38, 3, 7, 5, 2, []), (27, .iload_n 1, 1, 0, 0, 0, [])]
def s70_10 : List Ent := [(28, .invokevirtual 209, 3, 0, 1, 0, [])]
def s70_11 : List Ent := [(31, .ifCond .ne 10, 3, 41, 0, 0, [])]
def s70_12 : List Ent := [(34, .aload_n 0, 1, 0, 0, 0, []), (35, .bipush (-3), 2, 0, 0, 0, [])]
def s70_13 : List Ent := [(37, .invokevirtual 112, 3, 97, 1, 7, [])]
def s70_14 : List Ent := [(40, .ireturn, 1, 0, 0, 0, [])]
def s70_15 : List Ent := [(41, .aload_n 0, 1, 0, 0, 0, []), (42, .getfield 38, 3, 7, 5, 2, []), (45, .getfield 216, 3, 0, 1, 2, []), (48, .iload_n 2, 1, 0, 0, 0, []), (49, .aload_n 0, 1, 0, 0, 0, []), (50, .getfield 68, 3, 7, 12, 2, [])]
def s70_16 : List Ent := [(53, .invokevirtual 166, 3, 7, 2, 1, [])]
def s70_17 : List Ent := [(56, .aload_n 0, 1, 0, 0, 0, []), (57, .getfield 68, 3, 7, 12, 2, []), (60, .iload_n 3, 1, 0, 0, 0, []), (61, .iaload, 1, 0, 0, 0, [])]
def s70_18 : List Ent := [(62, .ireturn, 1, 0, 0, 0, [])]
def sg70 : List (List Ent) := [s70_0, s70_1, s70_2, s70_3, s70_4, s70_5, s70_6, s70_7, s70_8, s70_9, s70_10, s70_11, s70_12, s70_13, s70_14, s70_15, s70_16, s70_17, s70_18]
theorem ch70 : chkM mi70.2.1 mi70.2.2.1 mi70.2.2.2 lkRX7 sg70 = true := by decide +kernel
def s71_0 : List Ent := [(0, .iload_n 1, 1, 0, 0, 0, []), (1, .ifCond .lt 8, 3, 9, 0, 0, [])]
def s71_1 : List Ent := [(4, .iload_n 1, 1, 0, 0, 0, []), (5, .iconst 2, 1, 0, 0, 0, []), (6, .if_icmp .le 10, 3, 16, 0, 0, [])]
def s71_2 : List Ent := [(9, .aload_n 0, 1, 0, 0, 0, []), (10, .bipush (-2), 2, 0, 0, 0, [])]
def s71_3 : List Ent := [(12, .invokevirtual 80, 3, 96, 1, 7, [])]
def s71_4 : List Ent := [(15, .ireturn, 1, 0, 0, 0, [])]
def s71_5 : List Ent := [(16, .aload_n 0, 1, 0, 0, 0, []), (17, .getfield 38, 3, 7, 5, 2, [])]
def s71_6 : List Ent := [(20, .invokevirtual 219, 3, 2, 0, 0, [])]
def s71_7 : List Ent := [(23, .iload_n 1, 1, 0, 0, 0, []), (24, .ifCond .ne 11, 3, 35, 0, 0, [])]
def s71_8 : List Ent := [(27, .aload_n 0, 1, 0, 0, 0, []), (28, .getfield 38, 3, 7, 5, 2, []), (31, .getfield 222, 3, 0, 4, 0, [])]
def s71_9 : List Ent := [(34, .ireturn, 1, 0, 0, 0, [])]
def s71_10 : List Ent := [(35, .iload_n 1, 1, 0, 0, 0, []), (36, .iconst 1, 1, 0, 0, 0, []), (37, .if_icmp .ne 13, 3, 50, 0, 0, [])]
def s71_11 : List Ent := [(40, .aload_n 0, 1, 0, 0, 0, []), (41, .getfield 38, 3, 7, 5, 2, []), (44, .getfield 225, 3, 0, 6, 0, []), (47, .goto 10, 3, 57, 0, 0, [])]
def s71_12 : List Ent := [(50, .aload_n 0, 1, 0, 0, 0, []), (51, .getfield 38, 3, 7, 5, 2, []), (54, .getfield 228, 3, 0, 7, 0, [])]
def s71_13 : List Ent := [(57, .ireturn, 1, 0, 0, 0, [])]
def sg71 : List (List Ent) := [s71_0, s71_1, s71_2, s71_3, s71_4, s71_5, s71_6, s71_7, s71_8, s71_9, s71_10, s71_11, s71_12, s71_13]
theorem ch71 : chkM mi71.2.1 mi71.2.2.1 mi71.2.2.2 lkRX7 sg71 = true := by decide +kernel
def s72_0 : List Ent := [(0, .aload_n 0, 1, 0, 0, 0, []), (1, .iload_n 1, 1, 0, 0, 0, [])]
def s72_1 : List Ent := [(2, .invokevirtual 206, 3, 105, 1, 7, [])]
def s72_2 : List Ent := [(5, .ifCond .ne 9, 3, 14, 0, 0, [])]
def s72_3 : List Ent := [(8, .aload_n 0, 1, 0, 0, 0, []), (9, .iconst (-1), 1, 0, 0, 0, [])]
def s72_4 : List Ent := [(10, .invokevirtual 183, 3, 98, 1, 7, [])]
def s72_5 : List Ent := [(13, .lreturn, 1, 0, 0, 0, [])]
def s72_6 : List Ent := [(14, .aload_n 0, 1, 0, 0, 0, []), (15, .getfield 38, 3, 7, 5, 2, []), (18, .iload_n 1, 1, 0, 0, 0, [])]
def s72_7 : List Ent := [(19, .invokevirtual 209, 3, 0, 1, 0, [])]
def s72_8 : List Ent := [(22, .ifCond .ne 10, 3, 32, 0, 0, [])]
def s72_9 : List Ent := [(25, .aload_n 0, 1, 0, 0, 0, []), (26, .bipush (-3), 2, 0, 0, 0, [])]
def s72_10 : List Ent := [(28, .invokevirtual 183, 3, 98, 1, 7, [])]
def s72_11 : List Ent := [(31, .lreturn, 1, 0, 0, 0, [])]
def s72_12 : List Ent := [(32, .aload_n 0, 1, 0, 0, 0, []), (33, .getfield 38, 3, 7, 5, 2, [])]
def s72_13 : List Ent := [(36, .invokevirtual 231, 3, 1, 0, 0, [])]
def s72_14 : List Ent := [(39, .lreturn, 1, 0, 0, 0, [])]
def sg72 : List (List Ent) := [s72_0, s72_1, s72_2, s72_3, s72_4, s72_5, s72_6, s72_7, s72_8, s72_9, s72_10, s72_11, s72_12, s72_13, s72_14]
theorem ch72 : chkM mi72.2.1 mi72.2.2.1 mi72.2.2.2 lkRX7 sg72 = true := by decide +kernel
def s73_0 : List Ent := [(0, .iload_n 1, 1, 0, 0, 0, [])]
def s73_1 : List Ent := [(1, .invokestatic 187, 3, 102, 1, 0, [])]
def s73_2 : List Ent := [(4, .ifCond .ne 10, 3, 14, 0, 0, [])]
def s73_3 : List Ent := [(7, .aload_n 0, 1, 0, 0, 0, []), (8, .bipush (-2), 2, 0, 0, 0, [])]
def s73_4 : List Ent := [(10, .invokevirtual 183, 3, 98, 1, 7, [])]
def s73_5 : List Ent := [(13, .lreturn, 1, 0, 0, 0, [])]
def s73_6 : List Ent := [(14, .aload_n 0, 1, 0, 0, 0, []), (15, .getfield 38, 3, 7, 5, 2, [])]
def s73_7 : List Ent := [(18, .invokevirtual 219, 3, 2, 0, 0, [])]
def s73_8 : List Ent := [(21, .aload_n 0, 1, 0, 0, 0, []), (22, .getfield 38, 3, 7, 5, 2, []), (25, .getfield 222, 3, 0, 4, 0, []), (28, .i2l, 1, 0, 0, 0, []), (29, .aload_n 0, 1, 0, 0, 0, []), (30, .getfield 38, 3, 7, 5, 2, []), (33, .getfield 235, 3, 0, 5, 0, []), (36, .i2l, 1, 0, 0, 0, []), (37, .iload_n 1, 1, 0, 0, 0, [])]
def s73_9 : List Ent := [(38, .invokestatic 190, 3, 116, 3, 0, [])]
def s73_10 : List Ent := [(41, .lreturn, 1, 0, 0, 0, [])]
def sg73 : List (List Ent) := [s73_0, s73_1, s73_2, s73_3, s73_4, s73_5, s73_6, s73_7, s73_8, s73_9, s73_10]
theorem ch73 : chkM mi73.2.1 mi73.2.2.1 mi73.2.2.2 lkRX7 sg73 = true := by decide +kernel
def s74_0 : List Ent := [(0, .aload_n 0, 1, 0, 0, 0, []), (1, .iload_n 1, 1, 0, 0, 0, [])]
def s74_1 : List Ent := [(2, .invokevirtual 106, 3, 99, 1, 7, [])]
def s74_2 : List Ent := [(5, .ifCond .ne 9, 3, 14, 0, 0, [])]
def s74_3 : List Ent := [(8, .aload_n 0, 1, 0, 0, 0, []), (9, .iconst (-1), 1, 0, 0, 0, [])]
def s74_4 : List Ent := [(10, .invokevirtual 80, 3, 96, 1, 7, [])]
def s74_5 : List Ent := [(13, .ireturn, 1, 0, 0, 0, [])]
def s74_6 : List Ent := [(14, .iload_n 2, 1, 0, 0, 0, []), (15, .ifCond .lt 12, 3, 27, 0, 0, [])]
def s74_7 : List Ent := [(18, .iload_n 2, 1, 0, 0, 0, []), (19, .ifCond .le 15, 3, 34, 0, 0, [])]
def s74_8 : List Ent := [(22, .iload_n 3, 1, 0, 0, 0, []), (23, .iconst 1, 1, 0, 0, 0, []), (24, .if_icmp .ge 10, 3, 34, 0, 0, [])]
def s74_9 : List Ent := [(27, .aload_n 0, 1, 0, 0, 0, []), (28, .bipush (-4), 2, 0, 0, 0, [])]
def s74_10 : List Ent := [(30, .invokevirtual 80, 3, 96, 1, 7, [])]
def s74_11 : List Ent := [(33, .ireturn, 1, 0, 0, 0, [])]
def s74_12 : List Ent := [(34, .iload_n 2, 1, 0, 0, 0, []), (35, .bipush 99, 2, 0, 0, 0, []), (37, .if_icmp .gt 13, 3, 50, 0, 0, [])]
def s74_13 : List Ent := [(40, .iload_n 2, 1, 0, 0, 0, []), (41, .ifCond .le 16, 3, 57, 0, 0, [])]
def s74_14 : List Ent := [(44, .iload_n 3, 1, 0, 0, 0, []), (45, .bipush 99, 2, 0, 0, 0, []), (47, .if_icmp .le 10, 3, 57, 0, 0, [])]
def s74_15 : List Ent := [(50, .aload_n 0, 1, 0, 0, 0, []), (51, .bipush (-6), 2, 0, 0, 0, [])]
def s74_16 : List Ent := [(53, .invokevirtual 80, 3, 96, 1, 7, [])]
def s74_17 : List Ent := [(56, .ireturn, 1, 0, 0, 0, [])]
def s74_18 : List Ent := [(57, .aload_n 0, 1, 0, 0, 0, []), (58, .getfield 22, 3, 7, 3, 2, []), (61, .iconst 2, 1, 0, 0, 0, []), (62, .iload_n 1, 1, 0, 0, 0, []), (63, .aload_n 0, 1, 0, 0, 0, []), (64, .getfield 10, 3, 7, 0, 2, []), (67, .getfield 238, 3, 3, 3, 2, []), (70, .iload_n 1, 1, 0, 0, 0, []), (71, .iaload, 1, 0, 0, 0, []), (72, .aload_n 0, 1, 0, 0, 0, []), (73, .getfield 10, 3, 7, 0, 2, []), (76, .getfield 241, 3, 3, 4, 2, []), (79, .iload_n 1, 1, 0, 0, 0, []), (80, .iaload, 1, 0, 0, 0, [])]
def s74_19 : List Ent := [(81, .invokevirtual 118, 3, 8, 4, 2, [])]
def s74_20 : List Ent := [(84, .aload_n 0, 1, 0, 0, 0, []), (85, .getfield 10, 3, 7, 0, 2, []), (88, .getfield 238, 3, 3, 3, 2, []), (91, .iload_n 1, 1, 0, 0, 0, []), (92, .iload_n 2, 1, 0, 0, 0, []), (93, .iastore, 1, 0, 0, 0, []), (94, .aload_n 0, 1, 0, 0, 0, []), (95, .getfield 10, 3, 7, 0, 2, []), (98, .getfield 241, 3, 3, 4, 2, []), (101, .iload_n 1, 1, 0, 0, 0, []), (102, .iload_n 2, 1, 0, 0, 0, []), (103, .ifCond .ne 7, 3, 110, 0, 0, [])]
def s74_21 : List Ent := [(106, .iconst 1, 1, 0, 0, 0, []), (107, .goto 4, 3, 111, 0, 0, [])]
def s74_22 : List Ent := [(110, .iload_n 3, 1, 0, 0, 0, [])]
def s74_23 : List Ent := [(111, .iastore, 1, 0, 0, 0, []), (112, .iconst 1, 1, 0, 0, 0, [])]
def s74_24 : List Ent := [(113, .ireturn, 1, 0, 0, 0, [])]
def sg74 : List (List Ent) := [s74_0, s74_1, s74_2, s74_3, s74_4, s74_5, s74_6, s74_7, s74_8, s74_9, s74_10, s74_11, s74_12, s74_13, s74_14, s74_15, s74_16, s74_17, s74_18, s74_19, s74_20, s74_21, s74_22, s74_23, s74_24]
theorem ch74 : chkM mi74.2.1 mi74.2.2.1 mi74.2.2.2 lkRX7 sg74 = true := by decide +kernel
def s75_0 : List Ent := [(0, .aload_n 0, 1, 0, 0, 0, []), (1, .iload_n 1, 1, 0, 0, 0, [])]
def s75_1 : List Ent := [(2, .invokevirtual 106, 3, 99, 1, 7, [])]
def s75_2 : List Ent := [(5, .ifCond .ne 9, 3, 14, 0, 0, [])]
def s75_3 : List Ent := [(8, .aload_n 0, 1, 0, 0, 0, []), (9, .iconst (-1), 1, 0, 0, 0, [])]
def s75_4 : List Ent := [(10, .invokevirtual 80, 3, 96, 1, 7, [])]
def s75_5 : List Ent := [(13, .ireturn, 1, 0, 0, 0, [])]
def s75_6 : List Ent := [(14, .iload_n 2, 1, 0, 0, 0, [])]
def s75_7 : List Ent := [(15, .invokestatic 187, 3, 102, 1, 0, [])]
def s75_8 : List Ent := [(18, .ifCond .ne 10, 3, 28, 0, 0, [])]
def s75_9 : List Ent := [(21, .aload_n 0, 1, 0, 0, 0, []), (22, .bipush (-2), 2, 0, 0, 0, [])]
def s75_10 : List Ent := [(24, .invokevirtual 80, 3, 96, 1, 7, [])]
def s75_11 : List Ent := [(27, .ireturn, 1, 0, 0, 0, [])]
def s75_12 : List Ent := [(28, .aload_n 0, 1, 0, 0, 0, []), (29, .getfield 10, 3, 7, 0, 2, []), (32, .iload_n 1, 1, 0, 0, 0, [])]
def s75_13 : List Ent := [(33, .invokevirtual 244, 3, 15, 1, 3, [])]
def s75_14 : List Ent := [(36, .ifCond .ne 6, 3, 42, 0, 0, [])]
def s75_15 : List Ent := [(39, .bipush (-9), 2, 0, 0, 0, [])]
def s75_16 : List Ent := [(41, .ireturn, 1, 0, 0, 0, [])]
def s75_17 : List Ent := [(42, .aload_n 0, 1, 0, 0, 0, []), (43, .getfield 10, 3, 7, 0, 2, []), (46, .getfield 238, 3, 3, 3, 2, []), (49, .iload_n 1, 1, 0, 0, 0, []), (50, .iaload, 1, 0, 0, 0, []), (51, .i2l, 1, 0, 0, 0, []), (52, .aload_n 0, 1, 0, 0, 0, []), (53, .getfield 10, 3, 7, 0, 2, []), (56, .getfield 241, 3, 3, 4, 2, []), (59, .iload_n 1, 1, 0, 0, 0, []), (60, .iaload, 1, 0, 0, 0, []), (61, .i2l, 1, 0, 0, 0, []), (62, .iload_n 2, 1, 0, 0, 0, [])]
def s75_18 : List Ent := [(63, .invokestatic 190, 3, 116, 3, 0, [])]
def s75_19 : List Ent := [(66, .l2i, 1, 0, 0, 0, [])]
def s75_20 : List Ent := [(67, .ireturn, 1, 0, 0, 0, [])]
def sg75 : List (List Ent) := [s75_0, s75_1, s75_2, s75_3, s75_4, s75_5, s75_6, s75_7, s75_8, s75_9, s75_10, s75_11, s75_12, s75_13, s75_14, s75_15, s75_16, s75_17, s75_18, s75_19, s75_20]
theorem ch75 : chkM mi75.2.1 mi75.2.2.1 mi75.2.2.2 lkRX7 sg75 = true := by decide +kernel
def s76_0 : List Ent := [(0, .aload_n 0, 1, 0, 0, 0, []), (1, .getfield 29, 3, 7, 4, 2, []), (4, .getfield 140, 3, 6, 0, 0, []), (7, .aload_n 0, 1, 0, 0, 0, []), (8, .getfield 29, 3, 7, 4, 2, []), (11, .getfield 148, 3, 6, 4, 2, []), (14, .getfield 152, 3, 1, 3, 0, []), (17, .isub, 1, 0, 0, 0, []), (18, .istore_n 1, 1, 0, 0, 0, []), (19, .iconst 0, 1, 0, 0, 0, []), (20, .istore_n 2, 1, 0, 0, 0, [])]
def s76_1 : List Ent := [(21, .iload_n 2, 1, 0, 0, 0, []), (22, .iload_n 1, 1, 0, 0, 0, []), (23, .if_icmp .ge 61, 3, 84, 0, 0, [])]
def s76_2 : List Ent := [(26, .aload_n 0, 1, 0, 0, 0, []), (27, .getfield 29, 3, 7, 4, 2, []), (30, .getfield 148, 3, 6, 4, 2, []), (33, .aload_n 0, 1, 0, 0, 0, []), (34, .getfield 29, 3, 7, 4, 2, []), (37, .iload_n 2, 1, 0, 0, 0, [])]
def s76_3 : List Ent := [(38, .invokevirtual 163, 3, 52, 1, 6, [])]
def s76_4 : List Ent := [(41, .aload_n 0, 1, 0, 0, 0, []), (42, .getfield 68, 3, 7, 12, 2, [])]
def s76_5 : List Ent := [(45, .invokevirtual 166, 3, 7, 2, 1, [])]
def s76_6 : List Ent := [(48, .aload_n 0, 1, 0, 0, 0, []), (49, .getfield 10, 3, 7, 0, 2, []), (52, .aload_n 0, 1, 0, 0, 0, []), (53, .getfield 68, 3, 7, 12, 2, [])]
def s76_7 : List Ent := [(56, .invokestatic 247, 3, 113, 1, 0, [])]
def s76_8 : List Ent := [(59, .invokevirtual 251, 3, 17, 1, 3, [])]
def s76_9 : List Ent := [(62, .ifCond .eq 16, 3, 78, 0, 0, [])]
def s76_10 : List Ent := [(65, .aload_n 0, 1, 0, 0, 0, []), (66, .aload_n 0, 1, 0, 0, 0, []), (67, .getfield 68, 3, 7, 12, 2, [])]
def s76_11 : List Ent := [(70, .invokevirtual 254, 3, 111, 1, 7, [])]
def s76_12 : List Ent := [(73, .ifCond .eq 5, 3, 78, 0, 0, [])]
def s76_13 : List Ent := [(76, .iload_n 2, 1, 0, 0, 0, [])]
def s76_14 : List Ent := [(77, .ireturn, 1, 0, 0, 0, [])]
def s76_15 : List Ent := [(78, .iinc 2 1, 3, 0, 0, 0, []), (81, .goto (-60), 3, 21, 0, 0, [])]
def s76_16 : List Ent := [(84, .bipush (-9), 2, 0, 0, 0, [])]
def s76_17 : List Ent := [(86, .ireturn, 1, 0, 0, 0, [])]
def sg76 : List (List Ent) := [s76_0, s76_1, s76_2, s76_3, s76_4, s76_5, s76_6, s76_7, s76_8, s76_9, s76_10, s76_11, s76_12, s76_13, s76_14, s76_15, s76_16, s76_17]
theorem ch76 : chkM mi76.2.1 mi76.2.2.1 mi76.2.2.2 lkRX7 sg76 = true := by decide +kernel
def s77_0 : List Ent := [(0, .aload_n 0, 1, 0, 0, 0, []), (1, .iload_n 1, 1, 0, 0, 0, []), (2, .iload_n 2, 1, 0, 0, 0, [])]
def s77_1 : List Ent := [(3, .invokevirtual 212, 3, 106, 2, 7, [])]
def s77_2 : List Ent := [(6, .ifCond .ne 9, 3, 15, 0, 0, [])]
def s77_3 : List Ent := [(9, .aload_n 0, 1, 0, 0, 0, []), (10, .iconst (-1), 1, 0, 0, 0, [])]
def s77_4 : List Ent := [(11, .invokevirtual 183, 3, 98, 1, 7, [])]
def s77_5 : List Ent := [(14, .lreturn, 1, 0, 0, 0, [])]
def s77_6 : List Ent := [(15, .iload_n 3, 1, 0, 0, 0, [])]
def s77_7 : List Ent := [(16, .invokestatic 257, 3, 103, 1, 0, [])]
def s77_8 : List Ent := [(19, .ifCond .eq 11, 3, 30, 0, 0, [])]
def s77_9 : List Ent := [(22, .iload 4, 2, 0, 0, 0, [])]
def s77_10 : List Ent := [(24, .invokestatic 187, 3, 102, 1, 0, [])]
def s77_11 : List Ent := [(27, .ifCond .ne 10, 3, 37, 0, 0, [])]
def s77_12 : List Ent := [(30, .aload_n 0, 1, 0, 0, 0, []), (31, .bipush (-2), 2, 0, 0, 0, [])]
def s77_13 : List Ent := [(33, .invokevirtual 183, 3, 98, 1, 7, [])]
def s77_14 : List Ent := [(36, .lreturn, 1, 0, 0, 0, [])]
def s77_15 : List Ent := [(37, .aload_n 0, 1, 0, 0, 0, []), (38, .getfield 38, 3, 7, 5, 2, []), (41, .iload_n 1, 1, 0, 0, 0, [])]
def s77_16 : List Ent := [(42, .invokevirtual 209, 3, 0, 1, 0, [])]
def s77_17 : List Ent := [(45, .ifCond .eq 14, 3, 59, 0, 0, [])]
def s77_18 : List Ent := [(48, .aload_n 0, 1, 0, 0, 0, []), (49, .getfield 10, 3, 7, 0, 2, []), (52, .iload_n 1, 1, 0, 0, 0, [])]
def s77_19 : List Ent := [(53, .invokevirtual 251, 3, 17, 1, 3, [])]
def s77_20 : List Ent := [(56, .ifCond .ne 10, 3, 66, 0, 0, [])]
def s77_21 : List Ent := [(59, .aload_n 0, 1, 0, 0, 0, []), (60, .bipush (-3), 2, 0, 0, 0, [])]
def s77_22 : List Ent := [(62, .invokevirtual 183, 3, 98, 1, 7, [])]
def s77_23 : List Ent := [(65, .lreturn, 1, 0, 0, 0, [])]
def s77_24 : List Ent := [(66, .aload_n 0, 1, 0, 0, 0, []), (67, .getfield 38, 3, 7, 5, 2, []), (70, .getfield 216, 3, 0, 1, 2, []), (73, .iload_n 2, 1, 0, 0, 0, []), (74, .aload_n 0, 1, 0, 0, 0, []), (75, .getfield 68, 3, 7, 12, 2, [])]
def s77_25 : List Ent := [(78, .invokevirtual 166, 3, 7, 2, 1, [])]
def s77_26 : List Ent := [(81, .aload_n 0, 1, 0, 0, 0, []), (82, .getfield 10, 3, 7, 0, 2, []), (85, .aload_n 0, 1, 0, 0, 0, []), (86, .getfield 68, 3, 7, 12, 2, []), (89, .iload_n 1, 1, 0, 0, 0, []), (90, .iload_n 3, 1, 0, 0, 0, [])]
def s77_27 : List Ent := [(91, .invokevirtual 260, 3, 18, 3, 3, [])]
def s77_28 : List Ent := [(94, .lneg, 1, 0, 0, 0, []), (95, .aload_n 0, 1, 0, 0, 0, []), (96, .getfield 68, 3, 7, 12, 2, []), (99, .iload_n 2, 1, 0, 0, 0, []), (100, .iaload, 1, 0, 0, 0, []), (101, .i2l, 1, 0, 0, 0, []), (102, .iload 4, 2, 0, 0, 0, [])]
def s77_29 : List Ent := [(104, .invokestatic 190, 3, 116, 3, 0, [])]
def s77_30 : List Ent := [(107, .lreturn, 1, 0, 0, 0, [])]
def sg77 : List (List Ent) := [s77_0, s77_1, s77_2, s77_3, s77_4, s77_5, s77_6, s77_7, s77_8, s77_9, s77_10, s77_11, s77_12, s77_13, s77_14, s77_15, s77_16, s77_17, s77_18, s77_19, s77_20, s77_21, s77_22, s77_23, s77_24, s77_25, s77_26, s77_27, s77_28, s77_29, s77_30]
theorem ch77 : chkM mi77.2.1 mi77.2.2.1 mi77.2.2.2 lkRX7 sg77 = true := by decide +kernel
def s78_0 : List Ent := [(0, .aload_n 0, 1, 0, 0, 0, []), (1, .iload_n 1, 1, 0, 0, 0, []), (2, .iload_n 2, 1, 0, 0, 0, [])]
def s78_1 : List Ent := [(3, .invokevirtual 212, 3, 106, 2, 7, [])]
def s78_2 : List Ent := [(6, .ifCond .ne 9, 3, 15, 0, 0, [])]
def s78_3 : List Ent := [(9, .aload_n 0, 1, 0, 0, 0, []), (10, .iconst (-1), 1, 0, 0, 0, [])]
def s78_4 : List Ent := [(11, .invokevirtual 80, 3, 96, 1, 7, [])]
def s78_5 : List Ent := [(14, .ireturn, 1, 0, 0, 0, [])]
def s78_6 : List Ent := [(15, .aload_n 0, 1, 0, 0, 0, []), (16, .getfield 38, 3, 7, 5, 2, []), (19, .iload_n 1, 1, 0, 0, 0, [])]
def s78_7 : List Ent := [(20, .invokevirtual 209, 3, 0, 1, 0, [])]
def s78_8 : List Ent := [(23, .ifCond .eq 14, 3, 37, 0, 0, [])]
def s78_9 : List Ent := [(26, .aload_n 0, 1, 0, 0, 0, []), (27, .getfield 10, 3, 7, 0, 2, []), (30, .iload_n 1, 1, 0, 0, 0, [])]
def s78_10 : List Ent := [(31, .invokevirtual 251, 3, 17, 1, 3, [])]
def s78_11 : List Ent := [(34, .ifCond .ne 10, 3, 44, 0, 0, [])]
def s78_12 : List Ent := [(37, .aload_n 0, 1, 0, 0, 0, []), (38, .bipush (-3), 2, 0, 0, 0, [])]
def s78_13 : List Ent := [(40, .invokevirtual 80, 3, 96, 1, 7, [])]
def s78_14 : List Ent := [(43, .ireturn, 1, 0, 0, 0, [])]
def s78_15 : List Ent := [(44, .aload_n 0, 1, 0, 0, 0, []), (45, .getfield 38, 3, 7, 5, 2, []), (48, .getfield 216, 3, 0, 1, 2, []), (51, .iload_n 2, 1, 0, 0, 0, []), (52, .aload_n 0, 1, 0, 0, 0, []), (53, .getfield 68, 3, 7, 12, 2, [])]
def s78_16 : List Ent := [(56, .invokevirtual 166, 3, 7, 2, 1, [])]
def s78_17 : List Ent := [(59, .getstatic 264, 3, 1004, 0, 0, []), (62, .astore_n 3, 1, 0, 0, 0, []), (63, .aload_n 3, 1, 0, 0, 0, []), (64, .arraylength, 1, 0, 0, 1, []), (65, .istore 4, 2, 0, 0, 0, []), (67, .iconst 0, 1, 0, 0, 0, []), (68, .istore 5, 2, 0, 0, 0, [])]
def s78_18 : List Ent := [(70, .iload 5, 2, 0, 0, 0, []), (72, .iload 4, 2, 0, 0, 0, []), (74, .if_icmp .ge 47, 3, 121, 0, 0, [])]
def s78_19 : List Ent := [(77, .aload_n 3, 1, 0, 0, 0, []), (78, .iload 5, 2, 0, 0, 0, []), (80, .iaload, 1, 0, 0, 1, []), (81, .istore 6, 2, 0, 0, 0, []), (83, .aload_n 0, 1, 0, 0, 0, []), (84, .getfield 10, 3, 7, 0, 2, []), (87, .aload_n 0, 1, 0, 0, 0, []), (88, .getfield 68, 3, 7, 12, 2, []), (91, .iload_n 1, 1, 0, 0, 0, []), (92, .iload 6, 2, 0, 0, 0, [])]
def s78_20 : List Ent := [(94, .invokevirtual 260, 3, 18, 3, 3, [])]
def s78_21 : List Ent := [(97, .aload_n 0, 1, 0, 0, 0, []), (98, .getfield 68, 3, 7, 12, 2, []), (101, .iload_n 2, 1, 0, 0, 0, []), (102, .iaload, 1, 0, 0, 0, []), (103, .i2l, 1, 0, 0, 0, []), (104, .iconst 1, 1, 0, 0, 0, [])]
def s78_22 : List Ent := [(105, .invokestatic 190, 3, 116, 3, 0, [])]
def s78_23 : List Ent := [(108, .lconst 1, 1, 0, 0, 0, []), (109, .lcmp, 1, 0, 0, 0, []), (110, .ifCond .eq 5, 3, 115, 0, 0, [])]
def s78_24 : List Ent := [(113, .iconst 0, 1, 0, 0, 0, [])]
def s78_25 : List Ent := [(114, .ireturn, 1, 0, 0, 0, [])]
def s78_26 : List Ent := [(115, .iinc 5 1, 3, 0, 0, 0, []), (118, .goto (-48), 3, 70, 0, 0, [])]
def s78_27 : List Ent := [(121, .iconst 1, 1, 0, 0, 0, [])]
def s78_28 : List Ent := [(122, .ireturn, 1, 0, 0, 0, [])]
def sg78 : List (List Ent) := [s78_0, s78_1, s78_2, s78_3, s78_4, s78_5, s78_6, s78_7, s78_8, s78_9, s78_10, s78_11, s78_12, s78_13, s78_14, s78_15, s78_16, s78_17, s78_18, s78_19, s78_20, s78_21, s78_22, s78_23, s78_24, s78_25, s78_26, s78_27, s78_28]
theorem ch78 : chkM mi78.2.1 mi78.2.2.1 mi78.2.2.2 lkRX7 sg78 = true := by decide +kernel
def s79_0 : List Ent := [(0, .aload_n 0, 1, 0, 0, 0, []), (1, .iload_n 1, 1, 0, 0, 0, [])]
def s79_1 : List Ent := [(2, .invokevirtual 206, 3, 105, 1, 7, [])]
def s79_2 : List Ent := [(5, .ifCond .ne 9, 3, 14, 0, 0, [])]
def s79_3 : List Ent := [(8, .aload_n 0, 1, 0, 0, 0, []), (9, .iconst (-1), 1, 0, 0, 0, [])]
def s79_4 : List Ent := [(10, .invokevirtual 80, 3, 96, 1, 7, [])]
def s79_5 : List Ent := [(13, .ireturn, 1, 0, 0, 0, [])]
def s79_6 : List Ent := [(14, .aload_n 0, 1, 0, 0, 0, []), (15, .getfield 38, 3, 7, 5, 2, []), (18, .iload_n 1, 1, 0, 0, 0, [])]
def s79_7 : List Ent := [(19, .invokevirtual 209, 3, 0, 1, 0, [])]
def s79_8 : List Ent := [(22, .ifCond .eq 14, 3, 36, 0, 0, [])]
def s79_9 : List Ent := [(25, .aload_n 0, 1, 0, 0, 0, []), (26, .getfield 10, 3, 7, 0, 2, []), (29, .iload_n 1, 1, 0, 0, 0, [])]
def s79_10 : List Ent := [(30, .invokevirtual 251, 3, 17, 1, 3, [])]
def s79_11 : List Ent := [(33, .ifCond .ne 10, 3, 43, 0, 0, [])]
def s79_12 : List Ent := [(36, .aload_n 0, 1, 0, 0, 0, []), (37, .bipush (-3), 2, 0, 0, 0, [])]
def s79_13 : List Ent := [(39, .invokevirtual 80, 3, 96, 1, 7, [])]
def s79_14 : List Ent := [(42, .ireturn, 1, 0, 0, 0, [])]
def s79_15 : List Ent := [(43, .iconst 0, 1, 0, 0, 0, []), (44, .istore_n 2, 1, 0, 0, 0, []), (45, .iconst 0, 1, 0, 0, 0, []), (46, .istore_n 3, 1, 0, 0, 0, [])]
def s79_16 : List Ent := [(47, .iload_n 3, 1, 0, 0, 0, []), (48, .aload_n 0, 1, 0, 0, 0, []), (49, .getfield 10, 3, 7, 0, 2, []), (52, .getfield 92, 3, 3, 0, 0, []), (55, .if_icmp .ge 64, 3, 119, 0, 0, [])]
def s79_17 : List Ent := [(58, .iload_n 1, 1, 0, 0, 0, []), (59, .iload_n 3, 1, 0, 0, 0, [])]
def s79_18 : List Ent := [(60, .invokestatic 129, 3, 112, 2, 0, [])]
def s79_19 : List Ent := [(63, .ifCond .ne 50, 3, 113, 0, 0, [])]
def s79_20 : List Ent := [(66, .aload_n 0, 1, 0, 0, 0, []), (67, .getfield 10, 3, 7, 0, 2, []), (70, .iload_n 3, 1, 0, 0, 0, [])]
def s79_21 : List Ent := [(71, .invokevirtual 244, 3, 15, 1, 3, [])]
def s79_22 : List Ent := [(74, .ifCond .eq 39, 3, 113, 0, 0, [])]
def s79_23 : List Ent := [(77, .aload_n 0, 1, 0, 0, 0, []), (78, .getfield 38, 3, 7, 5, 2, []), (81, .getfield 216, 3, 0, 1, 2, []), (84, .iload_n 3, 1, 0, 0, 0, []), (85, .aload_n 0, 1, 0, 0, 0, []), (86, .getfield 68, 3, 7, 12, 2, [])]
def s79_24 : List Ent := [(89, .invokevirtual 166, 3, 7, 2, 1, [])]
def s79_25 : List Ent := [(92, .iload_n 2, 1, 0, 0, 0, []), (93, .aload_n 0, 1, 0, 0, 0, []), (94, .aload_n 0, 1, 0, 0, 0, []), (95, .getfield 68, 3, 7, 12, 2, [])]
def s79_26 : List Ent := [(98, .invokevirtual 254, 3, 111, 1, 7, [])]
def s79_27 : List Ent := [(101, .ifCond .eq 9, 3, 110, 0, 0, [])]
def s79_28 : List Ent := [(104, .iconst 1, 1, 0, 0, 0, []), (105, .iload_n 3, 1, 0, 0, 0, []), (106, .ishl, 1, 0, 0, 0, []), (107, .goto 4, 3, 111, 0, 0, [])]
def s79_29 : List Ent := [(110, .iconst 0, 1, 0, 0, 0, [])]
def s79_30 : List Ent := [(111, .ior, 1, 0, 0, 0, []), (112, .istore_n 2, 1, 0, 0, 0, [])]
def s79_31 : List Ent := [(113, .iinc 3 1, 3, 0, 0, 0, []), (116, .goto (-69), 3, 47, 0, 0, [])]
def s79_32 : List Ent := [(119, .iload_n 2, 1, 0, 0, 0, [])]
def s79_33 : List Ent := [(120, .ireturn, 1, 0, 0, 0, [])]
def sg79 : List (List Ent) := [s79_0, s79_1, s79_2, s79_3, s79_4, s79_5, s79_6, s79_7, s79_8, s79_9, s79_10, s79_11, s79_12, s79_13, s79_14, s79_15, s79_16, s79_17, s79_18, s79_19, s79_20, s79_21, s79_22, s79_23, s79_24, s79_25, s79_26, s79_27, s79_28, s79_29, s79_30, s79_31, s79_32, s79_33]
theorem ch79 : chkM mi79.2.1 mi79.2.2.1 mi79.2.2.2 lkRX7 sg79 = true := by decide +kernel
def s80_0 : List Ent := [(0, .iload_n 1, 1, 0, 0, 0, [])]
def s80_1 : List Ent := [(1, .invokestatic 170, 3, 107, 1, 0, [])]
def s80_2 : List Ent := [(4, .ifCond .ne 9, 3, 13, 0, 0, [])]
def s80_3 : List Ent := [(7, .aload_n 0, 1, 0, 0, 0, []), (8, .iconst (-1), 1, 0, 0, 0, [])]
def s80_4 : List Ent := [(9, .invokevirtual 80, 3, 96, 1, 7, [])]
def s80_5 : List Ent := [(12, .ireturn, 1, 0, 0, 0, [])]
def s80_6 : List Ent := [(13, .aload_n 0, 1, 0, 0, 0, []), (14, .iload_n 1, 1, 0, 0, 0, [])]
def s80_7 : List Ent := [(15, .invokevirtual 173, 3, 108, 1, 7, [])]
def s80_8 : List Ent := [(18, .ifCond .eq 6, 3, 24, 0, 0, [])]
def s80_9 : List Ent := [(21, .bipush (-11), 2, 0, 0, 0, [])]
def s80_10 : List Ent := [(23, .ireturn, 1, 0, 0, 0, [])]
def s80_11 : List Ent := [(24, .aload_n 0, 1, 0, 0, 0, []), (25, .iload_n 1, 1, 0, 0, 0, []), (26, .iconst 5, 1, 0, 0, 0, []), (27, .aload_n 0, 1, 0, 0, 0, []), (28, .getfield 74, 3, 7, 14, 2, [])]
def s80_12 : List Ent := [(31, .invokevirtual 176, 3, 110, 3, 7, [])]
def s80_13 : List Ent := [(34, .ifCond .ne 10, 3, 44, 0, 0, [])]
def s80_14 : List Ent := [(37, .aload_n 0, 1, 0, 0, 0, []), (38, .bipush (-3), 2, 0, 0, 0, [])]
def s80_15 : List Ent := [(40, .invokevirtual 80, 3, 96, 1, 7, [])]
def s80_16 : List Ent := [(43, .ireturn, 1, 0, 0, 0, [])]
def s80_17 : List Ent := [(44, .iload_n 2, 1, 0, 0, 0, []), (45, .iconst (-1), 1, 0, 0, 0, []), (46, .if_icmp .ge 12, 3, 58, 0, 0, [])]
def s80_18 : List Ent := [(49, .aload_n 0, 1, 0, 0, 0, []), (50, .bipush (-4), 2, 0, 0, 0, [])]
def s80_19 : List Ent := [(52, .invokevirtual 80, 3, 96, 1, 7, [])]
def s80_20 : List Ent := [(55, .goto 15, 3, 70, 0, 0, [])]
def s80_21 : List Ent := [(58, .aload_n 0, 1, 0, 0, 0, []), (59, .getfield 45, 3, 7, 6, 2, []), (62, .aload_n 0, 1, 0, 0, 0, []), (63, .getfield 74, 3, 7, 14, 2, []), (66, .iload_n 2, 1, 0, 0, 0, [])]
def s80_22 : List Ent := [(67, .invokevirtual 267, 3, 45, 2, 5, [])]
def s80_23 : List Ent := [(70, .ireturn, 1, 0, 0, 0, [])]
def sg80 : List (List Ent) := [s80_0, s80_1, s80_2, s80_3, s80_4, s80_5, s80_6, s80_7, s80_8, s80_9, s80_10, s80_11, s80_12, s80_13, s80_14, s80_15, s80_16, s80_17, s80_18, s80_19, s80_20, s80_21, s80_22, s80_23]
theorem ch80 : chkM mi80.2.1 mi80.2.2.1 mi80.2.2.2 lkRX7 sg80 = true := by decide +kernel
def s81_0 : List Ent := [(0, .iload_n 1, 1, 0, 0, 0, []), (1, .ifCond .ge 10, 3, 11, 0, 0, [])]
def s81_1 : List Ent := [(4, .aload_n 0, 1, 0, 0, 0, []), (5, .bipush (-4), 2, 0, 0, 0, [])]
def s81_2 : List Ent := [(7, .invokevirtual 80, 3, 96, 1, 7, [])]
def s81_3 : List Ent := [(10, .ireturn, 1, 0, 0, 0, [])]
def s81_4 : List Ent := [(11, .iload_n 1, 1, 0, 0, 0, []), (12, .iconst 3, 1, 0, 0, 0, []), (13, .if_icmp .le 12, 3, 25, 0, 0, [])]
def s81_5 : List Ent := [(16, .aload_n 0, 1, 0, 0, 0, []), (17, .bipush (-6), 2, 0, 0, 0, [])]
def s81_6 : List Ent := [(19, .invokevirtual 80, 3, 96, 1, 7, [])]
def s81_7 : List Ent := [(22, .goto 11, 3, 33, 0, 0, [])]
def s81_8 : List Ent := [(25, .aload_n 0, 1, 0, 0, 0, []), (26, .getfield 45, 3, 7, 6, 2, []), (29, .iload_n 1, 1, 0, 0, 0, [])]
def s81_9 : List Ent := [(30, .invokevirtual 271, 3, 42, 1, 5, [])]
def s81_10 : List Ent := [(33, .ireturn, 1, 0, 0, 0, [])]
def sg81 : List (List Ent) := [s81_0, s81_1, s81_2, s81_3, s81_4, s81_5, s81_6, s81_7, s81_8, s81_9, s81_10]
theorem ch81 : chkM mi81.2.1 mi81.2.2.1 mi81.2.2.2 lkRX7 sg81 = true := by decide +kernel
def s82_0 : List Ent := [(0, .aload_n 0, 1, 0, 0, 0, []), (1, .getfield 52, 3, 7, 7, 2, []), (4, .aload_n 0, 1, 0, 0, 0, []), (5, .getfield 56, 3, 7, 8, 2, []), (8, .aload_n 0, 1, 0, 0, 0, []), (9, .getfield 84, 3, 7, 9, 0, [])]
def s82_1 : List Ent := [(12, .invokevirtual 274, 3, 20, 2, 4, [])]
def s82_2 : List Ent := [(15, .aload_n 0, 1, 0, 0, 0, []), (16, .getfield 84, 3, 7, 9, 0, []), (19, .istore_n 1, 1, 0, 0, 0, []), (20, .aload_n 0, 1, 0, 0, 0, []), (21, .iconst 0, 1, 0, 0, 0, []), (22, .putfield 84, 3, 7, 9, 0, []), (25, .aload_n 0, 1, 0, 0, 0, []), (26, .getfield 52, 3, 7, 7, 2, []), (29, .getfield 278, 3, 4, 4, 0, []), (32, .bipush (-9), 2, 0, 0, 0, []), (34, .if_icmp .eq 15, 3, 49, 0, 0, [])]
def s82_3 : List Ent := [(37, .sipush (-1000), 3, 0, 0, 0, []), (40, .aload_n 0, 1, 0, 0, 0, []), (41, .getfield 52, 3, 7, 7, 2, []), (44, .getfield 278, 3, 4, 4, 0, []), (47, .isub, 1, 0, 0, 0, [])]
def s82_4 : List Ent := [(48, .ireturn, 1, 0, 0, 0, [])]
def s82_5 : List Ent := [(49, .aload_n 0, 1, 0, 0, 0, []), (50, .getfield 10, 3, 7, 0, 2, []), (53, .aload_n 0, 1, 0, 0, 0, []), (54, .getfield 56, 3, 7, 8, 2, []), (57, .iload_n 1, 1, 0, 0, 0, []), (58, .aload_n 0, 1, 0, 0, 0, []), (59, .getfield 52, 3, 7, 7, 2, []), (62, .getfield 281, 3, 4, 5, 0, [])]
def s82_6 : List Ent := [(65, .invokevirtual 284, 3, 13, 3, 3, [])]
def s82_7 : List Ent := [(68, .aload_n 0, 1, 0, 0, 0, []), (69, .getfield 52, 3, 7, 7, 2, []), (72, .getfield 281, 3, 4, 5, 0, [])]
def s82_8 : List Ent := [(75, .ireturn, 1, 0, 0, 0, [])]
def sg82 : List (List Ent) := [s82_0, s82_1, s82_2, s82_3, s82_4, s82_5, s82_6, s82_7, s82_8]
theorem ch82 : chkM mi82.2.1 mi82.2.2.1 mi82.2.2.2 lkRX7 sg82 = true := by decide +kernel
def s83_0 : List Ent := [(0, .iload_n 1, 1, 0, 0, 0, []), (1, .ifCond .lt 8, 3, 9, 0, 0, [])]
def s83_1 : List Ent := [(4, .iload_n 1, 1, 0, 0, 0, []), (5, .iconst 2, 1, 0, 0, 0, []), (6, .if_icmp .le 10, 3, 16, 0, 0, [])]
def s83_2 : List Ent := [(9, .aload_n 0, 1, 0, 0, 0, []), (10, .bipush (-2), 2, 0, 0, 0, [])]
def s83_3 : List Ent := [(12, .invokevirtual 80, 3, 96, 1, 7, [])]
def s83_4 : List Ent := [(15, .ireturn, 1, 0, 0, 0, [])]
def s83_5 : List Ent := [(16, .aload_n 0, 1, 0, 0, 0, []), (17, .getfield 10, 3, 7, 0, 2, [])]
def s83_6 : List Ent := [(20, .invokevirtual 288, 3, 14, 0, 3, [])]
def s83_7 : List Ent := [(23, .ifCond .ne 10, 3, 33, 0, 0, [])]
def s83_8 : List Ent := [(26, .aload_n 0, 1, 0, 0, 0, []), (27, .bipush (-3), 2, 0, 0, 0, [])]
def s83_9 : List Ent := [(29, .invokevirtual 80, 3, 96, 1, 7, [])]
def s83_10 : List Ent := [(32, .ireturn, 1, 0, 0, 0, [])]
def s83_11 : List Ent := [(33, .aload_n 0, 1, 0, 0, 0, []), (34, .getfield 52, 3, 7, 7, 2, []), (37, .aload_n 0, 1, 0, 0, 0, []), (38, .getfield 10, 3, 7, 0, 2, []), (41, .getfield 292, 3, 3, 5, 2, []), (44, .aload_n 0, 1, 0, 0, 0, []), (45, .getfield 10, 3, 7, 0, 2, []), (48, .getfield 293, 3, 3, 6, 0, [])]
def s83_12 : List Ent := [(51, .invokevirtual 274, 3, 20, 2, 4, [])]
def s83_13 : List Ent := [(54, .iload_n 1, 1, 0, 0, 0, []), (55, .ifCond .ne 11, 3, 66, 0, 0, [])]
def s83_14 : List Ent := [(58, .aload_n 0, 1, 0, 0, 0, []), (59, .getfield 52, 3, 7, 7, 2, [])]
def s83_15 : List Ent := [(62, .invokevirtual 296, 3, 36, 0, 4, [])]
def s83_16 : List Ent := [(65, .ireturn, 1, 0, 0, 0, [])]
def s83_17 : List Ent := [(66, .iload_n 1, 1, 0, 0, 0, []), (67, .iconst 1, 1, 0, 0, 0, []), (68, .if_icmp .ne 13, 3, 81, 0, 0, [])]
def s83_18 : List Ent := [(71, .aload_n 0, 1, 0, 0, 0, []), (72, .getfield 52, 3, 7, 7, 2, [])]
def s83_19 : List Ent := [(75, .invokevirtual 299, 3, 37, 0, 4, [])]
def s83_20 : List Ent := [(78, .goto 10, 3, 88, 0, 0, [])]
def s83_21 : List Ent := [(81, .aload_n 0, 1, 0, 0, 0, []), (82, .getfield 52, 3, 7, 7, 2, []), (85, .getfield 302, 3, 4, 6, 0, [])]
def s83_22 : List Ent := [(88, .ireturn, 1, 0, 0, 0, [])]
def sg83 : List (List Ent) := [s83_0, s83_1, s83_2, s83_3, s83_4, s83_5, s83_6, s83_7, s83_8, s83_9, s83_10, s83_11, s83_12, s83_13, s83_14, s83_15, s83_16, s83_17, s83_18, s83_19, s83_20, s83_21, s83_22]
theorem ch83 : chkM mi83.2.1 mi83.2.2.1 mi83.2.2.2 lkRX7 sg83 = true := by decide +kernel
def s84_0 : List Ent := [(0, .iload_n 2, 1, 0, 0, 0, [])]
def s84_1 : List Ent := [(1, .invokestatic 109, 3, 100, 1, 0, [])]
def s84_2 : List Ent := [(4, .ifCond .ne 9, 3, 13, 0, 0, [])]
def s84_3 : List Ent := [(7, .aload_n 0, 1, 0, 0, 0, []), (8, .iconst (-1), 1, 0, 0, 0, [])]
def s84_4 : List Ent := [(9, .invokevirtual 112, 3, 97, 1, 7, [])]
def s84_5 : List Ent := [(12, .ireturn, 1, 0, 0, 0, [])]
def s84_6 : List Ent := [(13, .iload_n 1, 1, 0, 0, 0, []), (14, .ifCond .lt 8, 3, 22, 0, 0, [])]
def s84_7 : List Ent := [(17, .iload_n 1, 1, 0, 0, 0, []), (18, .iconst 2, 1, 0, 0, 0, []), (19, .if_icmp .le 10, 3, 29, 0, 0, [])]
def s84_8 : List Ent := [(22, .aload_n 0, 1, 0, 0, 0, []), (23, .bipush (-2), 2, 0, 0, 0, [])]
def s84_9 : List Ent := [(25, .invokevirtual 112, 3, 97, 1, 7, [])]
def s84_10 : List Ent := [(28, .ireturn, 1, 0, 0, 0, [])]
def s84_11 : List Ent := [(29, .aload_n 0, 1, 0, 0, 0, []), (30, .getfield 10, 3, 7, 0, 2, [])]
def s84_12 : List Ent := [(33, .invokevirtual 288, 3, 14, 0, 3, [])]
def s84_13 : List Ent := [(36, .ifCond .ne 10, 3, 46, 0, 0, [])]
def s84_14 : List Ent := [(39, .aload_n 0, 1, 0, 0, 0, []), (40, .bipush (-3), 2, 0, 0, 0, [])]
def s84_15 : List Ent := [(42, .invokevirtual 112, 3, 97, 1, 7, [])]
def s84_16 : List Ent := [(45, .ireturn, 1, 0, 0, 0, [])]
def s84_17 : List Ent := [(46, .aload_n 0, 1, 0, 0, 0, []), (47, .getfield 52, 3, 7, 7, 2, []), (50, .aload_n 0, 1, 0, 0, 0, []), (51, .getfield 10, 3, 7, 0, 2, []), (54, .getfield 292, 3, 3, 5, 2, []), (57, .aload_n 0, 1, 0, 0, 0, []), (58, .getfield 10, 3, 7, 0, 2, []), (61, .getfield 293, 3, 3, 6, 0, [])]
def s84_18 : List Ent := [(64, .invokevirtual 274, 3, 20, 2, 4, [])]
def s84_19 : List Ent := [(67, .iload_n 1, 1, 0, 0, 0, []), (68, .ifCond .ne 13, 3, 81, 0, 0, [])]
def s84_20 : List Ent := [(71, .aload_n 0, 1, 0, 0, 0, []), (72, .getfield 52, 3, 7, 7, 2, []), (75, .getfield 305, 3, 4, 11, 2, []), (78, .iload_n 2, 1, 0, 0, 0, []), (79, .iaload, 1, 0, 0, 0, [])]
def s84_21 : List Ent := [(80, .ireturn, 1, 0, 0, 0, [])]
def s84_22 : List Ent := [(81, .iload_n 1, 1, 0, 0, 0, []), (82, .iconst 1, 1, 0, 0, 0, []), (83, .if_icmp .ne 15, 3, 98, 0, 0, [])]
def s84_23 : List Ent := [(86, .aload_n 0, 1, 0, 0, 0, []), (87, .getfield 52, 3, 7, 7, 2, []), (90, .getfield 308, 3, 4, 12, 2, []), (93, .iload_n 2, 1, 0, 0, 0, []), (94, .iaload, 1, 0, 0, 0, []), (95, .goto 11, 3, 106, 0, 0, [])]
def s84_24 : List Ent := [(98, .aload_n 0, 1, 0, 0, 0, []), (99, .getfield 52, 3, 7, 7, 2, []), (102, .iload_n 2, 1, 0, 0, 0, [])]
def s84_25 : List Ent := [(103, .invokevirtual 311, 3, 35, 1, 4, [])]
def s84_26 : List Ent := [(106, .ireturn, 1, 0, 0, 0, [])]
def sg84 : List (List Ent) := [s84_0, s84_1, s84_2, s84_3, s84_4, s84_5, s84_6, s84_7, s84_8, s84_9, s84_10, s84_11, s84_12, s84_13, s84_14, s84_15, s84_16, s84_17, s84_18, s84_19, s84_20, s84_21, s84_22, s84_23, s84_24, s84_25, s84_26]
theorem ch84 : chkM mi84.2.1 mi84.2.2.1 mi84.2.2.2 lkRX7 sg84 = true := by decide +kernel
def s85_0 : List Ent := [(0, .iload_n 1, 1, 0, 0, 0, []), (1, .iconst (-1), 1, 0, 0, 0, []), (2, .if_icmp .ge 10, 3, 12, 0, 0, [])]
def s85_1 : List Ent := [(5, .aload_n 0, 1, 0, 0, 0, []), (6, .bipush (-4), 2, 0, 0, 0, [])]
def s85_2 : List Ent := [(8, .invokevirtual 80, 3, 96, 1, 7, [])]
def s85_3 : List Ent := [(11, .ireturn, 1, 0, 0, 0, [])]
def s85_4 : List Ent := [(12, .aload_n 0, 1, 0, 0, 0, []), (13, .getfield 10, 3, 7, 0, 2, [])]
def s85_5 : List Ent := [(16, .invokevirtual 288, 3, 14, 0, 3, [])]
def s85_6 : List Ent := [(19, .ifCond .ne 10, 3, 29, 0, 0, [])]
def s85_7 : List Ent := [(22, .aload_n 0, 1, 0, 0, 0, []), (23, .bipush (-3), 2, 0, 0, 0, [])]
def s85_8 : List Ent := [(25, .invokevirtual 80, 3, 96, 1, 7, [])]
def s85_9 : List Ent := [(28, .ireturn, 1, 0, 0, 0, [])]
def s85_10 : List Ent := [(29, .aload_n 0, 1, 0, 0, 0, []), (30, .getfield 52, 3, 7, 7, 2, []), (33, .aload_n 0, 1, 0, 0, 0, []), (34, .getfield 10, 3, 7, 0, 2, []), (37, .getfield 292, 3, 3, 5, 2, []), (40, .aload_n 0, 1, 0, 0, 0, []), (41, .getfield 10, 3, 7, 0, 2, []), (44, .getfield 293, 3, 3, 6, 0, [])]
def s85_11 : List Ent := [(47, .invokevirtual 274, 3, 20, 2, 4, [])]
def s85_12 : List Ent := [(50, .iconst 0, 1, 0, 0, 0, []), (51, .istore_n 2, 1, 0, 0, 0, [])]
def s85_13 : List Ent := [(52, .iload_n 2, 1, 0, 0, 0, []), (53, .iconst 5, 1, 0, 0, 0, []), (54, .if_icmp .ge 23, 3, 77, 0, 0, [])]
def s85_14 : List Ent := [(57, .aload_n 0, 1, 0, 0, 0, []), (58, .getfield 74, 3, 7, 14, 2, []), (61, .iload_n 2, 1, 0, 0, 0, []), (62, .aload_n 0, 1, 0, 0, 0, []), (63, .getfield 52, 3, 7, 7, 2, []), (66, .iload_n 2, 1, 0, 0, 0, [])]
def s85_15 : List Ent := [(67, .invokevirtual 311, 3, 35, 1, 4, [])]
def s85_16 : List Ent := [(70, .iastore, 1, 0, 0, 0, []), (71, .iinc 2 1, 3, 0, 0, 0, []), (74, .goto (-22), 3, 52, 0, 0, [])]
def s85_17 : List Ent := [(77, .aload_n 0, 1, 0, 0, 0, []), (78, .getfield 45, 3, 7, 6, 2, []), (81, .aload_n 0, 1, 0, 0, 0, []), (82, .getfield 74, 3, 7, 14, 2, []), (85, .iload_n 1, 1, 0, 0, 0, [])]
def s85_18 : List Ent := [(86, .invokevirtual 267, 3, 45, 2, 5, [])]
def s85_19 : List Ent := [(89, .ireturn, 1, 0, 0, 0, [])]
def sg85 : List (List Ent) := [s85_0, s85_1, s85_2, s85_3, s85_4, s85_5, s85_6, s85_7, s85_8, s85_9, s85_10, s85_11, s85_12, s85_13, s85_14, s85_15, s85_16, s85_17, s85_18, s85_19]
theorem ch85 : chkM mi85.2.1 mi85.2.2.1 mi85.2.2.2 lkRX7 sg85 = true := by decide +kernel
def s86_0 : List Ent := [(0, .iload_n 1, 1, 0, 0, 0, []), (1, .iconst 1, 1, 0, 0, 0, []), (2, .if_icmp .ge 10, 3, 12, 0, 0, [])]
def s86_1 : List Ent := [(5, .aload_n 0, 1, 0, 0, 0, []), (6, .bipush (-4), 2, 0, 0, 0, [])]
def s86_2 : List Ent := [(8, .invokevirtual 80, 3, 96, 1, 7, [])]
def s86_3 : List Ent := [(11, .ireturn, 1, 0, 0, 0, [])]
def s86_4 : List Ent := [(12, .iload_n 1, 1, 0, 0, 0, []), (13, .bipush 50, 2, 0, 0, 0, []), (15, .if_icmp .le 10, 3, 25, 0, 0, [])]
def s86_5 : List Ent := [(18, .aload_n 0, 1, 0, 0, 0, []), (19, .bipush (-6), 2, 0, 0, 0, [])]
def s86_6 : List Ent := [(21, .invokevirtual 80, 3, 96, 1, 7, [])]
def s86_7 : List Ent := [(24, .ireturn, 1, 0, 0, 0, [])]
def s86_8 : List Ent := [(25, .iload_n 3, 1, 0, 0, 0, []), (26, .ifCond .eq 15, 3, 41, 0, 0, [])]
def s86_9 : List Ent := [(29, .iload_n 3, 1, 0, 0, 0, []), (30, .iconst 1, 1, 0, 0, 0, []), (31, .if_icmp .eq 10, 3, 41, 0, 0, [])]
def s86_10 : List Ent := [(34, .aload_n 0, 1, 0, 0, 0, []), (35, .bipush (-2), 2, 0, 0, 0, [])]
def s86_11 : List Ent := [(37, .invokevirtual 80, 3, 96, 1, 7, [])]
def s86_12 : List Ent := [(40, .ireturn, 1, 0, 0, 0, [])]
def s86_13 : List Ent := [(41, .iconst 0, 1, 0, 0, 0, []), (42, .istore 4, 2, 0, 0, 0, []), (44, .iconst 0, 1, 0, 0, 0, []), (45, .istore 5, 2, 0, 0, 0, []), (47, .iload_n 2, 1, 0, 0, 0, []), (48, .istore 6, 2, 0, 0, 0, []), (50, .iconst 0, 1, 0, 0, 0, []), (51, .istore 7, 2, 0, 0, 0, [])]
def s86_14 : List Ent := [(53, .iload 7, 2, 0, 0, 0, []), (55, .iload_n 1, 1, 0, 0, 0, []), (56, .if_icmp .ge 103, 3, 159, 0, 0, [])]
def s86_15 : List Ent := [(59, .iconst 0, 1, 0, 0, 0, []), (60, .istore 8, 2, 0, 0, 0, [])]
def s86_16 : List Ent := [(62, .iload 8, 2, 0, 0, 0, []), (64, .aload_n 0, 1, 0, 0, 0, []), (65, .getfield 10, 3, 7, 0, 2, []), (68, .getfield 92, 3, 3, 0, 0, []), (71, .if_icmp .ge 42, 3, 113, 0, 0, [])]
def s86_17 : List Ent := [(74, .iload 6, 2, 0, 0, 0, []), (76, .ldc_w 314, 3, 0, 0, 0, [1664525]), (79, .imul, 1, 0, 0, 0, []), (80, .ldc_w 315, 3, 0, 0, 0, [1013904223]), (83, .iadd, 1, 0, 0, 0, []), (84, .istore 6, 2, 0, 0, 0, []), (86, .aload_n 0, 1, 0, 0, 0, []), (87, .getfield 71, 3, 7, 13, 2, []), (90, .iload 8, 2, 0, 0, 0, []), (92, .iload 6, 2, 0, 0, 0, []), (94, .ldc_w 316, 3, 0, 0, 0, [2147483647]), (97, .iand, 1, 0, 0, 0, []), (98, .sipush 256, 3, 0, 0, 0, []), (101, .idiv, 1, 0, 0, 0, []), (102, .iconst 5, 1, 0, 0, 0, []), (103, .irem, 1, 0, 0, 0, []), (104, .iconst 2, 1, 0, 0, 0, []), (105, .isub, 1, 0, 0, 0, []), (106, .iastore, 1, 0, 0, 0, []), (107, .iinc 8 1, 3, 0, 0, 0, []), (110, .goto (-48), 3, 62, 0, 0, [])]
def s86_18 : List Ent := [(113, .iload 4, 2, 0, 0, 0, []), (115, .aload_n 0, 1, 0, 0, 0, []), (116, .getfield 29, 3, 7, 4, 2, []), (119, .aload_n 0, 1, 0, 0, 0, []), (120, .getfield 71, 3, 7, 13, 2, [])]
def s86_19 : List Ent := [(123, .invokevirtual 180, 3, 54, 1, 6, [])]
def s86_20 : List Ent := [(126, .ifCond .eq 7, 3, 133, 0, 0, [])]
def s86_21 : List Ent := [(129, .iconst 1, 1, 0, 0, 0, []), (130, .goto 4, 3, 134, 0, 0, [])]
def s86_22 : List Ent := [(133, .iconst 0, 1, 0, 0, 0, [])]
def s86_23 : List Ent := [(134, .iadd, 1, 0, 0, 0, []), (135, .istore 4, 2, 0, 0, 0, []), (137, .iload 5, 2, 0, 0, 0, []), (139, .aload_n 0, 1, 0, 0, 0, []), (140, .getfield 29, 3, 7, 4, 2, []), (143, .aload_n 0, 1, 0, 0, 0, []), (144, .getfield 71, 3, 7, 13, 2, [])]
def s86_24 : List Ent := [(147, .invokevirtual 317, 3, 55, 1, 6, [])]
def s86_25 : List Ent := [(150, .iadd, 1, 0, 0, 0, []), (151, .istore 5, 2, 0, 0, 0, []), (153, .iinc 7 1, 3, 0, 0, 0, []), (156, .goto (-103), 3, 53, 0, 0, [])]
def s86_26 : List Ent := [(159, .iload_n 3, 1, 0, 0, 0, []), (160, .ifCond .ne 8, 3, 168, 0, 0, [])]
def s86_27 : List Ent := [(163, .iload 4, 2, 0, 0, 0, []), (165, .goto 5, 3, 170, 0, 0, [])]
def s86_28 : List Ent := [(168, .iload 5, 2, 0, 0, 0, [])]
def s86_29 : List Ent := [(170, .ireturn, 1, 0, 0, 0, [])]
def sg86 : List (List Ent) := [s86_0, s86_1, s86_2, s86_3, s86_4, s86_5, s86_6, s86_7, s86_8, s86_9, s86_10, s86_11, s86_12, s86_13, s86_14, s86_15, s86_16, s86_17, s86_18, s86_19, s86_20, s86_21, s86_22, s86_23, s86_24, s86_25, s86_26, s86_27, s86_28, s86_29]
theorem ch86 : chkM mi86.2.1 mi86.2.2.1 mi86.2.2.2 lkRX7 sg86 = true := by decide +kernel
def s87_0 : List Ent := [(0, .iload_n 1, 1, 0, 0, 0, [])]
def s87_1 : List Ent := [(1, .invokestatic 170, 3, 107, 1, 0, [])]
def s87_2 : List Ent := [(4, .ifCond .ne 9, 3, 13, 0, 0, [])]
def s87_3 : List Ent := [(7, .aload_n 0, 1, 0, 0, 0, []), (8, .iconst (-1), 1, 0, 0, 0, [])]
def s87_4 : List Ent := [(9, .invokevirtual 80, 3, 96, 1, 7, [])]
def s87_5 : List Ent := [(12, .ireturn, 1, 0, 0, 0, [])]
def s87_6 : List Ent := [(13, .iload_n 2, 1, 0, 0, 0, []), (14, .bipush 40, 2, 0, 0, 0, []), (16, .if_icmp .le 10, 3, 26, 0, 0, [])]
def s87_7 : List Ent := [(19, .aload_n 0, 1, 0, 0, 0, []), (20, .bipush (-6), 2, 0, 0, 0, [])]
def s87_8 : List Ent := [(22, .invokevirtual 80, 3, 96, 1, 7, [])]
def s87_9 : List Ent := [(25, .ireturn, 1, 0, 0, 0, [])]
def s87_10 : List Ent := [(26, .iload_n 2, 1, 0, 0, 0, []), (27, .ifCond .ge 6, 3, 33, 0, 0, [])]
def s87_11 : List Ent := [(30, .bipush (-14), 2, 0, 0, 0, [])]
def s87_12 : List Ent := [(32, .ireturn, 1, 0, 0, 0, [])]
def s87_13 : List Ent := [(33, .aload_n 0, 1, 0, 0, 0, []), (34, .getfield 62, 3, 7, 10, 2, []), (37, .iload_n 1, 1, 0, 0, 0, []), (38, .aaload, 1, 0, 0, 0, []), (39, .iconst 0, 1, 0, 0, 0, [])]
def s87_14 : List Ent := [(40, .invokestatic 320, 3, 230, 2, 0, [])]
def s87_15 : List Ent := [(43, .aload_n 0, 1, 0, 0, 0, []), (44, .getfield 65, 3, 7, 11, 2, []), (47, .iload_n 1, 1, 0, 0, 0, []), (48, .iload_n 2, 1, 0, 0, 0, []), (49, .iastore, 1, 0, 0, 0, []), (50, .iconst 1, 1, 0, 0, 0, [])]
def s87_16 : List Ent := [(51, .ireturn, 1, 0, 0, 0, [])]
def sg87 : List (List Ent) := [s87_0, s87_1, s87_2, s87_3, s87_4, s87_5, s87_6, s87_7, s87_8, s87_9, s87_10, s87_11, s87_12, s87_13, s87_14, s87_15, s87_16]
theorem ch87 : chkM mi87.2.1 mi87.2.2.1 mi87.2.2.2 lkRX7 sg87 = true := by decide +kernel
def s88_0 : List Ent := [(0, .iload_n 1, 1, 0, 0, 0, [])]
def s88_1 : List Ent := [(1, .invokestatic 170, 3, 107, 1, 0, [])]
def s88_2 : List Ent := [(4, .ifCond .ne 9, 3, 13, 0, 0, [])]
def s88_3 : List Ent := [(7, .aload_n 0, 1, 0, 0, 0, []), (8, .iconst (-1), 1, 0, 0, 0, [])]
def s88_4 : List Ent := [(9, .invokevirtual 80, 3, 96, 1, 7, [])]
def s88_5 : List Ent := [(12, .ireturn, 1, 0, 0, 0, [])]
def s88_6 : List Ent := [(13, .aload_n 0, 1, 0, 0, 0, []), (14, .iload_n 1, 1, 0, 0, 0, [])]
def s88_7 : List Ent := [(15, .invokevirtual 173, 3, 108, 1, 7, [])]
def s88_8 : List Ent := [(18, .ifCond .eq 6, 3, 24, 0, 0, [])]
def s88_9 : List Ent := [(21, .bipush (-11), 2, 0, 0, 0, [])]
def s88_10 : List Ent := [(23, .ireturn, 1, 0, 0, 0, [])]
def s88_11 : List Ent := [(24, .aload_n 0, 1, 0, 0, 0, []), (25, .iload_n 1, 1, 0, 0, 0, []), (26, .iload_n 2, 1, 0, 0, 0, [])]
def s88_12 : List Ent := [(27, .invokevirtual 325, 3, 109, 2, 7, [])]
def s88_13 : List Ent := [(30, .ifCond .ne 6, 3, 36, 0, 0, [])]
def s88_14 : List Ent := [(33, .bipush (-13), 2, 0, 0, 0, [])]
def s88_15 : List Ent := [(35, .ireturn, 1, 0, 0, 0, [])]
def s88_16 : List Ent := [(36, .aload_n 0, 1, 0, 0, 0, []), (37, .getfield 62, 3, 7, 10, 2, []), (40, .iload_n 1, 1, 0, 0, 0, []), (41, .aaload, 1, 0, 0, 0, []), (42, .iload_n 2, 1, 0, 0, 0, []), (43, .iload_n 3, 1, 0, 0, 0, []), (44, .iastore, 1, 0, 0, 0, []), (45, .iconst 1, 1, 0, 0, 0, [])]
def s88_17 : List Ent := [(46, .ireturn, 1, 0, 0, 0, [])]
def sg88 : List (List Ent) := [s88_0, s88_1, s88_2, s88_3, s88_4, s88_5, s88_6, s88_7, s88_8, s88_9, s88_10, s88_11, s88_12, s88_13, s88_14, s88_15, s88_16, s88_17]
theorem ch88 : chkM mi88.2.1 mi88.2.2.1 mi88.2.2.2 lkRX7 sg88 = true := by decide +kernel
def s89_0 : List Ent := [(0, .iload_n 1, 1, 0, 0, 0, [])]
def s89_1 : List Ent := [(1, .invokestatic 170, 3, 107, 1, 0, [])]
def s89_2 : List Ent := [(4, .ifCond .ne 9, 3, 13, 0, 0, [])]
def s89_3 : List Ent := [(7, .aload_n 0, 1, 0, 0, 0, []), (8, .iconst (-1), 1, 0, 0, 0, [])]
def s89_4 : List Ent := [(9, .invokevirtual 112, 3, 97, 1, 7, [])]
def s89_5 : List Ent := [(12, .ireturn, 1, 0, 0, 0, [])]
def s89_6 : List Ent := [(13, .aload_n 0, 1, 0, 0, 0, []), (14, .iload_n 1, 1, 0, 0, 0, [])]
def s89_7 : List Ent := [(15, .invokevirtual 173, 3, 108, 1, 7, [])]
def s89_8 : List Ent := [(18, .ifCond .eq 10, 3, 28, 0, 0, [])]
def s89_9 : List Ent := [(21, .aload_n 0, 1, 0, 0, 0, []), (22, .bipush (-11), 2, 0, 0, 0, [])]
def s89_10 : List Ent := [(24, .invokevirtual 112, 3, 97, 1, 7, [])]
def s89_11 : List Ent := [(27, .ireturn, 1, 0, 0, 0, [])]
def s89_12 : List Ent := [(28, .aload_n 0, 1, 0, 0, 0, []), (29, .iload_n 1, 1, 0, 0, 0, []), (30, .iload_n 2, 1, 0, 0, 0, [])]
def s89_13 : List Ent := [(31, .invokevirtual 325, 3, 109, 2, 7, [])]
def s89_14 : List Ent := [(34, .ifCond .eq 14, 3, 48, 0, 0, [])]
def s89_15 : List Ent := [(37, .aload_n 0, 1, 0, 0, 0, []), (38, .getfield 62, 3, 7, 10, 2, []), (41, .iload_n 1, 1, 0, 0, 0, []), (42, .aaload, 1, 0, 0, 0, []), (43, .iload_n 2, 1, 0, 0, 0, []), (44, .iaload, 1, 0, 0, 0, []), (45, .goto 9, 3, 54, 0, 0, [])]
def s89_16 : List Ent := [(48, .aload_n 0, 1, 0, 0, 0, []), (49, .bipush (-13), 2, 0, 0, 0, [])]
def s89_17 : List Ent := [(51, .invokevirtual 112, 3, 97, 1, 7, [])]
def s89_18 : List Ent := [(54, .ireturn, 1, 0, 0, 0, [])]
def sg89 : List (List Ent) := [s89_0, s89_1, s89_2, s89_3, s89_4, s89_5, s89_6, s89_7, s89_8, s89_9, s89_10, s89_11, s89_12, s89_13, s89_14, s89_15, s89_16, s89_17, s89_18]
theorem ch89 : chkM mi89.2.1 mi89.2.2.1 mi89.2.2.2 lkRX7 sg89 = true := by decide +kernel
def s90_0 : List Ent := [(0, .iload_n 1, 1, 0, 0, 0, [])]
def s90_1 : List Ent := [(1, .invokestatic 170, 3, 107, 1, 0, [])]
def s90_2 : List Ent := [(4, .ifCond .eq 11, 3, 15, 0, 0, [])]
def s90_3 : List Ent := [(7, .aload_n 0, 1, 0, 0, 0, []), (8, .iload_n 3, 1, 0, 0, 0, [])]
def s90_4 : List Ent := [(9, .invokevirtual 160, 3, 104, 1, 7, [])]
def s90_5 : List Ent := [(12, .ifCond .ne 9, 3, 21, 0, 0, [])]
def s90_6 : List Ent := [(15, .aload_n 0, 1, 0, 0, 0, []), (16, .iconst (-1), 1, 0, 0, 0, [])]
def s90_7 : List Ent := [(17, .invokevirtual 80, 3, 96, 1, 7, [])]
def s90_8 : List Ent := [(20, .ireturn, 1, 0, 0, 0, [])]
def s90_9 : List Ent := [(21, .aload_n 0, 1, 0, 0, 0, []), (22, .iload_n 1, 1, 0, 0, 0, [])]
def s90_10 : List Ent := [(23, .invokevirtual 173, 3, 108, 1, 7, [])]
def s90_11 : List Ent := [(26, .ifCond .eq 6, 3, 32, 0, 0, [])]
def s90_12 : List Ent := [(29, .bipush (-11), 2, 0, 0, 0, [])]
def s90_13 : List Ent := [(31, .ireturn, 1, 0, 0, 0, [])]
def s90_14 : List Ent := [(32, .iload_n 2, 1, 0, 0, 0, []), (33, .ifCond .lt 21, 3, 54, 0, 0, [])]
def s90_15 : List Ent := [(36, .iload_n 2, 1, 0, 0, 0, []), (37, .aload_n 0, 1, 0, 0, 0, []), (38, .getfield 65, 3, 7, 11, 2, []), (41, .iload_n 1, 1, 0, 0, 0, []), (42, .iaload, 1, 0, 0, 0, []), (43, .aload_n 0, 1, 0, 0, 0, []), (44, .getfield 10, 3, 7, 0, 2, []), (47, .getfield 92, 3, 3, 0, 0, []), (50, .isub, 1, 0, 0, 0, []), (51, .if_icmp .le 6, 3, 57, 0, 0, [])]
def s90_16 : List Ent := [(54, .bipush (-13), 2, 0, 0, 0, [])]
def s90_17 : List Ent := [(56, .ireturn, 1, 0, 0, 0, [])]
def s90_18 : List Ent := [(57, .aload_n 0, 1, 0, 0, 0, []), (58, .getfield 29, 3, 7, 4, 2, []), (61, .getfield 148, 3, 6, 4, 2, []), (64, .aload_n 0, 1, 0, 0, 0, []), (65, .getfield 29, 3, 7, 4, 2, []), (68, .iload_n 3, 1, 0, 0, 0, [])]
def s90_19 : List Ent := [(69, .invokevirtual 163, 3, 52, 1, 6, [])]
def s90_20 : List Ent := [(72, .aload_n 0, 1, 0, 0, 0, []), (73, .getfield 68, 3, 7, 12, 2, [])]
def s90_21 : List Ent := [(76, .invokevirtual 166, 3, 7, 2, 1, [])]
def s90_22 : List Ent := [(79, .aload_n 0, 1, 0, 0, 0, []), (80, .getfield 68, 3, 7, 12, 2, []), (83, .iconst 0, 1, 0, 0, 0, []), (84, .aload_n 0, 1, 0, 0, 0, []), (85, .getfield 62, 3, 7, 10, 2, []), (88, .iload_n 1, 1, 0, 0, 0, []), (89, .aaload, 1, 0, 0, 0, []), (90, .iload_n 2, 1, 0, 0, 0, []), (91, .aload_n 0, 1, 0, 0, 0, []), (92, .getfield 10, 3, 7, 0, 2, []), (95, .getfield 92, 3, 3, 0, 0, []), (98, .invokestatic 328, 3, 0, 0, 7, []), (101, .aload_n 0, 1, 0, 0, 0, []), (102, .getfield 10, 3, 7, 0, 2, []), (105, .getfield 92, 3, 3, 0, 0, [])]
def s90_23 : List Ent := [(108, .ireturn, 1, 0, 0, 0, [])]
def sg90 : List (List Ent) := [s90_0, s90_1, s90_2, s90_3, s90_4, s90_5, s90_6, s90_7, s90_8, s90_9, s90_10, s90_11, s90_12, s90_13, s90_14, s90_15, s90_16, s90_17, s90_18, s90_19, s90_20, s90_21, s90_22, s90_23]
theorem ch90 : chkM mi90.2.1 mi90.2.2.1 mi90.2.2.2 lkRX7 sg90 = true := by decide +kernel
def s91_0 : List Ent := [(0, .iload_n 1, 1, 0, 0, 0, [])]
def s91_1 : List Ent := [(1, .invokestatic 170, 3, 107, 1, 0, [])]
def s91_2 : List Ent := [(4, .ifCond .ne 9, 3, 13, 0, 0, [])]
def s91_3 : List Ent := [(7, .aload_n 0, 1, 0, 0, 0, []), (8, .iconst (-1), 1, 0, 0, 0, [])]
def s91_4 : List Ent := [(9, .invokevirtual 80, 3, 96, 1, 7, [])]
def s91_5 : List Ent := [(12, .ireturn, 1, 0, 0, 0, [])]
def s91_6 : List Ent := [(13, .aload_n 0, 1, 0, 0, 0, []), (14, .iload_n 1, 1, 0, 0, 0, [])]
def s91_7 : List Ent := [(15, .invokevirtual 173, 3, 108, 1, 7, [])]
def s91_8 : List Ent := [(18, .ifCond .eq 6, 3, 24, 0, 0, [])]
def s91_9 : List Ent := [(21, .bipush (-11), 2, 0, 0, 0, [])]
def s91_10 : List Ent := [(23, .ireturn, 1, 0, 0, 0, [])]
def s91_11 : List Ent := [(24, .iconst 0, 1, 0, 0, 0, []), (25, .istore_n 2, 1, 0, 0, 0, [])]
def s91_12 : List Ent := [(26, .iload_n 2, 1, 0, 0, 0, []), (27, .aload_n 0, 1, 0, 0, 0, []), (28, .getfield 65, 3, 7, 11, 2, []), (31, .iload_n 1, 1, 0, 0, 0, []), (32, .iaload, 1, 0, 0, 0, []), (33, .if_icmp .ge 47, 3, 80, 0, 0, [])]
def s91_13 : List Ent := [(36, .iload_n 2, 1, 0, 0, 0, []), (37, .iconst 5, 1, 0, 0, 0, []), (38, .idiv, 1, 0, 0, 0, []), (39, .istore_n 3, 1, 0, 0, 0, []), (40, .aload_n 0, 1, 0, 0, 0, []), (41, .iload_n 3, 1, 0, 0, 0, [])]
def s91_14 : List Ent := [(42, .invokevirtual 106, 3, 99, 1, 7, [])]
def s91_15 : List Ent := [(45, .ifCond .eq 27, 3, 72, 0, 0, [])]
def s91_16 : List Ent := [(48, .aload_n 0, 1, 0, 0, 0, []), (49, .getfield 62, 3, 7, 10, 2, []), (52, .iload_n 1, 1, 0, 0, 0, []), (53, .aaload, 1, 0, 0, 0, []), (54, .iload_n 2, 1, 0, 0, 0, []), (55, .iaload, 1, 0, 0, 0, []), (56, .aload_n 0, 1, 0, 0, 0, []), (57, .getfield 29, 3, 7, 4, 2, []), (60, .getfield 133, 3, 6, 2, 2, []), (63, .iload_n 3, 1, 0, 0, 0, []), (64, .aaload, 1, 0, 0, 0, []), (65, .iload_n 2, 1, 0, 0, 0, []), (66, .iconst 5, 1, 0, 0, 0, []), (67, .irem, 1, 0, 0, 0, []), (68, .iaload, 1, 0, 0, 0, []), (69, .if_icmp .eq 5, 3, 74, 0, 0, [])]
def s91_17 : List Ent := [(72, .iload_n 2, 1, 0, 0, 0, [])]
def s91_18 : List Ent := [(73, .ireturn, 1, 0, 0, 0, [])]
def s91_19 : List Ent := [(74, .iinc 2 1, 3, 0, 0, 0, []), (77, .goto (-51), 3, 26, 0, 0, [])]
def s91_20 : List Ent := [(80, .bipush (-9), 2, 0, 0, 0, [])]
def s91_21 : List Ent := [(82, .ireturn, 1, 0, 0, 0, [])]
def sg91 : List (List Ent) := [s91_0, s91_1, s91_2, s91_3, s91_4, s91_5, s91_6, s91_7, s91_8, s91_9, s91_10, s91_11, s91_12, s91_13, s91_14, s91_15, s91_16, s91_17, s91_18, s91_19, s91_20, s91_21]
theorem ch91 : chkM mi91.2.1 mi91.2.2.1 mi91.2.2.2 lkRX7 sg91 = true := by decide +kernel
def s92_0 : List Ent := [(0, .aload_n 0, 1, 0, 0, 0, []), (1, .getfield 22, 3, 7, 3, 2, []), (4, .getfield 334, 3, 2, 2, 0, []), (7, .ifCond .ne 10, 3, 17, 0, 0, [])]
def s92_1 : List Ent := [(10, .aload_n 0, 1, 0, 0, 0, []), (11, .bipush (-3), 2, 0, 0, 0, [])]
def s92_2 : List Ent := [(13, .invokevirtual 80, 3, 96, 1, 7, [])]
def s92_3 : List Ent := [(16, .ireturn, 1, 0, 0, 0, [])]
def s92_4 : List Ent := [(17, .aload_n 0, 1, 0, 0, 0, []), (18, .getfield 22, 3, 7, 3, 2, []), (21, .aload_n 0, 1, 0, 0, 0, []), (22, .getfield 10, 3, 7, 0, 2, [])]
def s92_5 : List Ent := [(25, .invokevirtual 335, 3, 10, 1, 2, [])]
def s92_6 : List Ent := [(28, .aload_n 0, 1, 0, 0, 0, []), (29, .getfield 29, 3, 7, 4, 2, []), (32, .aload_n 0, 1, 0, 0, 0, []), (33, .getfield 10, 3, 7, 0, 2, [])]
def s92_7 : List Ent := [(36, .invokevirtual 102, 3, 48, 1, 6, [])]
def s92_8 : List Ent := [(39, .aload_n 0, 1, 0, 0, 0, []), (40, .getfield 22, 3, 7, 3, 2, []), (43, .getfield 334, 3, 2, 2, 0, [])]
def s92_9 : List Ent := [(46, .ireturn, 1, 0, 0, 0, [])]
def sg92 : List (List Ent) := [s92_0, s92_1, s92_2, s92_3, s92_4, s92_5, s92_6, s92_7, s92_8, s92_9]
theorem ch92 : chkM mi92.2.1 mi92.2.2.1 mi92.2.2.2 lkRX7 sg92 = true := by decide +kernel
def s93_0 : List Ent := [(0, .aload_n 0, 1, 0, 0, 0, []), (1, .getfield 16, 3, 7, 1, 2, []), (4, .aload_n 0, 1, 0, 0, 0, []), (5, .getfield 10, 3, 7, 0, 2, [])]
def s93_1 : List Ent := [(8, .invokevirtual 338, 3, 11, 1, 3, [])]
def s93_2 : List Ent := [(11, .aload_n 0, 1, 0, 0, 0, []), (12, .iconst 1, 1, 0, 0, 0, []), (13, .putfield 341, 3, 7, 2, 3, []), (16, .aload_n 0, 1, 0, 0, 0, []), (17, .getfield 10, 3, 7, 0, 2, []), (20, .getfield 92, 3, 3, 0, 0, [])]
def s93_3 : List Ent := [(23, .ireturn, 1, 0, 0, 0, [])]
def sg93 : List (List Ent) := [s93_0, s93_1, s93_2, s93_3]
theorem ch93 : chkM mi93.2.1 mi93.2.2.1 mi93.2.2.2 lkRX7 sg93 = true := by decide +kernel
def s94_0 : List Ent := [(0, .aload_n 0, 1, 0, 0, 0, []), (1, .getfield 341, 3, 7, 2, 3, []), (4, .ifCond .ne 10, 3, 14, 0, 0, [])]
def s94_1 : List Ent := [(7, .aload_n 0, 1, 0, 0, 0, []), (8, .bipush (-3), 2, 0, 0, 0, [])]
def s94_2 : List Ent := [(10, .invokevirtual 80, 3, 96, 1, 7, [])]
def s94_3 : List Ent := [(13, .ireturn, 1, 0, 0, 0, [])]
def s94_4 : List Ent := [(14, .aload_n 0, 1, 0, 0, 0, []), (15, .getfield 10, 3, 7, 0, 2, []), (18, .aload_n 0, 1, 0, 0, 0, []), (19, .getfield 16, 3, 7, 1, 2, [])]
def s94_5 : List Ent := [(22, .invokevirtual 338, 3, 11, 1, 3, [])]
def s94_6 : List Ent := [(25, .aload_n 0, 1, 0, 0, 0, []), (26, .getfield 22, 3, 7, 3, 2, [])]
def s94_7 : List Ent := [(29, .invokevirtual 99, 3, 9, 0, 2, [])]
def s94_8 : List Ent := [(32, .aload_n 0, 1, 0, 0, 0, []), (33, .getfield 29, 3, 7, 4, 2, []), (36, .aload_n 0, 1, 0, 0, 0, []), (37, .getfield 10, 3, 7, 0, 2, [])]
def s94_9 : List Ent := [(40, .invokevirtual 102, 3, 48, 1, 6, [])]
def s94_10 : List Ent := [(43, .aload_n 0, 1, 0, 0, 0, []), (44, .getfield 10, 3, 7, 0, 2, []), (47, .getfield 92, 3, 3, 0, 0, [])]
def s94_11 : List Ent := [(50, .ireturn, 1, 0, 0, 0, [])]
def sg94 : List (List Ent) := [s94_0, s94_1, s94_2, s94_3, s94_4, s94_5, s94_6, s94_7, s94_8, s94_9, s94_10, s94_11]
theorem ch94 : chkM mi94.2.1 mi94.2.2.1 mi94.2.2.2 lkRX7 sg94 = true := by decide +kernel
def s95_0 : List Ent := [(0, .iload_n 1, 1, 0, 0, 0, []), (1, .ifCond .ne 11, 3, 12, 0, 0, [])]
def s95_1 : List Ent := [(4, .aload_n 0, 1, 0, 0, 0, []), (5, .getfield 10, 3, 7, 0, 2, []), (8, .getfield 92, 3, 3, 0, 0, [])]
def s95_2 : List Ent := [(11, .ireturn, 1, 0, 0, 0, [])]
def s95_3 : List Ent := [(12, .iload_n 1, 1, 0, 0, 0, []), (13, .iconst 1, 1, 0, 0, 0, []), (14, .if_icmp .ne 8, 3, 22, 0, 0, [])]
def s95_4 : List Ent := [(17, .aload_n 0, 1, 0, 0, 0, []), (18, .getfield 84, 3, 7, 9, 0, [])]
def s95_5 : List Ent := [(21, .ireturn, 1, 0, 0, 0, [])]
def s95_6 : List Ent := [(22, .iload_n 1, 1, 0, 0, 0, []), (23, .iconst 2, 1, 0, 0, 0, []), (24, .if_icmp .ne 11, 3, 35, 0, 0, [])]
def s95_7 : List Ent := [(27, .aload_n 0, 1, 0, 0, 0, []), (28, .getfield 10, 3, 7, 0, 2, [])]
def s95_8 : List Ent := [(31, .invokevirtual 345, 3, 16, 0, 3, [])]
def s95_9 : List Ent := [(34, .ireturn, 1, 0, 0, 0, [])]
def s95_10 : List Ent := [(35, .iload_n 1, 1, 0, 0, 0, []), (36, .iconst 3, 1, 0, 0, 0, []), (37, .if_icmp .ne 11, 3, 48, 0, 0, [])]
def s95_11 : List Ent := [(40, .aload_n 0, 1, 0, 0, 0, []), (41, .getfield 10, 3, 7, 0, 2, []), (44, .getfield 348, 3, 3, 7, 0, [])]
def s95_12 : List Ent := [(47, .ireturn, 1, 0, 0, 0, [])]
def s95_13 : List Ent := [(48, .iload_n 1, 1, 0, 0, 0, []), (49, .iconst 4, 1, 0, 0, 0, []), (50, .if_icmp .ne 11, 3, 61, 0, 0, [])]
def s95_14 : List Ent := [(53, .aload_n 0, 1, 0, 0, 0, []), (54, .getfield 22, 3, 7, 3, 2, []), (57, .getfield 334, 3, 2, 2, 0, [])]
def s95_15 : List Ent := [(60, .ireturn, 1, 0, 0, 0, [])]
def s95_16 : List Ent := [(61, .iload_n 1, 1, 0, 0, 0, []), (62, .bipush 11, 2, 0, 0, 0, []), (64, .if_icmp .lt 21, 3, 85, 0, 0, [])]
def s95_17 : List Ent := [(67, .iload_n 1, 1, 0, 0, 0, []), (68, .bipush 16, 2, 0, 0, 0, []), (70, .if_icmp .gt 15, 3, 85, 0, 0, [])]
def s95_18 : List Ent := [(73, .aload_n 0, 1, 0, 0, 0, []), (74, .getfield 77, 3, 7, 15, 2, []), (77, .iload_n 1, 1, 0, 0, 0, []), (78, .bipush 10, 2, 0, 0, 0, []), (80, .isub, 1, 0, 0, 0, []), (81, .iaload, 1, 0, 0, 0, []), (82, .goto 5, 3, 87, 0, 0, [])]
def s95_19 : List Ent := [(85, .bipush (-9), 2, 0, 0, 0, [])]
def s95_20 : List Ent := [(87, .ireturn, 1, 0, 0, 0, [])]
def sg95 : List (List Ent) := [s95_0, s95_1, s95_2, s95_3, s95_4, s95_5, s95_6, s95_7, s95_8, s95_9, s95_10, s95_11, s95_12, s95_13, s95_14, s95_15, s95_16, s95_17, s95_18, s95_19, s95_20]
theorem ch95 : chkM mi95.2.1 mi95.2.2.1 mi95.2.2.2 lkRX7 sg95 = true := by decide +kernel
def s96_0 : List Ent := [(0, .iload_n 1, 1, 0, 0, 0, []), (1, .iconst (-1), 1, 0, 0, 0, []), (2, .if_icmp .gt 20, 3, 22, 0, 0, [])]
def s96_1 : List Ent := [(5, .iload_n 1, 1, 0, 0, 0, []), (6, .bipush (-6), 2, 0, 0, 0, []), (8, .if_icmp .lt 14, 3, 22, 0, 0, [])]
def s96_2 : List Ent := [(11, .aload_n 0, 1, 0, 0, 0, []), (12, .getfield 77, 3, 7, 15, 2, []), (15, .iload_n 1, 1, 0, 0, 0, []), (16, .ineg, 1, 0, 0, 0, []), (17, .dup2, 1, 0, 0, 0, []), (18, .iaload, 1, 0, 0, 0, []), (19, .iconst 1, 1, 0, 0, 0, []), (20, .iadd, 1, 0, 0, 0, []), (21, .iastore, 1, 0, 0, 0, [])]
def s96_3 : List Ent := [(22, .iload_n 1, 1, 0, 0, 0, [])]
def s96_4 : List Ent := [(23, .ireturn, 1, 0, 0, 0, [])]
def sg96 : List (List Ent) := [s96_0, s96_1, s96_2, s96_3, s96_4]
theorem ch96 : chkM mi96.2.1 mi96.2.2.1 mi96.2.2.2 lkRX7 sg96 = true := by decide +kernel
def s97_0 : List Ent := [(0, .ldc_w 349, 3, 0, 0, 0, [1000000000]), (3, .aload_n 0, 1, 0, 0, 0, []), (4, .iload_n 1, 1, 0, 0, 0, [])]
def s97_1 : List Ent := [(5, .invokevirtual 80, 3, 96, 1, 7, [])]
def s97_2 : List Ent := [(8, .isub, 1, 0, 0, 0, [])]
def s97_3 : List Ent := [(9, .ireturn, 1, 0, 0, 0, [])]
def sg97 : List (List Ent) := [s97_0, s97_1, s97_2, s97_3]
theorem ch97 : chkM mi97.2.1 mi97.2.2.1 mi97.2.2.2 lkRX7 sg97 = true := by decide +kernel
def s98_0 : List Ent := [(0, .ldc2_w 350, 3, 0, 0, 0, [4000000000000000000]), (3, .aload_n 0, 1, 0, 0, 0, []), (4, .iload_n 1, 1, 0, 0, 0, [])]
def s98_1 : List Ent := [(5, .invokevirtual 80, 3, 96, 1, 7, [])]
def s98_2 : List Ent := [(8, .i2l, 1, 0, 0, 0, []), (9, .lsub, 1, 0, 0, 0, [])]
def s98_3 : List Ent := [(10, .lreturn, 1, 0, 0, 0, [])]
def sg98 : List (List Ent) := [s98_0, s98_1, s98_2, s98_3]
theorem ch98 : chkM mi98.2.1 mi98.2.2.1 mi98.2.2.2 lkRX7 sg98 = true := by decide +kernel
def s99_0 : List Ent := [(0, .iload_n 1, 1, 0, 0, 0, []), (1, .ifCond .lt 18, 3, 19, 0, 0, [])]
def s99_1 : List Ent := [(4, .iload_n 1, 1, 0, 0, 0, []), (5, .aload_n 0, 1, 0, 0, 0, []), (6, .getfield 10, 3, 7, 0, 2, []), (9, .getfield 92, 3, 3, 0, 0, []), (12, .if_icmp .ge 7, 3, 19, 0, 0, [])]
def s99_2 : List Ent := [(15, .iconst 1, 1, 0, 0, 0, []), (16, .goto 4, 3, 20, 0, 0, [])]
def s99_3 : List Ent := [(19, .iconst 0, 1, 0, 0, 0, [])]
def s99_4 : List Ent := [(20, .ireturn, 1, 1, 0, 0, [])]
def sg99 : List (List Ent) := [s99_0, s99_1, s99_2, s99_3, s99_4]
theorem ch99 : chkM mi99.2.1 mi99.2.2.1 mi99.2.2.2 lkRX7 sg99 = true := by decide +kernel
def s100_0 : List Ent := [(0, .iload_n 0, 1, 0, 0, 0, []), (1, .ifCond .lt 12, 3, 13, 0, 0, [])]
def s100_1 : List Ent := [(4, .iload_n 0, 1, 0, 0, 0, []), (5, .iconst 5, 1, 0, 0, 0, []), (6, .if_icmp .ge 7, 3, 13, 0, 0, [])]
def s100_2 : List Ent := [(9, .iconst 1, 1, 0, 0, 0, []), (10, .goto 4, 3, 14, 0, 0, [])]
def s100_3 : List Ent := [(13, .iconst 0, 1, 0, 0, 0, [])]
def s100_4 : List Ent := [(14, .ireturn, 1, 1, 0, 0, [])]
def sg100 : List (List Ent) := [s100_0, s100_1, s100_2, s100_3, s100_4]
theorem ch100 : chkM mi100.2.1 mi100.2.2.1 mi100.2.2.2 lkRX7 sg100 = true := by decide +kernel
def s101_0 : List Ent := [(0, .iload_n 0, 1, 0, 0, 0, []), (1, .ifCond .lt 13, 3, 14, 0, 0, [])]
def s101_1 : List Ent := [(4, .iload_n 0, 1, 0, 0, 0, []), (5, .bipush 6, 2, 0, 0, 0, []), (7, .if_icmp .ge 7, 3, 14, 0, 0, [])]
def s101_2 : List Ent := [(10, .iconst 1, 1, 0, 0, 0, []), (11, .goto 4, 3, 15, 0, 0, [])]
def s101_3 : List Ent := [(14, .iconst 0, 1, 0, 0, 0, [])]
def s101_4 : List Ent := [(15, .ireturn, 1, 1, 0, 0, [])]
def sg101 : List (List Ent) := [s101_0, s101_1, s101_2, s101_3, s101_4]
theorem ch101 : chkM mi101.2.1 mi101.2.2.1 mi101.2.2.2 lkRX7 sg101 = true := by decide +kernel
def s102_0 : List Ent := [(0, .iload_n 0, 1, 0, 0, 0, []), (1, .ifCond .eq 8, 3, 9, 0, 0, [])]
def s102_1 : List Ent := [(4, .iload_n 0, 1, 0, 0, 0, []), (5, .iconst 1, 1, 0, 0, 0, []), (6, .if_icmp .ne 7, 3, 13, 0, 0, [])]
def s102_2 : List Ent := [(9, .iconst 1, 1, 0, 0, 0, []), (10, .goto 4, 3, 14, 0, 0, [])]
def s102_3 : List Ent := [(13, .iconst 0, 1, 0, 0, 0, [])]
def s102_4 : List Ent := [(14, .ireturn, 1, 1, 0, 0, [])]
def sg102 : List (List Ent) := [s102_0, s102_1, s102_2, s102_3, s102_4]
theorem ch102 : chkM mi102.2.1 mi102.2.2.1 mi102.2.2.2 lkRX7 sg102 = true := by decide +kernel
def s103_0 : List Ent := [(0, .getstatic 264, 3, 1004, 0, 0, []), (3, .astore_n 1, 1, 0, 0, 0, []), (4, .aload_n 1, 1, 0, 0, 0, []), (5, .arraylength, 1, 0, 0, 1, []), (6, .istore_n 2, 1, 0, 0, 0, []), (7, .iconst 0, 1, 0, 0, 0, []), (8, .istore_n 3, 1, 0, 0, 0, [])]
def s103_1 : List Ent := [(9, .iload_n 3, 1, 0, 0, 0, []), (10, .iload_n 2, 1, 0, 0, 0, []), (11, .if_icmp .ge 22, 3, 33, 0, 0, [])]
def s103_2 : List Ent := [(14, .aload_n 1, 1, 0, 0, 0, []), (15, .iload_n 3, 1, 0, 0, 0, []), (16, .iaload, 1, 0, 0, 1, []), (17, .istore 4, 2, 0, 0, 0, []), (19, .iload 4, 2, 0, 0, 0, []), (21, .iload_n 0, 1, 0, 0, 0, []), (22, .if_icmp .ne 5, 3, 27, 0, 0, [])]
def s103_3 : List Ent := [(25, .iconst 1, 1, 0, 0, 0, [])]
def s103_4 : List Ent := [(26, .ireturn, 1, 1, 0, 0, [])]
def s103_5 : List Ent := [(27, .iinc 3 1, 3, 0, 0, 0, []), (30, .goto (-21), 3, 9, 0, 0, [])]
def s103_6 : List Ent := [(33, .iconst 0, 1, 0, 0, 0, [])]
def s103_7 : List Ent := [(34, .ireturn, 1, 1, 0, 0, [])]
def sg103 : List (List Ent) := [s103_0, s103_1, s103_2, s103_3, s103_4, s103_5, s103_6, s103_7]
theorem ch103 : chkM mi103.2.1 mi103.2.2.1 mi103.2.2.2 lkRX7 sg103 = true := by decide +kernel
def s104_0 : List Ent := [(0, .iload_n 1, 1, 0, 0, 0, []), (1, .ifCond .lt 29, 3, 30, 0, 0, [])]
def s104_1 : List Ent := [(4, .iload_n 1, 1, 0, 0, 0, []), (5, .aload_n 0, 1, 0, 0, 0, []), (6, .getfield 29, 3, 7, 4, 2, []), (9, .getfield 140, 3, 6, 0, 0, []), (12, .aload_n 0, 1, 0, 0, 0, []), (13, .getfield 29, 3, 7, 4, 2, []), (16, .getfield 148, 3, 6, 4, 2, []), (19, .getfield 152, 3, 1, 3, 0, []), (22, .isub, 1, 0, 0, 0, []), (23, .if_icmp .ge 7, 3, 30, 0, 0, [])]
def s104_2 : List Ent := [(26, .iconst 1, 1, 0, 0, 0, []), (27, .goto 4, 3, 31, 0, 0, [])]
def s104_3 : List Ent := [(30, .iconst 0, 1, 0, 0, 0, [])]
def s104_4 : List Ent := [(31, .ireturn, 1, 1, 0, 0, [])]
def sg104 : List (List Ent) := [s104_0, s104_1, s104_2, s104_3, s104_4]
theorem ch104 : chkM mi104.2.1 mi104.2.2.1 mi104.2.2.2 lkRX7 sg104 = true := by decide +kernel
def s105_0 : List Ent := [(0, .iload_n 1, 1, 0, 0, 0, []), (1, .ifCond .lt 20, 3, 21, 0, 0, [])]
def s105_1 : List Ent := [(4, .iload_n 1, 1, 0, 0, 0, []), (5, .iconst 1, 1, 0, 0, 0, []), (6, .aload_n 0, 1, 0, 0, 0, []), (7, .getfield 10, 3, 7, 0, 2, []), (10, .getfield 92, 3, 3, 0, 0, []), (13, .ishl, 1, 0, 0, 0, []), (14, .if_icmp .ge 7, 3, 21, 0, 0, [])]
def s105_2 : List Ent := [(17, .iconst 1, 1, 0, 0, 0, []), (18, .goto 4, 3, 22, 0, 0, [])]
def s105_3 : List Ent := [(21, .iconst 0, 1, 0, 0, 0, [])]
def s105_4 : List Ent := [(22, .ireturn, 1, 1, 0, 0, [])]
def sg105 : List (List Ent) := [s105_0, s105_1, s105_2, s105_3, s105_4]
theorem ch105 : chkM mi105.2.1 mi105.2.2.1 mi105.2.2.2 lkRX7 sg105 = true := by decide +kernel
def s106_0 : List Ent := [(0, .aload_n 0, 1, 0, 0, 0, []), (1, .iload_n 1, 1, 0, 0, 0, [])]
def s106_1 : List Ent := [(2, .invokevirtual 206, 3, 105, 1, 7, [])]
def s106_2 : List Ent := [(5, .ifCond .eq 23, 3, 28, 0, 0, [])]
def s106_3 : List Ent := [(8, .aload_n 0, 1, 0, 0, 0, []), (9, .iload_n 2, 1, 0, 0, 0, [])]
def s106_4 : List Ent := [(10, .invokevirtual 106, 3, 99, 1, 7, [])]
def s106_5 : List Ent := [(13, .ifCond .eq 15, 3, 28, 0, 0, [])]
def s106_6 : List Ent := [(16, .iload_n 1, 1, 0, 0, 0, []), (17, .iload_n 2, 1, 0, 0, 0, [])]
def s106_7 : List Ent := [(18, .invokestatic 129, 3, 112, 2, 0, [])]
def s106_8 : List Ent := [(21, .ifCond .ne 7, 3, 28, 0, 0, [])]
def s106_9 : List Ent := [(24, .iconst 1, 1, 0, 0, 0, []), (25, .goto 4, 3, 29, 0, 0, [])]
def s106_10 : List Ent := [(28, .iconst 0, 1, 0, 0, 0, [])]
def s106_11 : List Ent := [(29, .ireturn, 1, 1, 0, 0, [])]
def sg106 : List (List Ent) := [s106_0, s106_1, s106_2, s106_3, s106_4, s106_5, s106_6, s106_7, s106_8, s106_9, s106_10, s106_11]
theorem ch106 : chkM mi106.2.1 mi106.2.2.1 mi106.2.2.2 lkRX7 sg106 = true := by decide +kernel
def s107_0 : List Ent := [(0, .iload_n 0, 1, 0, 0, 0, []), (1, .ifCond .lt 12, 3, 13, 0, 0, [])]
def s107_1 : List Ent := [(4, .iload_n 0, 1, 0, 0, 0, []), (5, .iconst 3, 1, 0, 0, 0, []), (6, .if_icmp .ge 7, 3, 13, 0, 0, [])]
def s107_2 : List Ent := [(9, .iconst 1, 1, 0, 0, 0, []), (10, .goto 4, 3, 14, 0, 0, [])]
def s107_3 : List Ent := [(13, .iconst 0, 1, 0, 0, 0, [])]
def s107_4 : List Ent := [(14, .ireturn, 1, 1, 0, 0, [])]
def sg107 : List (List Ent) := [s107_0, s107_1, s107_2, s107_3, s107_4]
theorem ch107 : chkM mi107.2.1 mi107.2.2.1 mi107.2.2.2 lkRX7 sg107 = true := by decide +kernel
def s108_0 : List Ent := [(0, .aload_n 0, 1, 0, 0, 0, []), (1, .getfield 65, 3, 7, 11, 2, []), (4, .iload_n 1, 1, 0, 0, 0, []), (5, .iaload, 1, 0, 0, 0, []), (6, .ifCond .ge 7, 3, 13, 0, 0, [])]
def s108_1 : List Ent := [(9, .iconst 1, 1, 0, 0, 0, []), (10, .goto 4, 3, 14, 0, 0, [])]
def s108_2 : List Ent := [(13, .iconst 0, 1, 0, 0, 0, [])]
def s108_3 : List Ent := [(14, .ireturn, 1, 1, 0, 0, [])]
def sg108 : List (List Ent) := [s108_0, s108_1, s108_2, s108_3]
theorem ch108 : chkM mi108.2.1 mi108.2.2.1 mi108.2.2.2 lkRX7 sg108 = true := by decide +kernel
def s109_0 : List Ent := [(0, .iload_n 2, 1, 0, 0, 0, []), (1, .ifCond .lt 17, 3, 18, 0, 0, [])]
def s109_1 : List Ent := [(4, .iload_n 2, 1, 0, 0, 0, []), (5, .aload_n 0, 1, 0, 0, 0, []), (6, .getfield 65, 3, 7, 11, 2, []), (9, .iload_n 1, 1, 0, 0, 0, []), (10, .iaload, 1, 0, 0, 0, []), (11, .if_icmp .ge 7, 3, 18, 0, 0, [])]
def s109_2 : List Ent := [(14, .iconst 1, 1, 0, 0, 0, []), (15, .goto 4, 3, 19, 0, 0, [])]
def s109_3 : List Ent := [(18, .iconst 0, 1, 0, 0, 0, [])]
def s109_4 : List Ent := [(19, .ireturn, 1, 1, 0, 0, [])]
def sg109 : List (List Ent) := [s109_0, s109_1, s109_2, s109_3, s109_4]
theorem ch109 : chkM mi109.2.1 mi109.2.2.1 mi109.2.2.2 lkRX7 sg109 = true := by decide +kernel
def s110_0 : List Ent := [(0, .iconst 0, 1, 0, 0, 0, []), (1, .istore 4, 2, 0, 0, 0, [])]
def s110_1 : List Ent := [(3, .iload 4, 2, 0, 0, 0, []), (5, .iload_n 2, 1, 0, 0, 0, []), (6, .if_icmp .ge 56, 3, 62, 0, 0, [])]
def s110_2 : List Ent := [(9, .aload_n 3, 1, 0, 0, 0, []), (10, .iload 4, 2, 0, 0, 0, []), (12, .aload_n 0, 1, 0, 0, 0, []), (13, .iload_n 1, 1, 0, 0, 0, []), (14, .iload 4, 2, 0, 0, 0, [])]
def s110_3 : List Ent := [(16, .invokevirtual 325, 3, 109, 2, 7, [])]
def s110_4 : List Ent := [(19, .ifCond .eq 15, 3, 34, 0, 0, [])]
def s110_5 : List Ent := [(22, .aload_n 0, 1, 0, 0, 0, []), (23, .getfield 62, 3, 7, 10, 2, []), (26, .iload_n 1, 1, 0, 0, 0, []), (27, .aaload, 1, 0, 0, 0, []), (28, .iload 4, 2, 0, 0, 0, []), (30, .iaload, 1, 0, 0, 0, []), (31, .goto 4, 3, 35, 0, 0, [])]
def s110_6 : List Ent := [(34, .iconst 0, 1, 0, 0, 0, [])]
def s110_7 : List Ent := [(35, .iastore, 1, 0, 0, 0, []), (36, .aload_n 3, 1, 0, 0, 0, []), (37, .iload 4, 2, 0, 0, 0, []), (39, .iaload, 1, 0, 0, 0, []), (40, .bipush (-99), 2, 0, 0, 0, []), (42, .if_icmp .lt 12, 3, 54, 0, 0, [])]
def s110_8 : List Ent := [(45, .aload_n 3, 1, 0, 0, 0, []), (46, .iload 4, 2, 0, 0, 0, []), (48, .iaload, 1, 0, 0, 0, []), (49, .bipush 99, 2, 0, 0, 0, []), (51, .if_icmp .le 5, 3, 56, 0, 0, [])]
def s110_9 : List Ent := [(54, .iconst 0, 1, 0, 0, 0, [])]
def s110_10 : List Ent := [(55, .ireturn, 1, 1, 0, 0, [])]
def s110_11 : List Ent := [(56, .iinc 4 1, 3, 0, 0, 0, []), (59, .goto (-56), 3, 3, 0, 0, [])]
def s110_12 : List Ent := [(62, .iconst 1, 1, 0, 0, 0, [])]
def s110_13 : List Ent := [(63, .ireturn, 1, 1, 0, 0, [])]
def sg110 : List (List Ent) := [s110_0, s110_1, s110_2, s110_3, s110_4, s110_5, s110_6, s110_7, s110_8, s110_9, s110_10, s110_11, s110_12, s110_13]
theorem ch110 : chkM mi110.2.1 mi110.2.2.1 mi110.2.2.2 lkRX7 sg110 = true := by decide +kernel
def s111_0 : List Ent := [(0, .iconst 1, 1, 0, 0, 0, []), (1, .aload_n 0, 1, 0, 0, 0, []), (2, .getfield 10, 3, 7, 0, 2, []), (5, .getfield 92, 3, 3, 0, 0, []), (8, .ishl, 1, 0, 0, 0, []), (9, .iconst 1, 1, 0, 0, 0, []), (10, .isub, 1, 0, 0, 0, []), (11, .istore_n 2, 1, 0, 0, 0, []), (12, .getstatic 264, 3, 1004, 0, 0, []), (15, .astore_n 3, 1, 0, 0, 0, []), (16, .aload_n 3, 1, 0, 0, 0, []), (17, .arraylength, 1, 0, 0, 1, []), (18, .istore 4, 2, 0, 0, 0, []), (20, .iconst 0, 1, 0, 0, 0, []), (21, .istore 5, 2, 0, 0, 0, [])]
def s111_1 : List Ent := [(23, .iload 5, 2, 0, 0, 0, []), (25, .iload 4, 2, 0, 0, 0, []), (27, .if_icmp .ge 33, 3, 60, 0, 0, [])]
def s111_2 : List Ent := [(30, .aload_n 3, 1, 0, 0, 0, []), (31, .iload 5, 2, 0, 0, 0, []), (33, .iaload, 1, 0, 0, 1, []), (34, .istore 6, 2, 0, 0, 0, []), (36, .aload_n 0, 1, 0, 0, 0, []), (37, .getfield 10, 3, 7, 0, 2, []), (40, .aload_n 1, 1, 0, 0, 0, []), (41, .iload_n 2, 1, 0, 0, 0, []), (42, .iload 6, 2, 0, 0, 0, [])]
def s111_3 : List Ent := [(44, .invokevirtual 260, 3, 18, 3, 3, [])]
def s111_4 : List Ent := [(47, .lconst 0, 1, 0, 0, 0, []), (48, .lcmp, 1, 0, 0, 0, []), (49, .ifCond .eq 5, 3, 54, 0, 0, [])]
def s111_5 : List Ent := [(52, .iconst 1, 1, 0, 0, 0, [])]
def s111_6 : List Ent := [(53, .ireturn, 1, 1, 0, 0, [])]
def s111_7 : List Ent := [(54, .iinc 5 1, 3, 0, 0, 0, []), (57, .goto (-34), 3, 23, 0, 0, [])]
def s111_8 : List Ent := [(60, .iconst 0, 1, 0, 0, 0, [])]
def s111_9 : List Ent := [(61, .ireturn, 1, 1, 0, 0, [])]
def sg111 : List (List Ent) := [s111_0, s111_1, s111_2, s111_3, s111_4, s111_5, s111_6, s111_7, s111_8, s111_9]
theorem ch111 : chkM mi111.2.1 mi111.2.2.1 mi111.2.2.2 lkRX7 sg111 = true := by decide +kernel
def s112_0 : List Ent := [(0, .iload_n 0, 1, 0, 0, 0, []), (1, .iload_n 1, 1, 0, 0, 0, []), (2, .ishr, 1, 0, 0, 0, []), (3, .iconst 1, 1, 0, 0, 0, []), (4, .iand, 1, 0, 0, 0, [])]
def s112_1 : List Ent := [(5, .ireturn, 1, 0, 0, 0, [])]
def sg112 : List (List Ent) := [s112_0, s112_1]
theorem ch112 : chkM mi112.2.1 mi112.2.2.1 mi112.2.2.2 lkRX7 sg112 = true := by decide +kernel
def s113_0 : List Ent := [(0, .iconst 0, 1, 0, 0, 0, []), (1, .istore_n 1, 1, 0, 0, 0, []), (2, .iconst 0, 1, 0, 0, 0, []), (3, .istore_n 2, 1, 0, 0, 0, [])]
def s113_1 : List Ent := [(4, .iload_n 2, 1, 0, 0, 0, []), (5, .aload_n 0, 1, 0, 0, 0, []), (6, .arraylength, 1, 0, 0, 0, []), (7, .if_icmp .ge 25, 3, 32, 0, 0, [])]
def s113_2 : List Ent := [(10, .iload_n 1, 1, 0, 0, 0, []), (11, .aload_n 0, 1, 0, 0, 0, []), (12, .iload_n 2, 1, 0, 0, 0, []), (13, .iaload, 1, 0, 0, 0, []), (14, .ifCond .eq 9, 3, 23, 0, 0, [])]
def s113_3 : List Ent := [(17, .iconst 1, 1, 0, 0, 0, []), (18, .iload_n 2, 1, 0, 0, 0, []), (19, .ishl, 1, 0, 0, 0, []), (20, .goto 4, 3, 24, 0, 0, [])]
def s113_4 : List Ent := [(23, .iconst 0, 1, 0, 0, 0, [])]
def s113_5 : List Ent := [(24, .ior, 1, 0, 0, 0, []), (25, .istore_n 1, 1, 0, 0, 0, []), (26, .iinc 2 1, 3, 0, 0, 0, []), (29, .goto (-25), 3, 4, 0, 0, [])]
def s113_6 : List Ent := [(32, .iload_n 1, 1, 0, 0, 0, [])]
def s113_7 : List Ent := [(33, .ireturn, 1, 0, 0, 0, [])]
def sg113 : List (List Ent) := [s113_0, s113_1, s113_2, s113_3, s113_4, s113_5, s113_6, s113_7]
theorem ch113 : chkM mi113.2.1 mi113.2.2.1 mi113.2.2.2 lkRX7 sg113 = true := by decide +kernel
def s114_0 : List Ent := [(0, .aload_n 0, 1, 0, 0, 0, []), (1, .astore_n 1, 1, 0, 0, 0, []), (2, .aload_n 1, 1, 0, 0, 0, []), (3, .arraylength, 1, 0, 0, 0, []), (4, .istore_n 2, 1, 0, 0, 0, []), (5, .iconst 0, 1, 0, 0, 0, []), (6, .istore_n 3, 1, 0, 0, 0, [])]
def s114_1 : List Ent := [(7, .iload_n 3, 1, 0, 0, 0, []), (8, .iload_n 2, 1, 0, 0, 0, []), (9, .if_icmp .ge 21, 3, 30, 0, 0, [])]
def s114_2 : List Ent := [(12, .aload_n 1, 1, 0, 0, 0, []), (13, .iload_n 3, 1, 0, 0, 0, []), (14, .iaload, 1, 0, 0, 0, []), (15, .istore 4, 2, 0, 0, 0, []), (17, .iload 4, 2, 0, 0, 0, []), (19, .ifCond .eq 5, 3, 24, 0, 0, [])]
def s114_3 : List Ent := [(22, .iconst 0, 1, 0, 0, 0, [])]
def s114_4 : List Ent := [(23, .ireturn, 1, 1, 0, 0, [])]
def s114_5 : List Ent := [(24, .iinc 3 1, 3, 0, 0, 0, []), (27, .goto (-20), 3, 7, 0, 0, [])]
def s114_6 : List Ent := [(30, .iconst 1, 1, 0, 0, 0, [])]
def s114_7 : List Ent := [(31, .ireturn, 1, 1, 0, 0, [])]
def sg114 : List (List Ent) := [s114_0, s114_1, s114_2, s114_3, s114_4, s114_5, s114_6, s114_7]
theorem ch114 : chkM mi114.2.1 mi114.2.2.1 mi114.2.2.2 lkRX7 sg114 = true := by decide +kernel
def s115_0 : List Ent := [(0, .lload_n 0, 1, 0, 0, 0, []), (1, .invokestatic 352, 3, 0, 0, 9, []), (4, .lstore 4, 2, 0, 0, 0, []), (6, .lload_n 2, 1, 0, 0, 0, []), (7, .invokestatic 352, 3, 0, 0, 9, []), (10, .lstore 6, 2, 0, 0, 0, []), (12, .iconst 0, 1, 0, 0, 0, []), (13, .istore 8, 2, 0, 0, 0, [])]
def s115_1 : List Ent := [(15, .iload 8, 2, 0, 0, 0, []), (17, .sipush 200, 3, 0, 0, 0, []), (20, .if_icmp .ge 31, 3, 51, 0, 0, [])]
def s115_2 : List Ent := [(23, .lload 6, 2, 0, 0, 0, []), (25, .lconst 0, 1, 0, 0, 0, []), (26, .lcmp, 1, 0, 0, 0, []), (27, .ifCond .eq 24, 3, 51, 0, 0, [])]
def s115_3 : List Ent := [(30, .lload 4, 2, 0, 0, 0, []), (32, .lload 6, 2, 0, 0, 0, []), (34, .lrem, 1, 0, 0, 0, []), (35, .lstore 9, 2, 0, 0, 0, []), (37, .lload 6, 2, 0, 0, 0, []), (39, .lstore 4, 2, 0, 0, 0, []), (41, .lload 9, 2, 0, 0, 0, []), (43, .lstore 6, 2, 0, 0, 0, []), (45, .iinc 8 1, 3, 0, 0, 0, []), (48, .goto (-33), 3, 15, 0, 0, [])]
def s115_4 : List Ent := [(51, .lload 4, 2, 0, 0, 0, [])]
def s115_5 : List Ent := [(53, .lreturn, 1, 0, 0, 0, [])]
def sg115 : List (List Ent) := [s115_0, s115_1, s115_2, s115_3, s115_4, s115_5]
theorem ch115 : chkM mi115.2.1 mi115.2.2.1 mi115.2.2.2 lkRX7 sg115 = true := by decide +kernel
def s116_0 : List Ent := [(0, .lload_n 0, 1, 0, 0, 0, []), (1, .lload_n 2, 1, 0, 0, 0, [])]
def s116_1 : List Ent := [(2, .invokestatic 358, 3, 115, 2, 0, [])]
def s116_2 : List Ent := [(5, .lstore 5, 2, 0, 0, 0, []), (7, .lload 5, 2, 0, 0, 0, []), (9, .lconst 0, 1, 0, 0, 0, []), (10, .lcmp, 1, 0, 0, 0, []), (11, .ifCond .ne 7, 3, 18, 0, 0, [])]
def s116_3 : List Ent := [(14, .iload 4, 2, 0, 0, 0, []), (16, .i2l, 1, 0, 0, 0, [])]
def s116_4 : List Ent := [(17, .lreturn, 1, 0, 0, 0, [])]
def s116_5 : List Ent := [(18, .iload 4, 2, 0, 0, 0, []), (20, .ifCond .ne 7, 3, 27, 0, 0, [])]
def s116_6 : List Ent := [(23, .lload_n 0, 1, 0, 0, 0, []), (24, .goto 4, 3, 28, 0, 0, [])]
def s116_7 : List Ent := [(27, .lload_n 2, 1, 0, 0, 0, [])]
def s116_8 : List Ent := [(28, .lload 5, 2, 0, 0, 0, []), (30, .ldiv, 1, 0, 0, 0, [])]
def s116_9 : List Ent := [(31, .lreturn, 1, 0, 0, 0, [])]
def sg116 : List (List Ent) := [s116_0, s116_1, s116_2, s116_3, s116_4, s116_5, s116_6, s116_7, s116_8, s116_9]
theorem ch116 : chkM mi116.2.1 mi116.2.2.1 mi116.2.2.2 lkRX7 sg116 = true := by decide +kernel
def s117_0 : List Ent := [(0, .lload_n 0, 1, 0, 0, 0, []), (1, .lload_n 2, 1, 0, 0, 0, []), (2, .lcmp, 1, 0, 0, 0, []), (3, .ifCond .lt 14, 3, 17, 0, 0, [])]
def s117_1 : List Ent := [(6, .lload_n 0, 1, 0, 0, 0, []), (7, .lload 4, 2, 0, 0, 0, []), (9, .lcmp, 1, 0, 0, 0, []), (10, .ifCond .gt 7, 3, 17, 0, 0, [])]
def s117_2 : List Ent := [(13, .iconst 1, 1, 0, 0, 0, []), (14, .goto 4, 3, 18, 0, 0, [])]
def s117_3 : List Ent := [(17, .iconst 0, 1, 0, 0, 0, [])]
def s117_4 : List Ent := [(18, .ireturn, 1, 1, 0, 0, [])]
def sg117 : List (List Ent) := [s117_0, s117_1, s117_2, s117_3, s117_4]
theorem ch117 : chkM mi117.2.1 mi117.2.2.1 mi117.2.2.2 lkRX8 sg117 = true := by decide +kernel
def s118_0 : List Ent := [(0, .iload_n 0, 1, 0, 0, 0, []), (1, .iload_n 1, 1, 0, 0, 0, []), (2, .ishr, 1, 0, 0, 0, []), (3, .iconst 1, 1, 0, 0, 0, []), (4, .iand, 1, 0, 0, 0, []), (5, .iconst 1, 1, 0, 0, 0, []), (6, .if_icmp .ne 7, 3, 13, 0, 0, [])]
def s118_1 : List Ent := [(9, .iconst 1, 1, 0, 0, 0, []), (10, .goto 4, 3, 14, 0, 0, [])]
def s118_2 : List Ent := [(13, .iconst 0, 1, 0, 0, 0, [])]
def s118_3 : List Ent := [(14, .ireturn, 1, 1, 0, 0, [])]
def sg118 : List (List Ent) := [s118_0, s118_1, s118_2, s118_3]
theorem ch118 : chkM mi118.2.1 mi118.2.2.1 mi118.2.2.2 lkRX8 sg118 = true := by decide +kernel
def s119_0 : List Ent := [(0, .iconst 0, 1, 0, 0, 0, []), (1, .istore_n 1, 1, 0, 0, 0, []), (2, .iload_n 0, 1, 0, 0, 0, []), (3, .istore_n 2, 1, 0, 0, 0, [])]
def s119_1 : List Ent := [(4, .iload_n 2, 1, 0, 0, 0, []), (5, .ifCond .eq 15, 3, 20, 0, 0, [])]
def s119_2 : List Ent := [(8, .iinc 1 1, 3, 0, 0, 0, []), (11, .iload_n 2, 1, 0, 0, 0, []), (12, .iload_n 2, 1, 0, 0, 0, []), (13, .iconst 1, 1, 0, 0, 0, []), (14, .isub, 1, 0, 0, 0, []), (15, .iand, 1, 0, 0, 0, []), (16, .istore_n 2, 1, 0, 0, 0, []), (17, .goto (-13), 3, 4, 0, 0, [])]
def s119_3 : List Ent := [(20, .iload_n 1, 1, 0, 0, 0, [])]
def s119_4 : List Ent := [(21, .ireturn, 1, 0, 0, 0, [])]
def sg119 : List (List Ent) := [s119_0, s119_1, s119_2, s119_3, s119_4]
theorem ch119 : chkM mi119.2.1 mi119.2.2.1 mi119.2.2.2 lkRX8 sg119 = true := by decide +kernel
end
section
def s120_0 : List Ent := [(0, .iload_n 1, 1, 0, 0, 0, []), (1, .bipush 6, 2, 0, 0, 0, []), (3, .if_icmp .gt 13, 3, 16, 0, 0, [])]
def s120_1 : List Ent := [(6, .aload_n 0, 1, 0, 0, 0, []), (7, .getfield 16, 3, 8, 3, 2, []), (10, .iload_n 1, 1, 0, 0, 0, []), (11, .dup2, 1, 0, 0, 0, []), (12, .iaload, 1, 0, 0, 0, []), (13, .iconst 1, 1, 0, 0, 0, []), (14, .iadd, 1, 0, 0, 0, []), (15, .iastore, 1, 0, 0, 0, [])]
def s120_2 : List Ent := [(16, .iload_n 1, 1, 0, 0, 0, []), (17, .ineg, 1, 0, 0, 0, [])]
def s120_3 : List Ent := [(18, .ireturn, 1, 0, 0, 0, [])]
def sg120 : List (List Ent) := [s120_0, s120_1, s120_2, s120_3]
theorem ch120 : chkM mi120.2.1 mi120.2.2.1 mi120.2.2.2 lkRX8 sg120 = true := by decide +kernel
def s121_0 : List Ent := [(0, .ldc 63, 2, 0, 0, 0, [1000000000]), (2, .aload_n 0, 1, 0, 0, 0, []), (3, .iload_n 1, 1, 0, 0, 0, [])]
def s121_1 : List Ent := [(4, .invokevirtual 64, 3, 120, 1, 8, [])]
def s121_2 : List Ent := [(7, .isub, 1, 0, 0, 0, [])]
def s121_3 : List Ent := [(8, .ireturn, 1, 0, 0, 0, [])]
def sg121 : List (List Ent) := [s121_0, s121_1, s121_2, s121_3]
theorem ch121 : chkM mi121.2.1 mi121.2.2.1 mi121.2.2.2 lkRX8 sg121 = true := by decide +kernel
def s122_0 : List Ent := [(0, .ldc2_w 68, 3, 0, 0, 0, [4000000000000000000]), (3, .aload_n 0, 1, 0, 0, 0, []), (4, .iload_n 1, 1, 0, 0, 0, [])]
def s122_1 : List Ent := [(5, .invokevirtual 64, 3, 120, 1, 8, [])]
def s122_2 : List Ent := [(8, .i2l, 1, 0, 0, 0, []), (9, .lsub, 1, 0, 0, 0, [])]
def s122_3 : List Ent := [(10, .lreturn, 1, 0, 0, 0, [])]
def sg122 : List (List Ent) := [s122_0, s122_1, s122_2, s122_3]
theorem ch122 : chkM mi122.2.1 mi122.2.2.1 mi122.2.2.2 lkRX8 sg122 = true := by decide +kernel
def s123_0 : List Ent := [(0, .lload_n 0, 1, 0, 0, 0, []), (1, .lconst 0, 1, 0, 0, 0, []), (2, .lcmp, 1, 0, 0, 0, []), (3, .ifCond .ge 8, 3, 11, 0, 0, [])]
def s123_1 : List Ent := [(6, .lload_n 0, 1, 0, 0, 0, []), (7, .lneg, 1, 0, 0, 0, []), (8, .goto 4, 3, 12, 0, 0, [])]
def s123_2 : List Ent := [(11, .lload_n 0, 1, 0, 0, 0, [])]
def s123_3 : List Ent := [(12, .lstore 4, 2, 0, 0, 0, []), (14, .lload_n 2, 1, 0, 0, 0, []), (15, .lconst 0, 1, 0, 0, 0, []), (16, .lcmp, 1, 0, 0, 0, []), (17, .ifCond .ge 8, 3, 25, 0, 0, [])]
def s123_4 : List Ent := [(20, .lload_n 2, 1, 0, 0, 0, []), (21, .lneg, 1, 0, 0, 0, []), (22, .goto 4, 3, 26, 0, 0, [])]
def s123_5 : List Ent := [(25, .lload_n 2, 1, 0, 0, 0, [])]
def s123_6 : List Ent := [(26, .lstore 6, 2, 0, 0, 0, [])]
def s123_7 : List Ent := [(28, .lload 6, 2, 0, 0, 0, []), (30, .lconst 0, 1, 0, 0, 0, []), (31, .lcmp, 1, 0, 0, 0, []), (32, .ifCond .eq 21, 3, 53, 0, 0, [])]
def s123_8 : List Ent := [(35, .lload 4, 2, 0, 0, 0, []), (37, .lload 6, 2, 0, 0, 0, []), (39, .lrem, 1, 0, 0, 0, []), (40, .lstore 8, 2, 0, 0, 0, []), (42, .lload 6, 2, 0, 0, 0, []), (44, .lstore 4, 2, 0, 0, 0, []), (46, .lload 8, 2, 0, 0, 0, []), (48, .lstore 6, 2, 0, 0, 0, []), (50, .goto (-22), 3, 28, 0, 0, [])]
def s123_9 : List Ent := [(53, .lload 4, 2, 0, 0, 0, [])]
def s123_10 : List Ent := [(55, .lreturn, 1, 0, 0, 0, [])]
def sg123 : List (List Ent) := [s123_0, s123_1, s123_2, s123_3, s123_4, s123_5, s123_6, s123_7, s123_8, s123_9, s123_10]
theorem ch123 : chkM mi123.2.1 mi123.2.2.1 mi123.2.2.2 lkRX8 sg123 = true := by decide +kernel
def s124_0 : List Ent := [(0, .lload_n 0, 1, 0, 0, 0, []), (1, .lconst 0, 1, 0, 0, 0, []), (2, .lcmp, 1, 0, 0, 0, []), (3, .ifCond .ne 7, 3, 10, 0, 0, [])]
def s124_1 : List Ent := [(6, .iload 4, 2, 0, 0, 0, []), (8, .i2l, 1, 0, 0, 0, [])]
def s124_2 : List Ent := [(9, .lreturn, 1, 0, 0, 0, [])]
def s124_3 : List Ent := [(10, .lload_n 2, 1, 0, 0, 0, []), (11, .lconst 0, 1, 0, 0, 0, []), (12, .lcmp, 1, 0, 0, 0, []), (13, .ifCond .ge 12, 3, 25, 0, 0, [])]
def s124_4 : List Ent := [(16, .lload_n 0, 1, 0, 0, 0, []), (17, .lload_n 2, 1, 0, 0, 0, [])]
def s124_5 : List Ent := [(18, .invokestatic 70, 3, 123, 2, 0, [])]
def s124_6 : List Ent := [(21, .lneg, 1, 0, 0, 0, []), (22, .goto 8, 3, 30, 0, 0, [])]
def s124_7 : List Ent := [(25, .lload_n 0, 1, 0, 0, 0, []), (26, .lload_n 2, 1, 0, 0, 0, [])]
def s124_8 : List Ent := [(27, .invokestatic 70, 3, 123, 2, 0, [])]
def s124_9 : List Ent := [(30, .lstore 5, 2, 0, 0, 0, []), (32, .iload 4, 2, 0, 0, 0, []), (34, .ifCond .ne 10, 3, 44, 0, 0, [])]
def s124_10 : List Ent := [(37, .lload_n 0, 1, 0, 0, 0, []), (38, .lload 5, 2, 0, 0, 0, []), (40, .ldiv, 1, 0, 0, 0, []), (41, .goto 7, 3, 48, 0, 0, [])]
def s124_11 : List Ent := [(44, .lload_n 2, 1, 0, 0, 0, []), (45, .lload 5, 2, 0, 0, 0, []), (47, .ldiv, 1, 0, 0, 0, [])]
def s124_12 : List Ent := [(48, .lreturn, 1, 0, 0, 0, [])]
def sg124 : List (List Ent) := [s124_0, s124_1, s124_2, s124_3, s124_4, s124_5, s124_6, s124_7, s124_8, s124_9, s124_10, s124_11, s124_12]
theorem ch124 : chkM mi124.2.1 mi124.2.2.1 mi124.2.2.2 lkRX8 sg124 = true := by decide +kernel
def s125_0 : List Ent := [(0, .iload_n 1, 1, 0, 0, 0, []), (1, .i2l, 1, 0, 0, 0, []), (2, .lconst 0, 1, 0, 0, 0, []), (3, .aload_n 0, 1, 0, 0, 0, []), (4, .getfield 9, 3, 8, 0, 2, []), (7, .iconst 0, 1, 0, 0, 0, []), (8, .iaload, 1, 0, 0, 0, []), (9, .iconst 1, 1, 0, 0, 0, []), (10, .isub, 1, 0, 0, 0, []), (11, .i2l, 1, 0, 0, 0, [])]
def s125_1 : List Ent := [(12, .invokestatic 74, 3, 117, 3, 0, [])]
def s125_2 : List Ent := [(15, .ireturn, 1, 1, 0, 0, [])]
def sg125 : List (List Ent) := [s125_0, s125_1, s125_2]
theorem ch125 : chkM mi125.2.1 mi125.2.2.1 mi125.2.2.2 lkRX8 sg125 = true := by decide +kernel
def s126_0 : List Ent := [(0, .iload_n 0, 1, 0, 0, 0, []), (1, .i2l, 1, 0, 0, 0, []), (2, .lconst 0, 1, 0, 0, 0, []), (3, .ldc2_w 78, 3, 0, 0, 0, [4])]
def s126_1 : List Ent := [(6, .invokestatic 74, 3, 117, 3, 0, [])]
def s126_2 : List Ent := [(9, .ireturn, 1, 1, 0, 0, [])]
def sg126 : List (List Ent) := [s126_0, s126_1, s126_2]
theorem ch126 : chkM mi126.2.1 mi126.2.2.1 mi126.2.2.2 lkRX8 sg126 = true := by decide +kernel
def s127_0 : List Ent := [(0, .iload_n 0, 1, 0, 0, 0, []), (1, .i2l, 1, 0, 0, 0, []), (2, .lconst 0, 1, 0, 0, 0, []), (3, .ldc2_w 80, 3, 0, 0, 0, [2])]
def s127_1 : List Ent := [(6, .invokestatic 74, 3, 117, 3, 0, [])]
def s127_2 : List Ent := [(9, .ireturn, 1, 1, 0, 0, [])]
def sg127 : List (List Ent) := [s127_0, s127_1, s127_2]
theorem ch127 : chkM mi127.2.1 mi127.2.2.1 mi127.2.2.2 lkRX8 sg127 = true := by decide +kernel
def s128_0 : List Ent := [(0, .iload_n 1, 1, 0, 0, 0, []), (1, .i2l, 1, 0, 0, 0, []), (2, .lconst 0, 1, 0, 0, 0, []), (3, .iconst 1, 1, 0, 0, 0, []), (4, .aload_n 0, 1, 0, 0, 0, []), (5, .getfield 9, 3, 8, 0, 2, []), (8, .iconst 0, 1, 0, 0, 0, []), (9, .iaload, 1, 0, 0, 0, []), (10, .ishl, 1, 0, 0, 0, []), (11, .iconst 1, 1, 0, 0, 0, []), (12, .isub, 1, 0, 0, 0, []), (13, .i2l, 1, 0, 0, 0, [])]
def s128_1 : List Ent := [(14, .invokestatic 74, 3, 117, 3, 0, [])]
def s128_2 : List Ent := [(17, .ireturn, 1, 1, 0, 0, [])]
def sg128 : List (List Ent) := [s128_0, s128_1, s128_2]
theorem ch128 : chkM mi128.2.1 mi128.2.2.1 mi128.2.2.2 lkRX8 sg128 = true := by decide +kernel
def s129_0 : List Ent := [(0, .iload_n 1, 1, 0, 0, 0, []), (1, .ifCond .ge 9, 3, 10, 0, 0, [])]
def s129_1 : List Ent := [(4, .aload_n 0, 1, 0, 0, 0, []), (5, .iconst 4, 1, 0, 0, 0, [])]
def s129_2 : List Ent := [(6, .invokevirtual 64, 3, 120, 1, 8, [])]
def s129_3 : List Ent := [(9, .ireturn, 1, 0, 0, 0, [])]
def s129_4 : List Ent := [(10, .iload_n 1, 1, 0, 0, 0, []), (11, .sipush 255, 3, 0, 0, 0, []), (14, .if_icmp .gt 12, 3, 26, 0, 0, [])]
def s129_5 : List Ent := [(17, .aload_n 0, 1, 0, 0, 0, []), (18, .getfield 82, 3, 8, 5, 0, []), (21, .bipush 72, 2, 0, 0, 0, []), (23, .if_icmp .ne 10, 3, 33, 0, 0, [])]
def s129_6 : List Ent := [(26, .aload_n 0, 1, 0, 0, 0, []), (27, .bipush 6, 2, 0, 0, 0, [])]
def s129_7 : List Ent := [(29, .invokevirtual 64, 3, 120, 1, 8, [])]
def s129_8 : List Ent := [(32, .ireturn, 1, 0, 0, 0, [])]
def s129_9 : List Ent := [(33, .aload_n 0, 1, 0, 0, 0, []), (34, .getfield 19, 3, 8, 4, 2, []), (37, .aload_n 0, 1, 0, 0, 0, []), (38, .getfield 82, 3, 8, 5, 0, []), (41, .iload_n 1, 1, 0, 0, 0, []), (42, .iastore, 1, 0, 0, 0, []), (43, .aload_n 0, 1, 0, 0, 0, []), (44, .dup, 1, 0, 0, 0, []), (45, .getfield 82, 3, 8, 5, 0, []), (48, .iconst 1, 1, 0, 0, 0, []), (49, .iadd, 1, 0, 0, 0, []), (50, .putfield 82, 3, 8, 5, 0, []), (53, .aload_n 0, 1, 0, 0, 0, []), (54, .getfield 82, 3, 8, 5, 0, [])]
def s129_10 : List Ent := [(57, .ireturn, 1, 0, 0, 0, [])]
def sg129 : List (List Ent) := [s129_0, s129_1, s129_2, s129_3, s129_4, s129_5, s129_6, s129_7, s129_8, s129_9, s129_10]
theorem ch129 : chkM mi129.2.1 mi129.2.2.1 mi129.2.2.2 lkRX8 sg129 = true := by decide +kernel
def s130_0 : List Ent := [(0, .iload_n 1, 1, 0, 0, 0, []), (1, .i2l, 1, 0, 0, 0, []), (2, .lconst 0, 1, 0, 0, 0, []), (3, .ldc2_w 86, 3, 0, 0, 0, [5])]
def s130_1 : List Ent := [(6, .invokestatic 74, 3, 117, 3, 0, [])]
def s130_2 : List Ent := [(9, .ifCond .ne 9, 3, 18, 0, 0, [])]
def s130_3 : List Ent := [(12, .aload_n 0, 1, 0, 0, 0, []), (13, .iconst 2, 1, 0, 0, 0, [])]
def s130_4 : List Ent := [(14, .invokevirtual 64, 3, 120, 1, 8, [])]
def s130_5 : List Ent := [(17, .ireturn, 1, 0, 0, 0, [])]
def s130_6 : List Ent := [(18, .aload_n 0, 1, 0, 0, 0, []), (19, .getfield 9, 3, 8, 0, 2, []), (22, .iconst 0, 1, 0, 0, 0, []), (23, .iaload, 1, 0, 0, 0, []), (24, .bipush 8, 2, 0, 0, 0, []), (26, .if_icmp .ne 10, 3, 36, 0, 0, [])]
def s130_7 : List Ent := [(29, .aload_n 0, 1, 0, 0, 0, []), (30, .bipush 6, 2, 0, 0, 0, [])]
def s130_8 : List Ent := [(32, .invokevirtual 64, 3, 120, 1, 8, [])]
def s130_9 : List Ent := [(35, .ireturn, 1, 0, 0, 0, [])]
def s130_10 : List Ent := [(36, .aload_n 0, 1, 0, 0, 0, []), (37, .getfield 9, 3, 8, 0, 2, []), (40, .iconst 0, 1, 0, 0, 0, []), (41, .iaload, 1, 0, 0, 0, []), (42, .istore_n 2, 1, 0, 0, 0, []), (43, .aload_n 0, 1, 0, 0, 0, []), (44, .getfield 9, 3, 8, 0, 2, []), (47, .iconst 1, 1, 0, 0, 0, []), (48, .iload_n 2, 1, 0, 0, 0, []), (49, .iadd, 1, 0, 0, 0, []), (50, .iload_n 1, 1, 0, 0, 0, []), (51, .iastore, 1, 0, 0, 0, []), (52, .iconst 0, 1, 0, 0, 0, []), (53, .istore_n 3, 1, 0, 0, 0, [])]
def s130_11 : List Ent := [(54, .iload_n 3, 1, 0, 0, 0, []), (55, .iconst 5, 1, 0, 0, 0, []), (56, .if_icmp .ge 23, 3, 79, 0, 0, [])]
def s130_12 : List Ent := [(59, .aload_n 0, 1, 0, 0, 0, []), (60, .getfield 9, 3, 8, 0, 2, []), (63, .bipush 9, 2, 0, 0, 0, []), (65, .iconst 5, 1, 0, 0, 0, []), (66, .iload_n 2, 1, 0, 0, 0, []), (67, .imul, 1, 0, 0, 0, []), (68, .iadd, 1, 0, 0, 0, []), (69, .iload_n 3, 1, 0, 0, 0, []), (70, .iadd, 1, 0, 0, 0, []), (71, .iconst 0, 1, 0, 0, 0, []), (72, .iastore, 1, 0, 0, 0, []), (73, .iinc 3 1, 3, 0, 0, 0, []), (76, .goto (-22), 3, 54, 0, 0, [])]
def s130_13 : List Ent := [(79, .aload_n 0, 1, 0, 0, 0, []), (80, .getfield 9, 3, 8, 0, 2, []), (83, .bipush 49, 2, 0, 0, 0, []), (85, .iload_n 2, 1, 0, 0, 0, []), (86, .iadd, 1, 0, 0, 0, []), (87, .iconst 0, 1, 0, 0, 0, []), (88, .iastore, 1, 0, 0, 0, []), (89, .aload_n 0, 1, 0, 0, 0, []), (90, .getfield 9, 3, 8, 0, 2, []), (93, .bipush 57, 2, 0, 0, 0, []), (95, .iload_n 2, 1, 0, 0, 0, []), (96, .iadd, 1, 0, 0, 0, []), (97, .iconst 0, 1, 0, 0, 0, []), (98, .iastore, 1, 0, 0, 0, []), (99, .aload_n 0, 1, 0, 0, 0, []), (100, .getfield 9, 3, 8, 0, 2, []), (103, .iconst 0, 1, 0, 0, 0, []), (104, .dup2, 1, 0, 0, 0, []), (105, .iaload, 1, 0, 0, 0, []), (106, .iconst 1, 1, 0, 0, 0, []), (107, .iadd, 1, 0, 0, 0, []), (108, .iastore, 1, 0, 0, 0, []), (109, .aload_n 0, 1, 0, 0, 0, []), (110, .iconst 0, 1, 0, 0, 0, []), (111, .putfield 88, 3, 8, 7, 0, []), (114, .iload_n 2, 1, 0, 0, 0, [])]
def s130_14 : List Ent := [(115, .ireturn, 1, 0, 0, 0, [])]
def sg130 : List (List Ent) := [s130_0, s130_1, s130_2, s130_3, s130_4, s130_5, s130_6, s130_7, s130_8, s130_9, s130_10, s130_11, s130_12, s130_13, s130_14]
theorem ch130 : chkM mi130.2.1 mi130.2.2.1 mi130.2.2.2 lkRX8 sg130 = true := by decide +kernel
def s131_0 : List Ent := [(0, .aload_n 0, 1, 0, 0, 0, []), (1, .getfield 88, 3, 8, 7, 0, []), (4, .bipush 20, 2, 0, 0, 0, []), (6, .if_icmp .ne 41, 3, 47, 0, 0, [])]
def s131_1 : List Ent := [(9, .iconst 5, 1, 0, 0, 0, []), (10, .istore_n 3, 1, 0, 0, 0, [])]
def s131_2 : List Ent := [(11, .iload_n 3, 1, 0, 0, 0, []), (12, .bipush 100, 2, 0, 0, 0, []), (14, .if_icmp .ge 23, 3, 37, 0, 0, [])]
def s131_3 : List Ent := [(17, .aload_n 0, 1, 0, 0, 0, []), (18, .getfield 22, 3, 8, 6, 2, []), (21, .iload_n 3, 1, 0, 0, 0, []), (22, .iconst 5, 1, 0, 0, 0, []), (23, .isub, 1, 0, 0, 0, []), (24, .aload_n 0, 1, 0, 0, 0, []), (25, .getfield 22, 3, 8, 6, 2, []), (28, .iload_n 3, 1, 0, 0, 0, []), (29, .iaload, 1, 0, 0, 0, []), (30, .iastore, 1, 0, 0, 0, []), (31, .iinc 3 1, 3, 0, 0, 0, []), (34, .goto (-23), 3, 11, 0, 0, [])]
def s131_4 : List Ent := [(37, .aload_n 0, 1, 0, 0, 0, []), (38, .dup, 1, 0, 0, 0, []), (39, .getfield 88, 3, 8, 7, 0, []), (42, .iconst 1, 1, 0, 0, 0, []), (43, .isub, 1, 0, 0, 0, []), (44, .putfield 88, 3, 8, 7, 0, [])]
def s131_5 : List Ent := [(47, .iconst 5, 1, 0, 0, 0, []), (48, .aload_n 0, 1, 0, 0, 0, []), (49, .getfield 88, 3, 8, 7, 0, []), (52, .imul, 1, 0, 0, 0, []), (53, .istore_n 3, 1, 0, 0, 0, []), (54, .aload_n 0, 1, 0, 0, 0, []), (55, .getfield 22, 3, 8, 6, 2, []), (58, .iload_n 3, 1, 0, 0, 0, []), (59, .iload_n 1, 1, 0, 0, 0, []), (60, .iastore, 1, 0, 0, 0, []), (61, .aload_n 0, 1, 0, 0, 0, []), (62, .getfield 22, 3, 8, 6, 2, []), (65, .iload_n 3, 1, 0, 0, 0, []), (66, .iconst 1, 1, 0, 0, 0, []), (67, .iadd, 1, 0, 0, 0, []), (68, .aload_n 0, 1, 0, 0, 0, []), (69, .getfield 9, 3, 8, 0, 2, []), (72, .iload_n 1, 1, 0, 0, 0, []), (73, .iaload, 1, 0, 0, 0, []), (74, .iastore, 1, 0, 0, 0, []), (75, .aload_n 0, 1, 0, 0, 0, []), (76, .getfield 22, 3, 8, 6, 2, []), (79, .iload_n 3, 1, 0, 0, 0, []), (80, .iconst 2, 1, 0, 0, 0, []), (81, .iadd, 1, 0, 0, 0, []), (82, .iload_n 2, 1, 0, 0, 0, []), (83, .iastore, 1, 0, 0, 0, []), (84, .aload_n 0, 1, 0, 0, 0, []), (85, .getfield 22, 3, 8, 6, 2, []), (88, .iload_n 3, 1, 0, 0, 0, []), (89, .iconst 3, 1, 0, 0, 0, []), (90, .iadd, 1, 0, 0, 0, []), (91, .iload_n 2, 1, 0, 0, 0, []), (92, .ifCond .ge 7, 3, 99, 0, 0, [])]
def s131_6 : List Ent := [(95, .iconst 0, 1, 0, 0, 0, []), (96, .goto 9, 3, 105, 0, 0, [])]
def s131_7 : List Ent := [(99, .aload_n 0, 1, 0, 0, 0, []), (100, .getfield 9, 3, 8, 0, 2, []), (103, .iload_n 2, 1, 0, 0, 0, []), (104, .iaload, 1, 0, 0, 0, [])]
def s131_8 : List Ent := [(105, .iastore, 1, 0, 0, 0, []), (106, .aload_n 0, 1, 0, 0, 0, []), (107, .dup, 1, 0, 0, 0, []), (108, .getfield 88, 3, 8, 7, 0, []), (111, .iconst 1, 1, 0, 0, 0, []), (112, .iadd, 1, 0, 0, 0, []), (113, .putfield 88, 3, 8, 7, 0, [])]
def s131_9 : List Ent := [(116, .return_, 1, 0, 0, 0, [])]
def sg131 : List (List Ent) := [s131_0, s131_1, s131_2, s131_3, s131_4, s131_5, s131_6, s131_7, s131_8, s131_9]
theorem ch131 : chkM mi131.2.1 mi131.2.2.1 mi131.2.2.2 lkRX8 sg131 = true := by decide +kernel
def s132_0 : List Ent := [(0, .aload_n 0, 1, 0, 0, 0, []), (1, .iload_n 1, 1, 0, 0, 0, [])]
def s132_1 : List Ent := [(2, .invokevirtual 91, 3, 125, 1, 8, [])]
def s132_2 : List Ent := [(5, .ifCond .eq 10, 3, 15, 0, 0, [])]
def s132_3 : List Ent := [(8, .iload_n 2, 1, 0, 0, 0, [])]
def s132_4 : List Ent := [(9, .invokestatic 95, 3, 126, 1, 0, [])]
def s132_5 : List Ent := [(12, .ifCond .ne 9, 3, 21, 0, 0, [])]
def s132_6 : List Ent := [(15, .aload_n 0, 1, 0, 0, 0, []), (16, .iconst 1, 1, 0, 0, 0, [])]
def s132_7 : List Ent := [(17, .invokevirtual 98, 3, 121, 1, 8, [])]
def s132_8 : List Ent := [(20, .ireturn, 1, 0, 0, 0, [])]
def s132_9 : List Ent := [(21, .iload_n 3, 1, 0, 0, 0, []), (22, .bipush (-9), 2, 0, 0, 0, []), (24, .if_icmp .ge 9, 3, 33, 0, 0, [])]
def s132_10 : List Ent := [(27, .aload_n 0, 1, 0, 0, 0, []), (28, .iconst 4, 1, 0, 0, 0, [])]
def s132_11 : List Ent := [(29, .invokevirtual 98, 3, 121, 1, 8, [])]
def s132_12 : List Ent := [(32, .ireturn, 1, 0, 0, 0, [])]
def s132_13 : List Ent := [(33, .iload_n 3, 1, 0, 0, 0, []), (34, .bipush 9, 2, 0, 0, 0, []), (36, .if_icmp .le 10, 3, 46, 0, 0, [])]
def s132_14 : List Ent := [(39, .aload_n 0, 1, 0, 0, 0, []), (40, .bipush 6, 2, 0, 0, 0, [])]
def s132_15 : List Ent := [(42, .invokevirtual 98, 3, 121, 1, 8, [])]
def s132_16 : List Ent := [(45, .ireturn, 1, 0, 0, 0, [])]
def s132_17 : List Ent := [(46, .bipush 9, 2, 0, 0, 0, []), (48, .iconst 5, 1, 0, 0, 0, []), (49, .iload_n 1, 1, 0, 0, 0, []), (50, .imul, 1, 0, 0, 0, []), (51, .iadd, 1, 0, 0, 0, []), (52, .iload_n 2, 1, 0, 0, 0, []), (53, .iadd, 1, 0, 0, 0, []), (54, .istore 4, 2, 0, 0, 0, []), (56, .aload_n 0, 1, 0, 0, 0, []), (57, .getfield 9, 3, 8, 0, 2, []), (60, .iload 4, 2, 0, 0, 0, []), (62, .iaload, 1, 0, 0, 0, []), (63, .istore 5, 2, 0, 0, 0, []), (65, .aload_n 0, 1, 0, 0, 0, []), (66, .iload 4, 2, 0, 0, 0, []), (68, .iconst (-1), 1, 0, 0, 0, [])]
def s132_18 : List Ent := [(69, .invokevirtual 101, 3, 131, 2, 8, [])]
def s132_19 : List Ent := [(72, .aload_n 0, 1, 0, 0, 0, []), (73, .getfield 9, 3, 8, 0, 2, []), (76, .iload 4, 2, 0, 0, 0, []), (78, .iload_n 3, 1, 0, 0, 0, []), (79, .iastore, 1, 0, 0, 0, []), (80, .iload 5, 2, 0, 0, 0, [])]
def s132_20 : List Ent := [(82, .ireturn, 1, 0, 0, 0, [])]
def sg132 : List (List Ent) := [s132_0, s132_1, s132_2, s132_3, s132_4, s132_5, s132_6, s132_7, s132_8, s132_9, s132_10, s132_11, s132_12, s132_13, s132_14, s132_15, s132_16, s132_17, s132_18, s132_19, s132_20]
theorem ch132 : chkM mi132.2.1 mi132.2.2.1 mi132.2.2.2 lkRX8 sg132 = true := by decide +kernel
def s133_0 : List Ent := [(0, .aload_n 0, 1, 0, 0, 0, []), (1, .iload_n 1, 1, 0, 0, 0, [])]
def s133_1 : List Ent := [(2, .invokevirtual 91, 3, 125, 1, 8, [])]
def s133_2 : List Ent := [(5, .ifCond .ne 9, 3, 14, 0, 0, [])]
def s133_3 : List Ent := [(8, .aload_n 0, 1, 0, 0, 0, []), (9, .iconst 1, 1, 0, 0, 0, [])]
def s133_4 : List Ent := [(10, .invokevirtual 64, 3, 120, 1, 8, [])]
def s133_5 : List Ent := [(13, .ireturn, 1, 0, 0, 0, [])]
def s133_6 : List Ent := [(14, .iload_n 2, 1, 0, 0, 0, []), (15, .i2l, 1, 0, 0, 0, []), (16, .lconst 0, 1, 0, 0, 0, []), (17, .ldc2_w 86, 3, 0, 0, 0, [5])]
def s133_7 : List Ent := [(20, .invokestatic 74, 3, 117, 3, 0, [])]
def s133_8 : List Ent := [(23, .ifCond .ne 9, 3, 32, 0, 0, [])]
def s133_9 : List Ent := [(26, .aload_n 0, 1, 0, 0, 0, []), (27, .iconst 2, 1, 0, 0, 0, [])]
def s133_10 : List Ent := [(28, .invokevirtual 64, 3, 120, 1, 8, [])]
def s133_11 : List Ent := [(31, .ireturn, 1, 0, 0, 0, [])]
def s133_12 : List Ent := [(32, .aload_n 0, 1, 0, 0, 0, []), (33, .getfield 9, 3, 8, 0, 2, []), (36, .iconst 1, 1, 0, 0, 0, []), (37, .iload_n 1, 1, 0, 0, 0, []), (38, .iadd, 1, 0, 0, 0, []), (39, .iaload, 1, 0, 0, 0, []), (40, .istore_n 3, 1, 0, 0, 0, []), (41, .aload_n 0, 1, 0, 0, 0, []), (42, .iconst 1, 1, 0, 0, 0, []), (43, .iload_n 1, 1, 0, 0, 0, []), (44, .iadd, 1, 0, 0, 0, []), (45, .iconst (-1), 1, 0, 0, 0, [])]
def s133_13 : List Ent := [(46, .invokevirtual 101, 3, 131, 2, 8, [])]
def s133_14 : List Ent := [(49, .aload_n 0, 1, 0, 0, 0, []), (50, .getfield 9, 3, 8, 0, 2, []), (53, .iconst 1, 1, 0, 0, 0, []), (54, .iload_n 1, 1, 0, 0, 0, []), (55, .iadd, 1, 0, 0, 0, []), (56, .iload_n 2, 1, 0, 0, 0, []), (57, .iastore, 1, 0, 0, 0, []), (58, .iload_n 3, 1, 0, 0, 0, [])]
def s133_15 : List Ent := [(59, .ireturn, 1, 0, 0, 0, [])]
def sg133 : List (List Ent) := [s133_0, s133_1, s133_2, s133_3, s133_4, s133_5, s133_6, s133_7, s133_8, s133_9, s133_10, s133_11, s133_12, s133_13, s133_14, s133_15]
theorem ch133 : chkM mi133.2.1 mi133.2.2.1 mi133.2.2.2 lkRX8 sg133 = true := by decide +kernel
def s134_0 : List Ent := [(0, .aload_n 0, 1, 0, 0, 0, []), (1, .getfield 9, 3, 8, 0, 2, []), (4, .bipush 9, 2, 0, 0, 0, []), (6, .iconst 5, 1, 0, 0, 0, []), (7, .iload_n 1, 1, 0, 0, 0, []), (8, .imul, 1, 0, 0, 0, []), (9, .iadd, 1, 0, 0, 0, []), (10, .iload_n 2, 1, 0, 0, 0, []), (11, .iadd, 1, 0, 0, 0, []), (12, .iaload, 1, 0, 0, 0, []), (13, .istore_n 3, 1, 0, 0, 0, []), (14, .aload_n 0, 1, 0, 0, 0, []), (15, .getfield 9, 3, 8, 0, 2, []), (18, .iconst 1, 1, 0, 0, 0, []), (19, .iload_n 1, 1, 0, 0, 0, []), (20, .iadd, 1, 0, 0, 0, []), (21, .iaload, 1, 0, 0, 0, []), (22, .tableswitch 103 1 5 #[34, 47, 60, 84, 86], 34, 125, 0, 0, [56, 69, 82, 106, 108])]
def s134_1 : List Ent := [(56, .iload_n 2, 1, 0, 0, 0, []), (57, .iconst 2, 1, 0, 0, 0, []), (58, .if_icmp .ne 9, 3, 67, 0, 0, [])]
def s134_2 : List Ent := [(61, .iload_n 3, 1, 0, 0, 0, []), (62, .iconst 1, 1, 0, 0, 0, []), (63, .isub, 1, 0, 0, 0, []), (64, .goto 4, 3, 68, 0, 0, [])]
def s134_3 : List Ent := [(67, .iload_n 3, 1, 0, 0, 0, [])]
def s134_4 : List Ent := [(68, .ireturn, 1, 0, 0, 0, [])]
def s134_5 : List Ent := [(69, .iload_n 2, 1, 0, 0, 0, []), (70, .iconst 1, 1, 0, 0, 0, []), (71, .if_icmp .ne 9, 3, 80, 0, 0, [])]
def s134_6 : List Ent := [(74, .iload_n 3, 1, 0, 0, 0, []), (75, .iconst 1, 1, 0, 0, 0, []), (76, .isub, 1, 0, 0, 0, []), (77, .goto 4, 3, 81, 0, 0, [])]
def s134_7 : List Ent := [(80, .iload_n 3, 1, 0, 0, 0, [])]
def s134_8 : List Ent := [(81, .ireturn, 1, 0, 0, 0, [])]
def s134_9 : List Ent := [(82, .iload_n 2, 1, 0, 0, 0, []), (83, .iconst 1, 1, 0, 0, 0, []), (84, .if_icmp .ne 9, 3, 93, 0, 0, [])]
def s134_10 : List Ent := [(87, .iload_n 3, 1, 0, 0, 0, []), (88, .iconst 2, 1, 0, 0, 0, []), (89, .isub, 1, 0, 0, 0, []), (90, .goto 15, 3, 105, 0, 0, [])]
def s134_11 : List Ent := [(93, .iload_n 2, 1, 0, 0, 0, []), (94, .iconst 2, 1, 0, 0, 0, []), (95, .if_icmp .ne 9, 3, 104, 0, 0, [])]
def s134_12 : List Ent := [(98, .iload_n 3, 1, 0, 0, 0, []), (99, .iconst 1, 1, 0, 0, 0, []), (100, .isub, 1, 0, 0, 0, []), (101, .goto 4, 3, 105, 0, 0, [])]
def s134_13 : List Ent := [(104, .iload_n 3, 1, 0, 0, 0, [])]
def s134_14 : List Ent := [(105, .ireturn, 1, 0, 0, 0, [])]
def s134_15 : List Ent := [(106, .iconst 0, 1, 0, 0, 0, [])]
def s134_16 : List Ent := [(107, .ireturn, 1, 0, 0, 0, [])]
def s134_17 : List Ent := [(108, .iload_n 2, 1, 0, 0, 0, []), (109, .iconst 1, 1, 0, 0, 0, []), (110, .if_icmp .ne 11, 3, 121, 0, 0, [])]
def s134_18 : List Ent := [(113, .iconst 2, 1, 0, 0, 0, []), (114, .iload_n 3, 1, 0, 0, 0, []), (115, .imul, 1, 0, 0, 0, []), (116, .iconst 2, 1, 0, 0, 0, []), (117, .isub, 1, 0, 0, 0, []), (118, .goto 6, 3, 124, 0, 0, [])]
def s134_19 : List Ent := [(121, .iconst 2, 1, 0, 0, 0, []), (122, .iload_n 3, 1, 0, 0, 0, []), (123, .imul, 1, 0, 0, 0, [])]
def s134_20 : List Ent := [(124, .ireturn, 1, 0, 0, 0, [])]
def s134_21 : List Ent := [(125, .iload_n 3, 1, 0, 0, 0, [])]
def s134_22 : List Ent := [(126, .ireturn, 1, 0, 0, 0, [])]
def sg134 : List (List Ent) := [s134_0, s134_1, s134_2, s134_3, s134_4, s134_5, s134_6, s134_7, s134_8, s134_9, s134_10, s134_11, s134_12, s134_13, s134_14, s134_15, s134_16, s134_17, s134_18, s134_19, s134_20, s134_21, s134_22]
theorem ch134 : chkM mi134.2.1 mi134.2.2.1 mi134.2.2.2 lkRX8 sg134 = true := by decide +kernel
def s135_0 : List Ent := [(0, .iconst 1, 1, 0, 0, 0, []), (1, .istore_n 2, 1, 0, 0, 0, []), (2, .iconst 0, 1, 0, 0, 0, []), (3, .istore_n 3, 1, 0, 0, 0, [])]
def s135_1 : List Ent := [(4, .iload_n 3, 1, 0, 0, 0, []), (5, .iconst 5, 1, 0, 0, 0, []), (6, .if_icmp .ge 26, 3, 32, 0, 0, [])]
def s135_2 : List Ent := [(9, .iload_n 2, 1, 0, 0, 0, []), (10, .aload_n 0, 1, 0, 0, 0, []), (11, .iload_n 1, 1, 0, 0, 0, []), (12, .iload_n 3, 1, 0, 0, 0, [])]
def s135_3 : List Ent := [(13, .invokevirtual 105, 3, 134, 2, 8, [])]
def s135_4 : List Ent := [(16, .ifCond .ne 7, 3, 23, 0, 0, [])]
def s135_5 : List Ent := [(19, .iconst 1, 1, 0, 0, 0, []), (20, .goto 4, 3, 24, 0, 0, [])]
def s135_6 : List Ent := [(23, .iconst 0, 1, 0, 0, 0, [])]
def s135_7 : List Ent := [(24, .iand, 1, 0, 0, 0, []), (25, .istore_n 2, 1, 0, 0, 0, []), (26, .iinc 3 1, 3, 0, 0, 0, []), (29, .goto (-25), 3, 4, 0, 0, [])]
def s135_8 : List Ent := [(32, .iload_n 2, 1, 0, 0, 0, [])]
def s135_9 : List Ent := [(33, .ireturn, 1, 1, 0, 0, [])]
def sg135 : List (List Ent) := [s135_0, s135_1, s135_2, s135_3, s135_4, s135_5, s135_6, s135_7, s135_8, s135_9]
theorem ch135 : chkM mi135.2.1 mi135.2.2.1 mi135.2.2.2 lkRX8 sg135 = true := by decide +kernel
def s136_0 : List Ent := [(0, .iconst 1, 1, 0, 0, 0, []), (1, .istore_n 3, 1, 0, 0, 0, []), (2, .iconst 0, 1, 0, 0, 0, []), (3, .istore 4, 2, 0, 0, 0, [])]
def s136_1 : List Ent := [(5, .iload 4, 2, 0, 0, 0, []), (7, .iconst 5, 1, 0, 0, 0, []), (8, .if_icmp .ge 34, 3, 42, 0, 0, [])]
def s136_2 : List Ent := [(11, .iload_n 3, 1, 0, 0, 0, []), (12, .aload_n 0, 1, 0, 0, 0, []), (13, .iload_n 1, 1, 0, 0, 0, []), (14, .iload 4, 2, 0, 0, 0, [])]
def s136_3 : List Ent := [(16, .invokevirtual 105, 3, 134, 2, 8, [])]
def s136_4 : List Ent := [(19, .aload_n 0, 1, 0, 0, 0, []), (20, .iload_n 2, 1, 0, 0, 0, []), (21, .iload 4, 2, 0, 0, 0, [])]
def s136_5 : List Ent := [(23, .invokevirtual 105, 3, 134, 2, 8, [])]
def s136_6 : List Ent := [(26, .if_icmp .ne 7, 3, 33, 0, 0, [])]
def s136_7 : List Ent := [(29, .iconst 1, 1, 0, 0, 0, []), (30, .goto 4, 3, 34, 0, 0, [])]
def s136_8 : List Ent := [(33, .iconst 0, 1, 0, 0, 0, [])]
def s136_9 : List Ent := [(34, .iand, 1, 0, 0, 0, []), (35, .istore_n 3, 1, 0, 0, 0, []), (36, .iinc 4 1, 3, 0, 0, 0, []), (39, .goto (-34), 3, 5, 0, 0, [])]
def s136_10 : List Ent := [(42, .iload_n 3, 1, 0, 0, 0, [])]
def s136_11 : List Ent := [(43, .ireturn, 1, 1, 0, 0, [])]
def sg136 : List (List Ent) := [s136_0, s136_1, s136_2, s136_3, s136_4, s136_5, s136_6, s136_7, s136_8, s136_9, s136_10, s136_11]
theorem ch136 : chkM mi136.2.1 mi136.2.2.1 mi136.2.2.2 lkRX8 sg136 = true := by decide +kernel
def s137_0 : List Ent := [(0, .iconst 0, 1, 0, 0, 0, []), (1, .istore_n 2, 1, 0, 0, 0, [])]
def s137_1 : List Ent := [(2, .iload_n 2, 1, 0, 0, 0, []), (3, .aload_n 0, 1, 0, 0, 0, []), (4, .getfield 9, 3, 8, 0, 2, []), (7, .iconst 0, 1, 0, 0, 0, []), (8, .iaload, 1, 0, 0, 0, []), (9, .if_icmp .ge 25, 3, 34, 0, 0, [])]
def s137_2 : List Ent := [(12, .iload_n 2, 1, 0, 0, 0, []), (13, .iload_n 1, 1, 0, 0, 0, []), (14, .if_icmp .eq 14, 3, 28, 0, 0, [])]
def s137_3 : List Ent := [(17, .aload_n 0, 1, 0, 0, 0, []), (18, .iload_n 2, 1, 0, 0, 0, []), (19, .iload_n 1, 1, 0, 0, 0, [])]
def s137_4 : List Ent := [(20, .invokevirtual 109, 3, 136, 2, 8, [])]
def s137_5 : List Ent := [(23, .ifCond .eq 5, 3, 28, 0, 0, [])]
def s137_6 : List Ent := [(26, .iload_n 2, 1, 0, 0, 0, [])]
def s137_7 : List Ent := [(27, .ireturn, 1, 0, 0, 0, [])]
def s137_8 : List Ent := [(28, .iinc 2 1, 3, 0, 0, 0, []), (31, .goto (-29), 3, 2, 0, 0, [])]
def s137_9 : List Ent := [(34, .bipush (-9), 2, 0, 0, 0, [])]
def s137_10 : List Ent := [(36, .ireturn, 1, 0, 0, 0, [])]
def sg137 : List (List Ent) := [s137_0, s137_1, s137_2, s137_3, s137_4, s137_5, s137_6, s137_7, s137_8, s137_9, s137_10]
theorem ch137 : chkM mi137.2.1 mi137.2.2.1 mi137.2.2.2 lkRX8 sg137 = true := by decide +kernel
def s138_0 : List Ent := [(0, .aload_n 0, 1, 0, 0, 0, []), (1, .iload_n 1, 1, 0, 0, 0, [])]
def s138_1 : List Ent := [(2, .invokevirtual 91, 3, 125, 1, 8, [])]
def s138_2 : List Ent := [(5, .ifCond .ne 9, 3, 14, 0, 0, [])]
def s138_3 : List Ent := [(8, .aload_n 0, 1, 0, 0, 0, []), (9, .iconst 1, 1, 0, 0, 0, [])]
def s138_4 : List Ent := [(10, .invokevirtual 98, 3, 121, 1, 8, [])]
def s138_5 : List Ent := [(13, .ireturn, 1, 0, 0, 0, [])]
def s138_6 : List Ent := [(14, .iload_n 2, 1, 0, 0, 0, []), (15, .ifCond .ne 12, 3, 27, 0, 0, [])]
def s138_7 : List Ent := [(18, .aload_n 0, 1, 0, 0, 0, []), (19, .getfield 9, 3, 8, 0, 2, []), (22, .iconst 1, 1, 0, 0, 0, []), (23, .iload_n 1, 1, 0, 0, 0, []), (24, .iadd, 1, 0, 0, 0, []), (25, .iaload, 1, 0, 0, 0, [])]
def s138_8 : List Ent := [(26, .ireturn, 1, 0, 0, 0, [])]
def s138_9 : List Ent := [(27, .iload_n 2, 1, 0, 0, 0, []), (28, .iconst 1, 1, 0, 0, 0, []), (29, .if_icmp .ne 20, 3, 49, 0, 0, [])]
def s138_10 : List Ent := [(32, .aload_n 0, 1, 0, 0, 0, [])]
def s138_11 : List Ent := [(33, .invokevirtual 113, 3, 147, 0, 8, [])]
def s138_12 : List Ent := [(36, .iload_n 1, 1, 0, 0, 0, [])]
def s138_13 : List Ent := [(37, .invokestatic 117, 3, 118, 2, 0, [])]
def s138_14 : List Ent := [(40, .ifCond .eq 7, 3, 47, 0, 0, [])]
def s138_15 : List Ent := [(43, .iconst 0, 1, 0, 0, 0, []), (44, .goto 4, 3, 48, 0, 0, [])]
def s138_16 : List Ent := [(47, .iconst 1, 1, 0, 0, 0, [])]
def s138_17 : List Ent := [(48, .ireturn, 1, 0, 0, 0, [])]
def s138_18 : List Ent := [(49, .iload_n 2, 1, 0, 0, 0, []), (50, .iconst 2, 1, 0, 0, 0, []), (51, .if_icmp .ne 17, 3, 68, 0, 0, [])]
def s138_19 : List Ent := [(54, .aload_n 0, 1, 0, 0, 0, []), (55, .iload_n 1, 1, 0, 0, 0, [])]
def s138_20 : List Ent := [(56, .invokevirtual 120, 3, 135, 1, 8, [])]
def s138_21 : List Ent := [(59, .ifCond .eq 7, 3, 66, 0, 0, [])]
def s138_22 : List Ent := [(62, .iconst 1, 1, 0, 0, 0, []), (63, .goto 4, 3, 67, 0, 0, [])]
def s138_23 : List Ent := [(66, .iconst 0, 1, 0, 0, 0, [])]
def s138_24 : List Ent := [(67, .ireturn, 1, 0, 0, 0, [])]
def s138_25 : List Ent := [(68, .iload_n 2, 1, 0, 0, 0, []), (69, .i2l, 1, 0, 0, 0, []), (70, .ldc2_w 123, 3, 0, 0, 0, [10]), (73, .ldc2_w 125, 3, 0, 0, 0, [14])]
def s138_26 : List Ent := [(76, .invokestatic 74, 3, 117, 3, 0, [])]
def s138_27 : List Ent := [(79, .ifCond .eq 20, 3, 99, 0, 0, [])]
def s138_28 : List Ent := [(82, .aload_n 0, 1, 0, 0, 0, []), (83, .getfield 9, 3, 8, 0, 2, []), (86, .bipush 9, 2, 0, 0, 0, []), (88, .iconst 5, 1, 0, 0, 0, []), (89, .iload_n 1, 1, 0, 0, 0, []), (90, .imul, 1, 0, 0, 0, []), (91, .iadd, 1, 0, 0, 0, []), (92, .iload_n 2, 1, 0, 0, 0, []), (93, .iadd, 1, 0, 0, 0, []), (94, .bipush 10, 2, 0, 0, 0, []), (96, .isub, 1, 0, 0, 0, []), (97, .iaload, 1, 0, 0, 0, [])]
def s138_29 : List Ent := [(98, .ireturn, 1, 0, 0, 0, [])]
def s138_30 : List Ent := [(99, .iload_n 2, 1, 0, 0, 0, []), (100, .i2l, 1, 0, 0, 0, []), (101, .ldc2_w 127, 3, 0, 0, 0, [20]), (104, .ldc2_w 129, 3, 0, 0, 0, [24])]
def s138_31 : List Ent := [(107, .invokestatic 74, 3, 117, 3, 0, [])]
def s138_32 : List Ent := [(110, .ifCond .eq 15, 3, 125, 0, 0, [])]
def s138_33 : List Ent := [(113, .aload_n 0, 1, 0, 0, 0, []), (114, .iload_n 1, 1, 0, 0, 0, []), (115, .iload_n 2, 1, 0, 0, 0, []), (116, .bipush 20, 2, 0, 0, 0, []), (118, .isub, 1, 0, 0, 0, [])]
def s138_34 : List Ent := [(119, .invokevirtual 105, 3, 134, 2, 8, [])]
def s138_35 : List Ent := [(122, .goto 8, 3, 130, 0, 0, [])]
def s138_36 : List Ent := [(125, .aload_n 0, 1, 0, 0, 0, []), (126, .iconst 2, 1, 0, 0, 0, [])]
def s138_37 : List Ent := [(127, .invokevirtual 98, 3, 121, 1, 8, [])]
def s138_38 : List Ent := [(130, .ireturn, 1, 0, 0, 0, [])]
def sg138 : List (List Ent) := [s138_0, s138_1, s138_2, s138_3, s138_4, s138_5, s138_6, s138_7, s138_8, s138_9, s138_10, s138_11, s138_12, s138_13, s138_14, s138_15, s138_16, s138_17, s138_18, s138_19, s138_20, s138_21, s138_22, s138_23, s138_24, s138_25, s138_26, s138_27, s138_28, s138_29, s138_30, s138_31, s138_32, s138_33, s138_34, s138_35, s138_36, s138_37, s138_38]
theorem ch138 : chkM mi138.2.1 mi138.2.2.1 mi138.2.2.2 lkRX8 sg138 = true := by decide +kernel
def s139_0 : List Ent := [(0, .aload_n 0, 1, 0, 0, 0, []), (1, .iload_n 1, 1, 0, 0, 0, [])]
def s139_1 : List Ent := [(2, .invokevirtual 91, 3, 125, 1, 8, [])]
def s139_2 : List Ent := [(5, .ifCond .eq 11, 3, 16, 0, 0, [])]
def s139_3 : List Ent := [(8, .aload_n 0, 1, 0, 0, 0, []), (9, .iload_n 1, 1, 0, 0, 0, [])]
def s139_4 : List Ent := [(10, .invokevirtual 131, 3, 137, 1, 8, [])]
def s139_5 : List Ent := [(13, .goto 8, 3, 21, 0, 0, [])]
def s139_6 : List Ent := [(16, .aload_n 0, 1, 0, 0, 0, []), (17, .iconst 1, 1, 0, 0, 0, [])]
def s139_7 : List Ent := [(18, .invokevirtual 64, 3, 120, 1, 8, [])]
def s139_8 : List Ent := [(21, .ireturn, 1, 0, 0, 0, [])]
def sg139 : List (List Ent) := [s139_0, s139_1, s139_2, s139_3, s139_4, s139_5, s139_6, s139_7, s139_8]
theorem ch139 : chkM mi139.2.1 mi139.2.2.1 mi139.2.2.2 lkRX8 sg139 = true := by decide +kernel
def s140_0 : List Ent := [(0, .iload_n 1, 1, 0, 0, 0, []), (1, .ifCond .eq 28, 3, 29, 0, 0, [])]
def s140_1 : List Ent := [(4, .iload_n 0, 1, 0, 0, 0, []), (5, .iload_n 1, 1, 0, 0, 0, []), (6, .if_icmp .eq 23, 3, 29, 0, 0, [])]
def s140_2 : List Ent := [(9, .iload_n 0, 1, 0, 0, 0, []), (10, .iconst 3, 1, 0, 0, 0, []), (11, .if_icmp .ne 8, 3, 19, 0, 0, [])]
def s140_3 : List Ent := [(14, .iload_n 1, 1, 0, 0, 0, []), (15, .iconst 1, 1, 0, 0, 0, []), (16, .if_icmp .eq 13, 3, 29, 0, 0, [])]
def s140_4 : List Ent := [(19, .iload_n 0, 1, 0, 0, 0, []), (20, .iconst 5, 1, 0, 0, 0, []), (21, .if_icmp .ne 12, 3, 33, 0, 0, [])]
def s140_5 : List Ent := [(24, .iload_n 1, 1, 0, 0, 0, []), (25, .iconst 2, 1, 0, 0, 0, []), (26, .if_icmp .ne 7, 3, 33, 0, 0, [])]
def s140_6 : List Ent := [(29, .iconst 1, 1, 0, 0, 0, []), (30, .goto 4, 3, 34, 0, 0, [])]
def s140_7 : List Ent := [(33, .iconst 0, 1, 0, 0, 0, [])]
def s140_8 : List Ent := [(34, .ireturn, 1, 1, 0, 0, [])]
def sg140 : List (List Ent) := [s140_0, s140_1, s140_2, s140_3, s140_4, s140_5, s140_6, s140_7, s140_8]
theorem ch140 : chkM mi140.2.1 mi140.2.2.1 mi140.2.2.2 lkRX8 sg140 = true := by decide +kernel
def s141_0 : List Ent := [(0, .aload_n 0, 1, 0, 0, 0, []), (1, .iload_n 1, 1, 0, 0, 0, [])]
def s141_1 : List Ent := [(2, .invokevirtual 91, 3, 125, 1, 8, [])]
def s141_2 : List Ent := [(5, .ifCond .ne 9, 3, 14, 0, 0, [])]
def s141_3 : List Ent := [(8, .aload_n 0, 1, 0, 0, 0, []), (9, .iconst 1, 1, 0, 0, 0, [])]
def s141_4 : List Ent := [(10, .invokevirtual 64, 3, 120, 1, 8, [])]
def s141_5 : List Ent := [(13, .ireturn, 1, 0, 0, 0, [])]
def s141_6 : List Ent := [(14, .iload_n 2, 1, 0, 0, 0, []), (15, .i2l, 1, 0, 0, 0, []), (16, .lconst 0, 1, 0, 0, 0, []), (17, .ldc2_w 86, 3, 0, 0, 0, [5])]
def s141_7 : List Ent := [(20, .invokestatic 74, 3, 117, 3, 0, [])]
def s141_8 : List Ent := [(23, .ifCond .ne 9, 3, 32, 0, 0, [])]
def s141_9 : List Ent := [(26, .aload_n 0, 1, 0, 0, 0, []), (27, .iconst 2, 1, 0, 0, 0, [])]
def s141_10 : List Ent := [(28, .invokevirtual 64, 3, 120, 1, 8, [])]
def s141_11 : List Ent := [(31, .ireturn, 1, 0, 0, 0, [])]
def s141_12 : List Ent := [(32, .aload_n 0, 1, 0, 0, 0, []), (33, .getfield 9, 3, 8, 0, 2, []), (36, .iconst 1, 1, 0, 0, 0, []), (37, .iload_n 1, 1, 0, 0, 0, []), (38, .iadd, 1, 0, 0, 0, []), (39, .iaload, 1, 0, 0, 0, []), (40, .iload_n 2, 1, 0, 0, 0, [])]
def s141_13 : List Ent := [(41, .invokestatic 134, 3, 140, 2, 0, [])]
def s141_14 : List Ent := [(44, .ifCond .eq 14, 3, 58, 0, 0, [])]
def s141_15 : List Ent := [(47, .aload_n 0, 1, 0, 0, 0, []), (48, .getfield 9, 3, 8, 0, 2, []), (51, .iconst 1, 1, 0, 0, 0, []), (52, .iload_n 1, 1, 0, 0, 0, []), (53, .iadd, 1, 0, 0, 0, []), (54, .iaload, 1, 0, 0, 0, []), (55, .goto 9, 3, 64, 0, 0, [])]
def s141_16 : List Ent := [(58, .aload_n 0, 1, 0, 0, 0, []), (59, .bipush 16, 2, 0, 0, 0, [])]
def s141_17 : List Ent := [(61, .invokevirtual 64, 3, 120, 1, 8, [])]
def s141_18 : List Ent := [(64, .ireturn, 1, 0, 0, 0, [])]
def sg141 : List (List Ent) := [s141_0, s141_1, s141_2, s141_3, s141_4, s141_5, s141_6, s141_7, s141_8, s141_9, s141_10, s141_11, s141_12, s141_13, s141_14, s141_15, s141_16, s141_17, s141_18]
theorem ch141 : chkM mi141.2.1 mi141.2.2.1 mi141.2.2.2 lkRX8 sg141 = true := by decide +kernel
def s142_0 : List Ent := [(0, .iconst 0, 1, 0, 0, 0, []), (1, .istore_n 3, 1, 0, 0, 0, [])]
def s142_1 : List Ent := [(2, .iload_n 3, 1, 0, 0, 0, []), (3, .bipush 9, 2, 0, 0, 0, []), (5, .if_icmp .ge 62, 3, 67, 0, 0, [])]
def s142_2 : List Ent := [(8, .iload_n 1, 1, 0, 0, 0, []), (9, .iload_n 2, 1, 0, 0, 0, []), (10, .if_icmp .eq 57, 3, 67, 0, 0, [])]
def s142_3 : List Ent := [(13, .aload_n 0, 1, 0, 0, 0, []), (14, .getfield 25, 3, 8, 8, 2, []), (17, .bipush 9, 2, 0, 0, 0, []), (19, .iload_n 1, 1, 0, 0, 0, []), (20, .imul, 1, 0, 0, 0, []), (21, .iload_n 3, 1, 0, 0, 0, []), (22, .iadd, 1, 0, 0, 0, []), (23, .laload, 1, 0, 0, 0, []), (24, .lstore 4, 2, 0, 0, 0, []), (26, .aload_n 0, 1, 0, 0, 0, []), (27, .getfield 25, 3, 8, 8, 2, []), (30, .bipush 9, 2, 0, 0, 0, []), (32, .iload_n 1, 1, 0, 0, 0, []), (33, .imul, 1, 0, 0, 0, []), (34, .iload_n 3, 1, 0, 0, 0, []), (35, .iadd, 1, 0, 0, 0, []), (36, .aload_n 0, 1, 0, 0, 0, []), (37, .getfield 25, 3, 8, 8, 2, []), (40, .bipush 9, 2, 0, 0, 0, []), (42, .iload_n 2, 1, 0, 0, 0, []), (43, .imul, 1, 0, 0, 0, []), (44, .iload_n 3, 1, 0, 0, 0, []), (45, .iadd, 1, 0, 0, 0, []), (46, .laload, 1, 0, 0, 0, []), (47, .lastore, 1, 0, 0, 0, []), (48, .aload_n 0, 1, 0, 0, 0, []), (49, .getfield 25, 3, 8, 8, 2, []), (52, .bipush 9, 2, 0, 0, 0, []), (54, .iload_n 2, 1, 0, 0, 0, []), (55, .imul, 1, 0, 0, 0, []), (56, .iload_n 3, 1, 0, 0, 0, []), (57, .iadd, 1, 0, 0, 0, []), (58, .lload 4, 2, 0, 0, 0, []), (60, .lastore, 1, 0, 0, 0, []), (61, .iinc 3 1, 3, 0, 0, 0, []), (64, .goto (-62), 3, 2, 0, 0, [])]
def s142_4 : List Ent := [(67, .return_, 1, 0, 0, 0, [])]
def sg142 : List (List Ent) := [s142_0, s142_1, s142_2, s142_3, s142_4]
theorem ch142 : chkM mi142.2.1 mi142.2.2.1 mi142.2.2.2 lkRX8 sg142 = true := by decide +kernel
def s143_0 : List Ent := [(0, .lconst 1, 1, 0, 0, 0, []), (1, .lstore_n 3, 1, 0, 0, 0, []), (2, .iconst 0, 1, 0, 0, 0, []), (3, .istore 5, 2, 0, 0, 0, [])]
def s143_1 : List Ent := [(5, .iload 5, 2, 0, 0, 0, []), (7, .iload_n 1, 1, 0, 0, 0, []), (8, .if_icmp .ge 180, 3, 188, 0, 0, [])]
def s143_2 : List Ent := [(11, .iload 5, 2, 0, 0, 0, []), (13, .istore 6, 2, 0, 0, 0, [])]
def s143_3 : List Ent := [(15, .iload 6, 2, 0, 0, 0, []), (17, .iconst 5, 1, 0, 0, 0, []), (18, .if_icmp .ge 27, 3, 45, 0, 0, [])]
def s143_4 : List Ent := [(21, .aload_n 0, 1, 0, 0, 0, []), (22, .getfield 25, 3, 8, 8, 2, []), (25, .bipush 9, 2, 0, 0, 0, []), (27, .iload 6, 2, 0, 0, 0, []), (29, .imul, 1, 0, 0, 0, []), (30, .iload 5, 2, 0, 0, 0, []), (32, .iadd, 1, 0, 0, 0, []), (33, .laload, 1, 0, 0, 0, []), (34, .lconst 0, 1, 0, 0, 0, []), (35, .lcmp, 1, 0, 0, 0, []), (36, .ifCond .ne 9, 3, 45, 0, 0, [])]
def s143_5 : List Ent := [(39, .iinc 6 1, 3, 0, 0, 0, []), (42, .goto (-27), 3, 15, 0, 0, [])]
def s143_6 : List Ent := [(45, .iload 6, 2, 0, 0, 0, []), (47, .iconst 5, 1, 0, 0, 0, []), (48, .if_icmp .lt 5, 3, 53, 0, 0, [])]
def s143_7 : List Ent := [(51, .lconst 0, 1, 0, 0, 0, [])]
def s143_8 : List Ent := [(52, .lreturn, 1, 0, 0, 0, [])]
def s143_9 : List Ent := [(53, .aload_n 0, 1, 0, 0, 0, []), (54, .iload 5, 2, 0, 0, 0, []), (56, .iload 6, 2, 0, 0, 0, [])]
def s143_10 : List Ent := [(58, .invokevirtual 137, 3, 142, 2, 8, [])]
def s143_11 : List Ent := [(61, .aload_n 0, 1, 0, 0, 0, []), (62, .getfield 25, 3, 8, 8, 2, []), (65, .bipush 9, 2, 0, 0, 0, []), (67, .iload 5, 2, 0, 0, 0, []), (69, .imul, 1, 0, 0, 0, []), (70, .iload 5, 2, 0, 0, 0, []), (72, .iadd, 1, 0, 0, 0, []), (73, .laload, 1, 0, 0, 0, []), (74, .lstore 7, 2, 0, 0, 0, []), (76, .iconst 0, 1, 0, 0, 0, []), (77, .istore 9, 2, 0, 0, 0, [])]
def s143_12 : List Ent := [(79, .iload 9, 2, 0, 0, 0, []), (81, .iconst 5, 1, 0, 0, 0, []), (82, .if_icmp .ge 97, 3, 179, 0, 0, [])]
def s143_13 : List Ent := [(85, .iload 9, 2, 0, 0, 0, []), (87, .iload 5, 2, 0, 0, 0, []), (89, .if_icmp .ne 6, 3, 95, 0, 0, [])]
def s143_14 : List Ent := [(92, .goto 81, 3, 173, 0, 0, [])]
def s143_15 : List Ent := [(95, .aload_n 0, 1, 0, 0, 0, []), (96, .getfield 25, 3, 8, 8, 2, []), (99, .bipush 9, 2, 0, 0, 0, []), (101, .iload 9, 2, 0, 0, 0, []), (103, .imul, 1, 0, 0, 0, []), (104, .iload 5, 2, 0, 0, 0, []), (106, .iadd, 1, 0, 0, 0, []), (107, .laload, 1, 0, 0, 0, []), (108, .lstore 10, 2, 0, 0, 0, []), (110, .iconst 0, 1, 0, 0, 0, []), (111, .istore 12, 2, 0, 0, 0, [])]
def s143_16 : List Ent := [(113, .iload 12, 2, 0, 0, 0, []), (115, .iload_n 2, 1, 0, 0, 0, []), (116, .if_icmp .ge 57, 3, 173, 0, 0, [])]
def s143_17 : List Ent := [(119, .aload_n 0, 1, 0, 0, 0, []), (120, .getfield 25, 3, 8, 8, 2, []), (123, .bipush 9, 2, 0, 0, 0, []), (125, .iload 9, 2, 0, 0, 0, []), (127, .imul, 1, 0, 0, 0, []), (128, .iload 12, 2, 0, 0, 0, []), (130, .iadd, 1, 0, 0, 0, []), (131, .aload_n 0, 1, 0, 0, 0, []), (132, .getfield 25, 3, 8, 8, 2, []), (135, .bipush 9, 2, 0, 0, 0, []), (137, .iload 9, 2, 0, 0, 0, []), (139, .imul, 1, 0, 0, 0, []), (140, .iload 12, 2, 0, 0, 0, []), (142, .iadd, 1, 0, 0, 0, []), (143, .laload, 1, 0, 0, 0, []), (144, .lload 7, 2, 0, 0, 0, []), (146, .lmul, 1, 0, 0, 0, []), (147, .lload 10, 2, 0, 0, 0, []), (149, .aload_n 0, 1, 0, 0, 0, []), (150, .getfield 25, 3, 8, 8, 2, []), (153, .bipush 9, 2, 0, 0, 0, []), (155, .iload 5, 2, 0, 0, 0, []), (157, .imul, 1, 0, 0, 0, []), (158, .iload 12, 2, 0, 0, 0, []), (160, .iadd, 1, 0, 0, 0, []), (161, .laload, 1, 0, 0, 0, []), (162, .lmul, 1, 0, 0, 0, []), (163, .lsub, 1, 0, 0, 0, []), (164, .lload_n 3, 1, 0, 0, 0, []), (165, .ldiv, 1, 0, 0, 0, []), (166, .lastore, 1, 0, 0, 0, []), (167, .iinc 12 1, 3, 0, 0, 0, []), (170, .goto (-57), 3, 113, 0, 0, [])]
def s143_18 : List Ent := [(173, .iinc 9 1, 3, 0, 0, 0, []), (176, .goto (-97), 3, 79, 0, 0, [])]
def s143_19 : List Ent := [(179, .lload 7, 2, 0, 0, 0, []), (181, .lstore_n 3, 1, 0, 0, 0, []), (182, .iinc 5 1, 3, 0, 0, 0, []), (185, .goto (-180), 3, 5, 0, 0, [])]
def s143_20 : List Ent := [(188, .lload_n 3, 1, 0, 0, 0, [])]
def s143_21 : List Ent := [(189, .lreturn, 1, 0, 0, 0, [])]
def sg143 : List (List Ent) := [s143_0, s143_1, s143_2, s143_3, s143_4, s143_5, s143_6, s143_7, s143_8, s143_9, s143_10, s143_11, s143_12, s143_13, s143_14, s143_15, s143_16, s143_17, s143_18, s143_19, s143_20, s143_21]
theorem ch143 : chkM mi143.2.1 mi143.2.2.1 mi143.2.2.2 lkRX8 sg143 = true := by decide +kernel
def s144_0 : List Ent := [(0, .iconst 0, 1, 0, 0, 0, []), (1, .istore_n 3, 1, 0, 0, 0, []), (2, .iconst 0, 1, 0, 0, 0, []), (3, .istore 4, 2, 0, 0, 0, [])]
def s144_1 : List Ent := [(5, .iload 4, 2, 0, 0, 0, []), (7, .aload_n 0, 1, 0, 0, 0, []), (8, .getfield 9, 3, 8, 0, 2, []), (11, .iconst 0, 1, 0, 0, 0, []), (12, .iaload, 1, 0, 0, 0, []), (13, .if_icmp .ge 60, 3, 73, 0, 0, [])]
def s144_2 : List Ent := [(16, .iload_n 1, 1, 0, 0, 0, []), (17, .iload 4, 2, 0, 0, 0, [])]
def s144_3 : List Ent := [(19, .invokestatic 117, 3, 118, 2, 0, [])]
def s144_4 : List Ent := [(22, .ifCond .ne 6, 3, 28, 0, 0, [])]
def s144_5 : List Ent := [(25, .goto 42, 3, 67, 0, 0, [])]
def s144_6 : List Ent := [(28, .iconst 0, 1, 0, 0, 0, []), (29, .istore 5, 2, 0, 0, 0, [])]
def s144_7 : List Ent := [(31, .iload 5, 2, 0, 0, 0, []), (33, .iconst 5, 1, 0, 0, 0, []), (34, .if_icmp .ge 30, 3, 64, 0, 0, [])]
def s144_8 : List Ent := [(37, .aload_n 0, 1, 0, 0, 0, []), (38, .getfield 25, 3, 8, 8, 2, []), (41, .bipush 9, 2, 0, 0, 0, []), (43, .iload 5, 2, 0, 0, 0, []), (45, .imul, 1, 0, 0, 0, []), (46, .iload_n 3, 1, 0, 0, 0, []), (47, .iadd, 1, 0, 0, 0, []), (48, .aload_n 0, 1, 0, 0, 0, []), (49, .iload 4, 2, 0, 0, 0, []), (51, .iload 5, 2, 0, 0, 0, [])]
def s144_9 : List Ent := [(53, .invokevirtual 105, 3, 134, 2, 8, [])]
def s144_10 : List Ent := [(56, .i2l, 1, 0, 0, 0, []), (57, .lastore, 1, 0, 0, 0, []), (58, .iinc 5 1, 3, 0, 0, 0, []), (61, .goto (-30), 3, 31, 0, 0, [])]
def s144_11 : List Ent := [(64, .iinc 3 1, 3, 0, 0, 0, [])]
def s144_12 : List Ent := [(67, .iinc 4 1, 3, 0, 0, 0, []), (70, .goto (-65), 3, 5, 0, 0, [])]
def s144_13 : List Ent := [(73, .iconst 0, 1, 0, 0, 0, []), (74, .istore 4, 2, 0, 0, 0, [])]
def s144_14 : List Ent := [(76, .iload 4, 2, 0, 0, 0, []), (78, .iconst 5, 1, 0, 0, 0, []), (79, .if_icmp .ge 33, 3, 112, 0, 0, [])]
def s144_15 : List Ent := [(82, .iload_n 2, 1, 0, 0, 0, []), (83, .ifCond .lt 29, 3, 112, 0, 0, [])]
def s144_16 : List Ent := [(86, .aload_n 0, 1, 0, 0, 0, []), (87, .getfield 25, 3, 8, 8, 2, []), (90, .bipush 9, 2, 0, 0, 0, []), (92, .iload 4, 2, 0, 0, 0, []), (94, .imul, 1, 0, 0, 0, []), (95, .iload_n 3, 1, 0, 0, 0, []), (96, .iadd, 1, 0, 0, 0, []), (97, .aload_n 0, 1, 0, 0, 0, []), (98, .iload_n 2, 1, 0, 0, 0, []), (99, .iload 4, 2, 0, 0, 0, [])]
def s144_17 : List Ent := [(101, .invokevirtual 105, 3, 134, 2, 8, [])]
def s144_18 : List Ent := [(104, .i2l, 1, 0, 0, 0, []), (105, .lastore, 1, 0, 0, 0, []), (106, .iinc 4 1, 3, 0, 0, 0, []), (109, .goto (-33), 3, 76, 0, 0, [])]
def s144_19 : List Ent := [(112, .iload_n 3, 1, 0, 0, 0, [])]
def s144_20 : List Ent := [(113, .ireturn, 1, 0, 0, 0, [])]
def sg144 : List (List Ent) := [s144_0, s144_1, s144_2, s144_3, s144_4, s144_5, s144_6, s144_7, s144_8, s144_9, s144_10, s144_11, s144_12, s144_13, s144_14, s144_15, s144_16, s144_17, s144_18, s144_19, s144_20]
theorem ch144 : chkM mi144.2.1 mi144.2.2.1 mi144.2.2.2 lkRX8 sg144 = true := by decide +kernel
def s145_0 : List Ent := [(0, .iload_n 1, 1, 0, 0, 0, [])]
def s145_1 : List Ent := [(1, .invokestatic 140, 3, 119, 1, 0, [])]
def s145_2 : List Ent := [(4, .iconst 5, 1, 0, 0, 0, []), (5, .if_icmp .gt 26, 3, 31, 0, 0, [])]
def s145_3 : List Ent := [(8, .aload_n 0, 1, 0, 0, 0, []), (9, .aload_n 0, 1, 0, 0, 0, []), (10, .iload_n 1, 1, 0, 0, 0, []), (11, .iconst (-1), 1, 0, 0, 0, [])]
def s145_4 : List Ent := [(12, .invokevirtual 143, 3, 144, 2, 8, [])]
def s145_5 : List Ent := [(15, .iload_n 1, 1, 0, 0, 0, [])]
def s145_6 : List Ent := [(16, .invokestatic 140, 3, 119, 1, 0, [])]
def s145_7 : List Ent := [(19, .invokevirtual 146, 3, 143, 2, 8, [])]
def s145_8 : List Ent := [(22, .lconst 0, 1, 0, 0, 0, []), (23, .lcmp, 1, 0, 0, 0, []), (24, .ifCond .eq 7, 3, 31, 0, 0, [])]
def s145_9 : List Ent := [(27, .iconst 1, 1, 0, 0, 0, []), (28, .goto 4, 3, 32, 0, 0, [])]
def s145_10 : List Ent := [(31, .iconst 0, 1, 0, 0, 0, [])]
def s145_11 : List Ent := [(32, .ireturn, 1, 1, 0, 0, [])]
def sg145 : List (List Ent) := [s145_0, s145_1, s145_2, s145_3, s145_4, s145_5, s145_6, s145_7, s145_8, s145_9, s145_10, s145_11]
theorem ch145 : chkM mi145.2.1 mi145.2.2.1 mi145.2.2.2 lkRX8 sg145 = true := by decide +kernel
def s146_0 : List Ent := [(0, .aload_n 0, 1, 0, 0, 0, []), (1, .iload_n 1, 1, 0, 0, 0, []), (2, .iload_n 2, 1, 0, 0, 0, [])]
def s146_1 : List Ent := [(3, .invokevirtual 143, 3, 144, 2, 8, [])]
def s146_2 : List Ent := [(6, .istore_n 3, 1, 0, 0, 0, []), (7, .aload_n 0, 1, 0, 0, 0, []), (8, .iload_n 3, 1, 0, 0, 0, []), (9, .iload_n 3, 1, 0, 0, 0, []), (10, .iconst 1, 1, 0, 0, 0, []), (11, .iadd, 1, 0, 0, 0, [])]
def s146_3 : List Ent := [(12, .invokevirtual 146, 3, 143, 2, 8, [])]
def s146_4 : List Ent := [(15, .lstore 4, 2, 0, 0, 0, []), (17, .iload_n 3, 1, 0, 0, 0, []), (18, .istore 6, 2, 0, 0, 0, [])]
def s146_5 : List Ent := [(20, .iload 6, 2, 0, 0, 0, []), (22, .iconst 5, 1, 0, 0, 0, []), (23, .if_icmp .ge 28, 3, 51, 0, 0, [])]
def s146_6 : List Ent := [(26, .aload_n 0, 1, 0, 0, 0, []), (27, .getfield 25, 3, 8, 8, 2, []), (30, .bipush 9, 2, 0, 0, 0, []), (32, .iload 6, 2, 0, 0, 0, []), (34, .imul, 1, 0, 0, 0, []), (35, .iload_n 3, 1, 0, 0, 0, []), (36, .iadd, 1, 0, 0, 0, []), (37, .laload, 1, 0, 0, 0, []), (38, .lconst 0, 1, 0, 0, 0, []), (39, .lcmp, 1, 0, 0, 0, []), (40, .ifCond .eq 5, 3, 45, 0, 0, [])]
def s146_7 : List Ent := [(43, .iconst 0, 1, 0, 0, 0, [])]
def s146_8 : List Ent := [(44, .ireturn, 1, 1, 0, 0, [])]
def s146_9 : List Ent := [(45, .iinc 6 1, 3, 0, 0, 0, []), (48, .goto (-28), 3, 20, 0, 0, [])]
def s146_10 : List Ent := [(51, .lload 4, 2, 0, 0, 0, []), (53, .lstore 6, 2, 0, 0, 0, []), (55, .iconst 0, 1, 0, 0, 0, []), (56, .istore 8, 2, 0, 0, 0, [])]
def s146_11 : List Ent := [(58, .iload 8, 2, 0, 0, 0, []), (60, .iload_n 3, 1, 0, 0, 0, []), (61, .if_icmp .ge 28, 3, 89, 0, 0, [])]
def s146_12 : List Ent := [(64, .lload 6, 2, 0, 0, 0, []), (66, .aload_n 0, 1, 0, 0, 0, []), (67, .getfield 25, 3, 8, 8, 2, []), (70, .bipush 9, 2, 0, 0, 0, []), (72, .iload 8, 2, 0, 0, 0, []), (74, .imul, 1, 0, 0, 0, []), (75, .iload_n 3, 1, 0, 0, 0, []), (76, .iadd, 1, 0, 0, 0, []), (77, .laload, 1, 0, 0, 0, [])]
def s146_13 : List Ent := [(78, .invokestatic 70, 3, 123, 2, 0, [])]
def s146_14 : List Ent := [(81, .lstore 6, 2, 0, 0, 0, []), (83, .iinc 8 1, 3, 0, 0, 0, []), (86, .goto (-28), 3, 58, 0, 0, [])]
def s146_15 : List Ent := [(89, .lload 4, 2, 0, 0, 0, []), (91, .lconst 0, 1, 0, 0, 0, []), (92, .lcmp, 1, 0, 0, 0, []), (93, .ifCond .ge 9, 3, 102, 0, 0, [])]
def s146_16 : List Ent := [(96, .lload 6, 2, 0, 0, 0, []), (98, .lneg, 1, 0, 0, 0, []), (99, .goto 5, 3, 104, 0, 0, [])]
def s146_17 : List Ent := [(102, .lload 6, 2, 0, 0, 0, [])]
def s146_18 : List Ent := [(104, .lstore 6, 2, 0, 0, 0, []), (106, .iconst 0, 1, 0, 0, 0, []), (107, .istore 8, 2, 0, 0, 0, []), (109, .iconst 0, 1, 0, 0, 0, []), (110, .istore 9, 2, 0, 0, 0, [])]
def s146_19 : List Ent := [(112, .iload 9, 2, 0, 0, 0, []), (114, .aload_n 0, 1, 0, 0, 0, []), (115, .getfield 9, 3, 8, 0, 2, []), (118, .iconst 0, 1, 0, 0, 0, []), (119, .iaload, 1, 0, 0, 0, []), (120, .if_icmp .ge 64, 3, 184, 0, 0, [])]
def s146_20 : List Ent := [(123, .aload_n 0, 1, 0, 0, 0, []), (124, .getfield 29, 3, 8, 9, 2, []), (127, .iload 9, 2, 0, 0, 0, []), (129, .iload_n 1, 1, 0, 0, 0, []), (130, .iload 9, 2, 0, 0, 0, [])]
def s146_21 : List Ent := [(132, .invokestatic 117, 3, 118, 2, 0, [])]
def s146_22 : List Ent := [(135, .ifCond .eq 22, 3, 157, 0, 0, [])]
def s146_23 : List Ent := [(138, .aload_n 0, 1, 0, 0, 0, []), (139, .getfield 25, 3, 8, 8, 2, []), (142, .bipush 9, 2, 0, 0, 0, []), (144, .iload 8, 2, 0, 0, 0, []), (146, .imul, 1, 0, 0, 0, []), (147, .iload_n 3, 1, 0, 0, 0, []), (148, .iadd, 1, 0, 0, 0, []), (149, .laload, 1, 0, 0, 0, []), (150, .lneg, 1, 0, 0, 0, []), (151, .lload 6, 2, 0, 0, 0, []), (153, .ldiv, 1, 0, 0, 0, []), (154, .goto 4, 3, 158, 0, 0, [])]
def s146_24 : List Ent := [(157, .lconst 0, 1, 0, 0, 0, [])]
def s146_25 : List Ent := [(158, .lastore, 1, 0, 0, 0, []), (159, .iload 8, 2, 0, 0, 0, []), (161, .iload_n 1, 1, 0, 0, 0, []), (162, .iload 9, 2, 0, 0, 0, [])]
def s146_26 : List Ent := [(164, .invokestatic 117, 3, 118, 2, 0, [])]
def s146_27 : List Ent := [(167, .ifCond .eq 7, 3, 174, 0, 0, [])]
def s146_28 : List Ent := [(170, .iconst 1, 1, 0, 0, 0, []), (171, .goto 4, 3, 175, 0, 0, [])]
def s146_29 : List Ent := [(174, .iconst 0, 1, 0, 0, 0, [])]
def s146_30 : List Ent := [(175, .iadd, 1, 0, 0, 0, []), (176, .istore 8, 2, 0, 0, 0, []), (178, .iinc 9 1, 3, 0, 0, 0, []), (181, .goto (-69), 3, 112, 0, 0, [])]
def s146_31 : List Ent := [(184, .aload_n 0, 1, 0, 0, 0, []), (185, .getfield 29, 3, 8, 9, 2, []), (188, .iload_n 2, 1, 0, 0, 0, []), (189, .lload 4, 2, 0, 0, 0, []), (191, .lload 6, 2, 0, 0, 0, []), (193, .ldiv, 1, 0, 0, 0, []), (194, .lastore, 1, 0, 0, 0, []), (195, .iconst 1, 1, 0, 0, 0, [])]
def s146_32 : List Ent := [(196, .ireturn, 1, 1, 0, 0, [])]
def sg146 : List (List Ent) := [s146_0, s146_1, s146_2, s146_3, s146_4, s146_5, s146_6, s146_7, s146_8, s146_9, s146_10, s146_11, s146_12, s146_13, s146_14, s146_15, s146_16, s146_17, s146_18, s146_19, s146_20, s146_21, s146_22, s146_23, s146_24, s146_25, s146_26, s146_27, s146_28, s146_29, s146_30, s146_31, s146_32]
theorem ch146 : chkM mi146.2.1 mi146.2.2.1 mi146.2.2.2 lkRX8 sg146 = true := by decide +kernel
def s147_0 : List Ent := [(0, .iconst 0, 1, 0, 0, 0, []), (1, .istore_n 1, 1, 0, 0, 0, []), (2, .iconst 0, 1, 0, 0, 0, []), (3, .istore_n 2, 1, 0, 0, 0, [])]
def s147_1 : List Ent := [(4, .iload_n 2, 1, 0, 0, 0, []), (5, .aload_n 0, 1, 0, 0, 0, []), (6, .getfield 9, 3, 8, 0, 2, []), (9, .iconst 0, 1, 0, 0, 0, []), (10, .iaload, 1, 0, 0, 0, []), (11, .if_icmp .ge 28, 3, 39, 0, 0, [])]
def s147_2 : List Ent := [(14, .iload_n 1, 1, 0, 0, 0, []), (15, .aload_n 0, 1, 0, 0, 0, []), (16, .iload_n 1, 1, 0, 0, 0, []), (17, .iload_n 2, 1, 0, 0, 0, [])]
def s147_3 : List Ent := [(18, .invokevirtual 150, 3, 146, 2, 8, [])]
def s147_4 : List Ent := [(21, .ifCond .eq 7, 3, 28, 0, 0, [])]
def s147_5 : List Ent := [(24, .iconst 0, 1, 0, 0, 0, []), (25, .goto 6, 3, 31, 0, 0, [])]
def s147_6 : List Ent := [(28, .iconst 1, 1, 0, 0, 0, []), (29, .iload_n 2, 1, 0, 0, 0, []), (30, .ishl, 1, 0, 0, 0, [])]
def s147_7 : List Ent := [(31, .ior, 1, 0, 0, 0, []), (32, .istore_n 1, 1, 0, 0, 0, []), (33, .iinc 2 1, 3, 0, 0, 0, []), (36, .goto (-32), 3, 4, 0, 0, [])]
def s147_8 : List Ent := [(39, .iload_n 1, 1, 0, 0, 0, [])]
def s147_9 : List Ent := [(40, .ireturn, 1, 0, 0, 0, [])]
def sg147 : List (List Ent) := [s147_0, s147_1, s147_2, s147_3, s147_4, s147_5, s147_6, s147_7, s147_8, s147_9]
theorem ch147 : chkM mi147.2.1 mi147.2.2.1 mi147.2.2.2 lkRX8 sg147 = true := by decide +kernel
def s148_0 : List Ent := [(0, .iconst 1, 1, 0, 0, 0, []), (1, .aload_n 0, 1, 0, 0, 0, []), (2, .getfield 9, 3, 8, 0, 2, []), (5, .iconst 0, 1, 0, 0, 0, []), (6, .iaload, 1, 0, 0, 0, []), (7, .ishl, 1, 0, 0, 0, []), (8, .iconst 1, 1, 0, 0, 0, []), (9, .isub, 1, 0, 0, 0, []), (10, .aload_n 0, 1, 0, 0, 0, [])]
def s148_1 : List Ent := [(11, .invokevirtual 113, 3, 147, 0, 8, [])]
def s148_2 : List Ent := [(14, .iconst (-1), 1, 0, 0, 0, []), (15, .ixor, 1, 0, 0, 0, []), (16, .iand, 1, 0, 0, 0, [])]
def s148_3 : List Ent := [(17, .ireturn, 1, 0, 0, 0, [])]
def sg148 : List (List Ent) := [s148_0, s148_1, s148_2, s148_3]
theorem ch148 : chkM mi148.2.1 mi148.2.2.1 mi148.2.2.2 lkRX8 sg148 = true := by decide +kernel
def s149_0 : List Ent := [(0, .iload_n 1, 1, 0, 0, 0, []), (1, .istore_n 2, 1, 0, 0, 0, []), (2, .aload_n 0, 1, 0, 0, 0, [])]
def s149_1 : List Ent := [(3, .invokevirtual 153, 3, 148, 0, 8, [])]
def s149_2 : List Ent := [(6, .istore_n 3, 1, 0, 0, 0, []), (7, .iconst 0, 1, 0, 0, 0, []), (8, .istore 4, 2, 0, 0, 0, [])]
def s149_3 : List Ent := [(10, .iload 4, 2, 0, 0, 0, []), (12, .aload_n 0, 1, 0, 0, 0, []), (13, .getfield 9, 3, 8, 0, 2, []), (16, .iconst 0, 1, 0, 0, 0, []), (17, .iaload, 1, 0, 0, 0, []), (18, .if_icmp .ge 32, 3, 50, 0, 0, [])]
def s149_4 : List Ent := [(21, .iload_n 1, 1, 0, 0, 0, []), (22, .ifCond .lt 28, 3, 50, 0, 0, [])]
def s149_5 : List Ent := [(25, .iload_n 3, 1, 0, 0, 0, []), (26, .iload 4, 2, 0, 0, 0, [])]
def s149_6 : List Ent := [(28, .invokestatic 117, 3, 118, 2, 0, [])]
def s149_7 : List Ent := [(31, .ifCond .eq 13, 3, 44, 0, 0, [])]
def s149_8 : List Ent := [(34, .iload_n 2, 1, 0, 0, 0, []), (35, .ifCond .ne 6, 3, 41, 0, 0, [])]
def s149_9 : List Ent := [(38, .iload 4, 2, 0, 0, 0, [])]
def s149_10 : List Ent := [(40, .ireturn, 1, 0, 0, 0, [])]
def s149_11 : List Ent := [(41, .iinc 2 (-1), 3, 0, 0, 0, [])]
def s149_12 : List Ent := [(44, .iinc 4 1, 3, 0, 0, 0, []), (47, .goto (-37), 3, 10, 0, 0, [])]
def s149_13 : List Ent := [(50, .iconst (-1), 1, 0, 0, 0, [])]
def s149_14 : List Ent := [(51, .ireturn, 1, 0, 0, 0, [])]
def sg149 : List (List Ent) := [s149_0, s149_1, s149_2, s149_3, s149_4, s149_5, s149_6, s149_7, s149_8, s149_9, s149_10, s149_11, s149_12, s149_13, s149_14]
theorem ch149 : chkM mi149.2.1 mi149.2.2.1 mi149.2.2.2 lkRX8 sg149 = true := by decide +kernel
def s150_0 : List Ent := [(0, .aload_n 0, 1, 0, 0, 0, []), (1, .aload_n 0, 1, 0, 0, 0, [])]
def s150_1 : List Ent := [(2, .invokevirtual 113, 3, 147, 0, 8, [])]
def s150_2 : List Ent := [(5, .iconst 1, 1, 0, 0, 0, []), (6, .iload_n 1, 1, 0, 0, 0, []), (7, .ishl, 1, 0, 0, 0, []), (8, .iconst 1, 1, 0, 0, 0, []), (9, .isub, 1, 0, 0, 0, []), (10, .iand, 1, 0, 0, 0, []), (11, .iload_n 1, 1, 0, 0, 0, [])]
def s150_3 : List Ent := [(12, .invokevirtual 150, 3, 146, 2, 8, [])]
def s150_4 : List Ent := [(15, .istore_n 2, 1, 0, 0, 0, [])]
def s150_5 : List Ent := [(16, .return_, 1, 0, 0, 0, [])]
def sg150 : List (List Ent) := [s150_0, s150_1, s150_2, s150_3, s150_4, s150_5]
theorem ch150 : chkM mi150.2.1 mi150.2.2.1 mi150.2.2.2 lkRX8 sg150 = true := by decide +kernel
def s151_0 : List Ent := [(0, .iconst 0, 1, 0, 0, 0, []), (1, .istore_n 1, 1, 0, 0, 0, []), (2, .iconst 0, 1, 0, 0, 0, []), (3, .istore_n 2, 1, 0, 0, 0, [])]
def s151_1 : List Ent := [(4, .iload_n 2, 1, 0, 0, 0, []), (5, .aload_n 0, 1, 0, 0, 0, []), (6, .getfield 9, 3, 8, 0, 2, []), (9, .iconst 0, 1, 0, 0, 0, []), (10, .iaload, 1, 0, 0, 0, []), (11, .if_icmp .ge 34, 3, 45, 0, 0, [])]
def s151_2 : List Ent := [(14, .aload_n 0, 1, 0, 0, 0, []), (15, .iload_n 2, 1, 0, 0, 0, [])]
def s151_3 : List Ent := [(16, .invokevirtual 131, 3, 137, 1, 8, [])]
def s151_4 : List Ent := [(19, .istore_n 3, 1, 0, 0, 0, []), (20, .iload_n 1, 1, 0, 0, 0, []), (21, .iload_n 3, 1, 0, 0, 0, []), (22, .bipush (-9), 2, 0, 0, 0, []), (24, .if_icmp .eq 8, 3, 32, 0, 0, [])]
def s151_5 : List Ent := [(27, .iload_n 3, 1, 0, 0, 0, []), (28, .iload_n 2, 1, 0, 0, 0, []), (29, .if_icmp .le 7, 3, 36, 0, 0, [])]
def s151_6 : List Ent := [(32, .iconst 1, 1, 0, 0, 0, []), (33, .goto 4, 3, 37, 0, 0, [])]
def s151_7 : List Ent := [(36, .iconst 0, 1, 0, 0, 0, [])]
def s151_8 : List Ent := [(37, .iadd, 1, 0, 0, 0, []), (38, .istore_n 1, 1, 0, 0, 0, []), (39, .iinc 2 1, 3, 0, 0, 0, []), (42, .goto (-38), 3, 4, 0, 0, [])]
def s151_9 : List Ent := [(45, .iload_n 1, 1, 0, 0, 0, [])]
def s151_10 : List Ent := [(46, .ireturn, 1, 0, 0, 0, [])]
def sg151 : List (List Ent) := [s151_0, s151_1, s151_2, s151_3, s151_4, s151_5, s151_6, s151_7, s151_8, s151_9, s151_10]
theorem ch151 : chkM mi151.2.1 mi151.2.2.1 mi151.2.2.2 lkRX8 sg151 = true := by decide +kernel
def s152_0 : List Ent := [(0, .iload_n 1, 1, 0, 0, 0, []), (1, .tableswitch 57 0 3 #[31, 39, 47, 52], 31, 58, 0, 0, [32, 40, 48, 53])]
def s152_1 : List Ent := [(32, .aload_n 0, 1, 0, 0, 0, [])]
def s152_2 : List Ent := [(33, .invokevirtual 113, 3, 147, 0, 8, [])]
def s152_3 : List Ent := [(36, .invokestatic 140, 3, 119, 1, 0, [])]
def s152_4 : List Ent := [(39, .ireturn, 1, 0, 0, 0, [])]
def s152_5 : List Ent := [(40, .aload_n 0, 1, 0, 0, 0, [])]
def s152_6 : List Ent := [(41, .invokevirtual 153, 3, 148, 0, 8, [])]
def s152_7 : List Ent := [(44, .invokestatic 140, 3, 119, 1, 0, [])]
def s152_8 : List Ent := [(47, .ireturn, 1, 0, 0, 0, [])]
def s152_9 : List Ent := [(48, .aload_n 0, 1, 0, 0, 0, [])]
def s152_10 : List Ent := [(49, .invokevirtual 153, 3, 148, 0, 8, [])]
def s152_11 : List Ent := [(52, .ireturn, 1, 0, 0, 0, [])]
def s152_12 : List Ent := [(53, .aload_n 0, 1, 0, 0, 0, [])]
def s152_13 : List Ent := [(54, .invokevirtual 156, 3, 151, 0, 8, [])]
def s152_14 : List Ent := [(57, .ireturn, 1, 0, 0, 0, [])]
def s152_15 : List Ent := [(58, .aload_n 0, 1, 0, 0, 0, []), (59, .iconst 2, 1, 0, 0, 0, [])]
def s152_16 : List Ent := [(60, .invokevirtual 64, 3, 120, 1, 8, [])]
def s152_17 : List Ent := [(63, .ireturn, 1, 0, 0, 0, [])]
def sg152 : List (List Ent) := [s152_0, s152_1, s152_2, s152_3, s152_4, s152_5, s152_6, s152_7, s152_8, s152_9, s152_10, s152_11, s152_12, s152_13, s152_14, s152_15, s152_16, s152_17]
theorem ch152 : chkM mi152.2.1 mi152.2.2.1 mi152.2.2.2 lkRX8 sg152 = true := by decide +kernel
def s153_0 : List Ent := [(0, .aload_n 0, 1, 0, 0, 0, []), (1, .iload_n 1, 1, 0, 0, 0, [])]
def s153_1 : List Ent := [(2, .invokevirtual 159, 3, 149, 1, 8, [])]
def s153_2 : List Ent := [(5, .istore_n 3, 1, 0, 0, 0, []), (6, .iload_n 3, 1, 0, 0, 0, []), (7, .ifCond .lt 11, 3, 18, 0, 0, [])]
def s153_3 : List Ent := [(10, .aload_n 0, 1, 0, 0, 0, []), (11, .iload_n 2, 1, 0, 0, 0, [])]
def s153_4 : List Ent := [(12, .invokevirtual 91, 3, 125, 1, 8, [])]
def s153_5 : List Ent := [(15, .ifCond .ne 9, 3, 24, 0, 0, [])]
def s153_6 : List Ent := [(18, .aload_n 0, 1, 0, 0, 0, []), (19, .iconst 1, 1, 0, 0, 0, [])]
def s153_7 : List Ent := [(20, .invokevirtual 98, 3, 121, 1, 8, [])]
def s153_8 : List Ent := [(23, .ireturn, 1, 0, 0, 0, [])]
def s153_9 : List Ent := [(24, .aload_n 0, 1, 0, 0, 0, []), (25, .iload_n 3, 1, 0, 0, 0, [])]
def s153_10 : List Ent := [(26, .invokevirtual 162, 3, 150, 1, 8, [])]
def s153_11 : List Ent := [(29, .aload_n 0, 1, 0, 0, 0, []), (30, .getfield 29, 3, 8, 9, 2, []), (33, .iload_n 2, 1, 0, 0, 0, []), (34, .laload, 1, 0, 0, 0, []), (35, .l2i, 1, 0, 0, 0, [])]
def s153_12 : List Ent := [(36, .ireturn, 1, 0, 0, 0, [])]
def sg153 : List (List Ent) := [s153_0, s153_1, s153_2, s153_3, s153_4, s153_5, s153_6, s153_7, s153_8, s153_9, s153_10, s153_11, s153_12]
theorem ch153 : chkM mi153.2.1 mi153.2.2.1 mi153.2.2.2 lkRX8 sg153 = true := by decide +kernel
def s154_0 : List Ent := [(0, .iconst 1, 1, 0, 0, 0, []), (1, .istore_n 3, 1, 0, 0, 0, []), (2, .iconst 0, 1, 0, 0, 0, []), (3, .istore 4, 2, 0, 0, 0, [])]
def s154_1 : List Ent := [(5, .iload 4, 2, 0, 0, 0, []), (7, .iload_n 2, 1, 0, 0, 0, []), (8, .if_icmp .ge 63, 3, 71, 0, 0, [])]
def s154_2 : List Ent := [(11, .aload_n 0, 1, 0, 0, 0, []), (12, .getfield 41, 3, 8, 13, 2, []), (15, .iload 4, 2, 0, 0, 0, []), (17, .iload 4, 2, 0, 0, 0, []), (19, .aload_n 0, 1, 0, 0, 0, []), (20, .getfield 35, 3, 8, 11, 2, []), (23, .iload_n 1, 1, 0, 0, 0, []), (24, .iaload, 1, 0, 0, 0, []), (25, .if_icmp .ge 18, 3, 43, 0, 0, [])]
def s154_3 : List Ent := [(28, .aload_n 0, 1, 0, 0, 0, []), (29, .getfield 38, 3, 8, 12, 2, []), (32, .bipush 40, 2, 0, 0, 0, []), (34, .iload_n 1, 1, 0, 0, 0, []), (35, .imul, 1, 0, 0, 0, []), (36, .iload 4, 2, 0, 0, 0, []), (38, .iadd, 1, 0, 0, 0, []), (39, .iaload, 1, 0, 0, 0, []), (40, .goto 4, 3, 44, 0, 0, [])]
def s154_4 : List Ent := [(43, .iconst 0, 1, 0, 0, 0, [])]
def s154_5 : List Ent := [(44, .iastore, 1, 0, 0, 0, []), (45, .iload_n 3, 1, 0, 0, 0, []), (46, .aload_n 0, 1, 0, 0, 0, []), (47, .getfield 41, 3, 8, 13, 2, []), (50, .iload 4, 2, 0, 0, 0, []), (52, .iaload, 1, 0, 0, 0, []), (53, .i2l, 1, 0, 0, 0, []), (54, .ldc2_w 166, 3, 0, 0, 0, [-99]), (57, .ldc2_w 168, 3, 0, 0, 0, [99])]
def s154_6 : List Ent := [(60, .invokestatic 74, 3, 117, 3, 0, [])]
def s154_7 : List Ent := [(63, .iand, 1, 0, 0, 0, []), (64, .istore_n 3, 1, 0, 0, 0, []), (65, .iinc 4 1, 3, 0, 0, 0, []), (68, .goto (-63), 3, 5, 0, 0, [])]
def s154_8 : List Ent := [(71, .iload_n 3, 1, 0, 0, 0, [])]
def s154_9 : List Ent := [(72, .ireturn, 1, 1, 0, 0, [])]
def sg154 : List (List Ent) := [s154_0, s154_1, s154_2, s154_3, s154_4, s154_5, s154_6, s154_7, s154_8, s154_9]
theorem ch154 : chkM mi154.2.1 mi154.2.2.1 mi154.2.2.2 lkRX8 sg154 = true := by decide +kernel
def s155_0 : List Ent := [(0, .iconst 1, 1, 0, 0, 0, []), (1, .istore_n 1, 1, 0, 0, 0, []), (2, .iconst 0, 1, 0, 0, 0, []), (3, .istore_n 2, 1, 0, 0, 0, [])]
def s155_1 : List Ent := [(4, .iload_n 2, 1, 0, 0, 0, []), (5, .iconst 5, 1, 0, 0, 0, []), (6, .if_icmp .ge 61, 3, 67, 0, 0, [])]
def s155_2 : List Ent := [(9, .iconst 0, 1, 0, 0, 0, []), (10, .istore_n 3, 1, 0, 0, 0, []), (11, .iconst 0, 1, 0, 0, 0, []), (12, .istore 4, 2, 0, 0, 0, [])]
def s155_3 : List Ent := [(14, .iload 4, 2, 0, 0, 0, []), (16, .aload_n 0, 1, 0, 0, 0, []), (17, .getfield 9, 3, 8, 0, 2, []), (20, .iconst 0, 1, 0, 0, 0, []), (21, .iaload, 1, 0, 0, 0, []), (22, .if_icmp .ge 27, 3, 49, 0, 0, [])]
def s155_4 : List Ent := [(25, .iload_n 3, 1, 0, 0, 0, []), (26, .aload_n 0, 1, 0, 0, 0, []), (27, .getfield 41, 3, 8, 13, 2, []), (30, .iload 4, 2, 0, 0, 0, []), (32, .iaload, 1, 0, 0, 0, []), (33, .aload_n 0, 1, 0, 0, 0, []), (34, .iload 4, 2, 0, 0, 0, []), (36, .iload_n 2, 1, 0, 0, 0, [])]
def s155_5 : List Ent := [(37, .invokevirtual 105, 3, 134, 2, 8, [])]
def s155_6 : List Ent := [(40, .imul, 1, 0, 0, 0, []), (41, .iadd, 1, 0, 0, 0, []), (42, .istore_n 3, 1, 0, 0, 0, []), (43, .iinc 4 1, 3, 0, 0, 0, []), (46, .goto (-32), 3, 14, 0, 0, [])]
def s155_7 : List Ent := [(49, .iload_n 1, 1, 0, 0, 0, []), (50, .iload_n 3, 1, 0, 0, 0, []), (51, .ifCond .ne 7, 3, 58, 0, 0, [])]
def s155_8 : List Ent := [(54, .iconst 1, 1, 0, 0, 0, []), (55, .goto 4, 3, 59, 0, 0, [])]
def s155_9 : List Ent := [(58, .iconst 0, 1, 0, 0, 0, [])]
def s155_10 : List Ent := [(59, .iand, 1, 0, 0, 0, []), (60, .istore_n 1, 1, 0, 0, 0, []), (61, .iinc 2 1, 3, 0, 0, 0, []), (64, .goto (-60), 3, 4, 0, 0, [])]
def s155_11 : List Ent := [(67, .iload_n 1, 1, 0, 0, 0, [])]
def s155_12 : List Ent := [(68, .ireturn, 1, 1, 0, 0, [])]
def sg155 : List (List Ent) := [s155_0, s155_1, s155_2, s155_3, s155_4, s155_5, s155_6, s155_7, s155_8, s155_9, s155_10, s155_11, s155_12]
theorem ch155 : chkM mi155.2.1 mi155.2.2.1 mi155.2.2.2 lkRX8 sg155 = true := by decide +kernel
def s156_0 : List Ent := [(0, .iload_n 1, 1, 0, 0, 0, [])]
def s156_1 : List Ent := [(1, .invokestatic 170, 3, 127, 1, 0, [])]
def s156_2 : List Ent := [(4, .ifCond .ne 9, 3, 13, 0, 0, [])]
def s156_3 : List Ent := [(7, .aload_n 0, 1, 0, 0, 0, []), (8, .iconst 1, 1, 0, 0, 0, [])]
def s156_4 : List Ent := [(9, .invokevirtual 64, 3, 120, 1, 8, [])]
def s156_5 : List Ent := [(12, .ireturn, 1, 0, 0, 0, [])]
def s156_6 : List Ent := [(13, .aload_n 0, 1, 0, 0, 0, []), (14, .getfield 35, 3, 8, 11, 2, []), (17, .iload_n 1, 1, 0, 0, 0, []), (18, .iaload, 1, 0, 0, 0, []), (19, .ifCond .ge 10, 3, 29, 0, 0, [])]
def s156_7 : List Ent := [(22, .aload_n 0, 1, 0, 0, 0, []), (23, .bipush 11, 2, 0, 0, 0, [])]
def s156_8 : List Ent := [(25, .invokevirtual 64, 3, 120, 1, 8, [])]
def s156_9 : List Ent := [(28, .ireturn, 1, 0, 0, 0, [])]
def s156_10 : List Ent := [(29, .aload_n 0, 1, 0, 0, 0, []), (30, .iload_n 1, 1, 0, 0, 0, []), (31, .aload_n 0, 1, 0, 0, 0, []), (32, .getfield 9, 3, 8, 0, 2, []), (35, .iconst 0, 1, 0, 0, 0, []), (36, .iaload, 1, 0, 0, 0, [])]
def s156_11 : List Ent := [(37, .invokevirtual 173, 3, 154, 2, 8, [])]
def s156_12 : List Ent := [(40, .ifCond .ne 9, 3, 49, 0, 0, [])]
def s156_13 : List Ent := [(43, .aload_n 0, 1, 0, 0, 0, []), (44, .iconst 3, 1, 0, 0, 0, [])]
def s156_14 : List Ent := [(45, .invokevirtual 64, 3, 120, 1, 8, [])]
def s156_15 : List Ent := [(48, .ireturn, 1, 0, 0, 0, [])]
def s156_16 : List Ent := [(49, .aload_n 0, 1, 0, 0, 0, [])]
def s156_17 : List Ent := [(50, .invokevirtual 176, 3, 155, 0, 8, [])]
def s156_18 : List Ent := [(53, .ifCond .eq 7, 3, 60, 0, 0, [])]
def s156_19 : List Ent := [(56, .iconst 1, 1, 0, 0, 0, []), (57, .goto 4, 3, 61, 0, 0, [])]
def s156_20 : List Ent := [(60, .iconst 0, 1, 0, 0, 0, [])]
def s156_21 : List Ent := [(61, .ireturn, 1, 0, 0, 0, [])]
def sg156 : List (List Ent) := [s156_0, s156_1, s156_2, s156_3, s156_4, s156_5, s156_6, s156_7, s156_8, s156_9, s156_10, s156_11, s156_12, s156_13, s156_14, s156_15, s156_16, s156_17, s156_18, s156_19, s156_20, s156_21]
theorem ch156 : chkM mi156.2.1 mi156.2.2.1 mi156.2.2.2 lkRX8 sg156 = true := by decide +kernel
def s157_0 : List Ent := [(0, .aload_n 0, 1, 0, 0, 0, []), (1, .iload_n 2, 1, 0, 0, 0, [])]
def s157_1 : List Ent := [(2, .invokevirtual 159, 3, 149, 1, 8, [])]
def s157_2 : List Ent := [(5, .istore 4, 2, 0, 0, 0, []), (7, .iload_n 1, 1, 0, 0, 0, [])]
def s157_3 : List Ent := [(8, .invokestatic 170, 3, 127, 1, 0, [])]
def s157_4 : List Ent := [(11, .ifCond .eq 8, 3, 19, 0, 0, [])]
def s157_5 : List Ent := [(14, .iload 4, 2, 0, 0, 0, []), (16, .ifCond .ge 7, 3, 23, 0, 0, [])]
def s157_6 : List Ent := [(19, .iconst 1, 1, 0, 0, 0, []), (20, .goto 57, 3, 77, 0, 0, [])]
def s157_7 : List Ent := [(23, .iload_n 3, 1, 0, 0, 0, []), (24, .i2l, 1, 0, 0, 0, []), (25, .lconst 0, 1, 0, 0, 0, []), (26, .lconst 1, 1, 0, 0, 0, [])]
def s157_8 : List Ent := [(27, .invokestatic 74, 3, 117, 3, 0, [])]
def s157_9 : List Ent := [(30, .ifCond .ne 7, 3, 37, 0, 0, [])]
def s157_10 : List Ent := [(33, .iconst 2, 1, 0, 0, 0, []), (34, .goto 43, 3, 77, 0, 0, [])]
def s157_11 : List Ent := [(37, .aload_n 0, 1, 0, 0, 0, []), (38, .getfield 35, 3, 8, 11, 2, []), (41, .iload_n 1, 1, 0, 0, 0, []), (42, .iaload, 1, 0, 0, 0, []), (43, .ifCond .ge 8, 3, 51, 0, 0, [])]
def s157_12 : List Ent := [(46, .bipush 11, 2, 0, 0, 0, []), (48, .goto 29, 3, 77, 0, 0, [])]
def s157_13 : List Ent := [(51, .aload_n 0, 1, 0, 0, 0, []), (52, .iload_n 1, 1, 0, 0, 0, []), (53, .aload_n 0, 1, 0, 0, 0, []), (54, .getfield 9, 3, 8, 0, 2, []), (57, .iconst 0, 1, 0, 0, 0, []), (58, .iaload, 1, 0, 0, 0, [])]
def s157_14 : List Ent := [(59, .invokevirtual 173, 3, 154, 2, 8, [])]
def s157_15 : List Ent := [(62, .ifCond .eq 10, 3, 72, 0, 0, [])]
def s157_16 : List Ent := [(65, .aload_n 0, 1, 0, 0, 0, [])]
def s157_17 : List Ent := [(66, .invokevirtual 176, 3, 155, 0, 8, [])]
def s157_18 : List Ent := [(69, .ifCond .ne 7, 3, 76, 0, 0, [])]
def s157_19 : List Ent := [(72, .iconst 3, 1, 0, 0, 0, []), (73, .goto 4, 3, 77, 0, 0, [])]
def s157_20 : List Ent := [(76, .iconst 0, 1, 0, 0, 0, [])]
def s157_21 : List Ent := [(77, .istore 5, 2, 0, 0, 0, []), (79, .iload 5, 2, 0, 0, 0, []), (81, .ifCond .eq 10, 3, 91, 0, 0, [])]
def s157_22 : List Ent := [(84, .aload_n 0, 1, 0, 0, 0, []), (85, .iload 5, 2, 0, 0, 0, [])]
def s157_23 : List Ent := [(87, .invokevirtual 180, 3, 122, 1, 8, [])]
def s157_24 : List Ent := [(90, .lreturn, 1, 0, 0, 0, [])]
def s157_25 : List Ent := [(91, .aload_n 0, 1, 0, 0, 0, []), (92, .iload 4, 2, 0, 0, 0, [])]
def s157_26 : List Ent := [(94, .invokevirtual 162, 3, 150, 1, 8, [])]
def s157_27 : List Ent := [(97, .aload_n 0, 1, 0, 0, 0, []), (98, .getfield 41, 3, 8, 13, 2, []), (101, .iload 4, 2, 0, 0, 0, []), (103, .iaload, 1, 0, 0, 0, []), (104, .i2l, 1, 0, 0, 0, []), (105, .aload_n 0, 1, 0, 0, 0, []), (106, .getfield 29, 3, 8, 9, 2, []), (109, .iload 4, 2, 0, 0, 0, []), (111, .laload, 1, 0, 0, 0, []), (112, .iload_n 3, 1, 0, 0, 0, [])]
def s157_28 : List Ent := [(113, .invokestatic 184, 3, 124, 3, 0, [])]
def s157_29 : List Ent := [(116, .lreturn, 1, 0, 0, 0, [])]
def sg157 : List (List Ent) := [s157_0, s157_1, s157_2, s157_3, s157_4, s157_5, s157_6, s157_7, s157_8, s157_9, s157_10, s157_11, s157_12, s157_13, s157_14, s157_15, s157_16, s157_17, s157_18, s157_19, s157_20, s157_21, s157_22, s157_23, s157_24, s157_25, s157_26, s157_27, s157_28, s157_29]
theorem ch157 : chkM mi157.2.1 mi157.2.2.1 mi157.2.2.2 lkRX8 sg157 = true := by decide +kernel
def s158_0 : List Ent := [(0, .iconst 0, 1, 0, 0, 0, []), (1, .istore_n 1, 1, 0, 0, 0, [])]
def s158_1 : List Ent := [(2, .iload_n 1, 1, 0, 0, 0, []), (3, .aload_n 0, 1, 0, 0, 0, []), (4, .getfield 9, 3, 8, 0, 2, []), (7, .iconst 0, 1, 0, 0, 0, []), (8, .iaload, 1, 0, 0, 0, []), (9, .if_icmp .ge 16, 3, 25, 0, 0, [])]
def s158_2 : List Ent := [(12, .aload_n 0, 1, 0, 0, 0, []), (13, .getfield 41, 3, 8, 13, 2, []), (16, .iload_n 1, 1, 0, 0, 0, []), (17, .iconst (-1), 1, 0, 0, 0, []), (18, .iastore, 1, 0, 0, 0, []), (19, .iinc 1 1, 3, 0, 0, 0, []), (22, .goto (-20), 3, 2, 0, 0, [])]
def s158_3 : List Ent := [(25, .iconst 0, 1, 0, 0, 0, []), (26, .istore_n 1, 1, 0, 0, 0, []), (27, .iconst 1, 1, 0, 0, 0, []), (28, .istore_n 2, 1, 0, 0, 0, [])]
def s158_4 : List Ent := [(29, .iload_n 2, 1, 0, 0, 0, []), (30, .ifCond .eq 81, 3, 111, 0, 0, [])]
def s158_5 : List Ent := [(33, .iload_n 1, 1, 0, 0, 0, []), (34, .aload_n 0, 1, 0, 0, 0, [])]
def s158_6 : List Ent := [(35, .invokevirtual 176, 3, 155, 0, 8, [])]
def s158_7 : List Ent := [(38, .ifCond .eq 7, 3, 45, 0, 0, [])]
def s158_8 : List Ent := [(41, .iconst 1, 1, 0, 0, 0, []), (42, .goto 4, 3, 46, 0, 0, [])]
def s158_9 : List Ent := [(45, .iconst 0, 1, 0, 0, 0, [])]
def s158_10 : List Ent := [(46, .iadd, 1, 0, 0, 0, []), (47, .istore_n 1, 1, 0, 0, 0, []), (48, .aload_n 0, 1, 0, 0, 0, []), (49, .getfield 9, 3, 8, 0, 2, []), (52, .iconst 0, 1, 0, 0, 0, []), (53, .iaload, 1, 0, 0, 0, []), (54, .iconst 1, 1, 0, 0, 0, []), (55, .isub, 1, 0, 0, 0, []), (56, .istore_n 3, 1, 0, 0, 0, [])]
def s158_11 : List Ent := [(57, .iload_n 3, 1, 0, 0, 0, []), (58, .ifCond .lt 26, 3, 84, 0, 0, [])]
def s158_12 : List Ent := [(61, .aload_n 0, 1, 0, 0, 0, []), (62, .getfield 41, 3, 8, 13, 2, []), (65, .iload_n 3, 1, 0, 0, 0, []), (66, .iaload, 1, 0, 0, 0, []), (67, .iconst 1, 1, 0, 0, 0, []), (68, .if_icmp .ne 16, 3, 84, 0, 0, [])]
def s158_13 : List Ent := [(71, .aload_n 0, 1, 0, 0, 0, []), (72, .getfield 41, 3, 8, 13, 2, []), (75, .iload_n 3, 1, 0, 0, 0, []), (76, .iconst (-1), 1, 0, 0, 0, []), (77, .iastore, 1, 0, 0, 0, []), (78, .iinc 3 (-1), 3, 0, 0, 0, []), (81, .goto (-24), 3, 57, 0, 0, [])]
def s158_14 : List Ent := [(84, .iload_n 3, 1, 0, 0, 0, []), (85, .ifCond .lt 7, 3, 92, 0, 0, [])]
def s158_15 : List Ent := [(88, .iconst 1, 1, 0, 0, 0, []), (89, .goto 4, 3, 93, 0, 0, [])]
def s158_16 : List Ent := [(92, .iconst 0, 1, 0, 0, 0, [])]
def s158_17 : List Ent := [(93, .istore_n 2, 1, 0, 0, 0, []), (94, .iload_n 2, 1, 0, 0, 0, []), (95, .ifCond .eq 13, 3, 108, 0, 0, [])]
def s158_18 : List Ent := [(98, .aload_n 0, 1, 0, 0, 0, []), (99, .getfield 41, 3, 8, 13, 2, []), (102, .iload_n 3, 1, 0, 0, 0, []), (103, .dup2, 1, 0, 0, 0, []), (104, .iaload, 1, 0, 0, 0, []), (105, .iconst 1, 1, 0, 0, 0, []), (106, .iadd, 1, 0, 0, 0, []), (107, .iastore, 1, 0, 0, 0, [])]
def s158_19 : List Ent := [(108, .goto (-79), 3, 29, 0, 0, [])]
def s158_20 : List Ent := [(111, .iload_n 1, 1, 0, 0, 0, [])]
def s158_21 : List Ent := [(112, .ireturn, 1, 0, 0, 0, [])]
def sg158 : List (List Ent) := [s158_0, s158_1, s158_2, s158_3, s158_4, s158_5, s158_6, s158_7, s158_8, s158_9, s158_10, s158_11, s158_12, s158_13, s158_14, s158_15, s158_16, s158_17, s158_18, s158_19, s158_20, s158_21]
theorem ch158 : chkM mi158.2.1 mi158.2.2.1 mi158.2.2.2 lkRX8 sg158 = true := by decide +kernel
def s159_0 : List Ent := [(0, .iload_n 1, 1, 0, 0, 0, []), (1, .aload_n 0, 1, 0, 0, 0, []), (2, .getfield 9, 3, 8, 0, 2, []), (5, .iconst 0, 1, 0, 0, 0, []), (6, .iaload, 1, 0, 0, 0, []), (7, .if_icmp .ne 20, 3, 27, 0, 0, [])]
def s159_1 : List Ent := [(10, .iload_n 2, 1, 0, 0, 0, []), (11, .ifCond .ne 14, 3, 25, 0, 0, [])]
def s159_2 : List Ent := [(14, .aload_n 0, 1, 0, 0, 0, [])]
def s159_3 : List Ent := [(15, .invokevirtual 176, 3, 155, 0, 8, [])]
def s159_4 : List Ent := [(18, .ifCond .eq 7, 3, 25, 0, 0, [])]
def s159_5 : List Ent := [(21, .iconst 1, 1, 0, 0, 0, []), (22, .goto 4, 3, 26, 0, 0, [])]
def s159_6 : List Ent := [(25, .iconst 0, 1, 0, 0, 0, [])]
def s159_7 : List Ent := [(26, .ireturn, 1, 1, 0, 0, [])]
def s159_8 : List Ent := [(27, .iload_n 2, 1, 0, 0, 0, []), (28, .ineg, 1, 0, 0, 0, []), (29, .istore_n 3, 1, 0, 0, 0, [])]
def s159_9 : List Ent := [(30, .iload_n 3, 1, 0, 0, 0, []), (31, .iload_n 2, 1, 0, 0, 0, []), (32, .if_icmp .gt 40, 3, 72, 0, 0, [])]
def s159_10 : List Ent := [(35, .aload_n 0, 1, 0, 0, 0, []), (36, .getfield 41, 3, 8, 13, 2, []), (39, .iload_n 1, 1, 0, 0, 0, []), (40, .iload_n 3, 1, 0, 0, 0, []), (41, .iastore, 1, 0, 0, 0, []), (42, .aload_n 0, 1, 0, 0, 0, []), (43, .iload_n 1, 1, 0, 0, 0, []), (44, .iconst 1, 1, 0, 0, 0, []), (45, .iadd, 1, 0, 0, 0, []), (46, .iload_n 2, 1, 0, 0, 0, []), (47, .iload_n 3, 1, 0, 0, 0, []), (48, .ifCond .ge 8, 3, 56, 0, 0, [])]
def s159_11 : List Ent := [(51, .iload_n 3, 1, 0, 0, 0, []), (52, .ineg, 1, 0, 0, 0, []), (53, .goto 4, 3, 57, 0, 0, [])]
def s159_12 : List Ent := [(56, .iload_n 3, 1, 0, 0, 0, [])]
def s159_13 : List Ent := [(57, .isub, 1, 0, 0, 0, [])]
def s159_14 : List Ent := [(58, .invokevirtual 188, 3, 159, 2, 8, [])]
def s159_15 : List Ent := [(61, .ifCond .eq 5, 3, 66, 0, 0, [])]
def s159_16 : List Ent := [(64, .iconst 1, 1, 0, 0, 0, [])]
def s159_17 : List Ent := [(65, .ireturn, 1, 1, 0, 0, [])]
def s159_18 : List Ent := [(66, .iinc 3 1, 3, 0, 0, 0, []), (69, .goto (-39), 3, 30, 0, 0, [])]
def s159_19 : List Ent := [(72, .iconst 0, 1, 0, 0, 0, [])]
def s159_20 : List Ent := [(73, .ireturn, 1, 1, 0, 0, [])]
def sg159 : List (List Ent) := [s159_0, s159_1, s159_2, s159_3, s159_4, s159_5, s159_6, s159_7, s159_8, s159_9, s159_10, s159_11, s159_12, s159_13, s159_14, s159_15, s159_16, s159_17, s159_18, s159_19, s159_20]
theorem ch159 : chkM mi159.2.1 mi159.2.2.1 mi159.2.2.2 lkRX8 sg159 = true := by decide +kernel
def s160_0 : List Ent := [(0, .iload_n 1, 1, 0, 0, 0, []), (1, .iconst (-1), 1, 0, 0, 0, []), (2, .if_icmp .eq 17, 3, 19, 0, 0, [])]
def s160_1 : List Ent := [(5, .aload_n 0, 1, 0, 0, 0, []), (6, .iload_n 1, 1, 0, 0, 0, [])]
def s160_2 : List Ent := [(7, .invokevirtual 91, 3, 125, 1, 8, [])]
def s160_3 : List Ent := [(10, .ifCond .ne 9, 3, 19, 0, 0, [])]
def s160_4 : List Ent := [(13, .aload_n 0, 1, 0, 0, 0, []), (14, .iconst 1, 1, 0, 0, 0, [])]
def s160_5 : List Ent := [(15, .invokevirtual 98, 3, 121, 1, 8, [])]
def s160_6 : List Ent := [(18, .ireturn, 1, 0, 0, 0, [])]
def s160_7 : List Ent := [(19, .iconst 1, 1, 0, 0, 0, []), (20, .istore_n 2, 1, 0, 0, 0, [])]
def s160_8 : List Ent := [(21, .iload_n 2, 1, 0, 0, 0, []), (22, .bipush 6, 2, 0, 0, 0, []), (24, .if_icmp .gt 33, 3, 57, 0, 0, [])]
def s160_9 : List Ent := [(27, .aload_n 0, 1, 0, 0, 0, []), (28, .iconst 0, 1, 0, 0, 0, []), (29, .iload_n 2, 1, 0, 0, 0, [])]
def s160_10 : List Ent := [(30, .invokevirtual 188, 3, 159, 2, 8, [])]
def s160_11 : List Ent := [(33, .ifCond .eq 18, 3, 51, 0, 0, [])]
def s160_12 : List Ent := [(36, .iload_n 1, 1, 0, 0, 0, []), (37, .ifCond .ge 7, 3, 44, 0, 0, [])]
def s160_13 : List Ent := [(40, .iload_n 2, 1, 0, 0, 0, []), (41, .goto 9, 3, 50, 0, 0, [])]
def s160_14 : List Ent := [(44, .aload_n 0, 1, 0, 0, 0, []), (45, .getfield 41, 3, 8, 13, 2, []), (48, .iload_n 1, 1, 0, 0, 0, []), (49, .iaload, 1, 0, 0, 0, [])]
def s160_15 : List Ent := [(50, .ireturn, 1, 0, 0, 0, [])]
def s160_16 : List Ent := [(51, .iinc 2 1, 3, 0, 0, 0, []), (54, .goto (-33), 3, 21, 0, 0, [])]
def s160_17 : List Ent := [(57, .iconst 0, 1, 0, 0, 0, [])]
def s160_18 : List Ent := [(58, .ireturn, 1, 0, 0, 0, [])]
def sg160 : List (List Ent) := [s160_0, s160_1, s160_2, s160_3, s160_4, s160_5, s160_6, s160_7, s160_8, s160_9, s160_10, s160_11, s160_12, s160_13, s160_14, s160_15, s160_16, s160_17, s160_18]
theorem ch160 : chkM mi160.2.1 mi160.2.2.1 mi160.2.2.2 lkRX8 sg160 = true := by decide +kernel
def s161_0 : List Ent := [(0, .iload_n 1, 1, 0, 0, 0, [])]
def s161_1 : List Ent := [(1, .invokestatic 140, 3, 119, 1, 0, [])]
def s161_2 : List Ent := [(4, .aload_n 0, 1, 0, 0, 0, [])]
def s161_3 : List Ent := [(5, .invokevirtual 113, 3, 147, 0, 8, [])]
def s161_4 : List Ent := [(8, .invokestatic 140, 3, 119, 1, 0, [])]
def s161_5 : List Ent := [(11, .if_icmp .ne 15, 3, 26, 0, 0, [])]
def s161_6 : List Ent := [(14, .aload_n 0, 1, 0, 0, 0, []), (15, .iload_n 1, 1, 0, 0, 0, [])]
def s161_7 : List Ent := [(16, .invokevirtual 191, 3, 145, 1, 8, [])]
def s161_8 : List Ent := [(19, .ifCond .eq 7, 3, 26, 0, 0, [])]
def s161_9 : List Ent := [(22, .iconst 1, 1, 0, 0, 0, []), (23, .goto 4, 3, 27, 0, 0, [])]
def s161_10 : List Ent := [(26, .iconst 0, 1, 0, 0, 0, [])]
def s161_11 : List Ent := [(27, .ireturn, 1, 1, 0, 0, [])]
def sg161 : List (List Ent) := [s161_0, s161_1, s161_2, s161_3, s161_4, s161_5, s161_6, s161_7, s161_8, s161_9, s161_10, s161_11]
theorem ch161 : chkM mi161.2.1 mi161.2.2.1 mi161.2.2.2 lkRX8 sg161 = true := by decide +kernel
def s162_0 : List Ent := [(0, .aload_n 0, 1, 0, 0, 0, []), (1, .iload_n 1, 1, 0, 0, 0, [])]
def s162_1 : List Ent := [(2, .invokevirtual 194, 3, 128, 1, 8, [])]
def s162_2 : List Ent := [(5, .ifCond .ne 9, 3, 14, 0, 0, [])]
def s162_3 : List Ent := [(8, .aload_n 0, 1, 0, 0, 0, []), (9, .iconst 1, 1, 0, 0, 0, [])]
def s162_4 : List Ent := [(10, .invokevirtual 64, 3, 120, 1, 8, [])]
def s162_5 : List Ent := [(13, .ireturn, 1, 0, 0, 0, [])]
def s162_6 : List Ent := [(14, .aload_n 0, 1, 0, 0, 0, []), (15, .iload_n 1, 1, 0, 0, 0, [])]
def s162_7 : List Ent := [(16, .invokevirtual 197, 3, 161, 1, 8, [])]
def s162_8 : List Ent := [(19, .ifCond .eq 7, 3, 26, 0, 0, [])]
def s162_9 : List Ent := [(22, .iconst 1, 1, 0, 0, 0, []), (23, .goto 4, 3, 27, 0, 0, [])]
def s162_10 : List Ent := [(26, .iconst 0, 1, 0, 0, 0, [])]
def s162_11 : List Ent := [(27, .ireturn, 1, 0, 0, 0, [])]
def sg162 : List (List Ent) := [s162_0, s162_1, s162_2, s162_3, s162_4, s162_5, s162_6, s162_7, s162_8, s162_9, s162_10, s162_11]
theorem ch162 : chkM mi162.2.1 mi162.2.2.1 mi162.2.2.2 lkRX8 sg162 = true := by decide +kernel
def s163_0 : List Ent := [(0, .aload_n 0, 1, 0, 0, 0, []), (1, .iload_n 1, 1, 0, 0, 0, [])]
def s163_1 : List Ent := [(2, .invokevirtual 194, 3, 128, 1, 8, [])]
def s163_2 : List Ent := [(5, .ifCond .eq 27, 3, 32, 0, 0, [])]
def s163_3 : List Ent := [(8, .aload_n 0, 1, 0, 0, 0, []), (9, .iload_n 2, 1, 0, 0, 0, [])]
def s163_4 : List Ent := [(10, .invokevirtual 91, 3, 125, 1, 8, [])]
def s163_5 : List Ent := [(13, .ifCond .eq 19, 3, 32, 0, 0, [])]
def s163_6 : List Ent := [(16, .iload_n 1, 1, 0, 0, 0, []), (17, .iload_n 2, 1, 0, 0, 0, [])]
def s163_7 : List Ent := [(18, .invokestatic 117, 3, 118, 2, 0, [])]
def s163_8 : List Ent := [(21, .ifCond .ne 11, 3, 32, 0, 0, [])]
def s163_9 : List Ent := [(24, .aload_n 0, 1, 0, 0, 0, []), (25, .iload_n 3, 1, 0, 0, 0, [])]
def s163_10 : List Ent := [(26, .invokevirtual 91, 3, 125, 1, 8, [])]
def s163_11 : List Ent := [(29, .ifCond .ne 9, 3, 38, 0, 0, [])]
def s163_12 : List Ent := [(32, .aload_n 0, 1, 0, 0, 0, []), (33, .iconst 1, 1, 0, 0, 0, [])]
def s163_13 : List Ent := [(34, .invokevirtual 98, 3, 121, 1, 8, [])]
def s163_14 : List Ent := [(37, .ireturn, 1, 0, 0, 0, [])]
def s163_15 : List Ent := [(38, .aload_n 0, 1, 0, 0, 0, []), (39, .iload_n 1, 1, 0, 0, 0, [])]
def s163_16 : List Ent := [(40, .invokevirtual 197, 3, 161, 1, 8, [])]
def s163_17 : List Ent := [(43, .ifCond .ne 9, 3, 52, 0, 0, [])]
def s163_18 : List Ent := [(46, .aload_n 0, 1, 0, 0, 0, []), (47, .iconst 3, 1, 0, 0, 0, [])]
def s163_19 : List Ent := [(48, .invokevirtual 98, 3, 121, 1, 8, [])]
def s163_20 : List Ent := [(51, .ireturn, 1, 0, 0, 0, [])]
def s163_21 : List Ent := [(52, .aload_n 0, 1, 0, 0, 0, []), (53, .iload_n 1, 1, 0, 0, 0, []), (54, .iload_n 2, 1, 0, 0, 0, [])]
def s163_22 : List Ent := [(55, .invokevirtual 150, 3, 146, 2, 8, [])]
def s163_23 : List Ent := [(58, .istore 4, 2, 0, 0, 0, []), (60, .aload_n 0, 1, 0, 0, 0, []), (61, .getfield 29, 3, 8, 9, 2, []), (64, .iload_n 3, 1, 0, 0, 0, []), (65, .laload, 1, 0, 0, 0, []), (66, .l2i, 1, 0, 0, 0, [])]
def s163_24 : List Ent := [(67, .ireturn, 1, 0, 0, 0, [])]
def sg163 : List (List Ent) := [s163_0, s163_1, s163_2, s163_3, s163_4, s163_5, s163_6, s163_7, s163_8, s163_9, s163_10, s163_11, s163_12, s163_13, s163_14, s163_15, s163_16, s163_17, s163_18, s163_19, s163_20, s163_21, s163_22, s163_23, s163_24]
theorem ch163 : chkM mi163.2.1 mi163.2.2.1 mi163.2.2.2 lkRX8 sg163 = true := by decide +kernel
def s164_0 : List Ent := [(0, .lconst 0, 1, 0, 0, 0, []), (1, .lstore_n 2, 1, 0, 0, 0, []), (2, .iconst 0, 1, 0, 0, 0, []), (3, .istore 4, 2, 0, 0, 0, [])]
def s164_1 : List Ent := [(5, .iload 4, 2, 0, 0, 0, []), (7, .aload_n 0, 1, 0, 0, 0, []), (8, .getfield 9, 3, 8, 0, 2, []), (11, .iconst 0, 1, 0, 0, 0, []), (12, .iaload, 1, 0, 0, 0, []), (13, .if_icmp .ge 84, 3, 97, 0, 0, [])]
def s164_2 : List Ent := [(16, .iload_n 1, 1, 0, 0, 0, []), (17, .iload 4, 2, 0, 0, 0, [])]
def s164_3 : List Ent := [(19, .invokestatic 117, 3, 118, 2, 0, [])]
def s164_4 : List Ent := [(22, .ifCond .ne 69, 3, 91, 0, 0, [])]
def s164_5 : List Ent := [(25, .aload_n 0, 1, 0, 0, 0, []), (26, .iload_n 1, 1, 0, 0, 0, []), (27, .iload 4, 2, 0, 0, 0, [])]
def s164_6 : List Ent := [(29, .invokevirtual 150, 3, 146, 2, 8, [])]
def s164_7 : List Ent := [(32, .ifCond .ne 6, 3, 38, 0, 0, [])]
def s164_8 : List Ent := [(35, .goto 56, 3, 91, 0, 0, [])]
def s164_9 : List Ent := [(38, .iconst 0, 1, 0, 0, 0, []), (39, .istore 5, 2, 0, 0, 0, [])]
def s164_10 : List Ent := [(41, .iload 5, 2, 0, 0, 0, []), (43, .aload_n 0, 1, 0, 0, 0, []), (44, .getfield 9, 3, 8, 0, 2, []), (47, .iconst 0, 1, 0, 0, 0, []), (48, .iaload, 1, 0, 0, 0, []), (49, .if_icmp .ge 42, 3, 91, 0, 0, [])]
def s164_11 : List Ent := [(52, .lload_n 2, 1, 0, 0, 0, []), (53, .aload_n 0, 1, 0, 0, 0, []), (54, .getfield 29, 3, 8, 9, 2, []), (57, .iload 5, 2, 0, 0, 0, []), (59, .laload, 1, 0, 0, 0, []), (60, .lconst 0, 1, 0, 0, 0, []), (61, .lcmp, 1, 0, 0, 0, []), (62, .ifCond .ge 14, 3, 76, 0, 0, [])]
def s164_12 : List Ent := [(65, .aload_n 0, 1, 0, 0, 0, []), (66, .getfield 29, 3, 8, 9, 2, []), (69, .iload 5, 2, 0, 0, 0, []), (71, .laload, 1, 0, 0, 0, []), (72, .lneg, 1, 0, 0, 0, []), (73, .goto 10, 3, 83, 0, 0, [])]
def s164_13 : List Ent := [(76, .aload_n 0, 1, 0, 0, 0, []), (77, .getfield 29, 3, 8, 9, 2, []), (80, .iload 5, 2, 0, 0, 0, []), (82, .laload, 1, 0, 0, 0, [])]
def s164_14 : List Ent := [(83, .ladd, 1, 0, 0, 0, []), (84, .lstore_n 2, 1, 0, 0, 0, []), (85, .iinc 5 1, 3, 0, 0, 0, []), (88, .goto (-47), 3, 41, 0, 0, [])]
def s164_15 : List Ent := [(91, .iinc 4 1, 3, 0, 0, 0, []), (94, .goto (-89), 3, 5, 0, 0, [])]
def s164_16 : List Ent := [(97, .lload_n 2, 1, 0, 0, 0, [])]
def s164_17 : List Ent := [(98, .lreturn, 1, 0, 0, 0, [])]
def sg164 : List (List Ent) := [s164_0, s164_1, s164_2, s164_3, s164_4, s164_5, s164_6, s164_7, s164_8, s164_9, s164_10, s164_11, s164_12, s164_13, s164_14, s164_15, s164_16, s164_17]
theorem ch164 : chkM mi164.2.1 mi164.2.2.1 mi164.2.2.2 lkRX8 sg164 = true := by decide +kernel
def s165_0 : List Ent := [(0, .aload_n 0, 1, 0, 0, 0, []), (1, .iload_n 1, 1, 0, 0, 0, [])]
def s165_1 : List Ent := [(2, .invokevirtual 194, 3, 128, 1, 8, [])]
def s165_2 : List Ent := [(5, .ifCond .ne 9, 3, 14, 0, 0, [])]
def s165_3 : List Ent := [(8, .aload_n 0, 1, 0, 0, 0, []), (9, .iconst 1, 1, 0, 0, 0, [])]
def s165_4 : List Ent := [(10, .invokevirtual 180, 3, 122, 1, 8, [])]
def s165_5 : List Ent := [(13, .lreturn, 1, 0, 0, 0, [])]
def s165_6 : List Ent := [(14, .aload_n 0, 1, 0, 0, 0, []), (15, .iload_n 1, 1, 0, 0, 0, [])]
def s165_7 : List Ent := [(16, .invokevirtual 197, 3, 161, 1, 8, [])]
def s165_8 : List Ent := [(19, .ifCond .eq 11, 3, 30, 0, 0, [])]
def s165_9 : List Ent := [(22, .aload_n 0, 1, 0, 0, 0, []), (23, .iload_n 1, 1, 0, 0, 0, [])]
def s165_10 : List Ent := [(24, .invokevirtual 200, 3, 164, 1, 8, [])]
def s165_11 : List Ent := [(27, .goto 8, 3, 35, 0, 0, [])]
def s165_12 : List Ent := [(30, .aload_n 0, 1, 0, 0, 0, []), (31, .iconst 3, 1, 0, 0, 0, [])]
def s165_13 : List Ent := [(32, .invokevirtual 180, 3, 122, 1, 8, [])]
def s165_14 : List Ent := [(35, .lreturn, 1, 0, 0, 0, [])]
def sg165 : List (List Ent) := [s165_0, s165_1, s165_2, s165_3, s165_4, s165_5, s165_6, s165_7, s165_8, s165_9, s165_10, s165_11, s165_12, s165_13, s165_14]
theorem ch165 : chkM mi165.2.1 mi165.2.2.1 mi165.2.2.2 lkRX8 sg165 = true := by decide +kernel
def s166_0 : List Ent := [(0, .iconst 0, 1, 0, 0, 0, []), (1, .istore_n 1, 1, 0, 0, 0, []), (2, .iconst 0, 1, 0, 0, 0, []), (3, .istore_n 2, 1, 0, 0, 0, [])]
def s166_1 : List Ent := [(4, .iload_n 2, 1, 0, 0, 0, []), (5, .iconst 1, 1, 0, 0, 0, []), (6, .aload_n 0, 1, 0, 0, 0, []), (7, .getfield 9, 3, 8, 0, 2, []), (10, .iconst 0, 1, 0, 0, 0, []), (11, .iaload, 1, 0, 0, 0, []), (12, .ishl, 1, 0, 0, 0, []), (13, .if_icmp .ge 25, 3, 38, 0, 0, [])]
def s166_2 : List Ent := [(16, .iload_n 1, 1, 0, 0, 0, []), (17, .aload_n 0, 1, 0, 0, 0, []), (18, .iload_n 2, 1, 0, 0, 0, [])]
def s166_3 : List Ent := [(19, .invokevirtual 197, 3, 161, 1, 8, [])]
def s166_4 : List Ent := [(22, .ifCond .eq 7, 3, 29, 0, 0, [])]
def s166_5 : List Ent := [(25, .iconst 1, 1, 0, 0, 0, []), (26, .goto 4, 3, 30, 0, 0, [])]
def s166_6 : List Ent := [(29, .iconst 0, 1, 0, 0, 0, [])]
def s166_7 : List Ent := [(30, .iadd, 1, 0, 0, 0, []), (31, .istore_n 1, 1, 0, 0, 0, []), (32, .iinc 2 1, 3, 0, 0, 0, []), (35, .goto (-31), 3, 4, 0, 0, [])]
def s166_8 : List Ent := [(38, .iload_n 1, 1, 0, 0, 0, [])]
def s166_9 : List Ent := [(39, .ireturn, 1, 0, 0, 0, [])]
def sg166 : List (List Ent) := [s166_0, s166_1, s166_2, s166_3, s166_4, s166_5, s166_6, s166_7, s166_8, s166_9]
theorem ch166 : chkM mi166.2.1 mi166.2.2.1 mi166.2.2.2 lkRX8 sg166 = true := by decide +kernel
def s167_0 : List Ent := [(0, .iconst (-1), 1, 0, 0, 0, []), (1, .istore_n 2, 1, 0, 0, 0, []), (2, .lconst 0, 1, 0, 0, 0, []), (3, .lstore_n 3, 1, 0, 0, 0, []), (4, .iconst 0, 1, 0, 0, 0, []), (5, .istore 5, 2, 0, 0, 0, [])]
def s167_1 : List Ent := [(7, .iload 5, 2, 0, 0, 0, []), (9, .iconst 1, 1, 0, 0, 0, []), (10, .aload_n 0, 1, 0, 0, 0, []), (11, .getfield 9, 3, 8, 0, 2, []), (14, .iconst 0, 1, 0, 0, 0, []), (15, .iaload, 1, 0, 0, 0, []), (16, .ishl, 1, 0, 0, 0, []), (17, .if_icmp .ge 53, 3, 70, 0, 0, [])]
def s167_2 : List Ent := [(20, .aload_n 0, 1, 0, 0, 0, []), (21, .iload 5, 2, 0, 0, 0, [])]
def s167_3 : List Ent := [(23, .invokevirtual 197, 3, 161, 1, 8, [])]
def s167_4 : List Ent := [(26, .ifCond .ne 6, 3, 32, 0, 0, [])]
def s167_5 : List Ent := [(29, .goto 35, 3, 64, 0, 0, [])]
def s167_6 : List Ent := [(32, .iload_n 1, 1, 0, 0, 0, []), (33, .ifCond .eq 6, 3, 39, 0, 0, [])]
def s167_7 : List Ent := [(36, .iload 5, 2, 0, 0, 0, [])]
def s167_8 : List Ent := [(38, .ireturn, 1, 0, 0, 0, [])]
def s167_9 : List Ent := [(39, .aload_n 0, 1, 0, 0, 0, []), (40, .iload 5, 2, 0, 0, 0, [])]
def s167_10 : List Ent := [(42, .invokevirtual 200, 3, 164, 1, 8, [])]
def s167_11 : List Ent := [(45, .lstore 6, 2, 0, 0, 0, []), (47, .iload_n 2, 1, 0, 0, 0, []), (48, .ifCond .lt 10, 3, 58, 0, 0, [])]
def s167_12 : List Ent := [(51, .lload 6, 2, 0, 0, 0, []), (53, .lload_n 3, 1, 0, 0, 0, []), (54, .lcmp, 1, 0, 0, 0, []), (55, .ifCond .ge 9, 3, 64, 0, 0, [])]
def s167_13 : List Ent := [(58, .iload 5, 2, 0, 0, 0, []), (60, .istore_n 2, 1, 0, 0, 0, []), (61, .lload 6, 2, 0, 0, 0, []), (63, .lstore_n 3, 1, 0, 0, 0, [])]
def s167_14 : List Ent := [(64, .iinc 5 1, 3, 0, 0, 0, []), (67, .goto (-60), 3, 7, 0, 0, [])]
def s167_15 : List Ent := [(70, .iload_n 2, 1, 0, 0, 0, [])]
def s167_16 : List Ent := [(71, .ireturn, 1, 0, 0, 0, [])]
def sg167 : List (List Ent) := [s167_0, s167_1, s167_2, s167_3, s167_4, s167_5, s167_6, s167_7, s167_8, s167_9, s167_10, s167_11, s167_12, s167_13, s167_14, s167_15, s167_16]
theorem ch167 : chkM mi167.2.1 mi167.2.2.1 mi167.2.2.2 lkRX8 sg167 = true := by decide +kernel
def s168_0 : List Ent := [(0, .iload_n 1, 1, 0, 0, 0, []), (1, .i2l, 1, 0, 0, 0, []), (2, .lconst 0, 1, 0, 0, 0, []), (3, .ldc2_w 80, 3, 0, 0, 0, [2])]
def s168_1 : List Ent := [(6, .invokestatic 74, 3, 117, 3, 0, [])]
def s168_2 : List Ent := [(9, .ifCond .ne 9, 3, 18, 0, 0, [])]
def s168_3 : List Ent := [(12, .aload_n 0, 1, 0, 0, 0, []), (13, .iconst 2, 1, 0, 0, 0, [])]
def s168_4 : List Ent := [(14, .invokevirtual 64, 3, 120, 1, 8, [])]
def s168_5 : List Ent := [(17, .ireturn, 1, 0, 0, 0, [])]
def s168_6 : List Ent := [(18, .iload_n 1, 1, 0, 0, 0, []), (19, .ifCond .ne 10, 3, 29, 0, 0, [])]
def s168_7 : List Ent := [(22, .aload_n 0, 1, 0, 0, 0, [])]
def s168_8 : List Ent := [(23, .invokevirtual 203, 3, 166, 0, 8, [])]
def s168_9 : List Ent := [(26, .goto 17, 3, 43, 0, 0, [])]
def s168_10 : List Ent := [(29, .aload_n 0, 1, 0, 0, 0, []), (30, .iload_n 1, 1, 0, 0, 0, []), (31, .iconst 1, 1, 0, 0, 0, []), (32, .if_icmp .ne 7, 3, 39, 0, 0, [])]
def s168_11 : List Ent := [(35, .iconst 1, 1, 0, 0, 0, []), (36, .goto 4, 3, 40, 0, 0, [])]
def s168_12 : List Ent := [(39, .iconst 0, 1, 0, 0, 0, [])]
def s168_13 : List Ent := [(40, .invokevirtual 206, 3, 167, 1, 8, [])]
def s168_14 : List Ent := [(43, .ireturn, 1, 0, 0, 0, [])]
def sg168 : List (List Ent) := [s168_0, s168_1, s168_2, s168_3, s168_4, s168_5, s168_6, s168_7, s168_8, s168_9, s168_10, s168_11, s168_12, s168_13, s168_14]
theorem ch168 : chkM mi168.2.1 mi168.2.2.1 mi168.2.2.2 lkRX8 sg168 = true := by decide +kernel
def s169_0 : List Ent := [(0, .iload_n 1, 1, 0, 0, 0, []), (1, .i2l, 1, 0, 0, 0, []), (2, .lconst 0, 1, 0, 0, 0, []), (3, .lconst 1, 1, 0, 0, 0, [])]
def s169_1 : List Ent := [(4, .invokestatic 74, 3, 117, 3, 0, [])]
def s169_2 : List Ent := [(7, .ifCond .ne 9, 3, 16, 0, 0, [])]
def s169_3 : List Ent := [(10, .aload_n 0, 1, 0, 0, 0, []), (11, .iconst 2, 1, 0, 0, 0, [])]
def s169_4 : List Ent := [(12, .invokevirtual 180, 3, 122, 1, 8, [])]
def s169_5 : List Ent := [(15, .lreturn, 1, 0, 0, 0, [])]
def s169_6 : List Ent := [(16, .iconst 0, 1, 0, 0, 0, []), (17, .istore_n 2, 1, 0, 0, 0, []), (18, .aload_n 0, 1, 0, 0, 0, [])]
def s169_7 : List Ent := [(19, .invokevirtual 113, 3, 147, 0, 8, [])]
def s169_8 : List Ent := [(22, .invokestatic 140, 3, 119, 1, 0, [])]
def s169_9 : List Ent := [(25, .istore_n 3, 1, 0, 0, 0, []), (26, .iconst 0, 1, 0, 0, 0, []), (27, .istore 4, 2, 0, 0, 0, [])]
def s169_10 : List Ent := [(29, .iload 4, 2, 0, 0, 0, []), (31, .iconst 1, 1, 0, 0, 0, []), (32, .aload_n 0, 1, 0, 0, 0, []), (33, .getfield 9, 3, 8, 0, 2, []), (36, .iconst 0, 1, 0, 0, 0, []), (37, .iaload, 1, 0, 0, 0, []), (38, .ishl, 1, 0, 0, 0, []), (39, .if_icmp .ge 26, 3, 65, 0, 0, [])]
def s169_11 : List Ent := [(42, .iload_n 2, 1, 0, 0, 0, []), (43, .iload 4, 2, 0, 0, 0, [])]
def s169_12 : List Ent := [(45, .invokestatic 140, 3, 119, 1, 0, [])]
def s169_13 : List Ent := [(48, .iload_n 3, 1, 0, 0, 0, []), (49, .if_icmp .ne 7, 3, 56, 0, 0, [])]
def s169_14 : List Ent := [(52, .iconst 1, 1, 0, 0, 0, []), (53, .goto 4, 3, 57, 0, 0, [])]
def s169_15 : List Ent := [(56, .iconst 0, 1, 0, 0, 0, [])]
def s169_16 : List Ent := [(57, .iadd, 1, 0, 0, 0, []), (58, .istore_n 2, 1, 0, 0, 0, []), (59, .iinc 4 1, 3, 0, 0, 0, []), (62, .goto (-33), 3, 29, 0, 0, [])]
def s169_17 : List Ent := [(65, .aload_n 0, 1, 0, 0, 0, [])]
def s169_18 : List Ent := [(66, .invokevirtual 203, 3, 166, 0, 8, [])]
def s169_19 : List Ent := [(69, .i2l, 1, 0, 0, 0, []), (70, .iload_n 2, 1, 0, 0, 0, []), (71, .i2l, 1, 0, 0, 0, []), (72, .iload_n 1, 1, 0, 0, 0, [])]
def s169_20 : List Ent := [(73, .invokestatic 184, 3, 124, 3, 0, [])]
def s169_21 : List Ent := [(76, .lreturn, 1, 0, 0, 0, [])]
def sg169 : List (List Ent) := [s169_0, s169_1, s169_2, s169_3, s169_4, s169_5, s169_6, s169_7, s169_8, s169_9, s169_10, s169_11, s169_12, s169_13, s169_14, s169_15, s169_16, s169_17, s169_18, s169_19, s169_20, s169_21]
theorem ch169 : chkM mi169.2.1 mi169.2.2.1 mi169.2.2.2 lkRX8 sg169 = true := by decide +kernel
def s170_0 : List Ent := [(0, .aload_n 0, 1, 0, 0, 0, []), (1, .iload_n 1, 1, 0, 0, 0, [])]
def s170_1 : List Ent := [(2, .invokevirtual 91, 3, 125, 1, 8, [])]
def s170_2 : List Ent := [(5, .ifCond .ne 9, 3, 14, 0, 0, [])]
def s170_3 : List Ent := [(8, .aload_n 0, 1, 0, 0, 0, []), (9, .iconst 1, 1, 0, 0, 0, [])]
def s170_4 : List Ent := [(10, .invokevirtual 64, 3, 120, 1, 8, [])]
def s170_5 : List Ent := [(13, .ireturn, 1, 0, 0, 0, [])]
def s170_6 : List Ent := [(14, .iload_n 2, 1, 0, 0, 0, []), (15, .ifCond .lt 12, 3, 27, 0, 0, [])]
def s170_7 : List Ent := [(18, .iload_n 2, 1, 0, 0, 0, []), (19, .ifCond .le 14, 3, 33, 0, 0, [])]
def s170_8 : List Ent := [(22, .iload_n 3, 1, 0, 0, 0, []), (23, .iconst 1, 1, 0, 0, 0, []), (24, .if_icmp .ge 9, 3, 33, 0, 0, [])]
def s170_9 : List Ent := [(27, .aload_n 0, 1, 0, 0, 0, []), (28, .iconst 4, 1, 0, 0, 0, [])]
def s170_10 : List Ent := [(29, .invokevirtual 64, 3, 120, 1, 8, [])]
def s170_11 : List Ent := [(32, .ireturn, 1, 0, 0, 0, [])]
def s170_12 : List Ent := [(33, .iload_n 2, 1, 0, 0, 0, []), (34, .bipush 99, 2, 0, 0, 0, []), (36, .if_icmp .gt 13, 3, 49, 0, 0, [])]
def s170_13 : List Ent := [(39, .iload_n 2, 1, 0, 0, 0, []), (40, .ifCond .le 16, 3, 56, 0, 0, [])]
def s170_14 : List Ent := [(43, .iload_n 3, 1, 0, 0, 0, []), (44, .bipush 99, 2, 0, 0, 0, []), (46, .if_icmp .le 10, 3, 56, 0, 0, [])]
def s170_15 : List Ent := [(49, .aload_n 0, 1, 0, 0, 0, []), (50, .bipush 6, 2, 0, 0, 0, [])]
def s170_16 : List Ent := [(52, .invokevirtual 64, 3, 120, 1, 8, [])]
def s170_17 : List Ent := [(55, .ireturn, 1, 0, 0, 0, [])]
def s170_18 : List Ent := [(56, .aload_n 0, 1, 0, 0, 0, []), (57, .bipush 49, 2, 0, 0, 0, []), (59, .iload_n 1, 1, 0, 0, 0, []), (60, .iadd, 1, 0, 0, 0, []), (61, .bipush 57, 2, 0, 0, 0, []), (63, .iload_n 1, 1, 0, 0, 0, []), (64, .iadd, 1, 0, 0, 0, [])]
def s170_19 : List Ent := [(65, .invokevirtual 101, 3, 131, 2, 8, [])]
def s170_20 : List Ent := [(68, .aload_n 0, 1, 0, 0, 0, []), (69, .getfield 9, 3, 8, 0, 2, []), (72, .bipush 49, 2, 0, 0, 0, []), (74, .iload_n 1, 1, 0, 0, 0, []), (75, .iadd, 1, 0, 0, 0, []), (76, .iload_n 2, 1, 0, 0, 0, []), (77, .iastore, 1, 0, 0, 0, []), (78, .aload_n 0, 1, 0, 0, 0, []), (79, .getfield 9, 3, 8, 0, 2, []), (82, .bipush 57, 2, 0, 0, 0, []), (84, .iload_n 1, 1, 0, 0, 0, []), (85, .iadd, 1, 0, 0, 0, []), (86, .iload_n 2, 1, 0, 0, 0, []), (87, .ifCond .ne 7, 3, 94, 0, 0, [])]
def s170_21 : List Ent := [(90, .iconst 0, 1, 0, 0, 0, []), (91, .goto 4, 3, 95, 0, 0, [])]
def s170_22 : List Ent := [(94, .iload_n 3, 1, 0, 0, 0, [])]
def s170_23 : List Ent := [(95, .iastore, 1, 0, 0, 0, []), (96, .iconst 1, 1, 0, 0, 0, [])]
def s170_24 : List Ent := [(97, .ireturn, 1, 0, 0, 0, [])]
def sg170 : List (List Ent) := [s170_0, s170_1, s170_2, s170_3, s170_4, s170_5, s170_6, s170_7, s170_8, s170_9, s170_10, s170_11, s170_12, s170_13, s170_14, s170_15, s170_16, s170_17, s170_18, s170_19, s170_20, s170_21, s170_22, s170_23, s170_24]
theorem ch170 : chkM mi170.2.1 mi170.2.2.1 mi170.2.2.2 lkRX8 sg170 = true := by decide +kernel
def s171_0 : List Ent := [(0, .aload_n 0, 1, 0, 0, 0, []), (1, .iload_n 1, 1, 0, 0, 0, [])]
def s171_1 : List Ent := [(2, .invokevirtual 91, 3, 125, 1, 8, [])]
def s171_2 : List Ent := [(5, .ifCond .ne 9, 3, 14, 0, 0, [])]
def s171_3 : List Ent := [(8, .aload_n 0, 1, 0, 0, 0, []), (9, .iconst 1, 1, 0, 0, 0, [])]
def s171_4 : List Ent := [(10, .invokevirtual 64, 3, 120, 1, 8, [])]
def s171_5 : List Ent := [(13, .ireturn, 1, 0, 0, 0, [])]
def s171_6 : List Ent := [(14, .iload_n 2, 1, 0, 0, 0, []), (15, .i2l, 1, 0, 0, 0, []), (16, .lconst 0, 1, 0, 0, 0, []), (17, .lconst 1, 1, 0, 0, 0, [])]
def s171_7 : List Ent := [(18, .invokestatic 74, 3, 117, 3, 0, [])]
def s171_8 : List Ent := [(21, .ifCond .ne 9, 3, 30, 0, 0, [])]
def s171_9 : List Ent := [(24, .aload_n 0, 1, 0, 0, 0, []), (25, .iconst 2, 1, 0, 0, 0, [])]
def s171_10 : List Ent := [(26, .invokevirtual 64, 3, 120, 1, 8, [])]
def s171_11 : List Ent := [(29, .ireturn, 1, 0, 0, 0, [])]
def s171_12 : List Ent := [(30, .aload_n 0, 1, 0, 0, 0, []), (31, .getfield 9, 3, 8, 0, 2, []), (34, .bipush 49, 2, 0, 0, 0, []), (36, .iload_n 1, 1, 0, 0, 0, []), (37, .iadd, 1, 0, 0, 0, []), (38, .iaload, 1, 0, 0, 0, []), (39, .ifCond .ne 8, 3, 47, 0, 0, [])]
def s171_13 : List Ent := [(42, .bipush (-9), 2, 0, 0, 0, []), (44, .goto 28, 3, 72, 0, 0, [])]
def s171_14 : List Ent := [(47, .aload_n 0, 1, 0, 0, 0, []), (48, .getfield 9, 3, 8, 0, 2, []), (51, .bipush 49, 2, 0, 0, 0, []), (53, .iload_n 1, 1, 0, 0, 0, []), (54, .iadd, 1, 0, 0, 0, []), (55, .iaload, 1, 0, 0, 0, []), (56, .i2l, 1, 0, 0, 0, []), (57, .aload_n 0, 1, 0, 0, 0, []), (58, .getfield 9, 3, 8, 0, 2, []), (61, .bipush 57, 2, 0, 0, 0, []), (63, .iload_n 1, 1, 0, 0, 0, []), (64, .iadd, 1, 0, 0, 0, []), (65, .iaload, 1, 0, 0, 0, []), (66, .i2l, 1, 0, 0, 0, []), (67, .iload_n 2, 1, 0, 0, 0, [])]
def s171_15 : List Ent := [(68, .invokestatic 184, 3, 124, 3, 0, [])]
def s171_16 : List Ent := [(71, .l2i, 1, 0, 0, 0, [])]
def s171_17 : List Ent := [(72, .ireturn, 1, 0, 0, 0, [])]
def sg171 : List (List Ent) := [s171_0, s171_1, s171_2, s171_3, s171_4, s171_5, s171_6, s171_7, s171_8, s171_9, s171_10, s171_11, s171_12, s171_13, s171_14, s171_15, s171_16, s171_17]
theorem ch171 : chkM mi171.2.1 mi171.2.2.1 mi171.2.2.2 lkRX8 sg171 = true := by decide +kernel
def s172_0 : List Ent := [(0, .iconst 2, 1, 0, 0, 0, []), (1, .istore_n 1, 1, 0, 0, 0, [])]
def s172_1 : List Ent := [(2, .iload_n 1, 1, 0, 0, 0, []), (3, .iload_n 0, 1, 0, 0, 0, []), (4, .if_icmp .ge 17, 3, 21, 0, 0, [])]
def s172_2 : List Ent := [(7, .iload_n 0, 1, 0, 0, 0, []), (8, .iload_n 1, 1, 0, 0, 0, []), (9, .irem, 1, 0, 0, 0, []), (10, .ifCond .ne 5, 3, 15, 0, 0, [])]
def s172_3 : List Ent := [(13, .iconst 0, 1, 0, 0, 0, [])]
def s172_4 : List Ent := [(14, .ireturn, 1, 1, 0, 0, [])]
def s172_5 : List Ent := [(15, .iinc 1 1, 3, 0, 0, 0, []), (18, .goto (-16), 3, 2, 0, 0, [])]
def s172_6 : List Ent := [(21, .iload_n 0, 1, 0, 0, 0, []), (22, .i2l, 1, 0, 0, 0, []), (23, .ldc2_w 80, 3, 0, 0, 0, [2]), (26, .ldc2_w 210, 3, 0, 0, 0, [97])]
def s172_7 : List Ent := [(29, .invokestatic 74, 3, 117, 3, 0, [])]
def s172_8 : List Ent := [(32, .ireturn, 1, 1, 0, 0, [])]
def sg172 : List (List Ent) := [s172_0, s172_1, s172_2, s172_3, s172_4, s172_5, s172_6, s172_7, s172_8]
theorem ch172 : chkM mi172.2.1 mi172.2.2.1 mi172.2.2.2 lkRX8 sg172 = true := by decide +kernel
def s173_0 : List Ent := [(0, .iconst 0, 1, 0, 0, 0, []), (1, .istore_n 2, 1, 0, 0, 0, []), (2, .iload_n 0, 1, 0, 0, 0, []), (3, .istore_n 3, 1, 0, 0, 0, [])]
def s173_1 : List Ent := [(4, .iload_n 3, 1, 0, 0, 0, []), (5, .ifCond .le 19, 3, 24, 0, 0, [])]
def s173_2 : List Ent := [(8, .iload_n 3, 1, 0, 0, 0, []), (9, .iload_n 1, 1, 0, 0, 0, []), (10, .irem, 1, 0, 0, 0, []), (11, .ifCond .ne 13, 3, 24, 0, 0, [])]
def s173_3 : List Ent := [(14, .iinc 2 1, 3, 0, 0, 0, []), (17, .iload_n 3, 1, 0, 0, 0, []), (18, .iload_n 1, 1, 0, 0, 0, []), (19, .idiv, 1, 0, 0, 0, []), (20, .istore_n 3, 1, 0, 0, 0, []), (21, .goto (-17), 3, 4, 0, 0, [])]
def s173_4 : List Ent := [(24, .iload_n 2, 1, 0, 0, 0, [])]
def s173_5 : List Ent := [(25, .ireturn, 1, 0, 0, 0, [])]
def sg173 : List (List Ent) := [s173_0, s173_1, s173_2, s173_3, s173_4, s173_5]
theorem ch173 : chkM mi173.2.1 mi173.2.2.1 mi173.2.2.2 lkRX8 sg173 = true := by decide +kernel
def s174_0 : List Ent := [(0, .aload_n 0, 1, 0, 0, 0, []), (1, .getfield 9, 3, 8, 0, 2, []), (4, .bipush 49, 2, 0, 0, 0, []), (6, .iload_n 1, 1, 0, 0, 0, []), (7, .iadd, 1, 0, 0, 0, []), (8, .iaload, 1, 0, 0, 0, []), (9, .iload_n 2, 1, 0, 0, 0, [])]
def s174_1 : List Ent := [(10, .invokestatic 212, 3, 173, 2, 0, [])]
def s174_2 : List Ent := [(13, .aload_n 0, 1, 0, 0, 0, []), (14, .getfield 9, 3, 8, 0, 2, []), (17, .bipush 57, 2, 0, 0, 0, []), (19, .iload_n 1, 1, 0, 0, 0, []), (20, .iadd, 1, 0, 0, 0, []), (21, .iaload, 1, 0, 0, 0, []), (22, .iload_n 2, 1, 0, 0, 0, [])]
def s174_3 : List Ent := [(23, .invokestatic 212, 3, 173, 2, 0, [])]
def s174_4 : List Ent := [(26, .isub, 1, 0, 0, 0, [])]
def s174_5 : List Ent := [(27, .ireturn, 1, 0, 0, 0, [])]
def sg174 : List (List Ent) := [s174_0, s174_1, s174_2, s174_3, s174_4, s174_5]
theorem ch174 : chkM mi174.2.1 mi174.2.2.1 mi174.2.2.2 lkRX8 sg174 = true := by decide +kernel
def s175_0 : List Ent := [(0, .lconst 0, 1, 0, 0, 0, []), (1, .lstore_n 3, 1, 0, 0, 0, []), (2, .iconst 0, 1, 0, 0, 0, []), (3, .istore 5, 2, 0, 0, 0, [])]
def s175_1 : List Ent := [(5, .iload 5, 2, 0, 0, 0, []), (7, .aload_n 0, 1, 0, 0, 0, []), (8, .getfield 9, 3, 8, 0, 2, []), (11, .iconst 0, 1, 0, 0, 0, []), (12, .iaload, 1, 0, 0, 0, []), (13, .if_icmp .ge 50, 3, 63, 0, 0, [])]
def s175_2 : List Ent := [(16, .lload_n 3, 1, 0, 0, 0, []), (17, .iload 5, 2, 0, 0, 0, []), (19, .iload_n 2, 1, 0, 0, 0, []), (20, .if_icmp .eq 34, 3, 54, 0, 0, [])]
def s175_3 : List Ent := [(23, .aload_n 0, 1, 0, 0, 0, []), (24, .getfield 29, 3, 8, 9, 2, []), (27, .iload 5, 2, 0, 0, 0, []), (29, .laload, 1, 0, 0, 0, []), (30, .lconst 0, 1, 0, 0, 0, []), (31, .lcmp, 1, 0, 0, 0, []), (32, .ifCond .eq 22, 3, 54, 0, 0, [])]
def s175_4 : List Ent := [(35, .aload_n 0, 1, 0, 0, 0, []), (36, .getfield 29, 3, 8, 9, 2, []), (39, .iload 5, 2, 0, 0, 0, []), (41, .laload, 1, 0, 0, 0, []), (42, .aload_n 0, 1, 0, 0, 0, []), (43, .iload 5, 2, 0, 0, 0, []), (45, .iload_n 1, 1, 0, 0, 0, [])]
def s175_5 : List Ent := [(46, .invokevirtual 215, 3, 174, 2, 8, [])]
def s175_6 : List Ent := [(49, .i2l, 1, 0, 0, 0, []), (50, .lmul, 1, 0, 0, 0, []), (51, .goto 4, 3, 55, 0, 0, [])]
def s175_7 : List Ent := [(54, .lconst 0, 1, 0, 0, 0, [])]
def s175_8 : List Ent := [(55, .ladd, 1, 0, 0, 0, []), (56, .lstore_n 3, 1, 0, 0, 0, []), (57, .iinc 5 1, 3, 0, 0, 0, []), (60, .goto (-55), 3, 5, 0, 0, [])]
def s175_9 : List Ent := [(63, .lload_n 3, 1, 0, 0, 0, [])]
def s175_10 : List Ent := [(64, .lreturn, 1, 0, 0, 0, [])]
def sg175 : List (List Ent) := [s175_0, s175_1, s175_2, s175_3, s175_4, s175_5, s175_6, s175_7, s175_8, s175_9, s175_10]
theorem ch175 : chkM mi175.2.1 mi175.2.2.1 mi175.2.2.2 lkRX8 sg175 = true := by decide +kernel
def s176_0 : List Ent := [(0, .iconst 1, 1, 0, 0, 0, []), (1, .istore_n 1, 1, 0, 0, 0, []), (2, .iconst 0, 1, 0, 0, 0, []), (3, .istore_n 2, 1, 0, 0, 0, [])]
def s176_1 : List Ent := [(4, .iload_n 2, 1, 0, 0, 0, []), (5, .aload_n 0, 1, 0, 0, 0, []), (6, .getfield 9, 3, 8, 0, 2, []), (9, .iconst 0, 1, 0, 0, 0, []), (10, .iaload, 1, 0, 0, 0, []), (11, .if_icmp .ge 40, 3, 51, 0, 0, [])]
def s176_2 : List Ent := [(14, .iload_n 1, 1, 0, 0, 0, []), (15, .aload_n 0, 1, 0, 0, 0, []), (16, .getfield 29, 3, 8, 9, 2, []), (19, .iload_n 2, 1, 0, 0, 0, []), (20, .laload, 1, 0, 0, 0, []), (21, .lconst 0, 1, 0, 0, 0, []), (22, .lcmp, 1, 0, 0, 0, []), (23, .ifCond .eq 15, 3, 38, 0, 0, [])]
def s176_3 : List Ent := [(26, .aload_n 0, 1, 0, 0, 0, []), (27, .getfield 9, 3, 8, 0, 2, []), (30, .bipush 49, 2, 0, 0, 0, []), (32, .iload_n 2, 1, 0, 0, 0, []), (33, .iadd, 1, 0, 0, 0, []), (34, .iaload, 1, 0, 0, 0, []), (35, .ifCond .le 7, 3, 42, 0, 0, [])]
def s176_4 : List Ent := [(38, .iconst 1, 1, 0, 0, 0, []), (39, .goto 4, 3, 43, 0, 0, [])]
def s176_5 : List Ent := [(42, .iconst 0, 1, 0, 0, 0, [])]
def s176_6 : List Ent := [(43, .iand, 1, 0, 0, 0, []), (44, .istore_n 1, 1, 0, 0, 0, []), (45, .iinc 2 1, 3, 0, 0, 0, []), (48, .goto (-44), 3, 4, 0, 0, [])]
def s176_7 : List Ent := [(51, .iload_n 1, 1, 0, 0, 0, [])]
def s176_8 : List Ent := [(52, .ireturn, 1, 1, 0, 0, [])]
def sg176 : List (List Ent) := [s176_0, s176_1, s176_2, s176_3, s176_4, s176_5, s176_6, s176_7, s176_8]
theorem ch176 : chkM mi176.2.1 mi176.2.2.1 mi176.2.2.2 lkRX8 sg176 = true := by decide +kernel
def s177_0 : List Ent := [(0, .iconst 1, 1, 0, 0, 0, []), (1, .istore_n 1, 1, 0, 0, 0, []), (2, .iconst 2, 1, 0, 0, 0, []), (3, .istore_n 2, 1, 0, 0, 0, [])]
def s177_1 : List Ent := [(4, .iload_n 2, 1, 0, 0, 0, []), (5, .bipush 97, 2, 0, 0, 0, []), (7, .if_icmp .gt 35, 3, 42, 0, 0, [])]
def s177_2 : List Ent := [(10, .iload_n 1, 1, 0, 0, 0, []), (11, .iload_n 2, 1, 0, 0, 0, [])]
def s177_3 : List Ent := [(12, .invokestatic 218, 3, 172, 1, 0, [])]
def s177_4 : List Ent := [(15, .ifCond .eq 14, 3, 29, 0, 0, [])]
def s177_5 : List Ent := [(18, .aload_n 0, 1, 0, 0, 0, []), (19, .iload_n 2, 1, 0, 0, 0, []), (20, .iconst (-1), 1, 0, 0, 0, [])]
def s177_6 : List Ent := [(21, .invokevirtual 221, 3, 175, 2, 8, [])]
def s177_7 : List Ent := [(24, .lconst 0, 1, 0, 0, 0, []), (25, .lcmp, 1, 0, 0, 0, []), (26, .ifCond .ne 7, 3, 33, 0, 0, [])]
def s177_8 : List Ent := [(29, .iconst 1, 1, 0, 0, 0, []), (30, .goto 4, 3, 34, 0, 0, [])]
def s177_9 : List Ent := [(33, .iconst 0, 1, 0, 0, 0, [])]
def s177_10 : List Ent := [(34, .iand, 1, 0, 0, 0, []), (35, .istore_n 1, 1, 0, 0, 0, []), (36, .iinc 2 1, 3, 0, 0, 0, []), (39, .goto (-35), 3, 4, 0, 0, [])]
def s177_11 : List Ent := [(42, .iload_n 1, 1, 0, 0, 0, [])]
def s177_12 : List Ent := [(43, .ireturn, 1, 1, 0, 0, [])]
def sg177 : List (List Ent) := [s177_0, s177_1, s177_2, s177_3, s177_4, s177_5, s177_6, s177_7, s177_8, s177_9, s177_10, s177_11, s177_12]
theorem ch177 : chkM mi177.2.1 mi177.2.2.1 mi177.2.2.2 lkRX8 sg177 = true := by decide +kernel
def s178_0 : List Ent := [(0, .aload_n 0, 1, 0, 0, 0, [])]
def s178_1 : List Ent := [(1, .invokevirtual 153, 3, 148, 0, 8, [])]
def s178_2 : List Ent := [(4, .invokestatic 140, 3, 119, 1, 0, [])]
def s178_3 : List Ent := [(7, .istore_n 1, 1, 0, 0, 0, []), (8, .iconst 0, 1, 0, 0, 0, []), (9, .istore_n 2, 1, 0, 0, 0, [])]
def s178_4 : List Ent := [(10, .iload_n 2, 1, 0, 0, 0, []), (11, .iload_n 1, 1, 0, 0, 0, []), (12, .if_icmp .ge 34, 3, 46, 0, 0, [])]
def s178_5 : List Ent := [(15, .aload_n 0, 1, 0, 0, 0, []), (16, .aload_n 0, 1, 0, 0, 0, []), (17, .iload_n 2, 1, 0, 0, 0, [])]
def s178_6 : List Ent := [(18, .invokevirtual 159, 3, 149, 1, 8, [])]
def s178_7 : List Ent := [(21, .invokevirtual 162, 3, 150, 1, 8, [])]
def s178_8 : List Ent := [(24, .aload_n 0, 1, 0, 0, 0, [])]
def s178_9 : List Ent := [(25, .invokevirtual 224, 3, 176, 0, 8, [])]
def s178_10 : List Ent := [(28, .ifCond .eq 12, 3, 40, 0, 0, [])]
def s178_11 : List Ent := [(31, .aload_n 0, 1, 0, 0, 0, [])]
def s178_12 : List Ent := [(32, .invokevirtual 227, 3, 177, 0, 8, [])]
def s178_13 : List Ent := [(35, .ifCond .ne 5, 3, 40, 0, 0, [])]
def s178_14 : List Ent := [(38, .iload_n 2, 1, 0, 0, 0, [])]
def s178_15 : List Ent := [(39, .ireturn, 1, 0, 0, 0, [])]
def s178_16 : List Ent := [(40, .iinc 2 1, 3, 0, 0, 0, []), (43, .goto (-33), 3, 10, 0, 0, [])]
def s178_17 : List Ent := [(46, .bipush (-9), 2, 0, 0, 0, [])]
def s178_18 : List Ent := [(48, .ireturn, 1, 0, 0, 0, [])]
def sg178 : List (List Ent) := [s178_0, s178_1, s178_2, s178_3, s178_4, s178_5, s178_6, s178_7, s178_8, s178_9, s178_10, s178_11, s178_12, s178_13, s178_14, s178_15, s178_16, s178_17, s178_18]
theorem ch178 : chkM mi178.2.1 mi178.2.2.1 mi178.2.2.2 lkRX8 sg178 = true := by decide +kernel
def s179_0 : List Ent := [(0, .aload_n 0, 1, 0, 0, 0, []), (1, .iload_n 1, 1, 0, 0, 0, [])]
def s179_1 : List Ent := [(2, .invokevirtual 197, 3, 161, 1, 8, [])]
def s179_2 : List Ent := [(5, .istore_n 2, 1, 0, 0, 0, []), (6, .iconst 0, 1, 0, 0, 0, []), (7, .istore_n 3, 1, 0, 0, 0, [])]
def s179_3 : List Ent := [(8, .iload_n 3, 1, 0, 0, 0, []), (9, .aload_n 0, 1, 0, 0, 0, []), (10, .getfield 9, 3, 8, 0, 2, []), (13, .iconst 0, 1, 0, 0, 0, []), (14, .iaload, 1, 0, 0, 0, []), (15, .if_icmp .ge 39, 3, 54, 0, 0, [])]
def s179_4 : List Ent := [(18, .iload_n 2, 1, 0, 0, 0, []), (19, .ifCond .eq 35, 3, 54, 0, 0, [])]
def s179_5 : List Ent := [(22, .iload_n 1, 1, 0, 0, 0, []), (23, .iload_n 3, 1, 0, 0, 0, [])]
def s179_6 : List Ent := [(24, .invokestatic 117, 3, 118, 2, 0, [])]
def s179_7 : List Ent := [(27, .ifCond .eq 15, 3, 42, 0, 0, [])]
def s179_8 : List Ent := [(30, .aload_n 0, 1, 0, 0, 0, []), (31, .getfield 9, 3, 8, 0, 2, []), (34, .bipush 49, 2, 0, 0, 0, []), (36, .iload_n 3, 1, 0, 0, 0, []), (37, .iadd, 1, 0, 0, 0, []), (38, .iaload, 1, 0, 0, 0, []), (39, .ifCond .le 7, 3, 46, 0, 0, [])]
def s179_9 : List Ent := [(42, .iconst 1, 1, 0, 0, 0, []), (43, .goto 4, 3, 47, 0, 0, [])]
def s179_10 : List Ent := [(46, .iconst 0, 1, 0, 0, 0, [])]
def s179_11 : List Ent := [(47, .istore_n 2, 1, 0, 0, 0, []), (48, .iinc 3 1, 3, 0, 0, 0, []), (51, .goto (-43), 3, 8, 0, 0, [])]
def s179_12 : List Ent := [(54, .iload_n 2, 1, 0, 0, 0, [])]
def s179_13 : List Ent := [(55, .ireturn, 1, 1, 0, 0, [])]
def sg179 : List (List Ent) := [s179_0, s179_1, s179_2, s179_3, s179_4, s179_5, s179_6, s179_7, s179_8, s179_9, s179_10, s179_11, s179_12, s179_13]
theorem ch179 : chkM mi179.2.1 mi179.2.2.1 mi179.2.2.2 lkRX8 sg179 = true := by decide +kernel
end
section
def s180_0 : List Ent := [(0, .aload_n 0, 1, 0, 0, 0, []), (1, .iload_n 1, 1, 0, 0, 0, [])]
def s180_1 : List Ent := [(2, .invokevirtual 194, 3, 128, 1, 8, [])]
def s180_2 : List Ent := [(5, .ifCond .eq 19, 3, 24, 0, 0, [])]
def s180_3 : List Ent := [(8, .aload_n 0, 1, 0, 0, 0, []), (9, .iload_n 2, 1, 0, 0, 0, [])]
def s180_4 : List Ent := [(10, .invokevirtual 91, 3, 125, 1, 8, [])]
def s180_5 : List Ent := [(13, .ifCond .eq 11, 3, 24, 0, 0, [])]
def s180_6 : List Ent := [(16, .iload_n 1, 1, 0, 0, 0, []), (17, .iload_n 2, 1, 0, 0, 0, [])]
def s180_7 : List Ent := [(18, .invokestatic 117, 3, 118, 2, 0, [])]
def s180_8 : List Ent := [(21, .ifCond .eq 7, 3, 28, 0, 0, [])]
def s180_9 : List Ent := [(24, .iconst 1, 1, 0, 0, 0, []), (25, .goto 4, 3, 29, 0, 0, [])]
def s180_10 : List Ent := [(28, .iconst 0, 1, 0, 0, 0, [])]
def s180_11 : List Ent := [(29, .ireturn, 1, 0, 0, 0, [])]
def sg180 : List (List Ent) := [s180_0, s180_1, s180_2, s180_3, s180_4, s180_5, s180_6, s180_7, s180_8, s180_9, s180_10, s180_11]
theorem ch180 : chkM mi180.2.1 mi180.2.2.1 mi180.2.2.2 lkRX8 sg180 = true := by decide +kernel
def s181_0 : List Ent := [(0, .aload_n 0, 1, 0, 0, 0, []), (1, .iload_n 1, 1, 0, 0, 0, []), (2, .iload_n 2, 1, 0, 0, 0, [])]
def s181_1 : List Ent := [(3, .invokevirtual 230, 3, 180, 2, 8, [])]
def s181_2 : List Ent := [(6, .istore 5, 2, 0, 0, 0, []), (8, .iload 5, 2, 0, 0, 0, []), (10, .ifCond .eq 8, 3, 18, 0, 0, [])]
def s181_3 : List Ent := [(13, .iload 5, 2, 0, 0, 0, []), (15, .goto 52, 3, 67, 0, 0, [])]
def s181_4 : List Ent := [(18, .iload_n 3, 1, 0, 0, 0, []), (19, .i2l, 1, 0, 0, 0, []), (20, .ldc2_w 80, 3, 0, 0, 0, [2]), (23, .ldc2_w 210, 3, 0, 0, 0, [97])]
def s181_5 : List Ent := [(26, .invokestatic 74, 3, 117, 3, 0, [])]
def s181_6 : List Ent := [(29, .ifCond .eq 21, 3, 50, 0, 0, [])]
def s181_7 : List Ent := [(32, .iload_n 3, 1, 0, 0, 0, [])]
def s181_8 : List Ent := [(33, .invokestatic 218, 3, 172, 1, 0, [])]
def s181_9 : List Ent := [(36, .ifCond .eq 14, 3, 50, 0, 0, [])]
def s181_10 : List Ent := [(39, .iload 4, 2, 0, 0, 0, []), (41, .i2l, 1, 0, 0, 0, []), (42, .lconst 0, 1, 0, 0, 0, []), (43, .lconst 1, 1, 0, 0, 0, [])]
def s181_11 : List Ent := [(44, .invokestatic 74, 3, 117, 3, 0, [])]
def s181_12 : List Ent := [(47, .ifCond .ne 7, 3, 54, 0, 0, [])]
def s181_13 : List Ent := [(50, .iconst 2, 1, 0, 0, 0, []), (51, .goto 16, 3, 67, 0, 0, [])]
def s181_14 : List Ent := [(54, .aload_n 0, 1, 0, 0, 0, []), (55, .iload_n 1, 1, 0, 0, 0, [])]
def s181_15 : List Ent := [(56, .invokevirtual 233, 3, 179, 1, 8, [])]
def s181_16 : List Ent := [(59, .ifCond .ne 7, 3, 66, 0, 0, [])]
def s181_17 : List Ent := [(62, .iconst 3, 1, 0, 0, 0, []), (63, .goto 4, 3, 67, 0, 0, [])]
def s181_18 : List Ent := [(66, .iconst 0, 1, 0, 0, 0, [])]
def s181_19 : List Ent := [(67, .istore 5, 2, 0, 0, 0, []), (69, .iload 5, 2, 0, 0, 0, []), (71, .ifCond .eq 10, 3, 81, 0, 0, [])]
def s181_20 : List Ent := [(74, .aload_n 0, 1, 0, 0, 0, []), (75, .iload 5, 2, 0, 0, 0, [])]
def s181_21 : List Ent := [(77, .invokevirtual 180, 3, 122, 1, 8, [])]
def s181_22 : List Ent := [(80, .lreturn, 1, 0, 0, 0, [])]
def s181_23 : List Ent := [(81, .aload_n 0, 1, 0, 0, 0, []), (82, .iload_n 1, 1, 0, 0, 0, []), (83, .iload_n 2, 1, 0, 0, 0, [])]
def s181_24 : List Ent := [(84, .invokevirtual 150, 3, 146, 2, 8, [])]
def s181_25 : List Ent := [(87, .istore 6, 2, 0, 0, 0, []), (89, .aload_n 0, 1, 0, 0, 0, []), (90, .iload_n 3, 1, 0, 0, 0, []), (91, .iload_n 2, 1, 0, 0, 0, [])]
def s181_26 : List Ent := [(92, .invokevirtual 221, 3, 175, 2, 8, [])]
def s181_27 : List Ent := [(95, .lneg, 1, 0, 0, 0, []), (96, .aload_n 0, 1, 0, 0, 0, []), (97, .getfield 29, 3, 8, 9, 2, []), (100, .iload_n 2, 1, 0, 0, 0, []), (101, .laload, 1, 0, 0, 0, []), (102, .iload 4, 2, 0, 0, 0, [])]
def s181_28 : List Ent := [(104, .invokestatic 184, 3, 124, 3, 0, [])]
def s181_29 : List Ent := [(107, .lreturn, 1, 0, 0, 0, [])]
def sg181 : List (List Ent) := [s181_0, s181_1, s181_2, s181_3, s181_4, s181_5, s181_6, s181_7, s181_8, s181_9, s181_10, s181_11, s181_12, s181_13, s181_14, s181_15, s181_16, s181_17, s181_18, s181_19, s181_20, s181_21, s181_22, s181_23, s181_24, s181_25, s181_26, s181_27, s181_28, s181_29]
theorem ch181 : chkM mi181.2.1 mi181.2.2.1 mi181.2.2.2 lkRX8 sg181 = true := by decide +kernel
def s182_0 : List Ent := [(0, .aload_n 0, 1, 0, 0, 0, []), (1, .iload_n 1, 1, 0, 0, 0, []), (2, .iload_n 2, 1, 0, 0, 0, [])]
def s182_1 : List Ent := [(3, .invokevirtual 230, 3, 180, 2, 8, [])]
def s182_2 : List Ent := [(6, .istore_n 3, 1, 0, 0, 0, []), (7, .iload_n 3, 1, 0, 0, 0, []), (8, .ifCond .eq 7, 3, 15, 0, 0, [])]
def s182_3 : List Ent := [(11, .iload_n 3, 1, 0, 0, 0, []), (12, .goto 16, 3, 28, 0, 0, [])]
def s182_4 : List Ent := [(15, .aload_n 0, 1, 0, 0, 0, []), (16, .iload_n 1, 1, 0, 0, 0, [])]
def s182_5 : List Ent := [(17, .invokevirtual 233, 3, 179, 1, 8, [])]
def s182_6 : List Ent := [(20, .ifCond .eq 7, 3, 27, 0, 0, [])]
def s182_7 : List Ent := [(23, .iconst 0, 1, 0, 0, 0, []), (24, .goto 4, 3, 28, 0, 0, [])]
def s182_8 : List Ent := [(27, .iconst 3, 1, 0, 0, 0, [])]
def s182_9 : List Ent := [(28, .istore_n 3, 1, 0, 0, 0, []), (29, .iload_n 3, 1, 0, 0, 0, []), (30, .ifCond .eq 9, 3, 39, 0, 0, [])]
def s182_10 : List Ent := [(33, .aload_n 0, 1, 0, 0, 0, []), (34, .iload_n 3, 1, 0, 0, 0, [])]
def s182_11 : List Ent := [(35, .invokevirtual 64, 3, 120, 1, 8, [])]
def s182_12 : List Ent := [(38, .ireturn, 1, 0, 0, 0, [])]
def s182_13 : List Ent := [(39, .aload_n 0, 1, 0, 0, 0, []), (40, .iload_n 1, 1, 0, 0, 0, []), (41, .iload_n 2, 1, 0, 0, 0, [])]
def s182_14 : List Ent := [(42, .invokevirtual 150, 3, 146, 2, 8, [])]
def s182_15 : List Ent := [(45, .istore 4, 2, 0, 0, 0, []), (47, .iconst 2, 1, 0, 0, 0, []), (48, .istore 5, 2, 0, 0, 0, [])]
def s182_16 : List Ent := [(50, .iload 5, 2, 0, 0, 0, []), (52, .bipush 97, 2, 0, 0, 0, []), (54, .if_icmp .gt 46, 3, 100, 0, 0, [])]
def s182_17 : List Ent := [(57, .iload 4, 2, 0, 0, 0, []), (59, .iload 5, 2, 0, 0, 0, [])]
def s182_18 : List Ent := [(61, .invokestatic 218, 3, 172, 1, 0, [])]
def s182_19 : List Ent := [(64, .ifCond .eq 22, 3, 86, 0, 0, [])]
def s182_20 : List Ent := [(67, .aload_n 0, 1, 0, 0, 0, []), (68, .iload 5, 2, 0, 0, 0, []), (70, .iload_n 2, 1, 0, 0, 0, [])]
def s182_21 : List Ent := [(71, .invokevirtual 221, 3, 175, 2, 8, [])]
def s182_22 : List Ent := [(74, .aload_n 0, 1, 0, 0, 0, []), (75, .getfield 29, 3, 8, 9, 2, []), (78, .iload_n 2, 1, 0, 0, 0, []), (79, .laload, 1, 0, 0, 0, []), (80, .lrem, 1, 0, 0, 0, []), (81, .lconst 0, 1, 0, 0, 0, []), (82, .lcmp, 1, 0, 0, 0, []), (83, .ifCond .ne 7, 3, 90, 0, 0, [])]
def s182_23 : List Ent := [(86, .iconst 1, 1, 0, 0, 0, []), (87, .goto 4, 3, 91, 0, 0, [])]
def s182_24 : List Ent := [(90, .iconst 0, 1, 0, 0, 0, [])]
def s182_25 : List Ent := [(91, .iand, 1, 0, 0, 0, []), (92, .istore 4, 2, 0, 0, 0, []), (94, .iinc 5 1, 3, 0, 0, 0, []), (97, .goto (-47), 3, 50, 0, 0, [])]
def s182_26 : List Ent := [(100, .iload 4, 2, 0, 0, 0, []), (102, .ifCond .eq 7, 3, 109, 0, 0, [])]
def s182_27 : List Ent := [(105, .iconst 1, 1, 0, 0, 0, []), (106, .goto 4, 3, 110, 0, 0, [])]
def s182_28 : List Ent := [(109, .iconst 0, 1, 0, 0, 0, [])]
def s182_29 : List Ent := [(110, .ireturn, 1, 0, 0, 0, [])]
def sg182 : List (List Ent) := [s182_0, s182_1, s182_2, s182_3, s182_4, s182_5, s182_6, s182_7, s182_8, s182_9, s182_10, s182_11, s182_12, s182_13, s182_14, s182_15, s182_16, s182_17, s182_18, s182_19, s182_20, s182_21, s182_22, s182_23, s182_24, s182_25, s182_26, s182_27, s182_28, s182_29]
theorem ch182 : chkM mi182.2.1 mi182.2.2.1 mi182.2.2.2 lkRX8 sg182 = true := by decide +kernel
def s183_0 : List Ent := [(0, .aload_n 0, 1, 0, 0, 0, []), (1, .iload_n 1, 1, 0, 0, 0, [])]
def s183_1 : List Ent := [(2, .invokevirtual 194, 3, 128, 1, 8, [])]
def s183_2 : List Ent := [(5, .ifCond .ne 9, 3, 14, 0, 0, [])]
def s183_3 : List Ent := [(8, .aload_n 0, 1, 0, 0, 0, []), (9, .iconst 1, 1, 0, 0, 0, [])]
def s183_4 : List Ent := [(10, .invokevirtual 64, 3, 120, 1, 8, [])]
def s183_5 : List Ent := [(13, .ireturn, 1, 0, 0, 0, [])]
def s183_6 : List Ent := [(14, .aload_n 0, 1, 0, 0, 0, []), (15, .iload_n 1, 1, 0, 0, 0, [])]
def s183_7 : List Ent := [(16, .invokevirtual 233, 3, 179, 1, 8, [])]
def s183_8 : List Ent := [(19, .ifCond .ne 9, 3, 28, 0, 0, [])]
def s183_9 : List Ent := [(22, .aload_n 0, 1, 0, 0, 0, []), (23, .iconst 3, 1, 0, 0, 0, [])]
def s183_10 : List Ent := [(24, .invokevirtual 64, 3, 120, 1, 8, [])]
def s183_11 : List Ent := [(27, .ireturn, 1, 0, 0, 0, [])]
def s183_12 : List Ent := [(28, .iconst 0, 1, 0, 0, 0, []), (29, .istore_n 2, 1, 0, 0, 0, []), (30, .iconst 0, 1, 0, 0, 0, []), (31, .istore_n 3, 1, 0, 0, 0, [])]
def s183_13 : List Ent := [(32, .iload_n 3, 1, 0, 0, 0, []), (33, .aload_n 0, 1, 0, 0, 0, []), (34, .getfield 9, 3, 8, 0, 2, []), (37, .iconst 0, 1, 0, 0, 0, []), (38, .iaload, 1, 0, 0, 0, []), (39, .if_icmp .ge 58, 3, 97, 0, 0, [])]
def s183_14 : List Ent := [(42, .iload_n 1, 1, 0, 0, 0, []), (43, .iload_n 3, 1, 0, 0, 0, [])]
def s183_15 : List Ent := [(44, .invokestatic 117, 3, 118, 2, 0, [])]
def s183_16 : List Ent := [(47, .ifCond .ne 44, 3, 91, 0, 0, [])]
def s183_17 : List Ent := [(50, .aload_n 0, 1, 0, 0, 0, []), (51, .getfield 9, 3, 8, 0, 2, []), (54, .bipush 49, 2, 0, 0, 0, []), (56, .iload_n 3, 1, 0, 0, 0, []), (57, .iadd, 1, 0, 0, 0, []), (58, .iaload, 1, 0, 0, 0, []), (59, .ifCond .eq 32, 3, 91, 0, 0, [])]
def s183_18 : List Ent := [(62, .aload_n 0, 1, 0, 0, 0, []), (63, .iload_n 1, 1, 0, 0, 0, []), (64, .iload_n 3, 1, 0, 0, 0, [])]
def s183_19 : List Ent := [(65, .invokevirtual 150, 3, 146, 2, 8, [])]
def s183_20 : List Ent := [(68, .ifCond .ne 6, 3, 74, 0, 0, [])]
def s183_21 : List Ent := [(71, .goto 20, 3, 91, 0, 0, [])]
def s183_22 : List Ent := [(74, .iload_n 2, 1, 0, 0, 0, []), (75, .aload_n 0, 1, 0, 0, 0, [])]
def s183_23 : List Ent := [(76, .invokevirtual 227, 3, 177, 0, 8, [])]
def s183_24 : List Ent := [(79, .ifCond .eq 7, 3, 86, 0, 0, [])]
def s183_25 : List Ent := [(82, .iconst 0, 1, 0, 0, 0, []), (83, .goto 6, 3, 89, 0, 0, [])]
def s183_26 : List Ent := [(86, .iconst 1, 1, 0, 0, 0, []), (87, .iload_n 3, 1, 0, 0, 0, []), (88, .ishl, 1, 0, 0, 0, [])]
def s183_27 : List Ent := [(89, .ior, 1, 0, 0, 0, []), (90, .istore_n 2, 1, 0, 0, 0, [])]
def s183_28 : List Ent := [(91, .iinc 3 1, 3, 0, 0, 0, []), (94, .goto (-62), 3, 32, 0, 0, [])]
def s183_29 : List Ent := [(97, .iload_n 2, 1, 0, 0, 0, [])]
def s183_30 : List Ent := [(98, .ireturn, 1, 0, 0, 0, [])]
def sg183 : List (List Ent) := [s183_0, s183_1, s183_2, s183_3, s183_4, s183_5, s183_6, s183_7, s183_8, s183_9, s183_10, s183_11, s183_12, s183_13, s183_14, s183_15, s183_16, s183_17, s183_18, s183_19, s183_20, s183_21, s183_22, s183_23, s183_24, s183_25, s183_26, s183_27, s183_28, s183_29, s183_30]
theorem ch183 : chkM mi183.2.1 mi183.2.2.1 mi183.2.2.2 lkRX8 sg183 = true := by decide +kernel
def s184_0 : List Ent := [(0, .iconst 0, 1, 0, 0, 0, []), (1, .istore_n 3, 1, 0, 0, 0, []), (2, .iconst 0, 1, 0, 0, 0, []), (3, .istore 4, 2, 0, 0, 0, [])]
def s184_1 : List Ent := [(5, .iload 4, 2, 0, 0, 0, []), (7, .iload_n 1, 1, 0, 0, 0, []), (8, .if_icmp .ge 48, 3, 56, 0, 0, [])]
def s184_2 : List Ent := [(11, .aload_n 0, 1, 0, 0, 0, []), (12, .aload_n 0, 1, 0, 0, 0, []), (13, .getfield 44, 3, 8, 14, 2, []), (16, .iload 4, 2, 0, 0, 0, []), (18, .iaload, 1, 0, 0, 0, []), (19, .iconst 2, 1, 0, 0, 0, []), (20, .idiv, 1, 0, 0, 0, []), (21, .iload_n 2, 1, 0, 0, 0, [])]
def s184_3 : List Ent := [(22, .invokevirtual 105, 3, 134, 2, 8, [])]
def s184_4 : List Ent := [(25, .istore 5, 2, 0, 0, 0, []), (27, .iload_n 3, 1, 0, 0, 0, []), (28, .aload_n 0, 1, 0, 0, 0, []), (29, .getfield 44, 3, 8, 14, 2, []), (32, .iload 4, 2, 0, 0, 0, []), (34, .iaload, 1, 0, 0, 0, []), (35, .iconst 2, 1, 0, 0, 0, []), (36, .irem, 1, 0, 0, 0, []), (37, .ifCond .ne 8, 3, 45, 0, 0, [])]
def s184_5 : List Ent := [(40, .iload 5, 2, 0, 0, 0, []), (42, .goto 6, 3, 48, 0, 0, [])]
def s184_6 : List Ent := [(45, .iload 5, 2, 0, 0, 0, []), (47, .ineg, 1, 0, 0, 0, [])]
def s184_7 : List Ent := [(48, .iadd, 1, 0, 0, 0, []), (49, .istore_n 3, 1, 0, 0, 0, []), (50, .iinc 4 1, 3, 0, 0, 0, []), (53, .goto (-48), 3, 5, 0, 0, [])]
def s184_8 : List Ent := [(56, .iload_n 3, 1, 0, 0, 0, [])]
def s184_9 : List Ent := [(57, .ireturn, 1, 0, 0, 0, [])]
def sg184 : List (List Ent) := [s184_0, s184_1, s184_2, s184_3, s184_4, s184_5, s184_6, s184_7, s184_8, s184_9]
theorem ch184 : chkM mi184.2.1 mi184.2.2.1 mi184.2.2.2 lkRX8 sg184 = true := by decide +kernel
def s185_0 : List Ent := [(0, .iconst 1, 1, 0, 0, 0, []), (1, .istore_n 2, 1, 0, 0, 0, []), (2, .iconst 0, 1, 0, 0, 0, []), (3, .istore_n 3, 1, 0, 0, 0, [])]
def s185_1 : List Ent := [(4, .iload_n 3, 1, 0, 0, 0, []), (5, .iconst 5, 1, 0, 0, 0, []), (6, .if_icmp .ge 32, 3, 38, 0, 0, [])]
def s185_2 : List Ent := [(9, .iload_n 2, 1, 0, 0, 0, []), (10, .aload_n 0, 1, 0, 0, 0, []), (11, .iload_n 1, 1, 0, 0, 0, []), (12, .iload_n 3, 1, 0, 0, 0, [])]
def s185_3 : List Ent := [(13, .invokevirtual 236, 3, 184, 2, 8, [])]
def s185_4 : List Ent := [(16, .aload_n 0, 1, 0, 0, 0, []), (17, .getfield 47, 3, 8, 15, 2, []), (20, .iload_n 3, 1, 0, 0, 0, []), (21, .iaload, 1, 0, 0, 0, []), (22, .if_icmp .ne 7, 3, 29, 0, 0, [])]
def s185_5 : List Ent := [(25, .iconst 1, 1, 0, 0, 0, []), (26, .goto 4, 3, 30, 0, 0, [])]
def s185_6 : List Ent := [(29, .iconst 0, 1, 0, 0, 0, [])]
def s185_7 : List Ent := [(30, .iand, 1, 0, 0, 0, []), (31, .istore_n 2, 1, 0, 0, 0, []), (32, .iinc 3 1, 3, 0, 0, 0, []), (35, .goto (-31), 3, 4, 0, 0, [])]
def s185_8 : List Ent := [(38, .iload_n 2, 1, 0, 0, 0, [])]
def s185_9 : List Ent := [(39, .ireturn, 1, 1, 0, 0, [])]
def sg185 : List (List Ent) := [s185_0, s185_1, s185_2, s185_3, s185_4, s185_5, s185_6, s185_7, s185_8, s185_9]
theorem ch185 : chkM mi185.2.1 mi185.2.2.1 mi185.2.2.2 lkRX8 sg185 = true := by decide +kernel
def s186_0 : List Ent := [(0, .iload_n 1, 1, 0, 0, 0, []), (1, .iload_n 2, 1, 0, 0, 0, []), (2, .if_icmp .ne 9, 3, 11, 0, 0, [])]
def s186_1 : List Ent := [(5, .aload_n 0, 1, 0, 0, 0, []), (6, .iload_n 2, 1, 0, 0, 0, [])]
def s186_2 : List Ent := [(7, .invokevirtual 239, 3, 185, 1, 8, [])]
def s186_3 : List Ent := [(10, .ireturn, 1, 1, 0, 0, [])]
def s186_4 : List Ent := [(11, .iconst 0, 1, 0, 0, 0, []), (12, .istore_n 3, 1, 0, 0, 0, [])]
def s186_5 : List Ent := [(13, .iload_n 3, 1, 0, 0, 0, []), (14, .iconst 2, 1, 0, 0, 0, []), (15, .aload_n 0, 1, 0, 0, 0, []), (16, .getfield 9, 3, 8, 0, 2, []), (19, .iconst 0, 1, 0, 0, 0, []), (20, .iaload, 1, 0, 0, 0, []), (21, .imul, 1, 0, 0, 0, []), (22, .if_icmp .ge 29, 3, 51, 0, 0, [])]
def s186_6 : List Ent := [(25, .aload_n 0, 1, 0, 0, 0, []), (26, .getfield 44, 3, 8, 14, 2, []), (29, .iload_n 1, 1, 0, 0, 0, []), (30, .iload_n 3, 1, 0, 0, 0, []), (31, .iastore, 1, 0, 0, 0, []), (32, .aload_n 0, 1, 0, 0, 0, []), (33, .iload_n 1, 1, 0, 0, 0, []), (34, .iconst 1, 1, 0, 0, 0, []), (35, .iadd, 1, 0, 0, 0, []), (36, .iload_n 2, 1, 0, 0, 0, [])]
def s186_7 : List Ent := [(37, .invokevirtual 242, 3, 186, 2, 8, [])]
def s186_8 : List Ent := [(40, .ifCond .eq 5, 3, 45, 0, 0, [])]
def s186_9 : List Ent := [(43, .iconst 1, 1, 0, 0, 0, [])]
def s186_10 : List Ent := [(44, .ireturn, 1, 1, 0, 0, [])]
def s186_11 : List Ent := [(45, .iinc 3 1, 3, 0, 0, 0, []), (48, .goto (-35), 3, 13, 0, 0, [])]
def s186_12 : List Ent := [(51, .iconst 0, 1, 0, 0, 0, [])]
def s186_13 : List Ent := [(52, .ireturn, 1, 1, 0, 0, [])]
def sg186 : List (List Ent) := [s186_0, s186_1, s186_2, s186_3, s186_4, s186_5, s186_6, s186_7, s186_8, s186_9, s186_10, s186_11, s186_12, s186_13]
theorem ch186 : chkM mi186.2.1 mi186.2.2.1 mi186.2.2.2 lkRX8 sg186 = true := by decide +kernel
def s187_0 : List Ent := [(0, .iconst 0, 1, 0, 0, 0, []), (1, .istore_n 2, 1, 0, 0, 0, [])]
def s187_1 : List Ent := [(2, .iload_n 2, 1, 0, 0, 0, []), (3, .iconst 3, 1, 0, 0, 0, []), (4, .if_icmp .gt 43, 3, 47, 0, 0, [])]
def s187_2 : List Ent := [(7, .aload_n 0, 1, 0, 0, 0, []), (8, .iconst 0, 1, 0, 0, 0, []), (9, .iload_n 2, 1, 0, 0, 0, [])]
def s187_3 : List Ent := [(10, .invokevirtual 242, 3, 186, 2, 8, [])]
def s187_4 : List Ent := [(13, .ifCond .eq 28, 3, 41, 0, 0, [])]
def s187_5 : List Ent := [(16, .iload_n 1, 1, 0, 0, 0, []), (17, .ifCond .ge 7, 3, 24, 0, 0, [])]
def s187_6 : List Ent := [(20, .iload_n 2, 1, 0, 0, 0, []), (21, .goto 19, 3, 40, 0, 0, [])]
def s187_7 : List Ent := [(24, .iload_n 1, 1, 0, 0, 0, []), (25, .iload_n 2, 1, 0, 0, 0, []), (26, .if_icmp .ge 12, 3, 38, 0, 0, [])]
def s187_8 : List Ent := [(29, .aload_n 0, 1, 0, 0, 0, []), (30, .getfield 44, 3, 8, 14, 2, []), (33, .iload_n 1, 1, 0, 0, 0, []), (34, .iaload, 1, 0, 0, 0, []), (35, .goto 5, 3, 40, 0, 0, [])]
def s187_9 : List Ent := [(38, .bipush (-9), 2, 0, 0, 0, [])]
def s187_10 : List Ent := [(40, .ireturn, 1, 0, 0, 0, [])]
def s187_11 : List Ent := [(41, .iinc 2 1, 3, 0, 0, 0, []), (44, .goto (-42), 3, 2, 0, 0, [])]
def s187_12 : List Ent := [(47, .bipush (-9), 2, 0, 0, 0, [])]
def s187_13 : List Ent := [(49, .ireturn, 1, 0, 0, 0, [])]
def sg187 : List (List Ent) := [s187_0, s187_1, s187_2, s187_3, s187_4, s187_5, s187_6, s187_7, s187_8, s187_9, s187_10, s187_11, s187_12, s187_13]
theorem ch187 : chkM mi187.2.1 mi187.2.2.1 mi187.2.2.2 lkRX8 sg187 = true := by decide +kernel
def s188_0 : List Ent := [(0, .iload_n 1, 1, 0, 0, 0, [])]
def s188_1 : List Ent := [(1, .invokestatic 170, 3, 127, 1, 0, [])]
def s188_2 : List Ent := [(4, .ifCond .ne 9, 3, 13, 0, 0, [])]
def s188_3 : List Ent := [(7, .aload_n 0, 1, 0, 0, 0, []), (8, .iconst 1, 1, 0, 0, 0, [])]
def s188_4 : List Ent := [(9, .invokevirtual 64, 3, 120, 1, 8, [])]
def s188_5 : List Ent := [(12, .ireturn, 1, 0, 0, 0, [])]
def s188_6 : List Ent := [(13, .aload_n 0, 1, 0, 0, 0, []), (14, .getfield 35, 3, 8, 11, 2, []), (17, .iload_n 1, 1, 0, 0, 0, []), (18, .iaload, 1, 0, 0, 0, []), (19, .ifCond .ge 10, 3, 29, 0, 0, [])]
def s188_7 : List Ent := [(22, .aload_n 0, 1, 0, 0, 0, []), (23, .bipush 11, 2, 0, 0, 0, [])]
def s188_8 : List Ent := [(25, .invokevirtual 64, 3, 120, 1, 8, [])]
def s188_9 : List Ent := [(28, .ireturn, 1, 0, 0, 0, [])]
def s188_10 : List Ent := [(29, .aload_n 0, 1, 0, 0, 0, []), (30, .iload_n 1, 1, 0, 0, 0, []), (31, .iconst 5, 1, 0, 0, 0, [])]
def s188_11 : List Ent := [(32, .invokevirtual 173, 3, 154, 2, 8, [])]
def s188_12 : List Ent := [(35, .ifCond .ne 9, 3, 44, 0, 0, [])]
def s188_13 : List Ent := [(38, .aload_n 0, 1, 0, 0, 0, []), (39, .iconst 3, 1, 0, 0, 0, [])]
def s188_14 : List Ent := [(40, .invokevirtual 64, 3, 120, 1, 8, [])]
def s188_15 : List Ent := [(43, .ireturn, 1, 0, 0, 0, [])]
def s188_16 : List Ent := [(44, .iload_n 2, 1, 0, 0, 0, []), (45, .iconst (-1), 1, 0, 0, 0, []), (46, .if_icmp .ge 9, 3, 55, 0, 0, [])]
def s188_17 : List Ent := [(49, .aload_n 0, 1, 0, 0, 0, []), (50, .iconst 4, 1, 0, 0, 0, [])]
def s188_18 : List Ent := [(51, .invokevirtual 64, 3, 120, 1, 8, [])]
def s188_19 : List Ent := [(54, .ireturn, 1, 0, 0, 0, [])]
def s188_20 : List Ent := [(55, .iconst 0, 1, 0, 0, 0, []), (56, .istore_n 3, 1, 0, 0, 0, [])]
def s188_21 : List Ent := [(57, .iload_n 3, 1, 0, 0, 0, []), (58, .iconst 5, 1, 0, 0, 0, []), (59, .if_icmp .ge 21, 3, 80, 0, 0, [])]
def s188_22 : List Ent := [(62, .aload_n 0, 1, 0, 0, 0, []), (63, .getfield 47, 3, 8, 15, 2, []), (66, .iload_n 3, 1, 0, 0, 0, []), (67, .aload_n 0, 1, 0, 0, 0, []), (68, .getfield 41, 3, 8, 13, 2, []), (71, .iload_n 3, 1, 0, 0, 0, []), (72, .iaload, 1, 0, 0, 0, []), (73, .iastore, 1, 0, 0, 0, []), (74, .iinc 3 1, 3, 0, 0, 0, []), (77, .goto (-20), 3, 57, 0, 0, [])]
def s188_23 : List Ent := [(80, .aload_n 0, 1, 0, 0, 0, []), (81, .iload_n 2, 1, 0, 0, 0, [])]
def s188_24 : List Ent := [(82, .invokevirtual 245, 3, 187, 1, 8, [])]
def s188_25 : List Ent := [(85, .ireturn, 1, 0, 0, 0, [])]
def sg188 : List (List Ent) := [s188_0, s188_1, s188_2, s188_3, s188_4, s188_5, s188_6, s188_7, s188_8, s188_9, s188_10, s188_11, s188_12, s188_13, s188_14, s188_15, s188_16, s188_17, s188_18, s188_19, s188_20, s188_21, s188_22, s188_23, s188_24, s188_25]
theorem ch188 : chkM mi188.2.1 mi188.2.2.1 mi188.2.2.2 lkRX8 sg188 = true := by decide +kernel
def s189_0 : List Ent := [(0, .lconst 0, 1, 0, 0, 0, []), (1, .lstore_n 2, 1, 0, 0, 0, []), (2, .iconst 0, 1, 0, 0, 0, []), (3, .istore 4, 2, 0, 0, 0, [])]
def s189_1 : List Ent := [(5, .iload 4, 2, 0, 0, 0, []), (7, .iconst 5, 1, 0, 0, 0, []), (8, .if_icmp .ge 24, 3, 32, 0, 0, [])]
def s189_2 : List Ent := [(11, .ldc2_w 248, 3, 0, 0, 0, [1000]), (14, .lload_n 2, 1, 0, 0, 0, []), (15, .lmul, 1, 0, 0, 0, []), (16, .aload_n 0, 1, 0, 0, 0, []), (17, .iload_n 1, 1, 0, 0, 0, []), (18, .iload 4, 2, 0, 0, 0, [])]
def s189_3 : List Ent := [(20, .invokevirtual 236, 3, 184, 2, 8, [])]
def s189_4 : List Ent := [(23, .i2l, 1, 0, 0, 0, []), (24, .ladd, 1, 0, 0, 0, []), (25, .lstore_n 2, 1, 0, 0, 0, []), (26, .iinc 4 1, 3, 0, 0, 0, []), (29, .goto (-24), 3, 5, 0, 0, [])]
def s189_5 : List Ent := [(32, .lload_n 2, 1, 0, 0, 0, [])]
def s189_6 : List Ent := [(33, .lreturn, 1, 0, 0, 0, [])]
def sg189 : List (List Ent) := [s189_0, s189_1, s189_2, s189_3, s189_4, s189_5, s189_6]
theorem ch189 : chkM mi189.2.1 mi189.2.2.1 mi189.2.2.2 lkRX8 sg189 = true := by decide +kernel
def s190_0 : List Ent := [(0, .iconst 0, 1, 0, 0, 0, []), (1, .istore 4, 2, 0, 0, 0, [])]
def s190_1 : List Ent := [(3, .iload 4, 2, 0, 0, 0, []), (5, .iload_n 1, 1, 0, 0, 0, []), (6, .if_icmp .ge 23, 3, 29, 0, 0, [])]
def s190_2 : List Ent := [(9, .aload_n 0, 1, 0, 0, 0, []), (10, .getfield 50, 3, 8, 16, 2, []), (13, .iload 4, 2, 0, 0, 0, []), (15, .laload, 1, 0, 0, 0, []), (16, .lload_n 2, 1, 0, 0, 0, []), (17, .lcmp, 1, 0, 0, 0, []), (18, .ifCond .ne 5, 3, 23, 0, 0, [])]
def s190_3 : List Ent := [(21, .iload_n 1, 1, 0, 0, 0, [])]
def s190_4 : List Ent := [(22, .ireturn, 1, 0, 0, 0, [])]
def s190_5 : List Ent := [(23, .iinc 4 1, 3, 0, 0, 0, []), (26, .goto (-23), 3, 3, 0, 0, [])]
def s190_6 : List Ent := [(29, .aload_n 0, 1, 0, 0, 0, []), (30, .getfield 50, 3, 8, 16, 2, []), (33, .iload_n 1, 1, 0, 0, 0, []), (34, .lload_n 2, 1, 0, 0, 0, []), (35, .lastore, 1, 0, 0, 0, []), (36, .iload_n 1, 1, 0, 0, 0, []), (37, .iconst 1, 1, 0, 0, 0, []), (38, .iadd, 1, 0, 0, 0, [])]
def s190_7 : List Ent := [(39, .ireturn, 1, 0, 0, 0, [])]
def sg190 : List (List Ent) := [s190_0, s190_1, s190_2, s190_3, s190_4, s190_5, s190_6, s190_7]
theorem ch190 : chkM mi190.2.1 mi190.2.2.1 mi190.2.2.2 lkRX8 sg190 = true := by decide +kernel
def s191_0 : List Ent := [(0, .iload_n 1, 1, 0, 0, 0, []), (1, .iload_n 2, 1, 0, 0, 0, []), (2, .if_icmp .ne 14, 3, 16, 0, 0, [])]
def s191_1 : List Ent := [(5, .aload_n 0, 1, 0, 0, 0, []), (6, .iload_n 3, 1, 0, 0, 0, []), (7, .aload_n 0, 1, 0, 0, 0, []), (8, .iload_n 2, 1, 0, 0, 0, [])]
def s191_2 : List Ent := [(9, .invokevirtual 250, 3, 189, 1, 8, [])]
def s191_3 : List Ent := [(12, .invokevirtual 253, 3, 190, 2, 8, [])]
def s191_4 : List Ent := [(15, .ireturn, 1, 0, 0, 0, [])]
def s191_5 : List Ent := [(16, .iload_n 3, 1, 0, 0, 0, []), (17, .istore 4, 2, 0, 0, 0, []), (19, .iload_n 1, 1, 0, 0, 0, []), (20, .ifCond .ne 7, 3, 27, 0, 0, [])]
def s191_6 : List Ent := [(23, .iconst 0, 1, 0, 0, 0, []), (24, .goto 11, 3, 35, 0, 0, [])]
def s191_7 : List Ent := [(27, .aload_n 0, 1, 0, 0, 0, []), (28, .getfield 44, 3, 8, 14, 2, []), (31, .iload_n 1, 1, 0, 0, 0, []), (32, .iconst 1, 1, 0, 0, 0, []), (33, .isub, 1, 0, 0, 0, []), (34, .iaload, 1, 0, 0, 0, [])]
def s191_8 : List Ent := [(35, .istore 5, 2, 0, 0, 0, [])]
def s191_9 : List Ent := [(37, .iload 5, 2, 0, 0, 0, []), (39, .iconst 2, 1, 0, 0, 0, []), (40, .aload_n 0, 1, 0, 0, 0, []), (41, .getfield 9, 3, 8, 0, 2, []), (44, .iconst 0, 1, 0, 0, 0, []), (45, .iaload, 1, 0, 0, 0, []), (46, .imul, 1, 0, 0, 0, []), (47, .if_icmp .ge 29, 3, 76, 0, 0, [])]
def s191_10 : List Ent := [(50, .aload_n 0, 1, 0, 0, 0, []), (51, .getfield 44, 3, 8, 14, 2, []), (54, .iload_n 1, 1, 0, 0, 0, []), (55, .iload 5, 2, 0, 0, 0, []), (57, .iastore, 1, 0, 0, 0, []), (58, .aload_n 0, 1, 0, 0, 0, []), (59, .iload_n 1, 1, 0, 0, 0, []), (60, .iconst 1, 1, 0, 0, 0, []), (61, .iadd, 1, 0, 0, 0, []), (62, .iload_n 2, 1, 0, 0, 0, []), (63, .iload 4, 2, 0, 0, 0, [])]
def s191_11 : List Ent := [(65, .invokevirtual 257, 3, 191, 3, 8, [])]
def s191_12 : List Ent := [(68, .istore 4, 2, 0, 0, 0, []), (70, .iinc 5 1, 3, 0, 0, 0, []), (73, .goto (-36), 3, 37, 0, 0, [])]
def s191_13 : List Ent := [(76, .iload 4, 2, 0, 0, 0, [])]
def s191_14 : List Ent := [(78, .ireturn, 1, 0, 0, 0, [])]
def sg191 : List (List Ent) := [s191_0, s191_1, s191_2, s191_3, s191_4, s191_5, s191_6, s191_7, s191_8, s191_9, s191_10, s191_11, s191_12, s191_13, s191_14]
theorem ch191 : chkM mi191.2.1 mi191.2.2.1 mi191.2.2.2 lkRX8 sg191 = true := by decide +kernel
def s192_0 : List Ent := [(0, .iload_n 1, 1, 0, 0, 0, []), (1, .ifCond .ge 9, 3, 10, 0, 0, [])]
def s192_1 : List Ent := [(4, .aload_n 0, 1, 0, 0, 0, []), (5, .iconst 4, 1, 0, 0, 0, [])]
def s192_2 : List Ent := [(6, .invokevirtual 64, 3, 120, 1, 8, [])]
def s192_3 : List Ent := [(9, .ireturn, 1, 0, 0, 0, [])]
def s192_4 : List Ent := [(10, .iload_n 1, 1, 0, 0, 0, []), (11, .iconst 3, 1, 0, 0, 0, []), (12, .if_icmp .le 10, 3, 22, 0, 0, [])]
def s192_5 : List Ent := [(15, .aload_n 0, 1, 0, 0, 0, []), (16, .bipush 6, 2, 0, 0, 0, [])]
def s192_6 : List Ent := [(18, .invokevirtual 64, 3, 120, 1, 8, [])]
def s192_7 : List Ent := [(21, .ireturn, 1, 0, 0, 0, [])]
def s192_8 : List Ent := [(22, .iconst 0, 1, 0, 0, 0, []), (23, .istore_n 2, 1, 0, 0, 0, []), (24, .iconst 0, 1, 0, 0, 0, []), (25, .istore_n 3, 1, 0, 0, 0, [])]
def s192_9 : List Ent := [(26, .iload_n 3, 1, 0, 0, 0, []), (27, .iload_n 1, 1, 0, 0, 0, []), (28, .if_icmp .gt 17, 3, 45, 0, 0, [])]
def s192_10 : List Ent := [(31, .aload_n 0, 1, 0, 0, 0, []), (32, .iconst 0, 1, 0, 0, 0, []), (33, .iload_n 3, 1, 0, 0, 0, []), (34, .iload_n 2, 1, 0, 0, 0, [])]
def s192_11 : List Ent := [(35, .invokevirtual 257, 3, 191, 3, 8, [])]
def s192_12 : List Ent := [(38, .istore_n 2, 1, 0, 0, 0, []), (39, .iinc 3 1, 3, 0, 0, 0, []), (42, .goto (-16), 3, 26, 0, 0, [])]
def s192_13 : List Ent := [(45, .iload_n 2, 1, 0, 0, 0, [])]
def s192_14 : List Ent := [(46, .ireturn, 1, 0, 0, 0, [])]
def sg192 : List (List Ent) := [s192_0, s192_1, s192_2, s192_3, s192_4, s192_5, s192_6, s192_7, s192_8, s192_9, s192_10, s192_11, s192_12, s192_13, s192_14]
theorem ch192 : chkM mi192.2.1 mi192.2.2.1 mi192.2.2.2 lkRX8 sg192 = true := by decide +kernel
def s193_0 : List Ent := [(0, .aload_n 0, 1, 0, 0, 0, []), (1, .getfield 261, 3, 8, 17, 0, []), (4, .aload_n 0, 1, 0, 0, 0, []), (5, .getfield 82, 3, 8, 5, 0, []), (8, .if_icmp .ge 15, 3, 23, 0, 0, [])]
def s193_1 : List Ent := [(11, .aload_n 0, 1, 0, 0, 0, []), (12, .getfield 19, 3, 8, 4, 2, []), (15, .aload_n 0, 1, 0, 0, 0, []), (16, .getfield 261, 3, 8, 17, 0, []), (19, .iaload, 1, 0, 0, 0, []), (20, .goto 4, 3, 24, 0, 0, [])]
def s193_2 : List Ent := [(23, .iconst (-1), 1, 0, 0, 0, [])]
def s193_3 : List Ent := [(24, .ireturn, 1, 0, 0, 0, [])]
def sg193 : List (List Ent) := [s193_0, s193_1, s193_2, s193_3]
theorem ch193 : chkM mi193.2.1 mi193.2.2.1 mi193.2.2.2 lkRX8 sg193 = true := by decide +kernel
def s194_0 : List Ent := [(0, .aload_n 0, 1, 0, 0, 0, [])]
def s194_1 : List Ent := [(1, .invokevirtual 264, 3, 193, 0, 8, [])]
def s194_2 : List Ent := [(4, .iload_n 1, 1, 0, 0, 0, []), (5, .if_icmp .eq 11, 3, 16, 0, 0, [])]
def s194_3 : List Ent := [(8, .aload_n 0, 1, 0, 0, 0, [])]
def s194_4 : List Ent := [(9, .invokevirtual 264, 3, 193, 0, 8, [])]
def s194_5 : List Ent := [(12, .iload_n 2, 1, 0, 0, 0, []), (13, .if_icmp .ne 7, 3, 20, 0, 0, [])]
def s194_6 : List Ent := [(16, .iconst 1, 1, 0, 0, 0, []), (17, .goto 4, 3, 21, 0, 0, [])]
def s194_7 : List Ent := [(20, .iconst 0, 1, 0, 0, 0, [])]
def s194_8 : List Ent := [(21, .ireturn, 1, 1, 0, 0, [])]
def sg194 : List (List Ent) := [s194_0, s194_1, s194_2, s194_3, s194_4, s194_5, s194_6, s194_7, s194_8]
theorem ch194 : chkM mi194.2.1 mi194.2.2.1 mi194.2.2.2 lkRX8 sg194 = true := by decide +kernel
def s195_0 : List Ent := [(0, .aload_n 0, 1, 0, 0, 0, [])]
def s195_1 : List Ent := [(1, .invokevirtual 264, 3, 193, 0, 8, [])]
def s195_2 : List Ent := [(4, .i2l, 1, 0, 0, 0, []), (5, .ldc2_w 267, 3, 0, 0, 0, [48]), (8, .ldc2_w 269, 3, 0, 0, 0, [57])]
def s195_3 : List Ent := [(11, .invokestatic 74, 3, 117, 3, 0, [])]
def s195_4 : List Ent := [(14, .ireturn, 1, 1, 0, 0, [])]
def sg195 : List (List Ent) := [s195_0, s195_1, s195_2, s195_3, s195_4]
theorem ch195 : chkM mi195.2.1 mi195.2.2.1 mi195.2.2.2 lkRX8 sg195 = true := by decide +kernel
def s196_0 : List Ent := [(0, .aload_n 0, 1, 0, 0, 0, [])]
def s196_1 : List Ent := [(1, .invokevirtual 264, 3, 193, 0, 8, [])]
def s196_2 : List Ent := [(4, .bipush 40, 2, 0, 0, 0, []), (6, .if_icmp .ne 12, 3, 18, 0, 0, [])]
def s196_3 : List Ent := [(9, .aload_n 0, 1, 0, 0, 0, []), (10, .getfield 271, 3, 8, 18, 0, []), (13, .bipush 6, 2, 0, 0, 0, []), (15, .if_icmp .ne 5, 3, 20, 0, 0, [])]
def s196_4 : List Ent := [(18, .iconst 0, 1, 0, 0, 0, [])]
def s196_5 : List Ent := [(19, .ireturn, 1, 1, 0, 0, [])]
def s196_6 : List Ent := [(20, .aload_n 0, 1, 0, 0, 0, []), (21, .dup, 1, 0, 0, 0, []), (22, .getfield 271, 3, 8, 18, 0, []), (25, .iconst 1, 1, 0, 0, 0, []), (26, .iadd, 1, 0, 0, 0, []), (27, .putfield 271, 3, 8, 18, 0, []), (30, .aload_n 0, 1, 0, 0, 0, []), (31, .dup, 1, 0, 0, 0, []), (32, .getfield 261, 3, 8, 17, 0, []), (35, .iconst 1, 1, 0, 0, 0, []), (36, .iadd, 1, 0, 0, 0, []), (37, .putfield 261, 3, 8, 17, 0, []), (40, .aload_n 0, 1, 0, 0, 0, [])]
def s196_7 : List Ent := [(41, .invokevirtual 274, 3, 200, 0, 8, [])]
def s196_8 : List Ent := [(44, .ifCond .eq 12, 3, 56, 0, 0, [])]
def s196_9 : List Ent := [(47, .aload_n 0, 1, 0, 0, 0, [])]
def s196_10 : List Ent := [(48, .invokevirtual 264, 3, 193, 0, 8, [])]
def s196_11 : List Ent := [(51, .bipush 41, 2, 0, 0, 0, []), (53, .if_icmp .eq 5, 3, 58, 0, 0, [])]
def s196_12 : List Ent := [(56, .iconst 0, 1, 0, 0, 0, [])]
def s196_13 : List Ent := [(57, .ireturn, 1, 1, 0, 0, [])]
def s196_14 : List Ent := [(58, .aload_n 0, 1, 0, 0, 0, []), (59, .dup, 1, 0, 0, 0, []), (60, .getfield 271, 3, 8, 18, 0, []), (63, .iconst 1, 1, 0, 0, 0, []), (64, .isub, 1, 0, 0, 0, []), (65, .putfield 271, 3, 8, 18, 0, []), (68, .aload_n 0, 1, 0, 0, 0, []), (69, .dup, 1, 0, 0, 0, []), (70, .getfield 261, 3, 8, 17, 0, []), (73, .iconst 1, 1, 0, 0, 0, []), (74, .iadd, 1, 0, 0, 0, []), (75, .putfield 261, 3, 8, 17, 0, []), (78, .iconst 1, 1, 0, 0, 0, [])]
def s196_15 : List Ent := [(79, .ireturn, 1, 1, 0, 0, [])]
def sg196 : List (List Ent) := [s196_0, s196_1, s196_2, s196_3, s196_4, s196_5, s196_6, s196_7, s196_8, s196_9, s196_10, s196_11, s196_12, s196_13, s196_14, s196_15]
theorem ch196 : chkM mi196.2.1 mi196.2.2.1 mi196.2.2.2 lkRX8 sg196 = true := by decide +kernel
def s197_0 : List Ent := [(0, .aload_n 0, 1, 0, 0, 0, [])]
def s197_1 : List Ent := [(1, .invokevirtual 264, 3, 193, 0, 8, [])]
def s197_2 : List Ent := [(4, .i2l, 1, 0, 0, 0, []), (5, .ldc2_w 277, 3, 0, 0, 0, [65]), (8, .bipush 65, 2, 0, 0, 0, []), (10, .aload_n 0, 1, 0, 0, 0, []), (11, .getfield 9, 3, 8, 0, 2, []), (14, .iconst 0, 1, 0, 0, 0, []), (15, .iaload, 1, 0, 0, 0, []), (16, .iadd, 1, 0, 0, 0, []), (17, .iconst 1, 1, 0, 0, 0, []), (18, .isub, 1, 0, 0, 0, []), (19, .i2l, 1, 0, 0, 0, [])]
def s197_3 : List Ent := [(20, .invokestatic 74, 3, 117, 3, 0, [])]
def s197_4 : List Ent := [(23, .ifCond .eq 15, 3, 38, 0, 0, [])]
def s197_5 : List Ent := [(26, .aload_n 0, 1, 0, 0, 0, []), (27, .dup, 1, 0, 0, 0, []), (28, .getfield 261, 3, 8, 17, 0, []), (31, .iconst 1, 1, 0, 0, 0, []), (32, .iadd, 1, 0, 0, 0, []), (33, .putfield 261, 3, 8, 17, 0, []), (36, .iconst 1, 1, 0, 0, 0, [])]
def s197_6 : List Ent := [(37, .ireturn, 1, 1, 0, 0, [])]
def s197_7 : List Ent := [(38, .aload_n 0, 1, 0, 0, 0, [])]
def s197_8 : List Ent := [(39, .invokevirtual 279, 3, 195, 0, 8, [])]
def s197_9 : List Ent := [(42, .ifCond .eq 35, 3, 77, 0, 0, [])]
def s197_10 : List Ent := [(45, .iconst 0, 1, 0, 0, 0, []), (46, .istore_n 1, 1, 0, 0, 0, [])]
def s197_11 : List Ent := [(47, .iload_n 1, 1, 0, 0, 0, []), (48, .iconst 3, 1, 0, 0, 0, []), (49, .if_icmp .ge 26, 3, 75, 0, 0, [])]
def s197_12 : List Ent := [(52, .aload_n 0, 1, 0, 0, 0, [])]
def s197_13 : List Ent := [(53, .invokevirtual 279, 3, 195, 0, 8, [])]
def s197_14 : List Ent := [(56, .ifCond .eq 19, 3, 75, 0, 0, [])]
def s197_15 : List Ent := [(59, .aload_n 0, 1, 0, 0, 0, []), (60, .dup, 1, 0, 0, 0, []), (61, .getfield 261, 3, 8, 17, 0, []), (64, .iconst 1, 1, 0, 0, 0, []), (65, .iadd, 1, 0, 0, 0, []), (66, .putfield 261, 3, 8, 17, 0, []), (69, .iinc 1 1, 3, 0, 0, 0, []), (72, .goto (-25), 3, 47, 0, 0, [])]
def s197_16 : List Ent := [(75, .iconst 1, 1, 0, 0, 0, [])]
def s197_17 : List Ent := [(76, .ireturn, 1, 1, 0, 0, [])]
def s197_18 : List Ent := [(77, .aload_n 0, 1, 0, 0, 0, [])]
def s197_19 : List Ent := [(78, .invokevirtual 264, 3, 193, 0, 8, [])]
def s197_20 : List Ent := [(81, .bipush 115, 2, 0, 0, 0, []), (83, .if_icmp .ne 24, 3, 107, 0, 0, [])]
def s197_21 : List Ent := [(86, .aload_n 0, 1, 0, 0, 0, []), (87, .getfield 271, 3, 8, 18, 0, []), (90, .bipush 6, 2, 0, 0, 0, []), (92, .if_icmp .ne 5, 3, 97, 0, 0, [])]
def s197_22 : List Ent := [(95, .iconst 0, 1, 0, 0, 0, [])]
def s197_23 : List Ent := [(96, .ireturn, 1, 1, 0, 0, [])]
def s197_24 : List Ent := [(97, .aload_n 0, 1, 0, 0, 0, []), (98, .dup, 1, 0, 0, 0, []), (99, .getfield 261, 3, 8, 17, 0, []), (102, .iconst 1, 1, 0, 0, 0, []), (103, .iadd, 1, 0, 0, 0, []), (104, .putfield 261, 3, 8, 17, 0, [])]
def s197_25 : List Ent := [(107, .aload_n 0, 1, 0, 0, 0, [])]
def s197_26 : List Ent := [(108, .invokevirtual 282, 3, 196, 0, 8, [])]
def s197_27 : List Ent := [(111, .ireturn, 1, 1, 0, 0, [])]
def sg197 : List (List Ent) := [s197_0, s197_1, s197_2, s197_3, s197_4, s197_5, s197_6, s197_7, s197_8, s197_9, s197_10, s197_11, s197_12, s197_13, s197_14, s197_15, s197_16, s197_17, s197_18, s197_19, s197_20, s197_21, s197_22, s197_23, s197_24, s197_25, s197_26, s197_27]
theorem ch197 : chkM mi197.2.1 mi197.2.2.1 mi197.2.2.2 lkRX8 sg197 = true := by decide +kernel
def s198_0 : List Ent := [(0, .aload_n 0, 1, 0, 0, 0, [])]
def s198_1 : List Ent := [(1, .invokevirtual 285, 3, 197, 0, 8, [])]
def s198_2 : List Ent := [(4, .ifCond .ne 5, 3, 9, 0, 0, [])]
def s198_3 : List Ent := [(7, .iconst 0, 1, 0, 0, 0, [])]
def s198_4 : List Ent := [(8, .ireturn, 1, 1, 0, 0, [])]
def s198_5 : List Ent := [(9, .aload_n 0, 1, 0, 0, 0, [])]
def s198_6 : List Ent := [(10, .invokevirtual 264, 3, 193, 0, 8, [])]
def s198_7 : List Ent := [(13, .bipush 94, 2, 0, 0, 0, []), (15, .if_icmp .eq 5, 3, 20, 0, 0, [])]
def s198_8 : List Ent := [(18, .iconst 1, 1, 0, 0, 0, [])]
def s198_9 : List Ent := [(19, .ireturn, 1, 1, 0, 0, [])]
def s198_10 : List Ent := [(20, .aload_n 0, 1, 0, 0, 0, []), (21, .dup, 1, 0, 0, 0, []), (22, .getfield 261, 3, 8, 17, 0, []), (25, .iconst 1, 1, 0, 0, 0, []), (26, .iadd, 1, 0, 0, 0, []), (27, .putfield 261, 3, 8, 17, 0, []), (30, .aload_n 0, 1, 0, 0, 0, []), (31, .dup, 1, 0, 0, 0, []), (32, .getfield 261, 3, 8, 17, 0, []), (35, .aload_n 0, 1, 0, 0, 0, [])]
def s198_11 : List Ent := [(36, .invokevirtual 264, 3, 193, 0, 8, [])]
def s198_12 : List Ent := [(39, .bipush 45, 2, 0, 0, 0, []), (41, .if_icmp .ne 7, 3, 48, 0, 0, [])]
def s198_13 : List Ent := [(44, .iconst 1, 1, 0, 0, 0, []), (45, .goto 4, 3, 49, 0, 0, [])]
def s198_14 : List Ent := [(48, .iconst 0, 1, 0, 0, 0, [])]
def s198_15 : List Ent := [(49, .iadd, 1, 0, 0, 0, []), (50, .putfield 261, 3, 8, 17, 0, []), (53, .aload_n 0, 1, 0, 0, 0, [])]
def s198_16 : List Ent := [(54, .invokevirtual 279, 3, 195, 0, 8, [])]
def s198_17 : List Ent := [(57, .istore_n 1, 1, 0, 0, 0, []), (58, .aload_n 0, 1, 0, 0, 0, []), (59, .dup, 1, 0, 0, 0, []), (60, .getfield 261, 3, 8, 17, 0, []), (63, .iload_n 1, 1, 0, 0, 0, []), (64, .ifCond .eq 7, 3, 71, 0, 0, [])]
def s198_18 : List Ent := [(67, .iconst 1, 1, 0, 0, 0, []), (68, .goto 4, 3, 72, 0, 0, [])]
def s198_19 : List Ent := [(71, .iconst 0, 1, 0, 0, 0, [])]
def s198_20 : List Ent := [(72, .iadd, 1, 0, 0, 0, []), (73, .putfield 261, 3, 8, 17, 0, []), (76, .iload_n 1, 1, 0, 0, 0, [])]
def s198_21 : List Ent := [(77, .ireturn, 1, 1, 0, 0, [])]
def sg198 : List (List Ent) := [s198_0, s198_1, s198_2, s198_3, s198_4, s198_5, s198_6, s198_7, s198_8, s198_9, s198_10, s198_11, s198_12, s198_13, s198_14, s198_15, s198_16, s198_17, s198_18, s198_19, s198_20, s198_21]
theorem ch198 : chkM mi198.2.1 mi198.2.2.1 mi198.2.2.2 lkRX8 sg198 = true := by decide +kernel
def s199_0 : List Ent := [(0, .aload_n 0, 1, 0, 0, 0, []), (1, .dup, 1, 0, 0, 0, []), (2, .getfield 288, 3, 8, 19, 0, []), (5, .iconst 1, 1, 0, 0, 0, []), (6, .iadd, 1, 0, 0, 0, []), (7, .putfield 288, 3, 8, 19, 0, []), (10, .aload_n 0, 1, 0, 0, 0, [])]
def s199_1 : List Ent := [(11, .invokevirtual 291, 3, 198, 0, 8, [])]
def s199_2 : List Ent := [(14, .ifCond .ne 5, 3, 19, 0, 0, [])]
def s199_3 : List Ent := [(17, .iconst 0, 1, 0, 0, 0, [])]
def s199_4 : List Ent := [(18, .ireturn, 1, 1, 0, 0, [])]
def s199_5 : List Ent := [(19, .aload_n 0, 1, 0, 0, 0, []), (20, .bipush 42, 2, 0, 0, 0, []), (22, .bipush 47, 2, 0, 0, 0, [])]
def s199_6 : List Ent := [(24, .invokevirtual 294, 3, 194, 2, 8, [])]
def s199_7 : List Ent := [(27, .ifCond .eq 22, 3, 49, 0, 0, [])]
def s199_8 : List Ent := [(30, .aload_n 0, 1, 0, 0, 0, []), (31, .dup, 1, 0, 0, 0, []), (32, .getfield 261, 3, 8, 17, 0, []), (35, .iconst 1, 1, 0, 0, 0, []), (36, .iadd, 1, 0, 0, 0, []), (37, .putfield 261, 3, 8, 17, 0, []), (40, .aload_n 0, 1, 0, 0, 0, [])]
def s199_9 : List Ent := [(41, .invokevirtual 291, 3, 198, 0, 8, [])]
def s199_10 : List Ent := [(44, .ifCond .ne (-25), 3, 19, 0, 0, [])]
def s199_11 : List Ent := [(47, .iconst 0, 1, 0, 0, 0, [])]
def s199_12 : List Ent := [(48, .ireturn, 1, 1, 0, 0, [])]
def s199_13 : List Ent := [(49, .iconst 1, 1, 0, 0, 0, [])]
def s199_14 : List Ent := [(50, .ireturn, 1, 1, 0, 0, [])]
def sg199 : List (List Ent) := [s199_0, s199_1, s199_2, s199_3, s199_4, s199_5, s199_6, s199_7, s199_8, s199_9, s199_10, s199_11, s199_12, s199_13, s199_14]
theorem ch199 : chkM mi199.2.1 mi199.2.2.1 mi199.2.2.2 lkRX8 sg199 = true := by decide +kernel
def s200_0 : List Ent := [(0, .aload_n 0, 1, 0, 0, 0, [])]
def s200_1 : List Ent := [(1, .invokevirtual 297, 3, 199, 0, 8, [])]
def s200_2 : List Ent := [(4, .ifCond .ne 5, 3, 9, 0, 0, [])]
def s200_3 : List Ent := [(7, .iconst 0, 1, 0, 0, 0, [])]
def s200_4 : List Ent := [(8, .ireturn, 1, 1, 0, 0, [])]
def s200_5 : List Ent := [(9, .aload_n 0, 1, 0, 0, 0, []), (10, .bipush 43, 2, 0, 0, 0, []), (12, .bipush 45, 2, 0, 0, 0, [])]
def s200_6 : List Ent := [(14, .invokevirtual 294, 3, 194, 2, 8, [])]
def s200_7 : List Ent := [(17, .ifCond .eq 22, 3, 39, 0, 0, [])]
def s200_8 : List Ent := [(20, .aload_n 0, 1, 0, 0, 0, []), (21, .dup, 1, 0, 0, 0, []), (22, .getfield 261, 3, 8, 17, 0, []), (25, .iconst 1, 1, 0, 0, 0, []), (26, .iadd, 1, 0, 0, 0, []), (27, .putfield 261, 3, 8, 17, 0, []), (30, .aload_n 0, 1, 0, 0, 0, [])]
def s200_9 : List Ent := [(31, .invokevirtual 297, 3, 199, 0, 8, [])]
def s200_10 : List Ent := [(34, .ifCond .ne (-25), 3, 9, 0, 0, [])]
def s200_11 : List Ent := [(37, .iconst 0, 1, 0, 0, 0, [])]
def s200_12 : List Ent := [(38, .ireturn, 1, 1, 0, 0, [])]
def s200_13 : List Ent := [(39, .iconst 1, 1, 0, 0, 0, [])]
def s200_14 : List Ent := [(40, .ireturn, 1, 1, 0, 0, [])]
def sg200 : List (List Ent) := [s200_0, s200_1, s200_2, s200_3, s200_4, s200_5, s200_6, s200_7, s200_8, s200_9, s200_10, s200_11, s200_12, s200_13, s200_14]
theorem ch200 : chkM mi200.2.1 mi200.2.2.1 mi200.2.2.2 lkRX8 sg200 = true := by decide +kernel
def s201_0 : List Ent := [(0, .aload_n 0, 1, 0, 0, 0, [])]
def s201_1 : List Ent := [(1, .invokevirtual 274, 3, 200, 0, 8, [])]
def s201_2 : List Ent := [(4, .ifCond .eq 12, 3, 16, 0, 0, [])]
def s201_3 : List Ent := [(7, .aload_n 0, 1, 0, 0, 0, [])]
def s201_4 : List Ent := [(8, .invokevirtual 264, 3, 193, 0, 8, [])]
def s201_5 : List Ent := [(11, .bipush 61, 2, 0, 0, 0, []), (13, .if_icmp .eq 5, 3, 18, 0, 0, [])]
def s201_6 : List Ent := [(16, .iconst 0, 1, 0, 0, 0, [])]
def s201_7 : List Ent := [(17, .ireturn, 1, 1, 0, 0, [])]
def s201_8 : List Ent := [(18, .aload_n 0, 1, 0, 0, 0, []), (19, .dup, 1, 0, 0, 0, []), (20, .getfield 261, 3, 8, 17, 0, []), (23, .iconst 1, 1, 0, 0, 0, []), (24, .iadd, 1, 0, 0, 0, []), (25, .putfield 261, 3, 8, 17, 0, []), (28, .aload_n 0, 1, 0, 0, 0, [])]
def s201_9 : List Ent := [(29, .invokevirtual 274, 3, 200, 0, 8, [])]
def s201_10 : List Ent := [(32, .ifCond .eq 18, 3, 50, 0, 0, [])]
def s201_11 : List Ent := [(35, .aload_n 0, 1, 0, 0, 0, []), (36, .getfield 261, 3, 8, 17, 0, []), (39, .aload_n 0, 1, 0, 0, 0, []), (40, .getfield 82, 3, 8, 5, 0, []), (43, .if_icmp .ne 7, 3, 50, 0, 0, [])]
def s201_12 : List Ent := [(46, .iconst 1, 1, 0, 0, 0, []), (47, .goto 4, 3, 51, 0, 0, [])]
def s201_13 : List Ent := [(50, .iconst 0, 1, 0, 0, 0, [])]
def s201_14 : List Ent := [(51, .ireturn, 1, 1, 0, 0, [])]
def sg201 : List (List Ent) := [s201_0, s201_1, s201_2, s201_3, s201_4, s201_5, s201_6, s201_7, s201_8, s201_9, s201_10, s201_11, s201_12, s201_13, s201_14]
theorem ch201 : chkM mi201.2.1 mi201.2.2.1 mi201.2.2.2 lkRX8 sg201 = true := by decide +kernel
def s202_0 : List Ent := [(0, .aload_n 0, 1, 0, 0, 0, []), (1, .iconst 0, 1, 0, 0, 0, []), (2, .putfield 261, 3, 8, 17, 0, []), (5, .aload_n 0, 1, 0, 0, 0, []), (6, .iconst 0, 1, 0, 0, 0, []), (7, .putfield 271, 3, 8, 18, 0, []), (10, .aload_n 0, 1, 0, 0, 0, []), (11, .iconst 0, 1, 0, 0, 0, []), (12, .putfield 288, 3, 8, 19, 0, []), (15, .aload_n 0, 1, 0, 0, 0, [])]
def s202_1 : List Ent := [(16, .invokevirtual 300, 3, 201, 0, 8, [])]
def s202_2 : List Ent := [(19, .istore_n 1, 1, 0, 0, 0, []), (20, .iload_n 1, 1, 0, 0, 0, []), (21, .ifCond .eq 56, 3, 77, 0, 0, [])]
def s202_3 : List Ent := [(24, .aload_n 0, 1, 0, 0, 0, []), (25, .getfield 9, 3, 8, 0, 2, []), (28, .bipush 65, 2, 0, 0, 0, []), (30, .aload_n 0, 1, 0, 0, 0, []), (31, .getfield 288, 3, 8, 19, 0, []), (34, .iastore, 1, 0, 0, 0, []), (35, .aload_n 0, 1, 0, 0, 0, []), (36, .getfield 9, 3, 8, 0, 2, []), (39, .bipush 66, 2, 0, 0, 0, []), (41, .aload_n 0, 1, 0, 0, 0, []), (42, .getfield 82, 3, 8, 5, 0, []), (45, .iastore, 1, 0, 0, 0, []), (46, .iconst 0, 1, 0, 0, 0, []), (47, .istore_n 2, 1, 0, 0, 0, [])]
def s202_4 : List Ent := [(48, .iload_n 2, 1, 0, 0, 0, []), (49, .aload_n 0, 1, 0, 0, 0, []), (50, .getfield 82, 3, 8, 5, 0, []), (53, .if_icmp .ge 24, 3, 77, 0, 0, [])]
def s202_5 : List Ent := [(56, .aload_n 0, 1, 0, 0, 0, []), (57, .getfield 9, 3, 8, 0, 2, []), (60, .bipush 67, 2, 0, 0, 0, []), (62, .iload_n 2, 1, 0, 0, 0, []), (63, .iadd, 1, 0, 0, 0, []), (64, .aload_n 0, 1, 0, 0, 0, []), (65, .getfield 19, 3, 8, 4, 2, []), (68, .iload_n 2, 1, 0, 0, 0, []), (69, .iaload, 1, 0, 0, 0, []), (70, .iastore, 1, 0, 0, 0, []), (71, .iinc 2 1, 3, 0, 0, 0, []), (74, .goto (-26), 3, 48, 0, 0, [])]
def s202_6 : List Ent := [(77, .aload_n 0, 1, 0, 0, 0, []), (78, .iconst 0, 1, 0, 0, 0, []), (79, .putfield 82, 3, 8, 5, 0, []), (82, .iload_n 1, 1, 0, 0, 0, []), (83, .ifCond .eq 10, 3, 93, 0, 0, [])]
def s202_7 : List Ent := [(86, .aload_n 0, 1, 0, 0, 0, []), (87, .getfield 288, 3, 8, 19, 0, []), (90, .goto 11, 3, 101, 0, 0, [])]
def s202_8 : List Ent := [(93, .sipush (-1000), 3, 0, 0, 0, []), (96, .aload_n 0, 1, 0, 0, 0, []), (97, .getfield 261, 3, 8, 17, 0, []), (100, .isub, 1, 0, 0, 0, [])]
def s202_9 : List Ent := [(101, .ireturn, 1, 0, 0, 0, [])]
def sg202 : List (List Ent) := [s202_0, s202_1, s202_2, s202_3, s202_4, s202_5, s202_6, s202_7, s202_8, s202_9]
theorem ch202 : chkM mi202.2.1 mi202.2.2.1 mi202.2.2.2 lkRX8 sg202 = true := by decide +kernel
def s203_0 : List Ent := [(0, .aload_n 0, 1, 0, 0, 0, []), (1, .getfield 303, 3, 8, 23, 0, []), (4, .aload_n 0, 1, 0, 0, 0, []), (5, .getfield 9, 3, 8, 0, 2, []), (8, .bipush 66, 2, 0, 0, 0, []), (10, .iaload, 1, 0, 0, 0, []), (11, .if_icmp .ge 18, 3, 29, 0, 0, [])]
def s203_1 : List Ent := [(14, .aload_n 0, 1, 0, 0, 0, []), (15, .getfield 9, 3, 8, 0, 2, []), (18, .bipush 67, 2, 0, 0, 0, []), (20, .aload_n 0, 1, 0, 0, 0, []), (21, .getfield 303, 3, 8, 23, 0, []), (24, .iadd, 1, 0, 0, 0, []), (25, .iaload, 1, 0, 0, 0, []), (26, .goto 4, 3, 30, 0, 0, [])]
def s203_2 : List Ent := [(29, .iconst (-1), 1, 0, 0, 0, [])]
def s203_3 : List Ent := [(30, .ireturn, 1, 0, 0, 0, [])]
def sg203 : List (List Ent) := [s203_0, s203_1, s203_2, s203_3]
theorem ch203 : chkM mi203.2.1 mi203.2.2.1 mi203.2.2.2 lkRX8 sg203 = true := by decide +kernel
def s204_0 : List Ent := [(0, .iconst 0, 1, 0, 0, 0, []), (1, .istore_n 3, 1, 0, 0, 0, [])]
def s204_1 : List Ent := [(2, .iload_n 3, 1, 0, 0, 0, []), (3, .iconst 5, 1, 0, 0, 0, []), (4, .if_icmp .ge 20, 3, 24, 0, 0, [])]
def s204_2 : List Ent := [(7, .aload_n 0, 1, 0, 0, 0, []), (8, .getfield 53, 3, 8, 20, 2, []), (11, .iconst 5, 1, 0, 0, 0, []), (12, .iload_n 1, 1, 0, 0, 0, []), (13, .imul, 1, 0, 0, 0, []), (14, .iload_n 3, 1, 0, 0, 0, []), (15, .iadd, 1, 0, 0, 0, []), (16, .iload_n 2, 1, 0, 0, 0, []), (17, .iastore, 1, 0, 0, 0, []), (18, .iinc 3 1, 3, 0, 0, 0, []), (21, .goto (-19), 3, 2, 0, 0, [])]
def s204_3 : List Ent := [(24, .return_, 1, 0, 0, 0, [])]
def sg204 : List (List Ent) := [s204_0, s204_1, s204_2, s204_3]
theorem ch204 : chkM mi204.2.1 mi204.2.2.1 mi204.2.2.2 lkRX8 sg204 = true := by decide +kernel
def s205_0 : List Ent := [(0, .iconst 1, 1, 0, 0, 0, []), (1, .istore_n 2, 1, 0, 0, 0, []), (2, .iconst 0, 1, 0, 0, 0, []), (3, .istore_n 3, 1, 0, 0, 0, [])]
def s205_1 : List Ent := [(4, .iload_n 3, 1, 0, 0, 0, []), (5, .iconst 5, 1, 0, 0, 0, []), (6, .if_icmp .ge 30, 3, 36, 0, 0, [])]
def s205_2 : List Ent := [(9, .iload_n 2, 1, 0, 0, 0, []), (10, .aload_n 0, 1, 0, 0, 0, []), (11, .getfield 53, 3, 8, 20, 2, []), (14, .iconst 5, 1, 0, 0, 0, []), (15, .iload_n 1, 1, 0, 0, 0, []), (16, .imul, 1, 0, 0, 0, []), (17, .iload_n 3, 1, 0, 0, 0, []), (18, .iadd, 1, 0, 0, 0, []), (19, .iaload, 1, 0, 0, 0, []), (20, .ifCond .ne 7, 3, 27, 0, 0, [])]
def s205_3 : List Ent := [(23, .iconst 1, 1, 0, 0, 0, []), (24, .goto 4, 3, 28, 0, 0, [])]
def s205_4 : List Ent := [(27, .iconst 0, 1, 0, 0, 0, [])]
def s205_5 : List Ent := [(28, .iand, 1, 0, 0, 0, []), (29, .istore_n 2, 1, 0, 0, 0, []), (30, .iinc 3 1, 3, 0, 0, 0, []), (33, .goto (-29), 3, 4, 0, 0, [])]
def s205_6 : List Ent := [(36, .iload_n 2, 1, 0, 0, 0, [])]
def s205_7 : List Ent := [(37, .ireturn, 1, 1, 0, 0, [])]
def sg205 : List (List Ent) := [s205_0, s205_1, s205_2, s205_3, s205_4, s205_5, s205_6, s205_7]
theorem ch205 : chkM mi205.2.1 mi205.2.2.1 mi205.2.2.2 lkRX8 sg205 = true := by decide +kernel
def s206_0 : List Ent := [(0, .aload_n 0, 1, 0, 0, 0, [])]
def s206_1 : List Ent := [(1, .invokevirtual 306, 3, 203, 0, 8, [])]
def s206_2 : List Ent := [(4, .istore_n 2, 1, 0, 0, 0, []), (5, .aload_n 0, 1, 0, 0, 0, []), (6, .getfield 303, 3, 8, 23, 0, []), (9, .istore_n 3, 1, 0, 0, 0, []), (10, .aload_n 0, 1, 0, 0, 0, []), (11, .dup, 1, 0, 0, 0, []), (12, .getfield 303, 3, 8, 23, 0, []), (15, .iconst 1, 1, 0, 0, 0, []), (16, .iadd, 1, 0, 0, 0, []), (17, .putfield 303, 3, 8, 23, 0, []), (20, .aload_n 0, 1, 0, 0, 0, []), (21, .iload_n 1, 1, 0, 0, 0, []), (22, .iconst 0, 1, 0, 0, 0, [])]
def s206_3 : List Ent := [(23, .invokevirtual 309, 3, 204, 2, 8, [])]
def s206_4 : List Ent := [(26, .iload_n 2, 1, 0, 0, 0, []), (27, .i2l, 1, 0, 0, 0, []), (28, .ldc2_w 277, 3, 0, 0, 0, [65]), (31, .ldc2_w 312, 3, 0, 0, 0, [90])]
def s206_5 : List Ent := [(34, .invokestatic 74, 3, 117, 3, 0, [])]
def s206_6 : List Ent := [(37, .ifCond .eq 57, 3, 94, 0, 0, [])]
def s206_7 : List Ent := [(40, .aload_n 0, 1, 0, 0, 0, []), (41, .dup, 1, 0, 0, 0, []), (42, .getfield 314, 3, 8, 24, 0, []), (45, .iconst 1, 1, 0, 0, 0, []), (46, .iload_n 2, 1, 0, 0, 0, []), (47, .bipush 65, 2, 0, 0, 0, []), (49, .isub, 1, 0, 0, 0, []), (50, .ishl, 1, 0, 0, 0, []), (51, .ior, 1, 0, 0, 0, []), (52, .putfield 314, 3, 8, 24, 0, []), (55, .iconst 0, 1, 0, 0, 0, []), (56, .istore 4, 2, 0, 0, 0, [])]
def s206_8 : List Ent := [(58, .iload 4, 2, 0, 0, 0, []), (60, .iconst 5, 1, 0, 0, 0, []), (61, .if_icmp .ge 30, 3, 91, 0, 0, [])]
def s206_9 : List Ent := [(64, .aload_n 0, 1, 0, 0, 0, []), (65, .getfield 53, 3, 8, 20, 2, []), (68, .iconst 5, 1, 0, 0, 0, []), (69, .iload_n 1, 1, 0, 0, 0, []), (70, .imul, 1, 0, 0, 0, []), (71, .iload 4, 2, 0, 0, 0, []), (73, .iadd, 1, 0, 0, 0, []), (74, .aload_n 0, 1, 0, 0, 0, []), (75, .iload_n 2, 1, 0, 0, 0, []), (76, .bipush 65, 2, 0, 0, 0, []), (78, .isub, 1, 0, 0, 0, []), (79, .iload 4, 2, 0, 0, 0, [])]
def s206_10 : List Ent := [(81, .invokevirtual 105, 3, 134, 2, 8, [])]
def s206_11 : List Ent := [(84, .iastore, 1, 0, 0, 0, []), (85, .iinc 4 1, 3, 0, 0, 0, []), (88, .goto (-30), 3, 58, 0, 0, [])]
def s206_12 : List Ent := [(91, .goto 119, 3, 210, 0, 0, [])]
def s206_13 : List Ent := [(94, .iload_n 2, 1, 0, 0, 0, []), (95, .bipush 40, 2, 0, 0, 0, []), (97, .if_icmp .ne 21, 3, 118, 0, 0, [])]
def s206_14 : List Ent := [(100, .aload_n 0, 1, 0, 0, 0, []), (101, .iload_n 1, 1, 0, 0, 0, [])]
def s206_15 : List Ent := [(102, .invokevirtual 317, 3, 209, 1, 8, [])]
def s206_16 : List Ent := [(105, .aload_n 0, 1, 0, 0, 0, []), (106, .dup, 1, 0, 0, 0, []), (107, .getfield 303, 3, 8, 23, 0, []), (110, .iconst 1, 1, 0, 0, 0, []), (111, .iadd, 1, 0, 0, 0, []), (112, .putfield 303, 3, 8, 23, 0, []), (115, .goto 95, 3, 210, 0, 0, [])]
def s206_17 : List Ent := [(118, .iload_n 2, 1, 0, 0, 0, []), (119, .bipush 115, 2, 0, 0, 0, []), (121, .if_icmp .ne 59, 3, 180, 0, 0, [])]
def s206_18 : List Ent := [(124, .aload_n 0, 1, 0, 0, 0, []), (125, .dup, 1, 0, 0, 0, []), (126, .getfield 303, 3, 8, 23, 0, []), (129, .iconst 1, 1, 0, 0, 0, []), (130, .iadd, 1, 0, 0, 0, []), (131, .putfield 303, 3, 8, 23, 0, []), (134, .aload_n 0, 1, 0, 0, 0, []), (135, .iload_n 1, 1, 0, 0, 0, [])]
def s206_19 : List Ent := [(136, .invokevirtual 317, 3, 209, 1, 8, [])]
def s206_20 : List Ent := [(139, .aload_n 0, 1, 0, 0, 0, []), (140, .dup, 1, 0, 0, 0, []), (141, .getfield 303, 3, 8, 23, 0, []), (144, .iconst 1, 1, 0, 0, 0, []), (145, .iadd, 1, 0, 0, 0, []), (146, .putfield 303, 3, 8, 23, 0, []), (149, .aload_n 0, 1, 0, 0, 0, []), (150, .getfield 59, 3, 8, 22, 2, []), (153, .iload_n 3, 1, 0, 0, 0, []), (154, .dup2, 1, 0, 0, 0, []), (155, .baload, 1, 0, 0, 0, []), (156, .aload_n 0, 1, 0, 0, 0, []), (157, .iload_n 1, 1, 0, 0, 0, [])]
def s206_21 : List Ent := [(158, .invokevirtual 320, 3, 205, 1, 8, [])]
def s206_22 : List Ent := [(161, .ifCond .ne 7, 3, 168, 0, 0, [])]
def s206_23 : List Ent := [(164, .iconst 1, 1, 0, 0, 0, []), (165, .goto 4, 3, 169, 0, 0, [])]
def s206_24 : List Ent := [(168, .iconst 0, 1, 0, 0, 0, [])]
def s206_25 : List Ent := [(169, .ior, 1, 0, 0, 0, []), (170, .bastore, 1, 0, 0, 0, []), (171, .aload_n 0, 1, 0, 0, 0, []), (172, .iload_n 1, 1, 0, 0, 0, []), (173, .iconst 0, 1, 0, 0, 0, [])]
def s206_26 : List Ent := [(174, .invokevirtual 309, 3, 204, 2, 8, [])]
def s206_27 : List Ent := [(177, .goto 33, 3, 210, 0, 0, [])]
def s206_28 : List Ent := [(180, .aload_n 0, 1, 0, 0, 0, [])]
def s206_29 : List Ent := [(181, .invokevirtual 306, 3, 203, 0, 8, [])]
def s206_30 : List Ent := [(184, .i2l, 1, 0, 0, 0, []), (185, .ldc2_w 267, 3, 0, 0, 0, [48]), (188, .ldc2_w 269, 3, 0, 0, 0, [57])]
def s206_31 : List Ent := [(191, .invokestatic 74, 3, 117, 3, 0, [])]
def s206_32 : List Ent := [(194, .ifCond .eq 16, 3, 210, 0, 0, [])]
def s206_33 : List Ent := [(197, .aload_n 0, 1, 0, 0, 0, []), (198, .dup, 1, 0, 0, 0, []), (199, .getfield 303, 3, 8, 23, 0, []), (202, .iconst 1, 1, 0, 0, 0, []), (203, .iadd, 1, 0, 0, 0, []), (204, .putfield 303, 3, 8, 23, 0, []), (207, .goto (-27), 3, 180, 0, 0, [])]
def s206_34 : List Ent := [(210, .return_, 1, 0, 0, 0, [])]
def sg206 : List (List Ent) := [s206_0, s206_1, s206_2, s206_3, s206_4, s206_5, s206_6, s206_7, s206_8, s206_9, s206_10, s206_11, s206_12, s206_13, s206_14, s206_15, s206_16, s206_17, s206_18, s206_19, s206_20, s206_21, s206_22, s206_23, s206_24, s206_25, s206_26, s206_27, s206_28, s206_29, s206_30, s206_31, s206_32, s206_33, s206_34]
theorem ch206 : chkM mi206.2.1 mi206.2.2.1 mi206.2.2.2 lkRX8 sg206 = true := by decide +kernel
def s207_0 : List Ent := [(0, .aload_n 0, 1, 0, 0, 0, []), (1, .iload_n 1, 1, 0, 0, 0, [])]
def s207_1 : List Ent := [(2, .invokevirtual 323, 3, 206, 1, 8, [])]
def s207_2 : List Ent := [(5, .aload_n 0, 1, 0, 0, 0, [])]
def s207_3 : List Ent := [(6, .invokevirtual 306, 3, 203, 0, 8, [])]
def s207_4 : List Ent := [(9, .bipush 94, 2, 0, 0, 0, []), (11, .if_icmp .eq 4, 3, 15, 0, 0, [])]
def s207_5 : List Ent := [(14, .return_, 1, 0, 0, 0, [])]
def s207_6 : List Ent := [(15, .aload_n 0, 1, 0, 0, 0, []), (16, .dup, 1, 0, 0, 0, []), (17, .getfield 303, 3, 8, 23, 0, []), (20, .iconst 1, 1, 0, 0, 0, []), (21, .iadd, 1, 0, 0, 0, []), (22, .putfield 303, 3, 8, 23, 0, []), (25, .aload_n 0, 1, 0, 0, 0, [])]
def s207_7 : List Ent := [(26, .invokevirtual 306, 3, 203, 0, 8, [])]
def s207_8 : List Ent := [(29, .bipush 45, 2, 0, 0, 0, []), (31, .if_icmp .ne 7, 3, 38, 0, 0, [])]
def s207_9 : List Ent := [(34, .iconst (-1), 1, 0, 0, 0, []), (35, .goto 4, 3, 39, 0, 0, [])]
def s207_10 : List Ent := [(38, .iconst 1, 1, 0, 0, 0, [])]
def s207_11 : List Ent := [(39, .istore_n 2, 1, 0, 0, 0, []), (40, .aload_n 0, 1, 0, 0, 0, []), (41, .dup, 1, 0, 0, 0, []), (42, .getfield 303, 3, 8, 23, 0, []), (45, .iload_n 2, 1, 0, 0, 0, []), (46, .ifCond .ge 7, 3, 53, 0, 0, [])]
def s207_12 : List Ent := [(49, .iconst 1, 1, 0, 0, 0, []), (50, .goto 4, 3, 54, 0, 0, [])]
def s207_13 : List Ent := [(53, .iconst 0, 1, 0, 0, 0, [])]
def s207_14 : List Ent := [(54, .iadd, 1, 0, 0, 0, []), (55, .putfield 303, 3, 8, 23, 0, []), (58, .iload_n 2, 1, 0, 0, 0, []), (59, .aload_n 0, 1, 0, 0, 0, [])]
def s207_15 : List Ent := [(60, .invokevirtual 306, 3, 203, 0, 8, [])]
def s207_16 : List Ent := [(63, .bipush 48, 2, 0, 0, 0, []), (65, .isub, 1, 0, 0, 0, []), (66, .imul, 1, 0, 0, 0, []), (67, .istore_n 2, 1, 0, 0, 0, []), (68, .aload_n 0, 1, 0, 0, 0, []), (69, .dup, 1, 0, 0, 0, []), (70, .getfield 303, 3, 8, 23, 0, []), (73, .iconst 1, 1, 0, 0, 0, []), (74, .iadd, 1, 0, 0, 0, []), (75, .putfield 303, 3, 8, 23, 0, []), (78, .iconst 0, 1, 0, 0, 0, []), (79, .istore_n 3, 1, 0, 0, 0, [])]
def s207_17 : List Ent := [(80, .iload_n 3, 1, 0, 0, 0, []), (81, .iconst 5, 1, 0, 0, 0, []), (82, .if_icmp .ge 23, 3, 105, 0, 0, [])]
def s207_18 : List Ent := [(85, .aload_n 0, 1, 0, 0, 0, []), (86, .getfield 53, 3, 8, 20, 2, []), (89, .iconst 5, 1, 0, 0, 0, []), (90, .iload_n 1, 1, 0, 0, 0, []), (91, .imul, 1, 0, 0, 0, []), (92, .iload_n 3, 1, 0, 0, 0, []), (93, .iadd, 1, 0, 0, 0, []), (94, .dup2, 1, 0, 0, 0, []), (95, .iaload, 1, 0, 0, 0, []), (96, .iload_n 2, 1, 0, 0, 0, []), (97, .imul, 1, 0, 0, 0, []), (98, .iastore, 1, 0, 0, 0, []), (99, .iinc 3 1, 3, 0, 0, 0, []), (102, .goto (-22), 3, 80, 0, 0, [])]
def s207_19 : List Ent := [(105, .return_, 1, 0, 0, 0, [])]
def sg207 : List (List Ent) := [s207_0, s207_1, s207_2, s207_3, s207_4, s207_5, s207_6, s207_7, s207_8, s207_9, s207_10, s207_11, s207_12, s207_13, s207_14, s207_15, s207_16, s207_17, s207_18, s207_19]
theorem ch207 : chkM mi207.2.1 mi207.2.2.1 mi207.2.2.2 lkRX8 sg207 = true := by decide +kernel
def s208_0 : List Ent := [(0, .aload_n 0, 1, 0, 0, 0, []), (1, .iload_n 1, 1, 0, 0, 0, [])]
def s208_1 : List Ent := [(2, .invokevirtual 326, 3, 207, 1, 8, [])]
def s208_2 : List Ent := [(5, .aload_n 0, 1, 0, 0, 0, [])]
def s208_3 : List Ent := [(6, .invokevirtual 306, 3, 203, 0, 8, [])]
def s208_4 : List Ent := [(9, .bipush 42, 2, 0, 0, 0, []), (11, .if_icmp .eq 12, 3, 23, 0, 0, [])]
def s208_5 : List Ent := [(14, .aload_n 0, 1, 0, 0, 0, [])]
def s208_6 : List Ent := [(15, .invokevirtual 306, 3, 203, 0, 8, [])]
def s208_7 : List Ent := [(18, .bipush 47, 2, 0, 0, 0, []), (20, .if_icmp .ne 78, 3, 98, 0, 0, [])]
def s208_8 : List Ent := [(23, .aload_n 0, 1, 0, 0, 0, [])]
def s208_9 : List Ent := [(24, .invokevirtual 306, 3, 203, 0, 8, [])]
def s208_10 : List Ent := [(27, .bipush 42, 2, 0, 0, 0, []), (29, .if_icmp .ne 7, 3, 36, 0, 0, [])]
def s208_11 : List Ent := [(32, .iconst 1, 1, 0, 0, 0, []), (33, .goto 4, 3, 37, 0, 0, [])]
def s208_12 : List Ent := [(36, .iconst (-1), 1, 0, 0, 0, [])]
def s208_13 : List Ent := [(37, .istore_n 2, 1, 0, 0, 0, []), (38, .aload_n 0, 1, 0, 0, 0, []), (39, .dup, 1, 0, 0, 0, []), (40, .getfield 303, 3, 8, 23, 0, []), (43, .iconst 1, 1, 0, 0, 0, []), (44, .iadd, 1, 0, 0, 0, []), (45, .putfield 303, 3, 8, 23, 0, []), (48, .aload_n 0, 1, 0, 0, 0, []), (49, .iload_n 1, 1, 0, 0, 0, []), (50, .iconst 1, 1, 0, 0, 0, []), (51, .iadd, 1, 0, 0, 0, [])]
def s208_14 : List Ent := [(52, .invokevirtual 326, 3, 207, 1, 8, [])]
def s208_15 : List Ent := [(55, .iconst 0, 1, 0, 0, 0, []), (56, .istore_n 3, 1, 0, 0, 0, [])]
def s208_16 : List Ent := [(57, .iload_n 3, 1, 0, 0, 0, []), (58, .iconst 5, 1, 0, 0, 0, []), (59, .if_icmp .ge 36, 3, 95, 0, 0, [])]
def s208_17 : List Ent := [(62, .aload_n 0, 1, 0, 0, 0, []), (63, .getfield 53, 3, 8, 20, 2, []), (66, .iconst 5, 1, 0, 0, 0, []), (67, .iload_n 1, 1, 0, 0, 0, []), (68, .imul, 1, 0, 0, 0, []), (69, .iload_n 3, 1, 0, 0, 0, []), (70, .iadd, 1, 0, 0, 0, []), (71, .dup2, 1, 0, 0, 0, []), (72, .iaload, 1, 0, 0, 0, []), (73, .iload_n 2, 1, 0, 0, 0, []), (74, .aload_n 0, 1, 0, 0, 0, []), (75, .getfield 53, 3, 8, 20, 2, []), (78, .iconst 5, 1, 0, 0, 0, []), (79, .iload_n 1, 1, 0, 0, 0, []), (80, .iconst 1, 1, 0, 0, 0, []), (81, .iadd, 1, 0, 0, 0, []), (82, .imul, 1, 0, 0, 0, []), (83, .iload_n 3, 1, 0, 0, 0, []), (84, .iadd, 1, 0, 0, 0, []), (85, .iaload, 1, 0, 0, 0, []), (86, .imul, 1, 0, 0, 0, []), (87, .iadd, 1, 0, 0, 0, []), (88, .iastore, 1, 0, 0, 0, []), (89, .iinc 3 1, 3, 0, 0, 0, []), (92, .goto (-35), 3, 57, 0, 0, [])]
def s208_18 : List Ent := [(95, .goto (-90), 3, 5, 0, 0, [])]
def s208_19 : List Ent := [(98, .return_, 1, 0, 0, 0, [])]
def sg208 : List (List Ent) := [s208_0, s208_1, s208_2, s208_3, s208_4, s208_5, s208_6, s208_7, s208_8, s208_9, s208_10, s208_11, s208_12, s208_13, s208_14, s208_15, s208_16, s208_17, s208_18, s208_19]
theorem ch208 : chkM mi208.2.1 mi208.2.2.1 mi208.2.2.2 lkRX8 sg208 = true := by decide +kernel
def s209_0 : List Ent := [(0, .aload_n 0, 1, 0, 0, 0, []), (1, .iload_n 1, 1, 0, 0, 0, [])]
def s209_1 : List Ent := [(2, .invokevirtual 329, 3, 208, 1, 8, [])]
def s209_2 : List Ent := [(5, .aload_n 0, 1, 0, 0, 0, [])]
def s209_3 : List Ent := [(6, .invokevirtual 306, 3, 203, 0, 8, [])]
def s209_4 : List Ent := [(9, .bipush 43, 2, 0, 0, 0, []), (11, .if_icmp .eq 12, 3, 23, 0, 0, [])]
def s209_5 : List Ent := [(14, .aload_n 0, 1, 0, 0, 0, [])]
def s209_6 : List Ent := [(15, .invokevirtual 306, 3, 203, 0, 8, [])]
def s209_7 : List Ent := [(18, .bipush 45, 2, 0, 0, 0, []), (20, .if_icmp .ne 80, 3, 100, 0, 0, [])]
def s209_8 : List Ent := [(23, .aload_n 0, 1, 0, 0, 0, []), (24, .dup, 1, 0, 0, 0, []), (25, .getfield 303, 3, 8, 23, 0, []), (28, .iconst 1, 1, 0, 0, 0, []), (29, .iadd, 1, 0, 0, 0, []), (30, .putfield 303, 3, 8, 23, 0, []), (33, .aload_n 0, 1, 0, 0, 0, []), (34, .getfield 303, 3, 8, 23, 0, []), (37, .istore_n 2, 1, 0, 0, 0, []), (38, .aload_n 0, 1, 0, 0, 0, []), (39, .iload_n 1, 1, 0, 0, 0, []), (40, .iconst 1, 1, 0, 0, 0, []), (41, .iadd, 1, 0, 0, 0, [])]
def s209_9 : List Ent := [(42, .invokevirtual 329, 3, 208, 1, 8, [])]
def s209_10 : List Ent := [(45, .iconst 0, 1, 0, 0, 0, []), (46, .istore_n 3, 1, 0, 0, 0, [])]
def s209_11 : List Ent := [(47, .iload_n 3, 1, 0, 0, 0, []), (48, .iconst 5, 1, 0, 0, 0, []), (49, .if_icmp .ge 48, 3, 97, 0, 0, [])]
def s209_12 : List Ent := [(52, .aload_n 0, 1, 0, 0, 0, []), (53, .getfield 59, 3, 8, 22, 2, []), (56, .iload_n 2, 1, 0, 0, 0, []), (57, .dup2, 1, 0, 0, 0, []), (58, .baload, 1, 0, 0, 0, []), (59, .aload_n 0, 1, 0, 0, 0, []), (60, .getfield 53, 3, 8, 20, 2, []), (63, .iconst 5, 1, 0, 0, 0, []), (64, .iload_n 1, 1, 0, 0, 0, []), (65, .imul, 1, 0, 0, 0, []), (66, .iload_n 3, 1, 0, 0, 0, []), (67, .iadd, 1, 0, 0, 0, []), (68, .iaload, 1, 0, 0, 0, []), (69, .aload_n 0, 1, 0, 0, 0, []), (70, .getfield 53, 3, 8, 20, 2, []), (73, .iconst 5, 1, 0, 0, 0, []), (74, .iload_n 1, 1, 0, 0, 0, []), (75, .iconst 1, 1, 0, 0, 0, []), (76, .iadd, 1, 0, 0, 0, []), (77, .imul, 1, 0, 0, 0, []), (78, .iload_n 3, 1, 0, 0, 0, []), (79, .iadd, 1, 0, 0, 0, []), (80, .iaload, 1, 0, 0, 0, []), (81, .if_icmp .eq 7, 3, 88, 0, 0, [])]
def s209_13 : List Ent := [(84, .iconst 1, 1, 0, 0, 0, []), (85, .goto 4, 3, 89, 0, 0, [])]
def s209_14 : List Ent := [(88, .iconst 0, 1, 0, 0, 0, [])]
def s209_15 : List Ent := [(89, .ior, 1, 0, 0, 0, []), (90, .bastore, 1, 0, 0, 0, []), (91, .iinc 3 1, 3, 0, 0, 0, []), (94, .goto (-47), 3, 47, 0, 0, [])]
def s209_16 : List Ent := [(97, .goto (-92), 3, 5, 0, 0, [])]
def s209_17 : List Ent := [(100, .return_, 1, 0, 0, 0, [])]
def sg209 : List (List Ent) := [s209_0, s209_1, s209_2, s209_3, s209_4, s209_5, s209_6, s209_7, s209_8, s209_9, s209_10, s209_11, s209_12, s209_13, s209_14, s209_15, s209_16, s209_17]
theorem ch209 : chkM mi209.2.1 mi209.2.2.1 mi209.2.2.2 lkRX8 sg209 = true := by decide +kernel
def s210_0 : List Ent := [(0, .iconst 0, 1, 0, 0, 0, []), (1, .istore_n 1, 1, 0, 0, 0, [])]
def s210_1 : List Ent := [(2, .iload_n 1, 1, 0, 0, 0, []), (3, .bipush 72, 2, 0, 0, 0, []), (5, .if_icmp .ge 16, 3, 21, 0, 0, [])]
def s210_2 : List Ent := [(8, .aload_n 0, 1, 0, 0, 0, []), (9, .getfield 59, 3, 8, 22, 2, []), (12, .iload_n 1, 1, 0, 0, 0, []), (13, .iconst 0, 1, 0, 0, 0, []), (14, .bastore, 1, 0, 0, 0, []), (15, .iinc 1 1, 3, 0, 0, 0, []), (18, .goto (-16), 3, 2, 0, 0, [])]
def s210_3 : List Ent := [(21, .aload_n 0, 1, 0, 0, 0, []), (22, .iconst 0, 1, 0, 0, 0, []), (23, .putfield 303, 3, 8, 23, 0, []), (26, .aload_n 0, 1, 0, 0, 0, []), (27, .iconst 0, 1, 0, 0, 0, []), (28, .putfield 314, 3, 8, 24, 0, []), (31, .iconst 0, 1, 0, 0, 0, []), (32, .istore_n 1, 1, 0, 0, 0, [])]
def s210_4 : List Ent := [(33, .iload_n 1, 1, 0, 0, 0, []), (34, .iconst 2, 1, 0, 0, 0, []), (35, .if_icmp .ge 65, 3, 100, 0, 0, [])]
def s210_5 : List Ent := [(38, .aload_n 0, 1, 0, 0, 0, []), (39, .iconst 0, 1, 0, 0, 0, [])]
def s210_6 : List Ent := [(40, .invokevirtual 317, 3, 209, 1, 8, [])]
def s210_7 : List Ent := [(43, .iconst 0, 1, 0, 0, 0, []), (44, .istore_n 2, 1, 0, 0, 0, [])]
def s210_8 : List Ent := [(45, .iload_n 2, 1, 0, 0, 0, []), (46, .iconst 5, 1, 0, 0, 0, []), (47, .if_icmp .ge 25, 3, 72, 0, 0, [])]
def s210_9 : List Ent := [(50, .aload_n 0, 1, 0, 0, 0, []), (51, .getfield 56, 3, 8, 21, 2, []), (54, .iconst 5, 1, 0, 0, 0, []), (55, .iload_n 1, 1, 0, 0, 0, []), (56, .imul, 1, 0, 0, 0, []), (57, .iload_n 2, 1, 0, 0, 0, []), (58, .iadd, 1, 0, 0, 0, []), (59, .aload_n 0, 1, 0, 0, 0, []), (60, .getfield 53, 3, 8, 20, 2, []), (63, .iload_n 2, 1, 0, 0, 0, []), (64, .iaload, 1, 0, 0, 0, []), (65, .iastore, 1, 0, 0, 0, []), (66, .iinc 2 1, 3, 0, 0, 0, []), (69, .goto (-24), 3, 45, 0, 0, [])]
def s210_10 : List Ent := [(72, .iload_n 1, 1, 0, 0, 0, []), (73, .ifCond .ne 11, 3, 84, 0, 0, [])]
def s210_11 : List Ent := [(76, .aload_n 0, 1, 0, 0, 0, []), (77, .aload_n 0, 1, 0, 0, 0, []), (78, .getfield 303, 3, 8, 23, 0, []), (81, .putfield 332, 3, 8, 25, 0, [])]
def s210_12 : List Ent := [(84, .aload_n 0, 1, 0, 0, 0, []), (85, .dup, 1, 0, 0, 0, []), (86, .getfield 303, 3, 8, 23, 0, []), (89, .iconst 1, 1, 0, 0, 0, []), (90, .iadd, 1, 0, 0, 0, []), (91, .putfield 303, 3, 8, 23, 0, []), (94, .iinc 1 1, 3, 0, 0, 0, []), (97, .goto (-64), 3, 33, 0, 0, [])]
def s210_13 : List Ent := [(100, .iconst 0, 1, 0, 0, 0, []), (101, .istore_n 1, 1, 0, 0, 0, [])]
def s210_14 : List Ent := [(102, .iload_n 1, 1, 0, 0, 0, []), (103, .iconst 5, 1, 0, 0, 0, []), (104, .if_icmp .ge 43, 3, 147, 0, 0, [])]
def s210_15 : List Ent := [(107, .aload_n 0, 1, 0, 0, 0, []), (108, .getfield 59, 3, 8, 22, 2, []), (111, .aload_n 0, 1, 0, 0, 0, []), (112, .getfield 332, 3, 8, 25, 0, []), (115, .dup2, 1, 0, 0, 0, []), (116, .baload, 1, 0, 0, 0, []), (117, .aload_n 0, 1, 0, 0, 0, []), (118, .getfield 56, 3, 8, 21, 2, []), (121, .iload_n 1, 1, 0, 0, 0, []), (122, .iaload, 1, 0, 0, 0, []), (123, .aload_n 0, 1, 0, 0, 0, []), (124, .getfield 56, 3, 8, 21, 2, []), (127, .iconst 5, 1, 0, 0, 0, []), (128, .iload_n 1, 1, 0, 0, 0, []), (129, .iadd, 1, 0, 0, 0, []), (130, .iaload, 1, 0, 0, 0, []), (131, .if_icmp .eq 7, 3, 138, 0, 0, [])]
def s210_16 : List Ent := [(134, .iconst 1, 1, 0, 0, 0, []), (135, .goto 4, 3, 139, 0, 0, [])]
def s210_17 : List Ent := [(138, .iconst 0, 1, 0, 0, 0, [])]
def s210_18 : List Ent := [(139, .ior, 1, 0, 0, 0, []), (140, .bastore, 1, 0, 0, 0, []), (141, .iinc 1 1, 3, 0, 0, 0, []), (144, .goto (-42), 3, 102, 0, 0, [])]
def s210_19 : List Ent := [(147, .return_, 1, 0, 0, 0, [])]
def sg210 : List (List Ent) := [s210_0, s210_1, s210_2, s210_3, s210_4, s210_5, s210_6, s210_7, s210_8, s210_9, s210_10, s210_11, s210_12, s210_13, s210_14, s210_15, s210_16, s210_17, s210_18, s210_19]
theorem ch210 : chkM mi210.2.1 mi210.2.2.1 mi210.2.2.2 lkRX8 sg210 = true := by decide +kernel
def s211_0 : List Ent := [(0, .iload_n 1, 1, 0, 0, 0, []), (1, .i2l, 1, 0, 0, 0, []), (2, .lconst 0, 1, 0, 0, 0, []), (3, .ldc2_w 80, 3, 0, 0, 0, [2])]
def s211_1 : List Ent := [(6, .invokestatic 74, 3, 117, 3, 0, [])]
def s211_2 : List Ent := [(9, .ifCond .ne 9, 3, 18, 0, 0, [])]
def s211_3 : List Ent := [(12, .aload_n 0, 1, 0, 0, 0, []), (13, .iconst 2, 1, 0, 0, 0, [])]
def s211_4 : List Ent := [(14, .invokevirtual 64, 3, 120, 1, 8, [])]
def s211_5 : List Ent := [(17, .ireturn, 1, 0, 0, 0, [])]
def s211_6 : List Ent := [(18, .aload_n 0, 1, 0, 0, 0, []), (19, .getfield 9, 3, 8, 0, 2, []), (22, .bipush 66, 2, 0, 0, 0, []), (24, .iaload, 1, 0, 0, 0, []), (25, .ifCond .ne 9, 3, 34, 0, 0, [])]
def s211_7 : List Ent := [(28, .aload_n 0, 1, 0, 0, 0, []), (29, .iconst 3, 1, 0, 0, 0, [])]
def s211_8 : List Ent := [(30, .invokevirtual 64, 3, 120, 1, 8, [])]
def s211_9 : List Ent := [(33, .ireturn, 1, 0, 0, 0, [])]
def s211_10 : List Ent := [(34, .aload_n 0, 1, 0, 0, 0, [])]
def s211_11 : List Ent := [(35, .invokevirtual 335, 3, 210, 0, 8, [])]
def s211_12 : List Ent := [(38, .iconst 0, 1, 0, 0, 0, []), (39, .istore_n 2, 1, 0, 0, 0, []), (40, .bipush (-9), 2, 0, 0, 0, []), (42, .istore_n 3, 1, 0, 0, 0, []), (43, .bipush 71, 2, 0, 0, 0, []), (45, .istore 4, 2, 0, 0, 0, [])]
def s211_13 : List Ent := [(47, .iload 4, 2, 0, 0, 0, []), (49, .ifCond .lt 44, 3, 93, 0, 0, [])]
def s211_14 : List Ent := [(52, .iload_n 2, 1, 0, 0, 0, []), (53, .aload_n 0, 1, 0, 0, 0, []), (54, .getfield 59, 3, 8, 22, 2, []), (57, .iload 4, 2, 0, 0, 0, []), (59, .baload, 1, 0, 0, 0, []), (60, .ifCond .eq 7, 3, 67, 0, 0, [])]
def s211_15 : List Ent := [(63, .iconst 1, 1, 0, 0, 0, []), (64, .goto 4, 3, 68, 0, 0, [])]
def s211_16 : List Ent := [(67, .iconst 0, 1, 0, 0, 0, [])]
def s211_17 : List Ent := [(68, .iadd, 1, 0, 0, 0, []), (69, .istore_n 2, 1, 0, 0, 0, []), (70, .aload_n 0, 1, 0, 0, 0, []), (71, .getfield 59, 3, 8, 22, 2, []), (74, .iload 4, 2, 0, 0, 0, []), (76, .baload, 1, 0, 0, 0, []), (77, .ifCond .eq 8, 3, 85, 0, 0, [])]
def s211_18 : List Ent := [(80, .iload 4, 2, 0, 0, 0, []), (82, .goto 4, 3, 86, 0, 0, [])]
def s211_19 : List Ent := [(85, .iload_n 3, 1, 0, 0, 0, [])]
def s211_20 : List Ent := [(86, .istore_n 3, 1, 0, 0, 0, []), (87, .iinc 4 (-1), 3, 0, 0, 0, []), (90, .goto (-43), 3, 47, 0, 0, [])]
def s211_21 : List Ent := [(93, .iload_n 1, 1, 0, 0, 0, []), (94, .ifCond .ne 7, 3, 101, 0, 0, [])]
def s211_22 : List Ent := [(97, .iload_n 3, 1, 0, 0, 0, []), (98, .goto 16, 3, 114, 0, 0, [])]
def s211_23 : List Ent := [(101, .iload_n 1, 1, 0, 0, 0, []), (102, .iconst 1, 1, 0, 0, 0, []), (103, .if_icmp .ne 7, 3, 110, 0, 0, [])]
def s211_24 : List Ent := [(106, .iload_n 2, 1, 0, 0, 0, []), (107, .goto 7, 3, 114, 0, 0, [])]
def s211_25 : List Ent := [(110, .aload_n 0, 1, 0, 0, 0, []), (111, .getfield 314, 3, 8, 24, 0, [])]
def s211_26 : List Ent := [(114, .ireturn, 1, 0, 0, 0, [])]
def sg211 : List (List Ent) := [s211_0, s211_1, s211_2, s211_3, s211_4, s211_5, s211_6, s211_7, s211_8, s211_9, s211_10, s211_11, s211_12, s211_13, s211_14, s211_15, s211_16, s211_17, s211_18, s211_19, s211_20, s211_21, s211_22, s211_23, s211_24, s211_25, s211_26]
theorem ch211 : chkM mi211.2.1 mi211.2.2.1 mi211.2.2.2 lkRX8 sg211 = true := by decide +kernel
def s212_0 : List Ent := [(0, .iload_n 2, 1, 0, 0, 0, [])]
def s212_1 : List Ent := [(1, .invokestatic 95, 3, 126, 1, 0, [])]
def s212_2 : List Ent := [(4, .ifCond .ne 9, 3, 13, 0, 0, [])]
def s212_3 : List Ent := [(7, .aload_n 0, 1, 0, 0, 0, []), (8, .iconst 1, 1, 0, 0, 0, [])]
def s212_4 : List Ent := [(9, .invokevirtual 98, 3, 121, 1, 8, [])]
def s212_5 : List Ent := [(12, .ireturn, 1, 0, 0, 0, [])]
def s212_6 : List Ent := [(13, .iload_n 1, 1, 0, 0, 0, []), (14, .i2l, 1, 0, 0, 0, []), (15, .lconst 0, 1, 0, 0, 0, []), (16, .ldc2_w 80, 3, 0, 0, 0, [2])]
def s212_7 : List Ent := [(19, .invokestatic 74, 3, 117, 3, 0, [])]
def s212_8 : List Ent := [(22, .ifCond .ne 9, 3, 31, 0, 0, [])]
def s212_9 : List Ent := [(25, .aload_n 0, 1, 0, 0, 0, []), (26, .iconst 2, 1, 0, 0, 0, [])]
def s212_10 : List Ent := [(27, .invokevirtual 98, 3, 121, 1, 8, [])]
def s212_11 : List Ent := [(30, .ireturn, 1, 0, 0, 0, [])]
def s212_12 : List Ent := [(31, .aload_n 0, 1, 0, 0, 0, []), (32, .getfield 9, 3, 8, 0, 2, []), (35, .bipush 66, 2, 0, 0, 0, []), (37, .iaload, 1, 0, 0, 0, []), (38, .ifCond .ne 9, 3, 47, 0, 0, [])]
def s212_13 : List Ent := [(41, .aload_n 0, 1, 0, 0, 0, []), (42, .iconst 3, 1, 0, 0, 0, [])]
def s212_14 : List Ent := [(43, .invokevirtual 98, 3, 121, 1, 8, [])]
def s212_15 : List Ent := [(46, .ireturn, 1, 0, 0, 0, [])]
def s212_16 : List Ent := [(47, .aload_n 0, 1, 0, 0, 0, [])]
def s212_17 : List Ent := [(48, .invokevirtual 335, 3, 210, 0, 8, [])]
def s212_18 : List Ent := [(51, .iload_n 1, 1, 0, 0, 0, []), (52, .iconst 2, 1, 0, 0, 0, []), (53, .if_icmp .ge 16, 3, 69, 0, 0, [])]
def s212_19 : List Ent := [(56, .aload_n 0, 1, 0, 0, 0, []), (57, .getfield 56, 3, 8, 21, 2, []), (60, .iconst 5, 1, 0, 0, 0, []), (61, .iload_n 1, 1, 0, 0, 0, []), (62, .imul, 1, 0, 0, 0, []), (63, .iload_n 2, 1, 0, 0, 0, []), (64, .iadd, 1, 0, 0, 0, []), (65, .iaload, 1, 0, 0, 0, []), (66, .goto 18, 3, 84, 0, 0, [])]
def s212_20 : List Ent := [(69, .aload_n 0, 1, 0, 0, 0, []), (70, .getfield 56, 3, 8, 21, 2, []), (73, .iload_n 2, 1, 0, 0, 0, []), (74, .iaload, 1, 0, 0, 0, []), (75, .aload_n 0, 1, 0, 0, 0, []), (76, .getfield 56, 3, 8, 21, 2, []), (79, .iconst 5, 1, 0, 0, 0, []), (80, .iload_n 2, 1, 0, 0, 0, []), (81, .iadd, 1, 0, 0, 0, []), (82, .iaload, 1, 0, 0, 0, []), (83, .isub, 1, 0, 0, 0, [])]
def s212_21 : List Ent := [(84, .ireturn, 1, 0, 0, 0, [])]
def sg212 : List (List Ent) := [s212_0, s212_1, s212_2, s212_3, s212_4, s212_5, s212_6, s212_7, s212_8, s212_9, s212_10, s212_11, s212_12, s212_13, s212_14, s212_15, s212_16, s212_17, s212_18, s212_19, s212_20, s212_21]
theorem ch212 : chkM mi212.2.1 mi212.2.2.1 mi212.2.2.2 lkRX8 sg212 = true := by decide +kernel
def s213_0 : List Ent := [(0, .iload_n 1, 1, 0, 0, 0, []), (1, .iconst (-1), 1, 0, 0, 0, []), (2, .if_icmp .ge 9, 3, 11, 0, 0, [])]
def s213_1 : List Ent := [(5, .aload_n 0, 1, 0, 0, 0, []), (6, .iconst 4, 1, 0, 0, 0, [])]
def s213_2 : List Ent := [(7, .invokevirtual 64, 3, 120, 1, 8, [])]
def s213_3 : List Ent := [(10, .ireturn, 1, 0, 0, 0, [])]
def s213_4 : List Ent := [(11, .aload_n 0, 1, 0, 0, 0, []), (12, .getfield 9, 3, 8, 0, 2, []), (15, .bipush 66, 2, 0, 0, 0, []), (17, .iaload, 1, 0, 0, 0, []), (18, .ifCond .ne 9, 3, 27, 0, 0, [])]
def s213_5 : List Ent := [(21, .aload_n 0, 1, 0, 0, 0, []), (22, .iconst 3, 1, 0, 0, 0, [])]
def s213_6 : List Ent := [(23, .invokevirtual 64, 3, 120, 1, 8, [])]
def s213_7 : List Ent := [(26, .ireturn, 1, 0, 0, 0, [])]
def s213_8 : List Ent := [(27, .aload_n 0, 1, 0, 0, 0, [])]
def s213_9 : List Ent := [(28, .invokevirtual 335, 3, 210, 0, 8, [])]
def s213_10 : List Ent := [(31, .iconst 0, 1, 0, 0, 0, []), (32, .istore_n 2, 1, 0, 0, 0, [])]
def s213_11 : List Ent := [(33, .iload_n 2, 1, 0, 0, 0, []), (34, .iconst 5, 1, 0, 0, 0, []), (35, .if_icmp .ge 30, 3, 65, 0, 0, [])]
def s213_12 : List Ent := [(38, .aload_n 0, 1, 0, 0, 0, []), (39, .getfield 47, 3, 8, 15, 2, []), (42, .iload_n 2, 1, 0, 0, 0, []), (43, .aload_n 0, 1, 0, 0, 0, []), (44, .getfield 56, 3, 8, 21, 2, []), (47, .iload_n 2, 1, 0, 0, 0, []), (48, .iaload, 1, 0, 0, 0, []), (49, .aload_n 0, 1, 0, 0, 0, []), (50, .getfield 56, 3, 8, 21, 2, []), (53, .iconst 5, 1, 0, 0, 0, []), (54, .iload_n 2, 1, 0, 0, 0, []), (55, .iadd, 1, 0, 0, 0, []), (56, .iaload, 1, 0, 0, 0, []), (57, .isub, 1, 0, 0, 0, []), (58, .iastore, 1, 0, 0, 0, []), (59, .iinc 2 1, 3, 0, 0, 0, []), (62, .goto (-29), 3, 33, 0, 0, [])]
def s213_13 : List Ent := [(65, .aload_n 0, 1, 0, 0, 0, []), (66, .iload_n 1, 1, 0, 0, 0, [])]
def s213_14 : List Ent := [(67, .invokevirtual 245, 3, 187, 1, 8, [])]
def s213_15 : List Ent := [(70, .ireturn, 1, 0, 0, 0, [])]
def sg213 : List (List Ent) := [s213_0, s213_1, s213_2, s213_3, s213_4, s213_5, s213_6, s213_7, s213_8, s213_9, s213_10, s213_11, s213_12, s213_13, s213_14, s213_15]
theorem ch213 : chkM mi213.2.1 mi213.2.2.1 mi213.2.2.2 lkRX8 sg213 = true := by decide +kernel
def s214_0 : List Ent := [(0, .aload_n 0, 1, 0, 0, 0, []), (1, .aload_n 0, 1, 0, 0, 0, []), (2, .getfield 338, 3, 8, 26, 0, []), (5, .ldc_w 341, 3, 0, 0, 0, [1664525]), (8, .imul, 1, 0, 0, 0, []), (9, .ldc_w 342, 3, 0, 0, 0, [1013904223]), (12, .iadd, 1, 0, 0, 0, []), (13, .putfield 338, 3, 8, 26, 0, []), (16, .aload_n 0, 1, 0, 0, 0, []), (17, .getfield 338, 3, 8, 26, 0, []), (20, .ldc_w 345, 3, 0, 0, 0, [2147483647]), (23, .iand, 1, 0, 0, 0, []), (24, .sipush 256, 3, 0, 0, 0, []), (27, .idiv, 1, 0, 0, 0, []), (28, .iload_n 1, 1, 0, 0, 0, []), (29, .irem, 1, 0, 0, 0, [])]
def s214_1 : List Ent := [(30, .ireturn, 1, 0, 0, 0, [])]
def sg214 : List (List Ent) := [s214_0, s214_1]
theorem ch214 : chkM mi214.2.1 mi214.2.2.1 mi214.2.2.2 lkRX8 sg214 = true := by decide +kernel
def s215_0 : List Ent := [(0, .iload_n 1, 1, 0, 0, 0, []), (1, .iconst 1, 1, 0, 0, 0, []), (2, .if_icmp .ge 9, 3, 11, 0, 0, [])]
def s215_1 : List Ent := [(5, .aload_n 0, 1, 0, 0, 0, []), (6, .iconst 4, 1, 0, 0, 0, [])]
def s215_2 : List Ent := [(7, .invokevirtual 64, 3, 120, 1, 8, [])]
def s215_3 : List Ent := [(10, .ireturn, 1, 0, 0, 0, [])]
def s215_4 : List Ent := [(11, .iload_n 1, 1, 0, 0, 0, []), (12, .bipush 50, 2, 0, 0, 0, []), (14, .if_icmp .le 10, 3, 24, 0, 0, [])]
def s215_5 : List Ent := [(17, .aload_n 0, 1, 0, 0, 0, []), (18, .bipush 6, 2, 0, 0, 0, [])]
def s215_6 : List Ent := [(20, .invokevirtual 64, 3, 120, 1, 8, [])]
def s215_7 : List Ent := [(23, .ireturn, 1, 0, 0, 0, [])]
def s215_8 : List Ent := [(24, .iload_n 3, 1, 0, 0, 0, []), (25, .i2l, 1, 0, 0, 0, []), (26, .lconst 0, 1, 0, 0, 0, []), (27, .lconst 1, 1, 0, 0, 0, [])]
def s215_9 : List Ent := [(28, .invokestatic 74, 3, 117, 3, 0, [])]
def s215_10 : List Ent := [(31, .ifCond .ne 9, 3, 40, 0, 0, [])]
def s215_11 : List Ent := [(34, .aload_n 0, 1, 0, 0, 0, []), (35, .iconst 2, 1, 0, 0, 0, [])]
def s215_12 : List Ent := [(36, .invokevirtual 64, 3, 120, 1, 8, [])]
def s215_13 : List Ent := [(39, .ireturn, 1, 0, 0, 0, [])]
def s215_14 : List Ent := [(40, .aload_n 0, 1, 0, 0, 0, []), (41, .iload_n 2, 1, 0, 0, 0, []), (42, .putfield 338, 3, 8, 26, 0, []), (45, .iconst 0, 1, 0, 0, 0, []), (46, .istore 4, 2, 0, 0, 0, []), (48, .iconst 0, 1, 0, 0, 0, []), (49, .istore 5, 2, 0, 0, 0, []), (51, .iconst 0, 1, 0, 0, 0, []), (52, .istore 6, 2, 0, 0, 0, [])]
def s215_15 : List Ent := [(54, .iload 6, 2, 0, 0, 0, []), (56, .iload_n 1, 1, 0, 0, 0, []), (57, .if_icmp .ge 137, 3, 194, 0, 0, [])]
def s215_16 : List Ent := [(60, .iconst 0, 1, 0, 0, 0, []), (61, .istore 7, 2, 0, 0, 0, [])]
def s215_17 : List Ent := [(63, .iload 7, 2, 0, 0, 0, []), (65, .aload_n 0, 1, 0, 0, 0, []), (66, .getfield 9, 3, 8, 0, 2, []), (69, .iconst 0, 1, 0, 0, 0, []), (70, .iaload, 1, 0, 0, 0, []), (71, .if_icmp .ge 23, 3, 94, 0, 0, [])]
def s215_18 : List Ent := [(74, .aload_n 0, 1, 0, 0, 0, []), (75, .getfield 41, 3, 8, 13, 2, []), (78, .iload 7, 2, 0, 0, 0, []), (80, .aload_n 0, 1, 0, 0, 0, []), (81, .iconst 5, 1, 0, 0, 0, [])]
def s215_19 : List Ent := [(82, .invokevirtual 346, 3, 214, 1, 8, [])]
def s215_20 : List Ent := [(85, .iconst 2, 1, 0, 0, 0, []), (86, .isub, 1, 0, 0, 0, []), (87, .iastore, 1, 0, 0, 0, []), (88, .iinc 7 1, 3, 0, 0, 0, []), (91, .goto (-28), 3, 63, 0, 0, [])]
def s215_21 : List Ent := [(94, .iload 4, 2, 0, 0, 0, []), (96, .aload_n 0, 1, 0, 0, 0, [])]
def s215_22 : List Ent := [(97, .invokevirtual 176, 3, 155, 0, 8, [])]
def s215_23 : List Ent := [(100, .ifCond .eq 7, 3, 107, 0, 0, [])]
def s215_24 : List Ent := [(103, .iconst 1, 1, 0, 0, 0, []), (104, .goto 4, 3, 108, 0, 0, [])]
def s215_25 : List Ent := [(107, .iconst 0, 1, 0, 0, 0, [])]
def s215_26 : List Ent := [(108, .iadd, 1, 0, 0, 0, []), (109, .istore 4, 2, 0, 0, 0, []), (111, .iconst 0, 1, 0, 0, 0, []), (112, .istore 7, 2, 0, 0, 0, [])]
def s215_27 : List Ent := [(114, .iload 7, 2, 0, 0, 0, []), (116, .iconst 5, 1, 0, 0, 0, []), (117, .if_icmp .ge 71, 3, 188, 0, 0, [])]
def s215_28 : List Ent := [(120, .iconst 0, 1, 0, 0, 0, []), (121, .istore 8, 2, 0, 0, 0, []), (123, .iconst 0, 1, 0, 0, 0, []), (124, .istore 9, 2, 0, 0, 0, [])]
def s215_29 : List Ent := [(126, .iload 9, 2, 0, 0, 0, []), (128, .aload_n 0, 1, 0, 0, 0, []), (129, .getfield 9, 3, 8, 0, 2, []), (132, .iconst 0, 1, 0, 0, 0, []), (133, .iaload, 1, 0, 0, 0, []), (134, .if_icmp .ge 30, 3, 164, 0, 0, [])]
def s215_30 : List Ent := [(137, .iload 8, 2, 0, 0, 0, []), (139, .aload_n 0, 1, 0, 0, 0, []), (140, .getfield 41, 3, 8, 13, 2, []), (143, .iload 9, 2, 0, 0, 0, []), (145, .iaload, 1, 0, 0, 0, []), (146, .aload_n 0, 1, 0, 0, 0, []), (147, .iload 9, 2, 0, 0, 0, []), (149, .iload 7, 2, 0, 0, 0, [])]
def s215_31 : List Ent := [(151, .invokevirtual 105, 3, 134, 2, 8, [])]
def s215_32 : List Ent := [(154, .imul, 1, 0, 0, 0, []), (155, .iadd, 1, 0, 0, 0, []), (156, .istore 8, 2, 0, 0, 0, []), (158, .iinc 9 1, 3, 0, 0, 0, []), (161, .goto (-35), 3, 126, 0, 0, [])]
def s215_33 : List Ent := [(164, .iload 5, 2, 0, 0, 0, []), (166, .iload 8, 2, 0, 0, 0, []), (168, .ifCond .ge 9, 3, 177, 0, 0, [])]
def s215_34 : List Ent := [(171, .iload 8, 2, 0, 0, 0, []), (173, .ineg, 1, 0, 0, 0, []), (174, .goto 5, 3, 179, 0, 0, [])]
def s215_35 : List Ent := [(177, .iload 8, 2, 0, 0, 0, [])]
def s215_36 : List Ent := [(179, .iadd, 1, 0, 0, 0, []), (180, .istore 5, 2, 0, 0, 0, []), (182, .iinc 7 1, 3, 0, 0, 0, []), (185, .goto (-71), 3, 114, 0, 0, [])]
def s215_37 : List Ent := [(188, .iinc 6 1, 3, 0, 0, 0, []), (191, .goto (-137), 3, 54, 0, 0, [])]
def s215_38 : List Ent := [(194, .iload_n 3, 1, 0, 0, 0, []), (195, .ifCond .ne 8, 3, 203, 0, 0, [])]
def s215_39 : List Ent := [(198, .iload 4, 2, 0, 0, 0, []), (200, .goto 5, 3, 205, 0, 0, [])]
def s215_40 : List Ent := [(203, .iload 5, 2, 0, 0, 0, [])]
def s215_41 : List Ent := [(205, .ireturn, 1, 0, 0, 0, [])]
def sg215 : List (List Ent) := [s215_0, s215_1, s215_2, s215_3, s215_4, s215_5, s215_6, s215_7, s215_8, s215_9, s215_10, s215_11, s215_12, s215_13, s215_14, s215_15, s215_16, s215_17, s215_18, s215_19, s215_20, s215_21, s215_22, s215_23, s215_24, s215_25, s215_26, s215_27, s215_28, s215_29, s215_30, s215_31, s215_32, s215_33, s215_34, s215_35, s215_36, s215_37, s215_38, s215_39, s215_40, s215_41]
theorem ch215 : chkM mi215.2.1 mi215.2.2.1 mi215.2.2.2 lkRX8 sg215 = true := by decide +kernel
def s216_0 : List Ent := [(0, .iload_n 2, 1, 0, 0, 0, []), (1, .i2l, 1, 0, 0, 0, []), (2, .lconst 0, 1, 0, 0, 0, []), (3, .aload_n 0, 1, 0, 0, 0, []), (4, .getfield 35, 3, 8, 11, 2, []), (7, .iload_n 1, 1, 0, 0, 0, []), (8, .iaload, 1, 0, 0, 0, []), (9, .iconst 1, 1, 0, 0, 0, []), (10, .isub, 1, 0, 0, 0, []), (11, .i2l, 1, 0, 0, 0, [])]
def s216_1 : List Ent := [(12, .invokestatic 74, 3, 117, 3, 0, [])]
def s216_2 : List Ent := [(15, .ireturn, 1, 1, 0, 0, [])]
def sg216 : List (List Ent) := [s216_0, s216_1, s216_2]
theorem ch216 : chkM mi216.2.1 mi216.2.2.1 mi216.2.2.2 lkRX8 sg216 = true := by decide +kernel
def s217_0 : List Ent := [(0, .iload_n 1, 1, 0, 0, 0, [])]
def s217_1 : List Ent := [(1, .invokestatic 170, 3, 127, 1, 0, [])]
def s217_2 : List Ent := [(4, .ifCond .ne 9, 3, 13, 0, 0, [])]
def s217_3 : List Ent := [(7, .aload_n 0, 1, 0, 0, 0, []), (8, .iconst 1, 1, 0, 0, 0, [])]
def s217_4 : List Ent := [(9, .invokevirtual 64, 3, 120, 1, 8, [])]
def s217_5 : List Ent := [(12, .ireturn, 1, 0, 0, 0, [])]
def s217_6 : List Ent := [(13, .iload_n 2, 1, 0, 0, 0, []), (14, .bipush 40, 2, 0, 0, 0, []), (16, .if_icmp .le 10, 3, 26, 0, 0, [])]
def s217_7 : List Ent := [(19, .aload_n 0, 1, 0, 0, 0, []), (20, .bipush 6, 2, 0, 0, 0, [])]
def s217_8 : List Ent := [(22, .invokevirtual 64, 3, 120, 1, 8, [])]
def s217_9 : List Ent := [(25, .ireturn, 1, 0, 0, 0, [])]
def s217_10 : List Ent := [(26, .iload_n 2, 1, 0, 0, 0, []), (27, .ifCond .ge 10, 3, 37, 0, 0, [])]
def s217_11 : List Ent := [(30, .aload_n 0, 1, 0, 0, 0, []), (31, .bipush 14, 2, 0, 0, 0, [])]
def s217_12 : List Ent := [(33, .invokevirtual 64, 3, 120, 1, 8, [])]
def s217_13 : List Ent := [(36, .ireturn, 1, 0, 0, 0, [])]
def s217_14 : List Ent := [(37, .aload_n 0, 1, 0, 0, 0, []), (38, .getfield 35, 3, 8, 11, 2, []), (41, .iload_n 1, 1, 0, 0, 0, []), (42, .iload_n 2, 1, 0, 0, 0, []), (43, .iastore, 1, 0, 0, 0, []), (44, .iconst 0, 1, 0, 0, 0, []), (45, .istore_n 3, 1, 0, 0, 0, [])]
def s217_15 : List Ent := [(46, .iload_n 3, 1, 0, 0, 0, []), (47, .bipush 40, 2, 0, 0, 0, []), (49, .if_icmp .ge 21, 3, 70, 0, 0, [])]
def s217_16 : List Ent := [(52, .aload_n 0, 1, 0, 0, 0, []), (53, .getfield 38, 3, 8, 12, 2, []), (56, .bipush 40, 2, 0, 0, 0, []), (58, .iload_n 1, 1, 0, 0, 0, []), (59, .imul, 1, 0, 0, 0, []), (60, .iload_n 3, 1, 0, 0, 0, []), (61, .iadd, 1, 0, 0, 0, []), (62, .iconst 0, 1, 0, 0, 0, []), (63, .iastore, 1, 0, 0, 0, []), (64, .iinc 3 1, 3, 0, 0, 0, []), (67, .goto (-21), 3, 46, 0, 0, [])]
def s217_17 : List Ent := [(70, .iconst 1, 1, 0, 0, 0, [])]
def s217_18 : List Ent := [(71, .ireturn, 1, 0, 0, 0, [])]
def sg217 : List (List Ent) := [s217_0, s217_1, s217_2, s217_3, s217_4, s217_5, s217_6, s217_7, s217_8, s217_9, s217_10, s217_11, s217_12, s217_13, s217_14, s217_15, s217_16, s217_17, s217_18]
theorem ch217 : chkM mi217.2.1 mi217.2.2.1 mi217.2.2.2 lkRX8 sg217 = true := by decide +kernel
def s218_0 : List Ent := [(0, .iload_n 1, 1, 0, 0, 0, [])]
def s218_1 : List Ent := [(1, .invokestatic 170, 3, 127, 1, 0, [])]
def s218_2 : List Ent := [(4, .ifCond .ne 7, 3, 11, 0, 0, [])]
def s218_3 : List Ent := [(7, .iconst 1, 1, 0, 0, 0, []), (8, .goto 32, 3, 40, 0, 0, [])]
def s218_4 : List Ent := [(11, .aload_n 0, 1, 0, 0, 0, []), (12, .getfield 35, 3, 8, 11, 2, []), (15, .iload_n 1, 1, 0, 0, 0, []), (16, .iaload, 1, 0, 0, 0, []), (17, .ifCond .ge 8, 3, 25, 0, 0, [])]
def s218_5 : List Ent := [(20, .bipush 11, 2, 0, 0, 0, []), (22, .goto 18, 3, 40, 0, 0, [])]
def s218_6 : List Ent := [(25, .aload_n 0, 1, 0, 0, 0, []), (26, .iload_n 1, 1, 0, 0, 0, []), (27, .iload_n 2, 1, 0, 0, 0, [])]
def s218_7 : List Ent := [(28, .invokevirtual 349, 3, 216, 2, 8, [])]
def s218_8 : List Ent := [(31, .ifCond .eq 7, 3, 38, 0, 0, [])]
def s218_9 : List Ent := [(34, .iconst 0, 1, 0, 0, 0, []), (35, .goto 5, 3, 40, 0, 0, [])]
def s218_10 : List Ent := [(38, .bipush 13, 2, 0, 0, 0, [])]
def s218_11 : List Ent := [(40, .ireturn, 1, 0, 0, 0, [])]
def sg218 : List (List Ent) := [s218_0, s218_1, s218_2, s218_3, s218_4, s218_5, s218_6, s218_7, s218_8, s218_9, s218_10, s218_11]
theorem ch218 : chkM mi218.2.1 mi218.2.2.1 mi218.2.2.2 lkRX8 sg218 = true := by decide +kernel
def s219_0 : List Ent := [(0, .aload_n 0, 1, 0, 0, 0, []), (1, .iload_n 1, 1, 0, 0, 0, []), (2, .iload_n 2, 1, 0, 0, 0, [])]
def s219_1 : List Ent := [(3, .invokevirtual 352, 3, 218, 2, 8, [])]
def s219_2 : List Ent := [(6, .istore 4, 2, 0, 0, 0, []), (8, .iload 4, 2, 0, 0, 0, []), (10, .ifCond .eq 10, 3, 20, 0, 0, [])]
def s219_3 : List Ent := [(13, .aload_n 0, 1, 0, 0, 0, []), (14, .iload 4, 2, 0, 0, 0, [])]
def s219_4 : List Ent := [(16, .invokevirtual 64, 3, 120, 1, 8, [])]
def s219_5 : List Ent := [(19, .ireturn, 1, 0, 0, 0, [])]
def s219_6 : List Ent := [(20, .aload_n 0, 1, 0, 0, 0, []), (21, .getfield 38, 3, 8, 12, 2, []), (24, .bipush 40, 2, 0, 0, 0, []), (26, .iload_n 1, 1, 0, 0, 0, []), (27, .imul, 1, 0, 0, 0, []), (28, .iload_n 2, 1, 0, 0, 0, []), (29, .iadd, 1, 0, 0, 0, []), (30, .iload_n 3, 1, 0, 0, 0, []), (31, .iastore, 1, 0, 0, 0, []), (32, .iconst 1, 1, 0, 0, 0, [])]
def s219_7 : List Ent := [(33, .ireturn, 1, 0, 0, 0, [])]
def sg219 : List (List Ent) := [s219_0, s219_1, s219_2, s219_3, s219_4, s219_5, s219_6, s219_7]
theorem ch219 : chkM mi219.2.1 mi219.2.2.1 mi219.2.2.2 lkRX8 sg219 = true := by decide +kernel
def s220_0 : List Ent := [(0, .aload_n 0, 1, 0, 0, 0, []), (1, .iload_n 1, 1, 0, 0, 0, []), (2, .iload_n 2, 1, 0, 0, 0, [])]
def s220_1 : List Ent := [(3, .invokevirtual 352, 3, 218, 2, 8, [])]
def s220_2 : List Ent := [(6, .istore_n 3, 1, 0, 0, 0, []), (7, .iload_n 3, 1, 0, 0, 0, []), (8, .ifCond .eq 11, 3, 19, 0, 0, [])]
def s220_3 : List Ent := [(11, .aload_n 0, 1, 0, 0, 0, []), (12, .iload_n 3, 1, 0, 0, 0, [])]
def s220_4 : List Ent := [(13, .invokevirtual 98, 3, 121, 1, 8, [])]
def s220_5 : List Ent := [(16, .goto 14, 3, 30, 0, 0, [])]
def s220_6 : List Ent := [(19, .aload_n 0, 1, 0, 0, 0, []), (20, .getfield 38, 3, 8, 12, 2, []), (23, .bipush 40, 2, 0, 0, 0, []), (25, .iload_n 1, 1, 0, 0, 0, []), (26, .imul, 1, 0, 0, 0, []), (27, .iload_n 2, 1, 0, 0, 0, []), (28, .iadd, 1, 0, 0, 0, []), (29, .iaload, 1, 0, 0, 0, [])]
def s220_7 : List Ent := [(30, .ireturn, 1, 0, 0, 0, [])]
def sg220 : List (List Ent) := [s220_0, s220_1, s220_2, s220_3, s220_4, s220_5, s220_6, s220_7]
theorem ch220 : chkM mi220.2.1 mi220.2.2.1 mi220.2.2.2 lkRX8 sg220 = true := by decide +kernel
def s221_0 : List Ent := [(0, .aload_n 0, 1, 0, 0, 0, []), (1, .iload_n 3, 1, 0, 0, 0, [])]
def s221_1 : List Ent := [(2, .invokevirtual 159, 3, 149, 1, 8, [])]
def s221_2 : List Ent := [(5, .istore 4, 2, 0, 0, 0, []), (7, .iload_n 1, 1, 0, 0, 0, [])]
def s221_3 : List Ent := [(8, .invokestatic 170, 3, 127, 1, 0, [])]
def s221_4 : List Ent := [(11, .ifCond .eq 8, 3, 19, 0, 0, [])]
def s221_5 : List Ent := [(14, .iload 4, 2, 0, 0, 0, []), (16, .ifCond .ge 9, 3, 25, 0, 0, [])]
def s221_6 : List Ent := [(19, .aload_n 0, 1, 0, 0, 0, []), (20, .iconst 1, 1, 0, 0, 0, [])]
def s221_7 : List Ent := [(21, .invokevirtual 64, 3, 120, 1, 8, [])]
def s221_8 : List Ent := [(24, .ireturn, 1, 0, 0, 0, [])]
def s221_9 : List Ent := [(25, .aload_n 0, 1, 0, 0, 0, []), (26, .getfield 35, 3, 8, 11, 2, []), (29, .iload_n 1, 1, 0, 0, 0, []), (30, .iaload, 1, 0, 0, 0, []), (31, .ifCond .ge 10, 3, 41, 0, 0, [])]
def s221_10 : List Ent := [(34, .aload_n 0, 1, 0, 0, 0, []), (35, .bipush 11, 2, 0, 0, 0, [])]
def s221_11 : List Ent := [(37, .invokevirtual 64, 3, 120, 1, 8, [])]
def s221_12 : List Ent := [(40, .ireturn, 1, 0, 0, 0, [])]
def s221_13 : List Ent := [(41, .iload_n 2, 1, 0, 0, 0, []), (42, .ifCond .lt 20, 3, 62, 0, 0, [])]
def s221_14 : List Ent := [(45, .aload_n 0, 1, 0, 0, 0, []), (46, .getfield 9, 3, 8, 0, 2, []), (49, .iconst 0, 1, 0, 0, 0, []), (50, .iaload, 1, 0, 0, 0, []), (51, .aload_n 0, 1, 0, 0, 0, []), (52, .getfield 35, 3, 8, 11, 2, []), (55, .iload_n 1, 1, 0, 0, 0, []), (56, .iaload, 1, 0, 0, 0, []), (57, .iload_n 2, 1, 0, 0, 0, []), (58, .isub, 1, 0, 0, 0, []), (59, .if_icmp .le 10, 3, 69, 0, 0, [])]
def s221_15 : List Ent := [(62, .aload_n 0, 1, 0, 0, 0, []), (63, .bipush 13, 2, 0, 0, 0, [])]
def s221_16 : List Ent := [(65, .invokevirtual 64, 3, 120, 1, 8, [])]
def s221_17 : List Ent := [(68, .ireturn, 1, 0, 0, 0, [])]
def s221_18 : List Ent := [(69, .aload_n 0, 1, 0, 0, 0, []), (70, .iload 4, 2, 0, 0, 0, [])]
def s221_19 : List Ent := [(72, .invokevirtual 162, 3, 150, 1, 8, [])]
def s221_20 : List Ent := [(75, .iconst 0, 1, 0, 0, 0, []), (76, .istore 5, 2, 0, 0, 0, [])]
def s221_21 : List Ent := [(78, .iload 5, 2, 0, 0, 0, []), (80, .aload_n 0, 1, 0, 0, 0, []), (81, .getfield 9, 3, 8, 0, 2, []), (84, .iconst 0, 1, 0, 0, 0, []), (85, .iaload, 1, 0, 0, 0, []), (86, .if_icmp .ge 31, 3, 117, 0, 0, [])]
def s221_22 : List Ent := [(89, .aload_n 0, 1, 0, 0, 0, []), (90, .getfield 38, 3, 8, 12, 2, []), (93, .bipush 40, 2, 0, 0, 0, []), (95, .iload_n 1, 1, 0, 0, 0, []), (96, .imul, 1, 0, 0, 0, []), (97, .iload_n 2, 1, 0, 0, 0, []), (98, .iadd, 1, 0, 0, 0, []), (99, .iload 5, 2, 0, 0, 0, []), (101, .iadd, 1, 0, 0, 0, []), (102, .aload_n 0, 1, 0, 0, 0, []), (103, .getfield 29, 3, 8, 9, 2, []), (106, .iload 5, 2, 0, 0, 0, []), (108, .laload, 1, 0, 0, 0, []), (109, .l2i, 1, 0, 0, 0, []), (110, .iastore, 1, 0, 0, 0, []), (111, .iinc 5 1, 3, 0, 0, 0, []), (114, .goto (-36), 3, 78, 0, 0, [])]
def s221_23 : List Ent := [(117, .aload_n 0, 1, 0, 0, 0, []), (118, .getfield 9, 3, 8, 0, 2, []), (121, .iconst 0, 1, 0, 0, 0, []), (122, .iaload, 1, 0, 0, 0, [])]
def s221_24 : List Ent := [(123, .ireturn, 1, 0, 0, 0, [])]
def sg221 : List (List Ent) := [s221_0, s221_1, s221_2, s221_3, s221_4, s221_5, s221_6, s221_7, s221_8, s221_9, s221_10, s221_11, s221_12, s221_13, s221_14, s221_15, s221_16, s221_17, s221_18, s221_19, s221_20, s221_21, s221_22, s221_23, s221_24]
theorem ch221 : chkM mi221.2.1 mi221.2.2.1 mi221.2.2.2 lkRX8 sg221 = true := by decide +kernel
def s222_0 : List Ent := [(0, .iload_n 1, 1, 0, 0, 0, [])]
def s222_1 : List Ent := [(1, .invokestatic 170, 3, 127, 1, 0, [])]
def s222_2 : List Ent := [(4, .ifCond .ne 9, 3, 13, 0, 0, [])]
def s222_3 : List Ent := [(7, .aload_n 0, 1, 0, 0, 0, []), (8, .iconst 1, 1, 0, 0, 0, [])]
def s222_4 : List Ent := [(9, .invokevirtual 64, 3, 120, 1, 8, [])]
def s222_5 : List Ent := [(12, .ireturn, 1, 0, 0, 0, [])]
def s222_6 : List Ent := [(13, .aload_n 0, 1, 0, 0, 0, []), (14, .getfield 35, 3, 8, 11, 2, []), (17, .iload_n 1, 1, 0, 0, 0, []), (18, .iaload, 1, 0, 0, 0, []), (19, .ifCond .ge 10, 3, 29, 0, 0, [])]
def s222_7 : List Ent := [(22, .aload_n 0, 1, 0, 0, 0, []), (23, .bipush 11, 2, 0, 0, 0, [])]
def s222_8 : List Ent := [(25, .invokevirtual 64, 3, 120, 1, 8, [])]
def s222_9 : List Ent := [(28, .ireturn, 1, 0, 0, 0, [])]
def s222_10 : List Ent := [(29, .iconst 0, 1, 0, 0, 0, []), (30, .istore_n 2, 1, 0, 0, 0, [])]
def s222_11 : List Ent := [(31, .iload_n 2, 1, 0, 0, 0, []), (32, .aload_n 0, 1, 0, 0, 0, []), (33, .getfield 35, 3, 8, 11, 2, []), (36, .iload_n 1, 1, 0, 0, 0, []), (37, .iaload, 1, 0, 0, 0, []), (38, .if_icmp .ge 47, 3, 85, 0, 0, [])]
def s222_12 : List Ent := [(41, .iload_n 2, 1, 0, 0, 0, []), (42, .iconst 5, 1, 0, 0, 0, []), (43, .aload_n 0, 1, 0, 0, 0, []), (44, .getfield 9, 3, 8, 0, 2, []), (47, .iconst 0, 1, 0, 0, 0, []), (48, .iaload, 1, 0, 0, 0, []), (49, .imul, 1, 0, 0, 0, []), (50, .if_icmp .ge 27, 3, 77, 0, 0, [])]
def s222_13 : List Ent := [(53, .aload_n 0, 1, 0, 0, 0, []), (54, .getfield 38, 3, 8, 12, 2, []), (57, .bipush 40, 2, 0, 0, 0, []), (59, .iload_n 1, 1, 0, 0, 0, []), (60, .imul, 1, 0, 0, 0, []), (61, .iload_n 2, 1, 0, 0, 0, []), (62, .iadd, 1, 0, 0, 0, []), (63, .iaload, 1, 0, 0, 0, []), (64, .aload_n 0, 1, 0, 0, 0, []), (65, .iload_n 2, 1, 0, 0, 0, []), (66, .iconst 5, 1, 0, 0, 0, []), (67, .idiv, 1, 0, 0, 0, []), (68, .iload_n 2, 1, 0, 0, 0, []), (69, .iconst 5, 1, 0, 0, 0, []), (70, .irem, 1, 0, 0, 0, [])]
def s222_14 : List Ent := [(71, .invokevirtual 105, 3, 134, 2, 8, [])]
def s222_15 : List Ent := [(74, .if_icmp .eq 5, 3, 79, 0, 0, [])]
def s222_16 : List Ent := [(77, .iload_n 2, 1, 0, 0, 0, [])]
def s222_17 : List Ent := [(78, .ireturn, 1, 0, 0, 0, [])]
def s222_18 : List Ent := [(79, .iinc 2 1, 3, 0, 0, 0, []), (82, .goto (-51), 3, 31, 0, 0, [])]
def s222_19 : List Ent := [(85, .bipush (-9), 2, 0, 0, 0, [])]
def s222_20 : List Ent := [(87, .ireturn, 1, 0, 0, 0, [])]
def sg222 : List (List Ent) := [s222_0, s222_1, s222_2, s222_3, s222_4, s222_5, s222_6, s222_7, s222_8, s222_9, s222_10, s222_11, s222_12, s222_13, s222_14, s222_15, s222_16, s222_17, s222_18, s222_19, s222_20]
theorem ch222 : chkM mi222.2.1 mi222.2.2.1 mi222.2.2.2 lkRX8 sg222 = true := by decide +kernel
def s223_0 : List Ent := [(0, .aload_n 0, 1, 0, 0, 0, []), (1, .getfield 88, 3, 8, 7, 0, []), (4, .ifCond .ne 9, 3, 13, 0, 0, [])]
def s223_1 : List Ent := [(7, .aload_n 0, 1, 0, 0, 0, []), (8, .iconst 3, 1, 0, 0, 0, [])]
def s223_2 : List Ent := [(9, .invokevirtual 64, 3, 120, 1, 8, [])]
def s223_3 : List Ent := [(12, .ireturn, 1, 0, 0, 0, [])]
def s223_4 : List Ent := [(13, .aload_n 0, 1, 0, 0, 0, []), (14, .dup, 1, 0, 0, 0, []), (15, .getfield 88, 3, 8, 7, 0, []), (18, .iconst 1, 1, 0, 0, 0, []), (19, .isub, 1, 0, 0, 0, []), (20, .putfield 88, 3, 8, 7, 0, []), (23, .iconst 5, 1, 0, 0, 0, []), (24, .aload_n 0, 1, 0, 0, 0, []), (25, .getfield 88, 3, 8, 7, 0, []), (28, .imul, 1, 0, 0, 0, []), (29, .istore_n 1, 1, 0, 0, 0, []), (30, .aload_n 0, 1, 0, 0, 0, []), (31, .getfield 9, 3, 8, 0, 2, []), (34, .aload_n 0, 1, 0, 0, 0, []), (35, .getfield 22, 3, 8, 6, 2, []), (38, .iload_n 1, 1, 0, 0, 0, []), (39, .iaload, 1, 0, 0, 0, []), (40, .aload_n 0, 1, 0, 0, 0, []), (41, .getfield 22, 3, 8, 6, 2, []), (44, .iload_n 1, 1, 0, 0, 0, []), (45, .iconst 1, 1, 0, 0, 0, []), (46, .iadd, 1, 0, 0, 0, []), (47, .iaload, 1, 0, 0, 0, []), (48, .iastore, 1, 0, 0, 0, []), (49, .aload_n 0, 1, 0, 0, 0, []), (50, .getfield 22, 3, 8, 6, 2, []), (53, .iload_n 1, 1, 0, 0, 0, []), (54, .iconst 2, 1, 0, 0, 0, []), (55, .iadd, 1, 0, 0, 0, []), (56, .iaload, 1, 0, 0, 0, []), (57, .ifCond .lt 24, 3, 81, 0, 0, [])]
def s223_5 : List Ent := [(60, .aload_n 0, 1, 0, 0, 0, []), (61, .getfield 9, 3, 8, 0, 2, []), (64, .aload_n 0, 1, 0, 0, 0, []), (65, .getfield 22, 3, 8, 6, 2, []), (68, .iload_n 1, 1, 0, 0, 0, []), (69, .iconst 2, 1, 0, 0, 0, []), (70, .iadd, 1, 0, 0, 0, []), (71, .iaload, 1, 0, 0, 0, []), (72, .aload_n 0, 1, 0, 0, 0, []), (73, .getfield 22, 3, 8, 6, 2, []), (76, .iload_n 1, 1, 0, 0, 0, []), (77, .iconst 3, 1, 0, 0, 0, []), (78, .iadd, 1, 0, 0, 0, []), (79, .iaload, 1, 0, 0, 0, []), (80, .iastore, 1, 0, 0, 0, [])]
def s223_6 : List Ent := [(81, .aload_n 0, 1, 0, 0, 0, []), (82, .getfield 88, 3, 8, 7, 0, [])]
def s223_7 : List Ent := [(85, .ireturn, 1, 0, 0, 0, [])]
def sg223 : List (List Ent) := [s223_0, s223_1, s223_2, s223_3, s223_4, s223_5, s223_6, s223_7]
theorem ch223 : chkM mi223.2.1 mi223.2.2.1 mi223.2.2.2 lkRX8 sg223 = true := by decide +kernel
def s224_0 : List Ent := [(0, .iconst 0, 1, 0, 0, 0, []), (1, .istore_n 1, 1, 0, 0, 0, [])]
def s224_1 : List Ent := [(2, .iload_n 1, 1, 0, 0, 0, []), (3, .sipush 139, 3, 0, 0, 0, []), (6, .if_icmp .ge 21, 3, 27, 0, 0, [])]
def s224_2 : List Ent := [(9, .aload_n 0, 1, 0, 0, 0, []), (10, .getfield 13, 3, 8, 1, 2, []), (13, .iload_n 1, 1, 0, 0, 0, []), (14, .aload_n 0, 1, 0, 0, 0, []), (15, .getfield 9, 3, 8, 0, 2, []), (18, .iload_n 1, 1, 0, 0, 0, []), (19, .iaload, 1, 0, 0, 0, []), (20, .iastore, 1, 0, 0, 0, []), (21, .iinc 1 1, 3, 0, 0, 0, []), (24, .goto (-22), 3, 2, 0, 0, [])]
def s224_3 : List Ent := [(27, .aload_n 0, 1, 0, 0, 0, []), (28, .iconst 1, 1, 0, 0, 0, []), (29, .putfield 355, 3, 8, 2, 3, []), (32, .aload_n 0, 1, 0, 0, 0, []), (33, .getfield 9, 3, 8, 0, 2, []), (36, .iconst 0, 1, 0, 0, 0, []), (37, .iaload, 1, 0, 0, 0, [])]
def s224_4 : List Ent := [(38, .ireturn, 1, 0, 0, 0, [])]
def sg224 : List (List Ent) := [s224_0, s224_1, s224_2, s224_3, s224_4]
theorem ch224 : chkM mi224.2.1 mi224.2.2.1 mi224.2.2.2 lkRX8 sg224 = true := by decide +kernel
def s225_0 : List Ent := [(0, .aload_n 0, 1, 0, 0, 0, []), (1, .getfield 355, 3, 8, 2, 3, []), (4, .ifCond .ne 9, 3, 13, 0, 0, [])]
def s225_1 : List Ent := [(7, .aload_n 0, 1, 0, 0, 0, []), (8, .iconst 3, 1, 0, 0, 0, [])]
def s225_2 : List Ent := [(9, .invokevirtual 64, 3, 120, 1, 8, [])]
def s225_3 : List Ent := [(12, .ireturn, 1, 0, 0, 0, [])]
def s225_4 : List Ent := [(13, .iconst 0, 1, 0, 0, 0, []), (14, .istore_n 1, 1, 0, 0, 0, [])]
def s225_5 : List Ent := [(15, .iload_n 1, 1, 0, 0, 0, []), (16, .sipush 139, 3, 0, 0, 0, []), (19, .if_icmp .ge 21, 3, 40, 0, 0, [])]
def s225_6 : List Ent := [(22, .aload_n 0, 1, 0, 0, 0, []), (23, .getfield 9, 3, 8, 0, 2, []), (26, .iload_n 1, 1, 0, 0, 0, []), (27, .aload_n 0, 1, 0, 0, 0, []), (28, .getfield 13, 3, 8, 1, 2, []), (31, .iload_n 1, 1, 0, 0, 0, []), (32, .iaload, 1, 0, 0, 0, []), (33, .iastore, 1, 0, 0, 0, []), (34, .iinc 1 1, 3, 0, 0, 0, []), (37, .goto (-22), 3, 15, 0, 0, [])]
def s225_7 : List Ent := [(40, .aload_n 0, 1, 0, 0, 0, []), (41, .iconst 0, 1, 0, 0, 0, []), (42, .putfield 88, 3, 8, 7, 0, []), (45, .aload_n 0, 1, 0, 0, 0, []), (46, .getfield 9, 3, 8, 0, 2, []), (49, .iconst 0, 1, 0, 0, 0, []), (50, .iaload, 1, 0, 0, 0, [])]
def s225_8 : List Ent := [(51, .ireturn, 1, 0, 0, 0, [])]
def sg225 : List (List Ent) := [s225_0, s225_1, s225_2, s225_3, s225_4, s225_5, s225_6, s225_7, s225_8]
theorem ch225 : chkM mi225.2.1 mi225.2.2.1 mi225.2.2.2 lkRX8 sg225 = true := by decide +kernel
def s226_0 : List Ent := [(0, .iconst 0, 1, 0, 0, 0, []), (1, .istore_n 1, 1, 0, 0, 0, []), (2, .iconst 0, 1, 0, 0, 0, []), (3, .istore_n 2, 1, 0, 0, 0, [])]
def s226_1 : List Ent := [(4, .iload_n 2, 1, 0, 0, 0, []), (5, .aload_n 0, 1, 0, 0, 0, []), (6, .getfield 9, 3, 8, 0, 2, []), (9, .iconst 0, 1, 0, 0, 0, []), (10, .iaload, 1, 0, 0, 0, []), (11, .if_icmp .ge 31, 3, 42, 0, 0, [])]
def s226_2 : List Ent := [(14, .iload_n 1, 1, 0, 0, 0, []), (15, .aload_n 0, 1, 0, 0, 0, []), (16, .getfield 9, 3, 8, 0, 2, []), (19, .bipush 49, 2, 0, 0, 0, []), (21, .iload_n 2, 1, 0, 0, 0, []), (22, .iadd, 1, 0, 0, 0, []), (23, .iaload, 1, 0, 0, 0, []), (24, .ifCond .le 9, 3, 33, 0, 0, [])]
def s226_3 : List Ent := [(27, .iconst 1, 1, 0, 0, 0, []), (28, .iload_n 2, 1, 0, 0, 0, []), (29, .ishl, 1, 0, 0, 0, []), (30, .goto 4, 3, 34, 0, 0, [])]
def s226_4 : List Ent := [(33, .iconst 0, 1, 0, 0, 0, [])]
def s226_5 : List Ent := [(34, .ior, 1, 0, 0, 0, []), (35, .istore_n 1, 1, 0, 0, 0, []), (36, .iinc 2 1, 3, 0, 0, 0, []), (39, .goto (-35), 3, 4, 0, 0, [])]
def s226_6 : List Ent := [(42, .iload_n 1, 1, 0, 0, 0, [])]
def s226_7 : List Ent := [(43, .ireturn, 1, 0, 0, 0, [])]
def sg226 : List (List Ent) := [s226_0, s226_1, s226_2, s226_3, s226_4, s226_5, s226_6, s226_7]
theorem ch226 : chkM mi226.2.1 mi226.2.2.1 mi226.2.2.2 lkRX8 sg226 = true := by decide +kernel
def s227_0 : List Ent := [(0, .iload_n 1, 1, 0, 0, 0, []), (1, .tableswitch 80 0 4 #[35, 42, 47, 52, 75], 35, 81, 0, 0, [36, 43, 48, 53, 76])]
def s227_1 : List Ent := [(36, .aload_n 0, 1, 0, 0, 0, []), (37, .getfield 9, 3, 8, 0, 2, []), (40, .iconst 0, 1, 0, 0, 0, []), (41, .iaload, 1, 0, 0, 0, [])]
def s227_2 : List Ent := [(42, .ireturn, 1, 0, 0, 0, [])]
def s227_3 : List Ent := [(43, .aload_n 0, 1, 0, 0, 0, []), (44, .getfield 82, 3, 8, 5, 0, [])]
def s227_4 : List Ent := [(47, .ireturn, 1, 0, 0, 0, [])]
def s227_5 : List Ent := [(48, .aload_n 0, 1, 0, 0, 0, [])]
def s227_6 : List Ent := [(49, .invokevirtual 359, 3, 226, 0, 8, [])]
def s227_7 : List Ent := [(52, .ireturn, 1, 0, 0, 0, [])]
def s227_8 : List Ent := [(53, .aload_n 0, 1, 0, 0, 0, []), (54, .getfield 9, 3, 8, 0, 2, []), (57, .bipush 66, 2, 0, 0, 0, []), (59, .iaload, 1, 0, 0, 0, []), (60, .ifCond .ne 8, 3, 68, 0, 0, [])]
def s227_9 : List Ent := [(63, .bipush (-9), 2, 0, 0, 0, []), (65, .goto 10, 3, 75, 0, 0, [])]
def s227_10 : List Ent := [(68, .aload_n 0, 1, 0, 0, 0, []), (69, .getfield 9, 3, 8, 0, 2, []), (72, .bipush 65, 2, 0, 0, 0, []), (74, .iaload, 1, 0, 0, 0, [])]
def s227_11 : List Ent := [(75, .ireturn, 1, 0, 0, 0, [])]
def s227_12 : List Ent := [(76, .aload_n 0, 1, 0, 0, 0, []), (77, .getfield 88, 3, 8, 7, 0, [])]
def s227_13 : List Ent := [(80, .ireturn, 1, 0, 0, 0, [])]
def s227_14 : List Ent := [(81, .iload_n 1, 1, 0, 0, 0, []), (82, .i2l, 1, 0, 0, 0, []), (83, .ldc2_w 362, 3, 0, 0, 0, [11]), (86, .ldc2_w 364, 3, 0, 0, 0, [16])]
def s227_15 : List Ent := [(89, .invokestatic 74, 3, 117, 3, 0, [])]
def s227_16 : List Ent := [(92, .ifCond .eq 15, 3, 107, 0, 0, [])]
def s227_17 : List Ent := [(95, .aload_n 0, 1, 0, 0, 0, []), (96, .getfield 16, 3, 8, 3, 2, []), (99, .iload_n 1, 1, 0, 0, 0, []), (100, .bipush 10, 2, 0, 0, 0, []), (102, .isub, 1, 0, 0, 0, []), (103, .iaload, 1, 0, 0, 0, []), (104, .goto 5, 3, 109, 0, 0, [])]
def s227_18 : List Ent := [(107, .bipush (-9), 2, 0, 0, 0, [])]
def s227_19 : List Ent := [(109, .ireturn, 1, 0, 0, 0, [])]
def sg227 : List (List Ent) := [s227_0, s227_1, s227_2, s227_3, s227_4, s227_5, s227_6, s227_7, s227_8, s227_9, s227_10, s227_11, s227_12, s227_13, s227_14, s227_15, s227_16, s227_17, s227_18, s227_19]
theorem ch227 : chkM mi227.2.1 mi227.2.2.1 mi227.2.2.2 lkRX8 sg227 = true := by decide +kernel
def s228_0 : List Ent := [(0, .iload_n 0, 1, 0, 0, 0, []), (1, .iload_n 0, 1, 0, 0, 0, []), (2, .iconst 1, 1, 0, 0, 0, []), (3, .iushr, 1, 0, 0, 0, []), (4, .ldc_w 265, 3, 0, 0, 0, [1431655765]), (7, .iand, 1, 0, 0, 0, []), (8, .isub, 1, 0, 0, 0, []), (9, .istore_n 0, 1, 0, 0, 0, []), (10, .iload_n 0, 1, 0, 0, 0, []), (11, .ldc_w 266, 3, 0, 0, 0, [858993459]), (14, .iand, 1, 0, 0, 0, []), (15, .iload_n 0, 1, 0, 0, 0, []), (16, .iconst 2, 1, 0, 0, 0, []), (17, .iushr, 1, 0, 0, 0, []), (18, .ldc_w 266, 3, 0, 0, 0, [858993459]), (21, .iand, 1, 0, 0, 0, []), (22, .iadd, 1, 0, 0, 0, []), (23, .istore_n 0, 1, 0, 0, 0, []), (24, .iload_n 0, 1, 0, 0, 0, []), (25, .iload_n 0, 1, 0, 0, 0, []), (26, .iconst 4, 1, 0, 0, 0, []), (27, .iushr, 1, 0, 0, 0, []), (28, .iadd, 1, 0, 0, 0, []), (29, .ldc_w 267, 3, 0, 0, 0, [252645135]), (32, .iand, 1, 0, 0, 0, []), (33, .istore_n 0, 1, 0, 0, 0, []), (34, .iload_n 0, 1, 0, 0, 0, []), (35, .iload_n 0, 1, 0, 0, 0, []), (36, .bipush 8, 2, 0, 0, 0, []), (38, .iushr, 1, 0, 0, 0, []), (39, .iadd, 1, 0, 0, 0, []), (40, .istore_n 0, 1, 0, 0, 0, []), (41, .iload_n 0, 1, 0, 0, 0, []), (42, .iload_n 0, 1, 0, 0, 0, []), (43, .bipush 16, 2, 0, 0, 0, []), (45, .iushr, 1, 0, 0, 0, []), (46, .iadd, 1, 0, 0, 0, []), (47, .istore_n 0, 1, 0, 0, 0, []), (48, .iload_n 0, 1, 0, 0, 0, []), (49, .bipush 63, 2, 0, 0, 0, []), (51, .iand, 1, 0, 0, 0, [])]
def s228_1 : List Ent := [(52, .ireturn, 1, 0, 0, 0, [])]
def sg228 : List (List Ent) := [s228_0, s228_1]
theorem ch228 : chkM mi228.2.1 mi228.2.2.1 mi228.2.2.2 lkRJ6 sg228 = true := by decide +kernel
def s229_0 : List Ent := [(0, .iconst 0, 1, 0, 0, 0, []), (1, .istore_n 3, 1, 0, 0, 0, []), (2, .aload_n 0, 1, 0, 0, 0, []), (3, .arraylength, 1, 0, 0, 0, []), (4, .istore 4, 2, 0, 0, 0, [])]
def s229_1 : List Ent := [(6, .iload_n 3, 1, 0, 0, 0, []), (7, .iload 4, 2, 0, 0, 0, []), (9, .if_icmp .ge 13, 3, 22, 0, 0, [])]
def s229_2 : List Ent := [(12, .aload_n 0, 1, 0, 0, 0, []), (13, .iload_n 3, 1, 0, 0, 0, []), (14, .lload_n 1, 1, 0, 0, 0, []), (15, .lastore, 1, 0, 0, 0, []), (16, .iinc 3 1, 3, 0, 0, 0, []), (19, .goto (-13), 3, 6, 0, 0, [])]
def s229_3 : List Ent := [(22, .return_, 1, 0, 0, 0, [])]
def sg229 : List (List Ent) := [s229_0, s229_1, s229_2, s229_3]
theorem ch229 : chkM mi229.2.1 mi229.2.2.1 mi229.2.2.2 lkRJ7 sg229 = true := by decide +kernel
def s230_0 : List Ent := [(0, .iconst 0, 1, 0, 0, 0, []), (1, .istore_n 2, 1, 0, 0, 0, []), (2, .aload_n 0, 1, 0, 0, 0, []), (3, .arraylength, 1, 0, 0, 0, []), (4, .istore_n 3, 1, 0, 0, 0, [])]
def s230_1 : List Ent := [(5, .iload_n 2, 1, 0, 0, 0, []), (6, .iload_n 3, 1, 0, 0, 0, []), (7, .if_icmp .ge 13, 3, 20, 0, 0, [])]
def s230_2 : List Ent := [(10, .aload_n 0, 1, 0, 0, 0, []), (11, .iload_n 2, 1, 0, 0, 0, []), (12, .iload_n 1, 1, 0, 0, 0, []), (13, .iastore, 1, 0, 0, 0, []), (14, .iinc 2 1, 3, 0, 0, 0, []), (17, .goto (-12), 3, 5, 0, 0, [])]
def s230_3 : List Ent := [(20, .return_, 1, 0, 0, 0, [])]
def sg230 : List (List Ent) := [s230_0, s230_1, s230_2, s230_3]
theorem ch230 : chkM mi230.2.1 mi230.2.2.1 mi230.2.2.2 lkRJ7 sg230 = true := by decide +kernel
end
section
def sgL : List (List (List Ent)) := [sg0, sg1, sg2, sg3, sg4, sg5, sg6, sg7, sg8, sg9, sg10, sg11, sg12, sg13, sg14, sg15, sg16, sg17, sg18, sg19, sg20, sg21, sg22, sg23, sg24, sg25, sg26, sg27, sg28, sg29, sg30, sg31, sg32, sg33, sg34, sg35, sg36, sg37, sg38, sg39, sg40, sg41, sg42, sg43, sg44, sg45, sg46, sg47, sg48, sg49, sg50, sg51, sg52, sg53, sg54, sg55, sg56, sg57, sg58, sg59, sg60, sg61, sg62, sg63, sg64, sg65, sg66, sg67, sg68, sg69, sg70, sg71, sg72, sg73, sg74, sg75, sg76, sg77, sg78, sg79, sg80, sg81, sg82, sg83, sg84, sg85, sg86, sg87, sg88, sg89, sg90, sg91, sg92, sg93, sg94, sg95, sg96, sg97, sg98, sg99, sg100, sg101, sg102, sg103, sg104, sg105, sg106, sg107, sg108, sg109, sg110, sg111, sg112, sg113, sg114, sg115, sg116, sg117, sg118, sg119, sg120, sg121, sg122, sg123, sg124, sg125, sg126, sg127, sg128, sg129, sg130, sg131, sg132, sg133, sg134, sg135, sg136, sg137, sg138, sg139, sg140, sg141, sg142, sg143, sg144, sg145, sg146, sg147, sg148, sg149, sg150, sg151, sg152, sg153, sg154, sg155, sg156, sg157, sg158, sg159, sg160, sg161, sg162, sg163, sg164, sg165, sg166, sg167, sg168, sg169, sg170, sg171, sg172, sg173, sg174, sg175, sg176, sg177, sg178, sg179, sg180, sg181, sg182, sg183, sg184, sg185, sg186, sg187, sg188, sg189, sg190, sg191, sg192, sg193, sg194, sg195, sg196, sg197, sg198, sg199, sg200, sg201, sg202, sg203, sg204, sg205, sg206, sg207, sg208, sg209, sg210, sg211, sg212, sg213, sg214, sg215, sg216, sg217, sg218, sg219, sg220, sg221, sg222, sg223, sg224, sg225, sg226, sg227, sg228, sg229, sg230]
def CT (k : Nat) : List (List Ent) := sgL.getD k []
theorem mo0 : MthOK MT CT 0 := ⟨by decide +kernel, tb_3 76 (by decide +kernel) rfl, chkM_ok lkRX0_ok ch0⟩
theorem mo1 : MthOK MT CT 1 := ⟨by decide +kernel, tb_3 108 (by decide +kernel) rfl, chkM_ok lkRX0_ok ch1⟩
theorem mo2 : MthOK MT CT 2 := ⟨by decide +kernel, tb_3 99 (by decide +kernel) rfl, chkM_ok lkRX0_ok ch2⟩
theorem mo3 : MthOK MT CT 3 := ⟨by decide +kernel, tb_3 104 (by decide +kernel) rfl, chkM_ok lkRX0_ok ch3⟩
theorem mo4 : MthOK MT CT 4 := ⟨by decide +kernel, tb_2 139 (by decide +kernel) rfl, chkM_ok lkRX1_ok ch4⟩
theorem mo5 : MthOK MT CT 5 := ⟨by decide +kernel, tb_2 146 (by decide +kernel) rfl, chkM_ok lkRX1_ok ch5⟩
theorem mo6 : MthOK MT CT 6 := ⟨by decide +kernel, tb_2 150 (by decide +kernel) rfl, chkM_ok lkRX1_ok ch6⟩
theorem mo7 : MthOK MT CT 7 := ⟨by decide +kernel, tb_2 225 (by decide +kernel) rfl, chkM_ok lkRX1_ok ch7⟩
theorem mo8 : MthOK MT CT 8 := ⟨by decide +kernel, tb_2 170 (by decide +kernel) rfl, chkM_ok lkRX2_ok ch8⟩
theorem mo9 : MthOK MT CT 9 := ⟨by decide +kernel, tb_2 115 (by decide +kernel) rfl, chkM_ok lkRX2_ok ch9⟩
theorem mo10 : MthOK MT CT 10 := ⟨by decide +kernel, tb_4 111 (by decide +kernel) rfl, chkM_ok lkRX2_ok ch10⟩
theorem mo11 : MthOK MT CT 11 := ⟨by decide +kernel, tb_4 122 (by decide +kernel) rfl, chkM_ok lkRX3_ok ch11⟩
theorem mo12 : MthOK MT CT 12 := ⟨by decide +kernel, tb_2 108 (by decide +kernel) rfl, chkM_ok lkRX3_ok ch12⟩
theorem mo13 : MthOK MT CT 13 := ⟨by decide +kernel, tb_4 43 (by decide +kernel) rfl, chkM_ok lkRX3_ok ch13⟩
theorem mo14 : MthOK MT CT 14 := ⟨by decide +kernel, tb_4 53 (by decide +kernel) rfl, chkM_ok lkRX3_ok ch14⟩
theorem mo15 : MthOK MT CT 15 := ⟨by decide +kernel, tb_3 132 (by decide +kernel) rfl, chkM_ok lkRX3_ok ch15⟩
theorem mo16 : MthOK MT CT 16 := ⟨by decide +kernel, tb_3 147 (by decide +kernel) rfl, chkM_ok lkRX3_ok ch16⟩
theorem mo17 : MthOK MT CT 17 := ⟨by decide +kernel, tb_3 143 (by decide +kernel) rfl, chkM_ok lkRX3_ok ch17⟩
theorem mo18 : MthOK MT CT 18 := ⟨by decide +kernel, tb_3 158 (by decide +kernel) rfl, chkM_ok lkRX3_ok ch18⟩
theorem mo19 : MthOK MT CT 19 := ⟨by decide +kernel, tb_3 162 (by decide +kernel) rfl, chkM_ok lkRX3_ok ch19⟩
theorem mo20 : MthOK MT CT 20 := ⟨by decide +kernel, tb_3 221 (by decide +kernel) rfl, chkM_ok lkRX4_ok ch20⟩
theorem mo21 : MthOK MT CT 21 := ⟨by decide +kernel, tb_3 228 (by decide +kernel) rfl, chkM_ok lkRX4_ok ch21⟩
theorem mo22 : MthOK MT CT 22 := ⟨by decide +kernel, tb_3 232 (by decide +kernel) rfl, chkM_ok lkRX4_ok ch22⟩
theorem mo23 : MthOK MT CT 23 := ⟨by decide +kernel, tb_3 236 (by decide +kernel) rfl, chkM_ok lkRX4_ok ch23⟩
theorem mo24 : MthOK MT CT 24 := ⟨by decide +kernel, tb_4 0 (by decide +kernel) rfl, chkM_ok lkRX4_ok ch24⟩
theorem mo25 : MthOK MT CT 25 := ⟨by decide +kernel, tb_4 15 (by decide +kernel) rfl, chkM_ok lkRX4_ok ch25⟩
theorem mo26 : MthOK MT CT 26 := ⟨by decide +kernel, tb_4 11 (by decide +kernel) rfl, chkM_ok lkRX4_ok ch26⟩
theorem mo27 : MthOK MT CT 27 := ⟨by decide +kernel, tb_4 32 (by decide +kernel) rfl, chkM_ok lkRX4_ok ch27⟩
theorem mo28 : MthOK MT CT 28 := ⟨by decide +kernel, tb_4 4 (by decide +kernel) rfl, chkM_ok lkRX4_ok ch28⟩
theorem mo29 : MthOK MT CT 29 := ⟨by decide +kernel, tb_4 36 (by decide +kernel) rfl, chkM_ok lkRX4_ok ch29⟩
theorem mo30 : MthOK MT CT 30 := ⟨by decide +kernel, tb_4 7 (by decide +kernel) rfl, chkM_ok lkRX4_ok ch30⟩
theorem mo31 : MthOK MT CT 31 := ⟨by decide +kernel, tb_4 19 (by decide +kernel) rfl, chkM_ok lkRX4_ok ch31⟩
theorem mo32 : MthOK MT CT 32 := ⟨by decide +kernel, tb_4 23 (by decide +kernel) rfl, chkM_ok lkRX4_ok ch32⟩
theorem mo33 : MthOK MT CT 33 := ⟨by decide +kernel, tb_4 28 (by decide +kernel) rfl, chkM_ok lkRX4_ok ch33⟩
theorem mo34 : MthOK MT CT 34 := ⟨by decide +kernel, tb_4 39 (by decide +kernel) rfl, chkM_ok lkRX4_ok ch34⟩
theorem mo35 : MthOK MT CT 35 := ⟨by decide +kernel, tb_4 69 (by decide +kernel) rfl, chkM_ok lkRX4_ok ch35⟩
theorem mo36 : MthOK MT CT 36 := ⟨by decide +kernel, tb_4 57 (by decide +kernel) rfl, chkM_ok lkRX4_ok ch36⟩
theorem mo37 : MthOK MT CT 37 := ⟨by decide +kernel, tb_4 61 (by decide +kernel) rfl, chkM_ok lkRX4_ok ch37⟩
theorem mo38 : MthOK MT CT 38 := ⟨by decide +kernel, tb_3 47 (by decide +kernel) rfl, chkM_ok lkRX5_ok ch38⟩
theorem mo39 : MthOK MT CT 39 := ⟨by decide +kernel, tb_3 50 (by decide +kernel) rfl, chkM_ok lkRX5_ok ch39⟩
theorem mo40 : MthOK MT CT 40 := ⟨by decide +kernel, tb_3 58 (by decide +kernel) rfl, chkM_ok lkRX5_ok ch40⟩
theorem mo41 : MthOK MT CT 41 := ⟨by decide +kernel, tb_3 63 (by decide +kernel) rfl, chkM_ok lkRX5_ok ch41⟩
theorem mo42 : MthOK MT CT 42 := ⟨by decide +kernel, tb_3 201 (by decide +kernel) rfl, chkM_ok lkRX5_ok ch42⟩
theorem mo43 : MthOK MT CT 43 := ⟨by decide +kernel, tb_3 208 (by decide +kernel) rfl, chkM_ok lkRX5_ok ch43⟩
theorem mo44 : MthOK MT CT 44 := ⟨by decide +kernel, tb_3 211 (by decide +kernel) rfl, chkM_ok lkRX5_ok ch44⟩
theorem mo45 : MthOK MT CT 45 := ⟨by decide +kernel, tb_3 185 (by decide +kernel) rfl, chkM_ok lkRX5_ok ch45⟩
theorem mo46 : MthOK MT CT 46 := ⟨by decide +kernel, tb_3 189 (by decide +kernel) rfl, chkM_ok lkRX5_ok ch46⟩
theorem mo47 : MthOK MT CT 47 := ⟨by decide +kernel, tb_3 193 (by decide +kernel) rfl, chkM_ok lkRX5_ok ch47⟩
theorem mo48 : MthOK MT CT 48 := ⟨by decide +kernel, tb_2 119 (by decide +kernel) rfl, chkM_ok lkRX6_ok ch48⟩
theorem mo49 : MthOK MT CT 49 := ⟨by decide +kernel, tb_2 122 (by decide +kernel) rfl, chkM_ok lkRX6_ok ch49⟩
theorem mo50 : MthOK MT CT 50 := ⟨by decide +kernel, tb_2 134 (by decide +kernel) rfl, chkM_ok lkRX6_ok ch50⟩
theorem mo51 : MthOK MT CT 51 := ⟨by decide +kernel, tb_2 185 (by decide +kernel) rfl, chkM_ok lkRX6_ok ch51⟩
theorem mo52 : MthOK MT CT 52 := ⟨by decide +kernel, tb_2 219 (by decide +kernel) rfl, chkM_ok lkRX6_ok ch52⟩
theorem mo53 : MthOK MT CT 53 := ⟨by decide +kernel, tb_2 207 (by decide +kernel) rfl, chkM_ok lkRX6_ok ch53⟩
theorem mo54 : MthOK MT CT 54 := ⟨by decide +kernel, tb_3 16 (by decide +kernel) rfl, chkM_ok lkRX6_ok ch54⟩
theorem mo55 : MthOK MT CT 55 := ⟨by decide +kernel, tb_3 20 (by decide +kernel) rfl, chkM_ok lkRX6_ok ch55⟩
theorem mo56 : MthOK MT CT 56 := ⟨by decide +kernel, tb_2 93 (by decide +kernel) rfl, chkM_ok lkRX7_ok ch56⟩
theorem mo57 : MthOK MT CT 57 := ⟨by decide +kernel, tb_2 101 (by decide +kernel) rfl, chkM_ok lkRX7_ok ch57⟩
theorem mo58 : MthOK MT CT 58 := ⟨by decide +kernel, tb_2 154 (by decide +kernel) rfl, chkM_ok lkRX7_ok ch58⟩
theorem mo59 : MthOK MT CT 59 := ⟨by decide +kernel, tb_2 177 (by decide +kernel) rfl, chkM_ok lkRX7_ok ch59⟩
theorem mo60 : MthOK MT CT 60 := ⟨by decide +kernel, tb_2 181 (by decide +kernel) rfl, chkM_ok lkRX7_ok ch60⟩
theorem mo61 : MthOK MT CT 61 := ⟨by decide +kernel, tb_2 193 (by decide +kernel) rfl, chkM_ok lkRX7_ok ch61⟩
theorem mo62 : MthOK MT CT 62 := ⟨by decide +kernel, tb_2 197 (by decide +kernel) rfl, chkM_ok lkRX7_ok ch62⟩
theorem mo63 : MthOK MT CT 63 := ⟨by decide +kernel, tb_2 203 (by decide +kernel) rfl, chkM_ok lkRX7_ok ch63⟩
theorem mo64 : MthOK MT CT 64 := ⟨by decide +kernel, tb_2 211 (by decide +kernel) rfl, chkM_ok lkRX7_ok ch64⟩
theorem mo65 : MthOK MT CT 65 := ⟨by decide +kernel, tb_2 237 (by decide +kernel) rfl, chkM_ok lkRX7_ok ch65⟩
theorem mo66 : MthOK MT CT 66 := ⟨by decide +kernel, tb_3 27 (by decide +kernel) rfl, chkM_ok lkRX7_ok ch66⟩
theorem mo67 : MthOK MT CT 67 := ⟨by decide +kernel, tb_3 43 (by decide +kernel) rfl, chkM_ok lkRX7_ok ch67⟩
theorem mo68 : MthOK MT CT 68 := ⟨by decide +kernel, tb_3 54 (by decide +kernel) rfl, chkM_ok lkRX7_ok ch68⟩
theorem mo69 : MthOK MT CT 69 := ⟨by decide +kernel, tb_3 68 (by decide +kernel) rfl, chkM_ok lkRX7_ok ch69⟩
theorem mo70 : MthOK MT CT 70 := ⟨by decide +kernel, tb_3 87 (by decide +kernel) rfl, chkM_ok lkRX7_ok ch70⟩
theorem mo71 : MthOK MT CT 71 := ⟨by decide +kernel, tb_3 95 (by decide +kernel) rfl, chkM_ok lkRX7_ok ch71⟩
theorem mo72 : MthOK MT CT 72 := ⟨by decide +kernel, tb_3 115 (by decide +kernel) rfl, chkM_ok lkRX7_ok ch72⟩
theorem mo73 : MthOK MT CT 73 := ⟨by decide +kernel, tb_3 120 (by decide +kernel) rfl, chkM_ok lkRX7_ok ch73⟩
theorem mo74 : MthOK MT CT 74 := ⟨by decide +kernel, tb_3 124 (by decide +kernel) rfl, chkM_ok lkRX7_ok ch74⟩
theorem mo75 : MthOK MT CT 75 := ⟨by decide +kernel, tb_3 128 (by decide +kernel) rfl, chkM_ok lkRX7_ok ch75⟩
theorem mo76 : MthOK MT CT 76 := ⟨by decide +kernel, tb_3 136 (by decide +kernel) rfl, chkM_ok lkRX7_ok ch76⟩
theorem mo77 : MthOK MT CT 77 := ⟨by decide +kernel, tb_3 166 (by decide +kernel) rfl, chkM_ok lkRX7_ok ch77⟩
theorem mo78 : MthOK MT CT 78 := ⟨by decide +kernel, tb_3 173 (by decide +kernel) rfl, chkM_ok lkRX7_ok ch78⟩
theorem mo79 : MthOK MT CT 79 := ⟨by decide +kernel, tb_3 177 (by decide +kernel) rfl, chkM_ok lkRX7_ok ch79⟩
theorem mo80 : MthOK MT CT 80 := ⟨by decide +kernel, tb_3 181 (by decide +kernel) rfl, chkM_ok lkRX7_ok ch80⟩
theorem mo81 : MthOK MT CT 81 := ⟨by decide +kernel, tb_3 197 (by decide +kernel) rfl, chkM_ok lkRX7_ok ch81⟩
theorem mo82 : MthOK MT CT 82 := ⟨by decide +kernel, tb_3 217 (by decide +kernel) rfl, chkM_ok lkRX7_ok ch82⟩
theorem mo83 : MthOK MT CT 83 := ⟨by decide +kernel, tb_4 49 (by decide +kernel) rfl, chkM_ok lkRX7_ok ch83⟩
theorem mo84 : MthOK MT CT 84 := ⟨by decide +kernel, tb_4 65 (by decide +kernel) rfl, chkM_ok lkRX7_ok ch84⟩
theorem mo85 : MthOK MT CT 85 := ⟨by decide +kernel, tb_4 73 (by decide +kernel) rfl, chkM_ok lkRX7_ok ch85⟩
theorem mo86 : MthOK MT CT 86 := ⟨by decide +kernel, tb_4 77 (by decide +kernel) rfl, chkM_ok lkRX7_ok ch86⟩
theorem mo87 : MthOK MT CT 87 := ⟨by decide +kernel, tb_4 85 (by decide +kernel) rfl, chkM_ok lkRX7_ok ch87⟩
theorem mo88 : MthOK MT CT 88 := ⟨by decide +kernel, tb_4 90 (by decide +kernel) rfl, chkM_ok lkRX7_ok ch88⟩
theorem mo89 : MthOK MT CT 89 := ⟨by decide +kernel, tb_4 94 (by decide +kernel) rfl, chkM_ok lkRX7_ok ch89⟩
theorem mo90 : MthOK MT CT 90 := ⟨by decide +kernel, tb_4 98 (by decide +kernel) rfl, chkM_ok lkRX7_ok ch90⟩
theorem mo91 : MthOK MT CT 91 := ⟨by decide +kernel, tb_4 103 (by decide +kernel) rfl, chkM_ok lkRX7_ok ch91⟩
theorem mo92 : MthOK MT CT 92 := ⟨by decide +kernel, tb_4 107 (by decide +kernel) rfl, chkM_ok lkRX7_ok ch92⟩
theorem mo93 : MthOK MT CT 93 := ⟨by decide +kernel, tb_4 118 (by decide +kernel) rfl, chkM_ok lkRX7_ok ch93⟩
theorem mo94 : MthOK MT CT 94 := ⟨by decide +kernel, tb_4 127 (by decide +kernel) rfl, chkM_ok lkRX7_ok ch94⟩
theorem mo95 : MthOK MT CT 95 := ⟨by decide +kernel, tb_4 131 (by decide +kernel) rfl, chkM_ok lkRX7_ok ch95⟩
theorem mo96 : MthOK MT CT 96 := ⟨by decide +kernel, tb_2 97 (by decide +kernel) rfl, chkM_ok lkRX7_ok ch96⟩
theorem mo97 : MthOK MT CT 97 := ⟨by decide +kernel, tb_2 165 (by decide +kernel) rfl, chkM_ok lkRX7_ok ch97⟩
theorem mo98 : MthOK MT CT 98 := ⟨by decide +kernel, tb_3 31 (by decide +kernel) rfl, chkM_ok lkRX7_ok ch98⟩
theorem mo99 : MthOK MT CT 99 := ⟨by decide +kernel, tb_2 158 (by decide +kernel) rfl, chkM_ok lkRX7_ok ch99⟩
theorem mo100 : MthOK MT CT 100 := ⟨by decide +kernel, tb_2 161 (by decide +kernel) rfl, chkM_ok lkRX7_ok ch100⟩
theorem mo101 : MthOK MT CT 101 := ⟨by decide +kernel, tb_2 104 (by decide +kernel) rfl, chkM_ok lkRX7_ok ch101⟩
theorem mo102 : MthOK MT CT 102 := ⟨by decide +kernel, tb_3 35 (by decide +kernel) rfl, chkM_ok lkRX7_ok ch102⟩
theorem mo103 : MthOK MT CT 103 := ⟨by decide +kernel, tb_3 169 (by decide +kernel) rfl, chkM_ok lkRX7_ok ch103⟩
theorem mo104 : MthOK MT CT 104 := ⟨by decide +kernel, tb_2 215 (by decide +kernel) rfl, chkM_ok lkRX7_ok ch104⟩
theorem mo105 : MthOK MT CT 105 := ⟨by decide +kernel, tb_3 72 (by decide +kernel) rfl, chkM_ok lkRX7_ok ch105⟩
theorem mo106 : MthOK MT CT 106 := ⟨by decide +kernel, tb_3 91 (by decide +kernel) rfl, chkM_ok lkRX7_ok ch106⟩
theorem mo107 : MthOK MT CT 107 := ⟨by decide +kernel, tb_3 0 (by decide +kernel) rfl, chkM_ok lkRX7_ok ch107⟩
theorem mo108 : MthOK MT CT 108 := ⟨by decide +kernel, tb_3 4 (by decide +kernel) rfl, chkM_ok lkRX7_ok ch108⟩
theorem mo109 : MthOK MT CT 109 := ⟨by decide +kernel, tb_3 12 (by decide +kernel) rfl, chkM_ok lkRX7_ok ch109⟩
theorem mo110 : MthOK MT CT 110 := ⟨by decide +kernel, tb_3 8 (by decide +kernel) rfl, chkM_ok lkRX7_ok ch110⟩
theorem mo111 : MthOK MT CT 111 := ⟨by decide +kernel, tb_3 152 (by decide +kernel) rfl, chkM_ok lkRX7_ok ch111⟩
theorem mo112 : MthOK MT CT 112 := ⟨by decide +kernel, tb_2 142 (by decide +kernel) rfl, chkM_ok lkRX7_ok ch112⟩
theorem mo113 : MthOK MT CT 113 := ⟨by decide +kernel, tb_3 139 (by decide +kernel) rfl, chkM_ok lkRX7_ok ch113⟩
theorem mo114 : MthOK MT CT 114 := ⟨by decide +kernel, tb_2 189 (by decide +kernel) rfl, chkM_ok lkRX7_ok ch114⟩
theorem mo115 : MthOK MT CT 115 := ⟨by decide +kernel, tb_2 229 (by decide +kernel) rfl, chkM_ok lkRX7_ok ch115⟩
theorem mo116 : MthOK MT CT 116 := ⟨by decide +kernel, tb_3 38 (by decide +kernel) rfl, chkM_ok lkRX7_ok ch116⟩
theorem mo117 : MthOK MT CT 117 := ⟨by decide +kernel, tb_4 237 (by decide +kernel) rfl, chkM_ok lkRX8_ok ch117⟩
theorem mo118 : MthOK MT CT 118 := ⟨by decide +kernel, tb_5 41 (by decide +kernel) rfl, chkM_ok lkRX8_ok ch118⟩
theorem mo119 : MthOK MT CT 119 := ⟨by decide +kernel, tb_5 90 (by decide +kernel) rfl, chkM_ok lkRX8_ok ch119⟩
theorem mo120 : MthOK MT CT 120 := ⟨by decide +kernel, tb_4 229 (by decide +kernel) rfl, chkM_ok lkRX8_ok ch120⟩
theorem mo121 : MthOK MT CT 121 := ⟨by decide +kernel, tb_5 13 (by decide +kernel) rfl, chkM_ok lkRX8_ok ch121⟩
theorem mo122 : MthOK MT CT 122 := ⟨by decide +kernel, tb_5 136 (by decide +kernel) rfl, chkM_ok lkRX8_ok ch122⟩
theorem mo123 : MthOK MT CT 123 := ⟨by decide +kernel, tb_5 56 (by decide +kernel) rfl, chkM_ok lkRX8_ok ch123⟩
theorem mo124 : MthOK MT CT 124 := ⟨by decide +kernel, tb_5 140 (by decide +kernel) rfl, chkM_ok lkRX8_ok ch124⟩
theorem mo125 : MthOK MT CT 125 := ⟨by decide +kernel, tb_5 5 (by decide +kernel) rfl, chkM_ok lkRX8_ok ch125⟩
theorem mo126 : MthOK MT CT 126 := ⟨by decide +kernel, tb_5 8 (by decide +kernel) rfl, chkM_ok lkRX8_ok ch126⟩
theorem mo127 : MthOK MT CT 127 := ⟨by decide +kernel, tb_5 117 (by decide +kernel) rfl, chkM_ok lkRX8_ok ch127⟩
theorem mo128 : MthOK MT CT 128 := ⟨by decide +kernel, tb_5 160 (by decide +kernel) rfl, chkM_ok lkRX8_ok ch128⟩
theorem mo129 : MthOK MT CT 129 := ⟨by decide +kernel, tb_4 225 (by decide +kernel) rfl, chkM_ok lkRX8_ok ch129⟩
theorem mo130 : MthOK MT CT 130 := ⟨by decide +kernel, tb_4 233 (by decide +kernel) rfl, chkM_ok lkRX8_ok ch130⟩
theorem mo131 : MthOK MT CT 131 := ⟨by decide +kernel, tb_5 18 (by decide +kernel) rfl, chkM_ok lkRX8_ok ch131⟩
theorem mo132 : MthOK MT CT 132 := ⟨by decide +kernel, tb_5 1 (by decide +kernel) rfl, chkM_ok lkRX8_ok ch132⟩
theorem mo133 : MthOK MT CT 133 := ⟨by decide +kernel, tb_5 22 (by decide +kernel) rfl, chkM_ok lkRX8_ok ch133⟩
theorem mo134 : MthOK MT CT 134 := ⟨by decide +kernel, tb_5 45 (by decide +kernel) rfl, chkM_ok lkRX8_ok ch134⟩
theorem mo135 : MthOK MT CT 135 := ⟨by decide +kernel, tb_5 60 (by decide +kernel) rfl, chkM_ok lkRX8_ok ch135⟩
theorem mo136 : MthOK MT CT 136 := ⟨by decide +kernel, tb_5 76 (by decide +kernel) rfl, chkM_ok lkRX8_ok ch136⟩
theorem mo137 : MthOK MT CT 137 := ⟨by decide +kernel, tb_5 72 (by decide +kernel) rfl, chkM_ok lkRX8_ok ch137⟩
theorem mo138 : MthOK MT CT 138 := ⟨by decide +kernel, tb_5 26 (by decide +kernel) rfl, chkM_ok lkRX8_ok ch138⟩
theorem mo139 : MthOK MT CT 139 := ⟨by decide +kernel, tb_5 68 (by decide +kernel) rfl, chkM_ok lkRX8_ok ch139⟩
theorem mo140 : MthOK MT CT 140 := ⟨by decide +kernel, tb_5 83 (by decide +kernel) rfl, chkM_ok lkRX8_ok ch140⟩
theorem mo141 : MthOK MT CT 141 := ⟨by decide +kernel, tb_5 80 (by decide +kernel) rfl, chkM_ok lkRX8_ok ch141⟩
theorem mo142 : MthOK MT CT 142 := ⟨by decide +kernel, tb_5 53 (by decide +kernel) rfl, chkM_ok lkRX8_ok ch142⟩
theorem mo143 : MthOK MT CT 143 := ⟨by decide +kernel, tb_5 49 (by decide +kernel) rfl, chkM_ok lkRX8_ok ch143⟩
theorem mo144 : MthOK MT CT 144 := ⟨by decide +kernel, tb_5 38 (by decide +kernel) rfl, chkM_ok lkRX8_ok ch144⟩
theorem mo145 : MthOK MT CT 145 := ⟨by decide +kernel, tb_5 168 (by decide +kernel) rfl, chkM_ok lkRX8_ok ch145⟩
theorem mo146 : MthOK MT CT 146 := ⟨by decide +kernel, tb_5 34 (by decide +kernel) rfl, chkM_ok lkRX8_ok ch146⟩
theorem mo147 : MthOK MT CT 147 := ⟨by decide +kernel, tb_5 30 (by decide +kernel) rfl, chkM_ok lkRX8_ok ch147⟩
theorem mo148 : MthOK MT CT 148 := ⟨by decide +kernel, tb_5 94 (by decide +kernel) rfl, chkM_ok lkRX8_ok ch148⟩
theorem mo149 : MthOK MT CT 149 := ⟨by decide +kernel, tb_5 106 (by decide +kernel) rfl, chkM_ok lkRX8_ok ch149⟩
theorem mo150 : MthOK MT CT 150 := ⟨by decide +kernel, tb_5 110 (by decide +kernel) rfl, chkM_ok lkRX8_ok ch150⟩
theorem mo151 : MthOK MT CT 151 := ⟨by decide +kernel, tb_5 98 (by decide +kernel) rfl, chkM_ok lkRX8_ok ch151⟩
theorem mo152 : MthOK MT CT 152 := ⟨by decide +kernel, tb_5 87 (by decide +kernel) rfl, chkM_ok lkRX8_ok ch152⟩
theorem mo153 : MthOK MT CT 153 := ⟨by decide +kernel, tb_5 102 (by decide +kernel) rfl, chkM_ok lkRX8_ok ch153⟩
theorem mo154 : MthOK MT CT 154 := ⟨by decide +kernel, tb_5 122 (by decide +kernel) rfl, chkM_ok lkRX8_ok ch154⟩
theorem mo155 : MthOK MT CT 155 := ⟨by decide +kernel, tb_5 128 (by decide +kernel) rfl, chkM_ok lkRX8_ok ch155⟩
theorem mo156 : MthOK MT CT 156 := ⟨by decide +kernel, tb_5 114 (by decide +kernel) rfl, chkM_ok lkRX8_ok ch156⟩
theorem mo157 : MthOK MT CT 157 := ⟨by decide +kernel, tb_5 132 (by decide +kernel) rfl, chkM_ok lkRX8_ok ch157⟩
theorem mo158 : MthOK MT CT 158 := ⟨by decide +kernel, tb_5 144 (by decide +kernel) rfl, chkM_ok lkRX8_ok ch158⟩
theorem mo159 : MthOK MT CT 159 := ⟨by decide +kernel, tb_5 152 (by decide +kernel) rfl, chkM_ok lkRX8_ok ch159⟩
theorem mo160 : MthOK MT CT 160 := ⟨by decide +kernel, tb_5 148 (by decide +kernel) rfl, chkM_ok lkRX8_ok ch160⟩
theorem mo161 : MthOK MT CT 161 := ⟨by decide +kernel, tb_5 164 (by decide +kernel) rfl, chkM_ok lkRX8_ok ch161⟩
theorem mo162 : MthOK MT CT 162 := ⟨by decide +kernel, tb_5 156 (by decide +kernel) rfl, chkM_ok lkRX8_ok ch162⟩
theorem mo163 : MthOK MT CT 163 := ⟨by decide +kernel, tb_5 172 (by decide +kernel) rfl, chkM_ok lkRX8_ok ch163⟩
theorem mo164 : MthOK MT CT 164 := ⟨by decide +kernel, tb_5 180 (by decide +kernel) rfl, chkM_ok lkRX8_ok ch164⟩
theorem mo165 : MthOK MT CT 165 := ⟨by decide +kernel, tb_5 176 (by decide +kernel) rfl, chkM_ok lkRX8_ok ch165⟩
theorem mo166 : MthOK MT CT 166 := ⟨by decide +kernel, tb_5 188 (by decide +kernel) rfl, chkM_ok lkRX8_ok ch166⟩
theorem mo167 : MthOK MT CT 167 := ⟨by decide +kernel, tb_5 192 (by decide +kernel) rfl, chkM_ok lkRX8_ok ch167⟩
theorem mo168 : MthOK MT CT 168 := ⟨by decide +kernel, tb_5 184 (by decide +kernel) rfl, chkM_ok lkRX8_ok ch168⟩
theorem mo169 : MthOK MT CT 169 := ⟨by decide +kernel, tb_5 196 (by decide +kernel) rfl, chkM_ok lkRX8_ok ch169⟩
theorem mo170 : MthOK MT CT 170 := ⟨by decide +kernel, tb_5 200 (by decide +kernel) rfl, chkM_ok lkRX8_ok ch170⟩
theorem mo171 : MthOK MT CT 171 := ⟨by decide +kernel, tb_5 204 (by decide +kernel) rfl, chkM_ok lkRX8_ok ch171⟩
theorem mo172 : MthOK MT CT 172 := ⟨by decide +kernel, tb_5 219 (by decide +kernel) rfl, chkM_ok lkRX8_ok ch172⟩
theorem mo173 : MthOK MT CT 173 := ⟨by decide +kernel, tb_5 231 (by decide +kernel) rfl, chkM_ok lkRX8_ok ch173⟩
theorem mo174 : MthOK MT CT 174 := ⟨by decide +kernel, tb_5 228 (by decide +kernel) rfl, chkM_ok lkRX8_ok ch174⟩
theorem mo175 : MthOK MT CT 175 := ⟨by decide +kernel, tb_5 224 (by decide +kernel) rfl, chkM_ok lkRX8_ok ch175⟩
theorem mo176 : MthOK MT CT 176 := ⟨by decide +kernel, tb_5 212 (by decide +kernel) rfl, chkM_ok lkRX8_ok ch176⟩
theorem mo177 : MthOK MT CT 177 := ⟨by decide +kernel, tb_5 216 (by decide +kernel) rfl, chkM_ok lkRX8_ok ch177⟩
theorem mo178 : MthOK MT CT 178 := ⟨by decide +kernel, tb_5 208 (by decide +kernel) rfl, chkM_ok lkRX8_ok ch178⟩
theorem mo179 : MthOK MT CT 179 := ⟨by decide +kernel, tb_6 3 (by decide +kernel) rfl, chkM_ok lkRX8_ok ch179⟩
theorem mo180 : MthOK MT CT 180 := ⟨by decide +kernel, tb_5 239 (by decide +kernel) rfl, chkM_ok lkRX8_ok ch180⟩
theorem mo181 : MthOK MT CT 181 := ⟨by decide +kernel, tb_5 235 (by decide +kernel) rfl, chkM_ok lkRX8_ok ch181⟩
theorem mo182 : MthOK MT CT 182 := ⟨by decide +kernel, tb_6 7 (by decide +kernel) rfl, chkM_ok lkRX8_ok ch182⟩
theorem mo183 : MthOK MT CT 183 := ⟨by decide +kernel, tb_6 11 (by decide +kernel) rfl, chkM_ok lkRX8_ok ch183⟩
theorem mo184 : MthOK MT CT 184 := ⟨by decide +kernel, tb_6 31 (by decide +kernel) rfl, chkM_ok lkRX8_ok ch184⟩
theorem mo185 : MthOK MT CT 185 := ⟨by decide +kernel, tb_6 27 (by decide +kernel) rfl, chkM_ok lkRX8_ok ch185⟩
theorem mo186 : MthOK MT CT 186 := ⟨by decide +kernel, tb_6 23 (by decide +kernel) rfl, chkM_ok lkRX8_ok ch186⟩
theorem mo187 : MthOK MT CT 187 := ⟨by decide +kernel, tb_6 19 (by decide +kernel) rfl, chkM_ok lkRX8_ok ch187⟩
theorem mo188 : MthOK MT CT 188 := ⟨by decide +kernel, tb_6 15 (by decide +kernel) rfl, chkM_ok lkRX8_ok ch188⟩
theorem mo189 : MthOK MT CT 189 := ⟨by decide +kernel, tb_6 43 (by decide +kernel) rfl, chkM_ok lkRX8_ok ch189⟩
theorem mo190 : MthOK MT CT 190 := ⟨by decide +kernel, tb_6 48 (by decide +kernel) rfl, chkM_ok lkRX8_ok ch190⟩
theorem mo191 : MthOK MT CT 191 := ⟨by decide +kernel, tb_6 39 (by decide +kernel) rfl, chkM_ok lkRX8_ok ch191⟩
theorem mo192 : MthOK MT CT 192 := ⟨by decide +kernel, tb_6 35 (by decide +kernel) rfl, chkM_ok lkRX8_ok ch192⟩
theorem mo193 : MthOK MT CT 193 := ⟨by decide +kernel, tb_6 76 (by decide +kernel) rfl, chkM_ok lkRX8_ok ch193⟩
theorem mo194 : MthOK MT CT 194 := ⟨by decide +kernel, tb_6 91 (by decide +kernel) rfl, chkM_ok lkRX8_ok ch194⟩
theorem mo195 : MthOK MT CT 195 := ⟨by decide +kernel, tb_6 81 (by decide +kernel) rfl, chkM_ok lkRX8_ok ch195⟩
theorem mo196 : MthOK MT CT 196 := ⟨by decide +kernel, tb_6 87 (by decide +kernel) rfl, chkM_ok lkRX8_ok ch196⟩
theorem mo197 : MthOK MT CT 197 := ⟨by decide +kernel, tb_6 72 (by decide +kernel) rfl, chkM_ok lkRX8_ok ch197⟩
theorem mo198 : MthOK MT CT 198 := ⟨by decide +kernel, tb_6 68 (by decide +kernel) rfl, chkM_ok lkRX8_ok ch198⟩
theorem mo199 : MthOK MT CT 199 := ⟨by decide +kernel, tb_6 64 (by decide +kernel) rfl, chkM_ok lkRX8_ok ch199⟩
theorem mo200 : MthOK MT CT 200 := ⟨by decide +kernel, tb_6 60 (by decide +kernel) rfl, chkM_ok lkRX8_ok ch200⟩
theorem mo201 : MthOK MT CT 201 := ⟨by decide +kernel, tb_6 56 (by decide +kernel) rfl, chkM_ok lkRX8_ok ch201⟩
theorem mo202 : MthOK MT CT 202 := ⟨by decide +kernel, tb_6 52 (by decide +kernel) rfl, chkM_ok lkRX8_ok ch202⟩
theorem mo203 : MthOK MT CT 203 := ⟨by decide +kernel, tb_6 119 (by decide +kernel) rfl, chkM_ok lkRX8_ok ch203⟩
theorem mo204 : MthOK MT CT 204 := ⟨by decide +kernel, tb_6 123 (by decide +kernel) rfl, chkM_ok lkRX8_ok ch204⟩
theorem mo205 : MthOK MT CT 205 := ⟨by decide +kernel, tb_6 128 (by decide +kernel) rfl, chkM_ok lkRX8_ok ch205⟩
theorem mo206 : MthOK MT CT 206 := ⟨by decide +kernel, tb_6 115 (by decide +kernel) rfl, chkM_ok lkRX8_ok ch206⟩
theorem mo207 : MthOK MT CT 207 := ⟨by decide +kernel, tb_6 111 (by decide +kernel) rfl, chkM_ok lkRX8_ok ch207⟩
theorem mo208 : MthOK MT CT 208 := ⟨by decide +kernel, tb_6 107 (by decide +kernel) rfl, chkM_ok lkRX8_ok ch208⟩
theorem mo209 : MthOK MT CT 209 := ⟨by decide +kernel, tb_6 103 (by decide +kernel) rfl, chkM_ok lkRX8_ok ch209⟩
theorem mo210 : MthOK MT CT 210 := ⟨by decide +kernel, tb_6 99 (by decide +kernel) rfl, chkM_ok lkRX8_ok ch210⟩
theorem mo211 : MthOK MT CT 211 := ⟨by decide +kernel, tb_6 95 (by decide +kernel) rfl, chkM_ok lkRX8_ok ch211⟩
theorem mo212 : MthOK MT CT 212 := ⟨by decide +kernel, tb_6 132 (by decide +kernel) rfl, chkM_ok lkRX8_ok ch212⟩
theorem mo213 : MthOK MT CT 213 := ⟨by decide +kernel, tb_6 136 (by decide +kernel) rfl, chkM_ok lkRX8_ok ch213⟩
theorem mo214 : MthOK MT CT 214 := ⟨by decide +kernel, tb_6 144 (by decide +kernel) rfl, chkM_ok lkRX8_ok ch214⟩
theorem mo215 : MthOK MT CT 215 := ⟨by decide +kernel, tb_6 140 (by decide +kernel) rfl, chkM_ok lkRX8_ok ch215⟩
theorem mo216 : MthOK MT CT 216 := ⟨by decide +kernel, tb_6 163 (by decide +kernel) rfl, chkM_ok lkRX8_ok ch216⟩
theorem mo217 : MthOK MT CT 217 := ⟨by decide +kernel, tb_6 151 (by decide +kernel) rfl, chkM_ok lkRX8_ok ch217⟩
theorem mo218 : MthOK MT CT 218 := ⟨by decide +kernel, tb_6 159 (by decide +kernel) rfl, chkM_ok lkRX8_ok ch218⟩
theorem mo219 : MthOK MT CT 219 := ⟨by decide +kernel, tb_6 155 (by decide +kernel) rfl, chkM_ok lkRX8_ok ch219⟩
theorem mo220 : MthOK MT CT 220 := ⟨by decide +kernel, tb_6 167 (by decide +kernel) rfl, chkM_ok lkRX8_ok ch220⟩
theorem mo221 : MthOK MT CT 221 := ⟨by decide +kernel, tb_6 171 (by decide +kernel) rfl, chkM_ok lkRX8_ok ch221⟩
theorem mo222 : MthOK MT CT 222 := ⟨by decide +kernel, tb_6 175 (by decide +kernel) rfl, chkM_ok lkRX8_ok ch222⟩
theorem mo223 : MthOK MT CT 223 := ⟨by decide +kernel, tb_6 179 (by decide +kernel) rfl, chkM_ok lkRX8_ok ch223⟩
theorem mo224 : MthOK MT CT 224 := ⟨by decide +kernel, tb_6 183 (by decide +kernel) rfl, chkM_ok lkRX8_ok ch224⟩
theorem mo225 : MthOK MT CT 225 := ⟨by decide +kernel, tb_6 187 (by decide +kernel) rfl, chkM_ok lkRX8_ok ch225⟩
theorem mo226 : MthOK MT CT 226 := ⟨by decide +kernel, tb_6 195 (by decide +kernel) rfl, chkM_ok lkRX8_ok ch226⟩
theorem mo227 : MthOK MT CT 227 := ⟨by decide +kernel, tb_6 191 (by decide +kernel) rfl, chkM_ok lkRX8_ok ch227⟩
theorem mo228 : MthOK MT CT 228 := ⟨by decide +kernel, tb_3 79 (by decide +kernel) rfl, chkM_ok lkRJ6_ok ch228⟩
theorem mo229 : MthOK MT CT 229 := ⟨by decide +kernel, tb_3 205 (by decide +kernel) rfl, chkM_ok lkRJ7_ok ch229⟩
theorem mo230 : MthOK MT CT 230 := ⟨by decide +kernel, tb_2 111 (by decide +kernel) rfl, chkM_ok lkRJ7_ok ch230⟩
theorem mog0 (h0 : ∀ k, k < 0 → MthOK MT CT k) : ∀ k, k < 40 → MthOK MT CT k := lt_s (lt_s (lt_s (lt_s (lt_s (lt_s (lt_s (lt_s (lt_s (lt_s (lt_s (lt_s (lt_s (lt_s (lt_s (lt_s (lt_s (lt_s (lt_s (lt_s (lt_s (lt_s (lt_s (lt_s (lt_s (lt_s (lt_s (lt_s (lt_s (lt_s (lt_s (lt_s (lt_s (lt_s (lt_s (lt_s (lt_s (lt_s (lt_s (lt_s h0 mo0) mo1) mo2) mo3) mo4) mo5) mo6) mo7) mo8) mo9) mo10) mo11) mo12) mo13) mo14) mo15) mo16) mo17) mo18) mo19) mo20) mo21) mo22) mo23) mo24) mo25) mo26) mo27) mo28) mo29) mo30) mo31) mo32) mo33) mo34) mo35) mo36) mo37) mo38) mo39
theorem mog40 (h0 : ∀ k, k < 40 → MthOK MT CT k) : ∀ k, k < 80 → MthOK MT CT k := lt_s (lt_s (lt_s (lt_s (lt_s (lt_s (lt_s (lt_s (lt_s (lt_s (lt_s (lt_s (lt_s (lt_s (lt_s (lt_s (lt_s (lt_s (lt_s (lt_s (lt_s (lt_s (lt_s (lt_s (lt_s (lt_s (lt_s (lt_s (lt_s (lt_s (lt_s (lt_s (lt_s (lt_s (lt_s (lt_s (lt_s (lt_s (lt_s (lt_s h0 mo40) mo41) mo42) mo43) mo44) mo45) mo46) mo47) mo48) mo49) mo50) mo51) mo52) mo53) mo54) mo55) mo56) mo57) mo58) mo59) mo60) mo61) mo62) mo63) mo64) mo65) mo66) mo67) mo68) mo69) mo70) mo71) mo72) mo73) mo74) mo75) mo76) mo77) mo78) mo79
theorem mog80 (h0 : ∀ k, k < 80 → MthOK MT CT k) : ∀ k, k < 120 → MthOK MT CT k := lt_s (lt_s (lt_s (lt_s (lt_s (lt_s (lt_s (lt_s (lt_s (lt_s (lt_s (lt_s (lt_s (lt_s (lt_s (lt_s (lt_s (lt_s (lt_s (lt_s (lt_s (lt_s (lt_s (lt_s (lt_s (lt_s (lt_s (lt_s (lt_s (lt_s (lt_s (lt_s (lt_s (lt_s (lt_s (lt_s (lt_s (lt_s (lt_s (lt_s h0 mo80) mo81) mo82) mo83) mo84) mo85) mo86) mo87) mo88) mo89) mo90) mo91) mo92) mo93) mo94) mo95) mo96) mo97) mo98) mo99) mo100) mo101) mo102) mo103) mo104) mo105) mo106) mo107) mo108) mo109) mo110) mo111) mo112) mo113) mo114) mo115) mo116) mo117) mo118) mo119
theorem mog120 (h0 : ∀ k, k < 120 → MthOK MT CT k) : ∀ k, k < 160 → MthOK MT CT k := lt_s (lt_s (lt_s (lt_s (lt_s (lt_s (lt_s (lt_s (lt_s (lt_s (lt_s (lt_s (lt_s (lt_s (lt_s (lt_s (lt_s (lt_s (lt_s (lt_s (lt_s (lt_s (lt_s (lt_s (lt_s (lt_s (lt_s (lt_s (lt_s (lt_s (lt_s (lt_s (lt_s (lt_s (lt_s (lt_s (lt_s (lt_s (lt_s (lt_s h0 mo120) mo121) mo122) mo123) mo124) mo125) mo126) mo127) mo128) mo129) mo130) mo131) mo132) mo133) mo134) mo135) mo136) mo137) mo138) mo139) mo140) mo141) mo142) mo143) mo144) mo145) mo146) mo147) mo148) mo149) mo150) mo151) mo152) mo153) mo154) mo155) mo156) mo157) mo158) mo159
theorem mog160 (h0 : ∀ k, k < 160 → MthOK MT CT k) : ∀ k, k < 200 → MthOK MT CT k := lt_s (lt_s (lt_s (lt_s (lt_s (lt_s (lt_s (lt_s (lt_s (lt_s (lt_s (lt_s (lt_s (lt_s (lt_s (lt_s (lt_s (lt_s (lt_s (lt_s (lt_s (lt_s (lt_s (lt_s (lt_s (lt_s (lt_s (lt_s (lt_s (lt_s (lt_s (lt_s (lt_s (lt_s (lt_s (lt_s (lt_s (lt_s (lt_s (lt_s h0 mo160) mo161) mo162) mo163) mo164) mo165) mo166) mo167) mo168) mo169) mo170) mo171) mo172) mo173) mo174) mo175) mo176) mo177) mo178) mo179) mo180) mo181) mo182) mo183) mo184) mo185) mo186) mo187) mo188) mo189) mo190) mo191) mo192) mo193) mo194) mo195) mo196) mo197) mo198) mo199
theorem mog200 (h0 : ∀ k, k < 200 → MthOK MT CT k) : ∀ k, k < 231 → MthOK MT CT k := lt_s (lt_s (lt_s (lt_s (lt_s (lt_s (lt_s (lt_s (lt_s (lt_s (lt_s (lt_s (lt_s (lt_s (lt_s (lt_s (lt_s (lt_s (lt_s (lt_s (lt_s (lt_s (lt_s (lt_s (lt_s (lt_s (lt_s (lt_s (lt_s (lt_s (lt_s h0 mo200) mo201) mo202) mo203) mo204) mo205) mo206) mo207) mo208) mo209) mo210) mo211) mo212) mo213) mo214) mo215) mo216) mo217) mo218) mo219) mo220) mo221) mo222) mo223) mo224) mo225) mo226) mo227) mo228) mo229) mo230
theorem mo_all : ∀ k, k < 231 → MthOK MT CT k := (mog200 (mog160 (mog120 (mog80 (mog40 (mog0 lt_0))))))
theorem CT_ok : ∀ k, CT k ≠ [] → MthOK MT CT k := by
  intro k h
  rcases Nat.lt_or_ge k 231 with q | q
  · exact mo_all k q
  · refine absurd ?_ h
    unfold CT
    have hl : sgL.length = 231 := by decide +kernel
    simp [List.getD, List.getElem?_eq_none (show sgL.length ≤ k by rw [hl]; exact q)]
end
section
/-! ===== methods as plain functions ===== -/
def gd {α : Type} (b : Bool) (x : Option α) : Option α := bif b then x else none
def bd {α β : Type} (x : Option (α × Sg)) (f : α → Sg → Option β) : Option β := match x with
  | none => none
  | some (v, s) => f v s
theorem gd_some {α : Type} {b : Bool} {x : Option α} {r : α} (h : gd b x = some r) : b = true ∧ x = some r := by
  cases b with
  | false => cases h
  | true => exact ⟨rfl, h⟩
theorem bd_some {α β : Type} {x : Option (α × Sg)} {f : α → Sg → Option β} {r : β} (h : bd x f = some r) : ∃ v s, x = some (v, s) ∧ f v s = some r := by
  match x, h with
  | some (v, s), h => exact ⟨v, s, rfl, h⟩
/-- more rounds than any loop makes -/
def fu : Nat := 20000
def inB (i : Int32) (n : Nat) : Bool := !(decide (i < 0)) && Nat.blt i.toNatClampNeg n
theorem inB_in {i : Int32} {n : Nat} (h : inB i n = true) : vp_in i n := by
  simp only [inB, Bool.and_eq_true, Bool.not_eq_true', decide_eq_false_iff_not, Nat.blt_eq] at h
  intro q
  rcases q with q | q
  · exact h.1 q
  · omega
def arB (k c : Nat) (i : Int32) : Bool := (ck c == k) && inB i (al c)
theorem arB_in {k c : Nat} {i : Int32} (h : arB k c i = true) : ck c = k ∧ vp_in i (al c) := by
  simp only [arB, Bool.and_eq_true, beq_iff_eq] at h
  exact ⟨h.1, inB_in h.2⟩
def ckB (c : Nat) : Bool := Nat.blt (ck c) 5
theorem ckB_lt {c : Nat} (h : ckB c = true) : ck c < 5 := by simpa [ckB] using h
def neB (x : Int32) : Bool := !(decide (x = 0))
theorem neB_ne {x : Int32} (h : neB x = true) : ¬ x = 0 := by simpa [neB] using h
def neBL (x : Int64) : Bool := !(decide (x = 0))
theorem neBL_ne {x : Int64} (h : neBL x = true) : ¬ x = 0 := by simpa [neBL] using h
def nbB (x : Int32) : Bool := decide (x = 0) || decide (x = 1)
theorem nbB_ok {x : Int32} (h : nbB x = true) : nb x := by simpa [nbB, nb] using h
def cpB (c0 c1 : Nat) (sp dp n : Int32) : Bool := (ck c0 == 0) && (ck c1 == 0) && !(decide (sp < 0)) && !(decide (dp < 0)) && !(decide (n < 0)) && Nat.ble (sp.toNatClampNeg + n.toNatClampNeg) (al c0) && Nat.ble (dp.toNatClampNeg + n.toNatClampNeg) (al c1)
theorem cpB_ok {c0 c1 : Nat} {sp dp n : Int32} {k : Nat} (hk : k ≤ 8) (h : cpB c0 c1 sp dp n = true) : (ck c0 = 0 ∧ ck c1 = 0 ∧ k ≤ 8) ∧ (¬ sp < 0 ∧ ¬ dp < 0 ∧ ¬ n < 0) ∧ sp.toNatClampNeg + n.toNatClampNeg ≤ al c0 ∧ dp.toNatClampNeg + n.toNatClampNeg ≤ al c1 := by
  simp only [cpB, Bool.and_eq_true, beq_iff_eq, Bool.not_eq_true', decide_eq_false_iff_not, Nat.ble_eq] at h
  obtain ⟨⟨⟨⟨⟨⟨h1, h2⟩, h3⟩, h4⟩, h5⟩, h6⟩, h7⟩ := h
  exact ⟨⟨h1, h2, hk⟩, ⟨h3, h4, h5⟩, h6, h7⟩
theorem conj_c {p : Prop} {l : List Prop} (h1 : p) (h2 : conj l) : conj (p :: l) := ⟨h1, h2⟩
section RCX
variable {X : RO} {G : Env1} {cs : List (List Ent)} {Q : Option Value → Sg → Prop} {lv : LV} {st : List Value} {σ : Sg}
theorem Rc.ifp {c : Prop} {i : Decidable c} {a b : Nat} (hc : c) (h : Rc X G cs (a, lv, st, σ) Q) : Rc X G cs (@ite Nat c i a b, lv, st, σ) Q := by rw [if_pos hc]; exact h
theorem Rc.ifn {c : Prop} {i : Decidable c} {a b : Nat} (hc : ¬ c) (h : Rc X G cs (b, lv, st, σ) Q) : Rc X G cs (@ite Nat c i a b, lv, st, σ) Q := by rw [if_neg hc]; exact h
theorem Rc.sw0 {x : Int32} {d : Nat} {k : Int} (h : Rc X G cs (d, lv, st, σ) Q) : Rc X G cs (swt x d k [], lv, st, σ) Q := h
theorem Rc.sw1 {x : Int32} {d : Nat} {k t : Int} {r : List Int} (hc : x = Int32.ofInt k) (h : Rc X G cs (t.toNat, lv, st, σ) Q) : Rc X G cs (swt x d k (t :: r), lv, st, σ) Q := by unfold swt; rw [if_pos hc]; exact h
theorem Rc.sw2 {x : Int32} {d : Nat} {k t : Int} {r : List Int} (hc : ¬ x = Int32.ofInt k) (h : Rc X G cs (swt x d (k + 1) r, lv, st, σ) Q) : Rc X G cs (swt x d k (t :: r), lv, st, σ) Q := by unfold swt; rw [if_neg hc]; exact h
end RCX
def j_refused_0_b22 (v1 : Int32) (σ : Sg) : Option (Int32 × Sg) :=
  some (v1, σ)
def j_refused_0 (v1 : Int32) (σ : Sg) : Option (Int32 × Sg) :=
  if (-1) < v1 then j_refused_0_b22 v1 σ else if v1 < (-6) then j_refused_0_b22 v1 σ else gd (inB (-v1) 7) (gd (inB (-v1) 7) (j_refused_0_b22 v1 (si σ 20 (-v1).toNatClampNeg ((σ.1 20 (-v1).toNatClampNeg) + 1))))
def j_letter_0_b27 (σ : Sg) : Option (Int32 × Sg) :=
  bd (j_refused_0 (-6) σ) fun r1 σ1 => some (r1, σ1)
def j_letter_0 (v1 : Int32) (σ : Sg) : Option (Int32 × Sg) :=
  if 0 ≤ v1 then if 255 < v1 then j_letter_0_b27 σ else if (σ.1 0 9) < 72 then gd (inB (σ.1 0 9) 72) (some ((si (si σ 11 (σ.1 0 9).toNatClampNeg v1) 0 9 (((si σ 11 (σ.1 0 9).toNatClampNeg v1).1 0 9) + 1)).1 0 9, si (si σ 11 (σ.1 0 9).toNatClampNeg v1) 0 9 (((si σ 11 (σ.1 0 9).toNatClampNeg v1).1 0 9) + 1))) else j_letter_0_b27 σ else bd (j_refused_0 (-4) σ) fun r4 σ4 => some (r4, σ4)
def j_forget_3 (σ : Sg) : Option (Unit × Sg) :=
  some ((), si σ 3 2 0)
def j_fillAII_x_H5 (k5 : Nat → Int32 → Int32 → Int32 → Sg → Option (Unit × Sg)) (v0 : Nat) (v1 : Int32) (v2 : Int32) (v3 : Int32) (σ : Sg) : Option (Unit × Sg) :=
  if v3 ≤ v2 then some ((), σ) else gd (arB 0 v0 v2) (k5 v0 v1 (v2 + 1) v3 (si σ v0 v2.toNatClampNeg v1))
def j_fillAII_x_L5 : Nat → Nat → Int32 → Int32 → Int32 → Sg → Option (Unit × Sg)
  | 0, _, _, _, _, _ => none
  | n + 1, v0, v1, v2, v3, σ => j_fillAII_x_H5 (j_fillAII_x_L5 n) v0 v1 v2 v3 σ
def j_fillAII_x (v0 : Nat) (v1 : Int32) (σ : Sg) : Option (Unit × Sg) :=
  gd (ckB v0) (j_fillAII_x_L5 fu v0 v1 0 (Int32.ofNat (al v0)) σ)
def j_add_1_b62 (σ : Sg) : Option (Unit × Sg) :=
  some ((), σ)
def j_add_1 (v1 : Int32) (σ : Sg) : Option (Unit × Sg) :=
  if 8 ≤ (σ.1 1 0) then j_add_1_b62 σ else gd (inB (σ.1 1 0) 8) (gd (inB ((si σ 21 (σ.1 1 0).toNatClampNeg v1).1 1 0) 8) (gd (inB ((si (si σ 21 (σ.1 1 0).toNatClampNeg v1) 31 ((si σ 21 (σ.1 1 0).toNatClampNeg v1).1 1 0).toNatClampNeg 0).1 1 0) 8) (gd (inB ((si (si (si σ 21 (σ.1 1 0).toNatClampNeg v1) 31 ((si σ 21 (σ.1 1 0).toNatClampNeg v1).1 1 0).toNatClampNeg 0) 32 ((si (si σ 21 (σ.1 1 0).toNatClampNeg v1) 31 ((si σ 21 (σ.1 1 0).toNatClampNeg v1).1 1 0).toNatClampNeg 0).1 1 0).toNatClampNeg 1).1 1 0) 8) (bd (j_fillAII_x (23 + ((si (si (si σ 21 (σ.1 1 0).toNatClampNeg v1) 31 ((si σ 21 (σ.1 1 0).toNatClampNeg v1).1 1 0).toNatClampNeg 0) 32 ((si (si σ 21 (σ.1 1 0).toNatClampNeg v1) 31 ((si σ 21 (σ.1 1 0).toNatClampNeg v1).1 1 0).toNatClampNeg 0).1 1 0).toNatClampNeg 1).1 1 0).toNatClampNeg) 0 (si (si (si σ 21 (σ.1 1 0).toNatClampNeg v1) 31 ((si σ 21 (σ.1 1 0).toNatClampNeg v1).1 1 0).toNatClampNeg 0) 32 ((si (si σ 21 (σ.1 1 0).toNatClampNeg v1) 31 ((si σ 21 (σ.1 1 0).toNatClampNeg v1).1 1 0).toNatClampNeg 0).1 1 0).toNatClampNeg 1)) fun _ σ5 => j_add_1_b62 (si σ5 1 0 ((σ5.1 1 0) + 1))))))
def j_bringUp_5_H25 (k25 : Int32 → Int32 → Sg → Option (Int32 × Sg)) (v2 : Int32) (v3 : Int32) (σ : Sg) : Option (Int32 × Sg) :=
  if (σ.1 5 2) ≤ v3 then some (1, σ) else gd (inB v2 5) (gd (arB 1 (79 + v2.toNatClampNeg) v3) (gd (inB v2 5) (gd (inB (σ.1 5 3) 5) (gd (arB 1 (79 + (σ.1 5 3).toNatClampNeg) v3) (gd (arB 1 (79 + v2.toNatClampNeg) v3) (gd (inB ((sl σ (79 + v2.toNatClampNeg) v3.toNatClampNeg (σ.2 (79 + (σ.1 5 3).toNatClampNeg) v3.toNatClampNeg)).1 5 3) 5) (gd (arB 1 (79 + ((sl σ (79 + v2.toNatClampNeg) v3.toNatClampNeg (σ.2 (79 + (σ.1 5 3).toNatClampNeg) v3.toNatClampNeg)).1 5 3).toNatClampNeg) v3) (k25 v2 (v3 + 1) (sl (sl σ (79 + v2.toNatClampNeg) v3.toNatClampNeg (σ.2 (79 + (σ.1 5 3).toNatClampNeg) v3.toNatClampNeg)) (79 + ((sl σ (79 + v2.toNatClampNeg) v3.toNatClampNeg (σ.2 (79 + (σ.1 5 3).toNatClampNeg) v3.toNatClampNeg)).1 5 3).toNatClampNeg) v3.toNatClampNeg (σ.2 (79 + v2.toNatClampNeg) v3.toNatClampNeg))))))))))
def j_bringUp_5_L25 : Nat → Int32 → Int32 → Sg → Option (Int32 × Sg)
  | 0, _, _, _ => none
  | n + 1, v2, v3, σ => j_bringUp_5_H25 (j_bringUp_5_L25 n) v2 v3 σ
def j_bringUp_5_H5 (k5 : Int32 → Int32 → Sg → Option (Int32 × Sg)) (v1 : Int32) (v2 : Int32) (σ : Sg) : Option (Int32 × Sg) :=
  if 5 ≤ v2 then some (0, σ) else gd (inB v2 5) (gd (arB 1 (79 + v2.toNatClampNeg) v1) (if (lg_cmp (σ.2 (79 + v2.toNatClampNeg) v1.toNatClampNeg) 0) = 0 then k5 v1 (v2 + 1) σ else j_bringUp_5_L25 fu v2 0 σ))
def j_bringUp_5_L5 : Nat → Int32 → Int32 → Sg → Option (Int32 × Sg)
  | 0, _, _, _ => none
  | n + 1, v1, v2, σ => j_bringUp_5_H5 (j_bringUp_5_L5 n) v1 v2 σ
def j_bringUp_5 (v1 : Int32) (σ : Sg) : Option (Int32 × Sg) :=
  j_bringUp_5_L5 fu v1 (σ.1 5 3) σ
def j_clearOthers_5_b115 (k15 : Int32 → Int64 → Int32 → Sg → Option (Unit × Sg)) (v1 : Int32) (v2 : Int64) (v4 : Int32) (σ : Sg) : Option (Unit × Sg) :=
  k15 v1 v2 (v4 + 1) σ
def j_clearOthers_5_H35 (k15 : Int32 → Int64 → Int32 → Sg → Option (Unit × Sg)) (k35 : Int32 → Int64 → Int32 → Int64 → Int32 → Sg → Option (Unit × Sg)) (v1 : Int32) (v2 : Int64) (v4 : Int32) (v5 : Int64) (v7 : Int32) (σ : Sg) : Option (Unit × Sg) :=
  if (σ.1 5 2) ≤ v7 then j_clearOthers_5_b115 k15 v1 v2 v4 σ else if v4 = (σ.1 5 3) then j_clearOthers_5_b115 k15 v1 v2 v4 σ else if (lg_cmp (σ.2 5 5) 0) = 0 then j_clearOthers_5_b115 k15 v1 v2 v4 σ else gd (inB v4 5) (gd (arB 1 (79 + v4.toNatClampNeg) v7) (gd (inB v4 5) (gd (inB (σ.1 5 3) 5) (gd (arB 1 (79 + (σ.1 5 3).toNatClampNeg) v7) (gd (neBL (σ.2 5 5)) (gd (arB 1 (79 + v4.toNatClampNeg) v7) (k35 v1 v2 v4 v5 (v7 + 1) (sl σ (79 + v4.toNatClampNeg) v7.toNatClampNeg ((((σ.2 (79 + v4.toNatClampNeg) v7.toNatClampNeg) * v2) - (v5 * (σ.2 (79 + (σ.1 5 3).toNatClampNeg) v7.toNatClampNeg))) / (σ.2 5 5))))))))))
def j_clearOthers_5_L35 (k15 : Int32 → Int64 → Int32 → Sg → Option (Unit × Sg)) : Nat → Int32 → Int64 → Int32 → Int64 → Int32 → Sg → Option (Unit × Sg)
  | 0, _, _, _, _, _, _ => none
  | n + 1, v1, v2, v4, v5, v7, σ => j_clearOthers_5_H35 k15 (j_clearOthers_5_L35 k15 n) v1 v2 v4 v5 v7 σ
def j_clearOthers_5_H15 (k15 : Int32 → Int64 → Int32 → Sg → Option (Unit × Sg)) (v1 : Int32) (v2 : Int64) (v4 : Int32) (σ : Sg) : Option (Unit × Sg) :=
  if 5 ≤ v4 then some ((), sl σ 5 5 v2) else gd (inB v4 5) (gd (arB 1 (79 + v4.toNatClampNeg) v1) (j_clearOthers_5_L35 k15 fu v1 v2 v4 (σ.2 (79 + v4.toNatClampNeg) v1.toNatClampNeg) 0 σ))
def j_clearOthers_5_L15 : Nat → Int32 → Int64 → Int32 → Sg → Option (Unit × Sg)
  | 0, _, _, _, _ => none
  | n + 1, v1, v2, v4, σ => j_clearOthers_5_H15 (j_clearOthers_5_L15 n) v1 v2 v4 σ
def j_clearOthers_5 (v1 : Int32) (σ : Sg) : Option (Unit × Sg) :=
  gd (inB (σ.1 5 3) 5) (gd (arB 1 (79 + (σ.1 5 3).toNatClampNeg) v1) (j_clearOthers_5_L15 fu v1 (σ.2 (79 + (σ.1 5 3).toNatClampNeg) v1.toNatClampNeg) 0 σ))
def j_bit_s (v0 : Int32) (v1 : Int32) (σ : Sg) : Option (Int32 × Sg) :=
  some ((v0 >>> (v1 &&& 31)) &&& 1, σ)
def j_run_5_68_b142 (k74 : Int32 → Int32 → Sg → Option (Unit × Sg)) (v3 : Int32) (v4 : Int32) (σ : Sg) : Option (Unit × Sg) :=
  k74 v3 (v4 + 1) σ
def j_run_5_68_H74 (k74 : Int32 → Int32 → Sg → Option (Unit × Sg)) (v3 : Int32) (v4 : Int32) (σ : Sg) : Option (Unit × Sg) :=
  if (σ.1 5 2) ≤ v4 then some ((), σ) else bd (j_bit_s v3 v4 σ) fun r1 σ1 => if r1 = 1 then bd (j_bringUp_5 v4 σ1) fun r2 σ2 => if r2 = 0 then j_run_5_68_b142 k74 v3 v4 σ2 else bd (j_clearOthers_5 v4 σ2) fun _ σ3 => gd (inB v4 8) (j_run_5_68_b142 k74 v3 v4 (si (si (si σ3 84 v4.toNatClampNeg (σ3.1 5 3)) 5 4 (((si σ3 84 v4.toNatClampNeg (σ3.1 5 3)).1 5 4) ||| ((1 : Int32) <<< (v4 &&& 31)))) 5 3 (((si (si σ3 84 v4.toNatClampNeg (σ3.1 5 3)) 5 4 (((si σ3 84 v4.toNatClampNeg (σ3.1 5 3)).1 5 4) ||| ((1 : Int32) <<< (v4 &&& 31)))).1 5 3) + 1))) else j_run_5_68_b142 k74 v3 v4 σ1
def j_run_5_68_L74 : Nat → Int32 → Int32 → Sg → Option (Unit × Sg)
  | 0, _, _, _ => none
  | n + 1, v3, v4, σ => j_run_5_68_H74 (j_run_5_68_L74 n) v3 v4 σ
def j_run_5_68_H32 (k23 : Int32 → Int32 → Sg → Option (Unit × Sg)) (k32 : Int32 → Int32 → Int32 → Sg → Option (Unit × Sg)) (v3 : Int32) (v4 : Int32) (v5 : Int32) (σ : Sg) : Option (Unit × Sg) :=
  if (σ.1 5 2) ≤ v5 then k23 v3 (v4 + 1) σ else gd (inB v4 5) (gd (inB v5 8) (gd (arB 0 (69 + v5.toNatClampNeg) v4) (gd (arB 1 (79 + v4.toNatClampNeg) v5) (k32 v3 v4 (v5 + 1) (sl σ (79 + v4.toNatClampNeg) v5.toNatClampNeg ((σ.1 (69 + v5.toNatClampNeg) v4.toNatClampNeg).toInt64))))))
def j_run_5_68_L32 (k23 : Int32 → Int32 → Sg → Option (Unit × Sg)) : Nat → Int32 → Int32 → Int32 → Sg → Option (Unit × Sg)
  | 0, _, _, _, _ => none
  | n + 1, v3, v4, v5, σ => j_run_5_68_H32 k23 (j_run_5_68_L32 k23 n) v3 v4 v5 σ
def j_run_5_68_H23 (k23 : Int32 → Int32 → Sg → Option (Unit × Sg)) (v3 : Int32) (v4 : Int32) (σ : Sg) : Option (Unit × Sg) :=
  if 5 ≤ v4 then j_run_5_68_L74 fu v3 0 σ else j_run_5_68_L32 k23 fu v3 v4 0 σ
def j_run_5_68_L23 : Nat → Int32 → Int32 → Sg → Option (Unit × Sg)
  | 0, _, _, _ => none
  | n + 1, v3, v4, σ => j_run_5_68_H23 (j_run_5_68_L23 n) v3 v4 σ
def j_run_5_68 (v2 : Int32) (v3 : Int32) (σ : Sg) : Option (Unit × Sg) :=
  j_run_5_68_L23 fu v3 0 (sl (si (si (si σ 5 2 v2) 5 3 0) 5 4 0) 5 5 1)
def j_keyOf_x_H11 (k11 : Int64 → Nat → Int32 → Int32 → Sg → Option (Int64 × Sg)) (v1 : Int64) (v3 : Nat) (v4 : Int32) (v5 : Int32) (σ : Sg) : Option (Int64 × Sg) :=
  if v4 ≤ v5 then some (v1, σ) else gd (arB 0 v3 v5) (k11 ((v1 * 4096) + ((σ.1 v3 v5.toNatClampNeg).toInt64)) v3 v4 (v5 + 1) σ)
def j_keyOf_x_L11 : Nat → Int64 → Nat → Int32 → Int32 → Sg → Option (Int64 × Sg)
  | 0, _, _, _, _, _ => none
  | n + 1, v1, v3, v4, v5, σ => j_keyOf_x_H11 (j_keyOf_x_L11 n) v1 v3 v4 v5 σ
def j_keyOf_x (v0 : Nat) (σ : Sg) : Option (Int64 × Sg) :=
  gd (ckB v0) (j_keyOf_x_L11 fu 0 v0 (Int32.ofNat (al v0)) 0 σ)
def j_setPowers_x_x_H32 (k32 : Int32 → Nat → Int32 → Sg → Option (Unit × Sg)) (v0 : Int32) (v2 : Nat) (v3 : Int32) (σ : Sg) : Option (Unit × Sg) :=
  if 5 ≤ v3 then some ((), σ) else gd (arB 0 v2 v3) (gd (inB v0 6) (gd (arB 0 v2 v3) (k32 v0 v2 (v3 + 1) (si σ v2 v3.toNatClampNeg ((σ.1 v2 v3.toNatClampNeg) * (sv 1003 v0.toNatClampNeg))))))
def j_setPowers_x_x_L32 : Nat → Int32 → Nat → Int32 → Sg → Option (Unit × Sg)
  | 0, _, _, _, _ => none
  | n + 1, v0, v2, v3, σ => j_setPowers_x_x_H32 (j_setPowers_x_x_L32 n) v0 v2 v3 σ
def j_setPowers_x_x (v0 : Int32) (v1 : Nat) (v2 : Nat) (σ : Sg) : Option (Unit × Sg) :=
  gd (cpB v1 v2 0 0 5) (gd (arB 0 v2 1) (gd (inB v0 6) (gd (arB 0 v2 1) (gd (arB 0 v2 2) (gd (inB v0 6) (gd (arB 0 v2 2) (j_setPowers_x_x_L32 fu v0 v2 0 (si (si (scp σ v1 v2 0 0 5) v2 1 (((scp σ v1 v2 0 0 5).1 v2 1) - (sv 1001 v0.toNatClampNeg))) v2 2 (((si (scp σ v1 v2 0 0 5) v2 1 (((scp σ v1 v2 0 0 5).1 v2 1) - (sv 1001 v0.toNatClampNeg))).1 v2 2) - (sv 1002 v0.toNatClampNeg))))))))))
def j_measure_4_1_H20 (k20 : Int32 → Sg → Option (Unit × Sg)) (v2 : Int32) (σ : Sg) : Option (Unit × Sg) :=
  if (σ.1 4 0) ≤ v2 then bd (j_run_5_68 (σ.1 4 0) (((1 : Int32) <<< ((σ.1 4 0) &&& 31)) - 1) σ) fun _ σ1 => some ((), σ1) else gd (inB v2 8) (gd (inB v2 8) (gd (inB v2 8) (bd (j_setPowers_x_x (σ.1 21 v2.toNatClampNeg) (23 + v2.toNatClampNeg) (69 + v2.toNatClampNeg) σ) fun _ σ5 => gd (inB v2 8) (bd (j_keyOf_x (69 + v2.toNatClampNeg) σ5) fun r7 σ7 => gd (inB v2 8) (k20 (v2 + 1) (sl σ7 77 v2.toNatClampNeg r7))))))
def j_measure_4_1_L20 : Nat → Int32 → Sg → Option (Unit × Sg)
  | 0, _, _ => none
  | n + 1, v2, σ => j_measure_4_1_H20 (j_measure_4_1_L20 n) v2 σ
def j_measure_4_1 (σ : Sg) : Option (Unit × Sg) :=
  j_measure_4_1_L20 fu 0 (si (si σ 4 0 (σ.1 1 0)) 4 1 (((si σ 4 0 (σ.1 1 0)).1 4 1) + 1))
def j_isKind_s_b15 (s0 : Int32) (σ : Sg) : Option (Int32 × Sg) :=
  gd (nbB s0) (some (s0, σ))
def j_isKind_s_b14 (σ : Sg) : Option (Int32 × Sg) :=
  j_isKind_s_b15 0 σ
def j_isKind_s (v0 : Int32) (σ : Sg) : Option (Int32 × Sg) :=
  if v0 < 0 then j_isKind_s_b14 σ else if 6 ≤ v0 then j_isKind_s_b14 σ else j_isKind_s_b15 1 σ
def j_quantity_0 (v1 : Int32) (σ : Sg) : Option (Int32 × Sg) :=
  bd (j_isKind_s v1 σ) fun r1 σ1 => if r1 = 0 then bd (j_refused_0 (-2) σ1) fun r7 σ7 => some (r7, σ7) else if (σ1.1 1 0) < 8 then bd (j_add_1 v1 σ1) fun _ σ2 => bd (j_forget_3 σ2) fun _ σ3 => bd (j_measure_4_1 σ3) fun _ σ4 => some ((σ4.1 1 0) - 1, σ4) else bd (j_refused_0 (-6) σ1) fun r5 σ5 => some (r5, σ5)
def j_minII_s_b10 (s0 : Int32) (σ : Sg) : Option (Int32 × Sg) :=
  some (s0, σ)
def j_minII_s (v0 : Int32) (v1 : Int32) (σ : Sg) : Option (Int32 × Sg) :=
  if v1 < v0 then j_minII_s_b10 v1 σ else j_minII_s_b10 v0 σ
def j_note_3 (v1 : Int32) (v2 : Int32) (v3 : Int32) (v4 : Int32) (σ : Sg) : Option (Unit × Sg) :=
  gd (inB (σ.1 3 1) 20) (gd (arB 0 (48 + (σ.1 3 1).toNatClampNeg) 0) (gd (arB 0 (48 + (σ.1 3 1).toNatClampNeg) 1) (gd (arB 0 (48 + (σ.1 3 1).toNatClampNeg) 2) (gd (arB 0 (48 + (σ.1 3 1).toNatClampNeg) 3) (bd (j_minII_s (((si (si (si (si (si σ (48 + (σ.1 3 1).toNatClampNeg) 0 v1) (48 + (σ.1 3 1).toNatClampNeg) 1 v2) (48 + (σ.1 3 1).toNatClampNeg) 2 v3) (48 + (σ.1 3 1).toNatClampNeg) 3 v4) 3 1 (irm (((si (si (si (si σ (48 + (σ.1 3 1).toNatClampNeg) 0 v1) (48 + (σ.1 3 1).toNatClampNeg) 1 v2) (48 + (σ.1 3 1).toNatClampNeg) 2 v3) (48 + (σ.1 3 1).toNatClampNeg) 3 v4).1 3 1) + 1) 20)).1 3 2) + 1) 20 (si (si (si (si (si σ (48 + (σ.1 3 1).toNatClampNeg) 0 v1) (48 + (σ.1 3 1).toNatClampNeg) 1 v2) (48 + (σ.1 3 1).toNatClampNeg) 2 v3) (48 + (σ.1 3 1).toNatClampNeg) 3 v4) 3 1 (irm (((si (si (si (si σ (48 + (σ.1 3 1).toNatClampNeg) 0 v1) (48 + (σ.1 3 1).toNatClampNeg) 1 v2) (48 + (σ.1 3 1).toNatClampNeg) 2 v3) (48 + (σ.1 3 1).toNatClampNeg) 3 v4).1 3 1) + 1) 20))) fun r6 σ6 => some ((), si σ6 3 2 r6))))))
def j_isQuantity_0_b20 (s0 : Int32) (σ : Sg) : Option (Int32 × Sg) :=
  gd (nbB s0) (some (s0, σ))
def j_isQuantity_0_b19 (σ : Sg) : Option (Int32 × Sg) :=
  j_isQuantity_0_b20 0 σ
def j_isQuantity_0 (v1 : Int32) (σ : Sg) : Option (Int32 × Sg) :=
  if v1 < 0 then j_isQuantity_0_b19 σ else if (σ.1 1 0) ≤ v1 then j_isQuantity_0_b19 σ else j_isQuantity_0_b20 1 σ
def j_isUnit_s_b14 (s0 : Int32) (σ : Sg) : Option (Int32 × Sg) :=
  gd (nbB s0) (some (s0, σ))
def j_isUnit_s_b13 (σ : Sg) : Option (Int32 × Sg) :=
  j_isUnit_s_b14 0 σ
def j_isUnit_s (v0 : Int32) (σ : Sg) : Option (Int32 × Sg) :=
  if v0 < 0 then j_isUnit_s_b13 σ else if 5 ≤ v0 then j_isUnit_s_b13 σ else j_isUnit_s_b14 1 σ
def j_refusedFar_0 (v1 : Int32) (σ : Sg) : Option (Int32 × Sg) :=
  bd (j_refused_0 v1 σ) fun r1 σ1 => some (1000000000 - r1, σ1)
def j_tell_0_b15 (σ : Sg) : Option (Int32 × Sg) :=
  bd (j_refusedFar_0 (-1) σ) fun r1 σ1 => some (r1, σ1)
def j_tell_0 (v1 : Int32) (v2 : Int32) (v3 : Int32) (σ : Sg) : Option (Int32 × Sg) :=
  bd (j_isQuantity_0 v1 σ) fun r1 σ1 => if r1 = 0 then j_tell_0_b15 σ1 else bd (j_isUnit_s v2 σ1) fun r2 σ2 => if r2 = 0 then j_tell_0_b15 σ2 else if (-9) ≤ v3 then if v3 ≤ 9 then gd (inB v1 8) (gd (arB 0 (23 + v1.toNatClampNeg) v2) (bd (j_note_3 0 v1 v2 (σ2.1 (23 + v1.toNatClampNeg) v2.toNatClampNeg) σ2) fun _ σ5 => gd (inB v1 8) (gd (arB 0 (23 + v1.toNatClampNeg) v2) (bd (j_measure_4_1 (si σ5 (23 + v1.toNatClampNeg) v2.toNatClampNeg v3)) fun _ σ8 => some (σ2.1 (23 + v1.toNatClampNeg) v2.toNatClampNeg, σ8))))) else bd (j_refusedFar_0 (-6) σ2) fun r9 σ9 => some (r9, σ9) else bd (j_refusedFar_0 (-4) σ2) fun r11 σ11 => some (r11, σ11)
def j_turn_0 (v1 : Int32) (v2 : Int32) (σ : Sg) : Option (Int32 × Sg) :=
  bd (j_isQuantity_0 v1 σ) fun r1 σ1 => if r1 = 0 then bd (j_refused_0 (-1) σ1) fun r9 σ9 => some (r9, σ9) else bd (j_isKind_s v2 σ1) fun r2 σ2 => if r2 = 0 then bd (j_refused_0 (-2) σ2) fun r7 σ7 => some (r7, σ7) else gd (inB v1 8) (bd (j_note_3 1 v1 (σ2.1 21 v1.toNatClampNeg) 0 σ2) fun _ σ4 => gd (inB v1 8) (bd (j_measure_4_1 (si σ4 21 v1.toNatClampNeg v2)) fun _ σ6 => some (σ2.1 21 v1.toNatClampNeg, σ6)))
def j_looseSet_4 (σ : Sg) : Option (Int32 × Sg) :=
  some ((((1 : Int32) <<< ((σ.1 4 0) &&& 31)) - 1) &&& ((σ.1 5 4) ^^^ (-1)), σ)
def j_isPure_x_H7 (k7 : Nat → Int32 → Int32 → Sg → Option (Int32 × Sg)) (v1 : Nat) (v2 : Int32) (v3 : Int32) (σ : Sg) : Option (Int32 × Sg) :=
  if v2 ≤ v3 then some (1, σ) else gd (arB 0 v1 v3) (if (σ.1 v1 v3.toNatClampNeg) = 0 then k7 v1 v2 (v3 + 1) σ else some (0, σ))
def j_isPure_x_L7 : Nat → Nat → Int32 → Int32 → Sg → Option (Int32 × Sg)
  | 0, _, _, _, _ => none
  | n + 1, v1, v2, v3, σ => j_isPure_x_H7 (j_isPure_x_L7 n) v1 v2 v3 σ
def j_isPure_x (v0 : Nat) (σ : Sg) : Option (Int32 × Sg) :=
  gd (ckB v0) (j_isPure_x_L7 fu v0 (Int32.ofNat (al v0)) 0 σ)
def j_of_0_b133 (σ : Sg) : Option (Int32 × Sg) :=
  bd (j_refusedFar_0 (-2) σ) fun r1 σ1 => some (r1, σ1)
def j_of_0_b102 (v1 : Int32) (v2 : Int32) (σ : Sg) : Option (Int32 × Sg) :=
  if v2 < 20 then j_of_0_b133 σ else bd (j_isUnit_s (v2 - 20) σ) fun r1 σ1 => if r1 = 0 then j_of_0_b133 σ1 else gd (inB v1 8) (gd (arB 0 (69 + v1.toNatClampNeg) (v2 - 20)) (some (σ1.1 (69 + v1.toNatClampNeg) (v2 - 20).toNatClampNeg, σ1)))
def j_of_0_b70 (s0 : Int32) (σ : Sg) : Option (Int32 × Sg) :=
  some (s0, σ)
def j_of_0 (v1 : Int32) (v2 : Int32) (σ : Sg) : Option (Int32 × Sg) :=
  bd (j_isQuantity_0 v1 σ) fun r1 σ1 => if r1 = 0 then bd (j_refusedFar_0 (-1) σ1) fun r16 σ16 => some (r16, σ16) else if v2 = 0 then gd (inB v1 8) (some (σ1.1 21 v1.toNatClampNeg, σ1)) else if v2 = 1 then bd (j_looseSet_4 σ1) fun r11 σ11 => bd (j_bit_s r11 v1 σ11) fun r12 σ12 => some (r12, σ12) else if v2 = 2 then gd (inB v1 8) (bd (j_isPure_x (69 + v1.toNatClampNeg) σ1) fun r8 σ8 => if r8 = 0 then j_of_0_b70 0 σ8 else j_of_0_b70 1 σ8) else if v2 < 10 then j_of_0_b102 v1 v2 σ1 else bd (j_isUnit_s (v2 - 10) σ1) fun r2 σ2 => if r2 = 0 then j_of_0_b102 v1 v2 σ2 else gd (inB v1 8) (gd (arB 0 (23 + v1.toNatClampNeg) (v2 - 10)) (some (σ2.1 (23 + v1.toNatClampNeg) (v2 - 10).toNatClampNeg, σ2)))
def j_twin_0_b56 (k16 : Int32 → Int32 → Sg → Option (Int32 × Sg)) (v1 : Int32) (v2 : Int32) (σ : Sg) : Option (Int32 × Sg) :=
  k16 v1 (v2 + 1) σ
def j_twin_0_H16 (k16 : Int32 → Int32 → Sg → Option (Int32 × Sg)) (v1 : Int32) (v2 : Int32) (σ : Sg) : Option (Int32 × Sg) :=
  if (σ.1 4 0) ≤ v2 then some ((-9), σ) else if v2 = v1 then j_twin_0_b56 k16 v1 v2 σ else gd (inB v2 8) (gd (inB v1 8) (if (lg_cmp (σ.2 77 v2.toNatClampNeg) (σ.2 77 v1.toNatClampNeg)) = 0 then some (v2, σ) else j_twin_0_b56 k16 v1 v2 σ))
def j_twin_0_L16 : Nat → Int32 → Int32 → Sg → Option (Int32 × Sg)
  | 0, _, _, _ => none
  | n + 1, v1, v2, σ => j_twin_0_H16 (j_twin_0_L16 n) v1 v2 σ
def j_twin_0 (v1 : Int32) (σ : Sg) : Option (Int32 × Sg) :=
  bd (j_isQuantity_0 v1 σ) fun r1 σ1 => if r1 = 0 then bd (j_refused_0 (-1) σ1) fun r2 σ2 => some (r2, σ2) else j_twin_0_L16 fu v1 0 σ1
def j_taken_0_b82 (σ : Sg) : Option (Int32 × Sg) :=
  some ((-16), σ)
def j_taken_0_H41 (k41 : Int32 → Int32 → Int32 → Int32 → Sg → Option (Int32 × Sg)) (v1 : Int32) (v2 : Int32) (v3 : Int32) (v4 : Int32) (σ : Sg) : Option (Int32 × Sg) :=
  if 6 ≤ v4 then j_taken_0_b82 σ else bd (j_isKind_s v3 σ) fun r1 σ1 => if r1 = 0 then j_taken_0_b82 σ1 else if v3 = v2 then gd (inB v1 8) (some (σ1.1 21 v1.toNatClampNeg, σ1)) else gd (inB v3 6) (k41 v1 v2 (sv 1000 v3.toNatClampNeg) (v4 + 1) σ1)
def j_taken_0_L41 : Nat → Int32 → Int32 → Int32 → Int32 → Sg → Option (Int32 × Sg)
  | 0, _, _, _, _, _ => none
  | n + 1, v1, v2, v3, v4, σ => j_taken_0_H41 (j_taken_0_L41 n) v1 v2 v3 v4 σ
def j_taken_0 (v1 : Int32) (v2 : Int32) (σ : Sg) : Option (Int32 × Sg) :=
  bd (j_isQuantity_0 v1 σ) fun r1 σ1 => if r1 = 0 then bd (j_refused_0 (-1) σ1) fun r6 σ6 => some (r6, σ6) else bd (j_isKind_s v2 σ1) fun r2 σ2 => if r2 = 0 then bd (j_refused_0 (-2) σ2) fun r4 σ4 => some (r4, σ4) else gd (inB v1 8) (j_taken_0_L41 fu v1 v2 (σ2.1 21 v1.toNatClampNeg) 0 σ2)
def j_differentDimensions_4_b64 (k4 : Int32 → Int32 → Sg → Option (Int32 × Sg)) (v2 : Int32) (s0 : Int32) (s1 : Int32) (σ : Sg) : Option (Int32 × Sg) :=
  k4 (s0 + s1) (v2 + 1) σ
def j_differentDimensions_4_b46 (k4 : Int32 → Int32 → Sg → Option (Int32 × Sg)) (k17 : Int32 → Int32 → Int32 → Int32 → Sg → Option (Int32 × Sg)) (v1 : Int32) (v2 : Int32) (v4 : Int32) (s0 : Int32) (s1 : Int32) (σ : Sg) : Option (Int32 × Sg) :=
  k17 v1 v2 (s0 + s1) (v4 + 1) σ
def j_differentDimensions_4_H17 (k4 : Int32 → Int32 → Sg → Option (Int32 × Sg)) (k17 : Int32 → Int32 → Int32 → Int32 → Sg → Option (Int32 × Sg)) (v1 : Int32) (v2 : Int32) (v3 : Int32) (v4 : Int32) (σ : Sg) : Option (Int32 × Sg) :=
  if v2 ≤ v4 then if v3 = 0 then j_differentDimensions_4_b64 k4 v2 v1 1 σ else j_differentDimensions_4_b64 k4 v2 v1 0 σ else gd (inB v4 8) (gd (inB v2 8) (if (lg_cmp (σ.2 77 v4.toNatClampNeg) (σ.2 77 v2.toNatClampNeg)) = 0 then j_differentDimensions_4_b46 k4 k17 v1 v2 v4 v3 1 σ else j_differentDimensions_4_b46 k4 k17 v1 v2 v4 v3 0 σ))
def j_differentDimensions_4_L17 (k4 : Int32 → Int32 → Sg → Option (Int32 × Sg)) : Nat → Int32 → Int32 → Int32 → Int32 → Sg → Option (Int32 × Sg)
  | 0, _, _, _, _, _ => none
  | n + 1, v1, v2, v3, v4, σ => j_differentDimensions_4_H17 k4 (j_differentDimensions_4_L17 k4 n) v1 v2 v3 v4 σ
def j_differentDimensions_4_H4 (k4 : Int32 → Int32 → Sg → Option (Int32 × Sg)) (v1 : Int32) (v2 : Int32) (σ : Sg) : Option (Int32 × Sg) :=
  if (σ.1 4 0) ≤ v2 then some (v1, σ) else j_differentDimensions_4_L17 k4 fu v1 v2 0 0 σ
def j_differentDimensions_4_L4 : Nat → Int32 → Int32 → Sg → Option (Int32 × Sg)
  | 0, _, _, _ => none
  | n + 1, v1, v2, σ => j_differentDimensions_4_H4 (j_differentDimensions_4_L4 n) v1 v2 σ
def j_differentDimensions_4 (σ : Sg) : Option (Int32 × Sg) :=
  j_differentDimensions_4_L4 fu 0 0 σ
def j_rank_0_b73 (s0 : Int32) (σ : Sg) : Option (Int32 × Sg) :=
  some (s0, σ)
def j_rank_0 (v1 : Int32) (σ : Sg) : Option (Int32 × Sg) :=
  if v1 = 0 then some (σ.1 5 3, σ) else if v1 = 1 then some ((σ.1 4 0) - (σ.1 5 3), σ) else if v1 = 2 then bd (j_looseSet_4 σ) fun r4 σ4 => some (r4, σ4) else if v1 = 3 then bd (j_differentDimensions_4 σ) fun r2 σ2 => j_rank_0_b73 r2 σ2 else bd (j_refused_0 (-2) σ) fun r1 σ1 => j_rank_0_b73 r1 σ1
def j_fillAII_17_H5 (k5 : Int32 → Int32 → Int32 → Sg → Option (Unit × Sg)) (v1 : Int32) (v2 : Int32) (v3 : Int32) (σ : Sg) : Option (Unit × Sg) :=
  if v3 ≤ v2 then some ((), σ) else gd (inB v2 8) (k5 v1 (v2 + 1) v3 (si σ 17 v2.toNatClampNeg v1))
def j_fillAII_17_L5 : Nat → Int32 → Int32 → Int32 → Sg → Option (Unit × Sg)
  | 0, _, _, _, _ => none
  | n + 1, v1, v2, v3, σ => j_fillAII_17_H5 (j_fillAII_17_L5 n) v1 v2 v3 σ
def j_fillAII_17 (v1 : Int32) (σ : Sg) : Option (Unit × Sg) :=
  j_fillAII_17_L5 fu v1 0 8 σ
def j_absJ_s_b12 (s0 : Int64) (σ : Sg) : Option (Int64 × Sg) :=
  some (s0, σ)
def j_absJ_s (v0 : Int64) (σ : Sg) : Option (Int64 × Sg) :=
  if 0 ≤ (lg_cmp v0 0) then j_absJ_s_b12 v0 σ else j_absJ_s_b12 (-v0) σ
def j_greatestDivisor_s_b51 (v4 : Int64) (σ : Sg) : Option (Int64 × Sg) :=
  some (v4, σ)
def j_greatestDivisor_s_H15 (k15 : Int64 → Int64 → Int32 → Sg → Option (Int64 × Sg)) (v4 : Int64) (v6 : Int64) (v8 : Int32) (σ : Sg) : Option (Int64 × Sg) :=
  if 200 ≤ v8 then j_greatestDivisor_s_b51 v4 σ else if (lg_cmp v6 0) = 0 then j_greatestDivisor_s_b51 v4 σ else gd (neBL v6) (k15 v6 (lrm v4 v6) (v8 + 1) σ)
def j_greatestDivisor_s_L15 : Nat → Int64 → Int64 → Int32 → Sg → Option (Int64 × Sg)
  | 0, _, _, _, _ => none
  | n + 1, v4, v6, v8, σ => j_greatestDivisor_s_H15 (j_greatestDivisor_s_L15 n) v4 v6 v8 σ
def j_greatestDivisor_s (v0 : Int64) (v2 : Int64) (σ : Sg) : Option (Int64 × Sg) :=
  bd (j_absJ_s v0 σ) fun r1 σ1 => bd (j_absJ_s v2 σ1) fun r2 σ2 => j_greatestDivisor_s_L15 fu r1 r2 0 σ2
def j_relation_5_17_b146 (k102 : Int32 → Int64 → Int32 → Sg → Option (Unit × Sg)) (v1 : Int32) (v3 : Int64) (v5 : Int32) (σ : Sg) : Option (Unit × Sg) :=
  k102 v1 v3 (v5 + 1) σ
def j_relation_5_17_H102 (k102 : Int32 → Int64 → Int32 → Sg → Option (Unit × Sg)) (v1 : Int32) (v3 : Int64) (v5 : Int32) (σ : Sg) : Option (Unit × Sg) :=
  if (σ.1 5 2) ≤ v5 then some ((), σ) else bd (j_bit_s (σ.1 5 4) v5 σ) fun r1 σ1 => if r1 = 1 then gd (inB v5 8) (gd (inB (σ1.1 84 v5.toNatClampNeg) 5) (gd (arB 1 (79 + (σ1.1 84 v5.toNatClampNeg).toNatClampNeg) v1) (gd (neBL v3) (gd (inB v5 8) (j_relation_5_17_b146 k102 v1 v3 v5 (si σ1 17 v5.toNatClampNeg (((-(σ1.2 (79 + (σ1.1 84 v5.toNatClampNeg).toNatClampNeg) v1.toNatClampNeg)) / v3).toInt32))))))) else j_relation_5_17_b146 k102 v1 v3 v5 σ1
def j_relation_5_17_L102 : Nat → Int32 → Int64 → Int32 → Sg → Option (Unit × Sg)
  | 0, _, _, _, _ => none
  | n + 1, v1, v3, v5, σ => j_relation_5_17_H102 (j_relation_5_17_L102 n) v1 v3 v5 σ
def j_relation_5_17_b88 (v1 : Int32) (s0 : Int64) (σ : Sg) : Option (Unit × Sg) :=
  gd (neBL s0) (gd (inB v1 8) (j_relation_5_17_L102 fu v1 s0 0 (si σ 17 v1.toNatClampNeg (((σ.2 5 5) / s0).toInt32))))
def j_relation_5_17_b54 (k13 : Int32 → Int64 → Int32 → Sg → Option (Unit × Sg)) (v1 : Int32) (v3 : Int64) (v5 : Int32) (σ : Sg) : Option (Unit × Sg) :=
  k13 v1 v3 (v5 + 1) σ
def j_relation_5_17_H13 (k13 : Int32 → Int64 → Int32 → Sg → Option (Unit × Sg)) (v1 : Int32) (v3 : Int64) (v5 : Int32) (σ : Sg) : Option (Unit × Sg) :=
  if (σ.1 5 2) ≤ v5 then if (lg_cmp v3 0) = 0 then some ((), σ) else if 0 ≤ (lg_cmp (σ.2 5 5) 0) then bd (j_absJ_s v3 σ) fun r1 σ1 => j_relation_5_17_b88 v1 r1 σ1 else bd (j_absJ_s v3 σ) fun r2 σ2 => j_relation_5_17_b88 v1 (-r2) σ2 else bd (j_bit_s (σ.1 5 4) v5 σ) fun r5 σ5 => if r5 = 1 then gd (inB v5 8) (gd (inB (σ5.1 84 v5.toNatClampNeg) 5) (gd (arB 1 (79 + (σ5.1 84 v5.toNatClampNeg).toNatClampNeg) v1) (bd (j_greatestDivisor_s v3 (σ5.2 (79 + (σ5.1 84 v5.toNatClampNeg).toNatClampNeg) v1.toNatClampNeg) σ5) fun r9 σ9 => j_relation_5_17_b54 k13 v1 r9 v5 σ9))) else j_relation_5_17_b54 k13 v1 v3 v5 σ5
def j_relation_5_17_L13 : Nat → Int32 → Int64 → Int32 → Sg → Option (Unit × Sg)
  | 0, _, _, _, _ => none
  | n + 1, v1, v3, v5, σ => j_relation_5_17_H13 (j_relation_5_17_L13 n) v1 v3 v5 σ
def j_relation_5_17 (v1 : Int32) (σ : Sg) : Option (Unit × Sg) :=
  bd (j_fillAII_17 0 σ) fun _ σ1 => j_relation_5_17_L13 fu v1 (σ1.2 5 5) 0 σ1
def j_looseAt_4_b39 (k10 : Int32 → Int32 → Int32 → Sg → Option (Int32 × Sg)) (v2 : Int32) (v3 : Int32) (v4 : Int32) (σ : Sg) : Option (Int32 × Sg) :=
  k10 v2 v3 (v4 + 1) σ
def j_looseAt_4_H10 (k10 : Int32 → Int32 → Int32 → Sg → Option (Int32 × Sg)) (v2 : Int32) (v3 : Int32) (v4 : Int32) (σ : Sg) : Option (Int32 × Sg) :=
  if (σ.1 4 0) ≤ v4 then some (0, σ) else bd (j_bit_s v2 v4 σ) fun r1 σ1 => if r1 = 1 then if v3 = 0 then some (v4, σ1) else j_looseAt_4_b39 k10 v2 (v3 + (-1)) v4 σ1 else j_looseAt_4_b39 k10 v2 v3 v4 σ1
def j_looseAt_4_L10 : Nat → Int32 → Int32 → Int32 → Sg → Option (Int32 × Sg)
  | 0, _, _, _, _ => none
  | n + 1, v2, v3, v4, σ => j_looseAt_4_H10 (j_looseAt_4_L10 n) v2 v3 v4 σ
def j_looseAt_4 (v1 : Int32) (σ : Sg) : Option (Int32 × Sg) :=
  bd (j_looseSet_4 σ) fun r1 σ1 => j_looseAt_4_L10 fu r1 v1 0 σ1
def j_isGroup_0_b31 (s0 : Int32) (σ : Sg) : Option (Int32 × Sg) :=
  gd (nbB s0) (some (s0, σ))
def j_isGroup_0_b30 (σ : Sg) : Option (Int32 × Sg) :=
  j_isGroup_0_b31 0 σ
def j_isGroup_0 (v1 : Int32) (σ : Sg) : Option (Int32 × Sg) :=
  if v1 < 0 then j_isGroup_0_b30 σ else if ((σ.1 4 0) - (σ.1 5 3)) ≤ v1 then j_isGroup_0_b30 σ else j_isGroup_0_b31 1 σ
def j_group_0_b16 (σ : Sg) : Option (Int32 × Sg) :=
  bd (j_refusedFar_0 (-1) σ) fun r1 σ1 => some (r1, σ1)
def j_group_0 (v1 : Int32) (v2 : Int32) (σ : Sg) : Option (Int32 × Sg) :=
  bd (j_isGroup_0 v1 σ) fun r1 σ1 => if r1 = 0 then j_group_0_b16 σ1 else bd (j_isQuantity_0 v2 σ1) fun r2 σ2 => if r2 = 0 then j_group_0_b16 σ2 else bd (j_looseAt_4 v1 σ2) fun r3 σ3 => bd (j_relation_5_17 r3 σ3) fun _ σ4 => gd (inB v2 8) (some (σ4.1 17 v2.toNatClampNeg, σ4))
def j_absI_s_b10 (s0 : Int32) (σ : Sg) : Option (Int32 × Sg) :=
  some (s0, σ)
def j_absI_s (v0 : Int32) (σ : Sg) : Option (Int32 × Sg) :=
  if 0 ≤ v0 then j_absI_s_b10 v0 σ else j_absI_s_b10 (-v0) σ
def j_sizeOfDimension_4_18_H15 (k4 : Int32 → Int32 → Sg → Option (Int32 × Sg)) (k15 : Int32 → Int32 → Int32 → Int32 → Sg → Option (Int32 × Sg)) (v2 : Int32) (v3 : Int32) (v4 : Int32) (v5 : Int32) (σ : Sg) : Option (Int32 × Sg) :=
  if (σ.1 4 0) ≤ v5 then bd (j_absI_s v4 σ) fun r1 σ1 => k4 (v2 + r1) (v3 + 1) σ1 else gd (inB v5 8) (gd (inB v5 8) (gd (arB 0 (69 + v5.toNatClampNeg) v3) (k15 v2 v3 (v4 + ((σ.1 18 v5.toNatClampNeg) * (σ.1 (69 + v5.toNatClampNeg) v3.toNatClampNeg))) (v5 + 1) σ)))
def j_sizeOfDimension_4_18_L15 (k4 : Int32 → Int32 → Sg → Option (Int32 × Sg)) : Nat → Int32 → Int32 → Int32 → Int32 → Sg → Option (Int32 × Sg)
  | 0, _, _, _, _, _ => none
  | n + 1, v2, v3, v4, v5, σ => j_sizeOfDimension_4_18_H15 k4 (j_sizeOfDimension_4_18_L15 k4 n) v2 v3 v4 v5 σ
def j_sizeOfDimension_4_18_H4 (k4 : Int32 → Int32 → Sg → Option (Int32 × Sg)) (v2 : Int32) (v3 : Int32) (σ : Sg) : Option (Int32 × Sg) :=
  if 5 ≤ v3 then some (v2, σ) else j_sizeOfDimension_4_18_L15 k4 fu v2 v3 0 0 σ
def j_sizeOfDimension_4_18_L4 : Nat → Int32 → Int32 → Sg → Option (Int32 × Sg)
  | 0, _, _, _ => none
  | n + 1, v2, v3, σ => j_sizeOfDimension_4_18_H4 (j_sizeOfDimension_4_18_L4 n) v2 v3 σ
def j_sizeOfDimension_4_18 (σ : Sg) : Option (Int32 × Sg) :=
  j_sizeOfDimension_4_18_L4 fu 0 0 σ
def j_isPureProduct_4_18_b13 (s0 : Int32) (σ : Sg) : Option (Int32 × Sg) :=
  gd (nbB s0) (some (s0, σ))
def j_isPureProduct_4_18 (σ : Sg) : Option (Int32 × Sg) :=
  bd (j_sizeOfDimension_4_18 σ) fun r1 σ1 => if r1 = 0 then j_isPureProduct_4_18_b13 1 σ1 else j_isPureProduct_4_18_b13 0 σ1
def j_isList_s_b14 (s0 : Int32) (σ : Sg) : Option (Int32 × Sg) :=
  gd (nbB s0) (some (s0, σ))
def j_isList_s_b13 (σ : Sg) : Option (Int32 × Sg) :=
  j_isList_s_b14 0 σ
def j_isList_s (v0 : Int32) (σ : Sg) : Option (Int32 × Sg) :=
  if v0 < 0 then j_isList_s_b13 σ else if 3 ≤ v0 then j_isList_s_b13 σ else j_isList_s_b14 1 σ
def j_isMissing_0_b14 (s0 : Int32) (σ : Sg) : Option (Int32 × Sg) :=
  gd (nbB s0) (some (s0, σ))
def j_isMissing_0 (v1 : Int32) (σ : Sg) : Option (Int32 × Sg) :=
  gd (inB v1 3) (if 0 ≤ (σ.1 16 v1.toNatClampNeg) then j_isMissing_0_b14 0 σ else j_isMissing_0_b14 1 σ)
def j_isPlace_0_b19 (s0 : Int32) (σ : Sg) : Option (Int32 × Sg) :=
  gd (nbB s0) (some (s0, σ))
def j_isPlace_0_b18 (σ : Sg) : Option (Int32 × Sg) :=
  j_isPlace_0_b19 0 σ
def j_isPlace_0 (v1 : Int32) (v2 : Int32) (σ : Sg) : Option (Int32 × Sg) :=
  if v2 < 0 then j_isPlace_0_b18 σ else gd (inB v1 3) (if (σ.1 16 v1.toNatClampNeg) ≤ v2 then j_isPlace_0_b18 σ else j_isPlace_0_b19 1 σ)
def j_takeNumbers_0_18_b54 (σ : Sg) : Option (Int32 × Sg) :=
  some (0, σ)
def j_takeNumbers_0_18_b35 (k3 : Int32 → Int32 → Int32 → Sg → Option (Int32 × Sg)) (v1 : Int32) (v2 : Int32) (v4 : Int32) (s1 : Int32) (s2 : Int32) (σ : Sg) : Option (Int32 × Sg) :=
  gd (inB s1 8) (gd (inB v4 8) (if ((si σ 18 s1.toNatClampNeg s2).1 18 v4.toNatClampNeg) < (-99) then j_takeNumbers_0_18_b54 (si σ 18 s1.toNatClampNeg s2) else gd (inB v4 8) (if ((si σ 18 s1.toNatClampNeg s2).1 18 v4.toNatClampNeg) ≤ 99 then k3 v1 v2 (v4 + 1) (si σ 18 s1.toNatClampNeg s2) else j_takeNumbers_0_18_b54 (si σ 18 s1.toNatClampNeg s2))))
def j_takeNumbers_0_18_H3 (k3 : Int32 → Int32 → Int32 → Sg → Option (Int32 × Sg)) (v1 : Int32) (v2 : Int32) (v4 : Int32) (σ : Sg) : Option (Int32 × Sg) :=
  if v2 ≤ v4 then some (1, σ) else bd (j_isPlace_0 v1 v4 σ) fun r1 σ1 => if r1 = 0 then j_takeNumbers_0_18_b35 k3 v1 v2 v4 v4 0 σ1 else gd (inB v1 3) (gd (arB 0 (13 + v1.toNatClampNeg) v4) (j_takeNumbers_0_18_b35 k3 v1 v2 v4 v4 (σ1.1 (13 + v1.toNatClampNeg) v4.toNatClampNeg) σ1))
def j_takeNumbers_0_18_L3 : Nat → Int32 → Int32 → Int32 → Sg → Option (Int32 × Sg)
  | 0, _, _, _, _ => none
  | n + 1, v1, v2, v4, σ => j_takeNumbers_0_18_H3 (j_takeNumbers_0_18_L3 n) v1 v2 v4 σ
def j_takeNumbers_0_18 (v1 : Int32) (v2 : Int32) (σ : Sg) : Option (Int32 × Sg) :=
  j_takeNumbers_0_18_L3 fu v1 v2 0 σ
def j_pure_0_b69 (s0 : Int32) (σ : Sg) : Option (Int32 × Sg) :=
  some (s0, σ)
def j_pure_0 (v1 : Int32) (σ : Sg) : Option (Int32 × Sg) :=
  bd (j_isList_s v1 σ) fun r1 σ1 => if r1 = 0 then bd (j_refused_0 (-1) σ1) fun r9 σ9 => some (r9, σ9) else bd (j_isMissing_0 v1 σ1) fun r2 σ2 => if r2 = 0 then bd (j_takeNumbers_0_18 v1 (σ2.1 1 0) σ2) fun r3 σ3 => if r3 = 0 then bd (j_refused_0 (-3) σ3) fun r6 σ6 => some (r6, σ6) else bd (j_isPureProduct_4_18 σ3) fun r4 σ4 => if r4 = 0 then j_pure_0_b69 0 σ4 else j_pure_0_b69 1 σ4 else some ((-11), σ2)
def j_isPart_s_b14 (s0 : Int32) (σ : Sg) : Option (Int32 × Sg) :=
  gd (nbB s0) (some (s0, σ))
def j_isPart_s_b9 (σ : Sg) : Option (Int32 × Sg) :=
  j_isPart_s_b14 1 σ
def j_isPart_s (v0 : Int32) (σ : Sg) : Option (Int32 × Sg) :=
  if v0 = 0 then j_isPart_s_b9 σ else if v0 = 1 then j_isPart_s_b9 σ else j_isPart_s_b14 0 σ
def j_partOf_s_b28 (v5 : Int64) (s0 : Int64) (σ : Sg) : Option (Int64 × Sg) :=
  gd (neBL v5) (some (s0 / v5, σ))
def j_partOf_s (v0 : Int64) (v2 : Int64) (v4 : Int32) (σ : Sg) : Option (Int64 × Sg) :=
  bd (j_greatestDivisor_s v0 v2 σ) fun r1 σ1 => if (lg_cmp r1 0) = 0 then some (v4.toInt64, σ1) else if v4 = 0 then j_partOf_s_b28 r1 v0 σ1 else j_partOf_s_b28 r1 v2 σ1
def j_refusedFarLong_0 (v1 : Int32) (σ : Sg) : Option (Int64 × Sg) :=
  bd (j_refused_0 v1 σ) fun r1 σ1 => some (4000000000000000000 - r1.toInt64, σ1)
def j_cover_0_b15 (σ : Sg) : Option (Int64 × Sg) :=
  bd (j_refusedFarLong_0 (-1) σ) fun r1 σ1 => some (r1, σ1)
def j_cover_0_b83 (σ : Sg) : Option (Int64 × Sg) :=
  bd (j_refusedFarLong_0 (-3) σ) fun r1 σ1 => some (r1, σ1)
def j_cover_0 (v1 : Int32) (v2 : Int32) (v3 : Int32) (σ : Sg) : Option (Int64 × Sg) :=
  bd (j_isList_s v1 σ) fun r1 σ1 => if r1 = 0 then j_cover_0_b15 σ1 else bd (j_isGroup_0 v2 σ1) fun r2 σ2 => if r2 = 0 then j_cover_0_b15 σ2 else bd (j_isPart_s v3 σ2) fun r3 σ3 => if r3 = 0 then bd (j_refusedFarLong_0 (-2) σ3) fun r16 σ16 => some (r16, σ16) else bd (j_isMissing_0 v1 σ3) fun r4 σ4 => if r4 = 0 then bd (j_takeNumbers_0_18 v1 (σ4.1 1 0) σ4) fun r5 σ5 => if r5 = 0 then j_cover_0_b83 σ5 else bd (j_isPureProduct_4_18 σ5) fun r6 σ6 => if r6 = 0 then j_cover_0_b83 σ6 else bd (j_looseAt_4 v2 σ6) fun r7 σ7 => bd (j_relation_5_17 r7 σ7) fun _ σ8 => gd (inB r7 8) (gd (inB r7 8) (bd (j_partOf_s ((σ8.1 18 r7.toNatClampNeg).toInt64) ((σ8.1 17 r7.toNatClampNeg).toInt64) v3 σ8) fun r11 σ11 => some (r11, σ11))) else bd (j_refusedFarLong_0 (-11) σ4) fun r14 σ14 => some (r14, σ14)
def j_pureInBox_77_b16 (rs : Int32 → Int32 → Int64 → Sg → Option (Int32 × Sg)) (s0 : Int32) (σ : Sg) : Option (Int32 × Sg) :=
  some (s0, σ)
def j_pureInBox_77_H (rs : Int32 → Int32 → Int64 → Sg → Option (Int32 × Sg)) (v1 : Int32) (v2 : Int32) (v3 : Int64) (σ : Sg) : Option (Int32 × Sg) :=
  if v2 < v1 then gd (inB v2 8) (bd (rs v1 (v2 + 1) (v3 - (σ.2 77 v2.toNatClampNeg)) σ) fun r2 σ2 => bd (rs v1 (v2 + 1) v3 σ2) fun r3 σ3 => gd (inB v2 8) (bd (rs v1 (v2 + 1) (v3 + (σ3.2 77 v2.toNatClampNeg)) σ3) fun r5 σ5 => some ((r2 + r3) + r5, σ5))) else if (lg_cmp v3 0) = 0 then j_pureInBox_77_b16 rs 1 σ else j_pureInBox_77_b16 rs 0 σ
def j_pureInBox_77 : Nat → Int32 → Int32 → Int64 → Sg → Option (Int32 × Sg)
  | 0, _, _, _, _ => none
  | n + 1, v1, v2, v3, σ => j_pureInBox_77_H (j_pureInBox_77 n) v1 v2 v3 σ
def j_countBox_8 (σ : Sg) : Option (Int32 × Sg) :=
  bd (j_pureInBox_77 12 (σ.1 4 0) 0 0 σ) fun r1 σ1 => some (r1, σ1)
def j_box_0 (σ : Sg) : Option (Int32 × Sg) :=
  bd (j_countBox_8 σ) fun r1 σ1 => some (r1, σ1)
def j_fillAII_93_H5 (k5 : Int32 → Int32 → Int32 → Sg → Option (Unit × Sg)) (v1 : Int32) (v2 : Int32) (v3 : Int32) (σ : Sg) : Option (Unit × Sg) :=
  if v3 ≤ v2 then some ((), σ) else gd (inB v2 8) (k5 v1 (v2 + 1) v3 (si σ 93 v2.toNatClampNeg v1))
def j_fillAII_93_L5 : Nat → Int32 → Int32 → Int32 → Sg → Option (Unit × Sg)
  | 0, _, _, _, _ => none
  | n + 1, v1, v2, v3, σ => j_fillAII_93_H5 (j_fillAII_93_L5 n) v1 v2 v3 σ
def j_fillAII_93 (v1 : Int32) (σ : Sg) : Option (Unit × Sg) :=
  j_fillAII_93_L5 fu v1 0 8 σ
def j_hasPure_77_93_H50 (rs : Int32 → Int32 → Int32 → Int64 → Sg → Option (Int32 × Sg)) (k50 : Int32 → Int32 → Int32 → Int64 → Int32 → Int32 → Sg → Option (Int32 × Sg)) (v1 : Int32) (v3 : Int32) (v4 : Int32) (v5 : Int64) (v7 : Int32) (v8 : Int32) (σ : Sg) : Option (Int32 × Sg) :=
  if v4 < v8 then gd (inB v3 8) (some (0, si σ 93 v3.toNatClampNeg 0)) else gd (inB v3 8) (bd (j_absI_s v8 (si σ 93 v3.toNatClampNeg v8)) fun r3 σ3 => gd (inB v3 8) (bd (rs v1 (v3 + 1) (v4 - r3) (v5 + (v8.toInt64 * (σ3.2 77 v3.toNatClampNeg))) σ3) fun r5 σ5 => if r5 = 0 then k50 v1 v3 v4 v5 v7 (v8 + v7) σ5 else some (1, σ5)))
def j_hasPure_77_93_L50 (rs : Int32 → Int32 → Int32 → Int64 → Sg → Option (Int32 × Sg)) : Nat → Int32 → Int32 → Int32 → Int64 → Int32 → Int32 → Sg → Option (Int32 × Sg)
  | 0, _, _, _, _, _, _, _ => none
  | n + 1, v1, v3, v4, v5, v7, v8, σ => j_hasPure_77_93_H50 rs (j_hasPure_77_93_L50 rs n) v1 v3 v4 v5 v7 v8 σ
def j_hasPure_77_93_b43 (rs : Int32 → Int32 → Int32 → Int64 → Sg → Option (Int32 × Sg)) (v1 : Int32) (v3 : Int32) (v4 : Int32) (v5 : Int64) (s0 : Int32) (σ : Sg) : Option (Int32 × Sg) :=
  j_hasPure_77_93_L50 rs fu v1 v3 v4 v5 s0 (-v4) σ
def j_hasPure_77_93_b42 (rs : Int32 → Int32 → Int32 → Int64 → Sg → Option (Int32 × Sg)) (v1 : Int32) (v3 : Int32) (v4 : Int32) (v5 : Int64) (σ : Sg) : Option (Int32 × Sg) :=
  j_hasPure_77_93_b43 rs v1 v3 v4 v5 1 σ
def j_hasPure_77_93_b22 (rs : Int32 → Int32 → Int32 → Int64 → Sg → Option (Int32 × Sg)) (s0 : Int32) (σ : Sg) : Option (Int32 × Sg) :=
  gd (nbB s0) (some (s0, σ))
def j_hasPure_77_93_b21 (rs : Int32 → Int32 → Int32 → Int64 → Sg → Option (Int32 × Sg)) (σ : Sg) : Option (Int32 × Sg) :=
  j_hasPure_77_93_b22 rs 0 σ
def j_hasPure_77_93_H (rs : Int32 → Int32 → Int32 → Int64 → Sg → Option (Int32 × Sg)) (v1 : Int32) (v3 : Int32) (v4 : Int32) (v5 : Int64) (σ : Sg) : Option (Int32 × Sg) :=
  if v3 < v1 then if v3 = (v1 - 1) then if v4 ≤ 0 then j_hasPure_77_93_b42 rs v1 v3 v4 v5 σ else j_hasPure_77_93_b43 rs v1 v3 v4 v5 (2 * v4) σ else j_hasPure_77_93_b42 rs v1 v3 v4 v5 σ else if v4 = 0 then if (lg_cmp v5 0) = 0 then j_hasPure_77_93_b22 rs 1 σ else j_hasPure_77_93_b21 rs σ else j_hasPure_77_93_b21 rs σ
def j_hasPure_77_93 : Nat → Int32 → Int32 → Int32 → Int64 → Sg → Option (Int32 × Sg)
  | 0, _, _, _, _, _ => none
  | n + 1, v1, v3, v4, v5, σ => j_hasPure_77_93_H (j_hasPure_77_93 n) v1 v3 v4 v5 σ
def j_findLeast_8_b102 (σ : Sg) : Option (Unit × Sg) :=
  some ((), σ)
def j_findLeast_8_b96 (k41 : Int32 → Sg → Option (Unit × Sg)) (v1 : Int32) (σ : Sg) : Option (Unit × Sg) :=
  k41 (v1 + 1) σ
def j_findLeast_8_H41 (k41 : Int32 → Sg → Option (Unit × Sg)) (v1 : Int32) (σ : Sg) : Option (Unit × Sg) :=
  if 6 < v1 then j_findLeast_8_b102 σ else if (σ.1 8 2) = 0 then bd (j_looseSet_4 σ) fun r1 σ1 => if r1 = 0 then j_findLeast_8_b102 σ1 else bd (j_hasPure_77_93 12 (σ1.1 4 0) 0 v1 0 σ1) fun r2 σ2 => if r2 = 0 then j_findLeast_8_b96 k41 v1 σ2 else j_findLeast_8_b96 k41 v1 (si σ2 8 2 v1) else j_findLeast_8_b102 σ
def j_findLeast_8_L41 : Nat → Int32 → Sg → Option (Unit × Sg)
  | 0, _, _ => none
  | n + 1, v1, σ => j_findLeast_8_H41 (j_findLeast_8_L41 n) v1 σ
def j_findLeast_8 (σ : Sg) : Option (Unit × Sg) :=
  if (σ.1 8 3) = (σ.1 4 1) then some ((), σ) else bd (j_fillAII_93 0 (si (si σ 8 3 (σ.1 4 1)) 8 2 0)) fun _ σ1 => j_findLeast_8_L41 fu 1 σ1
def j_least_0_b50 (s0 : Int32) (σ : Sg) : Option (Int32 × Sg) :=
  some (s0, σ)
def j_least_0_b19 (v1 : Int32) (σ : Sg) : Option (Int32 × Sg) :=
  bd (j_findLeast_8 σ) fun _ σ1 => if v1 = (-1) then j_least_0_b50 (σ1.1 8 2) σ1 else gd (inB v1 8) (j_least_0_b50 (σ1.1 93 v1.toNatClampNeg) σ1)
def j_least_0 (v1 : Int32) (σ : Sg) : Option (Int32 × Sg) :=
  if v1 = (-1) then j_least_0_b19 v1 σ else bd (j_isQuantity_0 v1 σ) fun r1 σ1 => if r1 = 0 then bd (j_refusedFar_0 (-1) σ1) fun r2 σ2 => some (r2, σ2) else j_least_0_b19 v1 σ1
def j_bitCount_s (v0 : Int32) (σ : Sg) : Option (Int32 × Sg) :=
  some ((((((((v0 - ((iush v0 1) &&& 1431655765)) &&& 858993459) + ((iush (v0 - ((iush v0 1) &&& 1431655765)) 2) &&& 858993459)) + (iush (((v0 - ((iush v0 1) &&& 1431655765)) &&& 858993459) + ((iush (v0 - ((iush v0 1) &&& 1431655765)) 2) &&& 858993459)) 4)) &&& 252645135) + (iush (((((v0 - ((iush v0 1) &&& 1431655765)) &&& 858993459) + ((iush (v0 - ((iush v0 1) &&& 1431655765)) 2) &&& 858993459)) + (iush (((v0 - ((iush v0 1) &&& 1431655765)) &&& 858993459) + ((iush (v0 - ((iush v0 1) &&& 1431655765)) 2) &&& 858993459)) 4)) &&& 252645135) 8)) + (iush ((((((v0 - ((iush v0 1) &&& 1431655765)) &&& 858993459) + ((iush (v0 - ((iush v0 1) &&& 1431655765)) 2) &&& 858993459)) + (iush (((v0 - ((iush v0 1) &&& 1431655765)) &&& 858993459) + ((iush (v0 - ((iush v0 1) &&& 1431655765)) 2) &&& 858993459)) 4)) &&& 252645135) + (iush (((((v0 - ((iush v0 1) &&& 1431655765)) &&& 858993459) + ((iush (v0 - ((iush v0 1) &&& 1431655765)) 2) &&& 858993459)) + (iush (((v0 - ((iush v0 1) &&& 1431655765)) &&& 858993459) + ((iush (v0 - ((iush v0 1) &&& 1431655765)) 2) &&& 858993459)) 4)) &&& 252645135) 8)) 16)) &&& 63, σ)
def j_bringUp_7_H25 (k25 : Int32 → Int32 → Sg → Option (Int32 × Sg)) (v2 : Int32) (v3 : Int32) (σ : Sg) : Option (Int32 × Sg) :=
  if (σ.1 7 2) ≤ v3 then some (1, σ) else gd (inB v2 5) (gd (arB 1 (87 + v2.toNatClampNeg) v3) (gd (inB v2 5) (gd (inB (σ.1 7 3) 5) (gd (arB 1 (87 + (σ.1 7 3).toNatClampNeg) v3) (gd (arB 1 (87 + v2.toNatClampNeg) v3) (gd (inB ((sl σ (87 + v2.toNatClampNeg) v3.toNatClampNeg (σ.2 (87 + (σ.1 7 3).toNatClampNeg) v3.toNatClampNeg)).1 7 3) 5) (gd (arB 1 (87 + ((sl σ (87 + v2.toNatClampNeg) v3.toNatClampNeg (σ.2 (87 + (σ.1 7 3).toNatClampNeg) v3.toNatClampNeg)).1 7 3).toNatClampNeg) v3) (k25 v2 (v3 + 1) (sl (sl σ (87 + v2.toNatClampNeg) v3.toNatClampNeg (σ.2 (87 + (σ.1 7 3).toNatClampNeg) v3.toNatClampNeg)) (87 + ((sl σ (87 + v2.toNatClampNeg) v3.toNatClampNeg (σ.2 (87 + (σ.1 7 3).toNatClampNeg) v3.toNatClampNeg)).1 7 3).toNatClampNeg) v3.toNatClampNeg (σ.2 (87 + v2.toNatClampNeg) v3.toNatClampNeg))))))))))
def j_bringUp_7_L25 : Nat → Int32 → Int32 → Sg → Option (Int32 × Sg)
  | 0, _, _, _ => none
  | n + 1, v2, v3, σ => j_bringUp_7_H25 (j_bringUp_7_L25 n) v2 v3 σ
def j_bringUp_7_H5 (k5 : Int32 → Int32 → Sg → Option (Int32 × Sg)) (v1 : Int32) (v2 : Int32) (σ : Sg) : Option (Int32 × Sg) :=
  if 5 ≤ v2 then some (0, σ) else gd (inB v2 5) (gd (arB 1 (87 + v2.toNatClampNeg) v1) (if (lg_cmp (σ.2 (87 + v2.toNatClampNeg) v1.toNatClampNeg) 0) = 0 then k5 v1 (v2 + 1) σ else j_bringUp_7_L25 fu v2 0 σ))
def j_bringUp_7_L5 : Nat → Int32 → Int32 → Sg → Option (Int32 × Sg)
  | 0, _, _, _ => none
  | n + 1, v1, v2, σ => j_bringUp_7_H5 (j_bringUp_7_L5 n) v1 v2 σ
def j_bringUp_7 (v1 : Int32) (σ : Sg) : Option (Int32 × Sg) :=
  j_bringUp_7_L5 fu v1 (σ.1 7 3) σ
def j_clearOthers_7_b115 (k15 : Int32 → Int64 → Int32 → Sg → Option (Unit × Sg)) (v1 : Int32) (v2 : Int64) (v4 : Int32) (σ : Sg) : Option (Unit × Sg) :=
  k15 v1 v2 (v4 + 1) σ
def j_clearOthers_7_H35 (k15 : Int32 → Int64 → Int32 → Sg → Option (Unit × Sg)) (k35 : Int32 → Int64 → Int32 → Int64 → Int32 → Sg → Option (Unit × Sg)) (v1 : Int32) (v2 : Int64) (v4 : Int32) (v5 : Int64) (v7 : Int32) (σ : Sg) : Option (Unit × Sg) :=
  if (σ.1 7 2) ≤ v7 then j_clearOthers_7_b115 k15 v1 v2 v4 σ else if v4 = (σ.1 7 3) then j_clearOthers_7_b115 k15 v1 v2 v4 σ else if (lg_cmp (σ.2 7 5) 0) = 0 then j_clearOthers_7_b115 k15 v1 v2 v4 σ else gd (inB v4 5) (gd (arB 1 (87 + v4.toNatClampNeg) v7) (gd (inB v4 5) (gd (inB (σ.1 7 3) 5) (gd (arB 1 (87 + (σ.1 7 3).toNatClampNeg) v7) (gd (neBL (σ.2 7 5)) (gd (arB 1 (87 + v4.toNatClampNeg) v7) (k35 v1 v2 v4 v5 (v7 + 1) (sl σ (87 + v4.toNatClampNeg) v7.toNatClampNeg ((((σ.2 (87 + v4.toNatClampNeg) v7.toNatClampNeg) * v2) - (v5 * (σ.2 (87 + (σ.1 7 3).toNatClampNeg) v7.toNatClampNeg))) / (σ.2 7 5))))))))))
def j_clearOthers_7_L35 (k15 : Int32 → Int64 → Int32 → Sg → Option (Unit × Sg)) : Nat → Int32 → Int64 → Int32 → Int64 → Int32 → Sg → Option (Unit × Sg)
  | 0, _, _, _, _, _, _ => none
  | n + 1, v1, v2, v4, v5, v7, σ => j_clearOthers_7_H35 k15 (j_clearOthers_7_L35 k15 n) v1 v2 v4 v5 v7 σ
def j_clearOthers_7_H15 (k15 : Int32 → Int64 → Int32 → Sg → Option (Unit × Sg)) (v1 : Int32) (v2 : Int64) (v4 : Int32) (σ : Sg) : Option (Unit × Sg) :=
  if 5 ≤ v4 then some ((), sl σ 7 5 v2) else gd (inB v4 5) (gd (arB 1 (87 + v4.toNatClampNeg) v1) (j_clearOthers_7_L35 k15 fu v1 v2 v4 (σ.2 (87 + v4.toNatClampNeg) v1.toNatClampNeg) 0 σ))
def j_clearOthers_7_L15 : Nat → Int32 → Int64 → Int32 → Sg → Option (Unit × Sg)
  | 0, _, _, _, _ => none
  | n + 1, v1, v2, v4, σ => j_clearOthers_7_H15 (j_clearOthers_7_L15 n) v1 v2 v4 σ
def j_clearOthers_7 (v1 : Int32) (σ : Sg) : Option (Unit × Sg) :=
  gd (inB (σ.1 7 3) 5) (gd (arB 1 (87 + (σ.1 7 3).toNatClampNeg) v1) (j_clearOthers_7_L15 fu v1 (σ.2 (87 + (σ.1 7 3).toNatClampNeg) v1.toNatClampNeg) 0 σ))
def j_run_7_68_b142 (k74 : Int32 → Int32 → Sg → Option (Unit × Sg)) (v3 : Int32) (v4 : Int32) (σ : Sg) : Option (Unit × Sg) :=
  k74 v3 (v4 + 1) σ
def j_run_7_68_H74 (k74 : Int32 → Int32 → Sg → Option (Unit × Sg)) (v3 : Int32) (v4 : Int32) (σ : Sg) : Option (Unit × Sg) :=
  if (σ.1 7 2) ≤ v4 then some ((), σ) else bd (j_bit_s v3 v4 σ) fun r1 σ1 => if r1 = 1 then bd (j_bringUp_7 v4 σ1) fun r2 σ2 => if r2 = 0 then j_run_7_68_b142 k74 v3 v4 σ2 else bd (j_clearOthers_7 v4 σ2) fun _ σ3 => gd (inB v4 8) (j_run_7_68_b142 k74 v3 v4 (si (si (si σ3 92 v4.toNatClampNeg (σ3.1 7 3)) 7 4 (((si σ3 92 v4.toNatClampNeg (σ3.1 7 3)).1 7 4) ||| ((1 : Int32) <<< (v4 &&& 31)))) 7 3 (((si (si σ3 92 v4.toNatClampNeg (σ3.1 7 3)) 7 4 (((si σ3 92 v4.toNatClampNeg (σ3.1 7 3)).1 7 4) ||| ((1 : Int32) <<< (v4 &&& 31)))).1 7 3) + 1))) else j_run_7_68_b142 k74 v3 v4 σ1
def j_run_7_68_L74 : Nat → Int32 → Int32 → Sg → Option (Unit × Sg)
  | 0, _, _, _ => none
  | n + 1, v3, v4, σ => j_run_7_68_H74 (j_run_7_68_L74 n) v3 v4 σ
def j_run_7_68_H32 (k23 : Int32 → Int32 → Sg → Option (Unit × Sg)) (k32 : Int32 → Int32 → Int32 → Sg → Option (Unit × Sg)) (v3 : Int32) (v4 : Int32) (v5 : Int32) (σ : Sg) : Option (Unit × Sg) :=
  if (σ.1 7 2) ≤ v5 then k23 v3 (v4 + 1) σ else gd (inB v4 5) (gd (inB v5 8) (gd (arB 0 (69 + v5.toNatClampNeg) v4) (gd (arB 1 (87 + v4.toNatClampNeg) v5) (k32 v3 v4 (v5 + 1) (sl σ (87 + v4.toNatClampNeg) v5.toNatClampNeg ((σ.1 (69 + v5.toNatClampNeg) v4.toNatClampNeg).toInt64))))))
def j_run_7_68_L32 (k23 : Int32 → Int32 → Sg → Option (Unit × Sg)) : Nat → Int32 → Int32 → Int32 → Sg → Option (Unit × Sg)
  | 0, _, _, _, _ => none
  | n + 1, v3, v4, v5, σ => j_run_7_68_H32 k23 (j_run_7_68_L32 k23 n) v3 v4 v5 σ
def j_run_7_68_H23 (k23 : Int32 → Int32 → Sg → Option (Unit × Sg)) (v3 : Int32) (v4 : Int32) (σ : Sg) : Option (Unit × Sg) :=
  if 5 ≤ v4 then j_run_7_68_L74 fu v3 0 σ else j_run_7_68_L32 k23 fu v3 v4 0 σ
def j_run_7_68_L23 : Nat → Int32 → Int32 → Sg → Option (Unit × Sg)
  | 0, _, _, _ => none
  | n + 1, v3, v4, σ => j_run_7_68_H23 (j_run_7_68_L23 n) v3 v4 σ
def j_run_7_68 (v2 : Int32) (v3 : Int32) (σ : Sg) : Option (Unit × Sg) :=
  j_run_7_68_L23 fu v3 0 (sl (si (si (si σ 7 2 v2) 7 3 0) 7 4 0) 7 5 1)
def j_choose_6_b57 (s0 : Int32) (σ : Sg) : Option (Int32 × Sg) :=
  gd (nbB s0) (some (s0, σ))
def j_choose_6 (v1 : Int32) (σ : Sg) : Option (Int32 × Sg) :=
  bd (j_bitCount_s v1 σ) fun r1 σ1 => if r1 = (σ1.1 5 3) then bd (j_run_7_68 (σ1.1 4 0) v1 σ1) fun _ σ2 => if (σ2.1 7 4) = v1 then j_choose_6_b57 1 σ2 else j_choose_6_b57 0 σ2 else some (0, σ1)
def j_isSet_0_b22 (s0 : Int32) (σ : Sg) : Option (Int32 × Sg) :=
  gd (nbB s0) (some (s0, σ))
def j_isSet_0_b21 (σ : Sg) : Option (Int32 × Sg) :=
  j_isSet_0_b22 0 σ
def j_isSet_0 (v1 : Int32) (σ : Sg) : Option (Int32 × Sg) :=
  if v1 < 0 then j_isSet_0_b21 σ else if ((1 : Int32) <<< ((σ.1 1 0) &&& 31)) ≤ v1 then j_isSet_0_b21 σ else j_isSet_0_b22 1 σ
def j_may_0_b30 (s0 : Int32) (σ : Sg) : Option (Int32 × Sg) :=
  some (s0, σ)
def j_may_0 (v1 : Int32) (σ : Sg) : Option (Int32 × Sg) :=
  bd (j_isSet_0 v1 σ) fun r1 σ1 => if r1 = 0 then bd (j_refused_0 (-1) σ1) fun r4 σ4 => some (r4, σ4) else bd (j_choose_6 v1 σ1) fun r2 σ2 => if r2 = 0 then j_may_0_b30 0 σ2 else j_may_0_b30 1 σ2
def j_relation_7_17_b146 (k102 : Int32 → Int64 → Int32 → Sg → Option (Unit × Sg)) (v1 : Int32) (v3 : Int64) (v5 : Int32) (σ : Sg) : Option (Unit × Sg) :=
  k102 v1 v3 (v5 + 1) σ
def j_relation_7_17_H102 (k102 : Int32 → Int64 → Int32 → Sg → Option (Unit × Sg)) (v1 : Int32) (v3 : Int64) (v5 : Int32) (σ : Sg) : Option (Unit × Sg) :=
  if (σ.1 7 2) ≤ v5 then some ((), σ) else bd (j_bit_s (σ.1 7 4) v5 σ) fun r1 σ1 => if r1 = 1 then gd (inB v5 8) (gd (inB (σ1.1 92 v5.toNatClampNeg) 5) (gd (arB 1 (87 + (σ1.1 92 v5.toNatClampNeg).toNatClampNeg) v1) (gd (neBL v3) (gd (inB v5 8) (j_relation_7_17_b146 k102 v1 v3 v5 (si σ1 17 v5.toNatClampNeg (((-(σ1.2 (87 + (σ1.1 92 v5.toNatClampNeg).toNatClampNeg) v1.toNatClampNeg)) / v3).toInt32))))))) else j_relation_7_17_b146 k102 v1 v3 v5 σ1
def j_relation_7_17_L102 : Nat → Int32 → Int64 → Int32 → Sg → Option (Unit × Sg)
  | 0, _, _, _, _ => none
  | n + 1, v1, v3, v5, σ => j_relation_7_17_H102 (j_relation_7_17_L102 n) v1 v3 v5 σ
def j_relation_7_17_b88 (v1 : Int32) (s0 : Int64) (σ : Sg) : Option (Unit × Sg) :=
  gd (neBL s0) (gd (inB v1 8) (j_relation_7_17_L102 fu v1 s0 0 (si σ 17 v1.toNatClampNeg (((σ.2 7 5) / s0).toInt32))))
def j_relation_7_17_b54 (k13 : Int32 → Int64 → Int32 → Sg → Option (Unit × Sg)) (v1 : Int32) (v3 : Int64) (v5 : Int32) (σ : Sg) : Option (Unit × Sg) :=
  k13 v1 v3 (v5 + 1) σ
def j_relation_7_17_H13 (k13 : Int32 → Int64 → Int32 → Sg → Option (Unit × Sg)) (v1 : Int32) (v3 : Int64) (v5 : Int32) (σ : Sg) : Option (Unit × Sg) :=
  if (σ.1 7 2) ≤ v5 then if (lg_cmp v3 0) = 0 then some ((), σ) else if 0 ≤ (lg_cmp (σ.2 7 5) 0) then bd (j_absJ_s v3 σ) fun r1 σ1 => j_relation_7_17_b88 v1 r1 σ1 else bd (j_absJ_s v3 σ) fun r2 σ2 => j_relation_7_17_b88 v1 (-r2) σ2 else bd (j_bit_s (σ.1 7 4) v5 σ) fun r5 σ5 => if r5 = 1 then gd (inB v5 8) (gd (inB (σ5.1 92 v5.toNatClampNeg) 5) (gd (arB 1 (87 + (σ5.1 92 v5.toNatClampNeg).toNatClampNeg) v1) (bd (j_greatestDivisor_s v3 (σ5.2 (87 + (σ5.1 92 v5.toNatClampNeg).toNatClampNeg) v1.toNatClampNeg) σ5) fun r9 σ9 => j_relation_7_17_b54 k13 v1 r9 v5 σ9))) else j_relation_7_17_b54 k13 v1 v3 v5 σ5
def j_relation_7_17_L13 : Nat → Int32 → Int64 → Int32 → Sg → Option (Unit × Sg)
  | 0, _, _, _, _ => none
  | n + 1, v1, v3, v5, σ => j_relation_7_17_H13 (j_relation_7_17_L13 n) v1 v3 v5 σ
def j_relation_7_17 (v1 : Int32) (σ : Sg) : Option (Unit × Sg) :=
  bd (j_fillAII_17 0 σ) fun _ σ1 => j_relation_7_17_L13 fu v1 (σ1.2 7 5) 0 σ1
def j_isOutside_0_b29 (s0 : Int32) (σ : Sg) : Option (Int32 × Sg) :=
  gd (nbB s0) (some (s0, σ))
def j_isOutside_0_b28 (σ : Sg) : Option (Int32 × Sg) :=
  j_isOutside_0_b29 0 σ
def j_isOutside_0 (v1 : Int32) (v2 : Int32) (σ : Sg) : Option (Int32 × Sg) :=
  bd (j_isSet_0 v1 σ) fun r1 σ1 => if r1 = 0 then j_isOutside_0_b28 σ1 else bd (j_isQuantity_0 v2 σ1) fun r2 σ2 => if r2 = 0 then j_isOutside_0_b28 σ2 else bd (j_bit_s v1 v2 σ2) fun r3 σ3 => if r3 = 0 then j_isOutside_0_b29 1 σ3 else j_isOutside_0_b28 σ3
def j_rest_0_b17 (σ : Sg) : Option (Int32 × Sg) :=
  bd (j_refusedFar_0 (-1) σ) fun r1 σ1 => some (r1, σ1)
def j_rest_0 (v1 : Int32) (v2 : Int32) (v3 : Int32) (σ : Sg) : Option (Int32 × Sg) :=
  bd (j_isOutside_0 v1 v2 σ) fun r1 σ1 => if r1 = 0 then j_rest_0_b17 σ1 else bd (j_isQuantity_0 v3 σ1) fun r2 σ2 => if r2 = 0 then j_rest_0_b17 σ2 else bd (j_choose_6 v1 σ2) fun r3 σ3 => if r3 = 0 then bd (j_refusedFar_0 (-3) σ3) fun r6 σ6 => some (r6, σ6) else bd (j_relation_7_17 v2 σ3) fun _ σ4 => gd (inB v3 8) (some (σ4.1 17 v3.toNatClampNeg, σ4))
def j_fillAII_85_H5 (k5 : Int32 → Int32 → Int32 → Sg → Option (Unit × Sg)) (v1 : Int32) (v2 : Int32) (v3 : Int32) (σ : Sg) : Option (Unit × Sg) :=
  if v3 ≤ v2 then some ((), σ) else gd (inB v2 8) (k5 v1 (v2 + 1) v3 (si σ 85 v2.toNatClampNeg v1))
def j_fillAII_85_L5 : Nat → Int32 → Int32 → Int32 → Sg → Option (Unit × Sg)
  | 0, _, _, _, _ => none
  | n + 1, v1, v2, v3, σ => j_fillAII_85_H5 (j_fillAII_85_L5 n) v1 v2 v3 σ
def j_fillAII_85 (v1 : Int32) (σ : Sg) : Option (Unit × Sg) :=
  j_fillAII_85_L5 fu v1 0 8 σ
def j_relation_7_85_b146 (k102 : Int32 → Int64 → Int32 → Sg → Option (Unit × Sg)) (v1 : Int32) (v3 : Int64) (v5 : Int32) (σ : Sg) : Option (Unit × Sg) :=
  k102 v1 v3 (v5 + 1) σ
def j_relation_7_85_H102 (k102 : Int32 → Int64 → Int32 → Sg → Option (Unit × Sg)) (v1 : Int32) (v3 : Int64) (v5 : Int32) (σ : Sg) : Option (Unit × Sg) :=
  if (σ.1 7 2) ≤ v5 then some ((), σ) else bd (j_bit_s (σ.1 7 4) v5 σ) fun r1 σ1 => if r1 = 1 then gd (inB v5 8) (gd (inB (σ1.1 92 v5.toNatClampNeg) 5) (gd (arB 1 (87 + (σ1.1 92 v5.toNatClampNeg).toNatClampNeg) v1) (gd (neBL v3) (gd (inB v5 8) (j_relation_7_85_b146 k102 v1 v3 v5 (si σ1 85 v5.toNatClampNeg (((-(σ1.2 (87 + (σ1.1 92 v5.toNatClampNeg).toNatClampNeg) v1.toNatClampNeg)) / v3).toInt32))))))) else j_relation_7_85_b146 k102 v1 v3 v5 σ1
def j_relation_7_85_L102 : Nat → Int32 → Int64 → Int32 → Sg → Option (Unit × Sg)
  | 0, _, _, _, _ => none
  | n + 1, v1, v3, v5, σ => j_relation_7_85_H102 (j_relation_7_85_L102 n) v1 v3 v5 σ
def j_relation_7_85_b88 (v1 : Int32) (s0 : Int64) (σ : Sg) : Option (Unit × Sg) :=
  gd (neBL s0) (gd (inB v1 8) (j_relation_7_85_L102 fu v1 s0 0 (si σ 85 v1.toNatClampNeg (((σ.2 7 5) / s0).toInt32))))
def j_relation_7_85_b54 (k13 : Int32 → Int64 → Int32 → Sg → Option (Unit × Sg)) (v1 : Int32) (v3 : Int64) (v5 : Int32) (σ : Sg) : Option (Unit × Sg) :=
  k13 v1 v3 (v5 + 1) σ
def j_relation_7_85_H13 (k13 : Int32 → Int64 → Int32 → Sg → Option (Unit × Sg)) (v1 : Int32) (v3 : Int64) (v5 : Int32) (σ : Sg) : Option (Unit × Sg) :=
  if (σ.1 7 2) ≤ v5 then if (lg_cmp v3 0) = 0 then some ((), σ) else if 0 ≤ (lg_cmp (σ.2 7 5) 0) then bd (j_absJ_s v3 σ) fun r1 σ1 => j_relation_7_85_b88 v1 r1 σ1 else bd (j_absJ_s v3 σ) fun r2 σ2 => j_relation_7_85_b88 v1 (-r2) σ2 else bd (j_bit_s (σ.1 7 4) v5 σ) fun r5 σ5 => if r5 = 1 then gd (inB v5 8) (gd (inB (σ5.1 92 v5.toNatClampNeg) 5) (gd (arB 1 (87 + (σ5.1 92 v5.toNatClampNeg).toNatClampNeg) v1) (bd (j_greatestDivisor_s v3 (σ5.2 (87 + (σ5.1 92 v5.toNatClampNeg).toNatClampNeg) v1.toNatClampNeg) σ5) fun r9 σ9 => j_relation_7_85_b54 k13 v1 r9 v5 σ9))) else j_relation_7_85_b54 k13 v1 v3 v5 σ5
def j_relation_7_85_L13 : Nat → Int32 → Int64 → Int32 → Sg → Option (Unit × Sg)
  | 0, _, _, _, _ => none
  | n + 1, v1, v3, v5, σ => j_relation_7_85_H13 (j_relation_7_85_L13 n) v1 v3 v5 σ
def j_relation_7_85 (v1 : Int32) (σ : Sg) : Option (Unit × Sg) :=
  bd (j_fillAII_85 0 σ) fun _ σ1 => j_relation_7_85_L13 fu v1 (σ1.2 7 5) 0 σ1
def j_sizesOfRests_6_b84 (k4 : Int64 → Int32 → Sg → Option (Int64 × Sg)) (v1 : Int64) (v3 : Int32) (σ : Sg) : Option (Int64 × Sg) :=
  k4 v1 (v3 + 1) σ
def j_sizesOfRests_6_H55 (k4 : Int64 → Int32 → Sg → Option (Int64 × Sg)) (k55 : Int64 → Int32 → Int32 → Int32 → Sg → Option (Int64 × Sg)) (v1 : Int64) (v3 : Int32) (v5 : Int32) (v6 : Int32) (σ : Sg) : Option (Int64 × Sg) :=
  if v5 ≤ v6 then j_sizesOfRests_6_b84 k4 v1 v3 σ else gd (inB v6 8) (bd (j_absI_s (σ.1 85 v6.toNatClampNeg) σ) fun r2 σ2 => k55 (v1 + r2.toInt64) v3 v5 (v6 + 1) σ2)
def j_sizesOfRests_6_L55 (k4 : Int64 → Int32 → Sg → Option (Int64 × Sg)) : Nat → Int64 → Int32 → Int32 → Int32 → Sg → Option (Int64 × Sg)
  | 0, _, _, _, _, _ => none
  | n + 1, v1, v3, v5, v6, σ => j_sizesOfRests_6_H55 k4 (j_sizesOfRests_6_L55 k4 n) v1 v3 v5 v6 σ
def j_sizesOfRests_6_H4 (k4 : Int64 → Int32 → Sg → Option (Int64 × Sg)) (v1 : Int64) (v3 : Int32) (σ : Sg) : Option (Int64 × Sg) :=
  if (σ.1 4 0) ≤ v3 then some (v1, σ) else bd (j_bit_s (σ.1 7 4) v3 σ) fun r1 σ1 => if r1 = 0 then bd (j_relation_7_85 v3 σ1) fun _ σ2 => j_sizesOfRests_6_L55 k4 fu v1 v3 8 0 σ2 else j_sizesOfRests_6_b84 k4 v1 v3 σ1
def j_sizesOfRests_6_L4 : Nat → Int64 → Int32 → Sg → Option (Int64 × Sg)
  | 0, _, _, _ => none
  | n + 1, v1, v3, σ => j_sizesOfRests_6_H4 (j_sizesOfRests_6_L4 n) v1 v3 σ
def j_sizesOfRests_6 (σ : Sg) : Option (Int64 × Sg) :=
  j_sizesOfRests_6_L4 fu 0 0 σ
def j_lookAtOne_6_b43 (σ : Sg) : Option (Unit × Sg) :=
  some ((), si σ 6 4 ((σ.1 6 4) + 1))
def j_lookAtOne_6_b33 (v1 : Int32) (v2 : Int64) (σ : Sg) : Option (Unit × Sg) :=
  j_lookAtOne_6_b43 (sl (si σ 6 7 v1) 6 8 v2)
def j_lookAtOne_6_b17 (v1 : Int32) (v2 : Int64) (σ : Sg) : Option (Unit × Sg) :=
  if (σ.1 6 4) = 0 then j_lookAtOne_6_b33 v1 v2 σ else if 0 ≤ (lg_cmp v2 (σ.2 6 8)) then j_lookAtOne_6_b43 σ else j_lookAtOne_6_b33 v1 v2 σ
def j_lookAtOne_6 (v1 : Int32) (σ : Sg) : Option (Unit × Sg) :=
  bd (j_sizesOfRests_6 σ) fun r1 σ1 => if (σ1.1 6 4) = 0 then j_lookAtOne_6_b17 v1 r1 (si σ1 6 6 v1) else j_lookAtOne_6_b17 v1 r1 σ1
def j_lookAtAll_6_b91 (k38 : Int32 → Sg → Option (Unit × Sg)) (v1 : Int32) (σ : Sg) : Option (Unit × Sg) :=
  k38 (v1 + 1) σ
def j_lookAtAll_6_H38 (k38 : Int32 → Sg → Option (Unit × Sg)) (v1 : Int32) (σ : Sg) : Option (Unit × Sg) :=
  if ((1 : Int32) <<< ((σ.1 4 0) &&& 31)) ≤ v1 then some ((), σ) else bd (j_bitCount_s v1 σ) fun r1 σ1 => if r1 = (σ1.1 5 3) then bd (j_choose_6 v1 (si σ1 6 5 ((σ1.1 6 5) + 1))) fun r2 σ2 => if r2 = 0 then j_lookAtAll_6_b91 k38 v1 σ2 else bd (j_lookAtOne_6 v1 σ2) fun _ σ3 => j_lookAtAll_6_b91 k38 v1 σ3 else j_lookAtAll_6_b91 k38 v1 σ1
def j_lookAtAll_6_L38 : Nat → Int32 → Sg → Option (Unit × Sg)
  | 0, _, _ => none
  | n + 1, v1, σ => j_lookAtAll_6_H38 (j_lookAtAll_6_L38 n) v1 σ
def j_lookAtAll_6 (σ : Sg) : Option (Unit × Sg) :=
  if (σ.1 6 3) = (σ.1 4 1) then some ((), σ) else j_lookAtAll_6_L38 fu 0 (si (si (si σ 6 3 (σ.1 4 1)) 6 4 0) 6 5 0)
def j_sets_0_b9 (σ : Sg) : Option (Int32 × Sg) :=
  bd (j_refused_0 (-2) σ) fun r1 σ1 => some (r1, σ1)
def j_sets_0_b57 (s0 : Int32) (σ : Sg) : Option (Int32 × Sg) :=
  some (s0, σ)
def j_sets_0 (v1 : Int32) (σ : Sg) : Option (Int32 × Sg) :=
  if v1 < 0 then j_sets_0_b9 σ else if v1 ≤ 2 then bd (j_lookAtAll_6 σ) fun _ σ1 => if v1 = 0 then some (σ1.1 6 4, σ1) else if v1 = 1 then j_sets_0_b57 (σ1.1 6 6) σ1 else j_sets_0_b57 (σ1.1 6 7) σ1 else j_sets_0_b9 σ
def j_sizes_0 (v1 : Int32) (σ : Sg) : Option (Int64 × Sg) :=
  bd (j_isSet_0 v1 σ) fun r1 σ1 => if r1 = 0 then bd (j_refusedFarLong_0 (-1) σ1) fun r6 σ6 => some (r6, σ6) else bd (j_choose_6 v1 σ1) fun r2 σ2 => if r2 = 0 then bd (j_refusedFarLong_0 (-3) σ2) fun r4 σ4 => some (r4, σ4) else bd (j_sizesOfRests_6 σ2) fun r3 σ3 => some (r3, σ3)
def j_odds_0 (v1 : Int32) (σ : Sg) : Option (Int64 × Sg) :=
  bd (j_isPart_s v1 σ) fun r1 σ1 => if r1 = 0 then bd (j_refusedFarLong_0 (-2) σ1) fun r4 σ4 => some (r4, σ4) else bd (j_lookAtAll_6 σ1) fun _ σ2 => bd (j_partOf_s ((σ2.1 6 4).toInt64) ((σ2.1 6 5).toInt64) v1 σ2) fun r3 σ3 => some (r3, σ3)
def j_scale_0_b27 (σ : Sg) : Option (Int32 × Sg) :=
  bd (j_refused_0 (-4) σ) fun r1 σ1 => some (r1, σ1)
def j_scale_0_b50 (σ : Sg) : Option (Int32 × Sg) :=
  bd (j_refused_0 (-6) σ) fun r1 σ1 => some (r1, σ1)
def j_scale_0_b111 (s1 : Int32) (s2 : Int32) (σ : Sg) : Option (Int32 × Sg) :=
  gd (inB s1 8) (some (1, si σ 32 s1.toNatClampNeg s2))
def j_scale_0_b57 (v1 : Int32) (v2 : Int32) (v3 : Int32) (σ : Sg) : Option (Int32 × Sg) :=
  gd (inB v1 8) (gd (inB v1 8) (bd (j_note_3 2 v1 (σ.1 31 v1.toNatClampNeg) (σ.1 32 v1.toNatClampNeg) σ) fun _ σ3 => gd (inB v1 8) (if v2 = 0 then j_scale_0_b111 v1 1 (si σ3 31 v1.toNatClampNeg v2) else j_scale_0_b111 v1 v3 (si σ3 31 v1.toNatClampNeg v2))))
def j_scale_0_b34 (v1 : Int32) (v2 : Int32) (v3 : Int32) (σ : Sg) : Option (Int32 × Sg) :=
  if 99 < v2 then j_scale_0_b50 σ else if v2 ≤ 0 then j_scale_0_b57 v1 v2 v3 σ else if v3 ≤ 99 then j_scale_0_b57 v1 v2 v3 σ else j_scale_0_b50 σ
def j_scale_0 (v1 : Int32) (v2 : Int32) (v3 : Int32) (σ : Sg) : Option (Int32 × Sg) :=
  bd (j_isQuantity_0 v1 σ) fun r1 σ1 => if r1 = 0 then bd (j_refused_0 (-1) σ1) fun r5 σ5 => some (r5, σ5) else if v2 < 0 then j_scale_0_b27 σ1 else if v2 ≤ 0 then j_scale_0_b34 v1 v2 v3 σ1 else if 1 ≤ v3 then j_scale_0_b34 v1 v2 v3 σ1 else j_scale_0_b27 σ1
def j_hasScale_1_b14 (s0 : Int32) (σ : Sg) : Option (Int32 × Sg) :=
  gd (nbB s0) (some (s0, σ))
def j_hasScale_1 (v1 : Int32) (σ : Sg) : Option (Int32 × Sg) :=
  gd (inB v1 8) (if (σ.1 31 v1.toNatClampNeg) = 0 then j_hasScale_1_b14 0 σ else j_hasScale_1_b14 1 σ)
def j_scaled_0 (v1 : Int32) (v2 : Int32) (σ : Sg) : Option (Int32 × Sg) :=
  bd (j_isQuantity_0 v1 σ) fun r1 σ1 => if r1 = 0 then bd (j_refused_0 (-1) σ1) fun r10 σ10 => some (r10, σ10) else bd (j_isPart_s v2 σ1) fun r2 σ2 => if r2 = 0 then bd (j_refused_0 (-2) σ2) fun r8 σ8 => some (r8, σ8) else bd (j_hasScale_1 v1 σ2) fun r3 σ3 => if r3 = 0 then some ((-9), σ3) else gd (inB v1 8) (gd (inB v1 8) (bd (j_partOf_s ((σ3.1 31 v1.toNatClampNeg).toInt64) ((σ3.1 32 v1.toNatClampNeg).toInt64) v2 σ3) fun r6 σ6 => some (r6.toInt32, σ6)))
def j_scaledSet_1_b28 (k4 : Int32 → Int32 → Sg → Option (Int32 × Sg)) (v2 : Int32) (s0 : Int32) (s1 : Int32) (σ : Sg) : Option (Int32 × Sg) :=
  k4 (s0 ||| s1) (v2 + 1) σ
def j_scaledSet_1_H4 (k4 : Int32 → Int32 → Sg → Option (Int32 × Sg)) (v1 : Int32) (v2 : Int32) (σ : Sg) : Option (Int32 × Sg) :=
  if (σ.1 1 0) ≤ v2 then some (v1, σ) else bd (j_hasScale_1 v2 σ) fun r1 σ1 => if r1 = 0 then j_scaledSet_1_b28 k4 v2 v1 0 σ1 else j_scaledSet_1_b28 k4 v2 v1 ((1 : Int32) <<< (v2 &&& 31)) σ1
def j_scaledSet_1_L4 : Nat → Int32 → Int32 → Sg → Option (Int32 × Sg)
  | 0, _, _, _ => none
  | n + 1, v1, v2, σ => j_scaledSet_1_H4 (j_scaledSet_1_L4 n) v1 v2 σ
def j_scaledSet_1 (σ : Sg) : Option (Int32 × Sg) :=
  j_scaledSet_1_L4 fu 0 0 σ
def j_haveScales_1_b16 (s0 : Int32) (σ : Sg) : Option (Int32 × Sg) :=
  gd (nbB s0) (some (s0, σ))
def j_haveScales_1 (v1 : Int32) (σ : Sg) : Option (Int32 × Sg) :=
  bd (j_scaledSet_1 σ) fun r1 σ1 => if (v1 &&& (r1 ^^^ (-1))) = 0 then j_haveScales_1_b16 1 σ1 else j_haveScales_1_b16 0 σ1
def j_times_s_b42 (v2 : Int32) (σ : Sg) : Option (Int32 × Sg) :=
  some (v2, σ)
def j_times_s_H7 (k7 : Int32 → Int32 → Int32 → Int32 → Sg → Option (Int32 × Sg)) (v0 : Int32) (v2 : Int32) (v3 : Int32) (v4 : Int32) (σ : Sg) : Option (Int32 × Sg) :=
  if 99 ≤ v4 then j_times_s_b42 v2 σ else if v3 ≤ 0 then j_times_s_b42 v2 σ else if v0 ≤ 1 then j_times_s_b42 v2 σ else gd (neB v0) (if (irm v3 v0) = 0 then gd (neB v0) (k7 v0 (v2 + 1) (v3 / v0) (v4 + 1) σ) else j_times_s_b42 v2 σ)
def j_times_s_L7 : Nat → Int32 → Int32 → Int32 → Int32 → Sg → Option (Int32 × Sg)
  | 0, _, _, _, _, _ => none
  | n + 1, v0, v2, v3, v4, σ => j_times_s_H7 (j_times_s_L7 n) v0 v2 v3 v4 σ
def j_times_s (v0 : Int32) (v1 : Int32) (σ : Sg) : Option (Int32 × Sg) :=
  j_times_s_L7 fu v0 0 v1 0 σ
def j_together_1_17_b67 (k6 : Int32 → Int32 → Int64 → Int32 → Sg → Option (Int64 × Sg)) (v2 : Int32) (v3 : Int32) (v4 : Int64) (v6 : Int32) (σ : Sg) : Option (Int64 × Sg) :=
  k6 v2 v3 v4 (v6 + 1) σ
def j_together_1_17_H6 (k6 : Int32 → Int32 → Int64 → Int32 → Sg → Option (Int64 × Sg)) (v2 : Int32) (v3 : Int32) (v4 : Int64) (v6 : Int32) (σ : Sg) : Option (Int64 × Sg) :=
  if (σ.1 1 0) ≤ v6 then some (v4, σ) else bd (j_bit_s v2 v6 σ) fun r1 σ1 => if r1 = 1 then gd (inB v6 8) (if (σ1.1 17 v6.toNatClampNeg) = 0 then j_together_1_17_b67 k6 v2 v3 v4 v6 σ1 else gd (inB v6 8) (gd (inB v6 8) (bd (j_times_s v3 (σ1.1 31 v6.toNatClampNeg) σ1) fun r5 σ5 => gd (inB v6 8) (bd (j_times_s v3 (σ5.1 32 v6.toNatClampNeg) σ5) fun r7 σ7 => j_together_1_17_b67 k6 v2 v3 (v4 + (((σ1.1 17 v6.toNatClampNeg).toInt64) * ((r5 - r7).toInt64))) v6 σ7)))) else j_together_1_17_b67 k6 v2 v3 v4 v6 σ1
def j_together_1_17_L6 : Nat → Int32 → Int32 → Int64 → Int32 → Sg → Option (Int64 × Sg)
  | 0, _, _, _, _, _ => none
  | n + 1, v2, v3, v4, v6, σ => j_together_1_17_H6 (j_together_1_17_L6 n) v2 v3 v4 v6 σ
def j_together_1_17 (v2 : Int32) (v3 : Int32) (σ : Sg) : Option (Int64 × Sg) :=
  j_together_1_17_L6 fu v2 v3 0 0 σ
def j_isUnbalanced_0_17_H23 (k23 : Int32 → Int32 → Int32 → Sg → Option (Int32 × Sg)) (v2 : Int32) (v4 : Int32) (v5 : Int32) (σ : Sg) : Option (Int32 × Sg) :=
  if v4 ≤ v5 then some (0, σ) else gd (inB v5 25) (bd (j_together_1_17 v2 (sv 1004 v5.toNatClampNeg) σ) fun r2 σ2 => if (lg_cmp r2 0) = 0 then k23 v2 v4 (v5 + 1) σ2 else some (1, σ2))
def j_isUnbalanced_0_17_L23 : Nat → Int32 → Int32 → Int32 → Sg → Option (Int32 × Sg)
  | 0, _, _, _, _ => none
  | n + 1, v2, v4, v5, σ => j_isUnbalanced_0_17_H23 (j_isUnbalanced_0_17_L23 n) v2 v4 v5 σ
def j_isUnbalanced_0_17 (σ : Sg) : Option (Int32 × Sg) :=
  j_isUnbalanced_0_17_L23 fu (((1 : Int32) <<< ((σ.1 1 0) &&& 31)) - 1) 25 0 σ
def j_setOf_17_b24 (k4 : Int32 → Int32 → Sg → Option (Int32 × Sg)) (v2 : Int32) (s0 : Int32) (s1 : Int32) (σ : Sg) : Option (Int32 × Sg) :=
  k4 (s0 ||| s1) (v2 + 1) σ
def j_setOf_17_H4 (k4 : Int32 → Int32 → Sg → Option (Int32 × Sg)) (v1 : Int32) (v2 : Int32) (σ : Sg) : Option (Int32 × Sg) :=
  if 8 ≤ v2 then some (v1, σ) else gd (inB v2 8) (if (σ.1 17 v2.toNatClampNeg) = 0 then j_setOf_17_b24 k4 v2 v1 0 σ else j_setOf_17_b24 k4 v2 v1 ((1 : Int32) <<< (v2 &&& 31)) σ)
def j_setOf_17_L4 : Nat → Int32 → Int32 → Sg → Option (Int32 × Sg)
  | 0, _, _, _ => none
  | n + 1, v1, v2, σ => j_setOf_17_H4 (j_setOf_17_L4 n) v1 v2 σ
def j_setOf_17 (σ : Sg) : Option (Int32 × Sg) :=
  j_setOf_17_L4 fu 0 0 σ
def j_alike_0_b78 (k21 : Int32 → Int32 → Sg → Option (Int32 × Sg)) (v1 : Int32) (v2 : Int32) (σ : Sg) : Option (Int32 × Sg) :=
  k21 v1 (v2 + 1) σ
def j_alike_0_H21 (k21 : Int32 → Int32 → Sg → Option (Int32 × Sg)) (v1 : Int32) (v2 : Int32) (σ : Sg) : Option (Int32 × Sg) :=
  if v1 ≤ v2 then some ((-9), σ) else bd (j_looseAt_4 v2 σ) fun r1 σ1 => bd (j_relation_5_17 r1 σ1) fun _ σ2 => bd (j_setOf_17 σ2) fun r3 σ3 => bd (j_haveScales_1 r3 σ3) fun r4 σ4 => if r4 = 0 then j_alike_0_b78 k21 v1 v2 σ4 else bd (j_isUnbalanced_0_17 σ4) fun r5 σ5 => if r5 = 0 then j_alike_0_b78 k21 v1 v2 σ5 else some (v2, σ5)
def j_alike_0_L21 : Nat → Int32 → Int32 → Sg → Option (Int32 × Sg)
  | 0, _, _, _ => none
  | n + 1, v1, v2, σ => j_alike_0_H21 (j_alike_0_L21 n) v1 v2 σ
def j_alike_0 (σ : Sg) : Option (Int32 × Sg) :=
  j_alike_0_L21 fu ((σ.1 4 0) - (σ.1 5 3)) 0 σ
def j_isPrime_s_H9 (k9 : Int32 → Int32 → Int32 → Sg → Option (Int32 × Sg)) (v0 : Int32) (v2 : Int32) (v3 : Int32) (σ : Sg) : Option (Int32 × Sg) :=
  if v2 ≤ v3 then some (0, σ) else gd (inB v3 25) (if (sv 1004 v3.toNatClampNeg) = v0 then some (1, σ) else k9 v0 v2 (v3 + 1) σ)
def j_isPrime_s_L9 : Nat → Int32 → Int32 → Int32 → Sg → Option (Int32 × Sg)
  | 0, _, _, _, _ => none
  | n + 1, v0, v2, v3, σ => j_isPrime_s_H9 (j_isPrime_s_L9 n) v0 v2 v3 σ
def j_isPrime_s (v0 : Int32) (σ : Sg) : Option (Int32 × Sg) :=
  j_isPrime_s_L9 fu v0 25 0 σ
def j_must_0_b30 (σ : Sg) : Option (Int64 × Sg) :=
  bd (j_refusedFarLong_0 (-2) σ) fun r1 σ1 => some (r1, σ1)
def j_must_0_b59 (σ : Sg) : Option (Int64 × Sg) :=
  bd (j_refusedFarLong_0 (-3) σ) fun r1 σ1 => some (r1, σ1)
def j_must_0 (v1 : Int32) (v2 : Int32) (v3 : Int32) (v4 : Int32) (σ : Sg) : Option (Int64 × Sg) :=
  bd (j_isOutside_0 v1 v2 σ) fun r1 σ1 => if r1 = 0 then bd (j_refusedFarLong_0 (-1) σ1) fun r14 σ14 => some (r14, σ14) else bd (j_isPrime_s v3 σ1) fun r2 σ2 => if r2 = 0 then j_must_0_b30 σ2 else bd (j_isPart_s v4 σ2) fun r3 σ3 => if r3 = 0 then j_must_0_b30 σ3 else bd (j_choose_6 v1 σ3) fun r4 σ4 => if r4 = 0 then j_must_0_b59 σ4 else bd (j_haveScales_1 v1 σ4) fun r5 σ5 => if r5 = 0 then j_must_0_b59 σ5 else bd (j_relation_7_17 v2 σ5) fun _ σ6 => bd (j_together_1_17 v1 v3 σ6) fun r7 σ7 => gd (inB v2 8) (bd (j_partOf_s (-r7) ((σ7.1 17 v2.toNatClampNeg).toInt64) v4 σ7) fun r9 σ9 => some (r9, σ9))
def j_whole_0_b37 (σ : Sg) : Option (Int32 × Sg) :=
  bd (j_refused_0 (-3) σ) fun r1 σ1 => some (r1, σ1)
def j_whole_0_H70 (k70 : Int32 → Int32 → Int32 → Int32 → Sg → Option (Int32 × Sg)) (v1 : Int32) (v2 : Int32) (v4 : Int32) (v5 : Int32) (σ : Sg) : Option (Int32 × Sg) :=
  if v4 ≤ v5 then some (1, σ) else gd (inB v5 25) (bd (j_together_1_17 v1 (sv 1004 v5.toNatClampNeg) σ) fun r2 σ2 => gd (inB v2 8) (bd (j_partOf_s r2 ((σ2.1 17 v2.toNatClampNeg).toInt64) 1 σ2) fun r4 σ4 => if (lg_cmp r4 1) = 0 then k70 v1 v2 v4 (v5 + 1) σ4 else some (0, σ4)))
def j_whole_0_L70 : Nat → Int32 → Int32 → Int32 → Int32 → Sg → Option (Int32 × Sg)
  | 0, _, _, _, _, _ => none
  | n + 1, v1, v2, v4, v5, σ => j_whole_0_H70 (j_whole_0_L70 n) v1 v2 v4 v5 σ
def j_whole_0 (v1 : Int32) (v2 : Int32) (σ : Sg) : Option (Int32 × Sg) :=
  bd (j_isOutside_0 v1 v2 σ) fun r1 σ1 => if r1 = 0 then bd (j_refused_0 (-1) σ1) fun r7 σ7 => some (r7, σ7) else bd (j_choose_6 v1 σ1) fun r2 σ2 => if r2 = 0 then j_whole_0_b37 σ2 else bd (j_haveScales_1 v1 σ2) fun r3 σ3 => if r3 = 0 then j_whole_0_b37 σ3 else bd (j_relation_7_17 v2 σ3) fun _ σ4 => j_whole_0_L70 fu v1 v2 25 0 σ4
def j_off_0_b36 (σ : Sg) : Option (Int32 × Sg) :=
  bd (j_refused_0 (-3) σ) fun r1 σ1 => some (r1, σ1)
def j_off_0_b113 (k47 : Int32 → Int32 → Int32 → Sg → Option (Int32 × Sg)) (v1 : Int32) (v2 : Int32) (v3 : Int32) (σ : Sg) : Option (Int32 × Sg) :=
  k47 v1 v2 (v3 + 1) σ
def j_off_0_b111 (k47 : Int32 → Int32 → Int32 → Sg → Option (Int32 × Sg)) (v1 : Int32) (v3 : Int32) (s0 : Int32) (s1 : Int32) (σ : Sg) : Option (Int32 × Sg) :=
  j_off_0_b113 k47 v1 (s0 ||| s1) v3 σ
def j_off_0_H47 (k47 : Int32 → Int32 → Int32 → Sg → Option (Int32 × Sg)) (v1 : Int32) (v2 : Int32) (v3 : Int32) (σ : Sg) : Option (Int32 × Sg) :=
  if (σ.1 1 0) ≤ v3 then some (v2, σ) else bd (j_bit_s v1 v3 σ) fun r1 σ1 => if r1 = 0 then bd (j_hasScale_1 v3 σ1) fun r2 σ2 => if r2 = 0 then j_off_0_b113 k47 v1 v2 v3 σ2 else bd (j_relation_7_17 v3 σ2) fun _ σ3 => bd (j_isUnbalanced_0_17 σ3) fun r4 σ4 => if r4 = 0 then j_off_0_b111 k47 v1 v3 v2 0 σ4 else j_off_0_b111 k47 v1 v3 v2 ((1 : Int32) <<< (v3 &&& 31)) σ4 else j_off_0_b113 k47 v1 v2 v3 σ1
def j_off_0_L47 : Nat → Int32 → Int32 → Int32 → Sg → Option (Int32 × Sg)
  | 0, _, _, _, _ => none
  | n + 1, v1, v2, v3, σ => j_off_0_H47 (j_off_0_L47 n) v1 v2 v3 σ
def j_off_0 (v1 : Int32) (σ : Sg) : Option (Int32 × Sg) :=
  bd (j_isSet_0 v1 σ) fun r1 σ1 => if r1 = 0 then bd (j_refused_0 (-1) σ1) fun r6 σ6 => some (r6, σ6) else bd (j_choose_6 v1 σ1) fun r2 σ2 => if r2 = 0 then j_off_0_b36 σ2 else bd (j_haveScales_1 v1 σ2) fun r3 σ3 => if r3 = 0 then j_off_0_b36 σ3 else j_off_0_L47 fu v1 0 0 σ3
def j_hasRow_94_95_H22 (rs : Int32 → Int32 → Int32 → Int64 → Sg → Option (Int32 × Sg)) (k22 : Int32 → Int32 → Int32 → Int64 → Int32 → Sg → Option (Int32 × Sg)) (v1 : Int32) (v3 : Int32) (v4 : Int32) (v5 : Int64) (v7 : Int32) (σ : Sg) : Option (Int32 × Sg) :=
  if v1 ≤ v7 then some (0, σ) else gd (inB v3 3) (gd (inB v7 16) (bd (rs v1 (v3 + 1) v4 (v5 - ((si σ 95 v3.toNatClampNeg v7).2 94 v7.toNatClampNeg)) (si σ 95 v3.toNatClampNeg v7)) fun r3 σ3 => if r3 = 0 then k22 v1 v3 v4 v5 (v7 + 1) σ3 else some (1, σ3)))
def j_hasRow_94_95_L22 (rs : Int32 → Int32 → Int32 → Int64 → Sg → Option (Int32 × Sg)) : Nat → Int32 → Int32 → Int32 → Int64 → Int32 → Sg → Option (Int32 × Sg)
  | 0, _, _, _, _, _, _ => none
  | n + 1, v1, v3, v4, v5, v7, σ => j_hasRow_94_95_H22 rs (j_hasRow_94_95_L22 rs n) v1 v3 v4 v5 v7 σ
def j_hasRow_94_95_b18 (rs : Int32 → Int32 → Int32 → Int64 → Sg → Option (Int32 × Sg)) (s0 : Int32) (σ : Sg) : Option (Int32 × Sg) :=
  gd (nbB s0) (some (s0, σ))
def j_hasRow_94_95_H (rs : Int32 → Int32 → Int32 → Int64 → Sg → Option (Int32 × Sg)) (v1 : Int32) (v3 : Int32) (v4 : Int32) (v5 : Int64) (σ : Sg) : Option (Int32 × Sg) :=
  if v3 < v4 then j_hasRow_94_95_L22 rs fu v1 v3 v4 v5 0 σ else if (lg_cmp v5 0) = 0 then j_hasRow_94_95_b18 rs 1 σ else j_hasRow_94_95_b18 rs 0 σ
def j_hasRow_94_95 : Nat → Int32 → Int32 → Int32 → Int64 → Sg → Option (Int32 × Sg)
  | 0, _, _, _, _, _ => none
  | n + 1, v1, v3, v4, v5, σ => j_hasRow_94_95_H (j_hasRow_94_95 n) v1 v3 v4 v5 σ
def j_keyOf_19_H11 (k11 : Int64 → Int32 → Int32 → Sg → Option (Int64 × Sg)) (v1 : Int64) (v4 : Int32) (v5 : Int32) (σ : Sg) : Option (Int64 × Sg) :=
  if v4 ≤ v5 then some (v1, σ) else gd (inB v5 5) (k11 ((v1 * 4096) + ((σ.1 19 v5.toNatClampNeg).toInt64)) v4 (v5 + 1) σ)
def j_keyOf_19_L11 : Nat → Int64 → Int32 → Int32 → Sg → Option (Int64 × Sg)
  | 0, _, _, _, _ => none
  | n + 1, v1, v4, v5, σ => j_keyOf_19_H11 (j_keyOf_19_L11 n) v1 v4 v5 σ
def j_keyOf_19 (σ : Sg) : Option (Int64 × Sg) :=
  j_keyOf_19_L11 fu 0 5 0 σ
def j_findRow_8_19_H107 (k107 : Int64 → Int32 → Sg → Option (Int32 × Sg)) (v2 : Int64) (v4 : Int32) (σ : Sg) : Option (Int32 × Sg) :=
  if 3 < v4 then some ((-9), σ) else bd (j_hasRow_94_95 12 (2 * (σ.1 4 0)) 0 v4 v2 σ) fun r1 σ1 => if r1 = 0 then k107 v2 (v4 + 1) σ1 else some (v4, σ1)
def j_findRow_8_19_L107 : Nat → Int64 → Int32 → Sg → Option (Int32 × Sg)
  | 0, _, _, _ => none
  | n + 1, v2, v4, σ => j_findRow_8_19_H107 (j_findRow_8_19_L107 n) v2 v4 σ
def j_findRow_8_19_H45 (k45 : Int32 → Sg → Option (Int32 × Sg)) (v2 : Int32) (σ : Sg) : Option (Int32 × Sg) :=
  if (σ.1 4 0) ≤ v2 then bd (j_keyOf_19 σ) fun r1 σ1 => j_findRow_8_19_L107 fu r1 0 σ1 else gd (inB v2 8) (gd (inB (2 * v2) 16) (gd (inB v2 8) (gd (inB ((2 * v2) + 1) 16) (k45 (v2 + 1) (sl (sl σ 94 (2 * v2).toNatClampNeg (σ.2 77 v2.toNatClampNeg)) 94 ((2 * v2) + 1).toNatClampNeg (-((sl σ 94 (2 * v2).toNatClampNeg (σ.2 77 v2.toNatClampNeg)).2 77 v2.toNatClampNeg)))))))
def j_findRow_8_19_L45 : Nat → Int32 → Sg → Option (Int32 × Sg)
  | 0, _, _ => none
  | n + 1, v2, σ => j_findRow_8_19_H45 (j_findRow_8_19_L45 n) v2 σ
def j_findRow_8_19_b34 (σ : Sg) : Option (Int32 × Sg) :=
  some ((-9), σ)
def j_findRow_8_19_H8 (k8 : Int32 → Int32 → Sg → Option (Int32 × Sg)) (v3 : Int32) (v4 : Int32) (σ : Sg) : Option (Int32 × Sg) :=
  if v3 ≤ v4 then j_findRow_8_19_L45 fu 0 σ else gd (inB v4 5) (if (σ.1 19 v4.toNatClampNeg) < (-99) then j_findRow_8_19_b34 σ else if (σ.1 19 v4.toNatClampNeg) ≤ 99 then k8 v3 (v4 + 1) σ else j_findRow_8_19_b34 σ)
def j_findRow_8_19_L8 : Nat → Int32 → Int32 → Sg → Option (Int32 × Sg)
  | 0, _, _, _ => none
  | n + 1, v3, v4, σ => j_findRow_8_19_H8 (j_findRow_8_19_L8 n) v3 v4 σ
def j_findRow_8_19 (σ : Sg) : Option (Int32 × Sg) :=
  j_findRow_8_19_L8 fu 5 0 σ
def j_fewestAt_8_19_b17 (v3 : Int32) (σ : Sg) : Option (Int32 × Sg) :=
  some (v3, σ)
def j_fewestAt_8_19_b39 (s0 : Int32) (σ : Sg) : Option (Int32 × Sg) :=
  some (s0, σ)
def j_fewestAt_8_19_b37 (σ : Sg) : Option (Int32 × Sg) :=
  j_fewestAt_8_19_b39 (-9) σ
def j_fewestAt_8_19 (v2 : Int32) (σ : Sg) : Option (Int32 × Sg) :=
  bd (j_findRow_8_19 σ) fun r1 σ1 => if v2 = (-1) then j_fewestAt_8_19_b17 r1 σ1 else if r1 = (-9) then j_fewestAt_8_19_b17 r1 σ1 else if v2 < 0 then j_fewestAt_8_19_b37 σ1 else if r1 ≤ v2 then j_fewestAt_8_19_b37 σ1 else gd (inB v2 3) (j_fewestAt_8_19_b39 (σ1.1 95 v2.toNatClampNeg) σ1)
def j_takeNumbers_0_19_b54 (σ : Sg) : Option (Int32 × Sg) :=
  some (0, σ)
def j_takeNumbers_0_19_b35 (k3 : Int32 → Int32 → Int32 → Sg → Option (Int32 × Sg)) (v1 : Int32) (v2 : Int32) (v4 : Int32) (s1 : Int32) (s2 : Int32) (σ : Sg) : Option (Int32 × Sg) :=
  gd (inB s1 5) (gd (inB v4 5) (if ((si σ 19 s1.toNatClampNeg s2).1 19 v4.toNatClampNeg) < (-99) then j_takeNumbers_0_19_b54 (si σ 19 s1.toNatClampNeg s2) else gd (inB v4 5) (if ((si σ 19 s1.toNatClampNeg s2).1 19 v4.toNatClampNeg) ≤ 99 then k3 v1 v2 (v4 + 1) (si σ 19 s1.toNatClampNeg s2) else j_takeNumbers_0_19_b54 (si σ 19 s1.toNatClampNeg s2))))
def j_takeNumbers_0_19_H3 (k3 : Int32 → Int32 → Int32 → Sg → Option (Int32 × Sg)) (v1 : Int32) (v2 : Int32) (v4 : Int32) (σ : Sg) : Option (Int32 × Sg) :=
  if v2 ≤ v4 then some (1, σ) else bd (j_isPlace_0 v1 v4 σ) fun r1 σ1 => if r1 = 0 then j_takeNumbers_0_19_b35 k3 v1 v2 v4 v4 0 σ1 else gd (inB v1 3) (gd (arB 0 (13 + v1.toNatClampNeg) v4) (j_takeNumbers_0_19_b35 k3 v1 v2 v4 v4 (σ1.1 (13 + v1.toNatClampNeg) v4.toNatClampNeg) σ1))
def j_takeNumbers_0_19_L3 : Nat → Int32 → Int32 → Int32 → Sg → Option (Int32 × Sg)
  | 0, _, _, _, _ => none
  | n + 1, v1, v2, v4, σ => j_takeNumbers_0_19_H3 (j_takeNumbers_0_19_L3 n) v1 v2 v4 σ
def j_takeNumbers_0_19 (v1 : Int32) (v2 : Int32) (σ : Sg) : Option (Int32 × Sg) :=
  j_takeNumbers_0_19_L3 fu v1 v2 0 σ
def j_fewest_0_b70 (s0 : Int32) (σ : Sg) : Option (Int32 × Sg) :=
  some (s0, σ)
def j_fewest_0 (v1 : Int32) (v2 : Int32) (σ : Sg) : Option (Int32 × Sg) :=
  bd (j_isList_s v1 σ) fun r1 σ1 => if r1 = 0 then bd (j_refused_0 (-1) σ1) fun r10 σ10 => some (r10, σ10) else bd (j_isMissing_0 v1 σ1) fun r2 σ2 => if r2 = 0 then bd (j_takeNumbers_0_19 v1 5 σ2) fun r3 σ3 => if r3 = 0 then bd (j_refused_0 (-3) σ3) fun r7 σ7 => some (r7, σ7) else if (-1) ≤ v2 then bd (j_fewestAt_8_19 v2 σ3) fun r4 σ4 => j_fewest_0_b70 r4 σ4 else bd (j_refused_0 (-4) σ3) fun r5 σ5 => j_fewest_0_b70 r5 σ5 else some ((-11), σ2)
def j_fillAJJ_96_H6 (k6 : Int64 → Int32 → Int32 → Sg → Option (Unit × Sg)) (v1 : Int64) (v3 : Int32) (v4 : Int32) (σ : Sg) : Option (Unit × Sg) :=
  if v4 ≤ v3 then some ((), σ) else gd (inB v3 1024) (k6 v1 (v3 + 1) v4 (sl σ 96 v3.toNatClampNeg v1))
def j_fillAJJ_96_L6 : Nat → Int64 → Int32 → Int32 → Sg → Option (Unit × Sg)
  | 0, _, _, _, _ => none
  | n + 1, v1, v3, v4, σ => j_fillAJJ_96_H6 (j_fillAJJ_96_L6 n) v1 v3 v4 σ
def j_fillAJJ_96 (v1 : Int64) (σ : Sg) : Option (Unit × Sg) :=
  j_fillAJJ_96_L6 fu v1 0 1024 σ
def j_isNew_96_H17 (k17 : Int64 → Int32 → Int32 → Sg → Option (Int32 × Sg)) (v1 : Int64) (v3 : Int32) (v4 : Int32) (σ : Sg) : Option (Int32 × Sg) :=
  if 1024 ≤ v4 then some (0, σ) else gd (inB v3 1024) (if (lg_cmp (σ.2 96 v3.toNatClampNeg) v1) = 0 then some (0, σ) else gd (inB v3 1024) (if (lg_cmp (σ.2 96 v3.toNatClampNeg) (-9223372036854775808)) = 0 then gd (inB v3 1024) (some (1, sl σ 96 v3.toNatClampNeg v1)) else k17 v1 (irm (v3 + 1) 1024) (v4 + 1) σ))
def j_isNew_96_L17 : Nat → Int64 → Int32 → Int32 → Sg → Option (Int32 × Sg)
  | 0, _, _, _, _ => none
  | n + 1, v1, v3, v4, σ => j_isNew_96_H17 (j_isNew_96_L17 n) v1 v3 v4 σ
def j_isNew_96 (v1 : Int64) (σ : Sg) : Option (Int32 × Sg) :=
  j_isNew_96_L17 fu v1 ((lrm (lush (v1 * (-7046029254386353131)) 40) 1024).toInt32) 0 σ
def j_gather_96_77_H28 (rs : Int32 → Int32 → Int32 → Int64 → Sg → Option (Int32 × Sg)) (k28 : Int32 → Int32 → Int32 → Int64 → Int32 → Int32 → Sg → Option (Int32 × Sg)) (v2 : Int32) (v3 : Int32) (v4 : Int32) (v5 : Int64) (v7 : Int32) (v8 : Int32) (σ : Sg) : Option (Int32 × Sg) :=
  if v4 < v8 then some (v7, σ) else bd (j_absI_s v8 σ) fun r1 σ1 => gd (inB v3 8) (bd (rs v2 (v3 + 1) (v4 - r1) (v5 + (v8.toInt64 * (σ1.2 77 v3.toNatClampNeg))) σ1) fun r3 σ3 => k28 v2 v3 v4 v5 (v7 + r3) (v8 + 1) σ3)
def j_gather_96_77_L28 (rs : Int32 → Int32 → Int32 → Int64 → Sg → Option (Int32 × Sg)) : Nat → Int32 → Int32 → Int32 → Int64 → Int32 → Int32 → Sg → Option (Int32 × Sg)
  | 0, _, _, _, _, _, _, _ => none
  | n + 1, v2, v3, v4, v5, v7, v8, σ => j_gather_96_77_H28 rs (j_gather_96_77_L28 rs n) v2 v3 v4 v5 v7 v8 σ
def j_gather_96_77_b19 (rs : Int32 → Int32 → Int32 → Int64 → Sg → Option (Int32 × Sg)) (s0 : Int32) (σ : Sg) : Option (Int32 × Sg) :=
  some (s0, σ)
def j_gather_96_77_H (rs : Int32 → Int32 → Int32 → Int64 → Sg → Option (Int32 × Sg)) (v2 : Int32) (v3 : Int32) (v4 : Int32) (v5 : Int64) (σ : Sg) : Option (Int32 × Sg) :=
  if v3 < v2 then j_gather_96_77_L28 rs fu v2 v3 v4 v5 0 (-v4) σ else bd (j_isNew_96 v5 σ) fun r1 σ1 => if r1 = 0 then j_gather_96_77_b19 rs 0 σ1 else j_gather_96_77_b19 rs 1 σ1
def j_gather_96_77 : Nat → Int32 → Int32 → Int32 → Int64 → Sg → Option (Int32 × Sg)
  | 0, _, _, _, _, _ => none
  | n + 1, v2, v3, v4, v5, σ => j_gather_96_77_H (j_gather_96_77 n) v2 v3 v4 v5 σ
def j_dimensionsHad_8 (v1 : Int32) (σ : Sg) : Option (Int32 × Sg) :=
  bd (j_fillAJJ_96 (-9223372036854775808) σ) fun _ σ1 => bd (j_gather_96_77 12 (σ1.1 4 0) 0 v1 0 σ1) fun r2 σ2 => some (r2, σ2)
def j_had_0_b33 (s0 : Int32) (σ : Sg) : Option (Int32 × Sg) :=
  some (s0, σ)
def j_had_0 (v1 : Int32) (σ : Sg) : Option (Int32 × Sg) :=
  if 0 ≤ v1 then if v1 ≤ 3 then bd (j_dimensionsHad_8 v1 σ) fun r1 σ1 => j_had_0_b33 r1 σ1 else bd (j_refused_0 (-6) σ) fun r2 σ2 => j_had_0_b33 r2 σ2 else bd (j_refused_0 (-4) σ) fun r4 σ4 => some (r4, σ4)
def j_keepFormula_1_11 (v2 : Int32) (v3 : Int32) (σ : Sg) : Option (Unit × Sg) :=
  bd (j_minII_s v2 72 σ) fun r1 σ1 => gd (cpB 11 33 0 0 ((si σ1 1 6 r1).1 1 6)) (some ((), si (scp (si σ1 1 6 r1) 11 33 0 0 (((si σ1 1 6 r1).1 1 6).toNatClampNeg)) 1 7 v3))
def j_fillAII_98_H5 (k5 : Int32 → Int32 → Int32 → Sg → Option (Unit × Sg)) (v1 : Int32) (v2 : Int32) (v3 : Int32) (σ : Sg) : Option (Unit × Sg) :=
  if v3 ≤ v2 then some ((), σ) else gd (inB v2 72) (k5 v1 (v2 + 1) v3 (si σ 98 v2.toNatClampNeg v1))
def j_fillAII_98_L5 : Nat → Int32 → Int32 → Int32 → Sg → Option (Unit × Sg)
  | 0, _, _, _, _ => none
  | n + 1, v1, v2, v3, σ => j_fillAII_98_H5 (j_fillAII_98_L5 n) v1 v2 v3 σ
def j_fillAII_98 (v1 : Int32) (σ : Sg) : Option (Unit × Sg) :=
  j_fillAII_98_L5 fu v1 0 72 σ
def j_failHere_9_b17 (σ : Sg) : Option (Unit × Sg) :=
  some ((), σ)
def j_failHere_9 (σ : Sg) : Option (Unit × Sg) :=
  if (σ.1 9 4) = (-9) then j_failHere_9_b17 (si σ 9 4 (σ.1 9 3)) else j_failHere_9_b17 σ
def j_next_9_b33 (s0 : Int32) (σ : Sg) : Option (Int32 × Sg) :=
  some (s0, σ)
def j_next_9_b32 (σ : Sg) : Option (Int32 × Sg) :=
  j_next_9_b33 (-1) σ
def j_next_9 (σ : Sg) : Option (Int32 × Sg) :=
  if (σ.1 9 4) = (-9) then if (σ.1 9 2) ≤ (σ.1 9 3) then j_next_9_b32 σ else gd (inB (σ.1 9 3) 72) (j_next_9_b33 (σ.1 97 (σ.1 9 3).toNatClampNeg) σ) else j_next_9_b32 σ
def j_expect_9_b25 (σ : Sg) : Option (Unit × Sg) :=
  some ((), σ)
def j_expect_9 (v1 : Int32) (σ : Sg) : Option (Unit × Sg) :=
  bd (j_next_9 σ) fun r1 σ1 => if r1 = v1 then j_expect_9_b25 (si σ1 9 3 ((σ1.1 9 3) + 1)) else bd (j_failHere_9 σ1) fun _ σ2 => j_expect_9_b25 σ2
def j_markWrong_9_b17 (σ : Sg) : Option (Unit × Sg) :=
  some ((), σ)
def j_markWrong_9 (v1 : Int32) (σ : Sg) : Option (Unit × Sg) :=
  if v1 < 0 then j_markWrong_9_b17 σ else if 72 ≤ v1 then j_markWrong_9_b17 σ else gd (inB v1 72) (j_markWrong_9_b17 (si σ 98 v1.toNatClampNeg 1))
def j_isNext_9_b20 (s0 : Int32) (σ : Sg) : Option (Int32 × Sg) :=
  gd (nbB s0) (some (s0, σ))
def j_isNext_9_b15 (σ : Sg) : Option (Int32 × Sg) :=
  j_isNext_9_b20 1 σ
def j_isNext_9 (v1 : Int32) (v2 : Int32) (σ : Sg) : Option (Int32 × Sg) :=
  bd (j_next_9 σ) fun r1 σ1 => if r1 = v1 then j_isNext_9_b15 σ1 else if r1 = v2 then j_isNext_9_b15 σ1 else j_isNext_9_b20 0 σ1
def j_isDigit_s_b17 (s0 : Int32) (σ : Sg) : Option (Int32 × Sg) :=
  gd (nbB s0) (some (s0, σ))
def j_isDigit_s_b16 (σ : Sg) : Option (Int32 × Sg) :=
  j_isDigit_s_b17 0 σ
def j_isDigit_s (v0 : Int32) (σ : Sg) : Option (Int32 × Sg) :=
  if v0 < 48 then j_isDigit_s_b16 σ else if 57 < v0 then j_isDigit_s_b16 σ else j_isDigit_s_b17 1 σ
def j_readNumber_9_b33 (σ : Sg) : Option (Unit × Sg) :=
  some ((), σ)
def j_readNumber_9_H2 (k2 : Int32 → Sg → Option (Unit × Sg)) (v1 : Int32) (σ : Sg) : Option (Unit × Sg) :=
  if 3 ≤ v1 then j_readNumber_9_b33 σ else bd (j_next_9 σ) fun r1 σ1 => bd (j_isDigit_s r1 σ1) fun r2 σ2 => if r2 = 0 then j_readNumber_9_b33 σ2 else k2 (v1 + 1) (si σ2 9 3 ((σ2.1 9 3) + 1))
def j_readNumber_9_L2 : Nat → Int32 → Sg → Option (Unit × Sg)
  | 0, _, _ => none
  | n + 1, v1, σ => j_readNumber_9_H2 (j_readNumber_9_L2 n) v1 σ
def j_readNumber_9 (σ : Sg) : Option (Unit × Sg) :=
  j_readNumber_9_L2 fu 0 σ
def j_readPower_9_b44 (v1 : Int32) (σ : Sg) : Option (Int32 × Sg) :=
  bd (j_next_9 σ) fun r1 σ1 => bd (j_isDigit_s r1 σ1) fun r2 σ2 => if r2 = 0 then bd (j_failHere_9 σ2) fun _ σ3 => some (1, σ3) else some (v1 * (r1 - 48), si σ2 9 3 ((σ2.1 9 3) + 1))
def j_readPower_9 (σ : Sg) : Option (Int32 × Sg) :=
  bd (j_next_9 σ) fun r1 σ1 => if r1 = 94 then bd (j_next_9 (si σ1 9 3 ((σ1.1 9 3) + 1))) fun r2 σ2 => if r2 = 45 then j_readPower_9_b44 (-1) (si σ2 9 3 ((σ2.1 9 3) + 1)) else j_readPower_9_b44 1 σ2 else some (1, σ1)
def j_same_x_x_H2 (k2 : Nat → Nat → Int32 → Sg → Option (Int32 × Sg)) (v0 : Nat) (v1 : Nat) (v2 : Int32) (σ : Sg) : Option (Int32 × Sg) :=
  if 5 ≤ v2 then some (1, σ) else gd (arB 0 v0 v2) (gd (arB 0 v1 v2) (if (σ.1 v0 v2.toNatClampNeg) = (σ.1 v1 v2.toNatClampNeg) then k2 v0 v1 (v2 + 1) σ else some (0, σ)))
def j_same_x_x_L2 : Nat → Nat → Nat → Int32 → Sg → Option (Int32 × Sg)
  | 0, _, _, _, _ => none
  | n + 1, v0, v1, v2, σ => j_same_x_x_H2 (j_same_x_x_L2 n) v0 v1 v2 σ
def j_same_x_x (v0 : Nat) (v1 : Nat) (σ : Sg) : Option (Int32 × Sg) :=
  j_same_x_x_L2 fu v0 v1 0 σ
def j_readInner_9_b74 (rs : Int32 → Sg → Option (Unit × Sg)) (σ : Sg) : Option (Nat × Sg) :=
  some (115, σ)
def j_readInner_9_b27 (rs : Int32 → Sg → Option (Unit × Sg)) (v1 : Int32) (v2 : Int32) (v3 : Int32) (σ : Sg) : Option (Nat × Sg) :=
  bd (rs (v1 + 1) σ) fun _ σ1 => bd (j_expect_9 41 σ1) fun _ σ2 => if v2 = 40 then gd (inB (v1 + 1) 7) (some (100 + (v1 + 1).toNatClampNeg, σ2)) else gd (inB (v1 + 1) 7) (bd (j_isPure_x (100 + (v1 + 1).toNatClampNeg) σ2) fun r4 σ4 => if r4 = 0 then bd (j_markWrong_9 v3 σ4) fun _ σ5 => j_readInner_9_b74 rs σ5 else j_readInner_9_b74 rs σ4)
def j_readInner_9 (rs : Int32 → Sg → Option (Unit × Sg)) (v1 : Int32) (v2 : Int32) (σ : Sg) : Option (Nat × Sg) :=
  if v2 = 115 then bd (j_expect_9 40 (si σ 9 3 ((σ.1 9 3) + 1))) fun _ σ1 => j_readInner_9_b27 rs v1 v2 (σ.1 9 3) σ1 else j_readInner_9_b27 rs v1 v2 (σ.1 9 3) (si σ 9 3 ((σ.1 9 3) + 1))
def j_readAtom_9_b98 (rs : Int32 → Sg → Option (Unit × Sg)) (σ : Sg) : Option (Nat × Sg) :=
  bd (j_failHere_9 σ) fun _ σ1 => some (115, σ1)
def j_readAtom_9_b85 (rs : Int32 → Sg → Option (Unit × Sg)) (v1 : Int32) (v2 : Int32) (σ : Sg) : Option (Nat × Sg) :=
  if 6 ≤ v1 then j_readAtom_9_b98 rs σ else bd (j_readInner_9 rs v1 v2 σ) fun r1 σ1 => some (r1, σ1)
def j_readAtom_9_b57 (rs : Int32 → Sg → Option (Unit × Sg)) (v1 : Int32) (v2 : Int32) (σ : Sg) : Option (Nat × Sg) :=
  bd (j_isDigit_s v2 σ) fun r1 σ1 => if r1 = 0 then if v2 = 40 then j_readAtom_9_b85 rs v1 v2 σ1 else if v2 = 115 then j_readAtom_9_b85 rs v1 v2 σ1 else j_readAtom_9_b98 rs σ1 else bd (j_readNumber_9 σ1) fun _ σ4 => some (115, σ4)
def j_readAtom_9 (rs : Int32 → Sg → Option (Unit × Sg)) (v1 : Int32) (σ : Sg) : Option (Nat × Sg) :=
  bd (j_next_9 σ) fun r1 σ1 => if (r1 - 65) < 0 then j_readAtom_9_b57 rs v1 r1 σ1 else if (σ1.1 4 0) ≤ (r1 - 65) then j_readAtom_9_b57 rs v1 r1 σ1 else gd (inB (r1 - 65) 8) (some (69 + (r1 - 65).toNatClampNeg, si (si σ1 9 3 ((σ1.1 9 3) + 1)) 9 6 (((si σ1 9 3 ((σ1.1 9 3) + 1)).1 9 6) ||| ((1 : Int32) <<< ((r1 - 65) &&& 31)))))
def j_readPart_9_H17 (rs : Int32 → Sg → Option (Unit × Sg)) (k17 : Int32 → Nat → Int32 → Int32 → Sg → Option (Unit × Sg)) (v1 : Int32) (v3 : Nat) (v4 : Int32) (v5 : Int32) (σ : Sg) : Option (Unit × Sg) :=
  if 5 ≤ v5 then some ((), σ) else gd (inB v1 7) (gd (arB 0 (108 + v1.toNatClampNeg) v5) (gd (arB 0 v3 v5) (gd (arB 0 (108 + v1.toNatClampNeg) v5) (k17 v1 v3 v4 (v5 + 1) (si σ (108 + v1.toNatClampNeg) v5.toNatClampNeg ((σ.1 (108 + v1.toNatClampNeg) v5.toNatClampNeg) + (v4 * (σ.1 v3 v5.toNatClampNeg))))))))
def j_readPart_9_L17 (rs : Int32 → Sg → Option (Unit × Sg)) : Nat → Int32 → Nat → Int32 → Int32 → Sg → Option (Unit × Sg)
  | 0, _, _, _, _, _ => none
  | n + 1, v1, v3, v4, v5, σ => j_readPart_9_H17 rs (j_readPart_9_L17 rs n) v1 v3 v4 v5 σ
def j_readPart_9 (rs : Int32 → Sg → Option (Unit × Sg)) (v1 : Int32) (v2 : Int32) (σ : Sg) : Option (Unit × Sg) :=
  bd (j_readAtom_9 rs v1 σ) fun r1 σ1 => bd (j_readPower_9 σ1) fun r2 σ2 => j_readPart_9_L17 rs fu v1 r1 (v2 * r2) 0 σ2
def j_readTerm_9_b82 (rs : Int32 → Sg → Option (Unit × Sg)) (σ : Sg) : Option (Unit × Sg) :=
  some ((), σ)
def j_readTerm_9_b59 (rs : Int32 → Sg → Option (Unit × Sg)) (k28 : Int32 → Int32 → Sg → Option (Unit × Sg)) (v1 : Int32) (v2 : Int32) (s0 : Int32) (σ : Sg) : Option (Unit × Sg) :=
  bd (j_readPart_9 rs v1 s0 (si σ 9 3 ((σ.1 9 3) + 1))) fun _ σ1 => k28 v1 (v2 + 1) σ1
def j_readTerm_9_H28 (rs : Int32 → Sg → Option (Unit × Sg)) (k28 : Int32 → Int32 → Sg → Option (Unit × Sg)) (v1 : Int32) (v2 : Int32) (σ : Sg) : Option (Unit × Sg) :=
  if 72 ≤ v2 then j_readTerm_9_b82 rs σ else bd (j_isNext_9 42 47 σ) fun r1 σ1 => if r1 = 0 then j_readTerm_9_b82 rs σ1 else bd (j_next_9 σ1) fun r2 σ2 => if r2 = 42 then j_readTerm_9_b59 rs k28 v1 v2 1 σ2 else j_readTerm_9_b59 rs k28 v1 v2 (-1) σ2
def j_readTerm_9_L28 (rs : Int32 → Sg → Option (Unit × Sg)) : Nat → Int32 → Int32 → Sg → Option (Unit × Sg)
  | 0, _, _, _ => none
  | n + 1, v1, v2, σ => j_readTerm_9_H28 rs (j_readTerm_9_L28 rs n) v1 v2 σ
def j_readTerm_9 (rs : Int32 → Sg → Option (Unit × Sg)) (v1 : Int32) (σ : Sg) : Option (Unit × Sg) :=
  gd (inB v1 7) (bd (j_fillAII_x (108 + v1.toNatClampNeg) 0 (si σ 9 5 ((σ.1 9 5) + 1))) fun _ σ2 => bd (j_readPart_9 rs v1 1 σ2) fun _ σ3 => j_readTerm_9_L28 rs fu v1 0 σ3)
def j_readSum_9_b91 (rs : Int32 → Sg → Option (Unit × Sg)) (σ : Sg) : Option (Unit × Sg) :=
  some ((), σ)
def j_readSum_9_b85 (rs : Int32 → Sg → Option (Unit × Sg)) (k25 : Int32 → Int32 → Sg → Option (Unit × Sg)) (v1 : Int32) (v2 : Int32) (σ : Sg) : Option (Unit × Sg) :=
  k25 v1 (v2 + 1) σ
def j_readSum_9_H25 (rs : Int32 → Sg → Option (Unit × Sg)) (k25 : Int32 → Int32 → Sg → Option (Unit × Sg)) (v1 : Int32) (v2 : Int32) (σ : Sg) : Option (Unit × Sg) :=
  if 72 ≤ v2 then j_readSum_9_b91 rs σ else bd (j_isNext_9 43 45 σ) fun r1 σ1 => if r1 = 0 then j_readSum_9_b91 rs σ1 else bd (j_readTerm_9 rs v1 (si σ1 9 3 ((σ1.1 9 3) + 1))) fun _ σ2 => gd (inB v1 7) (gd (inB v1 7) (bd (j_same_x_x (108 + v1.toNatClampNeg) (100 + v1.toNatClampNeg) σ2) fun r5 σ5 => if r5 = 0 then bd (j_markWrong_9 ((si σ1 9 3 ((σ1.1 9 3) + 1)).1 9 3) σ5) fun _ σ6 => j_readSum_9_b85 rs k25 v1 v2 σ6 else j_readSum_9_b85 rs k25 v1 v2 σ5))
def j_readSum_9_L25 (rs : Int32 → Sg → Option (Unit × Sg)) : Nat → Int32 → Int32 → Sg → Option (Unit × Sg)
  | 0, _, _, _ => none
  | n + 1, v1, v2, σ => j_readSum_9_H25 rs (j_readSum_9_L25 rs n) v1 v2 σ
def j_readSum_9_H (rs : Int32 → Sg → Option (Unit × Sg)) (v1 : Int32) (σ : Sg) : Option (Unit × Sg) :=
  bd (j_readTerm_9 rs v1 σ) fun _ σ1 => gd (inB v1 7) (gd (inB v1 7) (gd (cpB (108 + v1.toNatClampNeg) (100 + v1.toNatClampNeg) 0 0 5) (j_readSum_9_L25 rs fu v1 0 (scp σ1 (108 + v1.toNatClampNeg) (100 + v1.toNatClampNeg) 0 0 5))))
def j_readSum_9 : Nat → Int32 → Sg → Option (Unit × Sg)
  | 0, _, _ => none
  | n + 1, v1, σ => j_readSum_9_H (j_readSum_9 n) v1 σ
def j_same_116_117_H2 (k2 : Int32 → Sg → Option (Int32 × Sg)) (v2 : Int32) (σ : Sg) : Option (Int32 × Sg) :=
  if 5 ≤ v2 then some (1, σ) else gd (inB v2 5) (gd (inB v2 5) (if (σ.1 116 v2.toNatClampNeg) = (σ.1 117 v2.toNatClampNeg) then k2 (v2 + 1) σ else some (0, σ)))
def j_same_116_117_L2 : Nat → Int32 → Sg → Option (Int32 × Sg)
  | 0, _, _ => none
  | n + 1, v2, σ => j_same_116_117_H2 (j_same_116_117_L2 n) v2 σ
def j_same_116_117 (σ : Sg) : Option (Int32 × Sg) :=
  j_same_116_117_L2 fu 0 σ
def j_read_9_11_b130 (σ : Sg) : Option (Unit × Sg) :=
  some ((), σ)
def j_read_9_11 (v2 : Int32) (σ : Sg) : Option (Unit × Sg) :=
  bd (j_minII_s v2 72 σ) fun r1 σ1 => gd (cpB 11 97 0 0 ((si σ1 9 2 r1).1 9 2)) (bd (j_fillAII_98 0 (si (si (si (si (scp (si σ1 9 2 r1) 11 97 0 0 (((si σ1 9 2 r1).1 9 2).toNatClampNeg)) 9 3 0) 9 4 (-9)) 9 5 0) 9 6 0)) fun _ σ3 => bd (j_readSum_9 12 0 σ3) fun _ σ4 => gd (cpB 100 116 0 0 5) (bd (j_expect_9 61 (scp σ4 100 116 0 0 5)) fun _ σ6 => bd (j_readSum_9 12 0 σ6) fun _ σ7 => gd (cpB 100 117 0 0 5) (bd (j_expect_9 (-1) (scp σ7 100 117 0 0 5)) fun _ σ9 => bd (j_same_116_117 σ9) fun r10 σ10 => if r10 = 0 then bd (j_markWrong_9 ((scp σ4 100 116 0 0 5).1 9 3) σ10) fun _ σ11 => j_read_9_11_b130 σ11 else j_read_9_11_b130 σ10)))
def j_formula_0 (σ : Sg) : Option (Int32 × Sg) :=
  bd (j_read_9_11 (σ.1 0 9) σ) fun _ σ1 => if ((si σ1 0 9 0).1 9 4) = (-9) then bd (j_keepFormula_1_11 (σ1.1 0 9) ((si σ1 0 9 0).1 9 5) (si σ1 0 9 0)) fun _ σ2 => some (σ2.1 9 5, σ2) else some ((-1000) - ((si σ1 0 9 0).1 9 4), si σ1 0 9 0)
def j_hasFormula_1_b14 (s0 : Int32) (σ : Sg) : Option (Int32 × Sg) :=
  gd (nbB s0) (some (s0, σ))
def j_hasFormula_1 (σ : Sg) : Option (Int32 × Sg) :=
  if (σ.1 1 7) = (-9) then j_hasFormula_1_b14 0 σ else j_hasFormula_1_b14 1 σ
def j_countWrong_9_H13 (k13 : Int32 → Int32 → Int32 → Sg → Option (Int32 × Sg)) (v1 : Int32) (v3 : Int32) (v4 : Int32) (σ : Sg) : Option (Int32 × Sg) :=
  if v3 ≤ v4 then some (v1, σ) else gd (inB v4 72) (k13 (v1 + (σ.1 98 v4.toNatClampNeg)) v3 (v4 + 1) σ)
def j_countWrong_9_L13 : Nat → Int32 → Int32 → Int32 → Sg → Option (Int32 × Sg)
  | 0, _, _, _, _ => none
  | n + 1, v1, v3, v4, σ => j_countWrong_9_H13 (j_countWrong_9_L13 n) v1 v3 v4 σ
def j_countWrong_9 (σ : Sg) : Option (Int32 × Sg) :=
  j_countWrong_9_L13 fu 0 72 0 σ
def j_firstWrong_9_H2 (k2 : Int32 → Sg → Option (Int32 × Sg)) (v1 : Int32) (σ : Sg) : Option (Int32 × Sg) :=
  if (σ.1 9 2) ≤ v1 then some ((-9), σ) else gd (inB v1 72) (if (σ.1 98 v1.toNatClampNeg) = 1 then some (v1, σ) else k2 (v1 + 1) σ)
def j_firstWrong_9_L2 : Nat → Int32 → Sg → Option (Int32 × Sg)
  | 0, _, _ => none
  | n + 1, v1, σ => j_firstWrong_9_H2 (j_firstWrong_9_L2 n) v1 σ
def j_firstWrong_9 (σ : Sg) : Option (Int32 × Sg) :=
  j_firstWrong_9_L2 fu 0 σ
def j_read_9_33_b130 (σ : Sg) : Option (Unit × Sg) :=
  some ((), σ)
def j_read_9_33 (v2 : Int32) (σ : Sg) : Option (Unit × Sg) :=
  bd (j_minII_s v2 72 σ) fun r1 σ1 => gd (cpB 33 97 0 0 ((si σ1 9 2 r1).1 9 2)) (bd (j_fillAII_98 0 (si (si (si (si (scp (si σ1 9 2 r1) 33 97 0 0 (((si σ1 9 2 r1).1 9 2).toNatClampNeg)) 9 3 0) 9 4 (-9)) 9 5 0) 9 6 0)) fun _ σ3 => bd (j_readSum_9 12 0 σ3) fun _ σ4 => gd (cpB 100 116 0 0 5) (bd (j_expect_9 61 (scp σ4 100 116 0 0 5)) fun _ σ6 => bd (j_readSum_9 12 0 σ6) fun _ σ7 => gd (cpB 100 117 0 0 5) (bd (j_expect_9 (-1) (scp σ7 100 117 0 0 5)) fun _ σ9 => bd (j_same_116_117 σ9) fun r10 σ10 => if r10 = 0 then bd (j_markWrong_9 ((scp σ4 100 116 0 0 5).1 9 3) σ10) fun _ σ11 => j_read_9_33_b130 σ11 else j_read_9_33_b130 σ10)))
def j_wrong_0_b9 (σ : Sg) : Option (Int32 × Sg) :=
  bd (j_refused_0 (-2) σ) fun r1 σ1 => some (r1, σ1)
def j_wrong_0_b88 (s0 : Int32) (σ : Sg) : Option (Int32 × Sg) :=
  some (s0, σ)
def j_wrong_0 (v1 : Int32) (σ : Sg) : Option (Int32 × Sg) :=
  if v1 < 0 then j_wrong_0_b9 σ else if v1 ≤ 2 then bd (j_hasFormula_1 σ) fun r1 σ1 => if r1 = 0 then bd (j_refused_0 (-3) σ1) fun r7 σ7 => some (r7, σ7) else bd (j_read_9_33 (σ1.1 1 6) σ1) fun _ σ2 => if v1 = 0 then bd (j_firstWrong_9 σ2) fun r5 σ5 => some (r5, σ5) else if v1 = 1 then bd (j_countWrong_9 σ2) fun r3 σ3 => j_wrong_0_b88 r3 σ3 else j_wrong_0_b88 (σ2.1 9 6) σ2 else j_wrong_0_b9 σ
def j_lacks_9 (v1 : Int32) (σ : Sg) : Option (Int32 × Sg) :=
  gd (inB v1 5) (gd (inB v1 5) (some ((σ.1 116 v1.toNatClampNeg) - (σ.1 117 v1.toNatClampNeg), σ)))
def j_sides_0_b22 (σ : Sg) : Option (Int32 × Sg) :=
  bd (j_refusedFar_0 (-2) σ) fun r1 σ1 => some (r1, σ1)
def j_sides_0_b106 (s0 : Int32) (σ : Sg) : Option (Int32 × Sg) :=
  some (s0, σ)
def j_sides_0 (v1 : Int32) (v2 : Int32) (σ : Sg) : Option (Int32 × Sg) :=
  bd (j_isUnit_s v2 σ) fun r1 σ1 => if r1 = 0 then bd (j_refusedFar_0 (-1) σ1) fun r13 σ13 => some (r13, σ13) else if v1 < 0 then j_sides_0_b22 σ1 else if v1 ≤ 2 then bd (j_hasFormula_1 σ1) fun r2 σ2 => if r2 = 0 then bd (j_refusedFar_0 (-3) σ2) fun r9 σ9 => some (r9, σ9) else bd (j_read_9_33 (σ2.1 1 6) σ2) fun _ σ3 => if v1 = 0 then gd (inB v2 5) (some (σ3.1 116 v2.toNatClampNeg, σ3)) else if v1 = 1 then gd (inB v2 5) (j_sides_0_b106 (σ3.1 117 v2.toNatClampNeg) σ3) else bd (j_lacks_9 v2 σ3) fun r4 σ4 => j_sides_0_b106 r4 σ4 else j_sides_0_b22 σ1
def j_mend_0_H52 (k52 : Int32 → Int32 → Sg → Option (Int32 × Sg)) (v1 : Int32) (v2 : Int32) (σ : Sg) : Option (Int32 × Sg) :=
  if 5 ≤ v2 then bd (j_fewestAt_8_19 v1 σ) fun r1 σ1 => some (r1, σ1) else bd (j_lacks_9 v2 σ) fun r2 σ2 => gd (inB v2 5) (k52 v1 (v2 + 1) (si σ2 19 v2.toNatClampNeg r2))
def j_mend_0_L52 : Nat → Int32 → Int32 → Sg → Option (Int32 × Sg)
  | 0, _, _, _ => none
  | n + 1, v1, v2, σ => j_mend_0_H52 (j_mend_0_L52 n) v1 v2 σ
def j_mend_0 (v1 : Int32) (σ : Sg) : Option (Int32 × Sg) :=
  if (-1) ≤ v1 then bd (j_hasFormula_1 σ) fun r1 σ1 => if r1 = 0 then bd (j_refused_0 (-3) σ1) fun r3 σ3 => some (r3, σ3) else bd (j_read_9_33 (σ1.1 1 6) σ1) fun _ σ2 => j_mend_0_L52 fu v1 0 σ2 else bd (j_refused_0 (-4) σ) fun r5 σ5 => some (r5, σ5)
def j_lots_0_b170 (s0 : Int32) (σ : Sg) : Option (Int32 × Sg) :=
  some (s0, σ)
def j_lots_0_b134 (k53 : Int32 → Int32 → Int32 → Int32 → Int32 → Int32 → Sg → Option (Int32 × Sg)) (v1 : Int32) (v3 : Int32) (v5 : Int32) (v6 : Int32) (v7 : Int32) (s0 : Int32) (s1 : Int32) (σ : Sg) : Option (Int32 × Sg) :=
  bd (j_sizeOfDimension_4_18 σ) fun r1 σ1 => k53 v1 v3 (s0 + s1) (v5 + r1) v6 (v7 + 1) σ1
def j_lots_0_H62 (k53 : Int32 → Int32 → Int32 → Int32 → Int32 → Int32 → Sg → Option (Int32 × Sg)) (k62 : Int32 → Int32 → Int32 → Int32 → Int32 → Int32 → Int32 → Sg → Option (Int32 × Sg)) (v1 : Int32) (v3 : Int32) (v4 : Int32) (v5 : Int32) (v6 : Int32) (v7 : Int32) (v8 : Int32) (σ : Sg) : Option (Int32 × Sg) :=
  if (σ.1 1 0) ≤ v8 then bd (j_isPureProduct_4_18 σ) fun r1 σ1 => if r1 = 0 then j_lots_0_b134 k53 v1 v3 v5 v6 v7 v4 0 σ1 else j_lots_0_b134 k53 v1 v3 v5 v6 v7 v4 1 σ1 else gd (inB v8 8) (k62 v1 v3 v4 v5 ((v6 * 1664525) + 1013904223) v7 (v8 + 1) (si σ 18 v8.toNatClampNeg ((irm ((((v6 * 1664525) + 1013904223) &&& 2147483647) / 256) 5) - 2)))
def j_lots_0_L62 (k53 : Int32 → Int32 → Int32 → Int32 → Int32 → Int32 → Sg → Option (Int32 × Sg)) : Nat → Int32 → Int32 → Int32 → Int32 → Int32 → Int32 → Int32 → Sg → Option (Int32 × Sg)
  | 0, _, _, _, _, _, _, _, _ => none
  | n + 1, v1, v3, v4, v5, v6, v7, v8, σ => j_lots_0_H62 k53 (j_lots_0_L62 k53 n) v1 v3 v4 v5 v6 v7 v8 σ
def j_lots_0_H53 (k53 : Int32 → Int32 → Int32 → Int32 → Int32 → Int32 → Sg → Option (Int32 × Sg)) (v1 : Int32) (v3 : Int32) (v4 : Int32) (v5 : Int32) (v6 : Int32) (v7 : Int32) (σ : Sg) : Option (Int32 × Sg) :=
  if v1 ≤ v7 then if v3 = 0 then j_lots_0_b170 v4 σ else j_lots_0_b170 v5 σ else j_lots_0_L62 k53 fu v1 v3 v4 v5 v6 v7 0 σ
def j_lots_0_L53 : Nat → Int32 → Int32 → Int32 → Int32 → Int32 → Int32 → Sg → Option (Int32 × Sg)
  | 0, _, _, _, _, _, _, _ => none
  | n + 1, v1, v3, v4, v5, v6, v7, σ => j_lots_0_H53 (j_lots_0_L53 n) v1 v3 v4 v5 v6 v7 σ
def j_lots_0_b41 (v1 : Int32) (v2 : Int32) (v3 : Int32) (σ : Sg) : Option (Int32 × Sg) :=
  j_lots_0_L53 fu v1 v3 0 0 v2 0 σ
def j_lots_0 (v1 : Int32) (v2 : Int32) (v3 : Int32) (σ : Sg) : Option (Int32 × Sg) :=
  if 1 ≤ v1 then if v1 ≤ 50 then if v3 = 0 then j_lots_0_b41 v1 v2 v3 σ else if v3 = 1 then j_lots_0_b41 v1 v2 v3 σ else bd (j_refused_0 (-2) σ) fun r1 σ1 => some (r1, σ1) else bd (j_refused_0 (-6) σ) fun r4 σ4 => some (r4, σ4) else bd (j_refused_0 (-4) σ) fun r6 σ6 => some (r6, σ6)
def j_list_0 (v1 : Int32) (v2 : Int32) (σ : Sg) : Option (Int32 × Sg) :=
  bd (j_isList_s v1 σ) fun r1 σ1 => if r1 = 0 then bd (j_refused_0 (-1) σ1) fun r8 σ8 => some (r8, σ8) else if v2 ≤ 40 then if 0 ≤ v2 then gd (inB v1 3) (bd (j_fillAII_x (13 + v1.toNatClampNeg) 0 σ1) fun _ σ3 => gd (inB v1 3) (some (1, si σ3 16 v1.toNatClampNeg v2))) else some ((-14), σ1) else bd (j_refused_0 (-6) σ1) fun r6 σ6 => some (r6, σ6)
def j_put_0 (v1 : Int32) (v2 : Int32) (v3 : Int32) (σ : Sg) : Option (Int32 × Sg) :=
  bd (j_isList_s v1 σ) fun r1 σ1 => if r1 = 0 then bd (j_refused_0 (-1) σ1) fun r8 σ8 => some (r8, σ8) else bd (j_isMissing_0 v1 σ1) fun r2 σ2 => if r2 = 0 then bd (j_isPlace_0 v1 v2 σ2) fun r3 σ3 => if r3 = 0 then some ((-13), σ3) else gd (inB v1 3) (gd (arB 0 (13 + v1.toNatClampNeg) v2) (some (1, si σ3 (13 + v1.toNatClampNeg) v2.toNatClampNeg v3))) else some ((-11), σ2)
def j_look_0_b54 (s0 : Int32) (σ : Sg) : Option (Int32 × Sg) :=
  some (s0, σ)
def j_look_0 (v1 : Int32) (v2 : Int32) (σ : Sg) : Option (Int32 × Sg) :=
  bd (j_isList_s v1 σ) fun r1 σ1 => if r1 = 0 then bd (j_refusedFar_0 (-1) σ1) fun r10 σ10 => some (r10, σ10) else bd (j_isMissing_0 v1 σ1) fun r2 σ2 => if r2 = 0 then bd (j_isPlace_0 v1 v2 σ2) fun r3 σ3 => if r3 = 0 then bd (j_refusedFar_0 (-13) σ3) fun r4 σ4 => j_look_0_b54 r4 σ4 else gd (inB v1 3) (gd (arB 0 (13 + v1.toNatClampNeg) v2) (j_look_0_b54 (σ3.1 (13 + v1.toNatClampNeg) v2.toNatClampNeg) σ3)) else bd (j_refusedFar_0 (-11) σ2) fun r8 σ8 => some (r8, σ8)
def j_lays_0_b15 (σ : Sg) : Option (Int32 × Sg) :=
  bd (j_refused_0 (-1) σ) fun r1 σ1 => some (r1, σ1)
def j_lays_0_b54 (σ : Sg) : Option (Int32 × Sg) :=
  some ((-13), σ)
def j_lays_0 (v1 : Int32) (v2 : Int32) (v3 : Int32) (σ : Sg) : Option (Int32 × Sg) :=
  bd (j_isList_s v1 σ) fun r1 σ1 => if r1 = 0 then j_lays_0_b15 σ1 else bd (j_isGroup_0 v3 σ1) fun r2 σ2 => if r2 = 0 then j_lays_0_b15 σ2 else bd (j_isMissing_0 v1 σ2) fun r3 σ3 => if r3 = 0 then if v2 < 0 then j_lays_0_b54 σ3 else gd (inB v1 3) (if v2 ≤ ((σ3.1 16 v1.toNatClampNeg) - (σ3.1 1 0)) then bd (j_looseAt_4 v3 σ3) fun r5 σ5 => bd (j_relation_5_17 r5 σ5) fun _ σ6 => gd (inB v1 3) (gd (cpB 17 (13 + v1.toNatClampNeg) 0 v2 (σ6.1 1 0)) (some ((scp σ6 17 (13 + v1.toNatClampNeg) 0 (v2.toNatClampNeg) ((σ6.1 1 0).toNatClampNeg)).1 1 0, scp σ6 17 (13 + v1.toNatClampNeg) 0 (v2.toNatClampNeg) ((σ6.1 1 0).toNatClampNeg)))) else j_lays_0_b54 σ3) else some ((-11), σ3)
def j_judge_0_b72 (v2 : Int32) (σ : Sg) : Option (Int32 × Sg) :=
  some (v2, σ)
def j_judge_0_H26 (k26 : Int32 → Int32 → Sg → Option (Int32 × Sg)) (v1 : Int32) (v2 : Int32) (σ : Sg) : Option (Int32 × Sg) :=
  gd (inB v1 3) (if (σ.1 16 v1.toNatClampNeg) ≤ v2 then some ((-9), σ) else bd (j_isQuantity_0 (v2 / 5) σ) fun r2 σ2 => if r2 = 0 then j_judge_0_b72 v2 σ2 else gd (inB v1 3) (gd (arB 0 (13 + v1.toNatClampNeg) v2) (gd (inB (v2 / 5) 8) (gd (arB 0 (69 + (v2 / 5).toNatClampNeg) (irm v2 5)) (if (σ2.1 (13 + v1.toNatClampNeg) v2.toNatClampNeg) = (σ2.1 (69 + (v2 / 5).toNatClampNeg) (irm v2 5).toNatClampNeg) then k26 v1 (v2 + 1) σ2 else j_judge_0_b72 v2 σ2)))))
def j_judge_0_L26 : Nat → Int32 → Int32 → Sg → Option (Int32 × Sg)
  | 0, _, _, _ => none
  | n + 1, v1, v2, σ => j_judge_0_H26 (j_judge_0_L26 n) v1 v2 σ
def j_judge_0 (v1 : Int32) (σ : Sg) : Option (Int32 × Sg) :=
  bd (j_isList_s v1 σ) fun r1 σ1 => if r1 = 0 then bd (j_refused_0 (-1) σ1) fun r4 σ4 => some (r4, σ4) else bd (j_isMissing_0 v1 σ1) fun r2 σ2 => if r2 = 0 then j_judge_0_L26 fu v1 0 σ2 else some ((-11), σ2)
def j_maxII_s_b10 (s0 : Int32) (σ : Sg) : Option (Int32 × Sg) :=
  some (s0, σ)
def j_maxII_s (v0 : Int32) (v1 : Int32) (σ : Sg) : Option (Int32 × Sg) :=
  if v0 < v1 then j_maxII_s_b10 v1 σ else j_maxII_s_b10 v0 σ
def j_takeBack_3_1_b103 (σ : Sg) : Option (Unit × Sg) :=
  some ((), σ)
def j_takeBack_3_1 (σ : Sg) : Option (Unit × Sg) :=
  bd (j_maxII_s (((si σ 3 1 (irm (((σ.1 3 1) + 20) - 1) 20)).1 3 2) - 1) 0 (si σ 3 1 (irm (((σ.1 3 1) + 20) - 1) 20))) fun r1 σ1 => gd (inB ((si σ1 3 2 r1).1 3 1) 20) (gd (arB 0 (48 + ((si σ1 3 2 r1).1 3 1).toNatClampNeg) 1) (gd (arB 0 (48 + ((si σ1 3 2 r1).1 3 1).toNatClampNeg) 0) (if ((si σ1 3 2 r1).1 (48 + ((si σ1 3 2 r1).1 3 1).toNatClampNeg) 0) = 0 then gd (inB ((si σ1 3 2 r1).1 (48 + ((si σ1 3 2 r1).1 3 1).toNatClampNeg) 1) 8) (gd (arB 0 (48 + ((si σ1 3 2 r1).1 3 1).toNatClampNeg) 2) (gd (arB 0 (48 + ((si σ1 3 2 r1).1 3 1).toNatClampNeg) 3) (gd (arB 0 (23 + ((si σ1 3 2 r1).1 (48 + ((si σ1 3 2 r1).1 3 1).toNatClampNeg) 1).toNatClampNeg) ((si σ1 3 2 r1).1 (48 + ((si σ1 3 2 r1).1 3 1).toNatClampNeg) 2)) (j_takeBack_3_1_b103 (si (si σ1 3 2 r1) (23 + ((si σ1 3 2 r1).1 (48 + ((si σ1 3 2 r1).1 3 1).toNatClampNeg) 1).toNatClampNeg) ((si σ1 3 2 r1).1 (48 + ((si σ1 3 2 r1).1 3 1).toNatClampNeg) 2).toNatClampNeg ((si σ1 3 2 r1).1 (48 + ((si σ1 3 2 r1).1 3 1).toNatClampNeg) 3)))))) else gd (arB 0 (48 + ((si σ1 3 2 r1).1 3 1).toNatClampNeg) 0) (if ((si σ1 3 2 r1).1 (48 + ((si σ1 3 2 r1).1 3 1).toNatClampNeg) 0) = 1 then gd (arB 0 (48 + ((si σ1 3 2 r1).1 3 1).toNatClampNeg) 2) (gd (inB ((si σ1 3 2 r1).1 (48 + ((si σ1 3 2 r1).1 3 1).toNatClampNeg) 1) 8) (j_takeBack_3_1_b103 (si (si σ1 3 2 r1) 21 ((si σ1 3 2 r1).1 (48 + ((si σ1 3 2 r1).1 3 1).toNatClampNeg) 1).toNatClampNeg ((si σ1 3 2 r1).1 (48 + ((si σ1 3 2 r1).1 3 1).toNatClampNeg) 2)))) else gd (arB 0 (48 + ((si σ1 3 2 r1).1 3 1).toNatClampNeg) 2) (gd (inB ((si σ1 3 2 r1).1 (48 + ((si σ1 3 2 r1).1 3 1).toNatClampNeg) 1) 8) (gd (arB 0 (48 + ((si σ1 3 2 r1).1 3 1).toNatClampNeg) 3) (gd (inB ((si σ1 3 2 r1).1 (48 + ((si σ1 3 2 r1).1 3 1).toNatClampNeg) 1) 8) (j_takeBack_3_1_b103 (si (si (si σ1 3 2 r1) 31 ((si σ1 3 2 r1).1 (48 + ((si σ1 3 2 r1).1 3 1).toNatClampNeg) 1).toNatClampNeg ((si σ1 3 2 r1).1 (48 + ((si σ1 3 2 r1).1 3 1).toNatClampNeg) 2)) 32 ((si σ1 3 2 r1).1 (48 + ((si σ1 3 2 r1).1 3 1).toNatClampNeg) 1).toNatClampNeg ((si (si σ1 3 2 r1) 31 ((si σ1 3 2 r1).1 (48 + ((si σ1 3 2 r1).1 3 1).toNatClampNeg) 1).toNatClampNeg ((si σ1 3 2 r1).1 (48 + ((si σ1 3 2 r1).1 3 1).toNatClampNeg) 2)).1 (48 + ((si σ1 3 2 r1).1 3 1).toNatClampNeg) 3))))))))))
def j_undo_0 (σ : Sg) : Option (Int32 × Sg) :=
  if (σ.1 3 2) = 0 then bd (j_refused_0 (-3) σ) fun r3 σ3 => some (r3, σ3) else bd (j_takeBack_3_1 σ) fun _ σ1 => bd (j_measure_4_1 σ1) fun _ σ2 => some (σ2.1 3 2, σ2)
def j_keepFormula_2_33 (v2 : Int32) (v3 : Int32) (σ : Sg) : Option (Unit × Sg) :=
  bd (j_minII_s v2 72 σ) fun r1 σ1 => gd (cpB 33 46 0 0 ((si σ1 2 6 r1).1 2 6)) (some ((), si (scp (si σ1 2 6 r1) 33 46 0 0 (((si σ1 2 6 r1).1 2 6).toNatClampNeg)) 2 7 v3))
def j_copyFrom_2_1_H10 (k10 : Int32 → Sg → Option (Unit × Sg)) (v2 : Int32) (σ : Sg) : Option (Unit × Sg) :=
  if (σ.1 2 0) ≤ v2 then bd (j_keepFormula_2_33 (σ.1 1 6) (σ.1 1 7) σ) fun _ σ1 => some ((), σ1) else gd (inB v2 8) (gd (inB v2 8) (gd (inB v2 8) (gd (inB v2 8) (gd (inB v2 8) (gd (inB v2 8) (gd (inB v2 8) (gd (inB v2 8) (gd (cpB (23 + v2.toNatClampNeg) (36 + v2.toNatClampNeg) 0 0 5) (k10 (v2 + 1) (scp (si (si (si σ 34 v2.toNatClampNeg (σ.1 21 v2.toNatClampNeg)) 44 v2.toNatClampNeg ((si σ 34 v2.toNatClampNeg (σ.1 21 v2.toNatClampNeg)).1 31 v2.toNatClampNeg)) 45 v2.toNatClampNeg ((si (si σ 34 v2.toNatClampNeg (σ.1 21 v2.toNatClampNeg)) 44 v2.toNatClampNeg ((si σ 34 v2.toNatClampNeg (σ.1 21 v2.toNatClampNeg)).1 31 v2.toNatClampNeg)).1 32 v2.toNatClampNeg)) (23 + v2.toNatClampNeg) (36 + v2.toNatClampNeg) 0 0 5))))))))))
def j_copyFrom_2_1_L10 : Nat → Int32 → Sg → Option (Unit × Sg)
  | 0, _, _ => none
  | n + 1, v2, σ => j_copyFrom_2_1_H10 (j_copyFrom_2_1_L10 n) v2 σ
def j_copyFrom_2_1 (σ : Sg) : Option (Unit × Sg) :=
  j_copyFrom_2_1_L10 fu 0 (si σ 2 0 (σ.1 1 0))
def j_image_0 (σ : Sg) : Option (Int32 × Sg) :=
  bd (j_copyFrom_2_1 σ) fun _ σ1 => some ((si σ1 0 2 1).1 1 0, si σ1 0 2 1)
def j_keepFormula_1_46 (v2 : Int32) (v3 : Int32) (σ : Sg) : Option (Unit × Sg) :=
  bd (j_minII_s v2 72 σ) fun r1 σ1 => gd (cpB 46 33 0 0 ((si σ1 1 6 r1).1 1 6)) (some ((), si (scp (si σ1 1 6 r1) 46 33 0 0 (((si σ1 1 6 r1).1 1 6).toNatClampNeg)) 1 7 v3))
def j_copyFrom_1_2_H10 (k10 : Int32 → Sg → Option (Unit × Sg)) (v2 : Int32) (σ : Sg) : Option (Unit × Sg) :=
  if (σ.1 1 0) ≤ v2 then bd (j_keepFormula_1_46 (σ.1 2 6) (σ.1 2 7) σ) fun _ σ1 => some ((), σ1) else gd (inB v2 8) (gd (inB v2 8) (gd (inB v2 8) (gd (inB v2 8) (gd (inB v2 8) (gd (inB v2 8) (gd (inB v2 8) (gd (inB v2 8) (gd (cpB (36 + v2.toNatClampNeg) (23 + v2.toNatClampNeg) 0 0 5) (k10 (v2 + 1) (scp (si (si (si σ 21 v2.toNatClampNeg (σ.1 34 v2.toNatClampNeg)) 31 v2.toNatClampNeg ((si σ 21 v2.toNatClampNeg (σ.1 34 v2.toNatClampNeg)).1 44 v2.toNatClampNeg)) 32 v2.toNatClampNeg ((si (si σ 21 v2.toNatClampNeg (σ.1 34 v2.toNatClampNeg)) 31 v2.toNatClampNeg ((si σ 21 v2.toNatClampNeg (σ.1 34 v2.toNatClampNeg)).1 44 v2.toNatClampNeg)).1 45 v2.toNatClampNeg)) (36 + v2.toNatClampNeg) (23 + v2.toNatClampNeg) 0 0 5))))))))))
def j_copyFrom_1_2_L10 : Nat → Int32 → Sg → Option (Unit × Sg)
  | 0, _, _ => none
  | n + 1, v2, σ => j_copyFrom_1_2_H10 (j_copyFrom_1_2_L10 n) v2 σ
def j_copyFrom_1_2 (σ : Sg) : Option (Unit × Sg) :=
  j_copyFrom_1_2_L10 fu 0 (si σ 1 0 (σ.1 2 0))
def j_on_0 (σ : Sg) : Option (Int32 × Sg) :=
  if (σ.1 0 2) = 0 then bd (j_refused_0 (-3) σ) fun r4 σ4 => some (r4, σ4) else bd (j_copyFrom_1_2 σ) fun _ σ1 => bd (j_forget_3 σ1) fun _ σ2 => bd (j_measure_4_1 σ2) fun _ σ3 => some (σ3.1 1 0, σ3)
def j_count_0_b87 (s0 : Int32) (σ : Sg) : Option (Int32 × Sg) :=
  some (s0, σ)
def j_count_0_b85 (σ : Sg) : Option (Int32 × Sg) :=
  j_count_0_b87 (-9) σ
def j_count_0 (v1 : Int32) (σ : Sg) : Option (Int32 × Sg) :=
  if v1 = 0 then some (σ.1 1 0, σ) else if v1 = 1 then some (σ.1 0 9, σ) else if v1 = 2 then bd (j_scaledSet_1 σ) fun r6 σ6 => some (r6, σ6) else if v1 = 3 then some (σ.1 1 7, σ) else if v1 = 4 then some (σ.1 3 2, σ) else if v1 < 11 then j_count_0_b85 σ else if 16 < v1 then j_count_0_b85 σ else gd (inB (v1 - 10) 7) (j_count_0_b87 (σ.1 20 (v1 - 10).toNatClampNeg) σ)
def m_refuse_10_b16 (v1 : Int32) (σ : Sg) : Option (Int32 × Sg) :=
  some (-v1, σ)
def m_refuse_10 (v1 : Int32) (σ : Sg) : Option (Int32 × Sg) :=
  if 6 < v1 then m_refuse_10_b16 v1 σ else gd (inB v1 7) (gd (inB v1 7) (m_refuse_10_b16 v1 (si σ 120 v1.toNatClampNeg ((σ.1 120 v1.toNatClampNeg) + 1))))
def m_letter_10_b26 (σ : Sg) : Option (Int32 × Sg) :=
  bd (m_refuse_10 6 σ) fun r1 σ1 => some (r1, σ1)
def m_letter_10 (v1 : Int32) (σ : Sg) : Option (Int32 × Sg) :=
  if 0 ≤ v1 then if 255 < v1 then m_letter_10_b26 σ else if (σ.1 10 5) = 72 then m_letter_10_b26 σ else gd (inB (σ.1 10 5) 72) (some ((si (si σ 121 (σ.1 10 5).toNatClampNeg v1) 10 5 (((si σ 121 (σ.1 10 5).toNatClampNeg v1).1 10 5) + 1)).1 10 5, si (si σ 121 (σ.1 10 5).toNatClampNeg v1) 10 5 (((si σ 121 (σ.1 10 5).toNatClampNeg v1).1 10 5) + 1))) else bd (m_refuse_10 4 σ) fun r4 σ4 => some (r4, σ4)
def m_isIn_s_b18 (s0 : Int32) (σ : Sg) : Option (Int32 × Sg) :=
  gd (nbB s0) (some (s0, σ))
def m_isIn_s_b17 (σ : Sg) : Option (Int32 × Sg) :=
  m_isIn_s_b18 0 σ
def m_isIn_s (v0 : Int64) (v2 : Int64) (v4 : Int64) (σ : Sg) : Option (Int32 × Sg) :=
  if (lg_cmp v0 v2) < 0 then m_isIn_s_b17 σ else if 0 < (lg_cmp v0 v4) then m_isIn_s_b17 σ else m_isIn_s_b18 1 σ
def m_quantity_10_H54 (k54 : Int32 → Int32 → Sg → Option (Int32 × Sg)) (v2 : Int32) (v3 : Int32) (σ : Sg) : Option (Int32 × Sg) :=
  if 5 ≤ v3 then gd (inB (49 + v2) 139) (gd (inB (57 + v2) 139) (some (v2, si (si (si (si σ 118 (49 + v2).toNatClampNeg 0) 118 (57 + v2).toNatClampNeg 0) 118 0 (((si (si σ 118 (49 + v2).toNatClampNeg 0) 118 (57 + v2).toNatClampNeg 0).1 118 0) + 1)) 10 7 0))) else gd (inB ((9 + (5 * v2)) + v3) 139) (k54 v2 (v3 + 1) (si σ 118 ((9 + (5 * v2)) + v3).toNatClampNeg 0))
def m_quantity_10_L54 : Nat → Int32 → Int32 → Sg → Option (Int32 × Sg)
  | 0, _, _, _ => none
  | n + 1, v2, v3, σ => m_quantity_10_H54 (m_quantity_10_L54 n) v2 v3 σ
def m_quantity_10 (v1 : Int32) (σ : Sg) : Option (Int32 × Sg) :=
  bd (m_isIn_s v1.toInt64 0 5 σ) fun r1 σ1 => if r1 = 0 then bd (m_refuse_10 2 σ1) fun r5 σ5 => some (r5, σ5) else if (σ1.1 118 0) = 8 then bd (m_refuse_10 6 σ1) fun r3 σ3 => some (r3, σ3) else gd (inB (1 + (σ1.1 118 0)) 139) (m_quantity_10_L54 fu (σ1.1 118 0) 0 (si σ1 118 (1 + (σ1.1 118 0)).toNatClampNeg v1))
def m_changes_10_b105 (s1 : Int32) (s2 : Int32) (σ : Sg) : Option (Unit × Sg) :=
  gd (inB s1 100) (some ((), si (si σ 122 s1.toNatClampNeg s2) 10 7 (((si σ 122 s1.toNatClampNeg s2).1 10 7) + 1)))
def m_changes_10_b47 (v1 : Int32) (v2 : Int32) (σ : Sg) : Option (Unit × Sg) :=
  gd (inB (5 * (σ.1 10 7)) 100) (gd (inB v1 139) (gd (inB ((5 * (σ.1 10 7)) + 1) 100) (gd (inB ((5 * (σ.1 10 7)) + 2) 100) (if 0 ≤ v2 then gd (inB v2 139) (m_changes_10_b105 ((5 * (σ.1 10 7)) + 3) ((si (si (si σ 122 (5 * (σ.1 10 7)).toNatClampNeg v1) 122 ((5 * (σ.1 10 7)) + 1).toNatClampNeg ((si σ 122 (5 * (σ.1 10 7)).toNatClampNeg v1).1 118 v1.toNatClampNeg)) 122 ((5 * (σ.1 10 7)) + 2).toNatClampNeg v2).1 118 v2.toNatClampNeg) (si (si (si σ 122 (5 * (σ.1 10 7)).toNatClampNeg v1) 122 ((5 * (σ.1 10 7)) + 1).toNatClampNeg ((si σ 122 (5 * (σ.1 10 7)).toNatClampNeg v1).1 118 v1.toNatClampNeg)) 122 ((5 * (σ.1 10 7)) + 2).toNatClampNeg v2)) else m_changes_10_b105 ((5 * (σ.1 10 7)) + 3) 0 (si (si (si σ 122 (5 * (σ.1 10 7)).toNatClampNeg v1) 122 ((5 * (σ.1 10 7)) + 1).toNatClampNeg ((si σ 122 (5 * (σ.1 10 7)).toNatClampNeg v1).1 118 v1.toNatClampNeg)) 122 ((5 * (σ.1 10 7)) + 2).toNatClampNeg v2)))))
def m_changes_10_H11 (k11 : Int32 → Int32 → Int32 → Sg → Option (Unit × Sg)) (v1 : Int32) (v2 : Int32) (v3 : Int32) (σ : Sg) : Option (Unit × Sg) :=
  if 100 ≤ v3 then m_changes_10_b47 v1 v2 (si σ 10 7 ((σ.1 10 7) - 1)) else gd (inB v3 100) (gd (inB (v3 - 5) 100) (k11 v1 v2 (v3 + 1) (si σ 122 (v3 - 5).toNatClampNeg (σ.1 122 v3.toNatClampNeg))))
def m_changes_10_L11 : Nat → Int32 → Int32 → Int32 → Sg → Option (Unit × Sg)
  | 0, _, _, _, _ => none
  | n + 1, v1, v2, v3, σ => m_changes_10_H11 (m_changes_10_L11 n) v1 v2 v3 σ
def m_changes_10 (v1 : Int32) (v2 : Int32) (σ : Sg) : Option (Unit × Sg) :=
  if (σ.1 10 7) = 20 then m_changes_10_L11 fu v1 v2 5 σ else m_changes_10_b47 v1 v2 σ
def m_isOne_10 (v1 : Int32) (σ : Sg) : Option (Int32 × Sg) :=
  bd (m_isIn_s v1.toInt64 0 (((σ.1 118 0) - 1).toInt64) σ) fun r1 σ1 => gd (nbB r1) (some (r1, σ1))
def m_isUnit_s (v0 : Int32) (σ : Sg) : Option (Int32 × Sg) :=
  bd (m_isIn_s v0.toInt64 0 4 σ) fun r1 σ1 => gd (nbB r1) (some (r1, σ1))
def m_refuseFar_10 (v1 : Int32) (σ : Sg) : Option (Int32 × Sg) :=
  bd (m_refuse_10 v1 σ) fun r1 σ1 => some (1000000000 - r1, σ1)
def m_tell_10_b15 (σ : Sg) : Option (Int32 × Sg) :=
  bd (m_refuseFar_10 1 σ) fun r1 σ1 => some (r1, σ1)
def m_tell_10 (v1 : Int32) (v2 : Int32) (v3 : Int32) (σ : Sg) : Option (Int32 × Sg) :=
  bd (m_isOne_10 v1 σ) fun r1 σ1 => if r1 = 0 then m_tell_10_b15 σ1 else bd (m_isUnit_s v2 σ1) fun r2 σ2 => if r2 = 0 then m_tell_10_b15 σ2 else if (-9) ≤ v3 then if v3 ≤ 9 then gd (inB ((9 + (5 * v1)) + v2) 139) (bd (m_changes_10 ((9 + (5 * v1)) + v2) (-1) σ2) fun _ σ4 => gd (inB ((9 + (5 * v1)) + v2) 139) (some (σ2.1 118 ((9 + (5 * v1)) + v2).toNatClampNeg, si σ4 118 ((9 + (5 * v1)) + v2).toNatClampNeg v3))) else bd (m_refuseFar_10 6 σ2) fun r6 σ6 => some (r6, σ6) else bd (m_refuseFar_10 4 σ2) fun r8 σ8 => some (r8, σ8)
def m_turn_10 (v1 : Int32) (v2 : Int32) (σ : Sg) : Option (Int32 × Sg) :=
  bd (m_isOne_10 v1 σ) fun r1 σ1 => if r1 = 0 then bd (m_refuse_10 1 σ1) fun r8 σ8 => some (r8, σ8) else bd (m_isIn_s v2.toInt64 0 5 σ1) fun r2 σ2 => if r2 = 0 then bd (m_refuse_10 2 σ2) fun r6 σ6 => some (r6, σ6) else gd (inB (1 + v1) 139) (bd (m_changes_10 (1 + v1) (-1) σ2) fun _ σ4 => gd (inB (1 + v1) 139) (some (σ2.1 118 (1 + v1).toNatClampNeg, si σ4 118 (1 + v1).toNatClampNeg v2)))
def m_swapRows_10_b67 (σ : Sg) : Option (Unit × Sg) :=
  some ((), σ)
def m_swapRows_10_H2 (k2 : Int32 → Int32 → Int32 → Sg → Option (Unit × Sg)) (v1 : Int32) (v2 : Int32) (v3 : Int32) (σ : Sg) : Option (Unit × Sg) :=
  if 9 ≤ v3 then m_swapRows_10_b67 σ else if v1 = v2 then m_swapRows_10_b67 σ else gd (inB ((9 * v1) + v3) 45) (gd (inB ((9 * v2) + v3) 45) (gd (inB ((9 * v1) + v3) 45) (gd (inB ((9 * v2) + v3) 45) (k2 v1 v2 (v3 + 1) (sl (sl σ 123 ((9 * v1) + v3).toNatClampNeg (σ.2 123 ((9 * v2) + v3).toNatClampNeg)) 123 ((9 * v2) + v3).toNatClampNeg (σ.2 123 ((9 * v1) + v3).toNatClampNeg))))))
def m_swapRows_10_L2 : Nat → Int32 → Int32 → Int32 → Sg → Option (Unit × Sg)
  | 0, _, _, _, _ => none
  | n + 1, v1, v2, v3, σ => m_swapRows_10_H2 (m_swapRows_10_L2 n) v1 v2 v3 σ
def m_swapRows_10 (v1 : Int32) (v2 : Int32) (σ : Sg) : Option (Unit × Sg) :=
  m_swapRows_10_L2 fu v1 v2 0 σ
def m_clears_10_b173 (k5 : Int32 → Int32 → Int64 → Int32 → Sg → Option (Int64 × Sg)) (k79 : Int32 → Int32 → Int64 → Int32 → Int64 → Int32 → Sg → Option (Int64 × Sg)) (v1 : Int32) (v2 : Int32) (v3 : Int64) (v5 : Int32) (v7 : Int64) (v9 : Int32) (σ : Sg) : Option (Int64 × Sg) :=
  k79 v1 v2 v3 v5 v7 (v9 + 1) σ
def m_clears_10_H113 (k5 : Int32 → Int32 → Int64 → Int32 → Sg → Option (Int64 × Sg)) (k79 : Int32 → Int32 → Int64 → Int32 → Int64 → Int32 → Sg → Option (Int64 × Sg)) (k113 : Int32 → Int32 → Int64 → Int32 → Int64 → Int32 → Int64 → Int32 → Sg → Option (Int64 × Sg)) (v1 : Int32) (v2 : Int32) (v3 : Int64) (v5 : Int32) (v7 : Int64) (v9 : Int32) (v10 : Int64) (v12 : Int32) (σ : Sg) : Option (Int64 × Sg) :=
  if v2 ≤ v12 then m_clears_10_b173 k5 k79 v1 v2 v3 v5 v7 v9 σ else gd (inB ((9 * v9) + v12) 45) (gd (inB ((9 * v5) + v12) 45) (gd (neBL v3) (gd (inB ((9 * v9) + v12) 45) (k113 v1 v2 v3 v5 v7 v9 v10 (v12 + 1) (sl σ 123 ((9 * v9) + v12).toNatClampNeg ((((σ.2 123 ((9 * v9) + v12).toNatClampNeg) * v7) - (v10 * (σ.2 123 ((9 * v5) + v12).toNatClampNeg))) / v3))))))
def m_clears_10_L113 (k5 : Int32 → Int32 → Int64 → Int32 → Sg → Option (Int64 × Sg)) (k79 : Int32 → Int32 → Int64 → Int32 → Int64 → Int32 → Sg → Option (Int64 × Sg)) : Nat → Int32 → Int32 → Int64 → Int32 → Int64 → Int32 → Int64 → Int32 → Sg → Option (Int64 × Sg)
  | 0, _, _, _, _, _, _, _, _, _ => none
  | n + 1, v1, v2, v3, v5, v7, v9, v10, v12, σ => m_clears_10_H113 k5 k79 (m_clears_10_L113 k5 k79 n) v1 v2 v3 v5 v7 v9 v10 v12 σ
def m_clears_10_H79 (k5 : Int32 → Int32 → Int64 → Int32 → Sg → Option (Int64 × Sg)) (k79 : Int32 → Int32 → Int64 → Int32 → Int64 → Int32 → Sg → Option (Int64 × Sg)) (v1 : Int32) (v2 : Int32) (v3 : Int64) (v5 : Int32) (v7 : Int64) (v9 : Int32) (σ : Sg) : Option (Int64 × Sg) :=
  if 5 ≤ v9 then k5 v1 v2 v7 (v5 + 1) σ else if v9 = v5 then m_clears_10_b173 k5 k79 v1 v2 v3 v5 v7 v9 σ else gd (inB ((9 * v9) + v5) 45) (m_clears_10_L113 k5 k79 fu v1 v2 v3 v5 v7 v9 (σ.2 123 ((9 * v9) + v5).toNatClampNeg) 0 σ)
def m_clears_10_L79 (k5 : Int32 → Int32 → Int64 → Int32 → Sg → Option (Int64 × Sg)) : Nat → Int32 → Int32 → Int64 → Int32 → Int64 → Int32 → Sg → Option (Int64 × Sg)
  | 0, _, _, _, _, _, _, _ => none
  | n + 1, v1, v2, v3, v5, v7, v9, σ => m_clears_10_H79 k5 (m_clears_10_L79 k5 n) v1 v2 v3 v5 v7 v9 σ
def m_clears_10_b45 (k5 : Int32 → Int32 → Int64 → Int32 → Sg → Option (Int64 × Sg)) (v1 : Int32) (v2 : Int32) (v3 : Int64) (v5 : Int32) (v6 : Int32) (σ : Sg) : Option (Int64 × Sg) :=
  if v6 < 5 then bd (m_swapRows_10 v5 v6 σ) fun _ σ1 => gd (inB ((9 * v5) + v5) 45) (m_clears_10_L79 k5 fu v1 v2 v3 v5 (σ1.2 123 ((9 * v5) + v5).toNatClampNeg) 0 σ1) else some (0, σ)
def m_clears_10_H15 (k5 : Int32 → Int32 → Int64 → Int32 → Sg → Option (Int64 × Sg)) (k15 : Int32 → Int32 → Int64 → Int32 → Int32 → Sg → Option (Int64 × Sg)) (v1 : Int32) (v2 : Int32) (v3 : Int64) (v5 : Int32) (v6 : Int32) (σ : Sg) : Option (Int64 × Sg) :=
  if 5 ≤ v6 then m_clears_10_b45 k5 v1 v2 v3 v5 v6 σ else gd (inB ((9 * v6) + v5) 45) (if (lg_cmp (σ.2 123 ((9 * v6) + v5).toNatClampNeg) 0) = 0 then k15 v1 v2 v3 v5 (v6 + 1) σ else m_clears_10_b45 k5 v1 v2 v3 v5 v6 σ)
def m_clears_10_L15 (k5 : Int32 → Int32 → Int64 → Int32 → Sg → Option (Int64 × Sg)) : Nat → Int32 → Int32 → Int64 → Int32 → Int32 → Sg → Option (Int64 × Sg)
  | 0, _, _, _, _, _, _ => none
  | n + 1, v1, v2, v3, v5, v6, σ => m_clears_10_H15 k5 (m_clears_10_L15 k5 n) v1 v2 v3 v5 v6 σ
def m_clears_10_H5 (k5 : Int32 → Int32 → Int64 → Int32 → Sg → Option (Int64 × Sg)) (v1 : Int32) (v2 : Int32) (v3 : Int64) (v5 : Int32) (σ : Sg) : Option (Int64 × Sg) :=
  if v1 ≤ v5 then some (v3, σ) else m_clears_10_L15 k5 fu v1 v2 v3 v5 v5 σ
def m_clears_10_L5 : Nat → Int32 → Int32 → Int64 → Int32 → Sg → Option (Int64 × Sg)
  | 0, _, _, _, _, _ => none
  | n + 1, v1, v2, v3, v5, σ => m_clears_10_H5 (m_clears_10_L5 n) v1 v2 v3 v5 σ
def m_clears_10 (v1 : Int32) (v2 : Int32) (σ : Sg) : Option (Int64 × Sg) :=
  m_clears_10_L5 fu v1 v2 1 0 σ
def m_common_s_H28 (k28 : Int64 → Int64 → Sg → Option (Int64 × Sg)) (v4 : Int64) (v6 : Int64) (σ : Sg) : Option (Int64 × Sg) :=
  if (lg_cmp v6 0) = 0 then some (v4, σ) else gd (neBL v6) (k28 v6 (lrm v4 v6) σ)
def m_common_s_L28 : Nat → Int64 → Int64 → Sg → Option (Int64 × Sg)
  | 0, _, _, _ => none
  | n + 1, v4, v6, σ => m_common_s_H28 (m_common_s_L28 n) v4 v6 σ
def m_common_s_b26 (v4 : Int64) (s0 : Int64) (σ : Sg) : Option (Int64 × Sg) :=
  m_common_s_L28 fu v4 s0 σ
def m_common_s_b12 (v2 : Int64) (s0 : Int64) (σ : Sg) : Option (Int64 × Sg) :=
  if 0 ≤ (lg_cmp v2 0) then m_common_s_b26 s0 v2 σ else m_common_s_b26 s0 (-v2) σ
def m_common_s (v0 : Int64) (v2 : Int64) (σ : Sg) : Option (Int64 × Sg) :=
  if 0 ≤ (lg_cmp v0 0) then m_common_s_b12 v2 v0 σ else m_common_s_b12 v2 (-v0) σ
def m_has_s_b14 (s0 : Int32) (σ : Sg) : Option (Int32 × Sg) :=
  gd (nbB s0) (some (s0, σ))
def m_has_s (v0 : Int32) (v1 : Int32) (σ : Sg) : Option (Int32 × Sg) :=
  if ((v0 >>> (v1 &&& 31)) &&& 1) = 1 then m_has_s_b14 1 σ else m_has_s_b14 0 σ
def m_powerOf_10_b68 (s0 : Int32) (σ : Sg) : Option (Int32 × Sg) :=
  some (s0, σ)
def m_powerOf_10_b81 (s0 : Int32) (σ : Sg) : Option (Int32 × Sg) :=
  some (s0, σ)
def m_powerOf_10_b105 (s0 : Int32) (σ : Sg) : Option (Int32 × Sg) :=
  some (s0, σ)
def m_powerOf_10_b124 (s0 : Int32) (σ : Sg) : Option (Int32 × Sg) :=
  some (s0, σ)
def m_powerOf_10 (v1 : Int32) (v2 : Int32) (σ : Sg) : Option (Int32 × Sg) :=
  gd (inB ((9 + (5 * v1)) + v2) 139) (gd (inB (1 + v1) 139) (if (σ.1 118 (1 + v1).toNatClampNeg) = 1 then if v2 = 2 then m_powerOf_10_b68 ((σ.1 118 ((9 + (5 * v1)) + v2).toNatClampNeg) - 1) σ else m_powerOf_10_b68 (σ.1 118 ((9 + (5 * v1)) + v2).toNatClampNeg) σ else if (σ.1 118 (1 + v1).toNatClampNeg) = 2 then if v2 = 1 then m_powerOf_10_b81 ((σ.1 118 ((9 + (5 * v1)) + v2).toNatClampNeg) - 1) σ else m_powerOf_10_b81 (σ.1 118 ((9 + (5 * v1)) + v2).toNatClampNeg) σ else if (σ.1 118 (1 + v1).toNatClampNeg) = 3 then if v2 = 1 then m_powerOf_10_b105 ((σ.1 118 ((9 + (5 * v1)) + v2).toNatClampNeg) - 2) σ else if v2 = 2 then m_powerOf_10_b105 ((σ.1 118 ((9 + (5 * v1)) + v2).toNatClampNeg) - 1) σ else m_powerOf_10_b105 (σ.1 118 ((9 + (5 * v1)) + v2).toNatClampNeg) σ else if (σ.1 118 (1 + v1).toNatClampNeg) = 4 then some (0, σ) else if (σ.1 118 (1 + v1).toNatClampNeg) = 5 then if v2 = 1 then m_powerOf_10_b124 ((2 * (σ.1 118 ((9 + (5 * v1)) + v2).toNatClampNeg)) - 2) σ else m_powerOf_10_b124 (2 * (σ.1 118 ((9 + (5 * v1)) + v2).toNatClampNeg)) σ else some (σ.1 118 ((9 + (5 * v1)) + v2).toNatClampNeg, σ)))
def m_lays2_10_b112 (v3 : Int32) (σ : Sg) : Option (Int32 × Sg) :=
  some (v3, σ)
def m_lays2_10_H76 (k76 : Int32 → Int32 → Int32 → Sg → Option (Int32 × Sg)) (v2 : Int32) (v3 : Int32) (v4 : Int32) (σ : Sg) : Option (Int32 × Sg) :=
  if 5 ≤ v4 then m_lays2_10_b112 v3 σ else if v2 < 0 then m_lays2_10_b112 v3 σ else bd (m_powerOf_10 v2 v4 σ) fun r1 σ1 => gd (inB ((9 * v4) + v3) 45) (k76 v2 v3 (v4 + 1) (sl σ1 123 ((9 * v4) + v3).toNatClampNeg r1.toInt64))
def m_lays2_10_L76 : Nat → Int32 → Int32 → Int32 → Sg → Option (Int32 × Sg)
  | 0, _, _, _, _ => none
  | n + 1, v2, v3, v4, σ => m_lays2_10_H76 (m_lays2_10_L76 n) v2 v3 v4 σ
def m_lays2_10_b67 (k5 : Int32 → Int32 → Int32 → Int32 → Sg → Option (Int32 × Sg)) (v1 : Int32) (v2 : Int32) (v3 : Int32) (v4 : Int32) (σ : Sg) : Option (Int32 × Sg) :=
  k5 v1 v2 v3 (v4 + 1) σ
def m_lays2_10_H31 (k5 : Int32 → Int32 → Int32 → Int32 → Sg → Option (Int32 × Sg)) (k31 : Int32 → Int32 → Int32 → Int32 → Int32 → Sg → Option (Int32 × Sg)) (v1 : Int32) (v2 : Int32) (v3 : Int32) (v4 : Int32) (v5 : Int32) (σ : Sg) : Option (Int32 × Sg) :=
  if 5 ≤ v5 then m_lays2_10_b67 k5 v1 v2 (v3 + 1) v4 σ else bd (m_powerOf_10 v4 v5 σ) fun r1 σ1 => gd (inB ((9 * v5) + v3) 45) (k31 v1 v2 v3 v4 (v5 + 1) (sl σ1 123 ((9 * v5) + v3).toNatClampNeg r1.toInt64))
def m_lays2_10_L31 (k5 : Int32 → Int32 → Int32 → Int32 → Sg → Option (Int32 × Sg)) : Nat → Int32 → Int32 → Int32 → Int32 → Int32 → Sg → Option (Int32 × Sg)
  | 0, _, _, _, _, _, _ => none
  | n + 1, v1, v2, v3, v4, v5, σ => m_lays2_10_H31 k5 (m_lays2_10_L31 k5 n) v1 v2 v3 v4 v5 σ
def m_lays2_10_H5 (k5 : Int32 → Int32 → Int32 → Int32 → Sg → Option (Int32 × Sg)) (v1 : Int32) (v2 : Int32) (v3 : Int32) (v4 : Int32) (σ : Sg) : Option (Int32 × Sg) :=
  if (σ.1 118 0) ≤ v4 then m_lays2_10_L76 fu v2 v3 0 σ else bd (m_has_s v1 v4 σ) fun r1 σ1 => if r1 = 0 then m_lays2_10_b67 k5 v1 v2 v3 v4 σ1 else m_lays2_10_L31 k5 fu v1 v2 v3 v4 0 σ1
def m_lays2_10_L5 : Nat → Int32 → Int32 → Int32 → Int32 → Sg → Option (Int32 × Sg)
  | 0, _, _, _, _, _ => none
  | n + 1, v1, v2, v3, v4, σ => m_lays2_10_H5 (m_lays2_10_L5 n) v1 v2 v3 v4 σ
def m_lays2_10 (v1 : Int32) (v2 : Int32) (σ : Sg) : Option (Int32 × Sg) :=
  m_lays2_10_L5 fu v1 v2 0 0 σ
def m_isHad_10_b175 (k112 : Int32 → Int32 → Int32 → Int64 → Int64 → Int32 → Int32 → Sg → Option (Int32 × Sg)) (v1 : Int32) (v2 : Int32) (v3 : Int32) (v4 : Int64) (v6 : Int64) (v9 : Int32) (s0 : Int32) (s1 : Int32) (σ : Sg) : Option (Int32 × Sg) :=
  k112 v1 v2 v3 v4 v6 (s0 + s1) (v9 + 1) σ
def m_isHad_10_b158 (k112 : Int32 → Int32 → Int32 → Int64 → Int64 → Int32 → Int32 → Sg → Option (Int32 × Sg)) (v1 : Int32) (v2 : Int32) (v3 : Int32) (v4 : Int64) (v6 : Int64) (v8 : Int32) (v9 : Int32) (s1 : Int32) (s2 : Int64) (σ : Sg) : Option (Int32 × Sg) :=
  gd (inB s1 8) (bd (m_has_s v1 v9 (sl σ 124 s1.toNatClampNeg s2)) fun r2 σ2 => if r2 = 0 then m_isHad_10_b175 k112 v1 v2 v3 v4 v6 v9 v8 0 σ2 else m_isHad_10_b175 k112 v1 v2 v3 v4 v6 v9 v8 1 σ2)
def m_isHad_10_H112 (k112 : Int32 → Int32 → Int32 → Int64 → Int64 → Int32 → Int32 → Sg → Option (Int32 × Sg)) (v1 : Int32) (v2 : Int32) (v3 : Int32) (v4 : Int64) (v6 : Int64) (v8 : Int32) (v9 : Int32) (σ : Sg) : Option (Int32 × Sg) :=
  if (σ.1 118 0) ≤ v9 then gd (neBL v6) (gd (inB v2 8) (some (1, sl σ 124 v2.toNatClampNeg (v4 / v6)))) else bd (m_has_s v1 v9 σ) fun r3 σ3 => if r3 = 0 then m_isHad_10_b158 k112 v1 v2 v3 v4 v6 v8 v9 v9 0 σ3 else gd (inB ((9 * v8) + v3) 45) (gd (neBL v6) (m_isHad_10_b158 k112 v1 v2 v3 v4 v6 v8 v9 v9 ((-(σ3.2 123 ((9 * v8) + v3).toNatClampNeg)) / v6) σ3))
def m_isHad_10_L112 : Nat → Int32 → Int32 → Int32 → Int64 → Int64 → Int32 → Int32 → Sg → Option (Int32 × Sg)
  | 0, _, _, _, _, _, _, _, _ => none
  | n + 1, v1, v2, v3, v4, v6, v8, v9, σ => m_isHad_10_H112 (m_isHad_10_L112 n) v1 v2 v3 v4 v6 v8 v9 σ
def m_isHad_10_b104 (v1 : Int32) (v2 : Int32) (v3 : Int32) (v4 : Int64) (s0 : Int64) (σ : Sg) : Option (Int32 × Sg) :=
  m_isHad_10_L112 fu v1 v2 v3 v4 s0 0 0 σ
def m_isHad_10_H58 (k58 : Int32 → Int32 → Int32 → Int64 → Int64 → Int32 → Sg → Option (Int32 × Sg)) (v1 : Int32) (v2 : Int32) (v3 : Int32) (v4 : Int64) (v6 : Int64) (v8 : Int32) (σ : Sg) : Option (Int32 × Sg) :=
  if v3 ≤ v8 then if 0 ≤ (lg_cmp v4 0) then m_isHad_10_b104 v1 v2 v3 v4 v6 σ else m_isHad_10_b104 v1 v2 v3 v4 (-v6) σ else gd (inB ((9 * v8) + v3) 45) (bd (m_common_s v6 (σ.2 123 ((9 * v8) + v3).toNatClampNeg) σ) fun r3 σ3 => k58 v1 v2 v3 v4 r3 (v8 + 1) σ3)
def m_isHad_10_L58 : Nat → Int32 → Int32 → Int32 → Int64 → Int64 → Int32 → Sg → Option (Int32 × Sg)
  | 0, _, _, _, _, _, _, _ => none
  | n + 1, v1, v2, v3, v4, v6, v8, σ => m_isHad_10_H58 (m_isHad_10_L58 n) v1 v2 v3 v4 v6 v8 σ
def m_isHad_10_H20 (k20 : Int32 → Int32 → Int32 → Int64 → Int32 → Sg → Option (Int32 × Sg)) (v1 : Int32) (v2 : Int32) (v3 : Int32) (v4 : Int64) (v6 : Int32) (σ : Sg) : Option (Int32 × Sg) :=
  if 5 ≤ v6 then m_isHad_10_L58 fu v1 v2 v3 v4 v4 0 σ else gd (inB ((9 * v6) + v3) 45) (if (lg_cmp (σ.2 123 ((9 * v6) + v3).toNatClampNeg) 0) = 0 then k20 v1 v2 v3 v4 (v6 + 1) σ else some (0, σ))
def m_isHad_10_L20 : Nat → Int32 → Int32 → Int32 → Int64 → Int32 → Sg → Option (Int32 × Sg)
  | 0, _, _, _, _, _, _ => none
  | n + 1, v1, v2, v3, v4, v6, σ => m_isHad_10_H20 (m_isHad_10_L20 n) v1 v2 v3 v4 v6 σ
def m_isHad_10 (v1 : Int32) (v2 : Int32) (σ : Sg) : Option (Int32 × Sg) :=
  bd (m_lays2_10 v1 v2 σ) fun r1 σ1 => bd (m_clears_10 r1 (r1 + 1) σ1) fun r2 σ2 => m_isHad_10_L20 fu v1 v2 r1 r2 r1 σ2
def m_firm_10_b31 (k4 : Int32 → Int32 → Sg → Option (Int32 × Sg)) (v2 : Int32) (s0 : Int32) (s1 : Int32) (σ : Sg) : Option (Int32 × Sg) :=
  k4 (s0 ||| s1) (v2 + 1) σ
def m_firm_10_H4 (k4 : Int32 → Int32 → Sg → Option (Int32 × Sg)) (v1 : Int32) (v2 : Int32) (σ : Sg) : Option (Int32 × Sg) :=
  if (σ.1 118 0) ≤ v2 then some (v1, σ) else bd (m_isHad_10 v1 v2 σ) fun r1 σ1 => if r1 = 0 then m_firm_10_b31 k4 v2 v1 ((1 : Int32) <<< (v2 &&& 31)) σ1 else m_firm_10_b31 k4 v2 v1 0 σ1
def m_firm_10_L4 : Nat → Int32 → Int32 → Sg → Option (Int32 × Sg)
  | 0, _, _, _ => none
  | n + 1, v1, v2, σ => m_firm_10_H4 (m_firm_10_L4 n) v1 v2 σ
def m_firm_10 (σ : Sg) : Option (Int32 × Sg) :=
  m_firm_10_L4 fu 0 0 σ
def m_isPure_10_b24 (k4 : Int32 → Int32 → Int32 → Sg → Option (Int32 × Sg)) (v1 : Int32) (v3 : Int32) (s0 : Int32) (s1 : Int32) (σ : Sg) : Option (Int32 × Sg) :=
  k4 v1 (s0 &&& s1) (v3 + 1) σ
def m_isPure_10_H4 (k4 : Int32 → Int32 → Int32 → Sg → Option (Int32 × Sg)) (v1 : Int32) (v2 : Int32) (v3 : Int32) (σ : Sg) : Option (Int32 × Sg) :=
  if 5 ≤ v3 then gd (nbB v2) (some (v2, σ)) else bd (m_powerOf_10 v1 v3 σ) fun r1 σ1 => if r1 = 0 then m_isPure_10_b24 k4 v1 v3 v2 1 σ1 else m_isPure_10_b24 k4 v1 v3 v2 0 σ1
def m_isPure_10_L4 : Nat → Int32 → Int32 → Int32 → Sg → Option (Int32 × Sg)
  | 0, _, _, _, _ => none
  | n + 1, v1, v2, v3, σ => m_isPure_10_H4 (m_isPure_10_L4 n) v1 v2 v3 σ
def m_isPure_10 (v1 : Int32) (σ : Sg) : Option (Int32 × Sg) :=
  m_isPure_10_L4 fu v1 1 0 σ
def m_of_10_b130 (s0 : Int32) (σ : Sg) : Option (Int32 × Sg) :=
  some (s0, σ)
def m_of_10_b67 (s0 : Int32) (σ : Sg) : Option (Int32 × Sg) :=
  some (s0, σ)
def m_of_10_b48 (s0 : Int32) (σ : Sg) : Option (Int32 × Sg) :=
  some (s0, σ)
def m_of_10 (v1 : Int32) (v2 : Int32) (σ : Sg) : Option (Int32 × Sg) :=
  bd (m_isOne_10 v1 σ) fun r1 σ1 => if r1 = 0 then bd (m_refuseFar_10 1 σ1) fun r18 σ18 => some (r18, σ18) else if v2 = 0 then gd (inB (1 + v1) 139) (some (σ1.1 118 (1 + v1).toNatClampNeg, σ1)) else if v2 = 1 then bd (m_firm_10 σ1) fun r12 σ12 => bd (m_has_s r12 v1 σ12) fun r13 σ13 => if r13 = 0 then m_of_10_b48 1 σ13 else m_of_10_b48 0 σ13 else if v2 = 2 then bd (m_isPure_10 v1 σ1) fun r9 σ9 => if r9 = 0 then m_of_10_b67 0 σ9 else m_of_10_b67 1 σ9 else bd (m_isIn_s v2.toInt64 10 14 σ1) fun r2 σ2 => if r2 = 0 then bd (m_isIn_s v2.toInt64 20 24 σ2) fun r3 σ3 => if r3 = 0 then bd (m_refuseFar_10 2 σ3) fun r4 σ4 => m_of_10_b130 r4 σ4 else bd (m_powerOf_10 v1 (v2 - 20) σ3) fun r5 σ5 => m_of_10_b130 r5 σ5 else gd (inB (((9 + (5 * v1)) + v2) - 10) 139) (some (σ2.1 118 (((9 + (5 * v1)) + v2) - 10).toNatClampNeg, σ2))
def m_isLike_10_b34 (k5 : Int32 → Int32 → Int32 → Int32 → Sg → Option (Int32 × Sg)) (v1 : Int32) (v2 : Int32) (v4 : Int32) (s0 : Int32) (s1 : Int32) (σ : Sg) : Option (Int32 × Sg) :=
  k5 v1 v2 (s0 &&& s1) (v4 + 1) σ
def m_isLike_10_H5 (k5 : Int32 → Int32 → Int32 → Int32 → Sg → Option (Int32 × Sg)) (v1 : Int32) (v2 : Int32) (v3 : Int32) (v4 : Int32) (σ : Sg) : Option (Int32 × Sg) :=
  if 5 ≤ v4 then gd (nbB v3) (some (v3, σ)) else bd (m_powerOf_10 v1 v4 σ) fun r1 σ1 => bd (m_powerOf_10 v2 v4 σ1) fun r2 σ2 => if r1 = r2 then m_isLike_10_b34 k5 v1 v2 v4 v3 1 σ2 else m_isLike_10_b34 k5 v1 v2 v4 v3 0 σ2
def m_isLike_10_L5 : Nat → Int32 → Int32 → Int32 → Int32 → Sg → Option (Int32 × Sg)
  | 0, _, _, _, _, _ => none
  | n + 1, v1, v2, v3, v4, σ => m_isLike_10_H5 (m_isLike_10_L5 n) v1 v2 v3 v4 σ
def m_isLike_10 (v1 : Int32) (v2 : Int32) (σ : Sg) : Option (Int32 × Sg) :=
  m_isLike_10_L5 fu v1 v2 1 0 σ
def m_twinOf_10_b28 (k2 : Int32 → Int32 → Sg → Option (Int32 × Sg)) (v1 : Int32) (v2 : Int32) (σ : Sg) : Option (Int32 × Sg) :=
  k2 v1 (v2 + 1) σ
def m_twinOf_10_H2 (k2 : Int32 → Int32 → Sg → Option (Int32 × Sg)) (v1 : Int32) (v2 : Int32) (σ : Sg) : Option (Int32 × Sg) :=
  if (σ.1 118 0) ≤ v2 then some ((-9), σ) else if v2 = v1 then m_twinOf_10_b28 k2 v1 v2 σ else bd (m_isLike_10 v2 v1 σ) fun r1 σ1 => if r1 = 0 then m_twinOf_10_b28 k2 v1 v2 σ1 else some (v2, σ1)
def m_twinOf_10_L2 : Nat → Int32 → Int32 → Sg → Option (Int32 × Sg)
  | 0, _, _, _ => none
  | n + 1, v1, v2, σ => m_twinOf_10_H2 (m_twinOf_10_L2 n) v1 v2 σ
def m_twinOf_10 (v1 : Int32) (σ : Sg) : Option (Int32 × Sg) :=
  m_twinOf_10_L2 fu v1 0 σ
def m_twin_10_b21 (s0 : Int32) (σ : Sg) : Option (Int32 × Sg) :=
  some (s0, σ)
def m_twin_10 (v1 : Int32) (σ : Sg) : Option (Int32 × Sg) :=
  bd (m_isOne_10 v1 σ) fun r1 σ1 => if r1 = 0 then bd (m_refuse_10 1 σ1) fun r2 σ2 => m_twin_10_b21 r2 σ2 else bd (m_twinOf_10 v1 σ1) fun r3 σ3 => m_twin_10_b21 r3 σ3
def m_isUnder_s_b34 (s0 : Int32) (σ : Sg) : Option (Int32 × Sg) :=
  gd (nbB s0) (some (s0, σ))
def m_isUnder_s_b29 (σ : Sg) : Option (Int32 × Sg) :=
  m_isUnder_s_b34 1 σ
def m_isUnder_s_b33 (σ : Sg) : Option (Int32 × Sg) :=
  m_isUnder_s_b34 0 σ
def m_isUnder_s_b19 (v0 : Int32) (v1 : Int32) (σ : Sg) : Option (Int32 × Sg) :=
  if v0 = 5 then if v1 = 2 then m_isUnder_s_b29 σ else m_isUnder_s_b33 σ else m_isUnder_s_b33 σ
def m_isUnder_s (v0 : Int32) (v1 : Int32) (σ : Sg) : Option (Int32 × Sg) :=
  if v1 = 0 then m_isUnder_s_b29 σ else if v0 = v1 then m_isUnder_s_b29 σ else if v0 = 3 then if v1 = 1 then m_isUnder_s_b29 σ else m_isUnder_s_b19 v0 v1 σ else m_isUnder_s_b19 v0 v1 σ
def m_taken_10_b64 (s0 : Int32) (σ : Sg) : Option (Int32 × Sg) :=
  some (s0, σ)
def m_taken_10 (v1 : Int32) (v2 : Int32) (σ : Sg) : Option (Int32 × Sg) :=
  bd (m_isOne_10 v1 σ) fun r1 σ1 => if r1 = 0 then bd (m_refuse_10 1 σ1) fun r10 σ10 => some (r10, σ10) else bd (m_isIn_s v2.toInt64 0 5 σ1) fun r2 σ2 => if r2 = 0 then bd (m_refuse_10 2 σ2) fun r8 σ8 => some (r8, σ8) else gd (inB (1 + v1) 139) (bd (m_isUnder_s (σ2.1 118 (1 + v1).toNatClampNeg) v2 σ2) fun r4 σ4 => if r4 = 0 then bd (m_refuse_10 16 σ4) fun r5 σ5 => m_taken_10_b64 r5 σ5 else gd (inB (1 + v1) 139) (m_taken_10_b64 (σ4.1 118 (1 + v1).toNatClampNeg) σ4))
def m_bits_s_H4 (k4 : Int32 → Int32 → Sg → Option (Int32 × Sg)) (v1 : Int32) (v2 : Int32) (σ : Sg) : Option (Int32 × Sg) :=
  if v2 = 0 then some (v1, σ) else k4 (v1 + 1) (v2 &&& (v2 - 1)) σ
def m_bits_s_L4 : Nat → Int32 → Int32 → Sg → Option (Int32 × Sg)
  | 0, _, _, _ => none
  | n + 1, v1, v2, σ => m_bits_s_H4 (m_bits_s_L4 n) v1 v2 σ
def m_bits_s (v0 : Int32) (σ : Sg) : Option (Int32 × Sg) :=
  m_bits_s_L4 fu 0 v0 σ
def m_different_10_b37 (k4 : Int32 → Int32 → Sg → Option (Int32 × Sg)) (v2 : Int32) (s0 : Int32) (s1 : Int32) (σ : Sg) : Option (Int32 × Sg) :=
  k4 (s0 + s1) (v2 + 1) σ
def m_different_10_b32 (k4 : Int32 → Int32 → Sg → Option (Int32 × Sg)) (v2 : Int32) (s0 : Int32) (σ : Sg) : Option (Int32 × Sg) :=
  m_different_10_b37 k4 v2 s0 1 σ
def m_different_10_H4 (k4 : Int32 → Int32 → Sg → Option (Int32 × Sg)) (v1 : Int32) (v2 : Int32) (σ : Sg) : Option (Int32 × Sg) :=
  if (σ.1 118 0) ≤ v2 then some (v1, σ) else bd (m_twinOf_10 v2 σ) fun r1 σ1 => if r1 = (-9) then m_different_10_b32 k4 v2 v1 σ1 else if r1 ≤ v2 then m_different_10_b37 k4 v2 v1 0 σ1 else m_different_10_b32 k4 v2 v1 σ1
def m_different_10_L4 : Nat → Int32 → Int32 → Sg → Option (Int32 × Sg)
  | 0, _, _, _ => none
  | n + 1, v1, v2, σ => m_different_10_H4 (m_different_10_L4 n) v1 v2 σ
def m_different_10 (σ : Sg) : Option (Int32 × Sg) :=
  m_different_10_L4 fu 0 0 σ
def m_loose_10 (σ : Sg) : Option (Int32 × Sg) :=
  bd (m_firm_10 σ) fun r1 σ1 => some ((((1 : Int32) <<< ((σ.1 118 0) &&& 31)) - 1) &&& (r1 ^^^ (-1)), σ1)
def m_rank_10 (v1 : Int32) (σ : Sg) : Option (Int32 × Sg) :=
  if v1 = 0 then bd (m_firm_10 σ) fun r2 σ2 => bd (m_bits_s r2 σ2) fun r3 σ3 => some (r3, σ3) else if v1 = 1 then bd (m_loose_10 σ) fun r5 σ5 => bd (m_bits_s r5 σ5) fun r6 σ6 => some (r6, σ6) else if v1 = 2 then bd (m_loose_10 σ) fun r8 σ8 => some (r8, σ8) else if v1 = 3 then bd (m_different_10 σ) fun r10 σ10 => some (r10, σ10) else bd (m_refuse_10 2 σ) fun r11 σ11 => some (r11, σ11)
def m_groups_10 (v1 : Int32) (σ : Sg) : Option (Unit × Sg) :=
  bd (m_firm_10 σ) fun r1 σ1 => bd (m_isHad_10 (r1 &&& (((1 : Int32) <<< (v1 &&& 31)) - 1)) v1 σ1) fun r2 σ2 => some ((), σ2)
def m_ownOf_10_b50 (σ : Sg) : Option (Int32 × Sg) :=
  some ((-1), σ)
def m_ownOf_10_b44 (k10 : Int32 → Int32 → Int32 → Int32 → Sg → Option (Int32 × Sg)) (v1 : Int32) (v2 : Int32) (v3 : Int32) (v4 : Int32) (σ : Sg) : Option (Int32 × Sg) :=
  k10 v1 v2 v3 (v4 + 1) σ
def m_ownOf_10_H10 (k10 : Int32 → Int32 → Int32 → Int32 → Sg → Option (Int32 × Sg)) (v1 : Int32) (v2 : Int32) (v3 : Int32) (v4 : Int32) (σ : Sg) : Option (Int32 × Sg) :=
  if (σ.1 118 0) ≤ v4 then m_ownOf_10_b50 σ else if v1 < 0 then m_ownOf_10_b50 σ else bd (m_has_s v3 v4 σ) fun r1 σ1 => if r1 = 0 then m_ownOf_10_b44 k10 v1 v2 v3 v4 σ1 else if v2 = 0 then some (v4, σ1) else m_ownOf_10_b44 k10 v1 (v2 + (-1)) v3 v4 σ1
def m_ownOf_10_L10 : Nat → Int32 → Int32 → Int32 → Int32 → Sg → Option (Int32 × Sg)
  | 0, _, _, _, _, _ => none
  | n + 1, v1, v2, v3, v4, σ => m_ownOf_10_H10 (m_ownOf_10_L10 n) v1 v2 v3 v4 σ
def m_ownOf_10 (v1 : Int32) (σ : Sg) : Option (Int32 × Sg) :=
  bd (m_loose_10 σ) fun r1 σ1 => m_ownOf_10_L10 fu v1 v1 r1 0 σ1
def m_group_10_b18 (σ : Sg) : Option (Int32 × Sg) :=
  bd (m_refuseFar_10 1 σ) fun r1 σ1 => some (r1, σ1)
def m_group_10 (v1 : Int32) (v2 : Int32) (σ : Sg) : Option (Int32 × Sg) :=
  bd (m_ownOf_10 v1 σ) fun r1 σ1 => if r1 < 0 then m_group_10_b18 σ1 else bd (m_isOne_10 v2 σ1) fun r2 σ2 => if r2 = 0 then m_group_10_b18 σ2 else bd (m_groups_10 r1 σ2) fun _ σ3 => gd (inB v2 8) (some ((σ3.2 124 v2.toNatClampNeg).toInt32, σ3))
def m_isList_s (v0 : Int32) (σ : Sg) : Option (Int32 × Sg) :=
  bd (m_isIn_s v0.toInt64 0 2 σ) fun r1 σ1 => gd (nbB r1) (some (r1, σ1))
def m_isToldPure_10_b59 (k4 : Int32 → Int32 → Sg → Option (Int32 × Sg)) (v2 : Int32) (s0 : Int32) (s1 : Int32) (σ : Sg) : Option (Int32 × Sg) :=
  k4 (s0 &&& s1) (v2 + 1) σ
def m_isToldPure_10_H14 (k4 : Int32 → Int32 → Sg → Option (Int32 × Sg)) (k14 : Int32 → Int32 → Int32 → Int32 → Sg → Option (Int32 × Sg)) (v1 : Int32) (v2 : Int32) (v3 : Int32) (v4 : Int32) (σ : Sg) : Option (Int32 × Sg) :=
  if (σ.1 118 0) ≤ v4 then if v3 = 0 then m_isToldPure_10_b59 k4 v2 v1 1 σ else m_isToldPure_10_b59 k4 v2 v1 0 σ else gd (inB v4 8) (bd (m_powerOf_10 v4 v2 σ) fun r3 σ3 => k14 v1 v2 (v3 + ((σ.1 128 v4.toNatClampNeg) * r3)) (v4 + 1) σ3)
def m_isToldPure_10_L14 (k4 : Int32 → Int32 → Sg → Option (Int32 × Sg)) : Nat → Int32 → Int32 → Int32 → Int32 → Sg → Option (Int32 × Sg)
  | 0, _, _, _, _, _ => none
  | n + 1, v1, v2, v3, v4, σ => m_isToldPure_10_H14 k4 (m_isToldPure_10_L14 k4 n) v1 v2 v3 v4 σ
def m_isToldPure_10_H4 (k4 : Int32 → Int32 → Sg → Option (Int32 × Sg)) (v1 : Int32) (v2 : Int32) (σ : Sg) : Option (Int32 × Sg) :=
  if 5 ≤ v2 then gd (nbB v1) (some (v1, σ)) else m_isToldPure_10_L14 k4 fu v1 v2 0 0 σ
def m_isToldPure_10_L4 : Nat → Int32 → Int32 → Sg → Option (Int32 × Sg)
  | 0, _, _, _ => none
  | n + 1, v1, v2, σ => m_isToldPure_10_H4 (m_isToldPure_10_L4 n) v1 v2 σ
def m_isToldPure_10 (σ : Sg) : Option (Int32 × Sg) :=
  m_isToldPure_10_L4 fu 1 0 σ
def m_tells_10_b44 (k5 : Int32 → Int32 → Int32 → Int32 → Sg → Option (Int32 × Sg)) (v1 : Int32) (v2 : Int32) (v3 : Int32) (v4 : Int32) (s1 : Int32) (s2 : Int32) (σ : Sg) : Option (Int32 × Sg) :=
  gd (inB s1 8) (gd (inB v4 8) (bd (m_isIn_s (((si σ 128 s1.toNatClampNeg s2).1 128 v4.toNatClampNeg).toInt64) (-99) 99 (si σ 128 s1.toNatClampNeg s2)) fun r3 σ3 => k5 v1 v2 (v3 &&& r3) (v4 + 1) σ3))
def m_tells_10_H5 (k5 : Int32 → Int32 → Int32 → Int32 → Sg → Option (Int32 × Sg)) (v1 : Int32) (v2 : Int32) (v3 : Int32) (v4 : Int32) (σ : Sg) : Option (Int32 × Sg) :=
  if v2 ≤ v4 then gd (nbB v3) (some (v3, σ)) else gd (inB v1 3) (if (σ.1 126 v1.toNatClampNeg) ≤ v4 then m_tells_10_b44 k5 v1 v2 v3 v4 v4 0 σ else gd (inB ((40 * v1) + v4) 120) (m_tells_10_b44 k5 v1 v2 v3 v4 v4 (σ.1 127 ((40 * v1) + v4).toNatClampNeg) σ))
def m_tells_10_L5 : Nat → Int32 → Int32 → Int32 → Int32 → Sg → Option (Int32 × Sg)
  | 0, _, _, _, _, _ => none
  | n + 1, v1, v2, v3, v4, σ => m_tells_10_H5 (m_tells_10_L5 n) v1 v2 v3 v4 σ
def m_tells_10 (v1 : Int32) (v2 : Int32) (σ : Sg) : Option (Int32 × Sg) :=
  m_tells_10_L5 fu v1 v2 1 0 σ
def m_pure_10_b61 (s0 : Int32) (σ : Sg) : Option (Int32 × Sg) :=
  some (s0, σ)
def m_pure_10 (v1 : Int32) (σ : Sg) : Option (Int32 × Sg) :=
  bd (m_isList_s v1 σ) fun r1 σ1 => if r1 = 0 then bd (m_refuse_10 1 σ1) fun r10 σ10 => some (r10, σ10) else gd (inB v1 3) (if 0 ≤ (σ1.1 126 v1.toNatClampNeg) then bd (m_tells_10 v1 (σ1.1 118 0) σ1) fun r3 σ3 => if r3 = 0 then bd (m_refuse_10 3 σ3) fun r6 σ6 => some (r6, σ6) else bd (m_isToldPure_10 σ3) fun r4 σ4 => if r4 = 0 then m_pure_10_b61 0 σ4 else m_pure_10_b61 1 σ4 else bd (m_refuse_10 11 σ1) fun r8 σ8 => some (r8, σ8))
def m_partOf_s_b48 (s0 : Int64) (σ : Sg) : Option (Int64 × Sg) :=
  some (s0, σ)
def m_partOf_s_b30 (v0 : Int64) (v2 : Int64) (v4 : Int32) (s0 : Int64) (σ : Sg) : Option (Int64 × Sg) :=
  if v4 = 0 then gd (neBL s0) (m_partOf_s_b48 (v0 / s0) σ) else gd (neBL s0) (m_partOf_s_b48 (v2 / s0) σ)
def m_partOf_s (v0 : Int64) (v2 : Int64) (v4 : Int32) (σ : Sg) : Option (Int64 × Sg) :=
  if (lg_cmp v0 0) = 0 then some (v4.toInt64, σ) else if 0 ≤ (lg_cmp v2 0) then bd (m_common_s v0 v2 σ) fun r1 σ1 => m_partOf_s_b30 v0 v2 v4 r1 σ1 else bd (m_common_s v0 v2 σ) fun r2 σ2 => m_partOf_s_b30 v0 v2 v4 (-r2) σ2
def m_refuseFarther_10 (v1 : Int32) (σ : Sg) : Option (Int64 × Sg) :=
  bd (m_refuse_10 v1 σ) fun r1 σ1 => some (4000000000000000000 - r1.toInt64, σ1)
def m_cover_10_b77 (v3 : Int32) (v4 : Int32) (s0 : Int32) (σ : Sg) : Option (Int64 × Sg) :=
  if s0 = 0 then bd (m_groups_10 v4 σ) fun _ σ1 => gd (inB v4 8) (gd (inB v4 8) (bd (m_partOf_s ((σ1.1 128 v4.toNatClampNeg).toInt64) (σ1.2 124 v4.toNatClampNeg) v3 σ1) fun r4 σ4 => some (r4, σ4))) else bd (m_refuseFarther_10 s0 σ) fun r5 σ5 => some (r5, σ5)
def m_cover_10_b19 (v3 : Int32) (v4 : Int32) (σ : Sg) : Option (Int64 × Sg) :=
  m_cover_10_b77 v3 v4 1 σ
def m_cover_10_b72 (v3 : Int32) (v4 : Int32) (σ : Sg) : Option (Int64 × Sg) :=
  m_cover_10_b77 v3 v4 3 σ
def m_cover_10 (v1 : Int32) (v2 : Int32) (v3 : Int32) (σ : Sg) : Option (Int64 × Sg) :=
  bd (m_ownOf_10 v2 σ) fun r1 σ1 => bd (m_isList_s v1 σ1) fun r2 σ2 => if r2 = 0 then m_cover_10_b19 v3 r1 σ2 else if 0 ≤ r1 then bd (m_isIn_s v3.toInt64 0 1 σ2) fun r3 σ3 => if r3 = 0 then m_cover_10_b77 v3 r1 2 σ3 else gd (inB v1 3) (if 0 ≤ (σ3.1 126 v1.toNatClampNeg) then bd (m_tells_10 v1 (σ3.1 118 0) σ3) fun r5 σ5 => if r5 = 0 then m_cover_10_b72 v3 r1 σ5 else bd (m_isToldPure_10 σ5) fun r6 σ6 => if r6 = 0 then m_cover_10_b72 v3 r1 σ6 else m_cover_10_b77 v3 r1 0 σ6 else m_cover_10_b77 v3 r1 11 σ3) else m_cover_10_b19 v3 r1 σ2
def m_box_10_b108 (k29 : Int32 → Int32 → Sg → Option (Int32 × Sg)) (v1 : Int32) (v2 : Int32) (σ : Sg) : Option (Int32 × Sg) :=
  k29 v1 v2 σ
def m_box_10_b93 (k29 : Int32 → Int32 → Sg → Option (Int32 × Sg)) (v1 : Int32) (v3 : Int32) (s0 : Int32) (σ : Sg) : Option (Int32 × Sg) :=
  if s0 = 0 then m_box_10_b108 k29 v1 s0 σ else gd (inB v3 8) (gd (inB v3 8) (m_box_10_b108 k29 v1 s0 (si σ 128 v3.toNatClampNeg ((σ.1 128 v3.toNatClampNeg) + 1))))
def m_box_10_b84 (k29 : Int32 → Int32 → Sg → Option (Int32 × Sg)) (v1 : Int32) (v3 : Int32) (σ : Sg) : Option (Int32 × Sg) :=
  if v3 < 0 then m_box_10_b93 k29 v1 v3 0 σ else m_box_10_b93 k29 v1 v3 1 σ
def m_box_10_H57 (k29 : Int32 → Int32 → Sg → Option (Int32 × Sg)) (k57 : Int32 → Int32 → Sg → Option (Int32 × Sg)) (v1 : Int32) (v3 : Int32) (σ : Sg) : Option (Int32 × Sg) :=
  if v3 < 0 then m_box_10_b84 k29 v1 v3 σ else gd (inB v3 8) (if (σ.1 128 v3.toNatClampNeg) = 1 then gd (inB v3 8) (k57 v1 (v3 + (-1)) (si σ 128 v3.toNatClampNeg (-1))) else m_box_10_b84 k29 v1 v3 σ)
def m_box_10_L57 (k29 : Int32 → Int32 → Sg → Option (Int32 × Sg)) : Nat → Int32 → Int32 → Sg → Option (Int32 × Sg)
  | 0, _, _, _ => none
  | n + 1, v1, v3, σ => m_box_10_H57 k29 (m_box_10_L57 k29 n) v1 v3 σ
def m_box_10_b46 (k29 : Int32 → Int32 → Sg → Option (Int32 × Sg)) (s0 : Int32) (s1 : Int32) (σ : Sg) : Option (Int32 × Sg) :=
  m_box_10_L57 k29 fu (s0 + s1) ((σ.1 118 0) - 1) σ
def m_box_10_H29 (k29 : Int32 → Int32 → Sg → Option (Int32 × Sg)) (v1 : Int32) (v2 : Int32) (σ : Sg) : Option (Int32 × Sg) :=
  if v2 = 0 then some (v1, σ) else bd (m_isToldPure_10 σ) fun r1 σ1 => if r1 = 0 then m_box_10_b46 k29 v1 0 σ1 else m_box_10_b46 k29 v1 1 σ1
def m_box_10_L29 : Nat → Int32 → Int32 → Sg → Option (Int32 × Sg)
  | 0, _, _, _ => none
  | n + 1, v1, v2, σ => m_box_10_H29 (m_box_10_L29 n) v1 v2 σ
def m_box_10_H2 (k2 : Int32 → Sg → Option (Int32 × Sg)) (v1 : Int32) (σ : Sg) : Option (Int32 × Sg) :=
  if (σ.1 118 0) ≤ v1 then m_box_10_L29 fu 0 1 σ else gd (inB v1 8) (k2 (v1 + 1) (si σ 128 v1.toNatClampNeg (-1)))
def m_box_10_L2 : Nat → Int32 → Sg → Option (Int32 × Sg)
  | 0, _, _ => none
  | n + 1, v1, σ => m_box_10_H2 (m_box_10_L2 n) v1 σ
def m_box_10 (σ : Sg) : Option (Int32 × Sg) :=
  m_box_10_L2 fu 0 σ
def m_isLeast_10_b57 (rs : Int32 → Int32 → Sg → Option (Int32 × Sg)) (k30 : Int32 → Int32 → Int32 → Sg → Option (Int32 × Sg)) (v1 : Int32) (v2 : Int32) (v3 : Int32) (s1 : Int32) (s2 : Int32) (s3 : Int32) (σ : Sg) : Option (Int32 × Sg) :=
  bd (rs s1 (s2 - s3) σ) fun r1 σ1 => if r1 = 0 then k30 v1 v2 (v3 + 1) σ1 else some (1, σ1)
def m_isLeast_10_H30 (rs : Int32 → Int32 → Sg → Option (Int32 × Sg)) (k30 : Int32 → Int32 → Int32 → Sg → Option (Int32 × Sg)) (v1 : Int32) (v2 : Int32) (v3 : Int32) (σ : Sg) : Option (Int32 × Sg) :=
  if v2 < v3 then some (0, σ) else gd (inB v1 8) (if 0 ≤ v3 then m_isLeast_10_b57 rs k30 v1 v2 v3 (v1 + 1) v2 v3 (si σ 128 v1.toNatClampNeg v3) else m_isLeast_10_b57 rs k30 v1 v2 v3 (v1 + 1) v2 (-v3) (si σ 128 v1.toNatClampNeg v3))
def m_isLeast_10_L30 (rs : Int32 → Int32 → Sg → Option (Int32 × Sg)) : Nat → Int32 → Int32 → Int32 → Sg → Option (Int32 × Sg)
  | 0, _, _, _, _ => none
  | n + 1, v1, v2, v3, σ => m_isLeast_10_H30 rs (m_isLeast_10_L30 rs n) v1 v2 v3 σ
def m_isLeast_10_b26 (rs : Int32 → Int32 → Sg → Option (Int32 × Sg)) (s0 : Int32) (σ : Sg) : Option (Int32 × Sg) :=
  gd (nbB s0) (some (s0, σ))
def m_isLeast_10_b25 (rs : Int32 → Int32 → Sg → Option (Int32 × Sg)) (σ : Sg) : Option (Int32 × Sg) :=
  m_isLeast_10_b26 rs 0 σ
def m_isLeast_10_H (rs : Int32 → Int32 → Sg → Option (Int32 × Sg)) (v1 : Int32) (v2 : Int32) (σ : Sg) : Option (Int32 × Sg) :=
  if v1 = (σ.1 118 0) then if v2 = 0 then bd (m_isToldPure_10 σ) fun r1 σ1 => if r1 = 0 then m_isLeast_10_b25 rs σ1 else m_isLeast_10_b26 rs 1 σ1 else m_isLeast_10_b25 rs σ else m_isLeast_10_L30 rs fu v1 v2 (-v2) σ
def m_isLeast_10 : Nat → Int32 → Int32 → Sg → Option (Int32 × Sg)
  | 0, _, _, _ => none
  | n + 1, v1, v2, σ => m_isLeast_10_H (m_isLeast_10 n) v1 v2 σ
def m_least_10_b50 (s0 : Int32) (σ : Sg) : Option (Int32 × Sg) :=
  some (s0, σ)
def m_least_10_H21 (k21 : Int32 → Int32 → Sg → Option (Int32 × Sg)) (v1 : Int32) (v2 : Int32) (σ : Sg) : Option (Int32 × Sg) :=
  if 6 < v2 then some (0, σ) else bd (m_isLeast_10 12 0 v2 σ) fun r1 σ1 => if r1 = 0 then k21 v1 (v2 + 1) σ1 else if 0 ≤ v1 then gd (inB v1 8) (m_least_10_b50 (σ1.1 128 v1.toNatClampNeg) σ1) else m_least_10_b50 v2 σ1
def m_least_10_L21 : Nat → Int32 → Int32 → Sg → Option (Int32 × Sg)
  | 0, _, _, _ => none
  | n + 1, v1, v2, σ => m_least_10_H21 (m_least_10_L21 n) v1 v2 σ
def m_least_10_b19 (v1 : Int32) (σ : Sg) : Option (Int32 × Sg) :=
  m_least_10_L21 fu v1 1 σ
def m_least_10 (v1 : Int32) (σ : Sg) : Option (Int32 × Sg) :=
  if v1 = (-1) then m_least_10_b19 v1 σ else bd (m_isOne_10 v1 σ) fun r1 σ1 => if r1 = 0 then bd (m_refuseFar_10 1 σ1) fun r2 σ2 => some (r2, σ2) else m_least_10_b19 v1 σ1
def m_isFree_10_b32 (s0 : Int32) (σ : Sg) : Option (Int32 × Sg) :=
  gd (nbB s0) (some (s0, σ))
def m_isFree_10_b31 (σ : Sg) : Option (Int32 × Sg) :=
  m_isFree_10_b32 0 σ
def m_isFree_10 (v1 : Int32) (σ : Sg) : Option (Int32 × Sg) :=
  bd (m_bits_s v1 σ) fun r1 σ1 => if 5 < r1 then m_isFree_10_b31 σ1 else bd (m_lays2_10 v1 (-1) σ1) fun r2 σ2 => bd (m_bits_s v1 σ2) fun r3 σ3 => bd (m_clears_10 r2 r3 σ3) fun r4 σ4 => if (lg_cmp r4 0) = 0 then m_isFree_10_b31 σ4 else m_isFree_10_b32 1 σ4
def m_isChosen_10_b27 (s0 : Int32) (σ : Sg) : Option (Int32 × Sg) :=
  gd (nbB s0) (some (s0, σ))
def m_isChosen_10_b26 (σ : Sg) : Option (Int32 × Sg) :=
  m_isChosen_10_b27 0 σ
def m_isChosen_10 (v1 : Int32) (σ : Sg) : Option (Int32 × Sg) :=
  bd (m_bits_s v1 σ) fun r1 σ1 => bd (m_firm_10 σ1) fun r2 σ2 => bd (m_bits_s r2 σ2) fun r3 σ3 => if r1 = r3 then bd (m_isFree_10 v1 σ3) fun r4 σ4 => if r4 = 0 then m_isChosen_10_b26 σ4 else m_isChosen_10_b27 1 σ4 else m_isChosen_10_b26 σ3
def m_isSet_10 (v1 : Int32) (σ : Sg) : Option (Int32 × Sg) :=
  bd (m_isIn_s v1.toInt64 0 ((((1 : Int32) <<< ((σ.1 118 0) &&& 31)) - 1).toInt64) σ) fun r1 σ1 => gd (nbB r1) (some (r1, σ1))
def m_may_10_b27 (s0 : Int32) (σ : Sg) : Option (Int32 × Sg) :=
  some (s0, σ)
def m_may_10 (v1 : Int32) (σ : Sg) : Option (Int32 × Sg) :=
  bd (m_isSet_10 v1 σ) fun r1 σ1 => if r1 = 0 then bd (m_refuse_10 1 σ1) fun r4 σ4 => some (r4, σ4) else bd (m_isChosen_10 v1 σ1) fun r2 σ2 => if r2 = 0 then m_may_10_b27 0 σ2 else m_may_10_b27 1 σ2
def m_rest_10_b32 (σ : Sg) : Option (Int32 × Sg) :=
  bd (m_refuseFar_10 1 σ) fun r1 σ1 => some (r1, σ1)
def m_rest_10 (v1 : Int32) (v2 : Int32) (v3 : Int32) (σ : Sg) : Option (Int32 × Sg) :=
  bd (m_isSet_10 v1 σ) fun r1 σ1 => if r1 = 0 then m_rest_10_b32 σ1 else bd (m_isOne_10 v2 σ1) fun r2 σ2 => if r2 = 0 then m_rest_10_b32 σ2 else bd (m_has_s v1 v2 σ2) fun r3 σ3 => if r3 = 0 then bd (m_isOne_10 v3 σ3) fun r4 σ4 => if r4 = 0 then m_rest_10_b32 σ4 else bd (m_isChosen_10 v1 σ4) fun r5 σ5 => if r5 = 0 then bd (m_refuseFar_10 3 σ5) fun r8 σ8 => some (r8, σ8) else bd (m_isHad_10 v1 v2 σ5) fun r6 σ6 => gd (inB v3 8) (some ((σ6.2 124 v3.toNatClampNeg).toInt32, σ6)) else m_rest_10_b32 σ3
def m_sizesOf_10_b91 (k5 : Int32 → Int64 → Int32 → Sg → Option (Int64 × Sg)) (v1 : Int32) (v2 : Int64) (v4 : Int32) (σ : Sg) : Option (Int64 × Sg) :=
  k5 v1 v2 (v4 + 1) σ
def m_sizesOf_10_b83 (k5 : Int32 → Int64 → Int32 → Sg → Option (Int64 × Sg)) (k41 : Int32 → Int64 → Int32 → Int32 → Sg → Option (Int64 × Sg)) (v1 : Int32) (v4 : Int32) (v5 : Int32) (s0 : Int64) (s1 : Int64) (σ : Sg) : Option (Int64 × Sg) :=
  k41 v1 (s0 + s1) v4 (v5 + 1) σ
def m_sizesOf_10_H41 (k5 : Int32 → Int64 → Int32 → Sg → Option (Int64 × Sg)) (k41 : Int32 → Int64 → Int32 → Int32 → Sg → Option (Int64 × Sg)) (v1 : Int32) (v2 : Int64) (v4 : Int32) (v5 : Int32) (σ : Sg) : Option (Int64 × Sg) :=
  if (σ.1 118 0) ≤ v5 then m_sizesOf_10_b91 k5 v1 v2 v4 σ else gd (inB v5 8) (if 0 ≤ (lg_cmp (σ.2 124 v5.toNatClampNeg) 0) then gd (inB v5 8) (m_sizesOf_10_b83 k5 k41 v1 v4 v5 v2 (σ.2 124 v5.toNatClampNeg) σ) else gd (inB v5 8) (m_sizesOf_10_b83 k5 k41 v1 v4 v5 v2 (-(σ.2 124 v5.toNatClampNeg)) σ))
def m_sizesOf_10_L41 (k5 : Int32 → Int64 → Int32 → Sg → Option (Int64 × Sg)) : Nat → Int32 → Int64 → Int32 → Int32 → Sg → Option (Int64 × Sg)
  | 0, _, _, _, _, _ => none
  | n + 1, v1, v2, v4, v5, σ => m_sizesOf_10_H41 k5 (m_sizesOf_10_L41 k5 n) v1 v2 v4 v5 σ
def m_sizesOf_10_H5 (k5 : Int32 → Int64 → Int32 → Sg → Option (Int64 × Sg)) (v1 : Int32) (v2 : Int64) (v4 : Int32) (σ : Sg) : Option (Int64 × Sg) :=
  if (σ.1 118 0) ≤ v4 then some (v2, σ) else bd (m_has_s v1 v4 σ) fun r1 σ1 => if r1 = 0 then bd (m_isHad_10 v1 v4 σ1) fun r2 σ2 => if r2 = 0 then m_sizesOf_10_b91 k5 v1 v2 v4 σ2 else m_sizesOf_10_L41 k5 fu v1 v2 v4 0 σ2 else m_sizesOf_10_b91 k5 v1 v2 v4 σ1
def m_sizesOf_10_L5 : Nat → Int32 → Int64 → Int32 → Sg → Option (Int64 × Sg)
  | 0, _, _, _, _ => none
  | n + 1, v1, v2, v4, σ => m_sizesOf_10_H5 (m_sizesOf_10_L5 n) v1 v2 v4 σ
def m_sizesOf_10 (v1 : Int32) (σ : Sg) : Option (Int64 × Sg) :=
  m_sizesOf_10_L5 fu v1 0 0 σ
def m_sizes_10_b35 (s0 : Int64) (σ : Sg) : Option (Int64 × Sg) :=
  some (s0, σ)
def m_sizes_10 (v1 : Int32) (σ : Sg) : Option (Int64 × Sg) :=
  bd (m_isSet_10 v1 σ) fun r1 σ1 => if r1 = 0 then bd (m_refuseFarther_10 1 σ1) fun r6 σ6 => some (r6, σ6) else bd (m_isChosen_10 v1 σ1) fun r2 σ2 => if r2 = 0 then bd (m_refuseFarther_10 3 σ2) fun r3 σ3 => m_sizes_10_b35 r3 σ3 else bd (m_sizesOf_10 v1 σ2) fun r4 σ4 => m_sizes_10_b35 r4 σ4
def m_bestSet_10_b64 (k7 : Int32 → Int32 → Int64 → Int32 → Sg → Option (Int32 × Sg)) (v1 : Int32) (v2 : Int32) (v3 : Int64) (v5 : Int32) (σ : Sg) : Option (Int32 × Sg) :=
  k7 v1 v2 v3 (v5 + 1) σ
def m_bestSet_10_b58 (k7 : Int32 → Int32 → Int64 → Int32 → Sg → Option (Int32 × Sg)) (v1 : Int32) (v5 : Int32) (v6 : Int64) (σ : Sg) : Option (Int32 × Sg) :=
  m_bestSet_10_b64 k7 v1 v5 v6 v5 σ
def m_bestSet_10_H7 (k7 : Int32 → Int32 → Int64 → Int32 → Sg → Option (Int32 × Sg)) (v1 : Int32) (v2 : Int32) (v3 : Int64) (v5 : Int32) (σ : Sg) : Option (Int32 × Sg) :=
  if ((1 : Int32) <<< ((σ.1 118 0) &&& 31)) ≤ v5 then some (v2, σ) else bd (m_isChosen_10 v5 σ) fun r1 σ1 => if r1 = 0 then m_bestSet_10_b64 k7 v1 v2 v3 v5 σ1 else if v1 = 0 then bd (m_sizesOf_10 v5 σ1) fun r2 σ2 => if v2 < 0 then m_bestSet_10_b58 k7 v1 v5 r2 σ2 else if 0 ≤ (lg_cmp r2 v3) then m_bestSet_10_b64 k7 v1 v2 v3 v5 σ2 else m_bestSet_10_b58 k7 v1 v5 r2 σ2 else some (v5, σ1)
def m_bestSet_10_L7 : Nat → Int32 → Int32 → Int64 → Int32 → Sg → Option (Int32 × Sg)
  | 0, _, _, _, _, _ => none
  | n + 1, v1, v2, v3, v5, σ => m_bestSet_10_H7 (m_bestSet_10_L7 n) v1 v2 v3 v5 σ
def m_bestSet_10 (v1 : Int32) (σ : Sg) : Option (Int32 × Sg) :=
  m_bestSet_10_L7 fu v1 (-1) 0 0 σ
def m_chosen_10_b30 (k4 : Int32 → Int32 → Sg → Option (Int32 × Sg)) (v2 : Int32) (s0 : Int32) (s1 : Int32) (σ : Sg) : Option (Int32 × Sg) :=
  k4 (s0 + s1) (v2 + 1) σ
def m_chosen_10_H4 (k4 : Int32 → Int32 → Sg → Option (Int32 × Sg)) (v1 : Int32) (v2 : Int32) (σ : Sg) : Option (Int32 × Sg) :=
  if ((1 : Int32) <<< ((σ.1 118 0) &&& 31)) ≤ v2 then some (v1, σ) else bd (m_isChosen_10 v2 σ) fun r1 σ1 => if r1 = 0 then m_chosen_10_b30 k4 v2 v1 0 σ1 else m_chosen_10_b30 k4 v2 v1 1 σ1
def m_chosen_10_L4 : Nat → Int32 → Int32 → Sg → Option (Int32 × Sg)
  | 0, _, _, _ => none
  | n + 1, v1, v2, σ => m_chosen_10_H4 (m_chosen_10_L4 n) v1 v2 σ
def m_chosen_10 (σ : Sg) : Option (Int32 × Sg) :=
  m_chosen_10_L4 fu 0 0 σ
def m_sets1_10_b43 (s0 : Int32) (σ : Sg) : Option (Int32 × Sg) :=
  some (s0, σ)
def m_sets1_10_b40 (s1 : Int32) (σ : Sg) : Option (Int32 × Sg) :=
  bd (m_bestSet_10 s1 σ) fun r1 σ1 => m_sets1_10_b43 r1 σ1
def m_sets1_10 (v1 : Int32) (σ : Sg) : Option (Int32 × Sg) :=
  bd (m_isIn_s v1.toInt64 0 2 σ) fun r1 σ1 => if r1 = 0 then bd (m_refuse_10 2 σ1) fun r5 σ5 => some (r5, σ5) else if v1 = 0 then bd (m_chosen_10 σ1) fun r3 σ3 => m_sets1_10_b43 r3 σ3 else if v1 = 1 then m_sets1_10_b40 1 σ1 else m_sets1_10_b40 0 σ1
def m_odds_10_b57 (k29 : Int32 → Int32 → Int32 → Int32 → Sg → Option (Int64 × Sg)) (v1 : Int32) (v3 : Int32) (v4 : Int32) (s0 : Int32) (s1 : Int32) (σ : Sg) : Option (Int64 × Sg) :=
  k29 v1 (s0 + s1) v3 (v4 + 1) σ
def m_odds_10_H29 (k29 : Int32 → Int32 → Int32 → Int32 → Sg → Option (Int64 × Sg)) (v1 : Int32) (v2 : Int32) (v3 : Int32) (v4 : Int32) (σ : Sg) : Option (Int64 × Sg) :=
  if ((1 : Int32) <<< ((σ.1 118 0) &&& 31)) ≤ v4 then bd (m_chosen_10 σ) fun r1 σ1 => bd (m_partOf_s r1.toInt64 v2.toInt64 v1 σ1) fun r2 σ2 => some (r2, σ2) else bd (m_bits_s v4 σ) fun r3 σ3 => if r3 = v3 then m_odds_10_b57 k29 v1 v3 v4 v2 1 σ3 else m_odds_10_b57 k29 v1 v3 v4 v2 0 σ3
def m_odds_10_L29 : Nat → Int32 → Int32 → Int32 → Int32 → Sg → Option (Int64 × Sg)
  | 0, _, _, _, _, _ => none
  | n + 1, v1, v2, v3, v4, σ => m_odds_10_H29 (m_odds_10_L29 n) v1 v2 v3 v4 σ
def m_odds_10 (v1 : Int32) (σ : Sg) : Option (Int64 × Sg) :=
  bd (m_isIn_s v1.toInt64 0 1 σ) fun r1 σ1 => if r1 = 0 then bd (m_refuseFarther_10 2 σ1) fun r4 σ4 => some (r4, σ4) else bd (m_firm_10 σ1) fun r2 σ2 => bd (m_bits_s r2 σ2) fun r3 σ3 => m_odds_10_L29 fu v1 0 r3 0 σ3
def m_scale_10_b27 (σ : Sg) : Option (Int32 × Sg) :=
  bd (m_refuse_10 4 σ) fun r1 σ1 => some (r1, σ1)
def m_scale_10_b49 (σ : Sg) : Option (Int32 × Sg) :=
  bd (m_refuse_10 6 σ) fun r1 σ1 => some (r1, σ1)
def m_scale_10_b95 (s1 : Int32) (s2 : Int32) (σ : Sg) : Option (Int32 × Sg) :=
  gd (inB s1 139) (some (1, si σ 118 s1.toNatClampNeg s2))
def m_scale_10_b56 (v1 : Int32) (v2 : Int32) (v3 : Int32) (σ : Sg) : Option (Int32 × Sg) :=
  bd (m_changes_10 (49 + v1) (57 + v1) σ) fun _ σ1 => gd (inB (49 + v1) 139) (if v2 = 0 then m_scale_10_b95 (57 + v1) 0 (si σ1 118 (49 + v1).toNatClampNeg v2) else m_scale_10_b95 (57 + v1) v3 (si σ1 118 (49 + v1).toNatClampNeg v2))
def m_scale_10_b33 (v1 : Int32) (v2 : Int32) (v3 : Int32) (σ : Sg) : Option (Int32 × Sg) :=
  if 99 < v2 then m_scale_10_b49 σ else if v2 ≤ 0 then m_scale_10_b56 v1 v2 v3 σ else if v3 ≤ 99 then m_scale_10_b56 v1 v2 v3 σ else m_scale_10_b49 σ
def m_scale_10 (v1 : Int32) (v2 : Int32) (v3 : Int32) (σ : Sg) : Option (Int32 × Sg) :=
  bd (m_isOne_10 v1 σ) fun r1 σ1 => if r1 = 0 then bd (m_refuse_10 1 σ1) fun r5 σ5 => some (r5, σ5) else if v2 < 0 then m_scale_10_b27 σ1 else if v2 ≤ 0 then m_scale_10_b33 v1 v2 v3 σ1 else if 1 ≤ v3 then m_scale_10_b33 v1 v2 v3 σ1 else m_scale_10_b27 σ1
def m_scaled_10_b72 (s0 : Int32) (σ : Sg) : Option (Int32 × Sg) :=
  some (s0, σ)
def m_scaled_10 (v1 : Int32) (v2 : Int32) (σ : Sg) : Option (Int32 × Sg) :=
  bd (m_isOne_10 v1 σ) fun r1 σ1 => if r1 = 0 then bd (m_refuse_10 1 σ1) fun r10 σ10 => some (r10, σ10) else bd (m_isIn_s v2.toInt64 0 1 σ1) fun r2 σ2 => if r2 = 0 then bd (m_refuse_10 2 σ2) fun r8 σ8 => some (r8, σ8) else gd (inB (49 + v1) 139) (if (σ2.1 118 (49 + v1).toNatClampNeg) = 0 then m_scaled_10_b72 (-9) σ2 else gd (inB (49 + v1) 139) (gd (inB (57 + v1) 139) (bd (m_partOf_s ((σ2.1 118 (49 + v1).toNatClampNeg).toInt64) ((σ2.1 118 (57 + v1).toNatClampNeg).toInt64) v2 σ2) fun r6 σ6 => m_scaled_10_b72 r6.toInt32 σ6)))
def m_areScaled_10_b43 (k4 : Int32 → Int32 → Sg → Option (Int32 × Sg)) (v2 : Int32) (s0 : Int32) (s1 : Int32) (σ : Sg) : Option (Int32 × Sg) :=
  k4 (s0 &&& s1) (v2 + 1) σ
def m_areScaled_10_b38 (k4 : Int32 → Int32 → Sg → Option (Int32 × Sg)) (v2 : Int32) (s0 : Int32) (σ : Sg) : Option (Int32 × Sg) :=
  m_areScaled_10_b43 k4 v2 s0 1 σ
def m_areScaled_10_H4 (k4 : Int32 → Int32 → Sg → Option (Int32 × Sg)) (v1 : Int32) (v2 : Int32) (σ : Sg) : Option (Int32 × Sg) :=
  if (σ.1 118 0) ≤ v2 then gd (nbB v1) (some (v1, σ)) else gd (inB v2 8) (if (lg_cmp (σ.2 124 v2.toNatClampNeg) 0) = 0 then m_areScaled_10_b38 k4 v2 v1 σ else gd (inB (49 + v2) 139) (if (σ.1 118 (49 + v2).toNatClampNeg) ≤ 0 then m_areScaled_10_b43 k4 v2 v1 0 σ else m_areScaled_10_b38 k4 v2 v1 σ))
def m_areScaled_10_L4 : Nat → Int32 → Int32 → Sg → Option (Int32 × Sg)
  | 0, _, _, _ => none
  | n + 1, v1, v2, σ => m_areScaled_10_H4 (m_areScaled_10_L4 n) v1 v2 σ
def m_areScaled_10 (σ : Sg) : Option (Int32 × Sg) :=
  m_areScaled_10_L4 fu 1 0 σ
def m_isPrime_s_H2 (k2 : Int32 → Int32 → Sg → Option (Int32 × Sg)) (v0 : Int32) (v1 : Int32) (σ : Sg) : Option (Int32 × Sg) :=
  if v0 ≤ v1 then bd (m_isIn_s v0.toInt64 2 97 σ) fun r1 σ1 => gd (nbB r1) (some (r1, σ1)) else gd (neB v1) (if (irm v0 v1) = 0 then some (0, σ) else k2 v0 (v1 + 1) σ)
def m_isPrime_s_L2 : Nat → Int32 → Int32 → Sg → Option (Int32 × Sg)
  | 0, _, _, _ => none
  | n + 1, v0, v1, σ => m_isPrime_s_H2 (m_isPrime_s_L2 n) v0 v1 σ
def m_isPrime_s (v0 : Int32) (σ : Sg) : Option (Int32 × Sg) :=
  m_isPrime_s_L2 fu v0 2 σ
def m_often_s_b24 (v2 : Int32) (σ : Sg) : Option (Int32 × Sg) :=
  some (v2, σ)
def m_often_s_H4 (k4 : Int32 → Int32 → Int32 → Sg → Option (Int32 × Sg)) (v1 : Int32) (v2 : Int32) (v3 : Int32) (σ : Sg) : Option (Int32 × Sg) :=
  if v3 ≤ 0 then m_often_s_b24 v2 σ else gd (neB v1) (if (irm v3 v1) = 0 then gd (neB v1) (k4 v1 (v2 + 1) (v3 / v1) σ) else m_often_s_b24 v2 σ)
def m_often_s_L4 : Nat → Int32 → Int32 → Int32 → Sg → Option (Int32 × Sg)
  | 0, _, _, _, _ => none
  | n + 1, v1, v2, v3, σ => m_often_s_H4 (m_often_s_L4 n) v1 v2 v3 σ
def m_often_s (v0 : Int32) (v1 : Int32) (σ : Sg) : Option (Int32 × Sg) :=
  m_often_s_L4 fu v1 0 v0 σ
def m_powerIn_10 (v1 : Int32) (v2 : Int32) (σ : Sg) : Option (Int32 × Sg) :=
  gd (inB (49 + v1) 139) (bd (m_often_s (σ.1 118 (49 + v1).toNatClampNeg) v2 σ) fun r2 σ2 => gd (inB (57 + v1) 139) (bd (m_often_s (σ2.1 118 (57 + v1).toNatClampNeg) v2 σ2) fun r4 σ4 => some (r2 - r4, σ4)))
def m_weighs_10_b55 (k5 : Int32 → Int32 → Int64 → Int32 → Sg → Option (Int64 × Sg)) (v1 : Int32) (v2 : Int32) (v5 : Int32) (s0 : Int64) (s1 : Int64) (σ : Sg) : Option (Int64 × Sg) :=
  k5 v1 v2 (s0 + s1) (v5 + 1) σ
def m_weighs_10_b54 (k5 : Int32 → Int32 → Int64 → Int32 → Sg → Option (Int64 × Sg)) (v1 : Int32) (v2 : Int32) (v5 : Int32) (s0 : Int64) (σ : Sg) : Option (Int64 × Sg) :=
  m_weighs_10_b55 k5 v1 v2 v5 s0 0 σ
def m_weighs_10_H5 (k5 : Int32 → Int32 → Int64 → Int32 → Sg → Option (Int64 × Sg)) (v1 : Int32) (v2 : Int32) (v3 : Int64) (v5 : Int32) (σ : Sg) : Option (Int64 × Sg) :=
  if (σ.1 118 0) ≤ v5 then some (v3, σ) else if v5 = v2 then m_weighs_10_b54 k5 v1 v2 v5 v3 σ else gd (inB v5 8) (if (lg_cmp (σ.2 124 v5.toNatClampNeg) 0) = 0 then m_weighs_10_b54 k5 v1 v2 v5 v3 σ else gd (inB v5 8) (bd (m_powerIn_10 v5 v1 σ) fun r3 σ3 => m_weighs_10_b55 k5 v1 v2 v5 v3 ((σ.2 124 v5.toNatClampNeg) * r3.toInt64) σ3))
def m_weighs_10_L5 : Nat → Int32 → Int32 → Int64 → Int32 → Sg → Option (Int64 × Sg)
  | 0, _, _, _, _, _ => none
  | n + 1, v1, v2, v3, v5, σ => m_weighs_10_H5 (m_weighs_10_L5 n) v1 v2 v3 v5 σ
def m_weighs_10 (v1 : Int32) (v2 : Int32) (σ : Sg) : Option (Int64 × Sg) :=
  m_weighs_10_L5 fu v1 v2 0 0 σ
def m_isAlike_10_b34 (k4 : Int32 → Int32 → Sg → Option (Int32 × Sg)) (v2 : Int32) (s0 : Int32) (s1 : Int32) (σ : Sg) : Option (Int32 × Sg) :=
  k4 (s0 &&& s1) (v2 + 1) σ
def m_isAlike_10_b29 (k4 : Int32 → Int32 → Sg → Option (Int32 × Sg)) (v2 : Int32) (s0 : Int32) (σ : Sg) : Option (Int32 × Sg) :=
  m_isAlike_10_b34 k4 v2 s0 1 σ
def m_isAlike_10_H4 (k4 : Int32 → Int32 → Sg → Option (Int32 × Sg)) (v1 : Int32) (v2 : Int32) (σ : Sg) : Option (Int32 × Sg) :=
  if 97 < v2 then gd (nbB v1) (some (v1, σ)) else bd (m_isPrime_s v2 σ) fun r1 σ1 => if r1 = 0 then m_isAlike_10_b29 k4 v2 v1 σ1 else bd (m_weighs_10 v2 (-1) σ1) fun r2 σ2 => if (lg_cmp r2 0) = 0 then m_isAlike_10_b29 k4 v2 v1 σ2 else m_isAlike_10_b34 k4 v2 v1 0 σ2
def m_isAlike_10_L4 : Nat → Int32 → Int32 → Sg → Option (Int32 × Sg)
  | 0, _, _, _ => none
  | n + 1, v1, v2, σ => m_isAlike_10_H4 (m_isAlike_10_L4 n) v1 v2 σ
def m_isAlike_10 (σ : Sg) : Option (Int32 × Sg) :=
  m_isAlike_10_L4 fu 1 2 σ
def m_alike_10_b40 (k10 : Int32 → Int32 → Sg → Option (Int32 × Sg)) (v1 : Int32) (v2 : Int32) (σ : Sg) : Option (Int32 × Sg) :=
  k10 v1 (v2 + 1) σ
def m_alike_10_H10 (k10 : Int32 → Int32 → Sg → Option (Int32 × Sg)) (v1 : Int32) (v2 : Int32) (σ : Sg) : Option (Int32 × Sg) :=
  if v1 ≤ v2 then some ((-9), σ) else bd (m_ownOf_10 v2 σ) fun r1 σ1 => bd (m_groups_10 r1 σ1) fun _ σ2 => bd (m_areScaled_10 σ2) fun r3 σ3 => if r3 = 0 then m_alike_10_b40 k10 v1 v2 σ3 else bd (m_isAlike_10 σ3) fun r4 σ4 => if r4 = 0 then some (v2, σ4) else m_alike_10_b40 k10 v1 v2 σ4
def m_alike_10_L10 : Nat → Int32 → Int32 → Sg → Option (Int32 × Sg)
  | 0, _, _, _ => none
  | n + 1, v1, v2, σ => m_alike_10_H10 (m_alike_10_L10 n) v1 v2 σ
def m_alike_10 (σ : Sg) : Option (Int32 × Sg) :=
  bd (m_loose_10 σ) fun r1 σ1 => bd (m_bits_s r1 σ1) fun r2 σ2 => m_alike_10_L10 fu r2 0 σ2
def m_isScaled_10_b54 (v2 : Int32) (σ : Sg) : Option (Int32 × Sg) :=
  gd (nbB v2) (some (v2, σ))
def m_isScaled_10_b47 (k8 : Int32 → Int32 → Int32 → Sg → Option (Int32 × Sg)) (v1 : Int32) (v3 : Int32) (s0 : Int32) (σ : Sg) : Option (Int32 × Sg) :=
  k8 v1 s0 (v3 + 1) σ
def m_isScaled_10_b42 (k8 : Int32 → Int32 → Int32 → Sg → Option (Int32 × Sg)) (v1 : Int32) (v3 : Int32) (σ : Sg) : Option (Int32 × Sg) :=
  m_isScaled_10_b47 k8 v1 v3 1 σ
def m_isScaled_10_H8 (k8 : Int32 → Int32 → Int32 → Sg → Option (Int32 × Sg)) (v1 : Int32) (v2 : Int32) (v3 : Int32) (σ : Sg) : Option (Int32 × Sg) :=
  if (σ.1 118 0) ≤ v3 then m_isScaled_10_b54 v2 σ else if v2 = 0 then m_isScaled_10_b54 v2 σ else bd (m_has_s v1 v3 σ) fun r1 σ1 => if r1 = 0 then m_isScaled_10_b42 k8 v1 v3 σ1 else gd (inB (49 + v3) 139) (if (σ1.1 118 (49 + v3).toNatClampNeg) ≤ 0 then m_isScaled_10_b47 k8 v1 v3 0 σ1 else m_isScaled_10_b42 k8 v1 v3 σ1)
def m_isScaled_10_L8 : Nat → Int32 → Int32 → Int32 → Sg → Option (Int32 × Sg)
  | 0, _, _, _, _ => none
  | n + 1, v1, v2, v3, σ => m_isScaled_10_H8 (m_isScaled_10_L8 n) v1 v2 v3 σ
def m_isScaled_10 (v1 : Int32) (σ : Sg) : Option (Int32 × Sg) :=
  bd (m_isChosen_10 v1 σ) fun r1 σ1 => m_isScaled_10_L8 fu v1 r1 0 σ1
def m_wrongMust_10_b29 (s0 : Int32) (σ : Sg) : Option (Int32 × Sg) :=
  some (s0, σ)
def m_wrongMust_10_b24 (σ : Sg) : Option (Int32 × Sg) :=
  m_wrongMust_10_b29 1 σ
def m_wrongMust_10 (v1 : Int32) (v2 : Int32) (σ : Sg) : Option (Int32 × Sg) :=
  bd (m_isSet_10 v1 σ) fun r1 σ1 => if r1 = 0 then m_wrongMust_10_b24 σ1 else bd (m_isOne_10 v2 σ1) fun r2 σ2 => if r2 = 0 then m_wrongMust_10_b24 σ2 else bd (m_has_s v1 v2 σ2) fun r3 σ3 => if r3 = 0 then m_wrongMust_10_b29 0 σ3 else m_wrongMust_10_b24 σ3
def m_must_10_b67 (v1 : Int32) (v2 : Int32) (v3 : Int32) (v4 : Int32) (s0 : Int32) (σ : Sg) : Option (Int64 × Sg) :=
  if s0 = 0 then bd (m_isHad_10 v1 v2 σ) fun r1 σ1 => bd (m_weighs_10 v3 v2 σ1) fun r2 σ2 => gd (inB v2 8) (bd (m_partOf_s (-r2) (σ2.2 124 v2.toNatClampNeg) v4 σ2) fun r4 σ4 => some (r4, σ4)) else bd (m_refuseFarther_10 s0 σ) fun r5 σ5 => some (r5, σ5)
def m_must_10_b50 (v1 : Int32) (v2 : Int32) (v3 : Int32) (v4 : Int32) (σ : Sg) : Option (Int64 × Sg) :=
  m_must_10_b67 v1 v2 v3 v4 2 σ
def m_must_10 (v1 : Int32) (v2 : Int32) (v3 : Int32) (v4 : Int32) (σ : Sg) : Option (Int64 × Sg) :=
  bd (m_wrongMust_10 v1 v2 σ) fun r1 σ1 => if r1 = 0 then bd (m_isIn_s v3.toInt64 2 97 σ1) fun r2 σ2 => if r2 = 0 then m_must_10_b50 v1 v2 v3 v4 σ2 else bd (m_isPrime_s v3 σ2) fun r3 σ3 => if r3 = 0 then m_must_10_b50 v1 v2 v3 v4 σ3 else bd (m_isIn_s v4.toInt64 0 1 σ3) fun r4 σ4 => if r4 = 0 then m_must_10_b50 v1 v2 v3 v4 σ4 else bd (m_isScaled_10 v1 σ4) fun r5 σ5 => if r5 = 0 then m_must_10_b67 v1 v2 v3 v4 3 σ5 else m_must_10_b67 v1 v2 v3 v4 0 σ5 else m_must_10_b67 v1 v2 v3 v4 r1 σ1
def m_whole_10_b110 (s0 : Int32) (σ : Sg) : Option (Int32 × Sg) :=
  some (s0, σ)
def m_whole_10_b91 (k50 : Int32 → Int32 → Int32 → Sg → Option (Int32 × Sg)) (v2 : Int32) (v5 : Int32) (s0 : Int32) (s1 : Int32) (σ : Sg) : Option (Int32 × Sg) :=
  k50 v2 (s0 &&& s1) (v5 + 1) σ
def m_whole_10_b86 (k50 : Int32 → Int32 → Int32 → Sg → Option (Int32 × Sg)) (v2 : Int32) (v5 : Int32) (s0 : Int32) (σ : Sg) : Option (Int32 × Sg) :=
  m_whole_10_b91 k50 v2 v5 s0 1 σ
def m_whole_10_H50 (k50 : Int32 → Int32 → Int32 → Sg → Option (Int32 × Sg)) (v2 : Int32) (v4 : Int32) (v5 : Int32) (σ : Sg) : Option (Int32 × Sg) :=
  if 97 < v5 then if v4 = 0 then m_whole_10_b110 0 σ else m_whole_10_b110 1 σ else bd (m_isPrime_s v5 σ) fun r2 σ2 => if r2 = 0 then m_whole_10_b86 k50 v2 v5 v4 σ2 else bd (m_weighs_10 v5 v2 σ2) fun r3 σ3 => gd (inB v2 8) (gd (neBL (σ3.2 124 v2.toNatClampNeg)) (if (lg_cmp (lrm r3 (σ3.2 124 v2.toNatClampNeg)) 0) = 0 then m_whole_10_b86 k50 v2 v5 v4 σ3 else m_whole_10_b91 k50 v2 v5 v4 0 σ3))
def m_whole_10_L50 : Nat → Int32 → Int32 → Int32 → Sg → Option (Int32 × Sg)
  | 0, _, _, _, _ => none
  | n + 1, v2, v4, v5, σ => m_whole_10_H50 (m_whole_10_L50 n) v2 v4 v5 σ
def m_whole_10_b28 (v1 : Int32) (v2 : Int32) (s0 : Int32) (σ : Sg) : Option (Int32 × Sg) :=
  if s0 = 0 then bd (m_isHad_10 v1 v2 σ) fun r1 σ1 => m_whole_10_L50 fu v2 r1 2 σ1 else bd (m_refuse_10 s0 σ) fun r2 σ2 => some (r2, σ2)
def m_whole_10 (v1 : Int32) (v2 : Int32) (σ : Sg) : Option (Int32 × Sg) :=
  bd (m_wrongMust_10 v1 v2 σ) fun r1 σ1 => if r1 = 0 then bd (m_isScaled_10 v1 σ1) fun r2 σ2 => if r2 = 0 then m_whole_10_b28 v1 v2 3 σ2 else m_whole_10_b28 v1 v2 0 σ2 else m_whole_10_b28 v1 v2 r1 σ1
def m_off_10_b91 (k32 : Int32 → Int32 → Int32 → Sg → Option (Int32 × Sg)) (v1 : Int32) (v2 : Int32) (v3 : Int32) (σ : Sg) : Option (Int32 × Sg) :=
  k32 v1 v2 (v3 + 1) σ
def m_off_10_b89 (k32 : Int32 → Int32 → Int32 → Sg → Option (Int32 × Sg)) (v1 : Int32) (v3 : Int32) (s0 : Int32) (s1 : Int32) (σ : Sg) : Option (Int32 × Sg) :=
  m_off_10_b91 k32 v1 (s0 ||| s1) v3 σ
def m_off_10_H32 (k32 : Int32 → Int32 → Int32 → Sg → Option (Int32 × Sg)) (v1 : Int32) (v2 : Int32) (v3 : Int32) (σ : Sg) : Option (Int32 × Sg) :=
  if (σ.1 118 0) ≤ v3 then some (v2, σ) else bd (m_has_s v1 v3 σ) fun r1 σ1 => if r1 = 0 then gd (inB (49 + v3) 139) (if (σ1.1 118 (49 + v3).toNatClampNeg) = 0 then m_off_10_b91 k32 v1 v2 v3 σ1 else bd (m_isHad_10 v1 v3 σ1) fun r3 σ3 => if r3 = 0 then m_off_10_b91 k32 v1 v2 v3 σ3 else bd (m_isAlike_10 σ3) fun r4 σ4 => if r4 = 0 then m_off_10_b89 k32 v1 v3 v2 ((1 : Int32) <<< (v3 &&& 31)) σ4 else m_off_10_b89 k32 v1 v3 v2 0 σ4) else m_off_10_b91 k32 v1 v2 v3 σ1
def m_off_10_L32 : Nat → Int32 → Int32 → Int32 → Sg → Option (Int32 × Sg)
  | 0, _, _, _, _ => none
  | n + 1, v1, v2, v3, σ => m_off_10_H32 (m_off_10_L32 n) v1 v2 v3 σ
def m_off_10 (v1 : Int32) (σ : Sg) : Option (Int32 × Sg) :=
  bd (m_isSet_10 v1 σ) fun r1 σ1 => if r1 = 0 then bd (m_refuse_10 1 σ1) fun r5 σ5 => some (r5, σ5) else bd (m_isScaled_10 v1 σ1) fun r2 σ2 => if r2 = 0 then bd (m_refuse_10 3 σ2) fun r3 σ3 => some (r3, σ3) else m_off_10_L32 fu v1 0 0 σ2
def m_powerBy_10_b48 (k5 : Int32 → Int32 → Int32 → Int32 → Sg → Option (Int32 × Sg)) (v1 : Int32) (v2 : Int32) (v4 : Int32) (s0 : Int32) (s1 : Int32) (σ : Sg) : Option (Int32 × Sg) :=
  k5 v1 v2 (s0 + s1) (v4 + 1) σ
def m_powerBy_10_H5 (k5 : Int32 → Int32 → Int32 → Int32 → Sg → Option (Int32 × Sg)) (v1 : Int32) (v2 : Int32) (v3 : Int32) (v4 : Int32) (σ : Sg) : Option (Int32 × Sg) :=
  if v1 ≤ v4 then some (v3, σ) else gd (inB v4 3) (bd (m_powerOf_10 ((σ.1 129 v4.toNatClampNeg) / 2) v2 σ) fun r2 σ2 => gd (inB v4 3) (if (irm (σ2.1 129 v4.toNatClampNeg) 2) = 0 then m_powerBy_10_b48 k5 v1 v2 v4 v3 r2 σ2 else m_powerBy_10_b48 k5 v1 v2 v4 v3 (-r2) σ2))
def m_powerBy_10_L5 : Nat → Int32 → Int32 → Int32 → Int32 → Sg → Option (Int32 × Sg)
  | 0, _, _, _, _, _ => none
  | n + 1, v1, v2, v3, v4, σ => m_powerBy_10_H5 (m_powerBy_10_L5 n) v1 v2 v3 v4 σ
def m_powerBy_10 (v1 : Int32) (v2 : Int32) (σ : Sg) : Option (Int32 × Sg) :=
  m_powerBy_10_L5 fu v1 v2 0 0 σ
def m_isWanted_10_b30 (k4 : Int32 → Int32 → Int32 → Sg → Option (Int32 × Sg)) (v1 : Int32) (v3 : Int32) (s0 : Int32) (s1 : Int32) (σ : Sg) : Option (Int32 × Sg) :=
  k4 v1 (s0 &&& s1) (v3 + 1) σ
def m_isWanted_10_H4 (k4 : Int32 → Int32 → Int32 → Sg → Option (Int32 × Sg)) (v1 : Int32) (v2 : Int32) (v3 : Int32) (σ : Sg) : Option (Int32 × Sg) :=
  if 5 ≤ v3 then gd (nbB v2) (some (v2, σ)) else bd (m_powerBy_10 v1 v3 σ) fun r1 σ1 => gd (inB v3 5) (if r1 = (σ1.1 130 v3.toNatClampNeg) then m_isWanted_10_b30 k4 v1 v3 v2 1 σ1 else m_isWanted_10_b30 k4 v1 v3 v2 0 σ1)
def m_isWanted_10_L4 : Nat → Int32 → Int32 → Int32 → Sg → Option (Int32 × Sg)
  | 0, _, _, _, _ => none
  | n + 1, v1, v2, v3, σ => m_isWanted_10_H4 (m_isWanted_10_L4 n) v1 v2 v3 σ
def m_isWanted_10 (v1 : Int32) (σ : Sg) : Option (Int32 × Sg) :=
  m_isWanted_10_L4 fu v1 1 0 σ
def m_fills_10_H13 (rs : Int32 → Int32 → Sg → Option (Int32 × Sg)) (k13 : Int32 → Int32 → Int32 → Sg → Option (Int32 × Sg)) (v1 : Int32) (v2 : Int32) (v3 : Int32) (σ : Sg) : Option (Int32 × Sg) :=
  if (2 * (σ.1 118 0)) ≤ v3 then some (0, σ) else gd (inB v1 3) (bd (rs (v1 + 1) v2 (si σ 129 v1.toNatClampNeg v3)) fun r2 σ2 => if r2 = 0 then k13 v1 v2 (v3 + 1) σ2 else some (1, σ2))
def m_fills_10_L13 (rs : Int32 → Int32 → Sg → Option (Int32 × Sg)) : Nat → Int32 → Int32 → Int32 → Sg → Option (Int32 × Sg)
  | 0, _, _, _, _ => none
  | n + 1, v1, v2, v3, σ => m_fills_10_H13 rs (m_fills_10_L13 rs n) v1 v2 v3 σ
def m_fills_10_H (rs : Int32 → Int32 → Sg → Option (Int32 × Sg)) (v1 : Int32) (v2 : Int32) (σ : Sg) : Option (Int32 × Sg) :=
  if v1 = v2 then bd (m_isWanted_10 v2 σ) fun r1 σ1 => gd (nbB r1) (some (r1, σ1)) else m_fills_10_L13 rs fu v1 v2 0 σ
def m_fills_10 : Nat → Int32 → Int32 → Sg → Option (Int32 × Sg)
  | 0, _, _, _ => none
  | n + 1, v1, v2, σ => m_fills_10_H (m_fills_10 n) v1 v2 σ
def m_fewestOf_10_b40 (s0 : Int32) (σ : Sg) : Option (Int32 × Sg) :=
  some (s0, σ)
def m_fewestOf_10_H2 (k2 : Int32 → Int32 → Sg → Option (Int32 × Sg)) (v1 : Int32) (v2 : Int32) (σ : Sg) : Option (Int32 × Sg) :=
  if 3 < v2 then some ((-9), σ) else bd (m_fills_10 12 0 v2 σ) fun r1 σ1 => if r1 = 0 then k2 v1 (v2 + 1) σ1 else if 0 ≤ v1 then if v2 ≤ v1 then m_fewestOf_10_b40 (-9) σ1 else gd (inB v1 3) (m_fewestOf_10_b40 (σ1.1 129 v1.toNatClampNeg) σ1) else m_fewestOf_10_b40 v2 σ1
def m_fewestOf_10_L2 : Nat → Int32 → Int32 → Sg → Option (Int32 × Sg)
  | 0, _, _, _ => none
  | n + 1, v1, v2, σ => m_fewestOf_10_H2 (m_fewestOf_10_L2 n) v1 v2 σ
def m_fewestOf_10 (v1 : Int32) (σ : Sg) : Option (Int32 × Sg) :=
  m_fewestOf_10_L2 fu v1 0 σ
def m_fewest_10_H57 (k57 : Int32 → Int32 → Sg → Option (Int32 × Sg)) (v2 : Int32) (v3 : Int32) (σ : Sg) : Option (Int32 × Sg) :=
  if 5 ≤ v3 then bd (m_fewestOf_10 v2 σ) fun r1 σ1 => some (r1, σ1) else gd (inB v3 8) (gd (inB v3 5) (k57 v2 (v3 + 1) (si σ 130 v3.toNatClampNeg (σ.1 128 v3.toNatClampNeg))))
def m_fewest_10_L57 : Nat → Int32 → Int32 → Sg → Option (Int32 × Sg)
  | 0, _, _, _ => none
  | n + 1, v2, v3, σ => m_fewest_10_H57 (m_fewest_10_L57 n) v2 v3 σ
def m_fewest_10 (v1 : Int32) (v2 : Int32) (σ : Sg) : Option (Int32 × Sg) :=
  bd (m_isList_s v1 σ) fun r1 σ1 => if r1 = 0 then bd (m_refuse_10 1 σ1) fun r10 σ10 => some (r10, σ10) else gd (inB v1 3) (if 0 ≤ (σ1.1 126 v1.toNatClampNeg) then bd (m_tells_10 v1 5 σ1) fun r3 σ3 => if r3 = 0 then bd (m_refuse_10 3 σ3) fun r6 σ6 => some (r6, σ6) else if (-1) ≤ v2 then m_fewest_10_L57 fu v2 0 σ3 else bd (m_refuse_10 4 σ3) fun r4 σ4 => some (r4, σ4) else bd (m_refuse_10 11 σ1) fun r8 σ8 => some (r8, σ8))
def m_differs_10_H3 (k3 : Int32 → Int64 → Int32 → Sg → Option (Int32 × Sg)) (v1 : Int32) (v2 : Int64) (v4 : Int32) (σ : Sg) : Option (Int32 × Sg) :=
  if v1 ≤ v4 then gd (inB v1 969) (some (v1 + 1, sl σ 131 v1.toNatClampNeg v2)) else gd (inB v4 969) (if (lg_cmp (σ.2 131 v4.toNatClampNeg) v2) = 0 then some (v1, σ) else k3 v1 v2 (v4 + 1) σ)
def m_differs_10_L3 : Nat → Int32 → Int64 → Int32 → Sg → Option (Int32 × Sg)
  | 0, _, _, _, _ => none
  | n + 1, v1, v2, v4, σ => m_differs_10_H3 (m_differs_10_L3 n) v1 v2 v4 σ
def m_differs_10 (v1 : Int32) (v2 : Int64) (σ : Sg) : Option (Int32 × Sg) :=
  m_differs_10_L3 fu v1 v2 0 σ
def m_keyOf_10_H5 (k5 : Int32 → Int64 → Int32 → Sg → Option (Int64 × Sg)) (v1 : Int32) (v2 : Int64) (v4 : Int32) (σ : Sg) : Option (Int64 × Sg) :=
  if 5 ≤ v4 then some (v2, σ) else bd (m_powerBy_10 v1 v4 σ) fun r1 σ1 => k5 v1 ((1000 * v2) + r1.toInt64) (v4 + 1) σ1
def m_keyOf_10_L5 : Nat → Int32 → Int64 → Int32 → Sg → Option (Int64 × Sg)
  | 0, _, _, _, _ => none
  | n + 1, v1, v2, v4, σ => m_keyOf_10_H5 (m_keyOf_10_L5 n) v1 v2 v4 σ
def m_keyOf_10 (v1 : Int32) (σ : Sg) : Option (Int64 × Sg) :=
  m_keyOf_10_L5 fu v1 0 0 σ
def m_adds_10_H37 (rs : Int32 → Int32 → Int32 → Sg → Option (Int32 × Sg)) (k37 : Int32 → Int32 → Int32 → Int32 → Sg → Option (Int32 × Sg)) (v1 : Int32) (v2 : Int32) (v4 : Int32) (v5 : Int32) (σ : Sg) : Option (Int32 × Sg) :=
  if (2 * (σ.1 118 0)) ≤ v5 then some (v4, σ) else gd (inB v1 3) (bd (rs (v1 + 1) v2 v4 (si σ 129 v1.toNatClampNeg v5)) fun r2 σ2 => k37 v1 v2 r2 (v5 + 1) σ2)
def m_adds_10_L37 (rs : Int32 → Int32 → Int32 → Sg → Option (Int32 × Sg)) : Nat → Int32 → Int32 → Int32 → Int32 → Sg → Option (Int32 × Sg)
  | 0, _, _, _, _, _ => none
  | n + 1, v1, v2, v4, v5, σ => m_adds_10_H37 rs (m_adds_10_L37 rs n) v1 v2 v4 v5 σ
def m_adds_10_b35 (rs : Int32 → Int32 → Int32 → Sg → Option (Int32 × Sg)) (v1 : Int32) (v2 : Int32) (v4 : Int32) (s0 : Int32) (σ : Sg) : Option (Int32 × Sg) :=
  m_adds_10_L37 rs fu v1 v2 v4 s0 σ
def m_adds_10_H (rs : Int32 → Int32 → Int32 → Sg → Option (Int32 × Sg)) (v1 : Int32) (v2 : Int32) (v3 : Int32) (σ : Sg) : Option (Int32 × Sg) :=
  if v1 = v2 then bd (m_keyOf_10 v2 σ) fun r3 σ3 => bd (m_differs_10 v3 r3 σ3) fun r4 σ4 => some (r4, σ4) else if v1 = 0 then m_adds_10_b35 rs v1 v2 v3 0 σ else gd (inB (v1 - 1) 3) (m_adds_10_b35 rs v1 v2 v3 (σ.1 129 (v1 - 1).toNatClampNeg) σ)
def m_adds_10 : Nat → Int32 → Int32 → Int32 → Sg → Option (Int32 × Sg)
  | 0, _, _, _, _ => none
  | n + 1, v1, v2, v3, σ => m_adds_10_H (m_adds_10 n) v1 v2 v3 σ
def m_had_10_H26 (k26 : Int32 → Int32 → Int32 → Sg → Option (Int32 × Sg)) (v1 : Int32) (v2 : Int32) (v3 : Int32) (σ : Sg) : Option (Int32 × Sg) :=
  if v1 < v3 then some (v2, σ) else bd (m_adds_10 12 0 v3 v2 σ) fun r1 σ1 => k26 v1 r1 (v3 + 1) σ1
def m_had_10_L26 : Nat → Int32 → Int32 → Int32 → Sg → Option (Int32 × Sg)
  | 0, _, _, _, _ => none
  | n + 1, v1, v2, v3, σ => m_had_10_H26 (m_had_10_L26 n) v1 v2 v3 σ
def m_had_10 (v1 : Int32) (σ : Sg) : Option (Int32 × Sg) :=
  if 0 ≤ v1 then if v1 ≤ 3 then m_had_10_L26 fu v1 0 0 σ else bd (m_refuse_10 6 σ) fun r1 σ1 => some (r1, σ1) else bd (m_refuse_10 4 σ) fun r3 σ3 => some (r3, σ3)
def m_here_10_b24 (s0 : Int32) (σ : Sg) : Option (Int32 × Sg) :=
  some (s0, σ)
def m_here_10 (σ : Sg) : Option (Int32 × Sg) :=
  if (σ.1 10 5) ≤ (σ.1 10 17) then m_here_10_b24 (-1) σ else gd (inB (σ.1 10 17) 72) (m_here_10_b24 (σ.1 121 (σ.1 10 17).toNatClampNeg) σ)
def m_isSigned_10_b21 (s0 : Int32) (σ : Sg) : Option (Int32 × Sg) :=
  gd (nbB s0) (some (s0, σ))
def m_isSigned_10_b16 (σ : Sg) : Option (Int32 × Sg) :=
  m_isSigned_10_b21 1 σ
def m_isSigned_10 (v1 : Int32) (v2 : Int32) (σ : Sg) : Option (Int32 × Sg) :=
  bd (m_here_10 σ) fun r1 σ1 => if r1 = v1 then m_isSigned_10_b16 σ1 else bd (m_here_10 σ1) fun r2 σ2 => if r2 = v2 then m_isSigned_10_b16 σ2 else m_isSigned_10_b21 0 σ2
def m_isDigit_10 (σ : Sg) : Option (Int32 × Sg) :=
  bd (m_here_10 σ) fun r1 σ1 => bd (m_isIn_s r1.toInt64 48 57 σ1) fun r2 σ2 => gd (nbB r2) (some (r2, σ2))
def m_readsClosed_10_b18 (rs : Sg → Option (Int32 × Sg)) (σ : Sg) : Option (Int32 × Sg) :=
  some (0, σ)
def m_readsClosed_10_b56 (rs : Sg → Option (Int32 × Sg)) (σ : Sg) : Option (Int32 × Sg) :=
  some (0, σ)
def m_readsClosed_10 (rs : Sg → Option (Int32 × Sg)) (σ : Sg) : Option (Int32 × Sg) :=
  bd (m_here_10 σ) fun r1 σ1 => if r1 = 40 then if (σ1.1 10 18) = 6 then m_readsClosed_10_b18 rs σ1 else bd (rs (si (si σ1 10 18 ((σ1.1 10 18) + 1)) 10 17 (((si σ1 10 18 ((σ1.1 10 18) + 1)).1 10 17) + 1))) fun r2 σ2 => if r2 = 0 then m_readsClosed_10_b56 rs σ2 else bd (m_here_10 σ2) fun r3 σ3 => if r3 = 41 then some (1, si (si σ3 10 18 ((σ3.1 10 18) - 1)) 10 17 (((si σ3 10 18 ((σ3.1 10 18) - 1)).1 10 17) + 1)) else m_readsClosed_10_b56 rs σ3 else m_readsClosed_10_b18 rs σ1
def m_readsAtom_10_b107 (rs : Sg → Option (Int32 × Sg)) (σ : Sg) : Option (Int32 × Sg) :=
  bd (m_readsClosed_10 rs σ) fun r1 σ1 => gd (nbB r1) (some (r1, σ1))
def m_readsAtom_10_b75 (rs : Sg → Option (Int32 × Sg)) (σ : Sg) : Option (Int32 × Sg) :=
  some (1, σ)
def m_readsAtom_10_H47 (rs : Sg → Option (Int32 × Sg)) (k47 : Int32 → Sg → Option (Int32 × Sg)) (v1 : Int32) (σ : Sg) : Option (Int32 × Sg) :=
  if 3 ≤ v1 then m_readsAtom_10_b75 rs σ else bd (m_isDigit_10 σ) fun r1 σ1 => if r1 = 0 then m_readsAtom_10_b75 rs σ1 else k47 (v1 + 1) (si σ1 10 17 ((σ1.1 10 17) + 1))
def m_readsAtom_10_L47 (rs : Sg → Option (Int32 × Sg)) : Nat → Int32 → Sg → Option (Int32 × Sg)
  | 0, _, _ => none
  | n + 1, v1, σ => m_readsAtom_10_H47 rs (m_readsAtom_10_L47 rs n) v1 σ
def m_readsAtom_10 (rs : Sg → Option (Int32 × Sg)) (σ : Sg) : Option (Int32 × Sg) :=
  bd (m_here_10 σ) fun r1 σ1 => bd (m_isIn_s r1.toInt64 65 (((65 + (σ1.1 118 0)) - 1).toInt64) σ1) fun r2 σ2 => if r2 = 0 then bd (m_isDigit_10 σ2) fun r3 σ3 => if r3 = 0 then bd (m_here_10 σ3) fun r4 σ4 => if r4 = 115 then if (σ4.1 10 18) = 6 then some (0, σ4) else m_readsAtom_10_b107 rs (si σ4 10 17 ((σ4.1 10 17) + 1)) else m_readsAtom_10_b107 rs σ4 else m_readsAtom_10_L47 rs fu 0 σ3 else some (1, si σ2 10 17 ((σ2.1 10 17) + 1))
def m_readsPart_10_b72 (rs : Sg → Option (Int32 × Sg)) (v1 : Int32) (s1 : Int32) (s2 : Int32) (σ : Sg) : Option (Int32 × Sg) :=
  gd (nbB v1) (some (v1, si σ 10 17 (s1 + s2)))
def m_readsPart_10_b49 (rs : Sg → Option (Int32 × Sg)) (s1 : Int32) (s2 : Int32) (σ : Sg) : Option (Int32 × Sg) :=
  bd (m_isDigit_10 (si σ 10 17 (s1 + s2))) fun r1 σ1 => if r1 = 0 then m_readsPart_10_b72 rs r1 (σ1.1 10 17) 0 σ1 else m_readsPart_10_b72 rs r1 (σ1.1 10 17) 1 σ1
def m_readsPart_10 (rs : Sg → Option (Int32 × Sg)) (σ : Sg) : Option (Int32 × Sg) :=
  bd (m_readsAtom_10 rs σ) fun r1 σ1 => if r1 = 0 then some (0, σ1) else bd (m_here_10 σ1) fun r2 σ2 => if r2 = 94 then bd (m_here_10 (si σ2 10 17 ((σ2.1 10 17) + 1))) fun r3 σ3 => if r3 = 45 then m_readsPart_10_b49 rs ((si σ2 10 17 ((σ2.1 10 17) + 1)).1 10 17) 1 σ3 else m_readsPart_10_b49 rs ((si σ2 10 17 ((σ2.1 10 17) + 1)).1 10 17) 0 σ3 else some (1, σ2)
def m_readsTerm_10_H19 (rs : Sg → Option (Int32 × Sg)) (k19 : Sg → Option (Int32 × Sg)) (σ : Sg) : Option (Int32 × Sg) :=
  bd (m_isSigned_10 42 47 σ) fun r1 σ1 => if r1 = 0 then some (1, σ1) else bd (m_readsPart_10 rs (si σ1 10 17 ((σ1.1 10 17) + 1))) fun r2 σ2 => if r2 = 0 then some (0, σ2) else k19 σ2
def m_readsTerm_10_L19 (rs : Sg → Option (Int32 × Sg)) : Nat → Sg → Option (Int32 × Sg)
  | 0, _ => none
  | n + 1, σ => m_readsTerm_10_H19 rs (m_readsTerm_10_L19 rs n) σ
def m_readsTerm_10 (rs : Sg → Option (Int32 × Sg)) (σ : Sg) : Option (Int32 × Sg) :=
  bd (m_readsPart_10 rs (si σ 10 19 ((σ.1 10 19) + 1))) fun r1 σ1 => if r1 = 0 then some (0, σ1) else m_readsTerm_10_L19 rs fu σ1
def m_readsSum_10_H9 (rs : Sg → Option (Int32 × Sg)) (k9 : Sg → Option (Int32 × Sg)) (σ : Sg) : Option (Int32 × Sg) :=
  bd (m_isSigned_10 43 45 σ) fun r1 σ1 => if r1 = 0 then some (1, σ1) else bd (m_readsTerm_10 rs (si σ1 10 17 ((σ1.1 10 17) + 1))) fun r2 σ2 => if r2 = 0 then some (0, σ2) else k9 σ2
def m_readsSum_10_L9 (rs : Sg → Option (Int32 × Sg)) : Nat → Sg → Option (Int32 × Sg)
  | 0, _ => none
  | n + 1, σ => m_readsSum_10_H9 rs (m_readsSum_10_L9 rs n) σ
def m_readsSum_10_H (rs : Sg → Option (Int32 × Sg)) (σ : Sg) : Option (Int32 × Sg) :=
  bd (m_readsTerm_10 rs σ) fun r1 σ1 => if r1 = 0 then some (0, σ1) else m_readsSum_10_L9 rs fu σ1
def m_readsSum_10 : Nat → Sg → Option (Int32 × Sg)
  | 0, _ => none
  | n + 1, σ => m_readsSum_10_H (m_readsSum_10 n) σ
def m_readsBoth_10_b16 (σ : Sg) : Option (Int32 × Sg) :=
  some (0, σ)
def m_readsBoth_10_b51 (s0 : Int32) (σ : Sg) : Option (Int32 × Sg) :=
  gd (nbB s0) (some (s0, σ))
def m_readsBoth_10_b50 (σ : Sg) : Option (Int32 × Sg) :=
  m_readsBoth_10_b51 0 σ
def m_readsBoth_10 (σ : Sg) : Option (Int32 × Sg) :=
  bd (m_readsSum_10 12 σ) fun r1 σ1 => if r1 = 0 then m_readsBoth_10_b16 σ1 else bd (m_here_10 σ1) fun r2 σ2 => if r2 = 61 then bd (m_readsSum_10 12 (si σ2 10 17 ((σ2.1 10 17) + 1))) fun r3 σ3 => if r3 = 0 then m_readsBoth_10_b50 σ3 else if (σ3.1 10 17) = (σ3.1 10 5) then m_readsBoth_10_b51 1 σ3 else m_readsBoth_10_b50 σ3 else m_readsBoth_10_b16 σ2
def m_formula_10_b101 (s0 : Int32) (σ : Sg) : Option (Int32 × Sg) :=
  some (s0, σ)
def m_formula_10_b77 (v1 : Int32) (σ : Sg) : Option (Int32 × Sg) :=
  if v1 = 0 then m_formula_10_b101 ((-1000) - ((si σ 10 5 0).1 10 17)) (si σ 10 5 0) else m_formula_10_b101 ((si σ 10 5 0).1 10 19) (si σ 10 5 0)
def m_formula_10_H48 (k48 : Int32 → Int32 → Sg → Option (Int32 × Sg)) (v1 : Int32) (v2 : Int32) (σ : Sg) : Option (Int32 × Sg) :=
  if (σ.1 10 5) ≤ v2 then m_formula_10_b77 v1 σ else gd (inB v2 72) (gd (inB (67 + v2) 139) (k48 v1 (v2 + 1) (si σ 118 (67 + v2).toNatClampNeg (σ.1 121 v2.toNatClampNeg))))
def m_formula_10_L48 : Nat → Int32 → Int32 → Sg → Option (Int32 × Sg)
  | 0, _, _, _ => none
  | n + 1, v1, v2, σ => m_formula_10_H48 (m_formula_10_L48 n) v1 v2 σ
def m_formula_10 (σ : Sg) : Option (Int32 × Sg) :=
  bd (m_readsBoth_10 (si (si (si σ 10 17 0) 10 18 0) 10 19 0)) fun r1 σ1 => if r1 = 0 then m_formula_10_b77 r1 σ1 else m_formula_10_L48 fu r1 0 (si (si σ1 118 65 (σ1.1 10 19)) 118 66 ((si σ1 118 65 (σ1.1 10 19)).1 10 5))
def m_sign_10_b30 (s0 : Int32) (σ : Sg) : Option (Int32 × Sg) :=
  some (s0, σ)
def m_sign_10 (σ : Sg) : Option (Int32 × Sg) :=
  if (σ.1 118 66) ≤ (σ.1 10 23) then m_sign_10_b30 (-1) σ else gd (inB (67 + (σ.1 10 23)) 139) (m_sign_10_b30 (σ.1 118 (67 + (σ.1 10 23)).toNatClampNeg) σ)
def m_isPureAt_10_b28 (k4 : Int32 → Int32 → Int32 → Sg → Option (Int32 × Sg)) (v1 : Int32) (v3 : Int32) (s0 : Int32) (s1 : Int32) (σ : Sg) : Option (Int32 × Sg) :=
  k4 v1 (s0 &&& s1) (v3 + 1) σ
def m_isPureAt_10_H4 (k4 : Int32 → Int32 → Int32 → Sg → Option (Int32 × Sg)) (v1 : Int32) (v2 : Int32) (v3 : Int32) (σ : Sg) : Option (Int32 × Sg) :=
  if 5 ≤ v3 then gd (nbB v2) (some (v2, σ)) else gd (inB ((5 * v1) + v3) 200) (if (σ.1 132 ((5 * v1) + v3).toNatClampNeg) = 0 then m_isPureAt_10_b28 k4 v1 v3 v2 1 σ else m_isPureAt_10_b28 k4 v1 v3 v2 0 σ)
def m_isPureAt_10_L4 : Nat → Int32 → Int32 → Int32 → Sg → Option (Int32 × Sg)
  | 0, _, _, _, _ => none
  | n + 1, v1, v2, v3, σ => m_isPureAt_10_H4 (m_isPureAt_10_L4 n) v1 v2 v3 σ
def m_isPureAt_10 (v1 : Int32) (σ : Sg) : Option (Int32 × Sg) :=
  m_isPureAt_10_L4 fu v1 1 0 σ
def m_sets2_10_H2 (k2 : Int32 → Int32 → Int32 → Sg → Option (Unit × Sg)) (v1 : Int32) (v2 : Int32) (v3 : Int32) (σ : Sg) : Option (Unit × Sg) :=
  if 5 ≤ v3 then some ((), σ) else gd (inB ((5 * v1) + v3) 200) (k2 v1 v2 (v3 + 1) (si σ 132 ((5 * v1) + v3).toNatClampNeg v2))
def m_sets2_10_L2 : Nat → Int32 → Int32 → Int32 → Sg → Option (Unit × Sg)
  | 0, _, _, _, _ => none
  | n + 1, v1, v2, v3, σ => m_sets2_10_H2 (m_sets2_10_L2 n) v1 v2 v3 σ
def m_sets2_10 (v1 : Int32) (v2 : Int32) (σ : Sg) : Option (Unit × Sg) :=
  m_sets2_10_L2 fu v1 v2 0 σ
def m_atom_10_b210 (rs : Int32 → Sg → Option (Unit × Sg)) (σ : Sg) : Option (Unit × Sg) :=
  some ((), σ)
def m_atom_10_H180 (rs : Int32 → Sg → Option (Unit × Sg)) (k180 : Sg → Option (Unit × Sg)) (σ : Sg) : Option (Unit × Sg) :=
  bd (m_sign_10 σ) fun r1 σ1 => bd (m_isIn_s r1.toInt64 48 57 σ1) fun r2 σ2 => if r2 = 0 then m_atom_10_b210 rs σ2 else k180 (si σ2 10 23 ((σ2.1 10 23) + 1))
def m_atom_10_L180 (rs : Int32 → Sg → Option (Unit × Sg)) : Nat → Sg → Option (Unit × Sg)
  | 0, _ => none
  | n + 1, σ => m_atom_10_H180 rs (m_atom_10_L180 rs n) σ
def m_atom_10_b169 (rs : Int32 → Sg → Option (Unit × Sg)) (v1 : Int32) (s1 : Int32) (s2 : Int32) (s3 : Int32) (σ : Sg) : Option (Unit × Sg) :=
  gd (inB s1 72) (bd (m_sets2_10 v1 0 (si σ 134 s1.toNatClampNeg ((s2 ||| s3) &&& 1))) fun _ σ2 => m_atom_10_b210 rs σ2)
def m_atom_10_H58 (rs : Int32 → Sg → Option (Unit × Sg)) (k58 : Int32 → Int32 → Int32 → Sg → Option (Unit × Sg)) (v1 : Int32) (v2 : Int32) (v4 : Int32) (σ : Sg) : Option (Unit × Sg) :=
  if 5 ≤ v4 then m_atom_10_b210 rs σ else bd (m_powerOf_10 (v2 - 65) v4 σ) fun r1 σ1 => gd (inB ((5 * v1) + v4) 200) (k58 v1 v2 (v4 + 1) (si σ1 132 ((5 * v1) + v4).toNatClampNeg r1))
def m_atom_10_L58 (rs : Int32 → Sg → Option (Unit × Sg)) : Nat → Int32 → Int32 → Int32 → Sg → Option (Unit × Sg)
  | 0, _, _, _, _ => none
  | n + 1, v1, v2, v4, σ => m_atom_10_H58 rs (m_atom_10_L58 rs n) v1 v2 v4 σ
def m_atom_10 (rs : Int32 → Sg → Option (Unit × Sg)) (v1 : Int32) (σ : Sg) : Option (Unit × Sg) :=
  bd (m_sign_10 σ) fun r1 σ1 => bd (m_sets2_10 v1 0 (si σ1 10 23 ((σ1.1 10 23) + 1))) fun _ σ2 => bd (m_isIn_s r1.toInt64 65 90 σ2) fun r3 σ3 => if r3 = 0 then if r1 = 40 then bd (rs v1 σ3) fun _ σ9 => m_atom_10_b210 rs (si σ9 10 23 ((σ9.1 10 23) + 1)) else if r1 = 115 then bd (rs v1 (si σ3 10 23 ((σ3.1 10 23) + 1))) fun _ σ4 => gd (inB (σ1.1 10 23) 72) (bd (m_isPureAt_10 v1 (si σ4 10 23 ((σ4.1 10 23) + 1))) fun r6 σ6 => if r6 = 0 then m_atom_10_b169 rs v1 (σ1.1 10 23) ((si σ4 10 23 ((σ4.1 10 23) + 1)).1 134 (σ1.1 10 23).toNatClampNeg) 1 σ6 else m_atom_10_b169 rs v1 (σ1.1 10 23) ((si σ4 10 23 ((σ4.1 10 23) + 1)).1 134 (σ1.1 10 23).toNatClampNeg) 0 σ6) else m_atom_10_L180 rs fu σ3 else m_atom_10_L58 rs fu v1 r1 0 (si σ3 10 24 ((σ3.1 10 24) ||| ((1 : Int32) <<< ((r1 - 65) &&& 31))))
def m_part_10_H80 (rs : Int32 → Sg → Option (Unit × Sg)) (k80 : Int32 → Int32 → Int32 → Sg → Option (Unit × Sg)) (v1 : Int32) (v2 : Int32) (v3 : Int32) (σ : Sg) : Option (Unit × Sg) :=
  if 5 ≤ v3 then some ((), σ) else gd (inB ((5 * v1) + v3) 200) (gd (inB ((5 * v1) + v3) 200) (k80 v1 v2 (v3 + 1) (si σ 132 ((5 * v1) + v3).toNatClampNeg ((σ.1 132 ((5 * v1) + v3).toNatClampNeg) * v2))))
def m_part_10_L80 (rs : Int32 → Sg → Option (Unit × Sg)) : Nat → Int32 → Int32 → Int32 → Sg → Option (Unit × Sg)
  | 0, _, _, _, _ => none
  | n + 1, v1, v2, v3, σ => m_part_10_H80 rs (m_part_10_L80 rs n) v1 v2 v3 σ
def m_part_10_b54 (rs : Int32 → Sg → Option (Unit × Sg)) (v1 : Int32) (v2 : Int32) (s1 : Int32) (s2 : Int32) (σ : Sg) : Option (Unit × Sg) :=
  bd (m_sign_10 (si σ 10 23 (s1 + s2))) fun r1 σ1 => m_part_10_L80 rs fu v1 (v2 * (r1 - 48)) 0 (si σ1 10 23 ((σ1.1 10 23) + 1))
def m_part_10_b39 (rs : Int32 → Sg → Option (Unit × Sg)) (v1 : Int32) (s0 : Int32) (σ : Sg) : Option (Unit × Sg) :=
  if 0 ≤ s0 then m_part_10_b54 rs v1 s0 (σ.1 10 23) 0 σ else m_part_10_b54 rs v1 s0 (σ.1 10 23) 1 σ
def m_part_10 (rs : Int32 → Sg → Option (Unit × Sg)) (v1 : Int32) (σ : Sg) : Option (Unit × Sg) :=
  bd (m_atom_10 rs v1 σ) fun _ σ1 => bd (m_sign_10 σ1) fun r2 σ2 => if r2 = 94 then bd (m_sign_10 (si σ2 10 23 ((σ2.1 10 23) + 1))) fun r3 σ3 => if r3 = 45 then m_part_10_b39 rs v1 (-1) σ3 else m_part_10_b39 rs v1 1 σ3 else some ((), σ2)
def m_term_10_H57 (rs : Int32 → Sg → Option (Unit × Sg)) (k5 : Int32 → Sg → Option (Unit × Sg)) (k57 : Int32 → Int32 → Int32 → Sg → Option (Unit × Sg)) (v1 : Int32) (v2 : Int32) (v3 : Int32) (σ : Sg) : Option (Unit × Sg) :=
  if 5 ≤ v3 then k5 v1 σ else gd (inB ((5 * v1) + v3) 200) (gd (inB ((5 * (v1 + 1)) + v3) 200) (gd (inB ((5 * v1) + v3) 200) (k57 v1 v2 (v3 + 1) (si σ 132 ((5 * v1) + v3).toNatClampNeg ((σ.1 132 ((5 * v1) + v3).toNatClampNeg) + (v2 * (σ.1 132 ((5 * (v1 + 1)) + v3).toNatClampNeg)))))))
def m_term_10_L57 (rs : Int32 → Sg → Option (Unit × Sg)) (k5 : Int32 → Sg → Option (Unit × Sg)) : Nat → Int32 → Int32 → Int32 → Sg → Option (Unit × Sg)
  | 0, _, _, _, _ => none
  | n + 1, v1, v2, v3, σ => m_term_10_H57 rs k5 (m_term_10_L57 rs k5 n) v1 v2 v3 σ
def m_term_10_b37 (rs : Int32 → Sg → Option (Unit × Sg)) (k5 : Int32 → Sg → Option (Unit × Sg)) (v1 : Int32) (s0 : Int32) (σ : Sg) : Option (Unit × Sg) :=
  bd (m_part_10 rs (v1 + 1) (si σ 10 23 ((σ.1 10 23) + 1))) fun _ σ1 => m_term_10_L57 rs k5 fu v1 s0 0 σ1
def m_term_10_b23 (rs : Int32 → Sg → Option (Unit × Sg)) (k5 : Int32 → Sg → Option (Unit × Sg)) (v1 : Int32) (σ : Sg) : Option (Unit × Sg) :=
  bd (m_sign_10 σ) fun r1 σ1 => if r1 = 42 then m_term_10_b37 rs k5 v1 1 σ1 else m_term_10_b37 rs k5 v1 (-1) σ1
def m_term_10_H5 (rs : Int32 → Sg → Option (Unit × Sg)) (k5 : Int32 → Sg → Option (Unit × Sg)) (v1 : Int32) (σ : Sg) : Option (Unit × Sg) :=
  bd (m_sign_10 σ) fun r1 σ1 => if r1 = 42 then m_term_10_b23 rs k5 v1 σ1 else bd (m_sign_10 σ1) fun r2 σ2 => if r2 = 47 then m_term_10_b23 rs k5 v1 σ2 else some ((), σ2)
def m_term_10_L5 (rs : Int32 → Sg → Option (Unit × Sg)) : Nat → Int32 → Sg → Option (Unit × Sg)
  | 0, _, _ => none
  | n + 1, v1, σ => m_term_10_H5 rs (m_term_10_L5 rs n) v1 σ
def m_term_10 (rs : Int32 → Sg → Option (Unit × Sg)) (v1 : Int32) (σ : Sg) : Option (Unit × Sg) :=
  bd (m_part_10 rs v1 σ) fun _ σ1 => m_term_10_L5 rs fu v1 σ1
def m_sum_10_b89 (rs : Int32 → Sg → Option (Unit × Sg)) (k5 : Int32 → Sg → Option (Unit × Sg)) (k47 : Int32 → Int32 → Int32 → Sg → Option (Unit × Sg)) (v1 : Int32) (v2 : Int32) (v3 : Int32) (s1 : Int32) (s2 : Int32) (s3 : Int32) (σ : Sg) : Option (Unit × Sg) :=
  gd (inB s1 72) (k47 v1 v2 (v3 + 1) (si σ 134 s1.toNatClampNeg ((s2 ||| s3) &&& 1)))
def m_sum_10_H47 (rs : Int32 → Sg → Option (Unit × Sg)) (k5 : Int32 → Sg → Option (Unit × Sg)) (k47 : Int32 → Int32 → Int32 → Sg → Option (Unit × Sg)) (v1 : Int32) (v2 : Int32) (v3 : Int32) (σ : Sg) : Option (Unit × Sg) :=
  if 5 ≤ v3 then k5 v1 σ else gd (inB v2 72) (gd (inB ((5 * v1) + v3) 200) (gd (inB ((5 * (v1 + 1)) + v3) 200) (if (σ.1 132 ((5 * v1) + v3).toNatClampNeg) = (σ.1 132 ((5 * (v1 + 1)) + v3).toNatClampNeg) then m_sum_10_b89 rs k5 k47 v1 v2 v3 v2 (σ.1 134 v2.toNatClampNeg) 0 σ else m_sum_10_b89 rs k5 k47 v1 v2 v3 v2 (σ.1 134 v2.toNatClampNeg) 1 σ)))
def m_sum_10_L47 (rs : Int32 → Sg → Option (Unit × Sg)) (k5 : Int32 → Sg → Option (Unit × Sg)) : Nat → Int32 → Int32 → Int32 → Sg → Option (Unit × Sg)
  | 0, _, _, _, _ => none
  | n + 1, v1, v2, v3, σ => m_sum_10_H47 rs k5 (m_sum_10_L47 rs k5 n) v1 v2 v3 σ
def m_sum_10_b23 (rs : Int32 → Sg → Option (Unit × Sg)) (k5 : Int32 → Sg → Option (Unit × Sg)) (v1 : Int32) (σ : Sg) : Option (Unit × Sg) :=
  bd (m_term_10 rs (v1 + 1) (si σ 10 23 ((σ.1 10 23) + 1))) fun _ σ1 => m_sum_10_L47 rs k5 fu v1 ((si σ 10 23 ((σ.1 10 23) + 1)).1 10 23) 0 σ1
def m_sum_10_H5 (rs : Int32 → Sg → Option (Unit × Sg)) (k5 : Int32 → Sg → Option (Unit × Sg)) (v1 : Int32) (σ : Sg) : Option (Unit × Sg) :=
  bd (m_sign_10 σ) fun r1 σ1 => if r1 = 43 then m_sum_10_b23 rs k5 v1 σ1 else bd (m_sign_10 σ1) fun r2 σ2 => if r2 = 45 then m_sum_10_b23 rs k5 v1 σ2 else some ((), σ2)
def m_sum_10_L5 (rs : Int32 → Sg → Option (Unit × Sg)) : Nat → Int32 → Sg → Option (Unit × Sg)
  | 0, _, _ => none
  | n + 1, v1, σ => m_sum_10_H5 rs (m_sum_10_L5 rs n) v1 σ
def m_sum_10_H (rs : Int32 → Sg → Option (Unit × Sg)) (v1 : Int32) (σ : Sg) : Option (Unit × Sg) :=
  bd (m_term_10 rs v1 σ) fun _ σ1 => m_sum_10_L5 rs fu v1 σ1
def m_sum_10 : Nat → Int32 → Sg → Option (Unit × Sg)
  | 0, _, _ => none
  | n + 1, v1, σ => m_sum_10_H (m_sum_10 n) v1 σ
def m_goesThrough_10_b139 (k102 : Int32 → Sg → Option (Unit × Sg)) (v1 : Int32) (s1 : Int32) (s2 : Int32) (s3 : Int32) (σ : Sg) : Option (Unit × Sg) :=
  gd (inB s1 72) (k102 (v1 + 1) (si σ 134 s1.toNatClampNeg ((s2 ||| s3) &&& 1)))
def m_goesThrough_10_H102 (k102 : Int32 → Sg → Option (Unit × Sg)) (v1 : Int32) (σ : Sg) : Option (Unit × Sg) :=
  if 5 ≤ v1 then some ((), σ) else gd (inB (σ.1 10 25) 72) (gd (inB v1 10) (gd (inB (5 + v1) 10) (if (σ.1 133 v1.toNatClampNeg) = (σ.1 133 (5 + v1).toNatClampNeg) then m_goesThrough_10_b139 k102 v1 (σ.1 10 25) (σ.1 134 (σ.1 10 25).toNatClampNeg) 0 σ else m_goesThrough_10_b139 k102 v1 (σ.1 10 25) (σ.1 134 (σ.1 10 25).toNatClampNeg) 1 σ)))
def m_goesThrough_10_L102 : Nat → Int32 → Sg → Option (Unit × Sg)
  | 0, _, _ => none
  | n + 1, v1, σ => m_goesThrough_10_H102 (m_goesThrough_10_L102 n) v1 σ
def m_goesThrough_10_b84 (k33 : Int32 → Sg → Option (Unit × Sg)) (v1 : Int32) (σ : Sg) : Option (Unit × Sg) :=
  k33 (v1 + 1) (si σ 10 23 ((σ.1 10 23) + 1))
def m_goesThrough_10_H45 (k33 : Int32 → Sg → Option (Unit × Sg)) (k45 : Int32 → Int32 → Sg → Option (Unit × Sg)) (v1 : Int32) (v2 : Int32) (σ : Sg) : Option (Unit × Sg) :=
  if 5 ≤ v2 then if v1 = 0 then m_goesThrough_10_b84 k33 v1 (si σ 10 25 (σ.1 10 23)) else m_goesThrough_10_b84 k33 v1 σ else gd (inB v2 200) (gd (inB ((5 * v1) + v2) 10) (k45 v1 (v2 + 1) (si σ 133 ((5 * v1) + v2).toNatClampNeg (σ.1 132 v2.toNatClampNeg))))
def m_goesThrough_10_L45 (k33 : Int32 → Sg → Option (Unit × Sg)) : Nat → Int32 → Int32 → Sg → Option (Unit × Sg)
  | 0, _, _, _ => none
  | n + 1, v1, v2, σ => m_goesThrough_10_H45 k33 (m_goesThrough_10_L45 k33 n) v1 v2 σ
def m_goesThrough_10_H33 (k33 : Int32 → Sg → Option (Unit × Sg)) (v1 : Int32) (σ : Sg) : Option (Unit × Sg) :=
  if 2 ≤ v1 then m_goesThrough_10_L102 fu 0 σ else bd (m_sum_10 12 0 σ) fun _ σ1 => m_goesThrough_10_L45 k33 fu v1 0 σ1
def m_goesThrough_10_L33 : Nat → Int32 → Sg → Option (Unit × Sg)
  | 0, _, _ => none
  | n + 1, v1, σ => m_goesThrough_10_H33 (m_goesThrough_10_L33 n) v1 σ
def m_goesThrough_10_H2 (k2 : Int32 → Sg → Option (Unit × Sg)) (v1 : Int32) (σ : Sg) : Option (Unit × Sg) :=
  if 72 ≤ v1 then m_goesThrough_10_L33 fu 0 (si (si σ 10 23 0) 10 24 0) else gd (inB v1 72) (k2 (v1 + 1) (si σ 134 v1.toNatClampNeg (0 &&& 1)))
def m_goesThrough_10_L2 : Nat → Int32 → Sg → Option (Unit × Sg)
  | 0, _, _ => none
  | n + 1, v1, σ => m_goesThrough_10_H2 (m_goesThrough_10_L2 n) v1 σ
def m_goesThrough_10 (σ : Sg) : Option (Unit × Sg) :=
  m_goesThrough_10_L2 fu 0 σ
def m_wrong_10_b114 (s0 : Int32) (σ : Sg) : Option (Int32 × Sg) :=
  some (s0, σ)
def m_wrong_10_b86 (k47 : Int32 → Int32 → Int32 → Int32 → Sg → Option (Int32 × Sg)) (v1 : Int32) (v2 : Int32) (v4 : Int32) (s0 : Int32) (σ : Sg) : Option (Int32 × Sg) :=
  k47 v1 v2 s0 (v4 + (-1)) σ
def m_wrong_10_b68 (k47 : Int32 → Int32 → Int32 → Int32 → Sg → Option (Int32 × Sg)) (v1 : Int32) (v3 : Int32) (v4 : Int32) (s0 : Int32) (s1 : Int32) (σ : Sg) : Option (Int32 × Sg) :=
  gd (inB v4 72) (if (σ.1 134 v4.toNatClampNeg) = 0 then m_wrong_10_b86 k47 v1 (s0 + s1) v4 v3 σ else m_wrong_10_b86 k47 v1 (s0 + s1) v4 v4 σ)
def m_wrong_10_H47 (k47 : Int32 → Int32 → Int32 → Int32 → Sg → Option (Int32 × Sg)) (v1 : Int32) (v2 : Int32) (v3 : Int32) (v4 : Int32) (σ : Sg) : Option (Int32 × Sg) :=
  if v4 < 0 then if v1 = 0 then m_wrong_10_b114 v3 σ else if v1 = 1 then m_wrong_10_b114 v2 σ else m_wrong_10_b114 (σ.1 10 24) σ else gd (inB v4 72) (if (σ.1 134 v4.toNatClampNeg) = 0 then m_wrong_10_b68 k47 v1 v3 v4 v2 0 σ else m_wrong_10_b68 k47 v1 v3 v4 v2 1 σ)
def m_wrong_10_L47 : Nat → Int32 → Int32 → Int32 → Int32 → Sg → Option (Int32 × Sg)
  | 0, _, _, _, _, _ => none
  | n + 1, v1, v2, v3, v4, σ => m_wrong_10_H47 (m_wrong_10_L47 n) v1 v2 v3 v4 σ
def m_wrong_10 (v1 : Int32) (σ : Sg) : Option (Int32 × Sg) :=
  bd (m_isIn_s v1.toInt64 0 2 σ) fun r1 σ1 => if r1 = 0 then bd (m_refuse_10 2 σ1) fun r5 σ5 => some (r5, σ5) else if (σ1.1 118 66) = 0 then bd (m_refuse_10 3 σ1) fun r3 σ3 => some (r3, σ3) else bd (m_goesThrough_10 σ1) fun _ σ2 => m_wrong_10_L47 fu v1 0 (-9) 71 σ2
def m_sides_10_b84 (s0 : Int32) (σ : Sg) : Option (Int32 × Sg) :=
  some (s0, σ)
def m_sides_10 (v1 : Int32) (v2 : Int32) (σ : Sg) : Option (Int32 × Sg) :=
  bd (m_isUnit_s v2 σ) fun r1 σ1 => if r1 = 0 then bd (m_refuseFar_10 1 σ1) fun r12 σ12 => some (r12, σ12) else bd (m_isIn_s v1.toInt64 0 2 σ1) fun r2 σ2 => if r2 = 0 then bd (m_refuseFar_10 2 σ2) fun r10 σ10 => some (r10, σ10) else if (σ2.1 118 66) = 0 then bd (m_refuseFar_10 3 σ2) fun r8 σ8 => some (r8, σ8) else bd (m_goesThrough_10 σ2) fun _ σ3 => if 2 ≤ v1 then gd (inB v2 10) (gd (inB (5 + v2) 10) (m_sides_10_b84 ((σ3.1 133 v2.toNatClampNeg) - (σ3.1 133 (5 + v2).toNatClampNeg)) σ3)) else gd (inB ((5 * v1) + v2) 10) (m_sides_10_b84 (σ3.1 133 ((5 * v1) + v2).toNatClampNeg) σ3)
def m_mend_10_H33 (k33 : Int32 → Int32 → Sg → Option (Int32 × Sg)) (v1 : Int32) (v2 : Int32) (σ : Sg) : Option (Int32 × Sg) :=
  if 5 ≤ v2 then bd (m_fewestOf_10 v1 σ) fun r1 σ1 => some (r1, σ1) else gd (inB v2 10) (gd (inB (5 + v2) 10) (gd (inB v2 5) (k33 v1 (v2 + 1) (si σ 130 v2.toNatClampNeg ((σ.1 133 v2.toNatClampNeg) - (σ.1 133 (5 + v2).toNatClampNeg))))))
def m_mend_10_L33 : Nat → Int32 → Int32 → Sg → Option (Int32 × Sg)
  | 0, _, _, _ => none
  | n + 1, v1, v2, σ => m_mend_10_H33 (m_mend_10_L33 n) v1 v2 σ
def m_mend_10 (v1 : Int32) (σ : Sg) : Option (Int32 × Sg) :=
  if (-1) ≤ v1 then if (σ.1 118 66) = 0 then bd (m_refuse_10 3 σ) fun r2 σ2 => some (r2, σ2) else bd (m_goesThrough_10 σ) fun _ σ1 => m_mend_10_L33 fu v1 0 σ1 else bd (m_refuse_10 4 σ) fun r4 σ4 => some (r4, σ4)
def m_draws_10 (v1 : Int32) (σ : Sg) : Option (Int32 × Sg) :=
  gd (neB v1) (some (irm ((((si σ 10 26 (((σ.1 10 26) * 1664525) + 1013904223)).1 10 26) &&& 2147483647) / 256) v1, si σ 10 26 (((σ.1 10 26) * 1664525) + 1013904223)))
def m_lots_10_b205 (s0 : Int32) (σ : Sg) : Option (Int32 × Sg) :=
  some (s0, σ)
def m_lots_10_b179 (k54 : Int32 → Int32 → Int32 → Int32 → Int32 → Sg → Option (Int32 × Sg)) (k114 : Int32 → Int32 → Int32 → Int32 → Int32 → Int32 → Sg → Option (Int32 × Sg)) (v1 : Int32) (v3 : Int32) (v4 : Int32) (v6 : Int32) (v7 : Int32) (s0 : Int32) (s1 : Int32) (σ : Sg) : Option (Int32 × Sg) :=
  k114 v1 v3 v4 (s0 + s1) v6 (v7 + 1) σ
def m_lots_10_H126 (k54 : Int32 → Int32 → Int32 → Int32 → Int32 → Sg → Option (Int32 × Sg)) (k114 : Int32 → Int32 → Int32 → Int32 → Int32 → Int32 → Sg → Option (Int32 × Sg)) (k126 : Int32 → Int32 → Int32 → Int32 → Int32 → Int32 → Int32 → Int32 → Sg → Option (Int32 × Sg)) (v1 : Int32) (v3 : Int32) (v4 : Int32) (v5 : Int32) (v6 : Int32) (v7 : Int32) (v8 : Int32) (v9 : Int32) (σ : Sg) : Option (Int32 × Sg) :=
  if (σ.1 118 0) ≤ v9 then if 0 ≤ v8 then m_lots_10_b179 k54 k114 v1 v3 v4 v6 v7 v5 v8 σ else m_lots_10_b179 k54 k114 v1 v3 v4 v6 v7 v5 (-v8) σ else gd (inB v9 8) (bd (m_powerOf_10 v9 v7 σ) fun r3 σ3 => k126 v1 v3 v4 v5 v6 v7 (v8 + ((σ.1 128 v9.toNatClampNeg) * r3)) (v9 + 1) σ3)
def m_lots_10_L126 (k54 : Int32 → Int32 → Int32 → Int32 → Int32 → Sg → Option (Int32 × Sg)) (k114 : Int32 → Int32 → Int32 → Int32 → Int32 → Int32 → Sg → Option (Int32 × Sg)) : Nat → Int32 → Int32 → Int32 → Int32 → Int32 → Int32 → Int32 → Int32 → Sg → Option (Int32 × Sg)
  | 0, _, _, _, _, _, _, _, _, _ => none
  | n + 1, v1, v3, v4, v5, v6, v7, v8, v9, σ => m_lots_10_H126 k54 k114 (m_lots_10_L126 k54 k114 n) v1 v3 v4 v5 v6 v7 v8 v9 σ
def m_lots_10_H114 (k54 : Int32 → Int32 → Int32 → Int32 → Int32 → Sg → Option (Int32 × Sg)) (k114 : Int32 → Int32 → Int32 → Int32 → Int32 → Int32 → Sg → Option (Int32 × Sg)) (v1 : Int32) (v3 : Int32) (v4 : Int32) (v5 : Int32) (v6 : Int32) (v7 : Int32) (σ : Sg) : Option (Int32 × Sg) :=
  if 5 ≤ v7 then k54 v1 v3 v4 v5 (v6 + 1) σ else m_lots_10_L126 k54 k114 fu v1 v3 v4 v5 v6 v7 0 0 σ
def m_lots_10_L114 (k54 : Int32 → Int32 → Int32 → Int32 → Int32 → Sg → Option (Int32 × Sg)) : Nat → Int32 → Int32 → Int32 → Int32 → Int32 → Int32 → Sg → Option (Int32 × Sg)
  | 0, _, _, _, _, _, _, _ => none
  | n + 1, v1, v3, v4, v5, v6, v7, σ => m_lots_10_H114 k54 (m_lots_10_L114 k54 n) v1 v3 v4 v5 v6 v7 σ
def m_lots_10_b108 (k54 : Int32 → Int32 → Int32 → Int32 → Int32 → Sg → Option (Int32 × Sg)) (v1 : Int32) (v3 : Int32) (v5 : Int32) (v6 : Int32) (s0 : Int32) (s1 : Int32) (σ : Sg) : Option (Int32 × Sg) :=
  m_lots_10_L114 k54 fu v1 v3 (s0 + s1) v5 v6 0 σ
def m_lots_10_H63 (k54 : Int32 → Int32 → Int32 → Int32 → Int32 → Sg → Option (Int32 × Sg)) (k63 : Int32 → Int32 → Int32 → Int32 → Int32 → Int32 → Sg → Option (Int32 × Sg)) (v1 : Int32) (v3 : Int32) (v4 : Int32) (v5 : Int32) (v6 : Int32) (v7 : Int32) (σ : Sg) : Option (Int32 × Sg) :=
  if (σ.1 118 0) ≤ v7 then bd (m_isToldPure_10 σ) fun r1 σ1 => if r1 = 0 then m_lots_10_b108 k54 v1 v3 v5 v6 v4 0 σ1 else m_lots_10_b108 k54 v1 v3 v5 v6 v4 1 σ1 else bd (m_draws_10 5 σ) fun r3 σ3 => gd (inB v7 8) (k63 v1 v3 v4 v5 v6 (v7 + 1) (si σ3 128 v7.toNatClampNeg (r3 - 2)))
def m_lots_10_L63 (k54 : Int32 → Int32 → Int32 → Int32 → Int32 → Sg → Option (Int32 × Sg)) : Nat → Int32 → Int32 → Int32 → Int32 → Int32 → Int32 → Sg → Option (Int32 × Sg)
  | 0, _, _, _, _, _, _, _ => none
  | n + 1, v1, v3, v4, v5, v6, v7, σ => m_lots_10_H63 k54 (m_lots_10_L63 k54 n) v1 v3 v4 v5 v6 v7 σ
def m_lots_10_H54 (k54 : Int32 → Int32 → Int32 → Int32 → Int32 → Sg → Option (Int32 × Sg)) (v1 : Int32) (v3 : Int32) (v4 : Int32) (v5 : Int32) (v6 : Int32) (σ : Sg) : Option (Int32 × Sg) :=
  if v1 ≤ v6 then if v3 = 0 then m_lots_10_b205 v4 σ else m_lots_10_b205 v5 σ else m_lots_10_L63 k54 fu v1 v3 v4 v5 v6 0 σ
def m_lots_10_L54 : Nat → Int32 → Int32 → Int32 → Int32 → Int32 → Sg → Option (Int32 × Sg)
  | 0, _, _, _, _, _, _ => none
  | n + 1, v1, v3, v4, v5, v6, σ => m_lots_10_H54 (m_lots_10_L54 n) v1 v3 v4 v5 v6 σ
def m_lots_10 (v1 : Int32) (v2 : Int32) (v3 : Int32) (σ : Sg) : Option (Int32 × Sg) :=
  if 1 ≤ v1 then if v1 ≤ 50 then bd (m_isIn_s v3.toInt64 0 1 σ) fun r1 σ1 => if r1 = 0 then bd (m_refuse_10 2 σ1) fun r2 σ2 => some (r2, σ2) else m_lots_10_L54 fu v1 v3 0 0 0 (si σ1 10 26 v2) else bd (m_refuse_10 6 σ) fun r4 σ4 => some (r4, σ4) else bd (m_refuse_10 4 σ) fun r6 σ6 => some (r6, σ6)
def m_list_10_H46 (k46 : Int32 → Int32 → Sg → Option (Int32 × Sg)) (v1 : Int32) (v3 : Int32) (σ : Sg) : Option (Int32 × Sg) :=
  if 40 ≤ v3 then some (1, σ) else gd (inB ((40 * v1) + v3) 120) (k46 v1 (v3 + 1) (si σ 127 ((40 * v1) + v3).toNatClampNeg 0))
def m_list_10_L46 : Nat → Int32 → Int32 → Sg → Option (Int32 × Sg)
  | 0, _, _, _ => none
  | n + 1, v1, v3, σ => m_list_10_H46 (m_list_10_L46 n) v1 v3 σ
def m_list_10 (v1 : Int32) (v2 : Int32) (σ : Sg) : Option (Int32 × Sg) :=
  bd (m_isList_s v1 σ) fun r1 σ1 => if r1 = 0 then bd (m_refuse_10 1 σ1) fun r7 σ7 => some (r7, σ7) else if v2 ≤ 40 then if 0 ≤ v2 then gd (inB v1 3) (m_list_10_L46 fu v1 0 (si σ1 126 v1.toNatClampNeg v2)) else bd (m_refuse_10 14 σ1) fun r3 σ3 => some (r3, σ3) else bd (m_refuse_10 6 σ1) fun r5 σ5 => some (r5, σ5)
def m_isCell_10 (v1 : Int32) (v2 : Int32) (σ : Sg) : Option (Int32 × Sg) :=
  gd (inB v1 3) (bd (m_isIn_s v2.toInt64 0 (((σ.1 126 v1.toNatClampNeg) - 1).toInt64) σ) fun r2 σ2 => gd (nbB r2) (some (r2, σ2)))
def m_wrongCell_10_b40 (s0 : Int32) (σ : Sg) : Option (Int32 × Sg) :=
  some (s0, σ)
def m_wrongCell_10 (v1 : Int32) (v2 : Int32) (σ : Sg) : Option (Int32 × Sg) :=
  bd (m_isList_s v1 σ) fun r1 σ1 => if r1 = 0 then m_wrongCell_10_b40 1 σ1 else gd (inB v1 3) (if 0 ≤ (σ1.1 126 v1.toNatClampNeg) then bd (m_isCell_10 v1 v2 σ1) fun r3 σ3 => if r3 = 0 then m_wrongCell_10_b40 13 σ3 else m_wrongCell_10_b40 0 σ3 else m_wrongCell_10_b40 11 σ1)
def m_put_10 (v1 : Int32) (v2 : Int32) (v3 : Int32) (σ : Sg) : Option (Int32 × Sg) :=
  bd (m_wrongCell_10 v1 v2 σ) fun r1 σ1 => if r1 = 0 then gd (inB ((40 * v1) + v2) 120) (some (1, si σ1 127 ((40 * v1) + v2).toNatClampNeg v3)) else bd (m_refuse_10 r1 σ1) fun r3 σ3 => some (r3, σ3)
def m_look_10_b30 (s0 : Int32) (σ : Sg) : Option (Int32 × Sg) :=
  some (s0, σ)
def m_look_10 (v1 : Int32) (v2 : Int32) (σ : Sg) : Option (Int32 × Sg) :=
  bd (m_wrongCell_10 v1 v2 σ) fun r1 σ1 => if r1 = 0 then gd (inB ((40 * v1) + v2) 120) (m_look_10_b30 (σ1.1 127 ((40 * v1) + v2).toNatClampNeg) σ1) else bd (m_refuseFar_10 r1 σ1) fun r3 σ3 => m_look_10_b30 r3 σ3
def m_lays3_10_b19 (σ : Sg) : Option (Int32 × Sg) :=
  bd (m_refuse_10 1 σ) fun r1 σ1 => some (r1, σ1)
def m_lays3_10_b62 (σ : Sg) : Option (Int32 × Sg) :=
  bd (m_refuse_10 13 σ) fun r1 σ1 => some (r1, σ1)
def m_lays3_10_H78 (k78 : Int32 → Int32 → Int32 → Sg → Option (Int32 × Sg)) (v1 : Int32) (v2 : Int32) (v5 : Int32) (σ : Sg) : Option (Int32 × Sg) :=
  if (σ.1 118 0) ≤ v5 then some (σ.1 118 0, σ) else gd (inB v5 8) (gd (inB (((40 * v1) + v2) + v5) 120) (k78 v1 v2 (v5 + 1) (si σ 127 (((40 * v1) + v2) + v5).toNatClampNeg ((σ.2 124 v5.toNatClampNeg).toInt32))))
def m_lays3_10_L78 : Nat → Int32 → Int32 → Int32 → Sg → Option (Int32 × Sg)
  | 0, _, _, _, _ => none
  | n + 1, v1, v2, v5, σ => m_lays3_10_H78 (m_lays3_10_L78 n) v1 v2 v5 σ
def m_lays3_10 (v1 : Int32) (v2 : Int32) (v3 : Int32) (σ : Sg) : Option (Int32 × Sg) :=
  bd (m_ownOf_10 v3 σ) fun r1 σ1 => bd (m_isList_s v1 σ1) fun r2 σ2 => if r2 = 0 then m_lays3_10_b19 σ2 else if 0 ≤ r1 then gd (inB v1 3) (if 0 ≤ (σ2.1 126 v1.toNatClampNeg) then if v2 < 0 then m_lays3_10_b62 σ2 else gd (inB v1 3) (if (σ2.1 118 0) ≤ ((σ2.1 126 v1.toNatClampNeg) - v2) then bd (m_groups_10 r1 σ2) fun _ σ5 => m_lays3_10_L78 fu v1 v2 0 σ5 else m_lays3_10_b62 σ2) else bd (m_refuse_10 11 σ2) fun r8 σ8 => some (r8, σ8)) else m_lays3_10_b19 σ2
def m_judge_10_b77 (v2 : Int32) (σ : Sg) : Option (Int32 × Sg) :=
  some (v2, σ)
def m_judge_10_H31 (k31 : Int32 → Int32 → Sg → Option (Int32 × Sg)) (v1 : Int32) (v2 : Int32) (σ : Sg) : Option (Int32 × Sg) :=
  gd (inB v1 3) (if (σ.1 126 v1.toNatClampNeg) ≤ v2 then some ((-9), σ) else if (5 * (σ.1 118 0)) ≤ v2 then m_judge_10_b77 v2 σ else gd (inB ((40 * v1) + v2) 120) (bd (m_powerOf_10 (v2 / 5) (irm v2 5) σ) fun r3 σ3 => if (σ.1 127 ((40 * v1) + v2).toNatClampNeg) = r3 then k31 v1 (v2 + 1) σ3 else m_judge_10_b77 v2 σ3))
def m_judge_10_L31 : Nat → Int32 → Int32 → Sg → Option (Int32 × Sg)
  | 0, _, _, _ => none
  | n + 1, v1, v2, σ => m_judge_10_H31 (m_judge_10_L31 n) v1 v2 σ
def m_judge_10 (v1 : Int32) (σ : Sg) : Option (Int32 × Sg) :=
  bd (m_isList_s v1 σ) fun r1 σ1 => if r1 = 0 then bd (m_refuse_10 1 σ1) fun r5 σ5 => some (r5, σ5) else gd (inB v1 3) (if 0 ≤ (σ1.1 126 v1.toNatClampNeg) then m_judge_10_L31 fu v1 0 σ1 else bd (m_refuse_10 11 σ1) fun r3 σ3 => some (r3, σ3))
def m_undo_10_b81 (σ : Sg) : Option (Int32 × Sg) :=
  some (σ.1 10 7, σ)
def m_undo_10 (σ : Sg) : Option (Int32 × Sg) :=
  if (σ.1 10 7) = 0 then bd (m_refuse_10 3 σ) fun r9 σ9 => some (r9, σ9) else gd (inB (5 * ((si σ 10 7 ((σ.1 10 7) - 1)).1 10 7)) 100) (gd (inB ((5 * ((si σ 10 7 ((σ.1 10 7) - 1)).1 10 7)) + 1) 100) (gd (inB ((si σ 10 7 ((σ.1 10 7) - 1)).1 122 (5 * ((si σ 10 7 ((σ.1 10 7) - 1)).1 10 7)).toNatClampNeg) 139) (gd (inB ((5 * ((si σ 10 7 ((σ.1 10 7) - 1)).1 10 7)) + 2) 100) (if ((si (si σ 10 7 ((σ.1 10 7) - 1)) 118 ((si σ 10 7 ((σ.1 10 7) - 1)).1 122 (5 * ((si σ 10 7 ((σ.1 10 7) - 1)).1 10 7)).toNatClampNeg).toNatClampNeg ((si σ 10 7 ((σ.1 10 7) - 1)).1 122 ((5 * ((si σ 10 7 ((σ.1 10 7) - 1)).1 10 7)) + 1).toNatClampNeg)).1 122 ((5 * ((si σ 10 7 ((σ.1 10 7) - 1)).1 10 7)) + 2).toNatClampNeg) < 0 then m_undo_10_b81 (si (si σ 10 7 ((σ.1 10 7) - 1)) 118 ((si σ 10 7 ((σ.1 10 7) - 1)).1 122 (5 * ((si σ 10 7 ((σ.1 10 7) - 1)).1 10 7)).toNatClampNeg).toNatClampNeg ((si σ 10 7 ((σ.1 10 7) - 1)).1 122 ((5 * ((si σ 10 7 ((σ.1 10 7) - 1)).1 10 7)) + 1).toNatClampNeg)) else gd (inB ((5 * ((si σ 10 7 ((σ.1 10 7) - 1)).1 10 7)) + 2) 100) (gd (inB ((5 * ((si σ 10 7 ((σ.1 10 7) - 1)).1 10 7)) + 3) 100) (gd (inB ((si (si σ 10 7 ((σ.1 10 7) - 1)) 118 ((si σ 10 7 ((σ.1 10 7) - 1)).1 122 (5 * ((si σ 10 7 ((σ.1 10 7) - 1)).1 10 7)).toNatClampNeg).toNatClampNeg ((si σ 10 7 ((σ.1 10 7) - 1)).1 122 ((5 * ((si σ 10 7 ((σ.1 10 7) - 1)).1 10 7)) + 1).toNatClampNeg)).1 122 ((5 * ((si σ 10 7 ((σ.1 10 7) - 1)).1 10 7)) + 2).toNatClampNeg) 139) (m_undo_10_b81 (si (si (si σ 10 7 ((σ.1 10 7) - 1)) 118 ((si σ 10 7 ((σ.1 10 7) - 1)).1 122 (5 * ((si σ 10 7 ((σ.1 10 7) - 1)).1 10 7)).toNatClampNeg).toNatClampNeg ((si σ 10 7 ((σ.1 10 7) - 1)).1 122 ((5 * ((si σ 10 7 ((σ.1 10 7) - 1)).1 10 7)) + 1).toNatClampNeg)) 118 ((si (si σ 10 7 ((σ.1 10 7) - 1)) 118 ((si σ 10 7 ((σ.1 10 7) - 1)).1 122 (5 * ((si σ 10 7 ((σ.1 10 7) - 1)).1 10 7)).toNatClampNeg).toNatClampNeg ((si σ 10 7 ((σ.1 10 7) - 1)).1 122 ((5 * ((si σ 10 7 ((σ.1 10 7) - 1)).1 10 7)) + 1).toNatClampNeg)).1 122 ((5 * ((si σ 10 7 ((σ.1 10 7) - 1)).1 10 7)) + 2).toNatClampNeg).toNatClampNeg ((si (si σ 10 7 ((σ.1 10 7) - 1)) 118 ((si σ 10 7 ((σ.1 10 7) - 1)).1 122 (5 * ((si σ 10 7 ((σ.1 10 7) - 1)).1 10 7)).toNatClampNeg).toNatClampNeg ((si σ 10 7 ((σ.1 10 7) - 1)).1 122 ((5 * ((si σ 10 7 ((σ.1 10 7) - 1)).1 10 7)) + 1).toNatClampNeg)).1 122 ((5 * ((si σ 10 7 ((σ.1 10 7) - 1)).1 10 7)) + 3).toNatClampNeg)))))))))
def m_image_10_H2 (k2 : Int32 → Sg → Option (Int32 × Sg)) (v1 : Int32) (σ : Sg) : Option (Int32 × Sg) :=
  if 139 ≤ v1 then some ((si σ 10 2 1).1 118 0, si σ 10 2 1) else gd (inB v1 139) (gd (inB v1 139) (k2 (v1 + 1) (si σ 119 v1.toNatClampNeg (σ.1 118 v1.toNatClampNeg))))
def m_image_10_L2 : Nat → Int32 → Sg → Option (Int32 × Sg)
  | 0, _, _ => none
  | n + 1, v1, σ => m_image_10_H2 (m_image_10_L2 n) v1 σ
def m_image_10 (σ : Sg) : Option (Int32 × Sg) :=
  m_image_10_L2 fu 0 σ
def m_on_10_H15 (k15 : Int32 → Sg → Option (Int32 × Sg)) (v1 : Int32) (σ : Sg) : Option (Int32 × Sg) :=
  if 139 ≤ v1 then some ((si σ 10 7 0).1 118 0, si σ 10 7 0) else gd (inB v1 139) (gd (inB v1 139) (k15 (v1 + 1) (si σ 118 v1.toNatClampNeg (σ.1 119 v1.toNatClampNeg))))
def m_on_10_L15 : Nat → Int32 → Sg → Option (Int32 × Sg)
  | 0, _, _ => none
  | n + 1, v1, σ => m_on_10_H15 (m_on_10_L15 n) v1 σ
def m_on_10 (σ : Sg) : Option (Int32 × Sg) :=
  if (σ.1 10 2) = 0 then bd (m_refuse_10 3 σ) fun r1 σ1 => some (r1, σ1) else m_on_10_L15 fu 0 σ
def m_scales_10_b34 (k4 : Int32 → Int32 → Sg → Option (Int32 × Sg)) (v2 : Int32) (s0 : Int32) (s1 : Int32) (σ : Sg) : Option (Int32 × Sg) :=
  k4 (s0 ||| s1) (v2 + 1) σ
def m_scales_10_H4 (k4 : Int32 → Int32 → Sg → Option (Int32 × Sg)) (v1 : Int32) (v2 : Int32) (σ : Sg) : Option (Int32 × Sg) :=
  if (σ.1 118 0) ≤ v2 then some (v1, σ) else gd (inB (49 + v2) 139) (if (σ.1 118 (49 + v2).toNatClampNeg) ≤ 0 then m_scales_10_b34 k4 v2 v1 0 σ else m_scales_10_b34 k4 v2 v1 ((1 : Int32) <<< (v2 &&& 31)) σ)
def m_scales_10_L4 : Nat → Int32 → Int32 → Sg → Option (Int32 × Sg)
  | 0, _, _, _ => none
  | n + 1, v1, v2, σ => m_scales_10_H4 (m_scales_10_L4 n) v1 v2 σ
def m_scales_10 (σ : Sg) : Option (Int32 × Sg) :=
  m_scales_10_L4 fu 0 0 σ
def m_count_10_b75 (s0 : Int32) (σ : Sg) : Option (Int32 × Sg) :=
  some (s0, σ)
def m_count_10_b109 (s0 : Int32) (σ : Sg) : Option (Int32 × Sg) :=
  some (s0, σ)
def m_count_10 (v1 : Int32) (σ : Sg) : Option (Int32 × Sg) :=
  if v1 = 0 then some (σ.1 118 0, σ) else if v1 = 1 then some (σ.1 10 5, σ) else if v1 = 2 then bd (m_scales_10 σ) fun r4 σ4 => some (r4, σ4) else if v1 = 3 then if (σ.1 118 66) = 0 then m_count_10_b75 (-9) σ else m_count_10_b75 (σ.1 118 65) σ else if v1 = 4 then some (σ.1 10 7, σ) else bd (m_isIn_s v1.toInt64 11 16 σ) fun r8 σ8 => if r8 = 0 then m_count_10_b109 (-9) σ8 else gd (inB (v1 - 10) 7) (m_count_10_b109 (σ8.1 120 (v1 - 10).toNatClampNeg) σ8)
end
