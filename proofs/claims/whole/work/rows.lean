section
-- ===== PART A: goes FIRST, ahead of the names: the tables' words, and 'selects' of the private methods out of them =====
/-- a private method of a class that the tables say can be made, by its rows of tables_1 -/
def lw_okq (q : MethodName × Nat) : Prop := (q.1.cls ≠ "java/lang/invoke/MethodHandle" ∧ q.1.cls ≠ "java/lang/invoke/VarHandle") ∧ Cond.instantiable q.1.cls q.2 ∈ tables_1 ∧ Cond.privateMethod q.1 ∈ tables_1 ∧ Cond.instanceMethod q.1 ∈ tables_1
theorem lw_p0 : lw_okq (⟨"PureGroups", "refused", "(I)I"⟩, 16) := ⟨⟨by decide +kernel, by decide +kernel⟩, List.mem_of_getElem? (i := 15) (by decide +kernel), List.mem_of_getElem? (i := 335) (by decide +kernel), List.mem_of_getElem? (i := 336) (by decide +kernel)⟩
theorem lw_p1 : lw_okq (⟨"PureGroups$Elimination", "bringUp", "(I)Z"⟩, 6) := ⟨⟨by decide +kernel, by decide +kernel⟩, List.mem_of_getElem? (i := 97) (by decide +kernel), List.mem_of_getElem? (i := 384) (by decide +kernel), List.mem_of_getElem? (i := 385) (by decide +kernel)⟩
theorem lw_p2 : lw_okq (⟨"PureGroups$Elimination", "clearOthers", "(I)V"⟩, 6) := ⟨⟨by decide +kernel, by decide +kernel⟩, List.mem_of_getElem? (i := 97) (by decide +kernel), List.mem_of_getElem? (i := 388) (by decide +kernel), List.mem_of_getElem? (i := 389) (by decide +kernel)⟩
theorem lw_p3 : lw_okq (⟨"PureGroups", "isQuantity", "(I)Z"⟩, 16) := ⟨⟨by decide +kernel, by decide +kernel⟩, List.mem_of_getElem? (i := 15) (by decide +kernel), List.mem_of_getElem? (i := 396) (by decide +kernel), List.mem_of_getElem? (i := 397) (by decide +kernel)⟩
theorem lw_p4 : lw_okq (⟨"PureGroups", "refusedFar", "(I)I"⟩, 16) := ⟨⟨by decide +kernel, by decide +kernel⟩, List.mem_of_getElem? (i := 15) (by decide +kernel), List.mem_of_getElem? (i := 403) (by decide +kernel), List.mem_of_getElem? (i := 404) (by decide +kernel)⟩
theorem lw_p5 : lw_okq (⟨"PureGroups", "isGroup", "(I)Z"⟩, 16) := ⟨⟨by decide +kernel, by decide +kernel⟩, List.mem_of_getElem? (i := 15) (by decide +kernel), List.mem_of_getElem? (i := 453) (by decide +kernel), List.mem_of_getElem? (i := 454) (by decide +kernel)⟩
theorem lw_p6 : lw_okq (⟨"PureGroups", "isMissing", "(I)Z"⟩, 16) := ⟨⟨by decide +kernel, by decide +kernel⟩, List.mem_of_getElem? (i := 15) (by decide +kernel), List.mem_of_getElem? (i := 482) (by decide +kernel), List.mem_of_getElem? (i := 483) (by decide +kernel)⟩
theorem lw_p7 : lw_okq (⟨"PureGroups", "takeNumbers", "(II[I)Z"⟩, 16) := ⟨⟨by decide +kernel, by decide +kernel⟩, List.mem_of_getElem? (i := 15) (by decide +kernel), List.mem_of_getElem? (i := 486) (by decide +kernel), List.mem_of_getElem? (i := 487) (by decide +kernel)⟩
theorem lw_p8 : lw_okq (⟨"PureGroups", "isPlace", "(II)Z"⟩, 16) := ⟨⟨by decide +kernel, by decide +kernel⟩, List.mem_of_getElem? (i := 15) (by decide +kernel), List.mem_of_getElem? (i := 490) (by decide +kernel), List.mem_of_getElem? (i := 491) (by decide +kernel)⟩
theorem lw_p9 : lw_okq (⟨"PureGroups", "refusedFarLong", "(I)J"⟩, 16) := ⟨⟨by decide +kernel, by decide +kernel⟩, List.mem_of_getElem? (i := 15) (by decide +kernel), List.mem_of_getElem? (i := 509) (by decide +kernel), List.mem_of_getElem? (i := 510) (by decide +kernel)⟩
theorem lw_p10 : lw_okq (⟨"PureGroups", "isSet", "(I)Z"⟩, 16) := ⟨⟨by decide +kernel, by decide +kernel⟩, List.mem_of_getElem? (i := 15) (by decide +kernel), List.mem_of_getElem? (i := 550) (by decide +kernel), List.mem_of_getElem? (i := 551) (by decide +kernel)⟩
theorem lw_p11 : lw_okq (⟨"PureGroups", "isOutside", "(II)Z"⟩, 16) := ⟨⟨by decide +kernel, by decide +kernel⟩, List.mem_of_getElem? (i := 15) (by decide +kernel), List.mem_of_getElem? (i := 569) (by decide +kernel), List.mem_of_getElem? (i := 570) (by decide +kernel)⟩
theorem lw_p12 : lw_okq (⟨"PureGroups$Choice", "lookAtOne", "(I)V"⟩, 9) := ⟨⟨by decide +kernel, by decide +kernel⟩, List.mem_of_getElem? (i := 158) (by decide +kernel), List.mem_of_getElem? (i := 582) (by decide +kernel), List.mem_of_getElem? (i := 583) (by decide +kernel)⟩
theorem lw_p13 : lw_okq (⟨"PureGroups", "isUnbalanced", "([I)Z"⟩, 16) := ⟨⟨by decide +kernel, by decide +kernel⟩, List.mem_of_getElem? (i := 15) (by decide +kernel), List.mem_of_getElem? (i := 630) (by decide +kernel), List.mem_of_getElem? (i := 631) (by decide +kernel)⟩
theorem lw_p14 : lw_okq (⟨"PureGroups$Search", "findRow", "([I)I"⟩, 7) := ⟨⟨by decide +kernel, by decide +kernel⟩, List.mem_of_getElem? (i := 199) (by decide +kernel), List.mem_of_getElem? (i := 667) (by decide +kernel), List.mem_of_getElem? (i := 668) (by decide +kernel)⟩
theorem lw_p15 : lw_okq (⟨"PureGroups$Reading", "readSum", "(I)V"⟩, 13) := ⟨⟨by decide +kernel, by decide +kernel⟩, List.mem_of_getElem? (i := 229) (by decide +kernel), List.mem_of_getElem? (i := 706) (by decide +kernel), List.mem_of_getElem? (i := 707) (by decide +kernel)⟩
def lw_privs_1 : List (MethodName × Nat) := [(⟨"PureGroups", "refused", "(I)I"⟩, 16), (⟨"PureGroups$Elimination", "bringUp", "(I)Z"⟩, 6), (⟨"PureGroups$Elimination", "clearOthers", "(I)V"⟩, 6), (⟨"PureGroups", "isQuantity", "(I)Z"⟩, 16), (⟨"PureGroups", "refusedFar", "(I)I"⟩, 16), (⟨"PureGroups", "isGroup", "(I)Z"⟩, 16), (⟨"PureGroups", "isMissing", "(I)Z"⟩, 16), (⟨"PureGroups", "takeNumbers", "(II[I)Z"⟩, 16), (⟨"PureGroups", "isPlace", "(II)Z"⟩, 16), (⟨"PureGroups", "refusedFarLong", "(I)J"⟩, 16), (⟨"PureGroups", "isSet", "(I)Z"⟩, 16), (⟨"PureGroups", "isOutside", "(II)Z"⟩, 16), (⟨"PureGroups$Choice", "lookAtOne", "(I)V"⟩, 9), (⟨"PureGroups", "isUnbalanced", "([I)Z"⟩, 16), (⟨"PureGroups$Search", "findRow", "([I)I"⟩, 7), (⟨"PureGroups$Reading", "readSum", "(I)V"⟩, 13)]
theorem lw_r1 : ∀ q ∈ lw_privs_1, lw_okq q := List.forall_mem_cons.mpr ⟨lw_p0, List.forall_mem_cons.mpr ⟨lw_p1, List.forall_mem_cons.mpr ⟨lw_p2, List.forall_mem_cons.mpr ⟨lw_p3, List.forall_mem_cons.mpr ⟨lw_p4, List.forall_mem_cons.mpr ⟨lw_p5, List.forall_mem_cons.mpr ⟨lw_p6, List.forall_mem_cons.mpr ⟨lw_p7, List.forall_mem_cons.mpr ⟨lw_p8, List.forall_mem_cons.mpr ⟨lw_p9, List.forall_mem_cons.mpr ⟨lw_p10, List.forall_mem_cons.mpr ⟨lw_p11, List.forall_mem_cons.mpr ⟨lw_p12, List.forall_mem_cons.mpr ⟨lw_p13, List.forall_mem_cons.mpr ⟨lw_p14, List.forall_mem_cons.mpr ⟨lw_p15, fun _ h => absurd h List.not_mem_nil⟩⟩⟩⟩⟩⟩⟩⟩⟩⟩⟩⟩⟩⟩⟩⟩
theorem lw_p16 : lw_okq (⟨"PureGroups$Reading", "readTerm", "(I)V"⟩, 13) := ⟨⟨by decide +kernel, by decide +kernel⟩, List.mem_of_getElem? (i := 229) (by decide +kernel), List.mem_of_getElem? (i := 710) (by decide +kernel), List.mem_of_getElem? (i := 711) (by decide +kernel)⟩
theorem lw_p17 : lw_okq (⟨"PureGroups$Reading", "readPart", "(II)V"⟩, 13) := ⟨⟨by decide +kernel, by decide +kernel⟩, List.mem_of_getElem? (i := 229) (by decide +kernel), List.mem_of_getElem? (i := 714) (by decide +kernel), List.mem_of_getElem? (i := 715) (by decide +kernel)⟩
theorem lw_p18 : lw_okq (⟨"PureGroups$Reading", "readAtom", "(I)[I"⟩, 13) := ⟨⟨by decide +kernel, by decide +kernel⟩, List.mem_of_getElem? (i := 229) (by decide +kernel), List.mem_of_getElem? (i := 718) (by decide +kernel), List.mem_of_getElem? (i := 719) (by decide +kernel)⟩
theorem lw_p19 : lw_okq (⟨"PureGroups$Reading", "next", "()I"⟩, 13) := ⟨⟨by decide +kernel, by decide +kernel⟩, List.mem_of_getElem? (i := 229) (by decide +kernel), List.mem_of_getElem? (i := 722) (by decide +kernel), List.mem_of_getElem? (i := 723) (by decide +kernel)⟩
theorem lw_p20 : lw_okq (⟨"PureGroups$Reading", "readNumber", "()V"⟩, 13) := ⟨⟨by decide +kernel, by decide +kernel⟩, List.mem_of_getElem? (i := 229) (by decide +kernel), List.mem_of_getElem? (i := 729) (by decide +kernel), List.mem_of_getElem? (i := 730) (by decide +kernel)⟩
theorem lw_p21 : lw_okq (⟨"PureGroups$Reading", "readInner", "(II)[I"⟩, 13) := ⟨⟨by decide +kernel, by decide +kernel⟩, List.mem_of_getElem? (i := 229) (by decide +kernel), List.mem_of_getElem? (i := 733) (by decide +kernel), List.mem_of_getElem? (i := 734) (by decide +kernel)⟩
theorem lw_p22 : lw_okq (⟨"PureGroups$Reading", "expect", "(I)V"⟩, 13) := ⟨⟨by decide +kernel, by decide +kernel⟩, List.mem_of_getElem? (i := 229) (by decide +kernel), List.mem_of_getElem? (i := 737) (by decide +kernel), List.mem_of_getElem? (i := 738) (by decide +kernel)⟩
theorem lw_p23 : lw_okq (⟨"PureGroups$Reading", "failHere", "()V"⟩, 13) := ⟨⟨by decide +kernel, by decide +kernel⟩, List.mem_of_getElem? (i := 229) (by decide +kernel), List.mem_of_getElem? (i := 741) (by decide +kernel), List.mem_of_getElem? (i := 742) (by decide +kernel)⟩
theorem lw_p24 : lw_okq (⟨"PureGroups$Reading", "markWrong", "(I)V"⟩, 13) := ⟨⟨by decide +kernel, by decide +kernel⟩, List.mem_of_getElem? (i := 229) (by decide +kernel), List.mem_of_getElem? (i := 746) (by decide +kernel), List.mem_of_getElem? (i := 747) (by decide +kernel)⟩
theorem lw_p25 : lw_okq (⟨"PureGroups$Reading", "readPower", "()I"⟩, 13) := ⟨⟨by decide +kernel, by decide +kernel⟩, List.mem_of_getElem? (i := 229) (by decide +kernel), List.mem_of_getElem? (i := 750) (by decide +kernel), List.mem_of_getElem? (i := 751) (by decide +kernel)⟩
theorem lw_p26 : lw_okq (⟨"PureGroups$Reading", "isNext", "(II)Z"⟩, 13) := ⟨⟨by decide +kernel, by decide +kernel⟩, List.mem_of_getElem? (i := 229) (by decide +kernel), List.mem_of_getElem? (i := 754) (by decide +kernel), List.mem_of_getElem? (i := 755) (by decide +kernel)⟩
theorem lw_p27 : lw_okq (⟨"PureGroupsModel", "refuse", "(I)I"⟩, 27) := ⟨⟨by decide +kernel, by decide +kernel⟩, List.mem_of_getElem? (i := 854) (by decide +kernel), List.mem_of_getElem? (i := 947) (by decide +kernel), List.mem_of_getElem? (i := 948) (by decide +kernel)⟩
theorem lw_p28 : lw_okq (⟨"PureGroupsModel", "isOne", "(I)Z"⟩, 27) := ⟨⟨by decide +kernel, by decide +kernel⟩, List.mem_of_getElem? (i := 854) (by decide +kernel), List.mem_of_getElem? (i := 963) (by decide +kernel), List.mem_of_getElem? (i := 964) (by decide +kernel)⟩
theorem lw_p29 : lw_okq (⟨"PureGroupsModel", "refuseFar", "(I)I"⟩, 27) := ⟨⟨by decide +kernel, by decide +kernel⟩, List.mem_of_getElem? (i := 854) (by decide +kernel), List.mem_of_getElem? (i := 971) (by decide +kernel), List.mem_of_getElem? (i := 972) (by decide +kernel)⟩
theorem lw_p30 : lw_okq (⟨"PureGroupsModel", "changes", "(II)V"⟩, 27) := ⟨⟨by decide +kernel, by decide +kernel⟩, List.mem_of_getElem? (i := 854) (by decide +kernel), List.mem_of_getElem? (i := 976) (by decide +kernel), List.mem_of_getElem? (i := 977) (by decide +kernel)⟩
theorem lw_p31 : lw_okq (⟨"PureGroupsModel", "firm", "()I"⟩, 27) := ⟨⟨by decide +kernel, by decide +kernel⟩, List.mem_of_getElem? (i := 854) (by decide +kernel), List.mem_of_getElem? (i := 988) (by decide +kernel), List.mem_of_getElem? (i := 989) (by decide +kernel)⟩
def lw_privs_2 : List (MethodName × Nat) := [(⟨"PureGroups$Reading", "readTerm", "(I)V"⟩, 13), (⟨"PureGroups$Reading", "readPart", "(II)V"⟩, 13), (⟨"PureGroups$Reading", "readAtom", "(I)[I"⟩, 13), (⟨"PureGroups$Reading", "next", "()I"⟩, 13), (⟨"PureGroups$Reading", "readNumber", "()V"⟩, 13), (⟨"PureGroups$Reading", "readInner", "(II)[I"⟩, 13), (⟨"PureGroups$Reading", "expect", "(I)V"⟩, 13), (⟨"PureGroups$Reading", "failHere", "()V"⟩, 13), (⟨"PureGroups$Reading", "markWrong", "(I)V"⟩, 13), (⟨"PureGroups$Reading", "readPower", "()I"⟩, 13), (⟨"PureGroups$Reading", "isNext", "(II)Z"⟩, 13), (⟨"PureGroupsModel", "refuse", "(I)I"⟩, 27), (⟨"PureGroupsModel", "isOne", "(I)Z"⟩, 27), (⟨"PureGroupsModel", "refuseFar", "(I)I"⟩, 27), (⟨"PureGroupsModel", "changes", "(II)V"⟩, 27), (⟨"PureGroupsModel", "firm", "()I"⟩, 27)]
theorem lw_r2 : ∀ q ∈ lw_privs_2, lw_okq q := List.forall_mem_cons.mpr ⟨lw_p16, List.forall_mem_cons.mpr ⟨lw_p17, List.forall_mem_cons.mpr ⟨lw_p18, List.forall_mem_cons.mpr ⟨lw_p19, List.forall_mem_cons.mpr ⟨lw_p20, List.forall_mem_cons.mpr ⟨lw_p21, List.forall_mem_cons.mpr ⟨lw_p22, List.forall_mem_cons.mpr ⟨lw_p23, List.forall_mem_cons.mpr ⟨lw_p24, List.forall_mem_cons.mpr ⟨lw_p25, List.forall_mem_cons.mpr ⟨lw_p26, List.forall_mem_cons.mpr ⟨lw_p27, List.forall_mem_cons.mpr ⟨lw_p28, List.forall_mem_cons.mpr ⟨lw_p29, List.forall_mem_cons.mpr ⟨lw_p30, List.forall_mem_cons.mpr ⟨lw_p31, fun _ h => absurd h List.not_mem_nil⟩⟩⟩⟩⟩⟩⟩⟩⟩⟩⟩⟩⟩⟩⟩⟩
theorem lw_p32 : lw_okq (⟨"PureGroupsModel", "isHad", "(II)Z"⟩, 27) := ⟨⟨by decide +kernel, by decide +kernel⟩, List.mem_of_getElem? (i := 854) (by decide +kernel), List.mem_of_getElem? (i := 992) (by decide +kernel), List.mem_of_getElem? (i := 993) (by decide +kernel)⟩
theorem lw_p33 : lw_okq (⟨"PureGroupsModel", "lays", "(II)I"⟩, 27) := ⟨⟨by decide +kernel, by decide +kernel⟩, List.mem_of_getElem? (i := 854) (by decide +kernel), List.mem_of_getElem? (i := 996) (by decide +kernel), List.mem_of_getElem? (i := 997) (by decide +kernel)⟩
theorem lw_p34 : lw_okq (⟨"PureGroupsModel", "powerOf", "(II)I"⟩, 27) := ⟨⟨by decide +kernel, by decide +kernel⟩, List.mem_of_getElem? (i := 854) (by decide +kernel), List.mem_of_getElem? (i := 1003) (by decide +kernel), List.mem_of_getElem? (i := 1004) (by decide +kernel)⟩
theorem lw_p35 : lw_okq (⟨"PureGroupsModel", "clears", "(II)J"⟩, 27) := ⟨⟨by decide +kernel, by decide +kernel⟩, List.mem_of_getElem? (i := 854) (by decide +kernel), List.mem_of_getElem? (i := 1007) (by decide +kernel), List.mem_of_getElem? (i := 1008) (by decide +kernel)⟩
theorem lw_p36 : lw_okq (⟨"PureGroupsModel", "swapRows", "(II)V"⟩, 27) := ⟨⟨by decide +kernel, by decide +kernel⟩, List.mem_of_getElem? (i := 854) (by decide +kernel), List.mem_of_getElem? (i := 1011) (by decide +kernel), List.mem_of_getElem? (i := 1012) (by decide +kernel)⟩
theorem lw_p37 : lw_okq (⟨"PureGroupsModel", "isPure", "(I)Z"⟩, 27) := ⟨⟨by decide +kernel, by decide +kernel⟩, List.mem_of_getElem? (i := 854) (by decide +kernel), List.mem_of_getElem? (i := 1018) (by decide +kernel), List.mem_of_getElem? (i := 1019) (by decide +kernel)⟩
theorem lw_p38 : lw_okq (⟨"PureGroupsModel", "twinOf", "(I)I"⟩, 27) := ⟨⟨by decide +kernel, by decide +kernel⟩, List.mem_of_getElem? (i := 854) (by decide +kernel), List.mem_of_getElem? (i := 1030) (by decide +kernel), List.mem_of_getElem? (i := 1031) (by decide +kernel)⟩
theorem lw_p39 : lw_okq (⟨"PureGroupsModel", "isLike", "(II)Z"⟩, 27) := ⟨⟨by decide +kernel, by decide +kernel⟩, List.mem_of_getElem? (i := 854) (by decide +kernel), List.mem_of_getElem? (i := 1034) (by decide +kernel), List.mem_of_getElem? (i := 1035) (by decide +kernel)⟩
theorem lw_p40 : lw_okq (⟨"PureGroupsModel", "loose", "()I"⟩, 27) := ⟨⟨by decide +kernel, by decide +kernel⟩, List.mem_of_getElem? (i := 854) (by decide +kernel), List.mem_of_getElem? (i := 1052) (by decide +kernel), List.mem_of_getElem? (i := 1053) (by decide +kernel)⟩
theorem lw_p41 : lw_okq (⟨"PureGroupsModel", "different", "()I"⟩, 27) := ⟨⟨by decide +kernel, by decide +kernel⟩, List.mem_of_getElem? (i := 854) (by decide +kernel), List.mem_of_getElem? (i := 1056) (by decide +kernel), List.mem_of_getElem? (i := 1057) (by decide +kernel)⟩
theorem lw_p42 : lw_okq (⟨"PureGroupsModel", "ownOf", "(I)I"⟩, 27) := ⟨⟨by decide +kernel, by decide +kernel⟩, List.mem_of_getElem? (i := 854) (by decide +kernel), List.mem_of_getElem? (i := 1064) (by decide +kernel), List.mem_of_getElem? (i := 1065) (by decide +kernel)⟩
theorem lw_p43 : lw_okq (⟨"PureGroupsModel", "groups", "(I)V"⟩, 27) := ⟨⟨by decide +kernel, by decide +kernel⟩, List.mem_of_getElem? (i := 854) (by decide +kernel), List.mem_of_getElem? (i := 1068) (by decide +kernel), List.mem_of_getElem? (i := 1069) (by decide +kernel)⟩
theorem lw_p44 : lw_okq (⟨"PureGroupsModel", "tells", "(II)Z"⟩, 27) := ⟨⟨by decide +kernel, by decide +kernel⟩, List.mem_of_getElem? (i := 854) (by decide +kernel), List.mem_of_getElem? (i := 1080) (by decide +kernel), List.mem_of_getElem? (i := 1081) (by decide +kernel)⟩
theorem lw_p45 : lw_okq (⟨"PureGroupsModel", "isToldPure", "()Z"⟩, 27) := ⟨⟨by decide +kernel, by decide +kernel⟩, List.mem_of_getElem? (i := 854) (by decide +kernel), List.mem_of_getElem? (i := 1086) (by decide +kernel), List.mem_of_getElem? (i := 1087) (by decide +kernel)⟩
theorem lw_p46 : lw_okq (⟨"PureGroupsModel", "refuseFarther", "(I)J"⟩, 27) := ⟨⟨by decide +kernel, by decide +kernel⟩, List.mem_of_getElem? (i := 854) (by decide +kernel), List.mem_of_getElem? (i := 1094) (by decide +kernel), List.mem_of_getElem? (i := 1095) (by decide +kernel)⟩
theorem lw_p47 : lw_okq (⟨"PureGroupsModel", "isLeast", "(II)Z"⟩, 27) := ⟨⟨by decide +kernel, by decide +kernel⟩, List.mem_of_getElem? (i := 854) (by decide +kernel), List.mem_of_getElem? (i := 1110) (by decide +kernel), List.mem_of_getElem? (i := 1111) (by decide +kernel)⟩
def lw_privs_3 : List (MethodName × Nat) := [(⟨"PureGroupsModel", "isHad", "(II)Z"⟩, 27), (⟨"PureGroupsModel", "lays", "(II)I"⟩, 27), (⟨"PureGroupsModel", "powerOf", "(II)I"⟩, 27), (⟨"PureGroupsModel", "clears", "(II)J"⟩, 27), (⟨"PureGroupsModel", "swapRows", "(II)V"⟩, 27), (⟨"PureGroupsModel", "isPure", "(I)Z"⟩, 27), (⟨"PureGroupsModel", "twinOf", "(I)I"⟩, 27), (⟨"PureGroupsModel", "isLike", "(II)Z"⟩, 27), (⟨"PureGroupsModel", "loose", "()I"⟩, 27), (⟨"PureGroupsModel", "different", "()I"⟩, 27), (⟨"PureGroupsModel", "ownOf", "(I)I"⟩, 27), (⟨"PureGroupsModel", "groups", "(I)V"⟩, 27), (⟨"PureGroupsModel", "tells", "(II)Z"⟩, 27), (⟨"PureGroupsModel", "isToldPure", "()Z"⟩, 27), (⟨"PureGroupsModel", "refuseFarther", "(I)J"⟩, 27), (⟨"PureGroupsModel", "isLeast", "(II)Z"⟩, 27)]
theorem lw_r3 : ∀ q ∈ lw_privs_3, lw_okq q := List.forall_mem_cons.mpr ⟨lw_p32, List.forall_mem_cons.mpr ⟨lw_p33, List.forall_mem_cons.mpr ⟨lw_p34, List.forall_mem_cons.mpr ⟨lw_p35, List.forall_mem_cons.mpr ⟨lw_p36, List.forall_mem_cons.mpr ⟨lw_p37, List.forall_mem_cons.mpr ⟨lw_p38, List.forall_mem_cons.mpr ⟨lw_p39, List.forall_mem_cons.mpr ⟨lw_p40, List.forall_mem_cons.mpr ⟨lw_p41, List.forall_mem_cons.mpr ⟨lw_p42, List.forall_mem_cons.mpr ⟨lw_p43, List.forall_mem_cons.mpr ⟨lw_p44, List.forall_mem_cons.mpr ⟨lw_p45, List.forall_mem_cons.mpr ⟨lw_p46, List.forall_mem_cons.mpr ⟨lw_p47, fun _ h => absurd h List.not_mem_nil⟩⟩⟩⟩⟩⟩⟩⟩⟩⟩⟩⟩⟩⟩⟩⟩
theorem lw_p48 : lw_okq (⟨"PureGroupsModel", "isSet", "(I)Z"⟩, 27) := ⟨⟨by decide +kernel, by decide +kernel⟩, List.mem_of_getElem? (i := 854) (by decide +kernel), List.mem_of_getElem? (i := 1118) (by decide +kernel), List.mem_of_getElem? (i := 1119) (by decide +kernel)⟩
theorem lw_p49 : lw_okq (⟨"PureGroupsModel", "isChosen", "(I)Z"⟩, 27) := ⟨⟨by decide +kernel, by decide +kernel⟩, List.mem_of_getElem? (i := 854) (by decide +kernel), List.mem_of_getElem? (i := 1122) (by decide +kernel), List.mem_of_getElem? (i := 1123) (by decide +kernel)⟩
theorem lw_p50 : lw_okq (⟨"PureGroupsModel", "isFree", "(I)Z"⟩, 27) := ⟨⟨by decide +kernel, by decide +kernel⟩, List.mem_of_getElem? (i := 854) (by decide +kernel), List.mem_of_getElem? (i := 1126) (by decide +kernel), List.mem_of_getElem? (i := 1127) (by decide +kernel)⟩
theorem lw_p51 : lw_okq (⟨"PureGroupsModel", "sizesOf", "(I)J"⟩, 27) := ⟨⟨by decide +kernel, by decide +kernel⟩, List.mem_of_getElem? (i := 854) (by decide +kernel), List.mem_of_getElem? (i := 1138) (by decide +kernel), List.mem_of_getElem? (i := 1139) (by decide +kernel)⟩
theorem lw_p52 : lw_okq (⟨"PureGroupsModel", "chosen", "()I"⟩, 27) := ⟨⟨by decide +kernel, by decide +kernel⟩, List.mem_of_getElem? (i := 854) (by decide +kernel), List.mem_of_getElem? (i := 1146) (by decide +kernel), List.mem_of_getElem? (i := 1147) (by decide +kernel)⟩
theorem lw_p53 : lw_okq (⟨"PureGroupsModel", "bestSet", "(Z)I"⟩, 27) := ⟨⟨by decide +kernel, by decide +kernel⟩, List.mem_of_getElem? (i := 854) (by decide +kernel), List.mem_of_getElem? (i := 1150) (by decide +kernel), List.mem_of_getElem? (i := 1151) (by decide +kernel)⟩
theorem lw_p54 : lw_okq (⟨"PureGroupsModel", "areScaled", "()Z"⟩, 27) := ⟨⟨by decide +kernel, by decide +kernel⟩, List.mem_of_getElem? (i := 854) (by decide +kernel), List.mem_of_getElem? (i := 1170) (by decide +kernel), List.mem_of_getElem? (i := 1171) (by decide +kernel)⟩
theorem lw_p55 : lw_okq (⟨"PureGroupsModel", "isAlike", "()Z"⟩, 27) := ⟨⟨by decide +kernel, by decide +kernel⟩, List.mem_of_getElem? (i := 854) (by decide +kernel), List.mem_of_getElem? (i := 1174) (by decide +kernel), List.mem_of_getElem? (i := 1175) (by decide +kernel)⟩
theorem lw_p56 : lw_okq (⟨"PureGroupsModel", "weighs", "(II)J"⟩, 27) := ⟨⟨by decide +kernel, by decide +kernel⟩, List.mem_of_getElem? (i := 854) (by decide +kernel), List.mem_of_getElem? (i := 1182) (by decide +kernel), List.mem_of_getElem? (i := 1183) (by decide +kernel)⟩
theorem lw_p57 : lw_okq (⟨"PureGroupsModel", "powerIn", "(II)I"⟩, 27) := ⟨⟨by decide +kernel, by decide +kernel⟩, List.mem_of_getElem? (i := 854) (by decide +kernel), List.mem_of_getElem? (i := 1186) (by decide +kernel), List.mem_of_getElem? (i := 1187) (by decide +kernel)⟩
theorem lw_p58 : lw_okq (⟨"PureGroupsModel", "wrongMust", "(II)I"⟩, 27) := ⟨⟨by decide +kernel, by decide +kernel⟩, List.mem_of_getElem? (i := 854) (by decide +kernel), List.mem_of_getElem? (i := 1197) (by decide +kernel), List.mem_of_getElem? (i := 1198) (by decide +kernel)⟩
theorem lw_p59 : lw_okq (⟨"PureGroupsModel", "isScaled", "(I)Z"⟩, 27) := ⟨⟨by decide +kernel, by decide +kernel⟩, List.mem_of_getElem? (i := 854) (by decide +kernel), List.mem_of_getElem? (i := 1201) (by decide +kernel), List.mem_of_getElem? (i := 1202) (by decide +kernel)⟩
theorem lw_p60 : lw_okq (⟨"PureGroupsModel", "fewestOf", "(I)I"⟩, 27) := ⟨⟨by decide +kernel, by decide +kernel⟩, List.mem_of_getElem? (i := 854) (by decide +kernel), List.mem_of_getElem? (i := 1217) (by decide +kernel), List.mem_of_getElem? (i := 1218) (by decide +kernel)⟩
theorem lw_p61 : lw_okq (⟨"PureGroupsModel", "fills", "(II)Z"⟩, 27) := ⟨⟨by decide +kernel, by decide +kernel⟩, List.mem_of_getElem? (i := 854) (by decide +kernel), List.mem_of_getElem? (i := 1221) (by decide +kernel), List.mem_of_getElem? (i := 1222) (by decide +kernel)⟩
theorem lw_p62 : lw_okq (⟨"PureGroupsModel", "isWanted", "(I)Z"⟩, 27) := ⟨⟨by decide +kernel, by decide +kernel⟩, List.mem_of_getElem? (i := 854) (by decide +kernel), List.mem_of_getElem? (i := 1225) (by decide +kernel), List.mem_of_getElem? (i := 1226) (by decide +kernel)⟩
theorem lw_p63 : lw_okq (⟨"PureGroupsModel", "powerBy", "(II)I"⟩, 27) := ⟨⟨by decide +kernel, by decide +kernel⟩, List.mem_of_getElem? (i := 854) (by decide +kernel), List.mem_of_getElem? (i := 1229) (by decide +kernel), List.mem_of_getElem? (i := 1230) (by decide +kernel)⟩
def lw_privs_4 : List (MethodName × Nat) := [(⟨"PureGroupsModel", "isSet", "(I)Z"⟩, 27), (⟨"PureGroupsModel", "isChosen", "(I)Z"⟩, 27), (⟨"PureGroupsModel", "isFree", "(I)Z"⟩, 27), (⟨"PureGroupsModel", "sizesOf", "(I)J"⟩, 27), (⟨"PureGroupsModel", "chosen", "()I"⟩, 27), (⟨"PureGroupsModel", "bestSet", "(Z)I"⟩, 27), (⟨"PureGroupsModel", "areScaled", "()Z"⟩, 27), (⟨"PureGroupsModel", "isAlike", "()Z"⟩, 27), (⟨"PureGroupsModel", "weighs", "(II)J"⟩, 27), (⟨"PureGroupsModel", "powerIn", "(II)I"⟩, 27), (⟨"PureGroupsModel", "wrongMust", "(II)I"⟩, 27), (⟨"PureGroupsModel", "isScaled", "(I)Z"⟩, 27), (⟨"PureGroupsModel", "fewestOf", "(I)I"⟩, 27), (⟨"PureGroupsModel", "fills", "(II)Z"⟩, 27), (⟨"PureGroupsModel", "isWanted", "(I)Z"⟩, 27), (⟨"PureGroupsModel", "powerBy", "(II)I"⟩, 27)]
theorem lw_r4 : ∀ q ∈ lw_privs_4, lw_okq q := List.forall_mem_cons.mpr ⟨lw_p48, List.forall_mem_cons.mpr ⟨lw_p49, List.forall_mem_cons.mpr ⟨lw_p50, List.forall_mem_cons.mpr ⟨lw_p51, List.forall_mem_cons.mpr ⟨lw_p52, List.forall_mem_cons.mpr ⟨lw_p53, List.forall_mem_cons.mpr ⟨lw_p54, List.forall_mem_cons.mpr ⟨lw_p55, List.forall_mem_cons.mpr ⟨lw_p56, List.forall_mem_cons.mpr ⟨lw_p57, List.forall_mem_cons.mpr ⟨lw_p58, List.forall_mem_cons.mpr ⟨lw_p59, List.forall_mem_cons.mpr ⟨lw_p60, List.forall_mem_cons.mpr ⟨lw_p61, List.forall_mem_cons.mpr ⟨lw_p62, List.forall_mem_cons.mpr ⟨lw_p63, fun _ h => absurd h List.not_mem_nil⟩⟩⟩⟩⟩⟩⟩⟩⟩⟩⟩⟩⟩⟩⟩⟩
theorem lw_p64 : lw_okq (⟨"PureGroupsModel", "adds", "(III)I"⟩, 27) := ⟨⟨by decide +kernel, by decide +kernel⟩, List.mem_of_getElem? (i := 854) (by decide +kernel), List.mem_of_getElem? (i := 1237) (by decide +kernel), List.mem_of_getElem? (i := 1238) (by decide +kernel)⟩
theorem lw_p65 : lw_okq (⟨"PureGroupsModel", "keyOf", "(I)J"⟩, 27) := ⟨⟨by decide +kernel, by decide +kernel⟩, List.mem_of_getElem? (i := 854) (by decide +kernel), List.mem_of_getElem? (i := 1241) (by decide +kernel), List.mem_of_getElem? (i := 1242) (by decide +kernel)⟩
theorem lw_p66 : lw_okq (⟨"PureGroupsModel", "differs", "(IJ)I"⟩, 27) := ⟨⟨by decide +kernel, by decide +kernel⟩, List.mem_of_getElem? (i := 854) (by decide +kernel), List.mem_of_getElem? (i := 1246) (by decide +kernel), List.mem_of_getElem? (i := 1247) (by decide +kernel)⟩
theorem lw_p67 : lw_okq (⟨"PureGroupsModel", "readsBoth", "()Z"⟩, 27) := ⟨⟨by decide +kernel, by decide +kernel⟩, List.mem_of_getElem? (i := 854) (by decide +kernel), List.mem_of_getElem? (i := 1254) (by decide +kernel), List.mem_of_getElem? (i := 1255) (by decide +kernel)⟩
theorem lw_p68 : lw_okq (⟨"PureGroupsModel", "readsSum", "()Z"⟩, 27) := ⟨⟨by decide +kernel, by decide +kernel⟩, List.mem_of_getElem? (i := 854) (by decide +kernel), List.mem_of_getElem? (i := 1258) (by decide +kernel), List.mem_of_getElem? (i := 1259) (by decide +kernel)⟩
theorem lw_p69 : lw_okq (⟨"PureGroupsModel", "readsTerm", "()Z"⟩, 27) := ⟨⟨by decide +kernel, by decide +kernel⟩, List.mem_of_getElem? (i := 854) (by decide +kernel), List.mem_of_getElem? (i := 1262) (by decide +kernel), List.mem_of_getElem? (i := 1263) (by decide +kernel)⟩
theorem lw_p70 : lw_okq (⟨"PureGroupsModel", "readsPart", "()Z"⟩, 27) := ⟨⟨by decide +kernel, by decide +kernel⟩, List.mem_of_getElem? (i := 854) (by decide +kernel), List.mem_of_getElem? (i := 1266) (by decide +kernel), List.mem_of_getElem? (i := 1267) (by decide +kernel)⟩
theorem lw_p71 : lw_okq (⟨"PureGroupsModel", "readsAtom", "()Z"⟩, 27) := ⟨⟨by decide +kernel, by decide +kernel⟩, List.mem_of_getElem? (i := 854) (by decide +kernel), List.mem_of_getElem? (i := 1270) (by decide +kernel), List.mem_of_getElem? (i := 1271) (by decide +kernel)⟩
theorem lw_p72 : lw_okq (⟨"PureGroupsModel", "here", "()I"⟩, 27) := ⟨⟨by decide +kernel, by decide +kernel⟩, List.mem_of_getElem? (i := 854) (by decide +kernel), List.mem_of_getElem? (i := 1274) (by decide +kernel), List.mem_of_getElem? (i := 1275) (by decide +kernel)⟩
theorem lw_p73 : lw_okq (⟨"PureGroupsModel", "isDigit", "()Z"⟩, 27) := ⟨⟨by decide +kernel, by decide +kernel⟩, List.mem_of_getElem? (i := 854) (by decide +kernel), List.mem_of_getElem? (i := 1279) (by decide +kernel), List.mem_of_getElem? (i := 1280) (by decide +kernel)⟩
theorem lw_p74 : lw_okq (⟨"PureGroupsModel", "readsClosed", "()Z"⟩, 27) := ⟨⟨by decide +kernel, by decide +kernel⟩, List.mem_of_getElem? (i := 854) (by decide +kernel), List.mem_of_getElem? (i := 1285) (by decide +kernel), List.mem_of_getElem? (i := 1286) (by decide +kernel)⟩
theorem lw_p75 : lw_okq (⟨"PureGroupsModel", "isSigned", "(II)Z"⟩, 27) := ⟨⟨by decide +kernel, by decide +kernel⟩, List.mem_of_getElem? (i := 854) (by decide +kernel), List.mem_of_getElem? (i := 1289) (by decide +kernel), List.mem_of_getElem? (i := 1290) (by decide +kernel)⟩
theorem lw_p76 : lw_okq (⟨"PureGroupsModel", "goesThrough", "()V"⟩, 27) := ⟨⟨by decide +kernel, by decide +kernel⟩, List.mem_of_getElem? (i := 854) (by decide +kernel), List.mem_of_getElem? (i := 1297) (by decide +kernel), List.mem_of_getElem? (i := 1298) (by decide +kernel)⟩
theorem lw_p77 : lw_okq (⟨"PureGroupsModel", "sum", "(I)V"⟩, 27) := ⟨⟨by decide +kernel, by decide +kernel⟩, List.mem_of_getElem? (i := 854) (by decide +kernel), List.mem_of_getElem? (i := 1301) (by decide +kernel), List.mem_of_getElem? (i := 1302) (by decide +kernel)⟩
theorem lw_p78 : lw_okq (⟨"PureGroupsModel", "term", "(I)V"⟩, 27) := ⟨⟨by decide +kernel, by decide +kernel⟩, List.mem_of_getElem? (i := 854) (by decide +kernel), List.mem_of_getElem? (i := 1305) (by decide +kernel), List.mem_of_getElem? (i := 1306) (by decide +kernel)⟩
theorem lw_p79 : lw_okq (⟨"PureGroupsModel", "part", "(I)V"⟩, 27) := ⟨⟨by decide +kernel, by decide +kernel⟩, List.mem_of_getElem? (i := 854) (by decide +kernel), List.mem_of_getElem? (i := 1309) (by decide +kernel), List.mem_of_getElem? (i := 1310) (by decide +kernel)⟩
def lw_privs_5 : List (MethodName × Nat) := [(⟨"PureGroupsModel", "adds", "(III)I"⟩, 27), (⟨"PureGroupsModel", "keyOf", "(I)J"⟩, 27), (⟨"PureGroupsModel", "differs", "(IJ)I"⟩, 27), (⟨"PureGroupsModel", "readsBoth", "()Z"⟩, 27), (⟨"PureGroupsModel", "readsSum", "()Z"⟩, 27), (⟨"PureGroupsModel", "readsTerm", "()Z"⟩, 27), (⟨"PureGroupsModel", "readsPart", "()Z"⟩, 27), (⟨"PureGroupsModel", "readsAtom", "()Z"⟩, 27), (⟨"PureGroupsModel", "here", "()I"⟩, 27), (⟨"PureGroupsModel", "isDigit", "()Z"⟩, 27), (⟨"PureGroupsModel", "readsClosed", "()Z"⟩, 27), (⟨"PureGroupsModel", "isSigned", "(II)Z"⟩, 27), (⟨"PureGroupsModel", "goesThrough", "()V"⟩, 27), (⟨"PureGroupsModel", "sum", "(I)V"⟩, 27), (⟨"PureGroupsModel", "term", "(I)V"⟩, 27), (⟨"PureGroupsModel", "part", "(I)V"⟩, 27)]
theorem lw_r5 : ∀ q ∈ lw_privs_5, lw_okq q := List.forall_mem_cons.mpr ⟨lw_p64, List.forall_mem_cons.mpr ⟨lw_p65, List.forall_mem_cons.mpr ⟨lw_p66, List.forall_mem_cons.mpr ⟨lw_p67, List.forall_mem_cons.mpr ⟨lw_p68, List.forall_mem_cons.mpr ⟨lw_p69, List.forall_mem_cons.mpr ⟨lw_p70, List.forall_mem_cons.mpr ⟨lw_p71, List.forall_mem_cons.mpr ⟨lw_p72, List.forall_mem_cons.mpr ⟨lw_p73, List.forall_mem_cons.mpr ⟨lw_p74, List.forall_mem_cons.mpr ⟨lw_p75, List.forall_mem_cons.mpr ⟨lw_p76, List.forall_mem_cons.mpr ⟨lw_p77, List.forall_mem_cons.mpr ⟨lw_p78, List.forall_mem_cons.mpr ⟨lw_p79, fun _ h => absurd h List.not_mem_nil⟩⟩⟩⟩⟩⟩⟩⟩⟩⟩⟩⟩⟩⟩⟩⟩
theorem lw_p80 : lw_okq (⟨"PureGroupsModel", "atom", "(I)V"⟩, 27) := ⟨⟨by decide +kernel, by decide +kernel⟩, List.mem_of_getElem? (i := 854) (by decide +kernel), List.mem_of_getElem? (i := 1313) (by decide +kernel), List.mem_of_getElem? (i := 1314) (by decide +kernel)⟩
theorem lw_p81 : lw_okq (⟨"PureGroupsModel", "sign", "()I"⟩, 27) := ⟨⟨by decide +kernel, by decide +kernel⟩, List.mem_of_getElem? (i := 854) (by decide +kernel), List.mem_of_getElem? (i := 1317) (by decide +kernel), List.mem_of_getElem? (i := 1318) (by decide +kernel)⟩
theorem lw_p82 : lw_okq (⟨"PureGroupsModel", "sets", "(II)V"⟩, 27) := ⟨⟨by decide +kernel, by decide +kernel⟩, List.mem_of_getElem? (i := 854) (by decide +kernel), List.mem_of_getElem? (i := 1321) (by decide +kernel), List.mem_of_getElem? (i := 1322) (by decide +kernel)⟩
theorem lw_p83 : lw_okq (⟨"PureGroupsModel", "isPureAt", "(I)Z"⟩, 27) := ⟨⟨by decide +kernel, by decide +kernel⟩, List.mem_of_getElem? (i := 854) (by decide +kernel), List.mem_of_getElem? (i := 1326) (by decide +kernel), List.mem_of_getElem? (i := 1327) (by decide +kernel)⟩
theorem lw_p84 : lw_okq (⟨"PureGroupsModel", "draws", "(I)I"⟩, 27) := ⟨⟨by decide +kernel, by decide +kernel⟩, List.mem_of_getElem? (i := 854) (by decide +kernel), List.mem_of_getElem? (i := 1342) (by decide +kernel), List.mem_of_getElem? (i := 1343) (by decide +kernel)⟩
theorem lw_p85 : lw_okq (⟨"PureGroupsModel", "wrongCell", "(II)I"⟩, 27) := ⟨⟨by decide +kernel, by decide +kernel⟩, List.mem_of_getElem? (i := 854) (by decide +kernel), List.mem_of_getElem? (i := 1357) (by decide +kernel), List.mem_of_getElem? (i := 1358) (by decide +kernel)⟩
theorem lw_p86 : lw_okq (⟨"PureGroupsModel", "isCell", "(II)Z"⟩, 27) := ⟨⟨by decide +kernel, by decide +kernel⟩, List.mem_of_getElem? (i := 854) (by decide +kernel), List.mem_of_getElem? (i := 1361) (by decide +kernel), List.mem_of_getElem? (i := 1362) (by decide +kernel)⟩
theorem lw_p87 : lw_okq (⟨"PureGroupsModel", "scales", "()I"⟩, 27) := ⟨⟨by decide +kernel, by decide +kernel⟩, List.mem_of_getElem? (i := 854) (by decide +kernel), List.mem_of_getElem? (i := 1393) (by decide +kernel), List.mem_of_getElem? (i := 1394) (by decide +kernel)⟩
def lw_privs_6 : List (MethodName × Nat) := [(⟨"PureGroupsModel", "atom", "(I)V"⟩, 27), (⟨"PureGroupsModel", "sign", "()I"⟩, 27), (⟨"PureGroupsModel", "sets", "(II)V"⟩, 27), (⟨"PureGroupsModel", "isPureAt", "(I)Z"⟩, 27), (⟨"PureGroupsModel", "draws", "(I)I"⟩, 27), (⟨"PureGroupsModel", "wrongCell", "(II)I"⟩, 27), (⟨"PureGroupsModel", "isCell", "(II)Z"⟩, 27), (⟨"PureGroupsModel", "scales", "()I"⟩, 27)]
theorem lw_r6 : ∀ q ∈ lw_privs_6, lw_okq q := List.forall_mem_cons.mpr ⟨lw_p80, List.forall_mem_cons.mpr ⟨lw_p81, List.forall_mem_cons.mpr ⟨lw_p82, List.forall_mem_cons.mpr ⟨lw_p83, List.forall_mem_cons.mpr ⟨lw_p84, List.forall_mem_cons.mpr ⟨lw_p85, List.forall_mem_cons.mpr ⟨lw_p86, List.forall_mem_cons.mpr ⟨lw_p87, fun _ h => absurd h List.not_mem_nil⟩⟩⟩⟩⟩⟩⟩⟩
def lw_privs : List (MethodName × Nat) := lw_privs_1 ++ (lw_privs_2 ++ (lw_privs_3 ++ (lw_privs_4 ++ (lw_privs_5 ++ (lw_privs_6)))))
def lw_tbl : List Cond := k2_sels lw_privs ++ tables_1
theorem lw_privs_ok : ∀ q ∈ lw_privs, lw_okq q := by
  show ∀ q ∈ lw_privs_1 ++ (lw_privs_2 ++ (lw_privs_3 ++ (lw_privs_4 ++ (lw_privs_5 ++ (lw_privs_6))))), lw_okq q
  exact List.forall_mem_append.mpr ⟨lw_r1, List.forall_mem_append.mpr ⟨lw_r2, List.forall_mem_append.mpr ⟨lw_r3, List.forall_mem_append.mpr ⟨lw_r4, List.forall_mem_append.mpr ⟨lw_r5, lw_r6⟩⟩⟩⟩⟩
end
section
def RX0 : String := "PureGroups$Choice"
def TX0 : u_T := fun k => match k with
  | 0 => ("PureGroups$Choice", "space", "LPureGroups$Space;", true)
  | 1 => ("PureGroups$Choice", "chosen", "LPureGroups$Elimination;", true)
  | 2 => ("PureGroups$Choice", "powers", "[I", true)
  | 3 => ("PureGroups$Choice", "lookedAt", "I", false)
  | 4 => ("PureGroups$Choice", "count", "I", false)
  | 5 => ("PureGroups$Choice", "tried", "I", false)
  | 6 => ("PureGroups$Choice", "first", "I", false)
  | 7 => ("PureGroups$Choice", "best", "I", false)
  | _ => ("PureGroups$Choice", "leastSizes", "J", false)
def tyX0 : Nat → FieldType := fun k => match k with
  | 0 => .object "PureGroups$Space"
  | 1 => .object "PureGroups$Elimination"
  | 2 => .array .int
  | 3 => .int
  | 4 => .int
  | 5 => .int
  | 6 => .int
  | 7 => .int
  | _ => .long
theorem nmX0 : ∀ a, a < 9 → ∀ b, b < 9 → a ≠ b → (TX0 a).2.1 ≠ (TX0 b).2.1 := by decide +kernel
theorem tyX0_ok : ∀ k, k < 9 → parseFieldDescriptor (TX0 k).2.2.1 = some (tyX0 k) := by decide +kernel
def RX1 : String := "PureGroups$Elimination"
def TX1 : u_T := fun k => match k with
  | 0 => ("PureGroups$Elimination", "cell", "[[J", true)
  | 1 => ("PureGroups$Elimination", "rowOf", "[I", true)
  | 2 => ("PureGroups$Elimination", "size", "I", false)
  | 3 => ("PureGroups$Elimination", "rank", "I", false)
  | 4 => ("PureGroups$Elimination", "pivots", "I", false)
  | _ => ("PureGroups$Elimination", "scale", "J", false)
def tyX1 : Nat → FieldType := fun k => match k with
  | 0 => .array (.array .long)
  | 1 => .array .int
  | 2 => .int
  | 3 => .int
  | 4 => .int
  | _ => .long
theorem nmX1 : ∀ a, a < 6 → ∀ b, b < 6 → a ≠ b → (TX1 a).2.1 ≠ (TX1 b).2.1 := by decide +kernel
theorem tyX1_ok : ∀ k, k < 6 → parseFieldDescriptor (TX1 k).2.2.1 = some (tyX1 k) := by decide +kernel
def RX2 : String := "PureGroups$History"
def TX2 : u_T := fun k => match k with
  | 0 => ("PureGroups$History", "rows", "[[I", true)
  | 1 => ("PureGroups$History", "next", "I", false)
  | _ => ("PureGroups$History", "size", "I", false)
def tyX2 : Nat → FieldType := fun k => match k with
  | 0 => .array (.array .int)
  | 1 => .int
  | _ => .int
theorem nmX2 : ∀ a, a < 3 → ∀ b, b < 3 → a ≠ b → (TX2 a).2.1 ≠ (TX2 b).2.1 := by decide +kernel
theorem tyX2_ok : ∀ k, k < 3 → parseFieldDescriptor (TX2 k).2.2.1 = some (tyX2 k) := by decide +kernel
def RX3 : String := "PureGroups$Model"
def TX3 : u_T := fun k => match k with
  | 0 => ("PureGroups$Model", "size", "I", false)
  | 1 => ("PureGroups$Model", "kind", "[I", true)
  | 2 => ("PureGroups$Model", "told", "[[I", true)
  | 3 => ("PureGroups$Model", "above", "[I", true)
  | 4 => ("PureGroups$Model", "below", "[I", true)
  | 5 => ("PureGroups$Model", "letters", "[I", true)
  | 6 => ("PureGroups$Model", "length", "I", false)
  | _ => ("PureGroups$Model", "terms", "I", false)
def tyX3 : Nat → FieldType := fun k => match k with
  | 0 => .int
  | 1 => .array .int
  | 2 => .array (.array .int)
  | 3 => .array .int
  | 4 => .array .int
  | 5 => .array .int
  | 6 => .int
  | _ => .int
theorem nmX3 : ∀ a, a < 8 → ∀ b, b < 8 → a ≠ b → (TX3 a).2.1 ≠ (TX3 b).2.1 := by decide +kernel
theorem tyX3_ok : ∀ k, k < 8 → parseFieldDescriptor (TX3 k).2.2.1 = some (tyX3 k) := by decide +kernel
def RX4 : String := "PureGroups$Reading"
def TX4 : u_T := fun k => match k with
  | 0 => ("PureGroups$Reading", "space", "LPureGroups$Space;", true)
  | 1 => ("PureGroups$Reading", "text", "[I", true)
  | 2 => ("PureGroups$Reading", "length", "I", false)
  | 3 => ("PureGroups$Reading", "place", "I", false)
  | 4 => ("PureGroups$Reading", "fault", "I", false)
  | 5 => ("PureGroups$Reading", "terms", "I", false)
  | 6 => ("PureGroups$Reading", "quantities", "I", false)
  | 7 => ("PureGroups$Reading", "wrongAt", "[I", true)
  | 8 => ("PureGroups$Reading", "sums", "[[I", true)
  | 9 => ("PureGroups$Reading", "products", "[[I", true)
  | 10 => ("PureGroups$Reading", "none", "[I", true)
  | 11 => ("PureGroups$Reading", "ahead", "[I", true)
  | _ => ("PureGroups$Reading", "behind", "[I", true)
def tyX4 : Nat → FieldType := fun k => match k with
  | 0 => .object "PureGroups$Space"
  | 1 => .array .int
  | 2 => .int
  | 3 => .int
  | 4 => .int
  | 5 => .int
  | 6 => .int
  | 7 => .array .int
  | 8 => .array (.array .int)
  | 9 => .array (.array .int)
  | 10 => .array .int
  | 11 => .array .int
  | _ => .array .int
theorem nmX4 : ∀ a, a < 13 → ∀ b, b < 13 → a ≠ b → (TX4 a).2.1 ≠ (TX4 b).2.1 := by decide +kernel
theorem tyX4_ok : ∀ k, k < 13 → parseFieldDescriptor (TX4 k).2.2.1 = some (tyX4 k) := by decide +kernel
def RX5 : String := "PureGroups$Search"
def TX5 : u_T := fun k => match k with
  | 0 => ("PureGroups$Search", "space", "LPureGroups$Space;", true)
  | 1 => ("PureGroups$Search", "leastPowers", "[I", true)
  | 2 => ("PureGroups$Search", "leastSize", "I", false)
  | 3 => ("PureGroups$Search", "leastOf", "I", false)
  | 4 => ("PureGroups$Search", "factorKeys", "[J", true)
  | 5 => ("PureGroups$Search", "row", "[I", true)
  | _ => ("PureGroups$Search", "seen", "[J", true)
def tyX5 : Nat → FieldType := fun k => match k with
  | 0 => .object "PureGroups$Space"
  | 1 => .array .int
  | 2 => .int
  | 3 => .int
  | 4 => .array .long
  | 5 => .array .int
  | _ => .array .long
theorem nmX5 : ∀ a, a < 7 → ∀ b, b < 7 → a ≠ b → (TX5 a).2.1 ≠ (TX5 b).2.1 := by decide +kernel
theorem tyX5_ok : ∀ k, k < 7 → parseFieldDescriptor (TX5 k).2.2.1 = some (tyX5 k) := by decide +kernel
def RX6 : String := "PureGroups$Space"
def TX6 : u_T := fun k => match k with
  | 0 => ("PureGroups$Space", "size", "I", false)
  | 1 => ("PureGroups$Space", "version", "I", false)
  | 2 => ("PureGroups$Space", "power", "[[I", true)
  | 3 => ("PureGroups$Space", "key", "[J", true)
  | _ => ("PureGroups$Space", "all", "LPureGroups$Elimination;", true)
def tyX6 : Nat → FieldType := fun k => match k with
  | 0 => .int
  | 1 => .int
  | 2 => .array (.array .int)
  | 3 => .array .long
  | _ => .object "PureGroups$Elimination"
theorem nmX6 : ∀ a, a < 5 → ∀ b, b < 5 → a ≠ b → (TX6 a).2.1 ≠ (TX6 b).2.1 := by decide +kernel
theorem tyX6_ok : ∀ k, k < 5 → parseFieldDescriptor (TX6 k).2.2.1 = some (tyX6 k) := by decide +kernel
def RX7 : String := "PureGroups"
def TX7 : u_T := fun k => match k with
  | 0 => ("PureGroups", "model", "LPureGroups$Model;", true)
  | 1 => ("PureGroups", "image", "LPureGroups$Model;", true)
  | 2 => ("PureGroups", "imageTaken", "Z", false)
  | 3 => ("PureGroups", "history", "LPureGroups$History;", true)
  | 4 => ("PureGroups", "space", "LPureGroups$Space;", true)
  | 5 => ("PureGroups", "choice", "LPureGroups$Choice;", true)
  | 6 => ("PureGroups", "search", "LPureGroups$Search;", true)
  | 7 => ("PureGroups", "reading", "LPureGroups$Reading;", true)
  | 8 => ("PureGroups", "letters", "[I", true)
  | 9 => ("PureGroups", "letterCount", "I", false)
  | 10 => ("PureGroups", "lists", "[[I", true)
  | 11 => ("PureGroups", "listSizes", "[I", true)
  | 12 => ("PureGroups", "powers", "[I", true)
  | 13 => ("PureGroups", "product", "[I", true)
  | 14 => ("PureGroups", "dimension", "[I", true)
  | _ => ("PureGroups", "refusals", "[I", true)
def tyX7 : Nat → FieldType := fun k => match k with
  | 0 => .object "PureGroups$Model"
  | 1 => .object "PureGroups$Model"
  | 2 => .boolean
  | 3 => .object "PureGroups$History"
  | 4 => .object "PureGroups$Space"
  | 5 => .object "PureGroups$Choice"
  | 6 => .object "PureGroups$Search"
  | 7 => .object "PureGroups$Reading"
  | 8 => .array .int
  | 9 => .int
  | 10 => .array (.array .int)
  | 11 => .array .int
  | 12 => .array .int
  | 13 => .array .int
  | 14 => .array .int
  | _ => .array .int
theorem nmX7 : ∀ a, a < 16 → ∀ b, b < 16 → a ≠ b → (TX7 a).2.1 ≠ (TX7 b).2.1 := by decide +kernel
theorem tyX7_ok : ∀ k, k < 16 → parseFieldDescriptor (TX7 k).2.2.1 = some (tyX7 k) := by decide +kernel
def RX8 : String := "PureGroupsModel"
def TX8 : u_T := fun k => match k with
  | 0 => ("PureGroupsModel", "g", "[I", true)
  | 1 => ("PureGroupsModel", "kept", "[I", true)
  | 2 => ("PureGroupsModel", "isKept", "Z", false)
  | 3 => ("PureGroupsModel", "refused", "[I", true)
  | 4 => ("PureGroupsModel", "come", "[I", true)
  | 5 => ("PureGroupsModel", "comes", "I", false)
  | 6 => ("PureGroupsModel", "step", "[I", true)
  | 7 => ("PureGroupsModel", "steps", "I", false)
  | 8 => ("PureGroupsModel", "table", "[J", true)
  | 9 => ("PureGroupsModel", "power", "[J", true)
  | 10 => ("PureGroupsModel", "rowOf", "[I", true)
  | 11 => ("PureGroupsModel", "size", "[I", true)
  | 12 => ("PureGroupsModel", "cell", "[I", true)
  | 13 => ("PureGroupsModel", "told", "[I", true)
  | 14 => ("PureGroupsModel", "factor", "[I", true)
  | 15 => ("PureGroupsModel", "want", "[I", true)
  | 16 => ("PureGroupsModel", "row", "[J", true)
  | 17 => ("PureGroupsModel", "place", "I", false)
  | 18 => ("PureGroupsModel", "open", "I", false)
  | 19 => ("PureGroupsModel", "terms", "I", false)
  | 20 => ("PureGroupsModel", "comesTo", "[I", true)
  | 21 => ("PureGroupsModel", "side", "[I", true)
  | 22 => ("PureGroupsModel", "isWrong", "[Z", true)
  | 23 => ("PureGroupsModel", "at", "I", false)
  | 24 => ("PureGroupsModel", "stands", "I", false)
  | 25 => ("PureGroupsModel", "equals", "I", false)
  | _ => ("PureGroupsModel", "z", "I", false)
def tyX8 : Nat → FieldType := fun k => match k with
  | 0 => .array .int
  | 1 => .array .int
  | 2 => .boolean
  | 3 => .array .int
  | 4 => .array .int
  | 5 => .int
  | 6 => .array .int
  | 7 => .int
  | 8 => .array .long
  | 9 => .array .long
  | 10 => .array .int
  | 11 => .array .int
  | 12 => .array .int
  | 13 => .array .int
  | 14 => .array .int
  | 15 => .array .int
  | 16 => .array .long
  | 17 => .int
  | 18 => .int
  | 19 => .int
  | 20 => .array .int
  | 21 => .array .int
  | 22 => .array .boolean
  | 23 => .int
  | 24 => .int
  | 25 => .int
  | _ => .int
theorem nmX8 : ∀ a, a < 27 → ∀ b, b < 27 → a ≠ b → (TX8 a).2.1 ≠ (TX8 b).2.1 := by decide +kernel
theorem tyX8_ok : ∀ k, k < 27 → parseFieldDescriptor (TX8 k).2.2.1 = some (tyX8 k) := by decide +kernel
/-- the classes whose objects the world holds -/
def cl : List vw_C := [(RX0, TX0, 9), (RX1, TX1, 6), (RX2, TX2, 3), (RX3, TX3, 8), (RX4, TX4, 13), (RX5, TX5, 7), (RX6, TX6, 5), (RX7, TX7, 16), (RX8, TX8, 27)]
/-- how many fields; the kind of a field: 0 int, 1 long, 2 reference, 3 boolean -/
def nfL : List Nat := [9, 6, 3, 8, 13, 7, 5, 16, 27]
def ftL : List (List Nat) := [[2, 2, 2, 0, 0, 0, 0, 0, 1], [2, 2, 0, 0, 0, 1], [2, 0, 0], [0, 2, 2, 2, 2, 2, 0, 0], [2, 2, 0, 0, 0, 0, 0, 2, 2, 2, 2, 2, 2], [2, 2, 0, 0, 2, 2, 2], [0, 0, 2, 2, 2], [2, 2, 3, 2, 2, 2, 2, 2, 2, 0, 2, 2, 2, 2, 2, 2], [2, 2, 3, 2, 2, 0, 2, 0, 2, 2, 2, 2, 2, 2, 2, 2, 2, 0, 0, 0, 2, 2, 2, 0, 0, 0, 0]]
/-- the cells: ck 0 int[], 1 long[], 2 boolean[], 3 int[][], 4 long[][], 5 + n an object of the n-th class; al the length; rf what a reference leads to -/
def NC : Nat := 135
def ckL : List Nat := [12, 8, 8, 7, 11, 6, 5, 6, 10, 9, 13, 0, 3, 0, 0, 0, 0, 0, 0, 0, 0, 0, 3, 0, 0, 0, 0, 0, 0, 0, 0, 0, 0, 0, 0, 3, 0, 0, 0, 0, 0, 0, 0, 0, 0, 0, 0, 3, 0, 0, 0, 0, 0, 0, 0, 0, 0, 0, 0, 0, 0, 0, 0, 0, 0, 0, 0, 0, 3, 0, 0, 0, 0, 0, 0, 0, 0, 1, 4, 1, 1, 1, 1, 1, 0, 0, 4, 1, 1, 1, 1, 1, 0, 0, 1, 0, 1, 0, 0, 3, 0, 0, 0, 0, 0, 0, 0, 3, 0, 0, 0, 0, 0, 0, 0, 0, 0, 0, 0, 0, 0, 0, 0, 1, 1, 0, 0, 0, 0, 0, 0, 1, 0, 0, 2]
def alL : List Nat := [16, 8, 8, 3, 5, 6, 9, 6, 7, 13, 27, 72, 3, 40, 40, 40, 3, 8, 8, 5, 7, 8, 8, 5, 5, 5, 5, 5, 5, 5, 5, 8, 8, 72, 8, 8, 5, 5, 5, 5, 5, 5, 5, 5, 8, 8, 72, 20, 4, 4, 4, 4, 4, 4, 4, 4, 4, 4, 4, 4, 4, 4, 4, 4, 4, 4, 4, 4, 8, 5, 5, 5, 5, 5, 5, 5, 5, 8, 5, 8, 8, 8, 8, 8, 8, 8, 5, 8, 8, 8, 8, 8, 8, 8, 16, 3, 1024, 72, 72, 7, 5, 5, 5, 5, 5, 5, 5, 7, 5, 5, 5, 5, 5, 5, 5, 5, 5, 5, 139, 139, 7, 72, 100, 45, 8, 9, 3, 120, 8, 3, 5, 969, 200, 10, 72]
def rfL : List (List Nat) := [[1, 2, 0, 3, 4, 6, 8, 9, 11, 0, 12, 16, 17, 18, 19, 20], [0, 21, 22, 31, 32, 33, 0, 0], [0, 34, 35, 44, 45, 46, 0, 0], [47, 0, 0], [0, 0, 68, 77, 5], [78, 84, 0, 0, 0, 0], [4, 7, 85, 0, 0, 0, 0, 0, 0], [86, 92, 0, 0, 0, 0], [4, 93, 0, 0, 94, 95, 96], [4, 97, 0, 0, 0, 0, 0, 98, 99, 107, 115, 116, 117], [118, 119, 0, 120, 121, 0, 122, 0, 123, 124, 125, 126, 127, 128, 129, 130, 131, 0, 0, 0, 132, 133, 134, 0, 0, 0, 0]]
def ck (c : Nat) : Nat := ckL.getD c 99
def al (c : Nat) : Nat := alL.getD c 0
def nf (c : Nat) : Nat := nfL.getD c 0
def ft (c k : Nat) : Nat := (ftL.getD c []).getD k 0
def rf (c j : Nat) : Nat := bif (ck c == 3 || ck c == 4) then c + 1 + j else (rfL.getD c []).getD j 0
/-- static arrays that nobody writes: cells from 1000 on -/
def stL : List (String × List Int32) := [("UNDER", [-1, 0, 0, 1, 0, 2]), ("LESS_OF_UNIT_1", [0, 0, 1, 2, 0, 1]), ("LESS_OF_UNIT_2", [0, 1, 0, 1, 0, 0]), ("TIMES", [1, 1, 1, 1, 0, 2]), ("PRIMES", [2, 3, 5, 7, 11, 13, 17, 19, 23, 29, 31, 37, 41, 43, 47, 53, 59, 61, 67, 71, 73, 79, 83, 89, 97])]
def sq (c : Nat) : String × List Int32 := stL.getD (c - 1000) ("", [])
def sn (c : Nat) : Nat := (sq c).2.length
def sv (c j : Nat) : Int32 := (sq c).2.getD j 0
end
section
/-! ===== THE SMALL MACHINE: bytecode over a store of numbers; cells by their numbers, references are cells' numbers ===== -/
abbrev Sg : Type := (Nat → Nat → Int32) × (Nat → Nat → Int64)
abbrev LV : Type := List (Nat × Value)
/-- pc, instruction, length, three numbers that say what it links to, constants or targets -/
abbrev Ent : Type := Nat × Instr × Nat × Nat × Nat × Nat × List Int
abbrev PS : Type := Nat × LV × List Value × Sg
/-- an array that is only read: the law's script -/
abbrev RO : Type := Option (Nat × (Nat → Int32))
def si (σ : Sg) (c j : Nat) (x : Int32) : Sg := (fun c' => if c' = c then upd (σ.1 c) j x else σ.1 c', σ.2)
def sl (σ : Sg) (c j : Nat) (x : Int64) : Sg := (σ.1, fun c' => if c' = c then vp_updL (σ.2 c) j x else σ.2 c')
def scp (σ : Sg) (c0 c1 sp dp n : Nat) : Sg := (fun c' => if c' = c1 then va_cpy (σ.1 c0) (σ.1 c1) sp dp n else σ.1 c', σ.2)
def lget : LV → Nat → Option Value
  | [], _ => none
  | (i, v) :: r, k => bif i == k then some v else lget r k
def lset1 (lv : LV) (i : Nat) (v : Value) : LV := (i, v) :: lv.filter (fun q => !(q.1 == i) && !(q.1 + 1 == i && q.2.category == 2))
def lset2 (lv : LV) (i : Nat) (v : Value) : LV := (i, v) :: lv.filter (fun q => !(q.1 == i) && (!(q.1 == i + 1) && !(q.1 + 1 == i && q.2.category == 2)))
def conj : List Prop → Prop
  | [] => True
  | p :: l => p ∧ conj l
def nb (x : Int32) : Prop := x = 0 ∨ x = 1
def swt (x : Int32) (d : Nat) : Int → List Int → Nat
  | _, [] => d
  | k, t :: r => if x = Int32.ofInt k then t.toNat else swt x d (k + 1) r
abbrev Res : Type := Option (List Prop × PS)
def nx (pc : Nat) (lv : LV) (st : List Value) (σ : Sg) : Res := some ([], pc, lv, st, σ)
def cx (c : Prop) (pc : Nat) (lv : LV) (st : List Value) (σ : Sg) : Res := some ([c], pc, lv, st, σ)
def xld (v : Option Value) (pc : Nat) (lv : LV) (st : List Value) (σ : Sg) : Res := match v with
  | some w => nx pc lv (w :: st) σ
  | none => none
def isI : Option Value → Option Value
  | some (.int x) => some (.int x)
  | _ => none
def isJ : Option Value → Option Value
  | some (.long x) => some (.long x)
  | _ => none
def isR : Option Value → Option Value
  | some (.ref x) => some (.ref x)
  | _ => none
def xst (i : Nat) (pc : Nat) (lv : LV) (st : List Value) (σ : Sg) : Res := match st with
  | .int x :: r => nx pc (lset1 lv i (.int x)) r σ
  | _ => none
def xsta (i : Nat) (pc : Nat) (lv : LV) (st : List Value) (σ : Sg) : Res := match st with
  | .ref x :: r => nx pc (lset1 lv i (.ref x)) r σ
  | _ => none
def xstl (i : Nat) (pc : Nat) (lv : LV) (st : List Value) (σ : Sg) : Res := match st with
  | .long x :: r => nx pc (lset2 lv i (.long x)) r σ
  | _ => none
def x2i (f : Int32 → Int32 → Int32) (pc : Nat) (lv : LV) (st : List Value) (σ : Sg) : Res := match st with
  | .int y :: .int x :: r => nx pc lv (.int (f x y) :: r) σ
  | _ => none
def x2ic (f : Int32 → Int32 → Int32) (pc : Nat) (lv : LV) (st : List Value) (σ : Sg) : Res := match st with
  | .int y :: .int x :: r => cx (¬ y = 0) pc lv (.int (f x y) :: r) σ
  | _ => none
def x2l (f : Int64 → Int64 → Int64) (pc : Nat) (lv : LV) (st : List Value) (σ : Sg) : Res := match st with
  | .long y :: .long x :: r => nx pc lv (.long (f x y) :: r) σ
  | _ => none
def x2lc (f : Int64 → Int64 → Int64) (pc : Nat) (lv : LV) (st : List Value) (σ : Sg) : Res := match st with
  | .long y :: .long x :: r => cx (¬ y = 0) pc lv (.long (f x y) :: r) σ
  | _ => none
def xif (f : Int32 → Nat) (lv : LV) (st : List Value) (σ : Sg) : Res := match st with
  | .int x :: r => nx (f x) lv r σ
  | _ => none
def xif2 (f : Int32 → Int32 → Nat) (lv : LV) (st : List Value) (σ : Sg) : Res := match st with
  | .int y :: .int x :: r => nx (f x y) lv r σ
  | _ => none
def iush (x y : Int32) : Int32 := (x.toUInt32 >>> (y.toUInt32 &&& Int32.toUInt32 31)).toInt32
def lush (x : Int64) (y : Int32) : Int64 := (x.toUInt64 >>> (y.toInt64.toUInt64 &&& Int64.toUInt64 63)).toInt64
def irm (x y : Int32) : Int32 := x - x / y * y
def lrm (x y : Int64) : Int64 := x - x / y * y
/-- what one instruction does, and on what conditions; none: nothing is said -/
def exec1 (X : RO) (e : Ent) (lv : LV) (st : List Value) (σ : Sg) : Res :=
  match e with
  | (pc, ins, len, a, b, d, zs) =>
  match ins with
  | .iload i => xld (isI (lget lv i)) (pc + len) lv st σ
  | .iload_n k => xld (isI (lget lv k.val)) (pc + len) lv st σ
  | .lload i => xld (isJ (lget lv i)) (pc + len) lv st σ
  | .lload_n k => xld (isJ (lget lv k.val)) (pc + len) lv st σ
  | .aload i => xld (isR (lget lv i)) (pc + len) lv st σ
  | .aload_n k => xld (isR (lget lv k.val)) (pc + len) lv st σ
  | .istore i => xst i (pc + len) lv st σ
  | .istore_n k => xst k.val (pc + len) lv st σ
  | .lstore i => xstl i (pc + len) lv st σ
  | .lstore_n k => xstl k.val (pc + len) lv st σ
  | .astore i => xsta i (pc + len) lv st σ
  | .astore_n k => xsta k.val (pc + len) lv st σ
  | .iinc i n => (match lget lv i with
    | some (.int x) => nx (pc + len) (lset1 lv i (.int (x + Int32.ofInt n))) st σ
    | _ => none)
  | .iconst n => nx (pc + len) lv (.int (Int32.ofInt n) :: st) σ
  | .bipush n => nx (pc + len) lv (.int (Int32.ofInt n) :: st) σ
  | .sipush n => nx (pc + len) lv (.int (Int32.ofInt n) :: st) σ
  | .ldc _ => (match zs with
    | z :: _ => nx (pc + len) lv (.int (Int32.ofInt z) :: st) σ
    | _ => none)
  | .ldc_w _ => (match zs with
    | z :: _ => nx (pc + len) lv (.int (Int32.ofInt z) :: st) σ
    | _ => none)
  | .ldc2_w _ => (match zs with
    | z :: _ => nx (pc + len) lv (.long (Int64.ofInt z) :: st) σ
    | _ => none)
  | .lconst n => nx (pc + len) lv (.long (Int64.ofNat n.val) :: st) σ
  | .iadd => x2i (fun x y => x + y) (pc + len) lv st σ
  | .isub => x2i (fun x y => x - y) (pc + len) lv st σ
  | .imul => x2i (fun x y => x * y) (pc + len) lv st σ
  | .iand => x2i (fun x y => x &&& y) (pc + len) lv st σ
  | .ior => x2i (fun x y => x ||| y) (pc + len) lv st σ
  | .ixor => x2i (fun x y => x ^^^ y) (pc + len) lv st σ
  | .ishl => x2i (fun x y => x <<< (y &&& 31)) (pc + len) lv st σ
  | .ishr => x2i (fun x y => x >>> (y &&& 31)) (pc + len) lv st σ
  | .iushr => x2i iush (pc + len) lv st σ
  | .idiv => x2ic (fun x y => x / y) (pc + len) lv st σ
  | .irem => x2ic irm (pc + len) lv st σ
  | .ineg => (match st with
    | .int x :: r => nx (pc + len) lv (.int (-x) :: r) σ
    | _ => none)
  | .ladd => x2l (fun x y => x + y) (pc + len) lv st σ
  | .lsub => x2l (fun x y => x - y) (pc + len) lv st σ
  | .lmul => x2l (fun x y => x * y) (pc + len) lv st σ
  | .ldiv => x2lc (fun x y => x / y) (pc + len) lv st σ
  | .lrem => x2lc lrm (pc + len) lv st σ
  | .lneg => (match st with
    | .long x :: r => nx (pc + len) lv (.long (-x) :: r) σ
    | _ => none)
  | .lushr => (match st with
    | .int y :: .long x :: r => nx (pc + len) lv (.long (lush x y) :: r) σ
    | _ => none)
  | .lcmp => (match st with
    | .long y :: .long x :: r => nx (pc + len) lv (.int (lg_cmp x y) :: r) σ
    | _ => none)
  | .i2l => (match st with
    | .int x :: r => nx (pc + len) lv (.long x.toInt64 :: r) σ
    | _ => none)
  | .l2i => (match st with
    | .long x :: r => nx (pc + len) lv (.int x.toInt32 :: r) σ
    | _ => none)
  | .ifCond .eq _ => xif (fun x => if x = 0 then a else pc + 3) lv st σ
  | .ifCond .ne _ => xif (fun x => if ¬ x = 0 then a else pc + 3) lv st σ
  | .ifCond .lt _ => xif (fun x => if x < 0 then a else pc + 3) lv st σ
  | .ifCond .ge _ => xif (fun x => if 0 ≤ x then a else pc + 3) lv st σ
  | .ifCond .gt _ => xif (fun x => if 0 < x then a else pc + 3) lv st σ
  | .ifCond .le _ => xif (fun x => if x ≤ 0 then a else pc + 3) lv st σ
  | .if_icmp .eq _ => xif2 (fun x y => if x = y then a else pc + 3) lv st σ
  | .if_icmp .ne _ => xif2 (fun x y => if ¬ x = y then a else pc + 3) lv st σ
  | .if_icmp .lt _ => xif2 (fun x y => if x < y then a else pc + 3) lv st σ
  | .if_icmp .ge _ => xif2 (fun x y => if y ≤ x then a else pc + 3) lv st σ
  | .if_icmp .gt _ => xif2 (fun x y => if y < x then a else pc + 3) lv st σ
  | .if_icmp .le _ => xif2 (fun x y => if x ≤ y then a else pc + 3) lv st σ
  | .goto _ => nx a lv st σ
  | .tableswitch _ lo _ _ => xif (fun x => swt x a lo zs) lv st σ
  | .dup => (match st with
    | v :: r => cx (v.category = 1) (pc + len) lv (v :: v :: r) σ
    | _ => none)
  | .dup2 => (match st with
    | v :: w :: r => cx (v.category = 1 ∧ w.category = 1) (pc + len) lv (v :: w :: v :: w :: r) σ
    | _ => none)
  | .iaload => (match st with
    | .int i :: .ref c :: r => bif d == 0 then cx (ck c = 0 ∧ vp_in i (al c)) (pc + len) lv (.int (σ.1 c i.toNatClampNeg) :: r) σ
        else bif d == 1 then cx ((1000 ≤ c ∧ c < 1005) ∧ vp_in i (sn c)) (pc + len) lv (.int (sv c i.toNatClampNeg) :: r) σ
        else (match X with
          | some x => cx (c = 2000 ∧ vp_in i x.1) (pc + len) lv (.int (x.2 i.toNatClampNeg) :: r) σ
          | none => none)
    | _ => none)
  | .laload => (match st with
    | .int i :: .ref c :: r => cx (ck c = 1 ∧ vp_in i (al c)) (pc + len) lv (.long (σ.2 c i.toNatClampNeg) :: r) σ
    | _ => none)
  | .baload => (match st with
    | .int i :: .ref c :: r => cx (ck c = 2 ∧ vp_in i (al c)) (pc + len) lv (.int (σ.1 c i.toNatClampNeg) :: r) σ
    | _ => none)
  | .aaload => (match st with
    | .int i :: .ref c :: r => cx ((ck c = 3 ∨ ck c = 4) ∧ vp_in i (al c)) (pc + len) lv (.ref (c + 1 + i.toNatClampNeg) :: r) σ
    | _ => none)
  | .iastore => (match st with
    | .int x :: .int i :: .ref c :: r => cx (ck c = 0 ∧ vp_in i (al c)) (pc + len) lv r (si σ c i.toNatClampNeg x)
    | _ => none)
  | .lastore => (match st with
    | .long x :: .int i :: .ref c :: r => cx (ck c = 1 ∧ vp_in i (al c)) (pc + len) lv r (sl σ c i.toNatClampNeg x)
    | _ => none)
  | .bastore => (match st with
    | .int x :: .int i :: .ref c :: r => cx (ck c = 2 ∧ vp_in i (al c)) (pc + len) lv r (si σ c i.toNatClampNeg (x &&& 1))
    | _ => none)
  | .arraylength => (match st with
    | .ref c :: r => bif d == 0 then cx (ck c < 5) (pc + len) lv (.int (Int32.ofNat (al c)) :: r) σ
        else bif d == 1 then cx (1000 ≤ c ∧ c < 1005) (pc + len) lv (.int (Int32.ofNat (sn c)) :: r) σ
        else (match X with
          | some x => cx (c = 2000) (pc + len) lv (.int (Int32.ofNat x.1) :: r) σ
          | none => none)
    | _ => none)
  | .getfield _ => (match st with
    | .ref c :: r => bif d == 1 then cx (ck c = 5 + a) (pc + len) lv (.long (σ.2 c b) :: r) σ
        else bif d == 2 then cx (ck c = 5 + a) (pc + len) lv (.ref (rf c b) :: r) σ
        else cx (ck c = 5 + a) (pc + len) lv (.int (σ.1 c b) :: r) σ
    | _ => none)
  | .putfield _ => (match st with
    | .int x :: .ref c :: r => bif d == 0 then cx (ck c = 5 + a) (pc + len) lv r (si σ c b x)
        else bif d == 3 then cx (ck c = 5 + a ∧ nb x) (pc + len) lv r (si σ c b x) else none
    | .long x :: .ref c :: r => bif d == 1 then cx (ck c = 5 + a) (pc + len) lv r (sl σ c b x) else none
    | _ => none)
  | .getstatic _ => nx (pc + len) lv (.ref a :: st) σ
  | .invokestatic _ => bif d == 7 then (match st with
      | .int n :: .int dp :: .ref c1 :: .int sp :: .ref c0 :: r => cx ((ck c0 = 0 ∧ ck c1 = 0 ∧ (r.map fun v => v.category).sum ≤ 8) ∧ (¬ sp < 0 ∧ ¬ dp < 0 ∧ ¬ n < 0) ∧ sp.toNatClampNeg + n.toNatClampNeg ≤ al c0 ∧ dp.toNatClampNeg + n.toNatClampNeg ≤ al c1) (pc + len) lv r (scp σ c0 c1 sp.toNatClampNeg dp.toNatClampNeg n.toNatClampNeg)
      | _ => none) else none
  | _ => none
/-- a row of instructions, one behind the other -/
def blk (X : RO) : List Ent → PS → Res
  | [], s => some ([], s)
  | e :: l, (pc, lv, st, σ) => bif e.1 == pc then
      (match exec1 X e lv st σ with
      | none => none
      | some (c1, s1) => (match blk X l s1 with
        | none => none
        | some (c2, s2) => some (c1 ++ c2, s2)))
    else none
/-- what a return gives back, and on what condition (a = 1: a boolean) -/
def retv (e : Ent) (st : List Value) : Option (Prop × Option Value) :=
  match e with
  | (_, ins, _, a, _, _, _) =>
  match ins with
  | .ireturn => (match st with
    | [.int x] => bif a == 1 then some (nb x, some (.int x)) else some (True, some (.int x))
    | _ => none)
  | .lreturn => (match st with
    | [.long x] => some (True, some (.long x))
    | _ => none)
  | .areturn => (match st with
    | [.ref x] => some (True, some (.ref x))
    | _ => none)
  | .return_ => (match st with
    | [] => some (True, none)
    | _ => none)
  | _ => none
/-- the arguments of a call (the object first), what is left, on what condition: n values; k: the object's class, 0 for a static one -/
def popn : Nat → List Value → List Value → Option (List Value × List Value)
  | 0, acc, st => some (acc, st)
  | n + 1, acc, v :: st => popn n (v :: acc) st
  | _ + 1, _, [] => none
def icall (e : Ent) (st : List Value) : Option (Prop × List Value × List Value) :=
  match e with
  | (_, ins, _, _, b, d, _) =>
  match ins with
  | .invokestatic _ => bif d == 7 then none else (match popn b [] st with
    | some (as, r) => some ((r.map fun v => v.category).sum ≤ 8, as, r)
    | none => none)
  | .invokevirtual _ => (match popn b [] st with
    | some (as, .ref c :: r) => some (ck c = 5 + d ∧ (r.map fun v => v.category).sum ≤ 8, .ref c :: as, r)
    | _ => none)
  | _ => none
abbrev Env1 : Type := Nat → List Value → Sg → (Option Value → Sg → Prop) → Prop
/-- from here the method returns, with Q; G: what its calls do; cs: its rows -/
def Rch (X : RO) (G : Env1) (cs : List (List Ent)) (Q : Option Value → Sg → Prop) : Nat → PS → Prop
  | 0, _ => False
  | n + 1, (pc, lv, st, σ) =>
    (∃ (k : Nat) (l : List Ent) (c : List Prop) (s2 : PS), cs[k]? = some l ∧ blk X l (pc, lv, st, σ) = some (c, s2) ∧ conj c ∧ Rch X G cs Q n s2) ∨
    (∃ (ks : List Nat) (lv2 : LV), lv_pick lv ks = lv2 ∧ Rch X G cs Q n (pc, lv2, st, σ)) ∨
    (∃ (k : Nat) (e : Ent) (c : Prop) (as r : List Value), cs[k]? = some [e] ∧ e.1 = pc ∧ icall e st = some (c, as, r) ∧ c ∧ G e.2.2.2.1 as σ (fun v σ2 => Rch X G cs Q n (pc + 3, lv, v.toList ++ r, σ2))) ∨
    (∃ (k : Nat) (e : Ent) (c : Prop) (v : Option Value), cs[k]? = some [e] ∧ e.1 = pc ∧ retv e st = some (c, v) ∧ c ∧ Q v σ)
theorem Rch.mono {X : RO} {G G2 : Env1} {cs : List (List Ent)} {Q Q2 : Option Value → Sg → Prop} (hQ : ∀ v σ, Q v σ → Q2 v σ) (hG : ∀ m as σ P P2, (∀ v σ, P v σ → P2 v σ) → G m as σ P → G2 m as σ P2) : ∀ (n : Nat) (s : PS), Rch X G cs Q n s → Rch X G2 cs Q2 n s := by
  intro n
  induction n with
  | zero => intro s h; exact h.elim
  | succ n ih =>
    intro s h
    obtain ⟨pc, lv, st, σ⟩ := s
    rcases h with ⟨k, l, c, s2, h1, h2, h3, h4⟩ | ⟨ks, lv2, h1, h2⟩ | ⟨k, e, c, as, r, h1, h2, h3, h4, h5⟩ | ⟨k, e, c, v, h1, h2, h3, h4, h5⟩
    · exact Or.inl ⟨k, l, c, s2, h1, h2, h3, ih _ h4⟩
    · exact Or.inr (Or.inl ⟨ks, lv2, h1, ih _ h2⟩)
    · exact Or.inr (Or.inr (Or.inl ⟨k, e, c, as, r, h1, h2, h3, h4, hG _ _ _ _ _ (fun v σ2 h => ih _ h) h5⟩))
    · exact Or.inr (Or.inr (Or.inr ⟨k, e, c, v, h1, h2, h3, h4, hQ _ _ h5⟩))
theorem Rch.up {X : RO} {G : Env1} {cs : List (List Ent)} {Q : Option Value → Sg → Prop} (hG : ∀ m as σ P P2, (∀ v σ, P v σ → P2 v σ) → G m as σ P → G m as σ P2) : ∀ (n : Nat) (s : PS), Rch X G cs Q n s → Rch X G cs Q (n + 1) s := by
  intro n
  induction n with
  | zero => intro s h; exact h.elim
  | succ n ih =>
    intro s h
    obtain ⟨pc, lv, st, σ⟩ := s
    rcases h with ⟨k, l, c, s2, h1, h2, h3, h4⟩ | ⟨ks, lv2, h1, h2⟩ | ⟨k, e, c, as, r, h1, h2, h3, h4, h5⟩ | ⟨k, e, c, v, h1, h2, h3, h4, h5⟩
    · exact Or.inl ⟨k, l, c, s2, h1, h2, h3, ih _ h4⟩
    · exact Or.inr (Or.inl ⟨ks, lv2, h1, ih _ h2⟩)
    · exact Or.inr (Or.inr (Or.inl ⟨k, e, c, as, r, h1, h2, h3, h4, hG _ _ _ _ _ (fun v σ2 h => ih _ h) h5⟩))
    · exact Or.inr (Or.inr (Or.inr ⟨k, e, c, v, h1, h2, h3, h4, h5⟩))
/-- somehow, in some number of steps -/
def Rc (X : RO) (G : Env1) (cs : List (List Ent)) (s : PS) (Q : Option Value → Sg → Prop) : Prop := ∃ n, Rch X G cs Q n s
theorem Rc.blk {X : RO} {G : Env1} {cs : List (List Ent)} {Q : Option Value → Sg → Prop} {pc : Nat} {lv : LV} {st : List Value} {σ : Sg} (k : Nat) {l : List Ent} {c : List Prop} {s2 : PS} (h1 : cs[k]? = some l) (h2 : blk X l (pc, lv, st, σ) = some (c, s2)) (h3 : conj c) (h4 : Rc X G cs s2 Q) : Rc X G cs (pc, lv, st, σ) Q := by
  obtain ⟨n, h⟩ := h4
  exact ⟨n + 1, Or.inl ⟨k, l, c, s2, h1, h2, h3, h⟩⟩
theorem Rc.pick {X : RO} {G : Env1} {cs : List (List Ent)} {Q : Option Value → Sg → Prop} {pc : Nat} {lv lv2 : LV} {st : List Value} {σ : Sg} (ks : List Nat) (h1 : lv_pick lv ks = lv2) (h2 : Rc X G cs (pc, lv2, st, σ) Q) : Rc X G cs (pc, lv, st, σ) Q := by
  obtain ⟨n, h⟩ := h2
  exact ⟨n + 1, Or.inr (Or.inl ⟨ks, lv2, h1, h⟩)⟩
theorem Rc.ret {X : RO} {G : Env1} {cs : List (List Ent)} {Q : Option Value → Sg → Prop} {pc : Nat} {lv : LV} {st : List Value} {σ : Sg} (k : Nat) {e : Ent} {c : Prop} {v : Option Value} (h1 : cs[k]? = some [e]) (h2 : e.1 = pc) (h3 : retv e st = some (c, v)) (h4 : c) (h5 : Q v σ) : Rc X G cs (pc, lv, st, σ) Q := ⟨1, Or.inr (Or.inr (Or.inr ⟨k, e, c, v, h1, h2, h3, h4, h5⟩))⟩
/-- a call whose answer is known -/
theorem Rc.call {X : RO} {G : Env1} {cs : List (List Ent)} {Q : Option Value → Sg → Prop} (hG : ∀ m as σ P P2, (∀ v σ, P v σ → P2 v σ) → G m as σ P → G m as σ P2) {pc : Nat} {lv : LV} {st : List Value} {σ : Sg} (k : Nat) {e : Ent} {c : Prop} {as r : List Value} {mi : Nat} {v : Option Value} {σ2 : Sg} (h1 : cs[k]? = some [e]) (h2 : e.1 = pc) (hm : e.2.2.2.1 = mi) (h3 : icall e st = some (c, as, r)) (h4 : c) (h5 : G mi as σ (fun v' σ' => v' = v ∧ σ' = σ2)) (h6 : Rc X G cs (pc + 3, lv, v.toList ++ r, σ2) Q) : Rc X G cs (pc, lv, st, σ) Q := by
  obtain ⟨n, h⟩ := h6
  subst hm
  exact ⟨n + 1, Or.inr (Or.inr (Or.inl ⟨k, e, c, as, r, h1, h2, h3, h4, hG _ _ _ _ _ (fun v' σ' hh => by obtain ⟨rfl, rfl⟩ := hh; exact h) h5⟩))⟩
end
